/-! The reference's piles: why, opens, makes. -/
def ua (A : Int → Int) (e v : Int) : Int → Int := fun e1 => if e1 = e then v else A e1
theorem ua_eq (A : Int → Int) (e v : Int) : ua A e v e = v := if_pos rfl
theorem ua_eqi {A : Int → Int} {e e1 v : Int} (h : e1 = e) : ua A e v e1 = v := if_pos h
theorem ua_ne {A : Int → Int} {e e1 v : Int} (h : e1 ≠ e) : ua A e v e1 = A e1 := if_neg h
def sR (M : ZM) (j : Nat) (A : Int → Int) : ZM := fun j1 => if j1 = j then A else M j1
theorem sR_eq (M : ZM) (j : Nat) (A : Int → Int) : sR M j A j = A := if_pos rfl
theorem sR_ne {M : ZM} {j j1 : Nat} {A : Int → Int} (h : j1 ≠ j) : sR M j A j1 = M j1 := if_neg h
theorem uM_row (M : ZM) (j : Nat) (e v : Int) : uM M j e v = sR M j (ua (M j) e v) := by
  funext j1 e1
  unfold uM sR ua
  by_cases h : j1 = j
  · subst h; simp
  · simp [h]
theorem uM_sR (M : ZM) (j : Nat) (A : Int → Int) (e v : Int) : uM (sR M j A) j e v = sR M j (ua A e v) := by
  rw [uM_row, sR_eq]
  funext j1
  unfold sR
  split <;> rfl
theorem sR_self (M : ZM) (j : Nat) : sR M j (M j) = M := by
  funext j1
  unfold sR
  split
  · rename_i h; rw [h]
  · rfl
theorem sR_sR (M : ZM) (j : Nat) (A B : Int → Int) : sR (sR M j A) j B = sR M j B := by
  funext j1
  unfold sR
  split <;> rfl
def wl (A : Int → Int) : List Int → Int → Int
  | [] => A
  | x :: xs => wl (ua (ua A (811 + A 809) x) 809 (A 809 + 1)) xs
theorem wl_app (A : Int → Int) (l m : List Int) : wl A (l ++ m) = wl (wl A l) m := by
  induction l generalizing A with
  | nil => rfl
  | cons x xs ih => exact ih _
theorem wl_cnt (A : Int → Int) (l : List Int) (h : 0 ≤ A 809) : wl A l 809 = A 809 + l.length := by
  induction l generalizing A with
  | nil => simp [wl]
  | cons x xs ih =>
    show wl (ua (ua A (811 + A 809) x) 809 (A 809 + 1)) xs 809 = _
    rw [ih _ (by rw [ua_eq]; omega), ua_eq, List.length_cons]
    omega
theorem wl_out {A : Int → Int} {l : List Int} {e : Int} (h : 0 ≤ A 809) (he : e < 809 ∨ e = 810 ∨ 811 + A 809 + l.length ≤ e) : wl A l e = A e := by
  induction l generalizing A with
  | nil => rfl
  | cons x xs ih =>
    rw [List.length_cons] at he
    show wl (ua (ua A (811 + A 809) x) 809 (A 809 + 1)) xs e = _
    rw [ih (by rw [ua_eq]; omega) (by rw [ua_eq]; omega), ua_ne (by omega), ua_ne (by omega)]
theorem wl_old {A : Int → Int} {l : List Int} {e : Int} (h : 0 ≤ A 809) (he : 811 ≤ e) (h2 : e < 811 + A 809) : wl A l e = A e := by
  induction l generalizing A with
  | nil => rfl
  | cons x xs ih =>
    show wl (ua (ua A (811 + A 809) x) 809 (A 809 + 1)) xs e = _
    rw [ih (by rw [ua_eq]; omega) (by rw [ua_eq]; omega), ua_ne (by omega), ua_ne (by omega)]
theorem wl_at {A : Int → Int} {l : List Int} {i : Nat} {x : Int} (h : 0 ≤ A 809) (hi : l[i]? = some x) : wl A l (811 + A 809 + i) = x := by
  induction l generalizing A i with
  | nil => simp at hi
  | cons y ys ih =>
    show wl (ua (ua A (811 + A 809) y) 809 (A 809 + 1)) ys _ = _
    cases i with
    | zero =>
      simp only [List.getElem?_cons_zero, Option.some.injEq] at hi
      subst hi
      rw [wl_old (by rw [ua_eq]; omega) (by omega) (by rw [ua_eq]; omega), ua_ne (by omega), ua_eqi (by omega)]
    | succ i =>
      simp only [List.getElem?_cons_succ] at hi
      have := ih (A := ua (ua A (811 + A 809) y) 809 (A 809 + 1)) (by rw [ua_eq]; omega) hi
      rw [ua_eq] at this
      rw [show (811 + A 809 + ((i + 1 : Nat) : Int)) = 811 + (A 809 + 1) + (i : Int) by omega]
      exact this
section RR
variable {M : ZM} {w : Int64} {F : Nat}
theorem x_whyAlso {p : Int} (h : 0 ≤ M 1 809) (h2 : M 1 809 < 80) : p_X11_whyAlso F (zt p) (LI M) w = some (LI (sR M 1 (wl (M 1) [p])), w) := by
  unfold p_X11_whyAlso
  simp (disch := omega) only [zt_lit, zt_add, mI_z, mS_z, ob_z, uM_nei]
  rw [uM_row M, uM_sR]
  rfl
theorem x_isOnWay {p : Int} {n : Nat} (hF : 20 < F) (hp : 0 ≤ p ∧ p < 12) (hw : M 0 26 = n) (hn : n ≤ 12) (hr : ∀ i, 0 ≤ i → i < (n : Int) → 0 ≤ M 9 i ∧ M 9 i < 12) : p_X11_isOnWay F (zt p) (LI M) w = some (zt (if p ∈ (List.range n).map (fun i => M 9 (i : Int)) then 1 else 0)) := by
  unfold p_X11_isOnWay
  refine (fix_ind (fun k (r : Int32 → Option Int32) => ∀ (i : Nat), i ≤ n → n - i < k → r (zt i) = some (zt (if ∃ j, i ≤ j ∧ j < n ∧ M 9 (j : Int) = p then 1 else 0))) ?_ ?_ F) 0 (by omega) (by omega) |> fun h => ?_
  · intro i _ h; omega
  · intro k r ih i hi hk
    unfold pb_X11_isOnWay_2
    simp (disch := omega) only [zt_lit, LI_at, Nat.cast_ofNat, Int.cast_ofNat_Int, zt_le, hw]
    by_cases q : n = i
    · rw [if_pos (by omega), if_neg (by rintro ⟨j, h1, h2, -⟩; omega)]
      rfl
    · have hb := hr i (by omega) (by omega)
      rw [if_neg (by omega)]
      simp (disch := omega) only [mI_z, ob_z, zt_eq, zt_add, rP_z1]
      by_cases q2 : M 9 (i : Int) = p
      · rw [if_pos q2, if_pos ⟨i, by omega, by omega, q2⟩]
      · rw [if_neg q2, show (i : Int) + 1 = ((i + 1 : Nat) : Int) by omega, ih (i + 1) (by omega) (by omega)]
        congr 2
        apply if_congr _ rfl rfl
        constructor
        · rintro ⟨j, h1, h2, h3⟩; exact ⟨j, by omega, h2, h3⟩
        · rintro ⟨j, h1, h2, h3⟩
          by_cases e : j = i
          · subst e; exact absurd h3 q2
          · exact ⟨j, by omega, h2, h3⟩
  · rw [show ((0 : Nat) : Int) = 0 from rfl] at h
    refine Eq.trans h ?_
    congr 2
    apply if_congr _ rfl rfl
    rw [List.mem_map]
    constructor
    · rintro ⟨j, -, h2, h3⟩; exact ⟨j, List.mem_range.mpr h2, h3⟩
    · rintro ⟨j, h2, h3⟩; exact ⟨j, by omega, List.mem_range.mp h2, h3⟩
end RR
