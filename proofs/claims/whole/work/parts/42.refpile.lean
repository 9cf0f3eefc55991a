/-! The reference's piles: why, opens, makes. -/
def ua (A : Int → Int) (e v : Int) : Int → Int := fun e1 => if e1 = e then v else A e1
theorem ua_eq (A : Int → Int) (e v : Int) : ua A e v e = v := if_pos rfl
theorem ua_eqi {A : Int → Int} {e e1 v : Int} (h : e1 = e) : ua A e v e1 = v := if_pos h
theorem ua_ne {A : Int → Int} {e e1 v : Int} (h : e1 ≠ e) : ua A e v e1 = A e1 := if_neg h
def sR (M : ZM) (j : Nat) (A : Int → Int) : ZM := fun j1 => if j1 = j then A else M j1
theorem sR_eq (M : ZM) (j : Nat) (A : Int → Int) : sR M j A j = A := if_pos rfl
theorem sR_ne {M : ZM} {j j1 : Nat} {A : Int → Int} (h : j1 ≠ j) : sR M j A j1 = M j1 := if_neg h
theorem uM_row (M : ZM) (j : Nat) (e v : Int) : uM M j e v = sR M j (ua (M j) e v) := by
  funext j1 e1
  unfold uM sR ua
  by_cases h : j1 = j
  · subst h; simp
  · simp [h]
theorem uM_sR (M : ZM) (j : Nat) (A : Int → Int) (e v : Int) : uM (sR M j A) j e v = sR M j (ua A e v) := by
  rw [uM_row, sR_eq]
  funext j1
  unfold sR
  split <;> rfl
theorem sR_self (M : ZM) (j : Nat) : sR M j (M j) = M := by
  funext j1
  unfold sR
  split
  · rename_i h; rw [h]
  · rfl
theorem sR_sR (M : ZM) (j : Nat) (A B : Int → Int) : sR (sR M j A) j B = sR M j B := by
  funext j1
  unfold sR
  split <;> rfl
def wl (A : Int → Int) : List Int → Int → Int
  | [] => A
  | x :: xs => wl (ua (ua A (811 + A 809) x) 809 (A 809 + 1)) xs
theorem wl_app (A : Int → Int) (l m : List Int) : wl A (l ++ m) = wl (wl A l) m := by
  induction l generalizing A with
  | nil => rfl
  | cons x xs ih => exact ih _
theorem wl_cnt (A : Int → Int) (l : List Int) (h : 0 ≤ A 809) : wl A l 809 = A 809 + l.length := by
  induction l generalizing A with
  | nil => simp [wl]
  | cons x xs ih =>
    show wl (ua (ua A (811 + A 809) x) 809 (A 809 + 1)) xs 809 = _
    rw [ih _ (by rw [ua_eq]; omega), ua_eq, List.length_cons]
    omega
theorem wl_out {A : Int → Int} {l : List Int} {e : Int} (h : 0 ≤ A 809) (he : e < 809 ∨ e = 810 ∨ 811 + A 809 + l.length ≤ e) : wl A l e = A e := by
  induction l generalizing A with
  | nil => rfl
  | cons x xs ih =>
    rw [List.length_cons] at he
    show wl (ua (ua A (811 + A 809) x) 809 (A 809 + 1)) xs e = _
    rw [ih (by rw [ua_eq]; omega) (by rw [ua_eq]; omega), ua_ne (by omega), ua_ne (by omega)]
theorem wl_old {A : Int → Int} {l : List Int} {e : Int} (h : 0 ≤ A 809) (he : 811 ≤ e) (h2 : e < 811 + A 809) : wl A l e = A e := by
  induction l generalizing A with
  | nil => rfl
  | cons x xs ih =>
    show wl (ua (ua A (811 + A 809) x) 809 (A 809 + 1)) xs e = _
    rw [ih (by rw [ua_eq]; omega) (by rw [ua_eq]; omega), ua_ne (by omega), ua_ne (by omega)]
theorem wl_at {A : Int → Int} {l : List Int} {i : Nat} {x : Int} (h : 0 ≤ A 809) (hi : l[i]? = some x) : wl A l (811 + A 809 + i) = x := by
  induction l generalizing A i with
  | nil => simp at hi
  | cons y ys ih =>
    show wl (ua (ua A (811 + A 809) y) 809 (A 809 + 1)) ys _ = _
    cases i with
    | zero =>
      simp only [List.getElem?_cons_zero, Option.some.injEq] at hi
      subst hi
      rw [wl_old (by rw [ua_eq]; omega) (by omega) (by rw [ua_eq]; omega), ua_ne (by omega), ua_eqi (by omega)]
    | succ i =>
      simp only [List.getElem?_cons_succ] at hi
      have := ih (A := ua (ua A (811 + A 809) y) 809 (A 809 + 1)) (by rw [ua_eq]; omega) hi
      rw [ua_eq] at this
      rw [show (811 + A 809 + ((i + 1 : Nat) : Int)) = 811 + (A 809 + 1) + (i : Int) by omega]
      exact this
def seg (f : Int → Int) : Nat → Int → List Int
  | 0, _ => []
  | n + 1, i => f i :: seg f n (i + 1)
theorem seg_len (f : Int → Int) : ∀ (n : Nat) (i : Int), (seg f n i).length = n
  | 0, _ => rfl
  | n + 1, i => by rw [seg, List.length_cons, seg_len f n]
theorem seg_snoc (f : Int → Int) : ∀ (n : Nat) (i : Int), seg f (n + 1) i = seg f n i ++ [f (i + n)]
  | 0, i => by simp [seg]
  | n + 1, i => by
    rw [seg, seg_snoc f n (i + 1), seg, List.cons_append, show i + 1 + (n : Int) = i + ((n + 1 : Nat) : Int) by omega]
theorem seg_mem (f : Int → Int) (x : Int) : ∀ (n : Nat) (i : Int), x ∈ seg f n i ↔ ∃ j, i ≤ j ∧ j < i + n ∧ f j = x
  | 0, i => by
    constructor
    · intro h; cases h
    · rintro ⟨j, h1, h2, -⟩; omega
  | n + 1, i => by
    rw [seg, List.mem_cons, seg_mem f x n (i + 1)]
    constructor
    · rintro (rfl | ⟨j, h1, h2, h3⟩)
      · exact ⟨i, by omega, by omega, rfl⟩
      · exact ⟨j, by omega, by omega, h3⟩
    · rintro ⟨j, h1, h2, h3⟩
      by_cases e : j = i
      · subst e; exact Or.inl h3.symm
      · exact Or.inr ⟨j, by omega, by omega, h3⟩
theorem seg_cong {f g : Int → Int} : ∀ (n : Nat) (i : Int), (∀ j, i ≤ j → j < i + n → f j = g j) → seg f n i = seg g n i
  | 0, _, _ => rfl
  | n + 1, i, h => by
    rw [seg, seg, h i (by omega) (by omega), seg_cong n (i + 1) (fun j h1 h2 => h j (by omega) (by omega))]
theorem seg_at (f : Int → Int) : ∀ (n : Nat) (i : Int) (k : Nat), k < n → (seg f n i)[k]? = some (f (i + k))
  | 0, _, _, h => by omega
  | n + 1, i, 0, _ => by simp [seg]
  | n + 1, i, k + 1, h => by
    rw [seg, List.getElem?_cons_succ, seg_at f n (i + 1) k (by omega), show i + 1 + (k : Int) = i + ((k + 1 : Nat) : Int) by omega]
section RR
variable {M : ZM} {w : Int64} {F : Nat}
theorem x_whyAlso {p : Int} (h : 0 ≤ M 1 809) (h2 : M 1 809 < 80) : p_X11_whyAlso F (zt p) (LI M) w = some (LI (sR M 1 (wl (M 1) [p])), w) := by
  unfold p_X11_whyAlso
  simp (disch := omega) only [zt_lit, zt_add, mI_z, mS_z, ob_z, uM_nei]
  rw [uM_row M, uM_sR]
  rfl
theorem x_isOnWay {p : Int} {n : Nat} (hF : 20 < F) (hp : 0 ≤ p ∧ p < 12) (hw : M 0 26 = n) (hn : n ≤ 12) (hr : ∀ i, 0 ≤ i → i < (n : Int) → 0 ≤ M 9 i ∧ M 9 i < 12) : p_X11_isOnWay F (zt p) (LI M) w = some (zt (if p ∈ seg (M 9) n 0 then 1 else 0)) := by
  unfold p_X11_isOnWay
  refine (fix_ind (fun k (r : Int32 → Option Int32) => ∀ (c : Nat) (i : Int), 0 ≤ i → i + c = n → c < k → r (zt i) = some (zt (if p ∈ seg (M 9) c i then 1 else 0))) ?_ ?_ F) n 0 (by omega) (by omega) (by omega)
  · intro c i _ _ h; omega
  · intro k r ih c i hi hc hk
    unfold pb_X11_isOnWay_2
    have e26 : LI M 0 26 = zt n := by rw [← hw]; rfl
    rw [e26]
    cases c with
    | zero =>
      simp (disch := omega) only [zt_lit, zt_le, rP_z0, seg, List.not_mem_nil, if_false]
      rw [if_pos (by omega)]
    | succ c =>
      have hb := hr i (by omega) (by omega)
      simp (disch := omega) only [zt_lit, zt_le, mI_z, ob_z, zt_eq, zt_add, rP_z0, rP_z1, seg, List.mem_cons]
      rw [if_neg (by omega), ih c (i + 1) (by omega) (by omega) (by omega)]
      by_cases q2 : M 9 i = p
      · rw [if_pos q2, if_pos (Or.inl q2.symm)]
      · rw [if_neg q2]
        have e : (p = M 9 i ∨ p ∈ seg (M 9) c (i + 1)) ↔ p ∈ seg (M 9) c (i + 1) := ⟨fun h => h.resolve_left (fun q => q2 q.symm), Or.inr⟩
        simp only [e]
end RR
