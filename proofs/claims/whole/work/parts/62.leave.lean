/-! A scope is left: the reference's whole way, and the class's. -/
def LvS (A A1 : Int → Int) : Prop := (∀ e, e < 145 ∨ 809 ≤ e → A1 e = A e) ∧ A1 145 = (if A 145 = 0 then 0 else A 145 - 1) ∧ (∀ s p, 0 ≤ s → s ≤ 4 → 0 ≤ p → p < 12 → A1 (146 + 12 * s + p) = if s = A 145 then 0 else A (146 + 12 * s + p)) ∧ A1 206 = rk A (A 145) (A 206).toNat ∧
  (∀ u : Nat, (u : Int) < A 206 → A (207 + 8 * (u : Int) + 1) ≠ A 145 → (∀ i, 0 ≤ i → i < 4 → A1 (207 + 8 * rk A (A 145) u + i) = A (207 + 8 * (u : Int) + i)) ∧ ∀ i, 0 ≤ i → i < 4 → A1 (207 + 8 * rk A (A 145) u + (4 + i)) = if A (207 + 8 * (u : Int) + (4 + i)) = 0 then 0 else plc A (A 145) (A (207 + 8 * (u : Int) + (4 + i)) - 1)) ∧
  A1 687 = (elS A (A 145) (A 206).toNat).length ∧ (∀ (i : Nat) (x : Int), (elS A (A 145) (A 206).toNat)[i]? = some x → A1 (688 + i) = x) ∧ A1 748 = ((elS A (A 145) (A 206).toNat).filter (bd A)).length ∧ ∀ (i : Nat) (x : Int), ((elS A (A 145) (A 206).toNat).filter (bd A))[i]? = some x → A1 (749 + i) = x
theorem rk_cong {A C : Int → Int} {S : Int} (h : ∀ e, e < 687 → C e = A e) : ∀ n : Nat, n ≤ 60 → rk C S n = rk A S n
  | 0, _ => rfl
  | n + 1, hn => by
    unfold rk
    rw [rk_cong h n (by omega), h _ (by omega)]
theorem plc_cong {A C : Int → Int} {S u : Int} (h : ∀ e, e < 687 → C e = A e) (hu : 0 ≤ u ∧ u < 60) : plc C S u = plc A S u := by
  unfold plc
  rw [rk_cong h _ (by omega), h _ (by omega)]
section RR
variable {w : Int64} {F : Nat}
theorem x_lv79 {S : Int} (hS : 0 ≤ S ∧ S ≤ 4) : ∀ (c : Nat) (k : Int) (M : ZM) (K : Nat), k + c = 12 → 0 ≤ k → c < K →
    ∃ M1, fixN (fun _ _ _ => none) (pb_X11_leave_79 F (zt S)) K (zt k) (LI M) w = pk_X11_leave_107 F (zt S) (LI M1) w ∧ (∀ i, k ≤ i → i < 12 → M1 1 (146 + 12 * S + i) = 0) ∧ (∀ e, e < 146 + 12 * S + k ∨ 146 + 12 * S + 12 ≤ e → M1 1 e = M 1 e) ∧ ∀ j, j ≠ 1 → M1 j = M j := by
  intro c
  induction c with
  | zero =>
    intro k M K hk hk0 hK
    obtain ⟨g, rfl⟩ : ∃ g, K = g + 1 := ⟨K - 1, by omega⟩
    rw [fix_succ]
    refine ⟨M, ?_, fun i a b => by omega, fun _ _ => rfl, fun _ _ => rfl⟩
    unfold pb_X11_leave_79
    simp (disch := omega) only [zt_lit, zt_le]
    rw [if_pos (by omega)]
  | succ c ih =>
    intro k M K hk hk0 hK
    obtain ⟨g, rfl⟩ : ∃ g, K = g + 1 := ⟨K - 1, by omega⟩
    rw [fix_succ]
    generalize hr : fixN (fun _ _ _ => none) (pb_X11_leave_79 F (zt S)) g = r
    unfold pb_X11_leave_79
    simp (disch := omega) only [zt_lit, zt_le, zt_mul, zt_add, mS_z, ob_z]
    rw [if_neg (by omega), ← hr]
    obtain ⟨M1, a1, a2, a3, a4⟩ := ih (k + 1) (uM M 1 (146 + 12 * S + k) 0) g (by omega) (by omega) (by omega)
    refine ⟨M1, a1, fun i b1 b2 => ?_, fun e he => ?_, fun j hj => ?_⟩
    · by_cases e : i = k
      · subst e; rw [a3 _ (by omega), uM_eq]
      · exact a2 i (by omega) b2
    · rw [a3 e (by omega), uM_nei (by omega)]
    · rw [a4 j hj]; funext e; exact uM_ne hj
theorem x_leaveK {B : Int} {M0 M : ZM} (hF : 200 < F) (hA : FI B (M 1) 0) (hk : p_X11_keeps F (LI (uM M0 0 0 0)) w = some (LI M, w)) :
    ∃ M1, p_X11_leave F (LI M0) w = some (zt (elS (M 1) (M 1 145) (M 1 206).toNat).length, LI M1, w) ∧ LvS (M 1) (M1 1) ∧ ∀ j, j ≠ 1 → j ≠ 16 → M1 j = M j := by
  have hm := hA.2.2.1.1
  have hc := hA.1.1
  have hS := hA.2.1.1
  have hz : up2 (LI M0) 0 0 (zt 0) = LI (uM M0 0 0 0) := up2_z M0 0 0 0
  unfold p_X11_leave
  rw [show (0 : Int32) = zt 0 from rfl, hz, gnm_z, hk, pcU_z]
  simp (disch := omega) only [zt_lit, mI_z, mS_z, ob_z, uM_nei, zt_sub, gnm_z]
  have hE0 : Ends (M 1) [] (uM (uM M 1 687 0) 1 748 0 1) := ⟨by rw [uM_nei (by omega), uM_eq]; rfl, fun i x h => by simp at h, by rw [uM_eq]; rfl, fun i x h => by simp at h, fun e he => by rw [uM_nei (by omega), uM_nei (by omega)]⟩
  obtain ⟨M2, a1, a2, a3⟩ := x_lv47 (w := w) (F := F) (M0 := M) (A := M 1) (S := M 1 145) hS hA.1 hA.2.2.1 (M 1 206).toNat [] (uM (uM M 1 687 0) 1 748 0) F (by omega) (by simp; omega) hE0 (fun j hj => by funext e; rw [uM_ne hj, uM_ne hj]) (by omega)
  rw [show (((M 1 206).toNat : Nat) : Int) - 1 = M 1 206 - 1 by omega] at a1
  rw [List.nil_append] at a2
  rw [a1]
  have hcg : ∀ e, e < 687 → M2 1 e = M 1 e := fun e he => a2.2.2.2.2 e (by omega)
  have hA2 : FI B (M2 1) 0 := hA.cong hcg
  obtain ⟨M3, b1, b2, b3, b4, b5⟩ := x_comesUp (w := w) (F := F) (M := M2) (S := M 1 145) (by omega) hS hA2.2.2.1
  unfold pk_X11_leave_72
  rw [b1, pcU_z]
  obtain ⟨M4, c1, c2, c3, c4⟩ := x_lv79 (w := w) (F := F) (S := M 1 145) hS 12 0 M3 F (by omega) (by omega) (by omega)
  rw [show (0 : Int32) = zt 0 from rfl, c1]
  have h6 : M2 1 206 = M 1 206 := hcg 206 (by omega)
  have h87 : M4 1 687 = (elS (M 1) (M 1 145) (M 1 206).toNat).length := by rw [c3 687 (by omega), b2 687 (by omega)]; exact a2.1
  have hel := elS_len (M 1) (M 1 145) (M 1 206).toNat
  have hrk : ∀ n : Nat, n ≤ 60 → rk (M2 1) (M 1 145) n = rk (M 1) (M 1 145) n := fun n hn => rk_cong hcg n hn
  have hrl := rk_le (M 1) (M 1 145) (M 1 206).toNat
  have hspec : ∀ v : Int, v = (if M 1 145 = 0 then 0 else M 1 145 - 1) → LvS (M 1) (uM M4 1 145 v 1) := by
    intro v hv
    have hu : ∀ e, e ≠ 145 → uM M4 1 145 v 1 e = M4 1 e := fun e he => uM_nei he
    have h48 : M4 1 748 = ((elS (M 1) (M 1 145) (M 1 206).toNat).filter (bd (M 1))).length := by rw [c3 748 (by omega), b2 748 (by omega)]; exact a2.2.2.1
    refine ⟨fun e he => ?_, by rw [uM_eq, hv], fun s p d1 d2 d3 d4 => ?_, ?_, fun u h1 h2 => ⟨fun i d1 d2 => ?_, fun i d1 d2 => ?_⟩, by rw [hu _ (by omega)]; exact h87, fun i x hx => ?_, by rw [hu _ (by omega)]; exact h48, fun i x hx => ?_⟩
    · rw [hu e (by omega), c3 e (by omega), b2 e (by omega)]; exact a2.2.2.2.2 e (by omega)
    · rw [hu _ (by omega)]
      by_cases q : s = M 1 145
      · subst q; rw [if_pos rfl]; exact c2 p d3 d4
      · rw [if_neg q, c3 _ (by omega), b2 _ (by omega)]; exact hcg _ (by omega)
    · rw [hu _ (by omega), c3 _ (by omega), b3, h6, hrk _ (by omega)]
    · have hru := rk_le (M 1) (M 1 145) u
      have := (b4 u (by omega) (by rw [hcg _ (by omega)]; exact h2)).1 i d1 d2
      rw [hrk u (by omega), hcg _ (by omega)] at this
      rw [hu _ (by omega), c3 _ (by omega)]; exact this
    · have hru := rk_le (M 1) (M 1 145) u
      have := (b4 u (by omega) (by rw [hcg _ (by omega)]; exact h2)).2 i d1 d2
      rw [hrk u (by omega), hcg _ (by omega)] at this
      rw [hu _ (by omega), c3 _ (by omega), this]
      have hw := (hA.2.2.1.2 u (by omega) h1).2.2.2 i d1 d2
      by_cases q : M 1 (207 + 8 * (u : Int) + (4 + i)) = 0
      · rw [if_pos q, if_pos q]
      · rw [if_neg q, if_neg q, plc_cong hcg (by omega)]
    · have := at_lt hx
      rw [hu _ (by omega), c3 _ (by omega), b2 _ (by omega)]; exact a2.2.1 i x hx
    · rw [hu _ (by omega), c3 _ (by omega), b2 _ (by omega)]; exact a2.2.2.2.1 i x hx
  have hrows : ∀ v : Int, ∀ j, j ≠ 1 → j ≠ 16 → uM M4 1 145 v j = M j := fun v j h1 h2 => by
    rw [← a3 j h1, ← b5 j h1 h2, ← c4 j h1]; funext e; exact uM_ne h1
  unfold pk_X11_leave_107
  simp (disch := omega) only [zt_lit, zt_eq, mS_z, mI_z, ob_z, zt_sub, uM_nei, h87]
  by_cases q : M 1 145 = 0
  · rw [if_pos q]
    exact ⟨_, rfl, hspec 0 (by rw [if_pos q]), hrows 0⟩
  · rw [if_neg q]
    exact ⟨_, rfl, hspec _ (by rw [if_neg q]), hrows _⟩
end RR
section CR
variable {F : Nat} {lg : Nat → Nat → Int64} {b p : Nat}
theorem y_te12 {A : Int → Int} {S : Int} (hS : 0 ≤ S ∧ S ≤ 4) (hT : wfT A) : ∀ (n : Nat) (l : List Int) (M : ZM) (K : Nat), (n : Int) ≤ A 206 → l.length + n ≤ 60 → RT M b A → M (b + 10) 3 = l.length → (∀ (i : Nat) (x : Int), l[i]? = some x → M (b + 10 + 2) i = x) → n < K →
    ∃ M1, fixN (fun _ _ _ => none) (pb_X9_tellEnded_12 F (b + 10) (b + 3) (zt S)) K (zt ((n : Int) - 1)) (LI M) lg = some (LI M1, lg) ∧ M1 (b + 10) 3 = (l ++ elS A S n).length ∧ (∀ (i : Nat) (x : Int), (l ++ elS A S n)[i]? = some x → M1 (b + 10 + 2) i = x) ∧ (∀ e, e ≠ 3 → M1 (b + 10) e = M (b + 10) e) ∧ ∀ j, j ≠ b + 10 → j ≠ b + 10 + 2 → M1 j = M j := by
  intro n
  induction n with
  | zero =>
    intro l M K _ _ hR h3 hl hK
    obtain ⟨g, rfl⟩ : ∃ g, K = g + 1 := ⟨K - 1, by omega⟩
    rw [fix_succ, show elS A S 0 = [] from rfl, List.append_nil]
    refine ⟨M, ?_, h3, hl, fun _ _ => rfl, fun _ _ _ => rfl⟩
    unfold pb_X9_tellEnded_12
    simp (disch := omega) only [zt_lit, zt_lt]
    rw [if_pos (by omega)]
  | succ n ih =>
    intro l M K hn hln hR h3 hl hK
    have hm := hT.1
    obtain ⟨w1, w2, -⟩ := hT.2 n (by omega) (by omega)
    obtain ⟨t1, t2, -⟩ := hR.2.2 n (by omega) (by omega)
    obtain ⟨g, rfl⟩ : ∃ g, K = g + 1 := ⟨K - 1, by omega⟩
    rw [fix_succ]
    generalize hr : fixN (fun _ _ _ => none) (pb_X9_tellEnded_12 F (b + 10) (b + 3) (zt S)) g = r
    unfold pb_X9_tellEnded_12
    have hl3 : ∀ N : ZM, LI N (b + 10) 3 = zt (N (b + 10) 3) := fun N => rfl
    simp (disch := omega) only [zt_lit, zt_neg, zt_lt, show (((n + 1 : Nat) : Int) - 1) = (n : Int) by omega, mI_z, ob_z, t1, t2, zt_eq, hl3, h3, mS_z, uM_ne, zt_add, gnm_z, up2_z]
    rw [if_neg (by omega), show (n : Int) + -1 = (n : Int) - 1 by omega]
    unfold elS
    by_cases q : A (207 + 8 * (n : Int) + 1) = S
    · rw [if_pos q, if_pos q, ← hr, ← List.append_assoc]
      have hu : ∀ j, j ≠ b + 10 → j ≠ b + 10 + 2 → uM (uM M (b + 10 + 2) l.length (A (207 + 8 * (n : Int)))) (b + 10) 3 (l.length + 1) j = M j := fun j h1 h2 => by funext e; rw [uM_ne h1, uM_ne h2]
      obtain ⟨M1, a1, a2, a3, a4, a5⟩ := ih (l ++ [A (207 + 8 * (n : Int))]) (uM (uM M (b + 10 + 2) l.length (A (207 + 8 * (n : Int)))) (b + 10) 3 (l.length + 1)) g (by omega) (by rw [List.length_append, List.length_singleton]; omega) (hR.ext (fun j a c => hu j (by omega) (by omega))) (by rw [uM_eq, List.length_append, List.length_singleton]; omega) (fun i x hx => by
        rw [uM_ne (by omega)]
        rcases snoc_at hx with h | ⟨h, h'⟩
        · have := at_lt h
          rw [uM_nei (by omega)]; exact hl i x h
        · subst h
          rw [uM_eq]; exact h') (by omega)
      exact ⟨M1, a1, a2, a3, fun e he => by rw [a4 e he, uM_nei he, uM_ne (by omega)], fun j h1 h2 => by rw [a5 j h1 h2, hu j h1 h2]⟩
    · rw [if_neg q, if_neg q, ← hr, List.nil_append]
      exact ih l M g (by omega) (by omega) hR h3 hl (by omega)
theorem y_rs4 {A : Int → Int} {S : Int} (hS : 0 ≤ S ∧ S ≤ 4) (hT : wfT A) : ∀ (c t : Nat) (M : ZM) (K : Nat), (t : Int) + c = A 206 → RT M b A → (∀ u, 0 ≤ u → u < (t : Int) → M (b + 3 + 6) u = plc A S u - 1) → c < K →
    ∃ M1, fixN (fun _ _ _ _ => none) (pb_X7_removeScope_4 F (b + 3) (zt S)) K (zt (rk A S t)) (zt t) (LI M) lg = pk_X7_removeScope_52 F (b + 3) (zt (rk A S (t + c))) (LI M1) lg ∧ (∀ u, 0 ≤ u → u < A 206 → M1 (b + 3 + 6) u = plc A S u - 1) ∧ ∀ j, j ≠ b + 3 + 6 → M1 j = M j := by
  intro c
  induction c with
  | zero =>
    intro t M K ht hR hp hK
    have hm := hT.1
    obtain ⟨g, rfl⟩ : ∃ g, K = g + 1 := ⟨K - 1, by omega⟩
    rw [fix_succ]
    refine ⟨M, ?_, fun u h1 h2 => hp u h1 (by omega), fun _ _ => rfl⟩
    unfold pb_X7_removeScope_4
    rw [LI_0, hR.2.1]
    simp (disch := omega) only [zt_le]
    rw [if_pos (by omega)]
    rfl
  | succ c ih =>
    intro t M K ht hR hp hK
    have hm := hT.1
    obtain ⟨w1, w2, -⟩ := hT.2 t (by omega) (by omega)
    obtain ⟨t1, t2, -⟩ := hR.2.2 t (by omega) (by omega)
    have hrk := rk_le A S t
    obtain ⟨g, rfl⟩ : ∃ g, K = g + 1 := ⟨K - 1, by omega⟩
    rw [fix_succ]
    generalize hr : fixN (fun _ _ _ _ => none) (pb_X7_removeScope_4 F (b + 3) (zt S)) g = r
    unfold pb_X7_removeScope_4 pk_X7_removeScope_32
    rw [LI_0, hR.2.1]
    simp (disch := omega) only [zt_lit, zt_neg, zt_le, mI_z, mS_z, ob_z, t2, uM_ne, zt_eq, zt_add]
    rw [if_neg (by omega), show t + (c + 1) = (t + 1) + c by omega]
    by_cases q : A (207 + 8 * (t : Int) + 1) = S
    · have hrs : rk A S (t + 1) = rk A S t := by show _ + (if _ then _ else _) = _; rw [if_pos q]; omega
      rw [if_pos q, if_pos q, ← hr, ← hrs]
      obtain ⟨M1, a1, a2, a3⟩ := ih (t + 1) (uM M (b + 3 + 6) t (-1)) g (by omega) (hR.ext (fun j a d => by funext e; exact uM_ne (by omega))) (fun u h1 h2 => by
        by_cases e : u = t
        · subst e; rw [uM_eq]; unfold plc; rw [if_pos q]; omega
        · rw [uM_nei e]; exact hp u h1 (by omega)) (by omega)
      exact ⟨M1, a1, a2, fun j hj => by rw [a3 j hj]; funext e; exact uM_ne hj⟩
    · have hrs : rk A S (t + 1) = rk A S t + 1 := by show _ + (if _ then _ else _) = _; rw [if_neg q]
      rw [if_neg q, if_neg q, ← hr, ← hrs]
      obtain ⟨M1, a1, a2, a3⟩ := ih (t + 1) (uM M (b + 3 + 6) t (rk A S t)) g (by omega) (hR.ext (fun j a d => by funext e; exact uM_ne (by omega))) (fun u h1 h2 => by
        by_cases e : u = t
        · subst e; rw [uM_eq]; unfold plc; rw [if_neg q, Int.toNat_natCast]; omega
        · rw [uM_nei e]; exact hp u h1 (by omega)) (by omega)
      exact ⟨M1, a1, a2, fun j hj => by rw [a3 j hj]; funext e; exact uM_ne hj⟩
def mv (M : ZM) (b : Nat) (x : Int) : Int := if 0 ≤ x ∧ x < M (b + 3) 0 then M (b + 3 + 6) x else -1
theorem y_mv50 {n t : Int} (ht : 0 ≤ t ∧ t < 60) (hn : 0 ≤ n ∧ n ≤ t) : ∀ (c : Nat) (k : Int) (M : ZM) (K : Nat), k + c = 4 → 0 ≤ k → (0 ≤ M (b + 3) 0 ∧ M (b + 3) 0 ≤ 60) → (∀ i, k ≤ i → i < 4 → -1 ≤ M (b + 3 + 5) (t * 4 + i) ∧ M (b + 3 + 5) (t * 4 + i) < 60) → c < K →
    ∃ M1, fixN (fun _ _ _ => none) (pb_X7_move_50 F (b + 3) (zt t) (zt n)) K (zt k) (LI M) lg = some (LI M1, lg) ∧ (∀ i, k ≤ i → i < 4 → M1 (b + 3 + 5) (n * 4 + i) = mv M b (M (b + 3 + 5) (t * 4 + i))) ∧ (∀ e, e < n * 4 + k ∨ n * 4 + 4 ≤ e → M1 (b + 3 + 5) e = M (b + 3 + 5) e) ∧ ∀ j, j ≠ b + 3 + 5 → M1 j = M j := by
  intro c
  induction c with
  | zero =>
    intro k M K hk hk0 _ _ hK
    obtain ⟨g, rfl⟩ : ∃ g, K = g + 1 := ⟨K - 1, by omega⟩
    rw [fix_succ]
    refine ⟨M, ?_, fun i a b => by omega, fun _ _ => rfl, fun _ _ => rfl⟩
    unfold pb_X7_move_50
    simp (disch := omega) only [zt_lit, zt_le]
    rw [if_pos (by omega)]
  | succ c ih =>
    intro k M K hk hk0 hm hr2 hK
    obtain ⟨g, rfl⟩ : ∃ g, K = g + 1 := ⟨K - 1, by omega⟩
    rw [fix_succ]
    generalize hr : fixN (fun _ _ _ => none) (pb_X7_move_50 F (b + 3) (zt t) (zt n)) g = r
    have hb := hr2 k (by omega) (by omega)
    have hgo : ∀ v : Int, v = mv M b (M (b + 3 + 5) (t * 4 + k)) → ∃ M1, r (zt (k + 1)) (LI (uM M (b + 3 + 5) (n * 4 + k) v)) lg = some (LI M1, lg) ∧ (∀ i, k ≤ i → i < 4 → M1 (b + 3 + 5) (n * 4 + i) = mv M b (M (b + 3 + 5) (t * 4 + i))) ∧ (∀ e, e < n * 4 + k ∨ n * 4 + 4 ≤ e → M1 (b + 3 + 5) e = M (b + 3 + 5) e) ∧ ∀ j, j ≠ b + 3 + 5 → M1 j = M j := by
      intro v hv
      rw [← hr]
      have hmv : ∀ x, mv (uM M (b + 3 + 5) (n * 4 + k) v) b x = mv M b x := fun x => by unfold mv; rw [uM_ne (by omega), uM_ne (by omega)]
      obtain ⟨M1, a1, a2, a3, a4⟩ := ih (k + 1) (uM M (b + 3 + 5) (n * 4 + k) v) g (by omega) (by omega) (by rw [uM_ne (by omega)]; exact hm) (fun i b1 b2 => by rw [uM_nei (by omega)]; exact hr2 i (by omega) b2) (by omega)
      refine ⟨M1, a1, fun i b1 b2 => ?_, fun e he => ?_, fun j hj => ?_⟩
      · by_cases e : i = k
        · subst e; rw [a3 _ (by omega), uM_eq, hv]
        · rw [a2 i (by omega) b2, hmv, uM_nei (by omega)]
      · rw [a3 e (by omega), uM_nei (by omega)]
      · rw [a4 j hj]; funext e; exact uM_ne hj
    unfold pb_X7_move_50
    simp (disch := omega) only [zt_lit, zt_neg, zt_le, zt_mul, zt_add, mI_z, ob_z, y_holds7]
    rw [if_neg (by omega)]
    by_cases q : 0 ≤ M (b + 3 + 5) (t * 4 + k) ∧ M (b + 3 + 5) (t * 4 + k) < M (b + 3) 0
    · have hz : ¬ zt (if 0 ≤ M (b + 3 + 5) (t * 4 + k) ∧ M (b + 3 + 5) (t * 4 + k) < M (b + 3) 0 then 1 else 0) = zt 0 := by rw [if_pos q]; decide
      rw [if_neg hz]
      simp (disch := omega) only [mI_z, mS_z, ob_z]
      exact hgo _ (by unfold mv; rw [if_pos q])
    · have hz : zt (if 0 ≤ M (b + 3 + 5) (t * 4 + k) ∧ M (b + 3 + 5) (t * 4 + k) < M (b + 3) 0 then 1 else 0) = zt 0 := by rw [if_neg q]
      rw [if_pos hz]
      simp (disch := omega) only [mS_z, ob_z]
      exact hgo _ (by unfold mv; rw [if_neg q])
theorem nar_bz {x : Int} (h : 0 ≤ x ∧ x ≤ 1) : vp_nar .boolean (zt x) = zt x := by
  have : x = 0 ∨ x = 1 := by omega
  rcases this with rfl | rfl <;> rfl
theorem y_move {n t : Int} {M : ZM} (hF : 6 < F) (ht : 0 ≤ t ∧ t < 60) (hn : 0 ≤ n ∧ n ≤ t) (hm : 0 ≤ M (b + 3) 0 ∧ M (b + 3) 0 ≤ 60) (hv : 0 ≤ M (b + 3 + 3) t ∧ M (b + 3 + 3) t ≤ 1) (hr : ∀ i, 0 ≤ i → i < 4 → -1 ≤ M (b + 3 + 5) (t * 4 + i) ∧ M (b + 3 + 5) (t * 4 + i) < 60) :
    ∃ M1, p_X7_move F (b + 3) (zt t) (zt n) (LI M) lg = some (LI M1, lg) ∧ (M1 (b + 3 + 1) n = M (b + 3 + 1) t ∧ M1 (b + 3 + 2) n = M (b + 3 + 2) t ∧ M1 (b + 3 + 3) n = M (b + 3 + 3) t ∧ M1 (b + 3 + 4) n = M (b + 3 + 4) t) ∧ (∀ e, e ≠ n → M1 (b + 3 + 1) e = M (b + 3 + 1) e ∧ M1 (b + 3 + 2) e = M (b + 3 + 2) e ∧ M1 (b + 3 + 3) e = M (b + 3 + 3) e ∧ M1 (b + 3 + 4) e = M (b + 3 + 4) e) ∧ (∀ i, 0 ≤ i → i < 4 → M1 (b + 3 + 5) (n * 4 + i) = mv M b (M (b + 3 + 5) (t * 4 + i))) ∧ (∀ e, e < n * 4 ∨ n * 4 + 4 ≤ e → M1 (b + 3 + 5) e = M (b + 3 + 5) e) ∧ ∀ j, (j < b + 3 + 1 ∨ b + 3 + 5 < j) → M1 j = M j := by
  unfold p_X7_move
  simp (disch := omega) only [mI_z, mS_z, ob_z, uM_ne, nar_bz]
  obtain ⟨M1, a1, a2, a3, a4⟩ := y_mv50 (F := F) (lg := lg) (b := b) (n := n) (t := t) ht hn 4 0 (uM (uM (uM (uM M (b + 3 + 1) n (M (b + 3 + 1) t)) (b + 3 + 2) n (M (b + 3 + 2) t)) (b + 3 + 3) n (M (b + 3 + 3) t)) (b + 3 + 4) n (M (b + 3 + 4) t)) F (by omega) (by omega) (by simp (disch := omega) only [uM_ne]; exact hm) (fun i b1 b2 => by simp (disch := omega) only [uM_ne]; exact hr i b1 b2) (by omega)
  rw [show (0 : Int32) = zt 0 from rfl]
  have hmv : ∀ x, mv (uM (uM (uM (uM M (b + 3 + 1) n (M (b + 3 + 1) t)) (b + 3 + 2) n (M (b + 3 + 2) t)) (b + 3 + 3) n (M (b + 3 + 3) t)) (b + 3 + 4) n (M (b + 3 + 4) t)) b x = mv M b x := fun x => by unfold mv; simp (disch := omega) only [uM_ne]
  refine ⟨M1, a1, ⟨?_, ?_, ?_, ?_⟩, fun e he => ⟨?_, ?_, ?_, ?_⟩, fun i b1 b2 => ?_, fun e he => ?_, fun j hj => ?_⟩
  · rw [a4 _ (by omega)]; simp (disch := omega) only [uM_ne, uM_eq]
  · rw [a4 _ (by omega)]; simp (disch := omega) only [uM_ne, uM_eq]
  · rw [a4 _ (by omega)]; simp (disch := omega) only [uM_ne, uM_eq]
  · rw [a4 _ (by omega)]; simp (disch := omega) only [uM_ne, uM_eq]
  · rw [a4 _ (by omega)]; simp (disch := omega) only [uM_ne, uM_nei]
  · rw [a4 _ (by omega)]; simp (disch := omega) only [uM_ne, uM_nei]
  · rw [a4 _ (by omega)]; simp (disch := omega) only [uM_ne, uM_nei]
  · rw [a4 _ (by omega)]; simp (disch := omega) only [uM_ne, uM_nei]
  · rw [a2 i b1 b2, hmv]; simp (disch := omega) only [uM_ne]
  · rw [a3 e (by omega)]; simp (disch := omega) only [uM_ne]
  · rw [a4 j (by omega)]; funext e; simp (disch := omega) only [uM_ne]
def RSI (A : Int → Int) (S : Int) (M0 M : ZM) (b : Nat) (t : Int) : Prop := (∀ u, t ≤ u → u < A 206 → M (b + 3 + 1) u = A (207 + 8 * u) ∧ M (b + 3 + 2) u = A (207 + 8 * u + 1) ∧ M (b + 3 + 3) u = A (207 + 8 * u + 2) ∧ M (b + 3 + 4) u = A (207 + 8 * u + 3) ∧ ∀ k, 0 ≤ k → k < 4 → M (b + 3 + 5) (u * 4 + k) = A (207 + 8 * u + (4 + k)) - 1) ∧
  (∀ u : Nat, (u : Int) < t → A (207 + 8 * (u : Int) + 1) ≠ S → M (b + 3 + 1) (rk A S u) = A (207 + 8 * (u : Int)) ∧ M (b + 3 + 2) (rk A S u) = A (207 + 8 * (u : Int) + 1) ∧ M (b + 3 + 3) (rk A S u) = A (207 + 8 * (u : Int) + 2) ∧ M (b + 3 + 4) (rk A S u) = A (207 + 8 * (u : Int) + 3) ∧ ∀ k, 0 ≤ k → k < 4 → M (b + 3 + 5) (rk A S u * 4 + k) = (if A (207 + 8 * (u : Int) + (4 + k)) = 0 then 0 else plc A S (A (207 + 8 * (u : Int) + (4 + k)) - 1)) - 1) ∧
  M (b + 3) 0 = A 206 ∧ (∀ u, 0 ≤ u → u < A 206 → M (b + 3 + 6) u = plc A S u - 1) ∧ ∀ j, (j < b + 3 + 1 ∨ b + 3 + 5 < j) → M j = M0 j
theorem y_rs54 {M0 : ZM} {A : Int → Int} {S : Int} (hF : 6 < F) (hT : wfT A) : ∀ (c t : Nat) (M : ZM) (K : Nat), (t : Int) + c = A 206 → RSI A S M0 M b t → c < K →
    ∃ M1, fixN (fun _ _ _ => none) (pb_X7_removeScope_54 F (b + 3) (zt (rk A S (t + c)))) K (zt t) (LI M) lg = some (LI (uM M1 (b + 3) 0 (rk A S (t + c))), lg) ∧ RSI A S M0 M1 b (A 206) := by
  intro c
  induction c with
  | zero =>
    intro t M K ht hI hK
    have hm := hT.1
    obtain ⟨g, rfl⟩ : ∃ g, K = g + 1 := ⟨K - 1, by omega⟩
    rw [fix_succ]
    refine ⟨M, ?_, by rw [show A 206 = (t : Int) by omega]; exact hI⟩
    unfold pb_X7_removeScope_54
    rw [LI_0, hI.2.2.1]
    simp (disch := omega) only [zt_le, gnm_z, up2_z]
    rw [if_pos (by omega)]
    rfl
  | succ c ih =>
    intro t M K ht hI hK
    have hm := hT.1
    obtain ⟨i1, i2, i3, i4, i5⟩ := id hI
    obtain ⟨w1, w2, w3, w4⟩ := hT.2 t (by omega) (by omega)
    obtain ⟨t1, t2, t3, t4, t5⟩ := i1 t (by omega) (by omega)
    have hrk := rk_le A S t
    have hpl := i4 t (by omega) (by omega)
    obtain ⟨g, rfl⟩ : ∃ g, K = g + 1 := ⟨K - 1, by omega⟩
    rw [fix_succ, show t + (c + 1) = (t + 1) + c by omega]
    generalize hr : fixN (fun _ _ _ => none) (pb_X7_removeScope_54 F (b + 3) (zt (rk A S (t + 1 + c)))) g = r
    have hpr := plc_rng (A := A) (S := S) (u := (t : Int)) (m := (A 206).toNat) (by omega)
    have hrm := rk_le A S (A 206).toNat
    unfold pb_X7_removeScope_54
    rw [LI_0, i3]
    simp (disch := omega) only [zt_lit, zt_neg, zt_le, mI_z, ob_z, hpl, zt_eq, zt_add]
    rw [if_neg (by omega)]
    by_cases q : A (207 + 8 * (t : Int) + 1) = S
    · have hp0 : plc A S t = 0 := if_pos q
      rw [if_pos (by omega), ← hr]
      exact ih (t + 1) M g (by omega) ⟨fun u a c => i1 u (by omega) c, fun u a c => by
        by_cases e : u = t
        · subst e; exact absurd q c
        · exact i2 u (by omega) c, i3, i4, i5⟩ (by omega)
    · have hp0 : plc A S t = rk A S t + 1 := by unfold plc; rw [if_neg q, Int.toNat_natCast]
      rw [if_neg (by omega), hp0, show rk A S t + 1 - 1 = rk A S t by omega]
      obtain ⟨M1, a1, a2, a3, a4, a5, a6⟩ := y_move (F := F) (lg := lg) (b := b) (n := rk A S t) (t := (t : Int)) (M := M) hF (by omega) (by omega) (by omega) (by omega) (fun i b1 b2 => by have := t5 i b1 b2; have := w4 i b1 b2; omega)
      rw [a1, hcU_z, ← hr]
      refine ih (t + 1) M1 g (by omega) ⟨fun u c1 c2 => ?_, fun u c1 c2 => ?_, by rw [a6 _ (by omega)]; exact i3, fun u c1 c2 => by rw [a6 _ (by omega)]; exact i4 u c1 c2, fun j hj => by rw [a6 j hj]; exact i5 j hj⟩ (by omega)
      · obtain ⟨d1, d2, d3, d4⟩ := a3 u (by omega)
        obtain ⟨f1, f2, f3, f4, f5⟩ := i1 u (by omega) c2
        exact ⟨d1.trans f1, d2.trans f2, d3.trans f3, d4.trans f4, fun k e1 e2 => by rw [a5 _ (by omega)]; exact f5 k e1 e2⟩
      · by_cases e : u = t
        · subst e
          refine ⟨a2.1.trans t1, a2.2.1.trans t2, a2.2.2.1.trans t3, a2.2.2.2.trans t4, fun k e1 e2 => ?_⟩
          rw [a4 k e1 e2, t5 k e1 e2]
          have hw := w4 k e1 e2
          unfold mv
          by_cases q2 : A (207 + 8 * (u : Int) + (4 + k)) = 0
          · rw [if_pos q2, if_neg (by omega)]; omega
          · rw [if_neg q2, if_pos (by omega)]; exact i4 _ (by omega) (by omega)
        · have hlt := rk_lt (A := A) (S := S) (n := u) (k := t) (by omega) c2
          obtain ⟨d1, d2, d3, d4⟩ := a3 (rk A S u) (by omega)
          obtain ⟨f1, f2, f3, f4, f5⟩ := i2 u (by omega) c2
          exact ⟨d1.trans f1, d2.trans f2, d3.trans f3, d4.trans f4, fun k e1 e2 => by rw [a5 _ (by omega)]; exact f5 k e1 e2⟩
theorem y_ls28 {S : Int} (hS : 0 ≤ S ∧ S ≤ 4) : ∀ (c : Nat) (k : Int) (M : ZM) (K : Nat), k + c = 12 → 0 ≤ k → M b 1 = S → c < K →
    ∃ M1, fixN (fun _ _ _ => none) (pb_X0_leaveScope_28 F p b) K (zt k) (LI M) lg = pk_X0_leaveScope_46 F p b (LI M1) lg ∧ (∀ i, k ≤ i → i < 12 → M1 (b + 1) (S * 12 + i) = -1) ∧ (∀ e, e < S * 12 + k ∨ S * 12 + 12 ≤ e → M1 (b + 1) e = M (b + 1) e) ∧ ∀ j, j ≠ b + 1 → M1 j = M j := by
  intro c
  induction c with
  | zero =>
    intro k M K hk hk0 h1 hK
    obtain ⟨g, rfl⟩ : ∃ g, K = g + 1 := ⟨K - 1, by omega⟩
    rw [fix_succ]
    refine ⟨M, ?_, fun i a b => by omega, fun _ _ => rfl, fun _ _ => rfl⟩
    unfold pb_X0_leaveScope_28
    simp (disch := omega) only [zt_lit, zt_le]
    rw [if_pos (by omega)]
  | succ c ih =>
    intro k M K hk hk0 h1 hK
    obtain ⟨g, rfl⟩ : ∃ g, K = g + 1 := ⟨K - 1, by omega⟩
    rw [fix_succ]
    generalize hr : fixN (fun _ _ _ => none) (pb_X0_leaveScope_28 F p b) g = r
    unfold pb_X0_leaveScope_28 p_X0_setStandIn
    rw [LI_1, h1]
    simp (disch := omega) only [zt_lit, zt_neg, zt_le, zt_mul, zt_add, mS_z, ob_z, hcU_z]
    rw [if_neg (by omega), ← hr]
    obtain ⟨M1, a1, a2, a3, a4⟩ := ih (k + 1) (uM M (b + 1) (S * 12 + k) (-1)) g (by omega) (by omega) (by rw [uM_ne (by omega)]; exact h1) (by omega)
    refine ⟨M1, a1, fun i b1 b2 => ?_, fun e he => ?_, fun j hj => ?_⟩
    · by_cases e : i = k
      · subst e; rw [a3 _ (by omega), uM_eq]
      · exact a2 i (by omega) b2
    · rw [a3 e (by omega), uM_nei (by omega)]
    · rw [a4 j hj]; funext e; exact uM_ne hj
theorem y_leave {B : Int} {M : ZM} {A : Int → Int} (hF : 200 < F) (hR : RB M b p A) (hA : FI B A 0) (hW : WT A) (hs : p + 9 ≤ b ∨ b + 13 ≤ p) :
    ∃ M1, p_X0_leaveScope F p b (LI M) lg = some (zt (elS A (A 145) (A 206).toNat).length, LI M1, lg) ∧ (∀ A1, LvS A A1 → RB M1 b p A1) ∧ ∀ j, (j < b ∨ b + 13 ≤ j) → M1 j = M j := by
  obtain ⟨r1, r2, r3, r4⟩ := hR
  have hm := hA.2.2.1.1
  have hS := hA.2.1.1
  have hc := hA.1.1
  have hd : M b 1 = A 145 := r2.1
  unfold p_X0_leaveScope p_X9_tellEnded
  have hz : up2 (LI M) (b + 10) 3 (zt 0) = LI (uM M (b + 10) 3 0) := up2_z M (b + 10) 3 0
  rw [show (0 : Int32) = zt 0 from rfl, hz, gnm_z, LI_0, uM_ne (by omega), r3.2.1, LI_1, hd, show (1 : Int32) = zt 1 from rfl, zt_sub, gnm_z]
  have hR0 : RT (uM M (b + 10) 3 0) b A := r3.ext (fun j a c => by funext e; exact uM_ne (by omega))
  obtain ⟨M1, a1, a2, a3, a4, a5⟩ := y_te12 (F := F) (lg := lg) (b := b) (A := A) (S := A 145) hS hA.2.2.1 (A 206).toNat [] (uM M (b + 10) 3 0) F (by omega) (by simp; omega) hR0 (by rw [uM_eq]; rfl) (fun i x h => by simp at h) (by omega)
  rw [show (((A 206).toNat : Nat) : Int) - 1 = A 206 - 1 by omega] at a1
  rw [List.nil_append] at a2 a3
  rw [a1, hcU_z, LI_1, a5 b (by omega) (by omega), uM_ne (by omega), hd]
  have hR1 : RT M1 b A := hR0.ext (fun j a c => a5 j (by omega) (by omega))
  unfold p_X7_removeScope
  obtain ⟨M2, b1, b2, b3⟩ := y_rs4 (F := F) (lg := lg) (b := b) (A := A) (S := A 145) hS hA.2.2.1 (A 206).toNat 0 M1 F (by omega) hR1 (fun u h1 h2 => by omega) (by omega)
  rw [Nat.zero_add] at b1
  have hrk := rk_le A (A 145) (A 206).toNat
  have hb1 : fixN (fun _ _ _ _ => none) (pb_X7_removeScope_4 F (b + 3) (zt (A 145))) F (zt 0) (zt 0) (LI M1) lg = pk_X7_removeScope_52 F (b + 3) (zt (rk A (A 145) (A 206).toNat)) (LI M2) lg := b1
  rw [show (0 : Int32) = zt 0 from rfl, hb1]
  unfold pk_X7_removeScope_52
  have hI0 : RSI A (A 145) M2 M2 b 0 := ⟨fun u c1 c2 => by
      rw [b3 _ (by omega), b3 _ (by omega), b3 _ (by omega), b3 _ (by omega), b3 _ (by omega)]
      exact hR1.2.2 u c1 c2, fun u h => by omega, by rw [b3 _ (by omega)]; exact hR1.2.1, b2, fun _ _ => rfl⟩
  obtain ⟨M3, c1, c2, c3, c4, c5, c6⟩ := y_rs54 (F := F) (lg := lg) (b := b) (M0 := M2) (A := A) (S := A 145) (by omega) hA.2.2.1 (A 206).toNat 0 M2 F (by omega) hI0 (by omega)
  rw [Nat.zero_add] at c1
  have hc1 : fixN (fun _ _ _ => none) (pb_X7_removeScope_54 F (b + 3) (zt (rk A (A 145) (A 206).toNat))) F (zt 0) (LI M2) lg = some (LI (uM M3 (b + 3) 0 (rk A (A 145) (A 206).toNat)), lg) := c1
  rw [show (0 : Int32) = zt 0 from rfl, hc1, hcU_z]
  have hout : ∀ j, (j < b + 3 ∨ b + 9 < j) → j ≠ b + 10 → j ≠ b + 10 + 2 → uM M3 (b + 3) 0 (rk A (A 145) (A 206).toNat) j = M j := fun j h1 h2 h3 => by
    have e : M3 j = M j := by rw [c6 j (by omega), b3 j (by omega), a5 j h2 h3]; funext e; exact uM_ne h2
    rw [← e]; funext x; exact uM_ne (by omega)
  have hb10 : ∀ e, uM M3 (b + 3) 0 (rk A (A 145) (A 206).toNat) (b + 10) e = M1 (b + 10) e := fun e => by rw [uM_ne (by omega), c6 _ (by omega), b3 _ (by omega)]
  have hb12 : ∀ e, uM M3 (b + 3) 0 (rk A (A 145) (A 206).toNat) (b + 10 + 2) e = M1 (b + 10 + 2) e := fun e => by rw [uM_ne (by omega), c6 _ (by omega), b3 _ (by omega)]
  obtain ⟨M4, d1, d2, d3, d4⟩ := y_ls28 (F := F) (lg := lg) (b := b) (p := p) (S := A 145) hS 12 0 (uM M3 (b + 3) 0 (rk A (A 145) (A 206).toNat)) F (by omega) (by omega) (by rw [hout b (by omega) (by omega) (by omega)]; exact hd) (by omega)
  rw [d1]
  have h3 : M4 (b + 10) 3 = (elS A (A 145) (A 206).toNat).length := by rw [d4 _ (by omega), hb10]; exact a2
  have hb : M4 b 1 = A 145 := by rw [d4 b (by omega), hout b (by omega) (by omega) (by omega)]; exact hd
  -- the result, whatever becomes of the depth
  have hfin : ∀ M5 : ZM, (∀ j, j ≠ b → M5 j = M4 j) → M5 b 1 = (if A 145 = 0 then 0 else A 145 - 1) → (∀ A1, LvS A A1 → RB M5 b p A1) ∧ ∀ j, (j < b ∨ b + 13 ≤ j) → M5 j = M j := by
    intro M5 h5 h51
    refine ⟨fun A1 hL => ?_, fun j hj => by rw [h5 j (by omega), d4 j (by omega), hout j (by omega) (by omega) (by omega)]⟩
    obtain ⟨l1, l2, l3, l4, l5, l6, l7, l8, l9⟩ := hL
    have hM : ∀ j, (j < b ∨ b + 10 ≤ j ∨ j = b + 2) → j ≠ b + 10 → j ≠ b + 10 + 2 → M5 j = M j := fun j h1 h2 h3 => by
      rw [h5 j (by omega), d4 j (by omega), hout j (by omega) h2 h3]
    refine ⟨r1.ext hA.1 (fun e he => l1 e (by omega)) (fun j x1 x2 => hM j (by omega) (by omega) (by omega)), ⟨h51.trans l2.symm, fun s i x1 x2 x3 x4 => ?_⟩, ⟨fun i x1 x2 => ?_, ?_, fun t x1 x2 => ?_⟩, ⟨?_, ?_, fun i x1 x2 => ?_, ?_, fun i x1 x2 => ?_⟩⟩
    · rw [l3 s i x1 x2 x3 x4, h5 _ (by omega)]
      by_cases q : s = A 145
      · subst q; rw [if_pos rfl]; exact d2 i x3 x4
      · rw [if_neg q, d3 _ (by omega), hout _ (by omega) (by omega) (by omega)]
        exact r2.2 s i x1 x2 x3 x4
    · rw [hM _ (by omega) (by omega) (by omega), l1 _ (by omega)]; exact r3.1 i x1 x2
    · rw [h5 _ (by omega), d4 _ (by omega), uM_eq, l4]
    · rw [l4] at x2
      obtain ⟨u, e1, e2, e3⟩ := rk_surj (A := A) (S := A 145) (A 206).toNat t x1 x2
      obtain ⟨f1, f2⟩ := l5 u (by omega) e2
      obtain ⟨g1, g2, g3, g4, g5⟩ := c3 u (by omega) e2
      rw [e3] at f1 f2 g1 g2 g3 g4 g5
      have f0 := f1 0 (by omega) (by omega)
      rw [Int.add_zero, Int.add_zero] at f0
      have hj : ∀ j, b + 3 < j → j < b + 9 → M5 j = M3 j := fun j y1 y2 => by rw [h5 j (by omega), d4 j (by omega)]; funext e; exact uM_ne (by omega)
      rw [hj _ (by omega) (by omega), hj _ (by omega) (by omega), hj _ (by omega) (by omega), hj _ (by omega) (by omega), hj _ (by omega) (by omega), f0, f1 1 (by omega) (by omega), f1 2 (by omega) (by omega), f1 3 (by omega) (by omega)]
      exact ⟨g1, g2, g3, g4, fun k y1 y2 => by rw [f2 k y1 y2]; exact g5 k y1 y2⟩
    · rw [h5 _ (by omega), d4 _ (by omega), hb10, a4 0 (by omega), uM_nei (by omega), l1 810 (by omega)]; exact r4.1
    · rw [h5 _ (by omega), d4 _ (by omega), hb10, a4 1 (by omega), uM_nei (by omega), l1 809 (by omega)]; exact r4.2.1
    · rw [l1 809 (by omega)] at x2
      rw [hM _ (by omega) (by omega) (by omega), l1 (811 + i) (by omega)]; exact r4.2.2.1 i x1 x2
    · rw [h5 _ (by omega), h3, l6]
    · rw [l6] at x2
      obtain ⟨x, hx⟩ : ∃ x, (elS A (A 145) (A 206).toNat)[i.toNat]? = some x := ⟨_, List.getElem?_eq_getElem (by omega)⟩
      have y1 := l7 i.toNat x hx
      have y2 := a3 i.toNat x hx
      rw [show ((i.toNat : Nat) : Int) = i by omega] at y1 y2
      rw [h5 _ (by omega), d4 _ (by omega), hb12, y1, y2]
  unfold pk_X0_leaveScope_46
  rw [LI_1, hb, LI_3, h3, show (0 : Int32) = zt 0 from rfl, show (1 : Int32) = zt 1 from rfl, zt_sub]
  by_cases q : A 145 = 0
  · rw [if_pos (by rw [zt_le (by omega) (by omega) (by omega) (by omega)]; omega)]
    obtain ⟨z1, z2⟩ := hfin M4 (fun _ _ => rfl) (by rw [if_pos q, hb]; exact q)
    exact ⟨M4, rfl, z1, z2⟩
  · have hz1 : up2 (LI M4) b 1 (zt (A 145 - 1)) = LI (uM M4 b 1 (A 145 - 1)) := up2_z M4 b 1 (A 145 - 1)
    rw [if_neg (by rw [zt_le (by omega) (by omega) (by omega) (by omega)]; omega), hz1, gnm_z, LI_3, uM_ne (by omega), h3]
    obtain ⟨z1, z2⟩ := hfin (uM M4 b 1 (A 145 - 1)) (fun j hj => by funext e; exact uM_ne hj) (by rw [if_neg q, uM_eq])
    exact ⟨_, rfl, z1, z2⟩
end CR
