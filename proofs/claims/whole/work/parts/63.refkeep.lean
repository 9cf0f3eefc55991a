/-! The reference keeps, gives back, copies. -/
def RU (R : ZM) (U : List (Int → Int)) : Prop := R 0 5 = U.length ∧ U.length ≤ 8 ∧ ∀ (j : Nat) (C : Int → Int), U[j]? = some C → ∀ e, 0 ≤ e → e < 891 → R 4 (891 * j + e) = C e
def puU (U : List (Int → Int)) (A : Int → Int) : List (Int → Int) := (if U.length = 8 then U.tail else U) ++ [A]
theorem puU_len {U : List (Int → Int)} {A : Int → Int} (h : U.length ≤ 8) : (puU U A).length ≤ 8 := by
  unfold puU
  split
  · simp; omega
  · simp; omega
theorem at_ltG {α : Type} {l : List α} {y : α} {i : Nat} (h : l[i]? = some y) : i < l.length := (List.getElem?_eq_some_iff.mp h).1
section KP
variable {w : Int64} {F : Nat}
theorem LI_5 (M : ZM) (j : Nat) : LI M j 5 = zt (M j 5) := rfl
theorem x_k52 {u : Int} (hu : 0 ≤ u ∧ u ≤ 7) : ∀ (c : Nat) (k : Int) (M : ZM) (K : Nat), k + c = 891 → 0 ≤ k → M 0 5 = u → c < K →
    ∃ M1, fixN (fun _ _ _ => none) (pb_X11_keeps_52 F) K (zt k) (LI M) w = some (LI (uM M1 0 5 (u + 1)), w) ∧ (∀ i, k ≤ i → i < 891 → M1 4 (891 * u + i) = M 1 i) ∧ (∀ e, e < 891 * u + k ∨ 891 * u + 891 ≤ e → M1 4 e = M 4 e) ∧ ∀ j, j ≠ 4 → M1 j = M j := by
  intro c
  induction c with
  | zero =>
    intro k M K hk hk0 h5 hK
    obtain ⟨g, rfl⟩ : ∃ g, K = g + 1 := ⟨K - 1, by omega⟩
    rw [fix_succ]
    refine ⟨M, ?_, fun i a b => by omega, fun _ _ => rfl, fun _ _ => rfl⟩
    unfold pb_X11_keeps_52 pk_X11_keeps_86
    simp (disch := omega) only [zt_lit, zt_le, LI_5, h5, zt_add, up2_z, gnm_z]
    rw [if_pos (by omega)]
    rfl
  | succ c ih =>
    intro k M K hk hk0 h5 hK
    obtain ⟨g, rfl⟩ : ∃ g, K = g + 1 := ⟨K - 1, by omega⟩
    rw [fix_succ]
    generalize hr : fixN (fun _ _ _ => none) (pb_X11_keeps_52 F) g = r
    unfold pb_X11_keeps_52
    simp (disch := omega) only [zt_lit, zt_le, LI_5, h5, zt_mul, zt_add, mI_z, mS_z, ob_z]
    rw [if_neg (by omega), ← hr]
    obtain ⟨M1, a1, a2, a3, a4⟩ := ih (k + 1) (uM M 4 (891 * u + k) (M 1 k)) g (by omega) (by omega) (by rw [uM_ne (by omega)]; exact h5) (by omega)
    refine ⟨M1, a1, fun i b1 b2 => ?_, fun e he => ?_, fun j hj => ?_⟩
    · by_cases e : i = k
      · subst e; rw [a3 _ (by omega), uM_eq]
      · rw [a2 i (by omega) b2, uM_ne (by omega)]
    · rw [a3 e (by omega), uM_nei (by omega)]
    · rw [a4 j hj]; funext e; exact uM_ne hj
theorem x_k11 : ∀ (c : Nat) (k : Int) (M : ZM) (K : Nat), k + c = 6237 → 0 ≤ k → c < K →
    ∃ M1, fixN (fun _ _ _ => none) (pb_X11_keeps_11 F) K (zt k) (LI M) w = pk_X11_keeps_40 F (LI M1) w ∧ (∀ i, k ≤ i → i < 6237 → M1 4 i = M 4 (i + 891)) ∧ (∀ e, e < k ∨ 6237 ≤ e → M1 4 e = M 4 e) ∧ ∀ j, j ≠ 4 → M1 j = M j := by
  intro c
  induction c with
  | zero =>
    intro k M K hk hk0 hK
    obtain ⟨g, rfl⟩ : ∃ g, K = g + 1 := ⟨K - 1, by omega⟩
    rw [fix_succ]
    refine ⟨M, ?_, fun i a b => by omega, fun _ _ => rfl, fun _ _ => rfl⟩
    unfold pb_X11_keeps_11
    simp (disch := omega) only [zt_lit, zt_le]
    rw [if_pos (by omega)]
  | succ c ih =>
    intro k M K hk hk0 hK
    obtain ⟨g, rfl⟩ : ∃ g, K = g + 1 := ⟨K - 1, by omega⟩
    rw [fix_succ]
    generalize hr : fixN (fun _ _ _ => none) (pb_X11_keeps_11 F) g = r
    unfold pb_X11_keeps_11
    simp (disch := omega) only [zt_lit, zt_le, zt_add, mI_z, mS_z, ob_z]
    rw [if_neg (by omega), ← hr]
    obtain ⟨M1, a1, a2, a3, a4⟩ := ih (k + 1) (uM M 4 k (M 4 (k + 891))) g (by omega) (by omega) (by omega)
    refine ⟨M1, a1, fun i b1 b2 => ?_, fun e he => ?_, fun j hj => ?_⟩
    · by_cases e : i = k
      · subst e; rw [a3 _ (by omega), uM_eq]
      · rw [a2 i (by omega) b2, uM_nei (by omega)]
    · rw [a3 e (by omega), uM_nei (by omega)]
    · rw [a4 j hj]; funext e; exact uM_ne hj
theorem x_keeps {M : ZM} {U : List (Int → Int)} (hF : 7000 < F) (h : RU M U) : ∃ M1, p_X11_keeps F (LI M) w = some (LI M1, w) ∧ RU M1 (puU U (M 1)) ∧ (∀ j, j ≠ 0 → j ≠ 4 → M1 j = M j) ∧ ∀ e, e ≠ 5 → M1 0 e = M 0 e := by
  obtain ⟨h1, h2, h3⟩ := h
  unfold p_X11_keeps
  simp (disch := omega) only [zt_lit, LI_5, zt_eq]
  have key : ∀ (V : List (Int → Int)) (M2 : ZM), V.length ≤ 7 → M2 0 5 = V.length → (∀ (j : Nat) (C : Int → Int), V[j]? = some C → ∀ e, 0 ≤ e → e < 891 → M2 4 (891 * j + e) = C e) → (∀ j, j ≠ 0 → j ≠ 4 → M2 j = M j) → (∀ e, e ≠ 5 → M2 0 e = M 0 e) →
      ∃ M1, pk_X11_keeps_50 F (LI M2) w = some (LI M1, w) ∧ RU M1 (V ++ [M 1]) ∧ (∀ j, j ≠ 0 → j ≠ 4 → M1 j = M j) ∧ ∀ e, e ≠ 5 → M1 0 e = M 0 e := by
    intro V M2 g1 g2 g3 g4 g5
    obtain ⟨M1, a1, a2, a3, a4⟩ := x_k52 (w := w) (F := F) (u := V.length) (by omega) 891 0 M2 F (by omega) (by omega) g2 (by omega)
    refine ⟨uM M1 0 5 (V.length + 1), ?_, ⟨?_, ?_, fun j C hj e e1 e2 => ?_⟩, fun j j1 j2 => ?_, fun e he => ?_⟩
    · unfold pk_X11_keeps_50
      rw [show (0 : Int32) = zt 0 from rfl, a1]
    · rw [uM_eq]; simp
    · simp; omega
    · rw [uM_ne (by omega)]
      by_cases q : j < V.length
      · rw [List.getElem?_append_left q] at hj
        rw [a3 _ (by omega)]
        exact g3 j C hj e e1 e2
      · rw [List.getElem?_append_right (by omega)] at hj
        have hz : j - V.length = 0 := by
          rcases Nat.eq_zero_or_pos (j - V.length) with z | z
          · exact z
          · rw [List.getElem?_eq_none (by simp; omega)] at hj; cases hj
        rw [hz] at hj
        simp at hj
        subst hj
        rw [show (j : Int) = (V.length : Int) by omega, a2 e e1 e2, g4 1 (by omega) (by omega)]
    · funext e
      rw [uM_ne j1, a4 j j2, g4 j j1 j2]
    · rw [uM_nei he, a4 0 (by omega), g5 e he]
  by_cases q : M 0 5 = 8
  · rw [if_pos q]
    obtain ⟨M1, a1, a2, a3, a4⟩ := x_k11 (w := w) (F := F) 6237 0 M F (by omega) (by omega) (by omega)
    rw [a1]
    unfold pk_X11_keeps_40
    simp (disch := omega) only [zt_lit, LI_5, zt_sub, up2_z, gnm_z]
    have hU : U.length = 8 := by omega
    have hq : M1 0 5 = 8 := by rw [a4 0 (by omega)]; exact q
    unfold puU
    rw [if_pos hU]
    refine key U.tail (uM M1 0 5 (M1 0 5 - 1)) (by simp; omega) ?_ ?_ ?_ ?_
    · rw [uM_eq, hq]; simp; omega
    · intro j C hj e e1 e2
      have hj2 : U[j + 1]? = some C := by rw [← List.getElem?_tail]; exact hj
      have hlt : j + 1 < 8 := by have := at_ltG hj2; omega
      rw [uM_ne (by omega), a2 _ (by omega) (by omega), ← h3 (j + 1) C hj2 e e1 e2]
      congr 1
      omega
    · intro j j1 j2
      funext e
      rw [uM_ne j1, a4 j j2]
    · intro e he
      rw [uM_nei he, a4 0 (by omega)]
  · rw [if_neg q]
    unfold puU
    rw [if_neg (by omega)]
    exact key U M (by omega) h1 h3 (fun _ _ _ => rfl) (fun _ _ => rfl)
theorem x_u26 {u : Int} (hu : 0 ≤ u ∧ u ≤ 7) : ∀ (c : Nat) (k : Int) (M : ZM) (K : Nat), k + c = 891 → 0 ≤ k → M 0 5 = u → c < K →
    ∃ M1, fixN (fun _ _ _ => none) (pb_X11_undo_26 F) K (zt k) (LI M) w = some (zt u, LI M1, w) ∧ (∀ i, k ≤ i → i < 891 → M1 1 i = M 4 (891 * u + i)) ∧ (∀ e, e < k ∨ 891 ≤ e → M1 1 e = M 1 e) ∧ ∀ j, j ≠ 1 → M1 j = M j := by
  intro c
  induction c with
  | zero =>
    intro k M K hk hk0 h5 hK
    obtain ⟨g, rfl⟩ : ∃ g, K = g + 1 := ⟨K - 1, by omega⟩
    rw [fix_succ]
    refine ⟨M, ?_, fun i a b => by omega, fun _ _ => rfl, fun _ _ => rfl⟩
    unfold pb_X11_undo_26
    simp (disch := omega) only [zt_lit, zt_le, LI_5, h5]
    rw [if_pos (by omega)]
  | succ c ih =>
    intro k M K hk hk0 h5 hK
    obtain ⟨g, rfl⟩ : ∃ g, K = g + 1 := ⟨K - 1, by omega⟩
    rw [fix_succ]
    generalize hr : fixN (fun _ _ _ => none) (pb_X11_undo_26 F) g = r
    unfold pb_X11_undo_26
    simp (disch := omega) only [zt_lit, zt_le, LI_5, h5, zt_mul, zt_add, mI_z, mS_z, ob_z]
    rw [if_neg (by omega), ← hr]
    obtain ⟨M1, a1, a2, a3, a4⟩ := ih (k + 1) (uM M 1 k (M 4 (891 * u + k))) g (by omega) (by omega) (by rw [uM_ne (by omega)]; exact h5) (by omega)
    refine ⟨M1, a1, fun i b1 b2 => ?_, fun e he => ?_, fun j hj => ?_⟩
    · by_cases e : i = k
      · subst e; rw [a3 _ (by omega), uM_eq]
      · rw [a2 i (by omega) b2, uM_ne (by omega)]
    · rw [a3 e (by omega), uM_nei (by omega)]
    · rw [a4 j hj]; funext e; exact uM_ne hj
theorem x_undo0 {M : ZM} (h : M 0 5 = 0) : p_X11_undo F (LI M) w = some (zt (-1), LI (uM M 0 0 0), w) := by
  unfold p_X11_undo
  have e : LI (uM M 0 0 0) 0 5 = zt 0 := by rw [LI_5, uM_nei (by omega), h]
  rw [show up2 (LI M) 0 0 (0 : Int32) = LI (uM M 0 0 0) from up2_z M 0 0 0, gnm_z, e, if_pos (show zt 0 = 0 from rfl)]
  rfl
theorem x_undo1 {M : ZM} {V : List (Int → Int)} {C : Int → Int} (hF : 1000 < F) (h : RU M (V ++ [C])) : ∃ M1, p_X11_undo F (LI M) w = some (zt V.length, LI M1, w) ∧ RU M1 V ∧ (∀ e, 0 ≤ e → e < 891 → M1 1 e = C e) ∧ (∀ e, e < 0 ∨ 891 ≤ e → M1 1 e = M 1 e) ∧ (∀ j, j ≠ 0 → j ≠ 1 → M1 j = M j) ∧ ∀ e, e ≠ 0 → e ≠ 5 → M1 0 e = M 0 e := by
  obtain ⟨h1, h2, h3⟩ := h
  simp only [List.length_append, List.length_cons, List.length_nil] at h1 h2
  obtain ⟨M1, a1, a2, a3, a4⟩ := x_u26 (w := w) (F := F) (u := V.length) (by omega) 891 0 (uM (uM M 0 0 0) 0 5 (uM M 0 0 0 0 5 - 1)) F (by omega) (by omega) (by rw [uM_eq, uM_nei (by omega)]; omega) (by omega)
  refine ⟨M1, ?_, ⟨?_, by omega, fun j D hj e e1 e2 => ?_⟩, fun e e1 e2 => ?_, fun e he => ?_, fun j j1 j2 => ?_, fun e e1 e2 => ?_⟩
  · unfold p_X11_undo
    have e : LI (uM M 0 0 0) 0 5 = zt (uM M 0 0 0 0 5) := LI_5 _ _
    have e2 : uM M 0 0 0 0 5 = M 0 5 := uM_nei (by omega)
    rw [show up2 (LI M) 0 0 (0 : Int32) = LI (uM M 0 0 0) from up2_z M 0 0 0, gnm_z, e, show (0 : Int32) = zt 0 from rfl, show (1 : Int32) = zt 1 from rfl, zt_sub, show up2 (LI (uM M 0 0 0)) 0 5 (zt (uM M 0 0 0 0 5 - 1)) = LI (uM (uM M 0 0 0) 0 5 (uM M 0 0 0 0 5 - 1)) from up2_z _ 0 5 _, gnm_z, if_neg (by rw [zt_eq (by omega) (by omega) (by omega) (by omega)]; omega)]
    exact a1
  · rw [a4 0 (by omega), uM_eq, uM_nei (by omega)]; omega
  · rw [a4 4 (by omega), uM_ne (by omega), uM_ne (by omega)]
    exact h3 j D (by rw [List.getElem?_append_left (at_ltG hj)]; exact hj) e e1 e2
  · rw [a2 e e1 e2, uM_ne (by omega), uM_ne (by omega)]
    exact h3 V.length C (by simp) e e1 e2
  · rw [a3 e he, uM_ne (by omega), uM_ne (by omega)]
  · funext e
    rw [a4 j j2, uM_ne j1, uM_ne j1]
  · rw [a4 0 (by omega), uM_nei e2, uM_nei e1]
theorem x_copies {M : ZM} {a c : Int} (hF : 1000 < F) (ha : 0 ≤ a ∧ a ≤ 4) (hc : 0 ≤ c ∧ c ≤ 4) (hac : a ≠ c) : ∃ M1, p_X11_copies F (zt a) (zt c) (LI M) w = some (LI M1, w) ∧ (∀ e, 0 ≤ e → e < 894 → M1 1 (894 * c + e) = M 1 (894 * a + e)) ∧ (∀ e, e < 894 * c ∨ 894 * c + 894 ≤ e → M1 1 e = M 1 e) ∧ ∀ j, j ≠ 1 → M1 j = M j := by
  have key : ∀ (n : Nat) (k : Int) (M : ZM) (K : Nat), k + n = 894 → 0 ≤ k → n < K →
      ∃ M1, fixN (fun _ _ _ => none) (pb_X11_copies_2 F (zt a) (zt c)) K (zt k) (LI M) w = some (LI M1, w) ∧ (∀ i, k ≤ i → i < 894 → M1 1 (894 * c + i) = M 1 (894 * a + i)) ∧ (∀ e, e < 894 * c + k ∨ 894 * c + 894 ≤ e → M1 1 e = M 1 e) ∧ ∀ j, j ≠ 1 → M1 j = M j := by
    intro n
    induction n with
    | zero =>
      intro k M K hk hk0 hK
      obtain ⟨g, rfl⟩ : ∃ g, K = g + 1 := ⟨K - 1, by omega⟩
      rw [fix_succ]
      refine ⟨M, ?_, fun i a b => by omega, fun _ _ => rfl, fun _ _ => rfl⟩
      unfold pb_X11_copies_2
      simp (disch := omega) only [zt_lit, zt_le]
      rw [if_pos (by omega)]
    | succ n ih =>
      intro k M K hk hk0 hK
      obtain ⟨g, rfl⟩ : ∃ g, K = g + 1 := ⟨K - 1, by omega⟩
      rw [fix_succ]
      generalize hr : fixN (fun _ _ _ => none) (pb_X11_copies_2 F (zt a) (zt c)) g = r
      unfold pb_X11_copies_2
      simp (disch := omega) only [zt_lit, zt_le, zt_mul, zt_add, mI_z, mS_z, ob_z]
      rw [if_neg (by omega), ← hr]
      obtain ⟨M1, a1, a2, a3, a4⟩ := ih (k + 1) (uM M 1 (894 * c + k) (M 1 (894 * a + k))) g (by omega) (by omega) (by omega)
      refine ⟨M1, a1, fun i b1 b2 => ?_, fun e he => ?_, fun j hj => ?_⟩
      · by_cases e : i = k
        · subst e; rw [a3 _ (by omega), uM_eq]
        · rw [a2 i (by omega) b2, uM_nei (by omega)]
      · rw [a3 e (by omega), uM_nei (by omega)]
      · rw [a4 j hj]; funext e; exact uM_ne hj
  obtain ⟨M1, a1, a2, a3, a4⟩ := key 894 0 M F (by omega) (by omega) (by omega)
  exact ⟨M1, a1, a2, fun e he => a3 e (by omega), a4⟩
theorem nar_by {x : Int} (h : -128 ≤ x ∧ x ≤ 127) : vp_nar .byte (zt x) = zt x := by
  have h1 : ∀ n : Nat, n < 256 → vp_nar .byte (zt ((n : Int) - 128)) = zt ((n : Int) - 128) := by decide +kernel
  have := h1 (x + 128).toNat (by omega)
  rw [show (((x + 128).toNat : Nat) : Int) - 128 = x by omega] at this
  exact this
theorem x_copiesText {M : ZM} {a c : Int} (hF : 1000 < F) (ha : 0 ≤ a ∧ a ≤ 3) (hc : 0 ≤ c ∧ c ≤ 3) (hac : a ≠ c) (hT : ∀ e, -128 ≤ M 2 e ∧ M 2 e ≤ 127) : ∃ M1, p_X11_copiesText F (zt a) (zt c) (LI M) w = some (LI M1, w) ∧ (∀ e, 0 ≤ e → e < 894 → M1 1 (894 * c + e) = M 1 (894 * a + e)) ∧ (∀ e, e < 894 * c ∨ 894 * c + 894 ≤ e → M1 1 e = M 1 e) ∧ (∀ e, 0 ≤ e → e < 600 → M1 2 (600 * c + e) = M 2 (600 * a + e)) ∧ (∀ e, e < 600 * c ∨ 600 * c + 600 ≤ e → M1 2 e = M 2 e) ∧ ∀ j, j ≠ 1 → j ≠ 2 → M1 j = M j := by
  have key : ∀ (n : Nat) (k : Int) (M : ZM) (K : Nat), k + n = 600 → 0 ≤ k → (∀ e, -128 ≤ M 2 e ∧ M 2 e ≤ 127) → n < K →
      ∃ M1, fixN (fun _ _ _ => none) (pb_X11_copiesText_8 F (zt a) (zt c)) K (zt k) (LI M) w = some (LI M1, w) ∧ (∀ i, k ≤ i → i < 600 → M1 2 (600 * c + i) = M 2 (600 * a + i)) ∧ (∀ e, e < 600 * c + k ∨ 600 * c + 600 ≤ e → M1 2 e = M 2 e) ∧ ∀ j, j ≠ 2 → M1 j = M j := by
    intro n
    induction n with
    | zero =>
      intro k M K hk hk0 hT hK
      obtain ⟨g, rfl⟩ : ∃ g, K = g + 1 := ⟨K - 1, by omega⟩
      rw [fix_succ]
      refine ⟨M, ?_, fun i a b => by omega, fun _ _ => rfl, fun _ _ => rfl⟩
      unfold pb_X11_copiesText_8
      simp (disch := omega) only [zt_lit, zt_le]
      rw [if_pos (by omega)]
    | succ n ih =>
      intro k M K hk hk0 hT hK
      obtain ⟨g, rfl⟩ : ∃ g, K = g + 1 := ⟨K - 1, by omega⟩
      rw [fix_succ]
      generalize hr : fixN (fun _ _ _ => none) (pb_X11_copiesText_8 F (zt a) (zt c)) g = r
      unfold pb_X11_copiesText_8
      simp (disch := omega) only [zt_lit, zt_le, zt_mul, zt_add, mI_z, ob_z]
      rw [nar_by (hT _)]
      simp (disch := omega) only [mS_z, ob_z]
      rw [if_neg (by omega), ← hr]
      obtain ⟨M1, a1, a2, a3, a4⟩ := ih (k + 1) (uM M 2 (600 * c + k) (M 2 (600 * a + k))) g (by omega) (by omega) (fun e => by
        by_cases q : e = 600 * c + k
        · subst q; rw [uM_eq]; exact hT _
        · rw [uM_nei q]; exact hT _) (by omega)
      refine ⟨M1, a1, fun i b1 b2 => ?_, fun e he => ?_, fun j hj => ?_⟩
      · by_cases e : i = k
        · subst e; rw [a3 _ (by omega), uM_eq]
        · rw [a2 i (by omega) b2, uM_nei (by omega)]
      · rw [a3 e (by omega), uM_nei (by omega)]
      · rw [a4 j hj]; funext e; exact uM_ne hj
  obtain ⟨M1, a1, a2, a3, a4⟩ := x_copies (w := w) (F := F) (M := M) (a := a) (c := c) hF (by omega) (by omega) hac
  obtain ⟨M2, b1, b2, b3, b4⟩ := key 600 0 M1 F (by omega) (by omega) (by rw [a4 2 (by omega)]; exact hT) (by omega)
  refine ⟨M2, ?_, fun e e1 e2 => ?_, fun e he => ?_, fun e e1 e2 => ?_, fun e he => ?_, fun j j1 j2 => ?_⟩
  · unfold p_X11_copiesText
    rw [a1, pcU_z, show (0 : Int32) = zt 0 from rfl, b1]
  · rw [b4 1 (by omega)]; exact a2 e e1 e2
  · rw [b4 1 (by omega)]; exact a3 e he
  · rw [b2 e e1 e2, a4 2 (by omega)]
  · rw [b3 e (by omega), a4 2 (by omega)]
  · rw [b4 j j2, a4 j j1]
end KP
