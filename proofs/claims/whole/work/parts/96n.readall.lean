/-! The whole reading, in lockstep. -/
/-- what the reading left -/
def ReS (R0 : ZM) (a : Nat) (M1 R1 : ZM) (ans : Int) : Prop := (∀ j, j ≠ 0 → j ≠ 1 → j ≠ 5 → j ≠ 6 → j ≠ 7 → j ≠ 8 → R1 j = R0 j) ∧ ((0 ≤ M1 a 6 ∧ M1 a 6 ≤ 5) ∧ -1 ≤ M1 a 7 ∧ M1 a 7 ≤ 700) ∧ (R1 1 892 = M1 a 6 ∧ R1 1 893 = M1 a 7) ∧ (∀ e, (e = 891 ∨ 894 ≤ e) → R1 1 e = R0 1 e) ∧ (M1 a 6 ≠ 0 → ans = -1 ∧ R1 0 5 = R0 0 5 ∧ ∀ e, e < 891 → R1 1 e = R0 1 e) ∧ (M1 a 6 = 0 → ans = R1 1 0 ∧ R1 0 5 = 0 ∧ RP M1 (a + 1) (R1 1) ∧ wfP (R1 1) ∧ Z0 (R1 1)) ∧ ∀ e, e ≠ 5 → e ≠ 6 → e ≠ 8 → e ≠ 9 → e ≠ 10 → e ≠ 11 → e ≠ 13 → e ≠ 14 → e ≠ 15 → e ≠ 19 → R1 0 e = R0 0 e
section RD9
variable {F : Nat} {lg : Nat → Nat → Int64} {M0 R0 M R : ZM} {w : Int64} {a pb : Nat} {T : Int → Int} {N r m P v1 : Int}
theorem x_copy : ∀ (n : Nat) (i : Int) (R : ZM) (K : Nat), i + n = 891 → 0 ≤ i → n < K → ∃ R1, fixN (fun _ _ _ => none) (pb_X11_read_204 F) K (zt i) (LI R) w = some (zt (R1 1 0), LI R1, w) ∧ (∀ e, i ≤ e → e < 891 → R1 1 e = R 5 e) ∧ (∀ e, (e < i ∨ 891 ≤ e) → R1 1 e = R 1 e) ∧ R1 0 5 = 0 ∧ (∀ e, e ≠ 5 → R1 0 e = R 0 e) ∧ ∀ j, j ≠ 0 → j ≠ 1 → R1 j = R j := by
  intro n
  induction n with
  | zero =>
    intro i R K h1 h2 hK
    obtain ⟨g, rfl⟩ : ∃ g, K = g + 1 := ⟨K - 1, by omega⟩
    rw [fix_succ]
    refine ⟨uM R 0 5 0, ?_, fun e e0 e1 => by omega, fun e _ => uM_ne (by omega), uM_eq _ _ _ _, fun e he => uM_nei he, fun j hj _ => by funext e; exact uM_ne hj⟩
    unfold pb_X11_read_204
    rw [show (891 : Int32) = zt 891 from rfl, if_pos (zle_pos (by omega) (by omega) (by omega))]
    unfold pk_X11_read_229
    rw [show (0 : Int32) = zt 0 from rfl, up2_5, gnm_z, mI_z (by omega) (by omega) (by omega), ob_z]
  | succ n ih =>
    intro i R K h1 h2 hK
    obtain ⟨g, rfl⟩ : ∃ g, K = g + 1 := ⟨K - 1, by omega⟩
    obtain ⟨R1, a1, a2, a3, a4, a5, a6⟩ := ih (i + 1) (uM R 1 i (R 5 i)) g (by omega) (by omega) (by omega)
    rw [fix_succ]
    refine ⟨R1, ?_, fun e e0 e1 => ?_, fun e he => ?_, a4, fun e he => by rw [a5 e he, uM_ne (by omega)], fun j h0 h1 => by rw [a6 j h0 h1]; funext e; exact uM_ne h1⟩
    · rw [← a1]
      generalize fixN (fun _ _ _ => none) (pb_X11_read_204 F) g = rr
      unfold pb_X11_read_204
      rw [show (891 : Int32) = zt 891 from rfl, if_neg (zle_neg (by omega) (by omega) (by omega)), mI_z (by omega) (by omega) (by omega), ob_z, mS_z (by omega) (by omega) (by omega), ob_z, show (1 : Int32) = zt 1 from rfl, zt_add]
    · by_cases q : e = i
      · rw [q, a3 i (Or.inl (by omega)), uM_eq]
      · rw [a2 e (by omega) e1, uM_ne (by omega)]
    · rw [a3 e (by omega), uM_nei (by omega)]
theorem x_tell1 {f p : Int} (hF : 1000 < F) (hf : 0 ≤ f ∧ f ≤ 5) (h892 : R 1 892 = f) : (f ≠ 0 → pk_X11_read_188 F (893 : Int32) (zt p) (LI R) w = some (zt (-1), LI (uM R 1 893 p), w)) ∧ (f = 0 → ∃ R1, pk_X11_read_188 F (893 : Int32) (zt p) (LI R) w = some (zt (R1 1 0), LI R1, w) ∧ (∀ e, 0 ≤ e → e < 891 → R1 1 e = R 5 e) ∧ (∀ e, (e = 891 ∨ e = 892 ∨ 894 ≤ e) → R1 1 e = R 1 e) ∧ R1 1 893 = p ∧ R1 0 5 = 0 ∧ (∀ e, e ≠ 5 → R1 0 e = R 0 e) ∧ ∀ j, j ≠ 0 → j ≠ 1 → R1 j = R j) := by
  unfold pk_X11_read_188
  rw [show (893 : Int32) = zt 893 from rfl, mS_z (by omega) (by omega) (by omega), ob_z, show (892 : Int32) = zt 892 from rfl, mI_z (by omega) (by omega) (by omega), ob_z, uM_nei (by omega), h892]
  refine ⟨fun g => ?_, fun g => ?_⟩
  · rw [if_neg (by rw [show (0 : Int32) = zt 0 from rfl, zt_eq (by omega) (by omega) (by omega) (by omega)]; exact g)]
    rfl
  · rw [if_pos (by rw [g]; rfl)]
    obtain ⟨R1, a1, a2, a3, a4, a5, a6⟩ := x_copy (F := F) (w := w) 891 0 (uM R 1 893 p) F (by omega) (by omega) (by omega)
    refine ⟨R1, a1, fun e e0 e1 => by rw [a2 e e0 e1, uM_ne (by omega)], fun e he => by rw [a3 e (by omega), uM_nei (by omega)], by rw [a3 893 (by omega), uM_eq], a4, fun e he => by rw [a5 e he, uM_ne (by omega)], fun j h0 h1 => by rw [a6 j h0 h1]; funext e; exact uM_ne h1⟩
/-- the reading failed at a token -/
theorem bad_ok (hF : 1000 < F) (h : QF M0 R0 a M R) : ∃ M1 R1, pk_X6_readAll_33 F pb a (LI M) lg = some (LI M1, lg) ∧ pk_X11_read_93 F (0 : Int32) (LI R) w = some (zt (-1), LI R1, w) ∧ FrM a M0 M1 ∧ ReS R0 a M1 R1 (-1) := by
  obtain ⟨k1, k2, k3, k4, k5⟩ := h
  refine ⟨uM (uM M a 6 1) a 7 (R 0 13), ?_⟩
  obtain ⟨R1, a1, a2, a3⟩ := x_walk (F := F) (w := w) (v1 := 0) k4 300 0 R F (by omega) (by omega) (by omega) (by omega) rfl
  have h892 : uM R1 1 892 1 1 892 = 1 := uM_eq _ _ _ _
  have ht := (x_tell1 (F := F) (w := w) (p := R 0 13) hF (show (0 : Int) ≤ 1 ∧ (1 : Int) ≤ 5 by omega) h892).1 (by omega)
  refine ⟨uM (uM R1 1 892 1) 1 893 (R 0 13), ?_, ?_, fun j hj => by rw [← k1 j hj]; funext e; rw [uM_ne (by omega), uM_ne (by omega)], fun j h0 h1 h5 h6 h7 h8 => ?_, ?_, ?_, fun e he => ?_, fun _ => ⟨rfl, ?_, fun e he => ?_⟩, fun g => ?_, fun e g5 g6 g8 g9 g10 g11 g13 g14 g15 g19 => ?_⟩
  · unfold pk_X6_readAll_33
    rw [show (1 : Int32) = zt 1 from rfl, up2_6, gnm_z, LI_3, uM_ne (by omega), k3, up2_7, gnm_z]
  · unfold pk_X11_read_93
    rw [show (0 : Int32) = zt 0 from rfl, a1]
    unfold pk_X11_read_146
    rw [if_pos (show zt 0 = (0 : Int32) from rfl)]
    unfold pk_X11_read_165
    rw [show (892 : Int32) = zt 892 from rfl, show (1 : Int32) = zt 1 from rfl, mS_z (by omega) (by omega) (by omega), ob_z, if_pos (show zt 0 = (0 : Int32) from rfl), show LI (uM R1 1 892 1) 0 13 = zt (R 0 13) from by show zt (uM R1 1 892 1 0 13) = _; rw [uM_ne (by omega), a3 13 (by omega) (by omega)]]
    exact ht
  · rw [show uM (uM R1 1 892 1) 1 893 (R 0 13) j = R1 j from by funext e; rw [uM_ne h1, uM_ne h1], a2 j h0]
    exact k2.1 j h0 h5 h6 h7 h8
  · rw [uM_nei (by omega), uM_eq, uM_eq]; omega
  · rw [uM_eq, uM_nei (by omega), uM_eq, uM_nei (by omega), uM_eq, uM_eq]; exact ⟨rfl, rfl⟩
  · rw [uM_nei (by omega), uM_nei (by omega), a2 1 (by omega), k2.1 1 (by omega) (by omega) (by omega) (by omega) (by omega)]
  · rw [uM_ne (by omega), uM_ne (by omega), a3 5 (by omega) (by omega)]
    exact k2.2 5 (by omega) (by omega) (by omega) (by omega) (by omega) (by omega) (by omega) (by omega) (by omega)
  · rw [uM_nei (by omega), uM_nei (by omega), a2 1 (by omega), k2.1 1 (by omega) (by omega) (by omega) (by omega) (by omega)]
  · rw [uM_nei (by omega), uM_eq] at g; omega
  · rw [uM_ne (by omega), uM_ne (by omega), a3 e g14 g15]
    exact k2.2 e g6 g8 g9 g10 g11 g13 g14 g15 g19
/-- the text is at its end -/
theorem fin_ok (hF : 1000 < F) (hN : N ≤ 600) (h : Q1 M0 R0 a T N M R w r m P) (hm : m ≤ 601) : ∃ M1 R1 ans, pk_X6_readAll_56 F pb a (LI M) lg = some (LI M1, lg) ∧ pk_X11_read_93 F (1 : Int32) (LI R) w = some (zt ans, LI R1, w) ∧ FrM a M0 M1 ∧ ReS R0 a M1 R1 ans := by
  obtain ⟨⟨k1, k2, k3, ⟨f1, f2, f3, f4⟩, ⟨n1, n2, n3⟩, k6, k7⟩, h2, h3, h4⟩ := h
  have hr := k3.2.2
  have hV : ∀ u, 0 ≤ u → u < 12 → -1 ≤ M (a + 10) u ∧ M (a + 10) u ≤ 650 := fun u u0 u1 => by
    rcases n3 u u0 u1 with ⟨g, -⟩ | ⟨g, ⟨j, j0, j1, -, j3⟩, -⟩
    · omega
    · have := n2 j j0 j1
      omega
  have hX : ∀ j, 0 ≤ j → j < R 0 19 → (0 ≤ R 6 j ∧ R 6 j ≤ 650) ∧ 0 ≤ R 7 j ∧ R 7 j ≤ 999 := fun j j0 j1 => by
    have := n2 j j0 j1
    omega
  obtain ⟨M1, a1, a2, a3, a4, a5, a6⟩ := y_strange (F := F) (lg := lg) (pb := pb) (a := a) (P := P) (f0 := M a 6) (p0 := M a 7) (V := M (a + 10)) hV h2.2.1 12 P M F (by omega) (Int.le_refl _) (by omega) (by omega) (fun _ _ _ => rfl) (by omega) (by omega) (Lst.nil (fun s ⟨t, b1, b2, _⟩ => by omega))
  obtain ⟨R1, c1, c2, c3, c4, c5, c6⟩ := x_strange (F := F) (w := w) (v1 := 1) (f0 := M a 6) (p0 := M a 7) (c := R 5 0) (nm := R 0 19) (X := R 6) (Y := R 7) (by omega) (by omega) hX 300 0 R F (by omega) (by omega) (by omega) (by omega) rfl rfl rfl rfl f3 f4 (by rw [← f1, ← f2]; exact Lst.nil (fun s ⟨t, b1, b2, _⟩ => by omega))
  -- the same least place
  obtain ⟨e6, e7⟩ : M1 a 6 = R1 0 15 ∧ M1 a 7 = R1 0 14 := by
    refine a2.uni c2 (fun s hs => ?_) (fun s hs => ?_)
    · obtain ⟨t, b1, b2, b3, b4⟩ := hs
      rcases n3 t (by omega) b2 with ⟨g, -⟩ | ⟨g, ⟨j, j0, j1, j2, j3⟩, -⟩
      · omega
      · exact ⟨j, j0, j1, by omega, by omega, by omega⟩
    · obtain ⟨j, j0, j1, b1, b2, b3⟩ := hs
      have hy := hX j j0 j1
      rcases n3 (R 7 j) hy.2.1 b2 with ⟨-, g⟩ | ⟨g, -, g3⟩
      · exact absurd rfl (g j j0 j1)
      · refine ⟨M (a + 10) (R 7 j), ⟨R 7 j, by omega, b2, rfl, by omega⟩, ?_⟩
        rw [← b3]
        exact g3 j j0 j1 rfl
  have hrf : pk_X11_read_93 F (1 : Int32) (LI R) w = pk_X11_read_188 F (893 : Int32) (zt (R1 0 14)) (LI (uM R1 1 892 (R1 0 15))) w := by
    unfold pk_X11_read_93
    rw [show (1 : Int32) = zt 1 from rfl, show (0 : Int32) = zt 0 from rfl, c1]
    unfold pk_X11_read_146
    rw [if_neg (by decide)]
    unfold pk_X11_read_165
    rw [show LI R1 0 15 = zt (R1 0 15) from rfl, show (892 : Int32) = zt 892 from rfl, mS_z (by omega) (by omega) (by omega), ob_z, if_neg (by decide), show LI (uM R1 1 892 (R1 0 15)) 0 14 = zt (R1 0 14) from by show zt (uM R1 1 892 (R1 0 15) 0 14) = _; rw [uM_ne (by omega)]]
  have hcl : p_X6_noteStrangeNeeds F pb a (LI M) lg = some (LI M1, lg) := by
    unfold p_X6_noteStrangeNeeds
    rw [LI_3, h2.1, gnm_z]
    exact a1
  have ht := x_tell1 (F := F) (w := w) (R := uM R1 1 892 (R1 0 15)) (f := R1 0 15) (p := R1 0 14) hF c3 (uM_eq _ _ _ _)
  have row1 : R1 1 = R0 1 := by rw [c5 1 (by omega), k2.1 1 (by omega) (by omega) (by omega) (by omega) (by omega)]
  unfold pk_X6_readAll_56
  rw [hcl, hcU_z, hrf, LI_6]
  by_cases q : M1 a 6 = 0
  · -- no fault
    obtain ⟨R2, t1, t2, t3, t4, t5, t6, t7⟩ := ht.2 (by omega)
    clear ht
    obtain ⟨g0, gS, -⟩ := a2.1 q
    obtain ⟨-, gS1, -⟩ := c2.1 (by omega)
    obtain ⟨hp12, d1, d2, d3⟩ := h4 g0
    have hc : R 5 0 = P := by omega
    have e5 : ∀ e, 0 ≤ e → e < 891 → R2 1 e = R 5 e := fun e e0 e1 => by rw [t2 e e0 e1, uM_ne (by omega), c5 5 (by omega)]
    have e0 : R2 1 0 = P := by rw [e5 0 (by omega) (by omega)]; exact hc
    have need : ∀ j, 0 ≤ j → j < R 0 19 → R 7 j < P := fun j j0 j1 => by
      apply Classical.byContradiction
      intro g
      exact gS1 (R 6 j) ⟨j, j0, j1, by omega, d1 j j0 j1, rfl⟩
    rw [if_pos (by rw [q]; rfl), t1]
    have hmin : (if (12 : Int32) < LI M1 a 3 then (12 : Int32) else LI M1 a 3) = zt P := by
      rw [LI_3, a6 3 (by omega) (by omega), h2.1, if_neg (by rw [show (12 : Int32) = zt 12 from rfl, zt_lt (by omega) (by omega) (by omega) (by omega)]; omega)]
    rw [hmin, up2_0, gnm_z]
    have ma : uM M1 (a + 1) 0 P a = M1 a := by funext e; exact uM_ne (by omega)
    refine ⟨_, R2, _, rfl, rfl, fun j hj => ?_, fun j h0 h1 h5 h6 h7 h8 => ?_, ?_, ?_, fun e he => ?_, fun g => ?_, fun _ => ⟨rfl, t5, ?_, ?_, ?_⟩, fun e g5 g6 g8 g9 g10 g11 g13 g14 g15 g19 => ?_⟩
    · rw [← k1 j hj, ← a5 j (by omega)]; funext e; exact uM_ne (by omega)
    · rw [t7 j h0 h1, show uM R1 1 892 (R1 0 15) j = R1 j from by funext e; exact uM_ne h1, c5 j h0]
      exact k2.1 j h0 h5 h6 h7 h8
    · rw [ma]; exact ⟨a3, a4⟩
    · rw [ma, t4, e7, t3 892 (by omega), uM_eq, e6]; exact ⟨rfl, rfl⟩
    · rw [t3 e (by omega), uM_nei (by omega), row1]
    · rw [ma] at g; exact absurd q g
    · refine ⟨by rw [uM_eq, e0], fun i i0 i1 => ?_⟩
      rw [e0] at i1
      obtain ⟨⟨z1, z2, z3, z4, z5, z6, z7, z8⟩, z9⟩ := d2 i i0 i1
      have rw5 : ∀ e, 0 ≤ e → e < 11 → R2 1 (1 + 11 * i + e) = R 5 (1 + 11 * i + e) := fun e g0 g1 => e5 _ (by omega) (by omega)
      have r0 : R2 1 (1 + 11 * i) = R 5 (1 + 11 * i + 0) := by rw [Int.add_zero]; exact e5 _ (by omega) (by omega)
      have rm : ∀ d, d ≠ 0 → uM M1 (a + 1) 0 P (a + 1 + d) = M (a + 1 + d) := fun d hd => by rw [← a5 (a + 1 + d) (by omega)]; funext e; exact uM_ne (by omega)
      have hn := z9.2.1
      simp only at hn
      refine ⟨by rw [rm 1 (by omega), r0]; exact z1, by rw [rm 2 (by omega), rw5 1 (by omega) (by omega)]; exact z2, by rw [rm 3 (by omega), rw5 8 (by omega) (by omega)]; exact z3, by rw [rm 4 (by omega), rw5 9 (by omega) (by omega)]; exact z4, by rw [rm 5 (by omega), rw5 10 (by omega) (by omega)]; exact z5, by rw [rm 6 (by omega), rw5 2 (by omega) (by omega)]; exact z6, by rw [rm 7 (by omega), rw5 7 (by omega) (by omega)]; exact z7, fun k k0 k1 => ?_⟩
      rw [rw5 2 (by omega) (by omega)] at k1
      rw [rm 8 (by omega), rw5 (3 + k) (by omega) (by omega)]
      exact z8 k k0 k1
    · refine ⟨by rw [e0]; omega, fun i i0 i1 => ?_⟩
      rw [e0] at i1
      obtain ⟨-, y1, y2, y3, y4, y5, y6, y7⟩ := d2 i i0 i1
      simp only at y1 y2 y3 y4 y5 y6 y7
      have rw5 : ∀ e, 0 ≤ e → e < 11 → R2 1 (1 + 11 * i + e) = R 5 (1 + 11 * i + e) := fun e g0 g1 => e5 _ (by omega) (by omega)
      have r0 : R2 1 (1 + 11 * i) = R 5 (1 + 11 * i + 0) := by rw [Int.add_zero]; exact e5 _ (by omega) (by omega)
      refine ⟨by rw [r0]; exact y1, by rw [rw5 2 (by omega) (by omega)]; exact y2, fun k k0 k1 => ?_, by rw [rw5 7 (by omega) (by omega)]; exact y4, by rw [rw5 8 (by omega) (by omega)]; exact y5, by rw [rw5 9 (by omega) (by omega)]; exact y6, by rw [rw5 10 (by omega) (by omega)]; exact y7⟩
      rw [rw5 2 (by omega) (by omega)] at k1
      obtain ⟨j, j0, j1, j2⟩ := y3 k k0 k1
      rw [rw5 (3 + k) (by omega) (by omega), e0, ← j2]
      exact ⟨(hX j j0 j1).2.1, need j j0 j1⟩
    · have z : ∀ e, 133 ≤ e → e < 891 → R2 1 e = 0 := fun e g0 g1 => by rw [e5 e (by omega) g1]; exact k7 e g0 g1
      exact ⟨z _ (by omega) (by omega), fun e g0 g1 => z e (by omega) (by omega), fun e g0 g1 => z e (by omega) (by omega), z _ (by omega) (by omega), z _ (by omega) (by omega), z _ (by omega) (by omega), z _ (by omega) (by omega), z _ (by omega) (by omega)⟩
    · rw [t6 e g5, uM_ne (by omega), c6 e g14 g15]
      exact k2.2 e g6 g8 g9 g10 g11 g13 g14 g15 g19
  · -- a fault
    rw [if_neg (by rw [show (0 : Int32) = zt 0 from rfl, zt_eq (by omega) (by omega) (by omega) (by omega)]; exact q), ht.1 (by omega)]
    refine ⟨M1, _, -1, rfl, rfl, fun j hj => by rw [a5 j (by omega)]; exact k1 j hj, fun j h0 h1 h5 h6 h7 h8 => ?_, ⟨a3, a4⟩, ?_, fun e he => ?_, fun _ => ⟨rfl, ?_, fun e he => ?_⟩, fun g => absurd g q, fun e g5 g6 g8 g9 g10 g11 g13 g14 g15 g19 => ?_⟩
    · rw [show uM (uM R1 1 892 (R1 0 15)) 1 893 (R1 0 14) j = R1 j from by funext e; rw [uM_ne h1, uM_ne h1], c5 j h0]
      exact k2.1 j h0 h5 h6 h7 h8
    · rw [uM_nei (by omega), uM_eq, uM_eq]; exact ⟨e6.symm, e7.symm⟩
    · rw [uM_nei (by omega), uM_nei (by omega), row1]
    · rw [uM_ne (by omega), uM_ne (by omega), c6 5 (by omega) (by omega)]
      exact k2.2 5 (by omega) (by omega) (by omega) (by omega) (by omega) (by omega) (by omega) (by omega) (by omega)
    · rw [uM_nei (by omega), uM_nei (by omega), row1]
    · rw [uM_ne (by omega), uM_ne (by omega), c6 e g14 g15]
      exact k2.2 e g6 g8 g9 g10 g11 g13 g14 g15 g19
/-- part after part -/
theorem all_loop (hF : 1000 < F) (hN : 0 ≤ N ∧ N ≤ 600) (hT : ∀ e, -128 ≤ T e ∧ T e ≤ 127) (hpb : pb < a) (gp : ∀ e, 0 ≤ e → e < N → M0 pb e = T e) (gt : ∀ e, 0 ≤ e → e < N → R0 2 e = T e) : ∀ (n : Nat) (r u P : Int) (M R : ZM) (w : Int64) (K : Nat), N - r < n → n ≤ K → 0 ≤ u → u ≤ r → Q1 M0 R0 a T N M R w r (mpo T N r) P → ∃ M1 R1 w1 ans, fixN (fun _ _ _ => none) (pb_X6_readAll_9 F pb a) K (zt u) (LI M) lg = some (LI M1, lg) ∧ fixN (fun _ _ _ => none) (pb_X11_read_74 F) K (1 : Int32) (LI R) w = some (zt ans, LI R1, w1) ∧ FrM a M0 M1 ∧ ReS R0 a M1 R1 ans := by
  intro n
  induction n with
  | zero =>
    intro r u P M R w K h1 hK h2 h3 h
    have := h.1.2.2.1.2.2
    omega
  | succ n ih =>
    intro r u P M R w K h1 hK h2 h3 h
    obtain ⟨g, rfl⟩ : ∃ g, K = g + 1 := ⟨K - 1, by omega⟩
    have htk := h.1.2.2.1
    have hr := htk.2.2
    have hrg := tk_rng (T := T) hr hN.2
    by_cases hk : tkK T N r = 0
    · obtain ⟨M1, R1, ans, b1, b2, b3, b4⟩ := fin_ok (F := F) (lg := lg) (pb := pb) hF hN.2 h (mpo_le hr hN.2).1.2
      refine ⟨M1, R1, w, ans, ?_, ?_, b3, b4⟩
      · rw [fix_succ, ← b1]
        unfold pb_X6_readAll_9
        rw [if_pos (show LI M (a + 11) 2 = (0 : Int32) from by rw [show (0 : Int32) = zt 0 from rfl, tkc hN.2 htk (by omega)]; exact hk)]
        split <;> rfl
      · rw [fix_succ, ← b2]
        unfold pb_X11_read_74
        rw [if_neg (by decide), if_pos (show LI R 0 9 = (0 : Int32) from by rw [tkr0 htk]; exact hk)]
    · have hlt := hrg.2.2.1 hk
      have hc : pb_X6_readAll_9 F pb a (fixN (fun _ _ _ => none) (pb_X6_readAll_9 F pb a) g) (zt u) (LI M) lg = hcI (p_X6_readPart F pb a (LI M) lg) (fun (x8 : Int32) (sg6 : Nat → Nat → Int32) (lg7 : Nat → Nat → Int64) => if x8 = 0 then (pk_X6_readAll_33 F pb a sg6 lg7) else (fixN (fun _ _ _ => none) (pb_X6_readAll_9 F pb a) g (zt (u + 1)) sg6 lg7)) := by
        generalize fixN (fun _ _ _ => none) (pb_X6_readAll_9 F pb a) g = rr
        unfold pb_X6_readAll_9
        rw [show (600 : Int32) = zt 600 from rfl, if_neg (zle_neg (by omega) (by omega) (by omega)), if_neg (show ¬ (LI M (a + 11) 2 = (0 : Int32)) from by rw [show (0 : Int32) = zt 0 from rfl, tkc hN.2 htk (by omega)]; exact hk), show (1 : Int32) = zt 1 from rfl, zt_add]
      have hf : pb_X11_read_74 F (fixN (fun _ _ _ => none) (pb_X11_read_74 F) g) (1 : Int32) (LI R) w = pcI (p_X11_line F (LI R) w) (fun (x26 : Int32) (sg24 : Nat → Nat → Int32) (w25 : Int64) => fixN (fun _ _ _ => none) (pb_X11_read_74 F) g x26 sg24 w25) := by
        generalize fixN (fun _ _ _ => none) (pb_X11_read_74 F) g = rr
        unfold pb_X11_read_74
        rw [if_neg (by decide), if_neg (show ¬ (LI R 0 9 = (0 : Int32)) from by rw [tkr0 htk]; exact hk)]
      rw [fix_succ, fix_succ, hc, hf]
      rcases line_ok (F := F) (lg := lg) (pb := pb) (by omega) hN hT hpb gp gt h with ⟨M1, R1, w1, r1, b1, b2, b3, b4⟩ | ⟨M1, R1, w1, b1, b2, b3⟩
      · rw [b1, hcI_z, if_neg (by decide), b2, pcI_z]
        exact ih r1 (u + 1) (P + 1) M1 R1 w1 g (by omega) (by omega) (by omega) (by omega) b4
      · rw [b1, hcI_z, if_pos rfl, b2, pcI_z]
        obtain ⟨g1, rfl⟩ : ∃ g1, g = g1 + 1 := ⟨g - 1, by omega⟩
        obtain ⟨M2, R2, c1, c2, c3, c4⟩ := bad_ok (F := F) (lg := lg) (w := w1) (pb := pb) hF b3
        refine ⟨M2, R2, w1, -1, c1, ?_, c3, c4⟩
        rw [fix_succ, ← c2]
        unfold pb_X11_read_74
        rw [if_pos rfl]
/-- the reading from its start -/
theorem read_ok (hF : 1000 < F) (hN : 0 ≤ N ∧ N ≤ 600) (hT : ∀ e, -128 ≤ T e ∧ T e ≤ 127) (hpb : pb < a) (gp : ∀ e, 0 ≤ e → e < N → M pb e = T e) (gt : ∀ e, 0 ≤ e → e < N → R 2 e = T e) (h3 : M a 3 = 0) (h6 : M a 6 = 0) (h7 : M a 7 = -1) (hz : ∀ (d : Nat) (i : Int), 1 ≤ d → d ≤ 7 → 0 ≤ i → i < 12 → M (a + 1 + d) i = 0) (h10 : ∀ v, 0 ≤ v → v < 12 → M (a + 10) v = -1) (t1 : M (a + 11) 1 = N) (t4 : M (a + 11) 4 = 0) (r7 : R 0 7 = N) (r5 : ∀ e, 0 ≤ e → e < 891 → R 5 e = 0) : ∃ M1 R1 w1 ans, p_X6_readAll F pb a (LI M) lg = some (LI M1, lg) ∧ pk_X11_read_48 F (LI R) w = some (zt ans, LI R1, w1) ∧ FrM a M M1 ∧ ReS R a M1 R1 ans := by
  obtain ⟨M1, a1, a2, a3⟩ := y_advance (F := F) (lg := lg) (M := M) (t := a + 11) (pb := pb) (T := T) (N := N) (r := 0) (by omega) (by omega) hN hT (by omega) t1 t4 gp
  have u6 : uM (uM (uM (uM R 0 19 0) 0 15 0) 0 14 (-1)) 0 6 0 0 6 = 0 := uM_eq _ _ _ _
  have u14 : uM (uM (uM (uM R 0 19 0) 0 15 0) 0 14 (-1)) 0 6 0 0 14 = -1 := by rw [uM_nei (by omega), uM_eq]
  have u15 : uM (uM (uM (uM R 0 19 0) 0 15 0) 0 14 (-1)) 0 6 0 0 15 = 0 := by rw [uM_nei (by omega), uM_nei (by omega), uM_eq]
  have u19 : uM (uM (uM (uM R 0 19 0) 0 15 0) 0 14 (-1)) 0 6 0 0 19 = 0 := by rw [uM_nei (by omega), uM_nei (by omega), uM_nei (by omega), uM_eq]
  have uo : ∀ e, e ≠ 6 → e ≠ 14 → e ≠ 15 → e ≠ 19 → uM (uM (uM (uM R 0 19 0) 0 15 0) 0 14 (-1)) 0 6 0 0 e = R 0 e := fun e g6 g14 g15 g19 => by rw [uM_nei g6, uM_nei g14, uM_nei g15, uM_nei g19]
  have uj : ∀ j, j ≠ 0 → uM (uM (uM (uM R 0 19 0) 0 15 0) 0 14 (-1)) 0 6 0 j = R j := fun j hj => by funext e; rw [uM_ne hj, uM_ne hj, uM_ne hj, uM_ne hj]
  have hst : pk_X11_read_48 F (LI R) w = pcU (p_X11_token F (LI (uM (uM (uM (uM R 0 19 0) 0 15 0) 0 14 (-1)) 0 6 0)) w) (fun (sg9 : Nat → Nat → Int32) (w10 : Int64) => fixN (fun _ _ _ => none) (pb_X11_read_74 F) F (1 : Int32) sg9 w10) := by
    unfold pk_X11_read_48
    rw [show (0 : Int32) = zt 0 from rfl, up2_19, gnm_z, show up2 (LI (uM R 0 19 0)) 0 15 (zt 0) = LI (uM (uM R 0 19 0) 0 15 0) from up2_z _ 0 15 0, gnm_z, show up2 (LI (uM (uM R 0 19 0) 0 15 0)) 0 14 (-1 : Int32) = LI (uM (uM (uM R 0 19 0) 0 15 0) 0 14 (-1)) from up2_z _ 0 14 (-1), gnm_z, up2_6, gnm_z]
  generalize uM (uM (uM (uM R 0 19 0) 0 15 0) 0 14 (-1)) 0 6 0 = Rs at u6 u14 u15 u19 uo uj hst
  obtain ⟨R1, w1, b1, b2, b3⟩ := x_token (F := F) (w := w) (R := Rs) (T := T) (N := N) (r := 0) (by omega) hN hT (by omega) (by rw [uo 7 (by omega) (by omega) (by omega) (by omega)]; exact r7) u6 (fun e e0 e1 => by rw [uj 2 (by omega)]; exact gt e e0 e1)
  obtain ⟨s1, s2, s3, s4⟩ := b3.cell
  have hmp := (mpo_le (T := T) (N := N) (r := 0) (by omega) hN.2).1
  have hrg := tk_rng (T := T) (N := N) (r := 0) (by omega) hN.2
  have hq : Q1 M R a T N M1 R1 w1 0 (mpo T N 0) 0 := by
    refine ⟨⟨fun j hj => a3 j (by omega), ⟨fun j g0 g5 g6 g7 g8 => by rw [s1 j g0, uj j g0], fun e g6 g8 g9 g10 g11 g13 g14 g15 g19 => by rw [b3.2 e g6 g8 g9 g10 g11, uo e g6 g14 g15 g19]⟩, ⟨a2, b2, by omega⟩, ⟨by rw [a3 a (by omega), s3, u15]; exact h6, by rw [a3 a (by omega), s2, u14]; exact h7, by rw [s3, u15]; omega, by rw [s2, u14]; omega⟩, ⟨by rw [s4, u19]; omega, fun j j0 j1 => by rw [s4, u19] at j1; omega, fun v v0 v1 => Or.inl ⟨by rw [a3 _ (by omega)]; exact h10 v v0 v1, fun j j0 j1 => by rw [s4, u19] at j1; omega⟩⟩, fun i i0 i1 => by rw [a3 _ (by omega), hz 6 i (by omega) (by omega) i0 i1]; omega, fun e e0 e1 => by rw [s1 5 (by omega), uj 5 (by omega)]; exact r5 e (by omega) e1⟩, ⟨by rw [a3 a (by omega)]; exact h3, by omega, by omega⟩, Or.inl ⟨by omega, by rw [s1 5 (by omega), uj 5 (by omega)]; exact r5 0 (by omega) (by omega)⟩, fun _ => ⟨by omega, fun j j0 j1 => by rw [s4, u19] at j1; omega, fun i i0 i1 => by omega, fun i d i0 i1 d1 d2 => by rw [a3 _ (by omega)]; exact hz d i d1 d2 i0 i1⟩⟩
  obtain ⟨M2, R2, w2, ans, c1, c2, c3, c4⟩ := all_loop (F := F) (lg := lg) (pb := pb) hF hN hT hpb gp gt 601 0 0 0 M1 R1 w1 F (by omega) (by omega) (by omega) (by omega) hq
  refine ⟨M2, R2, w2, ans, ?_, ?_, c3, c4⟩
  · unfold p_X6_readAll
    rw [a1, hcU_z]
    exact c1
  · rw [hst, b1, pcU_z]
    exact c2
end RD9
