/-! The class's calls over memory: counts, parts, things, tries, images, typing. -/
theorem v_aIz {X : Type} {K : HK} {pr rr : HP} {pt : Nat → Nat} {M : ZM} {lg : Nat → Nat → Int64} {q t N : Nat} {i : Int} {Kk : Int32 → Option X} (hk : K q = some (.inl (t, N))) (ht : t ≤ 2) (hi : 0 ≤ i ∧ i < (N : Int)) (hN : N < 10000) : Option.bind (aI (hp K pr pt rr (LI M) lg) q t (zt i)) Kk = Kk (zt (M q i)) := by
  have := c_aI (Z := X) (Y := X) (fin := fun z => z) (Kk := Kk) (K1 := Kk) (rr := rr) (pr := pr) (pt := pt) (sg := LI M) (lg := lg) (i := zt i) hk ht (fun s1 => (q_mid _).symm)
  rw [this, mI_z hi.1 hi.2 (by omega), q_mid]
  rfl
section CC
variable {B : Int} {x : Nat} {K : HK} {pr : HP} {pt : Nat → Nat} {rr : HP} {n : Nat} {M : ZM} {lg : Nat → Nat → Int64} {A T : Int → Int} {U : List (Int → Int)} {I : IMG} {F : Nat}
theorem v_count {k : Int} (hF : 70 < F) (hk : -2147483648 ≤ k ∧ k < 2147483648) (h : CI B x K pr pt rr n M lg A T U I) : f_X10_count F x (zt k) (hp K pr pt rr (LI M) lg) = some (zt (cntS A U.length k)) := by
  have hs := h.1
  have hG := h.2.1.2
  obtain ⟨q1, q2, q3, q4⟩ := h.2.1.1
  have hc := hG.rng
  unfold f_X10_count
  simp only [v_gR hs.o10 rfl hs.r1, v_gR hs.o10 rfl hs.r0, v_gR hs.o10 rfl hs.r6, v_gP (k := 0) hs.b0.k0 rfl, v_gR hs.b0.k0 rfl hs.b0.p4, v_gR hs.b0.k0 rfl hs.b0.p5, v_gI (k := 0) hs.b0.o0.k0 rfl, v_gI (k := 1) hs.b0.k0 rfl, v_gI (k := 0) hs.b0.o4.k0 rfl, v_gI (k := 1) hs.k3 rfl, v_gI (k := 1) hs.pap.k0 rfl, v_gI (k := 1) hs.b0.o5.k0 rfl, v_gI (k := 0) hs.b0.o5.k0 rfl, v_cvP hs.b0.o4.k0 ((e_X7_countValued hs.b0.o4).trans (y_countValued hF hG.1.2.2.1 q3)), v_cvP hs.b0.k0 ((e_X0_countMade hs.b0).trans (y_countMade hF q3)), v_cvP hs.b0.k0 ((e_X0_countStandIns hs.b0).trans (y_countStandIns hF hG.1.2.1 (by omega) q2)), v_cvP hs.b0.o5.k0 ((e_X9_countBad hs.b0.o5 hs.b0.o0).trans (y_countBad hF hG.1.1 hG.2.1.2 hG.2.2 q1 q4))]
  simp only [LI_0, LI_1, q1.1, q2.1, q3.2.1, q4.1, q4.2.1, h.2.2.1.1.1, h.2.2.2.1.1, zt_lit, zt_neg]
  rw [sw_cons hk _ _ _ 0 (by omega), sw_cons hk _ _ _ (0 + 1) (by omega), sw_cons hk _ _ _ (0 + 1 + 1) (by omega), sw_cons hk _ _ _ (0 + 1 + 1 + 1) (by omega), sw_cons hk _ _ _ (0 + 1 + 1 + 1 + 1) (by omega), sw_cons hk _ _ _ (0 + 1 + 1 + 1 + 1 + 1) (by omega), sw_cons hk _ _ _ (0 + 1 + 1 + 1 + 1 + 1 + 1) (by omega), sw_cons hk _ _ _ (0 + 1 + 1 + 1 + 1 + 1 + 1 + 1) (by omega), sw_cons hk _ _ _ (0 + 1 + 1 + 1 + 1 + 1 + 1 + 1 + 1) (by omega), sw_cons hk _ _ _ (0 + 1 + 1 + 1 + 1 + 1 + 1 + 1 + 1 + 1) (by omega), sw_cons hk _ _ _ (0 + 1 + 1 + 1 + 1 + 1 + 1 + 1 + 1 + 1 + 1) (by omega), sw_nil]
  unfold cntS
  by_cases q0q : k = 0
  · rw [if_pos (by omega), if_pos (by omega)]
  by_cases q1q : k = 1
  · rw [if_neg (by omega), if_pos (by omega), if_neg (by omega), if_pos (by omega)]
  by_cases q2q : k = 2
  · rw [if_neg (by omega), if_neg (by omega), if_pos (by omega), if_neg (by omega), if_neg (by omega), if_pos (by omega)]
  by_cases q3q : k = 3
  · rw [if_neg (by omega), if_neg (by omega), if_neg (by omega), if_pos (by omega), if_neg (by omega), if_neg (by omega), if_neg (by omega), if_pos (by omega)]
  by_cases q4q : k = 4
  · rw [if_neg (by omega), if_neg (by omega), if_neg (by omega), if_neg (by omega), if_pos (by omega), if_neg (by omega), if_neg (by omega), if_neg (by omega), if_neg (by omega), if_pos (by omega)]
  by_cases q5q : k = 5
  · rw [if_neg (by omega), if_neg (by omega), if_neg (by omega), if_neg (by omega), if_neg (by omega), if_pos (by omega), if_neg (by omega), if_neg (by omega), if_neg (by omega), if_neg (by omega), if_neg (by omega), if_pos (by omega)]
  by_cases q6q : k = 6
  · rw [if_neg (by omega), if_neg (by omega), if_neg (by omega), if_neg (by omega), if_neg (by omega), if_neg (by omega), if_pos (by omega), if_neg (by omega), if_neg (by omega), if_neg (by omega), if_neg (by omega), if_neg (by omega), if_neg (by omega), if_pos (by omega)]
  by_cases q7q : k = 7
  · rw [if_neg (by omega), if_neg (by omega), if_neg (by omega), if_neg (by omega), if_neg (by omega), if_neg (by omega), if_neg (by omega), if_pos (by omega), if_neg (by omega), if_neg (by omega), if_neg (by omega), if_neg (by omega), if_neg (by omega), if_neg (by omega), if_neg (by omega), if_pos (by omega)]
  by_cases q8q : k = 8
  · rw [if_neg (by omega), if_neg (by omega), if_neg (by omega), if_neg (by omega), if_neg (by omega), if_neg (by omega), if_neg (by omega), if_neg (by omega), if_pos (by omega), if_neg (by omega), if_neg (by omega), if_neg (by omega), if_neg (by omega), if_neg (by omega), if_neg (by omega), if_neg (by omega), if_neg (by omega), if_pos (by omega)]
  by_cases q9q : k = 9
  · rw [if_neg (by omega), if_neg (by omega), if_neg (by omega), if_neg (by omega), if_neg (by omega), if_neg (by omega), if_neg (by omega), if_neg (by omega), if_neg (by omega), if_pos (by omega), if_neg (by omega), if_neg (by omega), if_neg (by omega), if_neg (by omega), if_neg (by omega), if_neg (by omega), if_neg (by omega), if_neg (by omega), if_neg (by omega), if_pos (by omega)]
  by_cases q10q : k = 10
  · rw [if_neg (by omega), if_neg (by omega), if_neg (by omega), if_neg (by omega), if_neg (by omega), if_neg (by omega), if_neg (by omega), if_neg (by omega), if_neg (by omega), if_neg (by omega), if_pos (by omega), if_neg (by omega), if_neg (by omega), if_neg (by omega), if_neg (by omega), if_neg (by omega), if_neg (by omega), if_neg (by omega), if_neg (by omega), if_neg (by omega), if_neg (by omega), if_pos (by omega)]
  rw [if_neg (by omega), if_neg (by omega), if_neg (by omega), if_neg (by omega), if_neg (by omega), if_neg (by omega), if_neg (by omega), if_neg (by omega), if_neg (by omega), if_neg (by omega), if_neg (by omega), if_neg (by omega), if_neg (by omega), if_neg (by omega), if_neg (by omega), if_neg (by omega), if_neg (by omega), if_neg (by omega), if_neg (by omega), if_neg (by omega), if_neg (by omega), if_neg (by omega)]
theorem v_part {p k : Int} (hF : 70 < F) (hp0 : -2147483648 ≤ p ∧ p < 2147483648) (hk : -2147483648 ≤ k ∧ k < 2147483648) (h : CI B x K pr pt rr n M lg A T U I) : (¬ ((0 ≤ p ∧ p < A 0) ∧ 0 ≤ k ∧ k ≤ 8) → f_X10_part F x (zt p) (zt k) (hp K pr pt rr (LI M) lg) = none ∧ fx_X10_part F x (zt p) (zt k) (hp K pr pt rr (LI M) lg) = some ()) ∧ (((0 ≤ p ∧ p < A 0) ∧ 0 ≤ k ∧ k ≤ 8) → f_X10_part F x (zt p) (zt k) (hp K pr pt rr (LI M) lg) = some (zt (prtS A p k))) := by
  have hs := h.1
  have hG := h.2.1.2
  obtain ⟨q1, q2, q3, q4⟩ := h.2.1.1
  have hc := hG.rng
  have h0 : M (pt (x + 16)) 0 = A 0 := q1.1
  unfold f_X10_part fx_X10_part
  by_cases c1 : 0 ≤ p ∧ p < A 0
  · simp only [v_gR hs.o10 rfl hs.r1, v_gP (k := 0) hs.b0.k0 rfl, v_cvP hs.b0.o0.k0 ((e_X3_holds hs.b0.o0).trans (y_holds3 hp0 (show 0 ≤ M (pt (x + 16)) 0 ∧ M (pt (x + 16)) 0 ≤ 12 by omega))), h0, if_pos c1, if_neg zz1]
    obtain ⟨r1, r2, r3, r4, r5, r6, r7, r8⟩ := q1.2 p c1.1 c1.2
    obtain ⟨-, -, -, -, -, -, w7⟩ := hG.1.1.2 p c1.1 c1.2
    have r9 := q3.1 p c1.1 (by omega)
    simp only [v_gR hs.o10 rfl hs.r1, v_gR hs.b0.k0 rfl hs.b0.p4, v_gR hs.b0.k0 rfl hs.b0.p3, v_gR hs.b0.o0.k0 rfl hs.b0.o0.p1, v_gR hs.b0.o0.k0 rfl hs.b0.o0.p2, v_gR hs.b0.o0.k0 rfl hs.b0.o0.p3, v_gR hs.b0.o0.k0 rfl hs.b0.o0.p4, v_gR hs.b0.o0.k0 rfl hs.b0.o0.p5, v_gR hs.b0.o0.k0 rfl hs.b0.o0.p6, v_gR hs.b0.o0.k0 rfl hs.b0.o0.p7, v_aIz hs.b0.o0.k1 (by decide) (show 0 ≤ p ∧ p < ((12 : Nat) : Int) by omega) (by decide), v_aIz hs.b0.o0.k2 (by decide) (show 0 ≤ p ∧ p < ((12 : Nat) : Int) by omega) (by decide), v_aIz hs.b0.o0.k3 (by decide) (show 0 ≤ p ∧ p < ((12 : Nat) : Int) by omega) (by decide), v_aIz hs.b0.o0.k4 (by decide) (show 0 ≤ p ∧ p < ((12 : Nat) : Int) by omega) (by decide), v_aIz hs.b0.o0.k5 (by decide) (show 0 ≤ p ∧ p < ((12 : Nat) : Int) by omega) (by decide), v_aIz hs.b0.o0.k6 (by decide) (show 0 ≤ p ∧ p < ((12 : Nat) : Int) by omega) (by decide), v_aIz hs.b0.o0.k7 (by decide) (show 0 ≤ p ∧ p < ((12 : Nat) : Int) by omega) (by decide), v_aIz hs.b0.k2 (by decide) (show 0 ≤ p ∧ p < ((12 : Nat) : Int) by omega) (by decide), v_cvP hs.b0.o4.k0 ((e_X7_countOf hs.b0.o4).trans (y_countOf hF hG.1.2.2.1 (by omega) (show 0 ≤ p ∧ p < 12 by omega) q3)), r1, r2, r3, r4, r5, r6, r7, r9]
    have hb : (if zt (A (1 + 11 * p + 10)) = 0 then some (0 : Int32) else some 1) = some (zt (A (1 + 11 * p + 10))) := by
      rcases (show A (1 + 11 * p + 10) = 0 ∨ A (1 + 11 * p + 10) = 1 by omega) with e | e <;> rw [e] <;> rfl
    have hb2 : (if zt (A (1 + 11 * p + 10)) = 0 then (none : Option Unit) else none) = none := by split <;> rfl
    rw [hb, hb2]
    rw [sw_cons hk _ _ _ 0 (by omega), sw_cons hk _ _ _ (0 + 1) (by omega), sw_cons hk _ _ _ (0 + 1 + 1) (by omega), sw_cons hk _ _ _ (0 + 1 + 1 + 1) (by omega), sw_cons hk _ _ _ (0 + 1 + 1 + 1 + 1) (by omega), sw_cons hk _ _ _ (0 + 1 + 1 + 1 + 1 + 1) (by omega), sw_cons hk _ _ _ (0 + 1 + 1 + 1 + 1 + 1 + 1) (by omega), sw_cons hk _ _ _ (0 + 1 + 1 + 1 + 1 + 1 + 1 + 1) (by omega), sw_cons hk _ _ _ (0 + 1 + 1 + 1 + 1 + 1 + 1 + 1 + 1) (by omega), sw_nil, sw_cons hk _ _ _ 0 (by omega), sw_cons hk _ _ _ (0 + 1) (by omega), sw_cons hk _ _ _ (0 + 1 + 1) (by omega), sw_cons hk _ _ _ (0 + 1 + 1 + 1) (by omega), sw_cons hk _ _ _ (0 + 1 + 1 + 1 + 1) (by omega), sw_cons hk _ _ _ (0 + 1 + 1 + 1 + 1 + 1) (by omega), sw_cons hk _ _ _ (0 + 1 + 1 + 1 + 1 + 1 + 1) (by omega), sw_cons hk _ _ _ (0 + 1 + 1 + 1 + 1 + 1 + 1 + 1) (by omega), sw_cons hk _ _ _ (0 + 1 + 1 + 1 + 1 + 1 + 1 + 1 + 1) (by omega), sw_nil]
    refine ⟨fun e => ?_, fun e => ?_⟩
    · rw [if_neg (by omega), if_neg (by omega), if_neg (by omega), if_neg (by omega), if_neg (by omega), if_neg (by omega), if_neg (by omega), if_neg (by omega), if_neg (by omega), if_neg (by omega), if_neg (by omega), if_neg (by omega), if_neg (by omega), if_neg (by omega), if_neg (by omega), if_neg (by omega), if_neg (by omega), if_neg (by omega)]
      exact ⟨rfl, rfl⟩
    · unfold prtS
      rw [show A (1 + 11 * p + 0) = A (1 + 11 * p) from congrArg A (by omega)]
      by_cases q0q : k = 0
      · rw [if_pos (by omega), if_pos (by omega)]
      by_cases q1q : k = 1
      · rw [if_neg (by omega), if_pos (by omega), if_neg (by omega), if_pos (by omega)]
      by_cases q2q : k = 2
      · rw [if_neg (by omega), if_neg (by omega), if_pos (by omega), if_neg (by omega), if_neg (by omega), if_pos (by omega)]
      by_cases q3q : k = 3
      · rw [if_neg (by omega), if_neg (by omega), if_neg (by omega), if_pos (by omega), if_neg (by omega), if_neg (by omega), if_neg (by omega), if_pos (by omega)]
      by_cases q4q : k = 4
      · rw [if_neg (by omega), if_neg (by omega), if_neg (by omega), if_neg (by omega), if_pos (by omega), if_neg (by omega), if_neg (by omega), if_neg (by omega), if_neg (by omega), if_pos (by omega)]
      by_cases q5q : k = 5
      · rw [if_neg (by omega), if_neg (by omega), if_neg (by omega), if_neg (by omega), if_neg (by omega), if_pos (by omega), if_neg (by omega), if_neg (by omega), if_neg (by omega), if_neg (by omega), if_neg (by omega), if_pos (by omega)]
      by_cases q6q : k = 6
      · rw [if_neg (by omega), if_neg (by omega), if_neg (by omega), if_neg (by omega), if_neg (by omega), if_neg (by omega), if_pos (by omega), if_neg (by omega), if_neg (by omega), if_neg (by omega), if_neg (by omega), if_neg (by omega), if_neg (by omega), if_pos (by omega)]
      by_cases q7q : k = 7
      · rw [if_neg (by omega), if_neg (by omega), if_neg (by omega), if_neg (by omega), if_neg (by omega), if_neg (by omega), if_neg (by omega), if_pos (by omega), if_neg (by omega), if_neg (by omega), if_neg (by omega), if_neg (by omega), if_neg (by omega), if_neg (by omega), if_neg (by omega), if_pos (by omega)]
      rw [if_neg (by omega), if_neg (by omega), if_neg (by omega), if_neg (by omega), if_neg (by omega), if_neg (by omega), if_neg (by omega), if_neg (by omega), if_pos (by omega), if_neg (by omega), if_neg (by omega), if_neg (by omega), if_neg (by omega), if_neg (by omega), if_neg (by omega), if_neg (by omega), if_neg (by omega)]
  · simp only [v_gR hs.o10 rfl hs.r1, v_gP (k := 0) hs.b0.k0 rfl, v_cvP hs.b0.o0.k0 ((e_X3_holds hs.b0.o0).trans (y_holds3 hp0 (show 0 ≤ M (pt (x + 16)) 0 ∧ M (pt (x + 16)) 0 ≤ 12 by omega))), h0, if_neg c1, if_pos zz0]
    exact ⟨fun _ => ⟨trivial, trivial⟩, fun e => absurd e.1 c1⟩
theorem v_thing {t k : Int} (hF : 70 < F) (ht0 : -2147483648 ≤ t ∧ t < 2147483648) (hk : -2147483648 ≤ k ∧ k < 2147483648) (h : CI B x K pr pt rr n M lg A T U I) : (¬ ((0 ≤ t ∧ t < A 206) ∧ 0 ≤ k ∧ k ≤ 4) → f_X10_thing F x (zt t) (zt k) (hp K pr pt rr (LI M) lg) = none ∧ fx_X10_thing F x (zt t) (zt k) (hp K pr pt rr (LI M) lg) = some ()) ∧ (((0 ≤ t ∧ t < A 206) ∧ 0 ≤ k ∧ k ≤ 4) → f_X10_thing F x (zt t) (zt k) (hp K pr pt rr (LI M) lg) = some (zt (thgS A t k))) := by
  have hs := h.1
  have hG := h.2.1.2
  obtain ⟨q1, q2, q3, q4⟩ := h.2.1.1
  have hc := hG.rng
  have h0 : M (x + 16 + 3) 0 = A 206 := q3.2.1
  unfold f_X10_thing fx_X10_thing
  by_cases c1 : 0 ≤ t ∧ t < A 206
  · simp only [v_gR hs.o10 rfl hs.r1, v_gR hs.b0.k0 rfl hs.b0.p4, v_cvP hs.b0.o4.k0 ((e_X7_holds hs.b0.o4).trans (y_holds7 ht0 (show 0 ≤ M (x + 16 + 3) 0 ∧ M (x + 16 + 3) 0 ≤ 60 by omega))), h0, if_pos c1, if_neg zz1]
    obtain ⟨r1, r2, r3, r4, r5⟩ := q3.2.2 t c1.1 c1.2
    obtain ⟨-, -, w3, -⟩ := hG.1.2.2.1.2 t c1.1 c1.2
    simp only [v_gR hs.b0.o4.k0 rfl hs.b0.o4.p1, v_gR hs.b0.o4.k0 rfl hs.b0.o4.p2, v_gR hs.b0.o4.k0 rfl hs.b0.o4.p3, v_gR hs.b0.o4.k0 rfl hs.b0.o4.p4, v_aIz hs.b0.o4.k1 (by decide) (show 0 ≤ t ∧ t < ((60 : Nat) : Int) by omega) (by decide), v_aIz hs.b0.o4.k2 (by decide) (show 0 ≤ t ∧ t < ((60 : Nat) : Int) by omega) (by decide), v_aIz hs.b0.o4.k3 (by decide) (show 0 ≤ t ∧ t < ((60 : Nat) : Int) by omega) (by decide), v_aIz hs.b0.o4.k4 (by decide) (show 0 ≤ t ∧ t < ((60 : Nat) : Int) by omega) (by decide), v_cvP hs.b0.o4.k0 ((e_X7_countOwned hs.b0.o4).trans (y_countOwned hF hG.1.2.2.1 c1 q3)), r1, r2, r3, r4]
    have hb : (if zt (A (207 + 8 * t + 2)) = 0 then some (0 : Int32) else some 1) = some (zt (A (207 + 8 * t + 2))) := by
      rcases (show A (207 + 8 * t + 2) = 0 ∨ A (207 + 8 * t + 2) = 1 by omega) with e | e <;> rw [e] <;> rfl
    have hb2 : (if zt (A (207 + 8 * t + 2)) = 0 then (none : Option Unit) else none) = none := by split <;> rfl
    rw [hb, hb2]
    rw [sw_cons hk _ _ _ 0 (by omega), sw_cons hk _ _ _ (0 + 1) (by omega), sw_cons hk _ _ _ (0 + 1 + 1) (by omega), sw_cons hk _ _ _ (0 + 1 + 1 + 1) (by omega), sw_cons hk _ _ _ (0 + 1 + 1 + 1 + 1) (by omega), sw_nil, sw_cons hk _ _ _ 0 (by omega), sw_cons hk _ _ _ (0 + 1) (by omega), sw_cons hk _ _ _ (0 + 1 + 1) (by omega), sw_cons hk _ _ _ (0 + 1 + 1 + 1) (by omega), sw_cons hk _ _ _ (0 + 1 + 1 + 1 + 1) (by omega), sw_nil]
    refine ⟨fun e => ?_, fun e => ?_⟩
    · rw [if_neg (by omega), if_neg (by omega), if_neg (by omega), if_neg (by omega), if_neg (by omega), if_neg (by omega), if_neg (by omega), if_neg (by omega), if_neg (by omega), if_neg (by omega)]
      exact ⟨rfl, rfl⟩
    · unfold thgS
      by_cases q0q : k = 0
      · rw [if_pos (by omega), if_pos (by omega), q0q]; rw [Int.add_zero]
      by_cases q1q : k = 1
      · rw [if_neg (by omega), if_pos (by omega), if_pos (by omega), q1q]
      by_cases q2q : k = 2
      · rw [if_neg (by omega), if_neg (by omega), if_pos (by omega), if_pos (by omega), q2q]
      by_cases q3q : k = 3
      · rw [if_neg (by omega), if_neg (by omega), if_neg (by omega), if_pos (by omega), if_pos (by omega), q3q]
      rw [if_neg (by omega), if_neg (by omega), if_neg (by omega), if_neg (by omega), if_pos (by omega), if_neg (by omega)]
  · simp only [v_gR hs.o10 rfl hs.r1, v_gR hs.b0.k0 rfl hs.b0.p4, v_cvP hs.b0.o4.k0 ((e_X7_holds hs.b0.o4).trans (y_holds7 ht0 (show 0 ≤ M (x + 16 + 3) 0 ∧ M (x + 16 + 3) 0 ≤ 60 by omega))), h0, if_neg c1, if_pos zz0]
    exact ⟨fun _ => ⟨trivial, trivial⟩, fun e => absurd e.1 c1⟩
end CC
