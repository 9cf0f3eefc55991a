/-! The reference's questions, images. -/
section RQ
variable {w : Int64} {F : Nat} {B : Int}
theorem x_fault {R : ZM} {k : Int32} : p_X11_fault F k (LI R) w = some (zt (if k = 0 then R 1 892 else R 1 893), LI (R0 R), w) := by
  unfold p_X11_fault
  rw [show up2 (LI R) 0 0 (0 : Int32) = LI (R0 R) from R0_z R, gnm_z]
  by_cases q : k = 0
  · rw [if_pos q, if_pos q]
    simp (disch := omega) only [zt_lit, mI_z, ob_z, R0_row, ne_eq, Nat.one_ne_zero, not_false_eq_true]
  · rw [if_neg q, if_neg q]
    simp (disch := omega) only [zt_lit, mI_z, ob_z, R0_row, ne_eq, Nat.one_ne_zero, not_false_eq_true]
theorem x_need {R : ZM} {p k : Int} (hp : -2147483648 ≤ p ∧ p < 2147483648) (hk : -2147483648 ≤ k ∧ k < 2147483648) (hA : FI B (R 1) 0) : p_X11_need F (zt p) (zt k) (LI R) w = some (zt (if (0 ≤ p ∧ p < R 1 0) ∧ 0 ≤ k ∧ k < R 1 (1 + 11 * p + 2) then R 1 (1 + 11 * p + (3 + k)) else -1), LI (R0 R), w) := by
  have hc := hA.1.1
  have e1 : R0 R 1 = R 1 := R0_row (by omega)
  unfold p_X11_need
  rw [show (0 : Int32) = zt 0 from rfl, R0_z, gnm_z, x_isPart hp (by rw [e1]; exact hc), ob_z, e1]
  by_cases q1 : 0 ≤ p ∧ p < R 1 0
  · have hn := (hA.1.2 p q1.1 q1.2).2.1
    rw [if_pos (show 0 ≤ p ∧ p ≤ R 1 0 - 1 by omega), if_neg (by decide)]
    simp (disch := omega) only [zt_lit, x_of, ob_z, e1, zt_sub, x_in]
    by_cases q2 : 0 ≤ k ∧ k < R 1 (1 + 11 * p + 2)
    · rw [if_pos (show 0 ≤ k ∧ k ≤ R 1 (1 + 11 * p + 2) - 1 by omega), if_neg (by decide), if_pos ⟨q1, q2⟩]
      simp (disch := omega) only [zt_add, x_of, ob_z, e1]
    · rw [if_neg (show ¬ (0 ≤ k ∧ k ≤ R 1 (1 + 11 * p + 2) - 1) by omega), if_pos rfl, if_neg (fun h => q2 h.2)]
      rfl
  · rw [if_neg (show ¬ (0 ≤ p ∧ p ≤ R 1 0 - 1) by omega), if_pos rfl, if_neg (fun h => q1 h.1)]
    rfl
theorem x_has {R : ZM} {t k : Int} (hp : -2147483648 ≤ t ∧ t < 2147483648) (hk : -2147483648 ≤ k ∧ k < 2147483648) (hA : FI B (R 1) 0) : p_X11_has F (zt t) (zt k) (LI R) w = some (zt (if (0 ≤ t ∧ t < R 1 206) ∧ 0 ≤ k ∧ k < 4 then R 1 (207 + 8 * t + (4 + k)) - 1 else -1), LI (R0 R), w) := by
  have hm := hA.2.2.1.1
  have e1 : R0 R 1 = R 1 := R0_row (by omega)
  unfold p_X11_has
  rw [show (0 : Int32) = zt 0 from rfl, R0_z, gnm_z, x_isThing hp (by rw [e1]; exact hm), ob_z, e1]
  by_cases q1 : 0 ≤ t ∧ t < R 1 206
  · rw [if_pos (show 0 ≤ t ∧ t ≤ R 1 206 - 1 by omega), if_neg (by decide)]
    simp (disch := omega) only [zt_lit, ob_z, x_in]
    by_cases q2 : 0 ≤ k ∧ k < 4
    · rw [if_pos (show 0 ≤ k ∧ k ≤ 3 by omega), if_neg (by decide), if_pos ⟨q1, q2⟩]
      simp (disch := omega) only [zt_add, x_its, ob_z, e1, zt_sub]
    · rw [if_neg (show ¬ (0 ≤ k ∧ k ≤ 3) by omega), if_pos rfl, if_neg (fun h => q2 h.2)]
      rfl
  · rw [if_neg (show ¬ (0 ≤ t ∧ t ≤ R 1 206 - 1) by omega), if_pos rfl, if_neg (fun h => q1 h.1)]
    rfl
theorem x_stands {R : ZM} {p s : Int} (hF : 8 < F) (hp : -2147483648 ≤ p ∧ p < 2147483648) (hk : -2147483648 ≤ s ∧ s < 2147483648) (hA : FI B (R 1) 0) : p_X11_stands F (zt p) (zt s) (LI R) w = some (zt (if (0 ≤ p ∧ p < R 1 0) ∧ 0 ≤ s ∧ s ≤ R 1 145 then sSt (R 1) p (s + 1).toNat else -1), LI (R0 R), w) := by
  have hc := hA.1.1
  have hS := hA.2.1
  have hS1 := hS.1
  have e1 : R0 R 1 = R 1 := R0_row (by omega)
  unfold p_X11_stands
  rw [show (0 : Int32) = zt 0 from rfl, R0_z, gnm_z, x_isPart hp (by rw [e1]; exact hc), ob_z, e1]
  by_cases q1 : 0 ≤ p ∧ p < R 1 0
  · rw [if_pos (show 0 ≤ p ∧ p ≤ R 1 0 - 1 by omega), if_neg (by decide)]
    simp (disch := omega) only [zt_lit, mI_z, ob_z, e1, x_in]
    by_cases q2 : 0 ≤ s ∧ s ≤ R 1 145
    · rw [if_pos q2, if_neg (by decide), if_pos ⟨q1, q2⟩, x_standsFor hF (by omega) (by omega) (by rw [e1]; exact hS) (by rw [e1]; exact hc.2), ob_z, e1]
    · rw [if_neg q2, if_pos rfl, if_neg (fun h => q2 h.2)]
      rfl
  · rw [if_neg (show ¬ (0 ≤ p ∧ p ≤ R 1 0 - 1) by omega), if_pos rfl, if_neg (fun h => q1 h.1)]
    rfl
theorem x_why {R : ZM} {k : Int} (hk : -2147483648 ≤ k ∧ k < 2147483648) (hW : WT (R 1)) : p_X11_why F (zt k) (LI R) w = some (zt (if 0 ≤ k ∧ k < R 1 809 then R 1 (811 + k) else -1), LI (R0 R), w) := by
  have h9 := hW.1
  have e1 : R0 R 1 = R 1 := R0_row (by omega)
  unfold p_X11_why
  rw [show (0 : Int32) = zt 0 from rfl, R0_z, gnm_z]
  simp (disch := omega) only [zt_lit, mI_z, ob_z, e1, zt_sub, x_in]
  by_cases q2 : 0 ≤ k ∧ k < R 1 809
  · rw [if_pos (show 0 ≤ k ∧ k ≤ R 1 809 - 1 by omega), if_neg (by decide), if_pos q2]
    simp (disch := omega) only [zt_add, mI_z, ob_z, e1]
  · rw [if_neg (show ¬ (0 ≤ k ∧ k ≤ R 1 809 - 1) by omega), if_pos rfl, if_neg q2]
    rfl
theorem x_ended {R : ZM} {k : Int} {bb : Int32} (hk : -2147483648 ≤ k ∧ k < 2147483648) (hW : WT (R 1)) (hb : BDr (R 1)) : p_X11_ended F (zt k) bb (LI R) w = some (zt (if bb = 0 then (if 0 ≤ k ∧ k < R 1 687 then R 1 (688 + k) else -1) else (if 0 ≤ k ∧ k < R 1 748 then R 1 (749 + k) else -1)), LI (R0 R), w) := by
  have h7 := hW.2
  have h8 := hb.rng h7
  have e1 : R0 R 1 = R 1 := R0_row (by omega)
  unfold p_X11_ended
  rw [show up2 (LI R) 0 0 (0 : Int32) = LI (R0 R) from R0_z R, gnm_z]
  by_cases q : bb = 0
  · rw [if_pos q, if_pos q]
    simp (disch := omega) only [zt_lit, mI_z, ob_z, e1, zt_sub, x_in]
    by_cases q2 : 0 ≤ k ∧ k < R 1 687
    · rw [if_pos (show 0 ≤ k ∧ k ≤ R 1 687 - 1 by omega), if_neg (by decide), if_pos q2]
      simp (disch := omega) only [zt_add, mI_z, ob_z, e1]
    · rw [if_neg (show ¬ (0 ≤ k ∧ k ≤ R 1 687 - 1) by omega), if_pos rfl, if_neg q2]
      rfl
  · rw [if_neg q, if_neg q]
    simp (disch := omega) only [zt_lit, mI_z, ob_z, e1, zt_sub, x_in]
    by_cases q2 : 0 ≤ k ∧ k < R 1 748
    · rw [if_pos (show 0 ≤ k ∧ k ≤ R 1 748 - 1 by omega), if_neg (by decide), if_pos q2]
      simp (disch := omega) only [zt_add, mI_z, ob_z, e1]
    · rw [if_neg (show ¬ (0 ≤ k ∧ k ≤ R 1 748 - 1) by omega), if_pos rfl, if_neg q2]
      rfl
theorem sw_nil {X : Type} (x : Int32) (d : Option X) (k : Nat) : g_sw x [] d k = d := rfl
theorem sw_cons {X : Type} {x : Int} (hx : -2147483648 ≤ x ∧ x < 2147483648) (a : Option X) (l : List (Option X)) (d : Option X) (k : Nat) (hk : k < 1000) : g_sw (zt x) (a :: l) d k = if x = (k : Int) then a else g_sw (zt x) l d (k + 1) := by
  rw [g_sw]
  have e : (zt x = nI k) = (x = (k : Int)) := by
    rw [show nI k = zt (k : Int) from zt_ofNat k]
    exact zt_eq hx.1 hx.2 (by omega) (by omega)
  simp only [e]
theorem x_count {R : ZM} {k : Int} (hF : 70 < F) (hk : -2147483648 ≤ k ∧ k < 2147483648) (hA : FI B (R 1) 0) : p_X11_count F (zt k) (LI R) w = some (zt (cntS (R 1) (R 0 5) k), LI (R0 R), w) := by
  have hc := hA.1.1
  have e1 : R0 R 1 = R 1 := R0_row (by omega)
  have e5 : R0 R 0 5 = R 0 5 := uM_nei (by omega)
  unfold p_X11_count
  rw [show up2 (LI R) 0 0 (0 : Int32) = LI (R0 R) from R0_z R, gnm_z]
  rw [x_valueMany hF (by rw [e1]; exact hA.2.2.1), x_madeMany hF, x_standMany hF (by rw [e1]; exact hA.2.1) (by rw [e1]; exact hc.2)]
  simp (disch := omega) only [zt_lit, mI_z, ob_z, e1, zt_neg, LI_5, e5]
  rw [sw_cons hk _ _ _ 0 (by omega), sw_cons hk _ _ _ (0 + 1) (by omega), sw_cons hk _ _ _ (0 + 1 + 1) (by omega), sw_cons hk _ _ _ (0 + 1 + 1 + 1) (by omega), sw_cons hk _ _ _ (0 + 1 + 1 + 1 + 1) (by omega), sw_cons hk _ _ _ (0 + 1 + 1 + 1 + 1 + 1) (by omega), sw_cons hk _ _ _ (0 + 1 + 1 + 1 + 1 + 1 + 1) (by omega), sw_cons hk _ _ _ (0 + 1 + 1 + 1 + 1 + 1 + 1 + 1) (by omega), sw_cons hk _ _ _ (0 + 1 + 1 + 1 + 1 + 1 + 1 + 1 + 1) (by omega), sw_cons hk _ _ _ (0 + 1 + 1 + 1 + 1 + 1 + 1 + 1 + 1 + 1) (by omega), sw_cons hk _ _ _ (0 + 1 + 1 + 1 + 1 + 1 + 1 + 1 + 1 + 1 + 1) (by omega), sw_nil]
  unfold cntS
  by_cases q0q : k = 0
  · rw [if_pos (by omega), if_pos (by omega)]
  by_cases q1q : k = 1
  · rw [if_neg (by omega), if_pos (by omega), if_neg (by omega), if_pos (by omega)]
  by_cases q2q : k = 2
  · rw [if_neg (by omega), if_neg (by omega), if_pos (by omega), if_neg (by omega), if_neg (by omega), if_pos (by omega)]
  by_cases q3q : k = 3
  · rw [if_neg (by omega), if_neg (by omega), if_neg (by omega), if_pos (by omega), if_neg (by omega), if_neg (by omega), if_neg (by omega), if_pos (by omega)]
  by_cases q4q : k = 4
  · rw [if_neg (by omega), if_neg (by omega), if_neg (by omega), if_neg (by omega), if_pos (by omega), if_neg (by omega), if_neg (by omega), if_neg (by omega), if_neg (by omega), if_pos (by omega)]
  by_cases q5q : k = 5
  · rw [if_neg (by omega), if_neg (by omega), if_neg (by omega), if_neg (by omega), if_neg (by omega), if_pos (by omega), if_neg (by omega), if_neg (by omega), if_neg (by omega), if_neg (by omega), if_neg (by omega), if_pos (by omega)]
  by_cases q6q : k = 6
  · rw [if_neg (by omega), if_neg (by omega), if_neg (by omega), if_neg (by omega), if_neg (by omega), if_neg (by omega), if_pos (by omega), if_neg (by omega), if_neg (by omega), if_neg (by omega), if_neg (by omega), if_neg (by omega), if_neg (by omega), if_pos (by omega)]
  by_cases q7q : k = 7
  · rw [if_neg (by omega), if_neg (by omega), if_neg (by omega), if_neg (by omega), if_neg (by omega), if_neg (by omega), if_neg (by omega), if_pos (by omega), if_neg (by omega), if_neg (by omega), if_neg (by omega), if_neg (by omega), if_neg (by omega), if_neg (by omega), if_neg (by omega), if_pos (by omega)]
  by_cases q8q : k = 8
  · rw [if_neg (by omega), if_neg (by omega), if_neg (by omega), if_neg (by omega), if_neg (by omega), if_neg (by omega), if_neg (by omega), if_neg (by omega), if_pos (by omega), if_neg (by omega), if_neg (by omega), if_neg (by omega), if_neg (by omega), if_neg (by omega), if_neg (by omega), if_neg (by omega), if_neg (by omega), if_pos (by omega)]
  by_cases q9q : k = 9
  · rw [if_neg (by omega), if_neg (by omega), if_neg (by omega), if_neg (by omega), if_neg (by omega), if_neg (by omega), if_neg (by omega), if_neg (by omega), if_neg (by omega), if_pos (by omega), if_neg (by omega), if_neg (by omega), if_neg (by omega), if_neg (by omega), if_neg (by omega), if_neg (by omega), if_neg (by omega), if_neg (by omega), if_neg (by omega), if_pos (by omega)]
  by_cases q10q : k = 10
  · rw [if_neg (by omega), if_neg (by omega), if_neg (by omega), if_neg (by omega), if_neg (by omega), if_neg (by omega), if_neg (by omega), if_neg (by omega), if_neg (by omega), if_neg (by omega), if_pos (by omega), if_neg (by omega), if_neg (by omega), if_neg (by omega), if_neg (by omega), if_neg (by omega), if_neg (by omega), if_neg (by omega), if_neg (by omega), if_neg (by omega), if_neg (by omega), if_pos (by omega)]
  rw [if_neg (by omega), if_neg (by omega), if_neg (by omega), if_neg (by omega), if_neg (by omega), if_neg (by omega), if_neg (by omega), if_neg (by omega), if_neg (by omega), if_neg (by omega), if_neg (by omega), if_neg (by omega), if_neg (by omega), if_neg (by omega), if_neg (by omega), if_neg (by omega), if_neg (by omega), if_neg (by omega), if_neg (by omega), if_neg (by omega), if_neg (by omega), if_neg (by omega)]
theorem x_part {R : ZM} {p k : Int} (hF : 70 < F) (hp : -2147483648 ≤ p ∧ p < 2147483648) (hk : -2147483648 ≤ k ∧ k < 2147483648) (hA : FI B (R 1) 0) :
    (¬ ((0 ≤ p ∧ p < R 1 0) ∧ 0 ≤ k ∧ k ≤ 8) → p_X11_part F (zt p) (zt k) (LI R) w = some (zt 0, LI (uM R 0 0 1), w)) ∧
    (((0 ≤ p ∧ p < R 1 0) ∧ 0 ≤ k ∧ k ≤ 8) → p_X11_part F (zt p) (zt k) (LI R) w = some (zt (prtS (R 1) p k), LI (R0 R), w)) := by
  have hc := hA.1.1
  have e1 : R0 R 1 = R 1 := R0_row (by omega)
  have k23 : pk_X11_part_23 F (zt p) (zt k) (LI R) w = some (zt 0, LI (uM R 0 0 1), w) := by
    unfold pk_X11_part_23 pk_X11_part_24
    rw [show up2 (LI R) 0 0 (1 : Int32) = LI (uM R 0 0 1) from up2_z R 0 0 1, gnm_z]
    rw [show LI (uM R 0 0 1) 0 0 = zt 1 by rw [LI_0, uM_eq]]
    rfl
  unfold p_X11_part
  rw [x_isPart hp hc, ob_z]
  by_cases q1 : 0 ≤ p ∧ p < R 1 0
  · rw [if_pos (show 0 ≤ p ∧ p ≤ R 1 0 - 1 by omega), if_neg (by decide)]
    simp (disch := omega) only [zt_lit, ob_z, x_in]
    by_cases q2 : 0 ≤ k ∧ k ≤ 8
    · rw [if_pos q2, if_neg (by decide)]
      refine ⟨fun h => absurd ⟨q1, q2⟩ h, fun _ => ?_⟩
      unfold pk_X11_part_24
      rw [R0_z, gnm_z, show LI (R0 R) 0 0 = zt 0 by rw [LI_0]; exact congrArg zt (uM_eq _ _ _ _), if_pos (by decide)]
      rw [x_thingsOf hF (by rw [e1]; exact hA.2.2.1) (by rw [e1]; exact hc.2) (by omega)]
      simp (disch := omega) only [zt_lit, x_of, mI_z, ob_z, e1, zt_add]
      rw [sw_cons hk _ _ _ 0 (by omega), sw_cons hk _ _ _ (0 + 1) (by omega), sw_cons hk _ _ _ (0 + 1 + 1) (by omega), sw_cons hk _ _ _ (0 + 1 + 1 + 1) (by omega), sw_cons hk _ _ _ (0 + 1 + 1 + 1 + 1) (by omega), sw_cons hk _ _ _ (0 + 1 + 1 + 1 + 1 + 1) (by omega), sw_cons hk _ _ _ (0 + 1 + 1 + 1 + 1 + 1 + 1) (by omega), sw_cons hk _ _ _ (0 + 1 + 1 + 1 + 1 + 1 + 1 + 1) (by omega), sw_nil]
      unfold prtS
      by_cases q0q : k = 0
      · rw [if_pos (by omega), if_pos (by omega)]
      by_cases q1q : k = 1
      · rw [if_neg (by omega), if_pos (by omega), if_neg (by omega), if_pos (by omega)]
      by_cases q2q : k = 2
      · rw [if_neg (by omega), if_neg (by omega), if_pos (by omega), if_neg (by omega), if_neg (by omega), if_pos (by omega)]
      by_cases q3q : k = 3
      · rw [if_neg (by omega), if_neg (by omega), if_neg (by omega), if_pos (by omega), if_neg (by omega), if_neg (by omega), if_neg (by omega), if_pos (by omega)]
      by_cases q4q : k = 4
      · rw [if_neg (by omega), if_neg (by omega), if_neg (by omega), if_neg (by omega), if_pos (by omega), if_neg (by omega), if_neg (by omega), if_neg (by omega), if_neg (by omega), if_pos (by omega)]
      by_cases q5q : k = 5
      · rw [if_neg (by omega), if_neg (by omega), if_neg (by omega), if_neg (by omega), if_neg (by omega), if_pos (by omega), if_neg (by omega), if_neg (by omega), if_neg (by omega), if_neg (by omega), if_neg (by omega), if_pos (by omega)]
      by_cases q6q : k = 6
      · rw [if_neg (by omega), if_neg (by omega), if_neg (by omega), if_neg (by omega), if_neg (by omega), if_neg (by omega), if_pos (by omega), if_neg (by omega), if_neg (by omega), if_neg (by omega), if_neg (by omega), if_neg (by omega), if_neg (by omega), if_pos (by omega)]
      by_cases q7q : k = 7
      · rw [if_neg (by omega), if_neg (by omega), if_neg (by omega), if_neg (by omega), if_neg (by omega), if_neg (by omega), if_neg (by omega), if_pos (by omega), if_neg (by omega), if_neg (by omega), if_neg (by omega), if_neg (by omega), if_neg (by omega), if_neg (by omega), if_neg (by omega), if_pos (by omega)]
      rw [if_neg (by omega), if_neg (by omega), if_neg (by omega), if_neg (by omega), if_neg (by omega), if_neg (by omega), if_neg (by omega), if_neg (by omega), if_neg (by omega), if_neg (by omega), if_neg (by omega), if_neg (by omega), if_neg (by omega), if_neg (by omega), if_neg (by omega), if_neg (by omega)]
    · rw [if_neg q2, if_pos rfl]
      exact ⟨fun _ => k23, fun h => absurd h.2 q2⟩
  · rw [if_neg (show ¬ (0 ≤ p ∧ p ≤ R 1 0 - 1) by omega), if_pos (show zt 0 = 0 from rfl)]
    exact ⟨fun _ => k23, fun h => absurd h.1 q1⟩
theorem x_thing {R : ZM} {t k : Int} (hF : 70 < F) (hp : -2147483648 ≤ t ∧ t < 2147483648) (hk : -2147483648 ≤ k ∧ k < 2147483648) (hA : FI B (R 1) 0) :
    (¬ ((0 ≤ t ∧ t < R 1 206) ∧ 0 ≤ k ∧ k ≤ 4) → p_X11_thing F (zt t) (zt k) (LI R) w = some (zt 0, LI (uM R 0 0 1), w)) ∧
    (((0 ≤ t ∧ t < R 1 206) ∧ 0 ≤ k ∧ k ≤ 4) → p_X11_thing F (zt t) (zt k) (LI R) w = some (zt (thgS (R 1) t k), LI (R0 R), w)) := by
  have hm := hA.2.2.1.1
  have e1 : R0 R 1 = R 1 := R0_row (by omega)
  have k23 : pk_X11_thing_22 F (zt t) (zt k) (LI R) w = some (zt 0, LI (uM R 0 0 1), w) := by
    unfold pk_X11_thing_22 pk_X11_thing_23
    rw [show up2 (LI R) 0 0 (1 : Int32) = LI (uM R 0 0 1) from up2_z R 0 0 1, gnm_z]
    rw [show LI (uM R 0 0 1) 0 0 = zt 1 by rw [LI_0, uM_eq]]
    rfl
  unfold p_X11_thing
  rw [x_isThing hp hm, ob_z]
  by_cases q1 : 0 ≤ t ∧ t < R 1 206
  · rw [if_pos (show 0 ≤ t ∧ t ≤ R 1 206 - 1 by omega), if_neg (by decide)]
    simp (disch := omega) only [zt_lit, ob_z, x_in]
    by_cases q2 : 0 ≤ k ∧ k ≤ 4
    · rw [if_pos q2, if_neg (by decide)]
      refine ⟨fun h => absurd ⟨q1, q2⟩ h, fun _ => ?_⟩
      unfold pk_X11_thing_23
      rw [R0_z, gnm_z, show LI (R0 R) 0 0 = zt 0 by rw [LI_0]; exact congrArg zt (uM_eq _ _ _ _), if_pos (by decide)]
      rw [x_hasMany hF (by rw [e1]; exact hA.2.2.1) (by rw [e1]; exact q1)]
      simp (disch := omega) only [zt_lit, x_its, ob_z, e1, zt_le]
      unfold thgS
      by_cases q3 : 4 ≤ k
      · rw [if_pos q3, if_neg (by omega)]
      · rw [if_neg q3, if_pos (by omega)]
    · rw [if_neg q2, if_pos rfl]
      exact ⟨fun _ => k23, fun h => absurd h.2 q2⟩
  · rw [if_neg (show ¬ (0 ≤ t ∧ t ≤ R 1 206 - 1) by omega), if_pos (show zt 0 = 0 from rfl)]
    exact ⟨fun _ => k23, fun h => absurd h.1 q1⟩
end RQ
