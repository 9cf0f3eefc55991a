/-! The class's calls over memory: more acts, questions. -/
section CB
variable {B : Int} {x : Nat} {K : HK} {pr : HP} {pt : Nat → Nat} {rr : HP} {n : Nat} {M : ZM} {lg : Nat → Nat → Int64} {A T : Int → Int} {U : List (Int → Int)} {I : IMG} {F : Nat}
theorem v_value {t : Int} (hF : 1000 < F) (hB : B ≤ 1000000000) (hp0 : -2147483648 ≤ t ∧ t < 2147483648) (h : CI B x K pr pt rr n M lg A T U I) : (¬ (0 ≤ t ∧ t < A 206) → StC B x M lg A T U I (-1) (f_X10_value F x (zt t) n (hp K pr pt rr (LI M) lg))) ∧ ((0 ≤ t ∧ t < A 206) → StC (B + 13) x M lg (reA (recS 61 [] [] t A)) T (puU U A) I (recS 61 [] [] t A).1 (f_X10_value F x (zt t) n (hp K pr pt rr (LI M) lg))) := by
  have hs := h.1
  have hg := h.2.1.2.rng
  have h0 : M (x + 16 + 3) 0 = A 206 := h.2.1.1.2.2.1.2.1
  unfold f_X10_value
  rw [v_gR hs.o10 rfl hs.r1, v_gR hs.b0.k0 rfl hs.b0.p4, v_cvP hs.b0.o4.k0 ((e_X7_holds hs.b0.o4).trans (y_holds7 hp0 (by omega))), h0]
  refine ⟨fun e => ?_, fun e => ?_⟩
  · rw [if_neg e, if_pos (by decide)]; exact h.same rfl
  · rw [if_pos e, if_neg (by decide), v_gR hs.o10 rfl hs.r6, v_gR hs.o10 rfl hs.r1]
    obtain ⟨K1, pr1, pt1, rr1, n1, M1, lg1, a1, a2, a3⟩ := v_keep hF h
    have hs1 := a2.1
    have hG := a2.2.1.2
    obtain ⟨M2, lg2, b1, b2, b3, b4⟩ := y_reckonFor (F := F) (lg := lg1) (B := B) (by omega) hB hs1.sp0 a2.2.1.1 hG.1 hG.2.1 e
    rw [v_cvU hs.k3 a1, v_gR hs1.o10 rfl hs1.r2, v_cvI hs1.m0.k0 (r_eI (e_X1_reckonFor hs1.m0) b1)]
    obtain ⟨w1, w2, w3, w4, w5, w6, w7⟩ := value_wf hG.1 hG.2.1 e
    refine ⟨K1, pr1, pt1, rr1, n1, M2, lg2, rfl, a2.setB (by omega) hs1 (fun _ _ => rfl) (fun j g1 g2 => b3 j (by omega) (by omega)) (by funext k; exact b4 _ _ (by omega)) b2 ⟨w1, w2, hG.2.2.cong hG.2.1.2 hG.1.1.1 (fun y hy => w3 y (by omega))⟩ (fun y y1 y2 => value_out2 hG.1 e y1), a3.trans ⟨fun j g1 g2 => b3 j (by omega) (by omega), by funext k; exact b4 _ _ (by omega)⟩⟩
theorem v_undo0 (h : CI B x K pr pt rr n M lg A T [] I) : StC B x M lg A T [] I (-1) (f_X10_undo F x n (hp K pr pt rr (LI M) lg)) := by
  have hs := h.1
  unfold f_X10_undo
  rw [v_gR hs.o10 rfl hs.r6, v_gR hs.o10 rfl hs.r1, v_cvI hs.k3 (v_giveBack0 h)]
  exact h.same rfl
theorem v_undo1 {C : Int → Int} (h : CI B x K pr pt rr n M lg A T (U ++ [C]) I) : StC B x M lg (fun e => if e < 891 then C e else A e) T U I U.length (f_X10_undo F x n (hp K pr pt rr (LI M) lg)) := by
  have hs := h.1
  unfold f_X10_undo
  obtain ⟨pt1, M1, a1, a2, a3⟩ := v_giveBack1 (F := F) h
  rw [v_gR hs.o10 rfl hs.r6, v_gR hs.o10 rfl hs.r1, v_cvI hs.k3 a1]
  exact ⟨_, _, _, _, _, _, _, rfl, a2, a3⟩
theorem rN0 {n : Nat} {G : GH} : rN .boolean (0 : Int32) n G = some (zt 0, n, G) := rfl
theorem rN1 {n : Nat} {G : GH} : rN .boolean (1 : Int32) n G = some (zt 1, n, G) := rfl
theorem zz1 : ¬ (zt 1 = (0 : Int32)) := by decide
theorem zz0 : zt 0 = (0 : Int32) := rfl
theorem v_stand {p q : Int} (hF : 1000 < F) (hp0 : -2147483648 ≤ p ∧ p < 2147483648) (hq0 : -2147483648 ≤ q ∧ q < 2147483648) (h : CI B x K pr pt rr n M lg A T U I) : (¬ ((0 ≤ p ∧ p < A 0) ∧ (0 ≤ q ∧ q < A 0) ∧ A (146 + 12 * A 145 + p) ≠ (if p = q then 0 else q + 1)) → StC B x M lg A T U I 0 (f_X10_stand F x (zt p) (zt q) n (hp K pr pt rr (LI M) lg))) ∧ (((0 ≤ p ∧ p < A 0) ∧ (0 ≤ q ∧ q < A 0) ∧ A (146 + 12 * A 145 + p) ≠ (if p = q then 0 else q + 1)) → StC B x M lg (ua A (146 + 12 * A 145 + p) (if p = q then 0 else q + 1)) T (puU U A) I 1 (f_X10_stand F x (zt p) (zt q) n (hp K pr pt rr (LI M) lg))) := by
  have hs := h.1
  have hg := h.2.1.2.rng
  have h0 : M (pt (x + 16)) 0 = A 0 := h.2.1.1.1.1
  unfold f_X10_stand
  rw [v_gR hs.o10 rfl hs.r1, v_gP hs.b0.k0 rfl, v_cvP hs.b0.o0.k0 ((e_X3_holds hs.b0.o0).trans (y_holds3 hp0 (by omega))), h0]
  by_cases c1 : 0 ≤ p ∧ p < A 0
  · rw [if_pos c1, if_neg zz1, v_gR hs.o10 rfl hs.r1, v_gP hs.b0.k0 rfl, v_cvP hs.b0.o0.k0 ((e_X3_holds hs.b0.o0).trans (y_holds3 hq0 (by omega))), h0]
    by_cases c2 : 0 ≤ q ∧ q < A 0
    · rw [if_pos c2, if_neg zz1]
      have key : ∀ v : Int, 0 ≤ v → v ≤ A 0 → (A (146 + 12 * A 145 + p) = v → StC B x M lg A T U I 0 (k_X10_stand_40 F x (zt p) (zt (v - 1)) n (hp K pr pt rr (LI M) lg))) ∧ (A (146 + 12 * A 145 + p) ≠ v → StC B x M lg (ua A (146 + 12 * A 145 + p) v) T (puU U A) I 1 (k_X10_stand_40 F x (zt p) (zt (v - 1)) n (hp K pr pt rr (LI M) lg))) := by
        intro v v1 v2
        have hsr := h.2.1.2.1.2.1.2 (A 145) p (by omega) (by omega) (by omega) (by omega)
        have hr1 := h.2.1.1.2.1.2 (A 145) p (by omega) (by omega) (by omega) (by omega)
        unfold k_X10_stand_40
        rw [v_gR hs.o10 rfl hs.r1, v_gR hs.o10 rfl hs.r1, v_gI hs.b0.k0 rfl, LI_1, h.2.1.1.2.1.1]
        have e1 : p_X0_standInAt F (pt (x + 16)) (x + 16) (zt p) (zt (A 145)) (LI M) lg = some (zt (A (146 + 12 * A 145 + p) - 1)) := by
          unfold p_X0_standInAt
          simp (disch := omega) only [zt_lit, zt_mul, zt_add, mI_z, ob_z, hr1]
        rw [v_cvP hs.b0.k0 ((e_X0_standInAt hs.b0).trans e1)]
        simp (disch := omega) only [zt_eq]
        refine ⟨fun e => ?_, fun e => ?_⟩
        · rw [if_pos (by omega), rN0]; exact h.same rfl
        · rw [if_neg (by omega), v_gR hs.o10 rfl hs.r6, v_gR hs.o10 rfl hs.r1]
          obtain ⟨K1, pr1, pt1, rr1, n1, M1, lg1, a1, a2, a3⟩ := v_keep hF h
          have hs1 := a2.1
          obtain ⟨q1, q2, q3, q4⟩ := a2.2.1.1
          have e2 : p_X0_setStandIn F (pt1 (x + 16)) (x + 16) (zt p) (zt (v - 1)) (LI M1) lg1 = some (LI (uM M1 (x + 16 + 1) (A 145 * 12 + p) (v - 1)), lg1) := by
            unfold p_X0_setStandIn
            rw [LI_1, q2.1]
            simp (disch := omega) only [zt_lit, zt_mul, zt_add, mS_z, ob_z]
          rw [v_cvU hs.k3 a1, v_gR hs1.o10 rfl hs1.r1, v_cvU hs1.b0.k0 (r_eU (e_X0_setStandIn hs1.b0) e2), rN1]
          have hM : ∀ j, j ≠ x + 16 + 1 → uM M1 (x + 16 + 1) (A 145 * 12 + p) (v - 1) j = M1 j := fun j hj => by funext e; exact uM_ne hj
          have hd := bo_pt hs1.b0 hs1.b0.o0
          have hG := a2.2.1.2
          have hua : ∀ e, e ≠ 146 + 12 * A 145 + p → ua A (146 + 12 * A 145 + p) v e = A e := fun e he => ua_ne he
          refine ⟨K1, pr1, pt1, rr1, n1, _, lg1, rfl, a2.setB (Int.le_refl _) hs1 (fun _ _ => rfl) (fun j g1 g2 => hM j (by omega)) rfl ⟨?_, ⟨?_, fun s i g0 g1 g2 g3 => ?_⟩, ?_, ?_⟩ ?_ (fun e e1 e2 => hua e (by omega)), a3.trans ⟨fun j g1 g2 => hM j (by omega), rfl⟩⟩
          · exact q1.ext hG.1.1 (fun e he => hua e (by omega)) (fun j g1 g2 => hM j (by omega))
          · rw [hM _ (by omega), hua _ (by omega)]; exact q2.1
          · by_cases w : s = A 145 ∧ i = p
            · rw [w.1, w.2, uM_eq, ua_eq]
            · rw [uM_nei (by omega), hua _ (by omega)]; exact q2.2 s i g0 g1 g2 g3
          · exact (q3.ext (fun j g1 g2 => hM j (by omega))).extS (by omega) (fun e he => hua e (by omega))
          · exact q4.ext (fun e he => hua e (by omega)) (fun j g1 g2 => hM j (by omega)) hG.2.1.1.1 hG.2.1.2.1
          · refine hG.stand (fun e he => hua e (by omega)) ⟨by rw [hua _ (by omega)]; omega, fun s i a c d f => ?_⟩
            rw [hua 0 (by omega)]
            by_cases w : s = A 145 ∧ i = p
            · rw [w.1, w.2, ua_eq]; omega
            · rw [hua _ (by omega)]; exact hG.1.2.1.2 s i a c d f
      by_cases c3 : p = q
      · have hz : (zt q = zt p) := by rw [c3]
        rw [if_pos hz, if_pos c3]
        obtain ⟨k1, k2⟩ := key 0 (by omega) (by omega)
        rw [show (0 : Int) - 1 = -1 by omega] at k1 k2
        exact ⟨fun e => k1 (Decidable.byContradiction (fun g => e ⟨c1, c2, g⟩)), fun e => k2 e.2.2⟩
      · have hz : ¬ (zt q = zt p) := by rw [zt_eq hq0.1 hq0.2 hp0.1 hp0.2]; omega
        rw [if_neg hz, if_neg c3]
        obtain ⟨k1, k2⟩ := key (q + 1) (by omega) (by omega)
        rw [show q + 1 - 1 = q by omega] at k1 k2
        exact ⟨fun e => k1 (Decidable.byContradiction (fun g => e ⟨c1, c2, g⟩)), fun e => k2 e.2.2⟩
    · rw [if_neg c2, if_pos zz0, rN0]
      exact ⟨fun _ => h.same rfl, fun e => absurd e.2.1 c2⟩
  · rw [if_neg c1, if_pos zz0, rN0]
    exact ⟨fun _ => h.same rfl, fun e => absurd e.1 c1⟩
theorem v_fault {k : Int32} (h : CI B x K pr pt rr n M lg A T U I) : f_X10_fault F x k (hp K pr pt rr (LI M) lg) = some (zt (if k = 0 then A 892 else A 893)) := by
  have hs := h.1
  obtain ⟨p1, p2, p3, p4⟩ := h.2.2.1.1
  unfold f_X10_fault
  by_cases q : k = 0
  · rw [if_pos q, if_pos q, v_gR hs.o10 rfl hs.r0, v_gI hs.pap.k0 rfl, LI_2, p2]
  · rw [if_neg q, if_neg q, v_gR hs.o10 rfl hs.r0, v_gI hs.pap.k0 rfl, LI_3, p3]
theorem v_need {p k : Int} (hp0 : -2147483648 ≤ p ∧ p < 2147483648) (hk : -2147483648 ≤ k ∧ k < 2147483648) (h : CI B x K pr pt rr n M lg A T U I) : f_X10_need F x (zt p) (zt k) (hp K pr pt rr (LI M) lg) = some (zt (if (0 ≤ p ∧ p < A 0) ∧ 0 ≤ k ∧ k < A (1 + 11 * p + 2) then A (1 + 11 * p + (3 + k)) else -1)) := by
  have hs := h.1
  unfold f_X10_need
  rw [v_gR hs.o10 rfl hs.r1, v_gP hs.b0.k0 rfl, v_cvP hs.b0.o0.k0 ((e_X3_needAt hs.b0.o0).trans (y_needG hp0 hk h.2.1.2.1.1 h.2.1.1.1))]
theorem v_has {t k : Int} (ht : -2147483648 ≤ t ∧ t < 2147483648) (hk : -2147483648 ≤ k ∧ k < 2147483648) (h : CI B x K pr pt rr n M lg A T U I) : f_X10_has F x (zt t) (zt k) (hp K pr pt rr (LI M) lg) = some (zt (if (0 ≤ t ∧ t < A 206) ∧ 0 ≤ k ∧ k < 4 then A (207 + 8 * t + (4 + k)) - 1 else -1)) := by
  have hs := h.1
  unfold f_X10_has
  rw [v_gR hs.o10 rfl hs.r1, v_gR hs.b0.k0 rfl hs.b0.p4, v_cvP hs.b0.o4.k0 ((e_X7_ownedAt hs.b0.o4).trans (y_ownedG ht hk h.2.1.2.1.2.2.1 h.2.1.1.2.2.1))]
theorem v_why {k : Int} (hk : -2147483648 ≤ k ∧ k < 2147483648) (h : CI B x K pr pt rr n M lg A T U I) : f_X10_why F x (zt k) (hp K pr pt rr (LI M) lg) = some (zt (if 0 ≤ k ∧ k < A 809 then A (811 + k) else -1)) := by
  have hs := h.1
  unfold f_X10_why
  rw [v_gR hs.o10 rfl hs.r1, v_gR hs.b0.k0 rfl hs.b0.p5, v_cvP hs.b0.o5.k0 ((e_X9_whyAt hs.b0.o5).trans (y_whyAt hk h.2.1.2.2.1.1 h.2.1.1.2.2.2))]
theorem v_ended {k : Int} {bb : Int32} (hF : 70 < F) (hk : -2147483648 ≤ k ∧ k < 2147483648) (h : CI B x K pr pt rr n M lg A T U I) : f_X10_ended F x (zt k) bb (hp K pr pt rr (LI M) lg) = some (zt (if bb = 0 then (if 0 ≤ k ∧ k < A 687 then A (688 + k) else -1) else (if 0 ≤ k ∧ k < A 748 then A (749 + k) else -1))) := by
  have hs := h.1
  have hG := h.2.1.2
  unfold f_X10_ended
  by_cases q : bb = 0
  · rw [if_pos q, if_pos q, v_gR hs.o10 rfl hs.r1, v_gR hs.b0.k0 rfl hs.b0.p5, v_cvP hs.b0.o5.k0 ((e_X9_endedAt hs.b0.o5).trans (y_endedAt hk hG.2.1.2 h.2.1.1.2.2.2))]
  · rw [if_neg q, if_neg q, v_gR hs.o10 rfl hs.r1, v_gR hs.b0.k0 rfl hs.b0.p5, v_gR hs.o10 rfl hs.r1, v_gP hs.b0.k0 rfl, v_cvP hs.b0.o5.k0 ((e_X9_badAt hs.b0.o5 hs.b0.o0).trans (y_badAt hk hF hG.1.1 hG.2.1.2 hG.2.2 h.2.1.1.1 h.2.1.1.2.2.2))]
theorem v_stands {p s : Int} (hF : 8 < F) (hp0 : -2147483648 ≤ p ∧ p < 2147483648) (hk : -2147483648 ≤ s ∧ s < 2147483648) (h : CI B x K pr pt rr n M lg A T U I) : f_X10_stands F x (zt p) (zt s) (hp K pr pt rr (LI M) lg) = some (zt (if (0 ≤ p ∧ p < A 0) ∧ 0 ≤ s ∧ s ≤ A 145 then sSt A p (s + 1).toNat else -1)) := by
  have hs := h.1
  have hG := h.2.1.2
  have hg := hG.rng
  have h0 : M (pt (x + 16)) 0 = A 0 := h.2.1.1.1.1
  unfold f_X10_stands
  rw [v_gR hs.o10 rfl hs.r1, v_gP hs.b0.k0 rfl, v_cvP hs.b0.o0.k0 ((e_X3_holds hs.b0.o0).trans (y_holds3 hp0 (by omega))), h0]
  by_cases c1 : 0 ≤ p ∧ p < A 0
  · rw [if_pos c1, if_neg (by decide)]
    simp (disch := omega) only [zt_lit, zt_lt]
    by_cases c2 : s < 0
    · rw [if_pos c2, if_neg (by omega)]
      rfl
    · rw [if_neg c2, v_gR hs.o10 rfl hs.r1, v_gI hs.b0.k0 rfl, LI_1, h.2.1.1.2.1.1]
      simp (disch := omega) only [zt_le]
      by_cases c3 : s ≤ A 145
      · rw [if_pos c3, if_pos ⟨c1, by omega, c3⟩, v_gR hs.o10 rfl hs.r1, v_cvP hs.b0.k0 ((e_X0_resolve hs.b0).trans (y_resolve hF (by omega) (by omega) hG.1.2.1 (by omega) h.2.1.1.2.1))]
      · rw [if_neg c3, if_neg (fun e => c3 e.2.2)]
        rfl
  · rw [if_neg c1, if_pos (by decide), if_neg (fun e => c1 e.1)]
    rfl
end CB
