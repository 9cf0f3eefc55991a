/-! The class lays its plan. -/
def FS (M : ZM) (a : Nat) (s : List Int × (Int → Int)) : Prop := M a 1 = s.1.length ∧ (∀ (i : Nat) (y : Int), s.1[i]? = some y → M (a + 1) i = y) ∧ ∀ p, 0 ≤ p → p < 12 → M (a + 2) p = s.2 p
def BTh (Q : Int → Int) (th : Int32) (wv : Int → Int) : Prop := ∀ j, 0 ≤ j → j < Q 0 → (bt th j = true ↔ wv j ≠ -1)
section PL
variable {F : Nat} {lg : Nat → Nat → Int64} {M : ZM} {p a : Nat} {Q : Int → Int} {L : Int64} {z : Int32}
theorem zle_pos {m n : Int} (h : m ≤ n) (hm : -2147483648 ≤ m) (hn : n < 2147483648) : zt m ≤ zt n := by
  rw [zt_le hm (by omega) (by omega) hn]; exact h
theorem zle_neg {m n : Int} (h : n < m) (hm : m < 2147483648) (hn : -2147483648 ≤ n) : ¬ (zt m ≤ zt n) := by
  rw [zt_le (by omega) hm hn (by omega)]; omega
theorem y_leastReady {th : Int32} {wv : Int → Int} (hF : 20 < F) (hP : wfP Q) (hR : RP M p Q) (hB : BTh Q th wv) : p_X5_leastReady F p a th (LI M) lg = some (zt (lstR Q wv (Q 0).toNat 0)) := by
  have hc := hP.1
  have key : ∀ (n : Nat) (i : Int) (K : Nat), i + n = Q 0 → 0 ≤ i → n < K → fixN (fun _ => none) (pb_X5_leastReady_2 F p a th (LI M) lg) K (zt i) = some (zt (lstR Q wv n i)) := by
    intro n
    induction n with
    | zero =>
      intro i K h1 h2 hK
      obtain ⟨g, rfl⟩ : ∃ g, K = g + 1 := ⟨K - 1, by omega⟩
      rw [fix_succ]
      unfold pb_X5_leastReady_2 lstR
      rw [LI_0, hR.1, if_pos (zle_pos (by omega) (by omega) (by omega))]
      rfl
    | succ n ih =>
      intro i K h1 h2 hK
      obtain ⟨g, rfl⟩ : ∃ g, K = g + 1 := ⟨K - 1, by omega⟩
      rw [fix_succ]
      generalize hr : fixN (fun _ => none) (pb_X5_leastReady_2 F p a th (LI M) lg) g = r
      have hi : 0 ≤ i ∧ i < Q 0 := by omega
      have hrd := rdy_iff (wv := wv) hP hi
      have hbi := hB i h2 hi.2
      have hsub : (nb Q (pEg Q) i &&& (th ^^^ zt (-1)) = zt 0) ↔ ∀ j, Bnd Q (pEg Q) i j → wv j ≠ -1 := by
        rw [bt_sub]
        constructor
        · intro h j hj
          have hr := hj.rng hP hi
          exact (hB j hr.1 hr.2).mp (h j hr.1 (by omega) ((nb_bit hP hi hr.1).mpr hj))
        · intro h j h0 h1 hb
          have hj := (nb_bit hP hi h0).mp hb
          have hr := hj.rng hP hi
          exact (hB j hr.1 hr.2).mpr (h j hj)
      unfold pb_X5_leastReady_2 lstR
      rw [LI_0, hR.1, if_neg (zle_neg (by omega) (by omega) (by omega)), show (0 : Int32) = zt 0 from rfl, y_needBits (by omega) hP hR hi, ob_z, eL_0, ← hr]
      unfold pk_X5_leastReady_35
      simp only [zt_lit, zt_neg, zt_add, ib_fold]
      rw [ih (i + 1) g (by omega) (by omega) (by omega)]
      by_cases q1 : bt th i = false
      · have hw : wv i = -1 := Classical.byContradiction (fun e => by rw [hbi.mpr e] at q1; cases q1)
        rw [if_pos ((bt_test (by omega)).mpr q1), if_pos ((bt_test (by omega)).mpr q1)]
        by_cases q2 : nb Q (pEg Q) i &&& (th ^^^ zt (-1)) = zt 0
        · rw [if_pos q2, if_pos trivial, if_pos (hrd.mpr ⟨hw, hsub.mp q2⟩)]
        · rw [if_neg q2, if_neg (show ¬ (zt 1 = zt 0) by decide), if_neg (fun e => q2 (hsub.mpr (hrd.mp e).2))]
      · have q1' : bt th i = true := by simpa using q1
        rw [if_neg (fun e => q1 ((bt_test (by omega)).mp e)), if_neg (fun e => q1 ((bt_test (by omega)).mp e)), if_neg (fun e => hbi.mp q1' (hrd.mp e).1)]
        split <;> rfl
  unfold p_X5_leastReady
  rw [show (0 : Int32) = zt 0 from rfl]
  exact key (Q 0).toNat 0 F (by omega) (by omega) (by omega)
theorem y_waveAbove {bits : Int32} (hF : 20 < F) (hP : wfP Q) (hR : RP M p Q) (hw : ∀ i, 0 ≤ i → i < Q 0 → -1 ≤ M (a + 2) i ∧ M (a + 2) i ≤ 12) : ∃ r, p_X5_waveAbove F p a bits (LI M) lg = some (zt r) ∧ 0 ≤ r ∧ (∀ j, 0 ≤ j → j < Q 0 → bt bits j = true → M (a + 2) j + 1 ≤ r) ∧ (r = 0 ∨ ∃ j, (0 ≤ j ∧ j < Q 0) ∧ bt bits j = true ∧ r = M (a + 2) j + 1) := by
  have hc := hP.1
  have key : ∀ (n : Nat) (i acc : Int) (K : Nat), i + n = Q 0 → 0 ≤ i → 0 ≤ acc → acc ≤ 13 → n < K → ∃ r, fixN (fun _ _ => none) (pb_X5_waveAbove_4 F p a bits (LI M) lg) K (zt acc) (zt i) = some (zt r) ∧ acc ≤ r ∧ (∀ j, i ≤ j → j < Q 0 → bt bits j = true → M (a + 2) j + 1 ≤ r) ∧ (r = acc ∨ ∃ j, (i ≤ j ∧ j < Q 0) ∧ bt bits j = true ∧ r = M (a + 2) j + 1) := by
    intro n
    induction n with
    | zero =>
      intro i acc K h1 h2 h3 h4 hK
      obtain ⟨g, rfl⟩ : ∃ g, K = g + 1 := ⟨K - 1, by omega⟩
      rw [fix_succ]
      unfold pb_X5_waveAbove_4
      rw [LI_0, hR.1, if_pos (zle_pos (by omega) (by omega) (by omega))]
      exact ⟨acc, rfl, Int.le_refl _, fun j g1 g2 => by omega, Or.inl rfl⟩
    | succ n ih =>
      intro i acc K h1 h2 h3 h4 hK
      obtain ⟨g, rfl⟩ : ∃ g, K = g + 1 := ⟨K - 1, by omega⟩
      rw [fix_succ]
      generalize hr : fixN (fun _ _ => none) (pb_X5_waveAbove_4 F p a bits (LI M) lg) g = r
      have hwi := hw i h2 (by omega)
      unfold pb_X5_waveAbove_4
      rw [LI_0, hR.1, if_neg (zle_neg (by omega) (by omega) (by omega))]
      simp (disch := omega) only [zt_lit, zt_add, ib_fold, mI_z, ob_z, gnm_z, zt_lt]
      rw [← hr]
      by_cases q1 : bt bits i = false
      · rw [if_pos ((bt_test (by omega)).mpr q1)]
        obtain ⟨r, a1, a2, a3, a4⟩ := ih (i + 1) acc g (by omega) (by omega) h3 h4 (by omega)
        refine ⟨r, a1, a2, fun j g1 g2 g3 => ?_, ?_⟩
        · by_cases e : j = i
          · rw [e, q1] at g3; cases g3
          · exact a3 j (by omega) g2 g3
        · rcases a4 with a4 | ⟨j, g1, g2, g3⟩
          · exact Or.inl a4
          · exact Or.inr ⟨j, by omega, g2, g3⟩
      · have q1' : bt bits i = true := by simpa using q1
        rw [if_neg (fun e => q1 ((bt_test (by omega)).mp e))]
        by_cases q2 : acc < M (a + 2) i + 1
        · rw [if_pos q2]
          obtain ⟨r, a1, a2, a3, a4⟩ := ih (i + 1) (M (a + 2) i + 1) g (by omega) (by omega) (by omega) (by omega) (by omega)
          refine ⟨r, a1, by omega, fun j g1 g2 g3 => ?_, ?_⟩
          · by_cases e : j = i
            · rw [e]; exact a2
            · exact a3 j (by omega) g2 g3
          · rcases a4 with a4 | ⟨j, g1, g2, g3⟩
            · exact Or.inr ⟨i, by omega, q1', a4⟩
            · exact Or.inr ⟨j, by omega, g2, g3⟩
        · rw [if_neg q2]
          obtain ⟨r, a1, a2, a3, a4⟩ := ih (i + 1) acc g (by omega) (by omega) h3 h4 (by omega)
          refine ⟨r, a1, a2, fun j g1 g2 g3 => ?_, ?_⟩
          · by_cases e : j = i
            · rw [e]; omega
            · exact a3 j (by omega) g2 g3
          · rcases a4 with a4 | ⟨j, g1, g2, g3⟩
            · exact Or.inl a4
            · exact Or.inr ⟨j, by omega, g2, g3⟩
  obtain ⟨r, a1, a2, a3, a4⟩ := key (Q 0).toNat 0 0 F (by omega) (by omega) (by omega) (by omega) (by omega)
  refine ⟨r, ?_, a2, a3, a4⟩
  unfold p_X5_waveAbove
  rw [show (0 : Int32) = zt 0 from rfl]
  exact a1
theorem y_fs17 (hF : 20 < F) (hP : wfP Q) (hs : p + 9 ≤ a ∨ a + 4 ≤ p) : ∀ (m f : Nat) (t : Int) (th : Int32) (M : ZM) (s : List Int × (Int → Int)) (K : Nat), t + m = Q 0 → s.1.length = t → m + 1 ≤ f → OI Q s → RP M p Q → FS M a s → BTh Q th s.2 → m < K →
    ∃ M1, fixN (fun _ _ _ _ => none) (pb_X5_findStart_17 F p a) K th (zt t) (LI M) lg = some (LI M1, lg) ∧ FS M1 a (ordS Q f s) ∧ (∀ e, e ≠ 1 → M1 a e = M a e) ∧ ∀ j, (j < a ∨ a + 3 ≤ j) → M1 j = M j := by
  have hc := hP.1
  intro m
  induction m with
  | zero =>
    intro f t th M s K h1 h2 h3 hO hR hS hB hK
    obtain ⟨g, rfl⟩ : ∃ g, K = g + 1 := ⟨K - 1, by omega⟩
    obtain ⟨f', rfl⟩ : ∃ g, f = g + 1 := ⟨f - 1, by omega⟩
    rw [fix_succ, ordS, if_pos (hO.full hP (by omega))]
    refine ⟨M, ?_, hS, fun _ _ => rfl, fun _ _ => rfl⟩
    unfold pb_X5_findStart_17
    rw [LI_0, hR.1, if_pos (zle_pos (by omega) (by omega) (by omega))]
  | succ m ih =>
    intro f t th M s K h1 h2 h3 hO hR hS hB hK
    obtain ⟨g, rfl⟩ : ∃ g, K = g + 1 := ⟨K - 1, by omega⟩
    obtain ⟨f', rfl⟩ : ∃ g, f = g + 1 := ⟨f - 1, by omega⟩
    rw [fix_succ, ordS]
    generalize hr : fixN (fun _ _ _ _ => none) (pb_X5_findStart_17 F p a) g = r
    unfold pb_X5_findStart_17
    rw [LI_0, hR.1, if_neg (zle_neg (by omega) (by omega) (by omega)), y_leastReady hF hP hR hB, ob_z]
    by_cases q : lstR Q s.2 (Q 0).toNat 0 = -1
    · rw [if_pos q, q, if_pos (show zt (-1) = -1 from rfl)]
      exact ⟨M, rfl, hS, fun _ _ => rfl, fun _ _ => rfl⟩
    · obtain ⟨s1, s2, s3⟩ := hO.step hP q
      rw [if_neg q]
      generalize hp0 : lstR Q s.2 (Q 0).toNat 0 = p0 at *
      have hl := hO.len hP
      rw [if_neg (show ¬ (zt p0 = -1) by rw [show (-1 : Int32) = zt (-1) from rfl, zt_eq (by omega) (by omega) (by omega) (by omega)]; exact q), LI_1, hS.1, h2, mS_z (by omega) (by omega) (by omega), ob_z, LI_1, uM_ne (by omega), hS.1, h2, show (1 : Int32) = zt 1 from rfl, zt_add, up2_1, gnm_z, gnm_z]
      have hM2 : ∀ j, j ≠ a → j ≠ a + 1 → uM (uM M (a + 1) t p0) a 1 (t + 1) j = M j := fun j j1 j2 => by funext e; rw [uM_ne j1, uM_ne j2]
      generalize hM2e : uM (uM M (a + 1) t p0) a 1 (t + 1) = M2 at *
      have hR2 : RP M2 p Q := hR.frP (fun j g1 g2 => hM2 j (by omega) (by omega))
      have e2 : M2 (a + 2) = M (a + 2) := hM2 _ (by omega) (by omega)
      rw [show (0 : Int32) = zt 0 from rfl, y_needBits (by omega) hP hR2 s1, ob_z, eL_0]
      obtain ⟨w, b1, b2, b3, b4⟩ := y_waveAbove (F := F) (lg := lg) (a := a) (bits := nb Q (pEg Q) p0) hF hP hR2 (fun i i0 i1 => by
        rw [e2, hS.2.2 i i0 (by omega)]
        have := hO.2.2.1 i
        omega)
      rw [e2] at b3 b4
      have hw : w = wavOf Q s.2 p0 := wav_uni hP s1 b2 (fun j hj => by
        have hr := hj.rng hP s1
        have := b3 j hr.1 hr.2 ((nb_bit hP s1 hr.1).mpr hj)
        rw [hS.2.2 j hr.1 (by omega)] at this
        exact this) (by
        rcases b4 with b4 | ⟨j, g1, g2, g3⟩
        · exact Or.inl b4
        · refine Or.inr ⟨j, (nb_bit hP s1 g1.1).mp g2, ?_⟩
          rw [g3, hS.2.2 j g1.1 (by omega)])
      rw [b1, ob_z, mS_z (by omega) (by omega) (by omega), ob_z, ← hr, hw, show (31 : Int32) = zt 31 from rfl, ib_fold]
      have hlen : (s.1 ++ [p0]).length = s.1.length + 1 := by simp
      have hFS : FS (uM M2 (a + 2) p0 (wavOf Q s.2 p0)) a (s.1 ++ [p0], ua s.2 p0 (wavOf Q s.2 p0)) := by
        refine ⟨?_, fun i y hy => ?_, fun q q0 q1 => ?_⟩
        · show _ = ((s.1 ++ [p0]).length : Int)
          rw [uM_ne (by omega), ← hM2e, uM_eq, hlen]
          omega
        · rw [uM_ne (by omega), ← hM2e, uM_ne (by omega)]
          have hy : (s.1 ++ [p0])[i]? = some y := hy
          rcases snoc_at hy with hy | ⟨h5, h6⟩
          · have := at_ltG hy
            rw [uM_nei (by omega)]; exact hS.2.1 i y hy
          · rw [uM_eqi (by omega)]; exact h6
        · show _ = ua s.2 p0 (wavOf Q s.2 p0) q
          by_cases e : q = p0
          · rw [e, uM_eq, ua_eq]
          · rw [uM_nei e, ua_ne e, e2]; exact hS.2.2 q q0 q1
      have hBT : BTh Q (th ||| ib p0) (ua s.2 p0 (wavOf Q s.2 p0)) := by
        intro j j0 j1
        rw [bt_or _ (by omega) j0, Bool.or_eq_true, decide_eq_true_eq]
        by_cases e : j = p0
        · rw [e, ua_eq]; exact ⟨fun _ => by omega, fun _ => Or.inr rfl⟩
        · rw [ua_ne e, hB j j0 j1]; exact ⟨fun g => g.elim id (fun g => absurd g.symm e), Or.inl⟩
      obtain ⟨M1, a1, a2, a3, a4⟩ := ih f' (t + 1) (th ||| ib p0) (uM M2 (a + 2) p0 (wavOf Q s.2 p0)) (s.1 ++ [p0], ua s.2 p0 (wavOf Q s.2 p0)) g (by omega) (by rw [hlen]; omega) (by omega) s3 (hR2.frP (fun j g1 g2 => by funext e; exact uM_ne (by omega))) hFS hBT (by omega)
      refine ⟨M1, a1, a2, fun e he => ?_, fun j hj => ?_⟩
      · rw [a3 e he, uM_ne (by omega), ← hM2e, uM_nei he, uM_ne (by omega)]
      · rw [a4 j hj]
        funext e
        rw [uM_ne (by omega), hM2 j (by omega) (by omega)]
theorem y_findStart (hF : 1000 < F) (hP : wfP Q) (hR : RP M p Q) (hs : p + 9 ≤ a ∨ a + 4 ≤ p) : ∃ M1, p_X5_findStart F p a (LI M) lg = some (LI M1, lg) ∧ FS M1 a (ordF Q) ∧ (∀ e, e ≠ 1 → M1 a e = M a e) ∧ ∀ j, (j < a ∨ a + 3 ≤ j) → M1 j = M j := by
  have hc := hP.1
  unfold p_X5_findStart
  rw [show (0 : Int32) = zt 0 from rfl, up2_1, gnm_z]
  obtain ⟨M2, b1, b2, b3⟩ := y_fill (F := F) (lg := lg) (M := uM M a 1 0) (N := 12) (a := a + 2) (v := -1) (by decide) hF
  rw [show (-1 : Int32) = zt (-1) from rfl, b1, hcU_z]
  have hM2 : ∀ j, j ≠ a → j ≠ a + 2 → M2 j = M j := fun j j1 j2 => by rw [b3 j j2]; funext e; exact uM_ne j1
  obtain ⟨M1, a1, a2, a3, a4⟩ := y_fs17 (F := F) (lg := lg) (a := a) (p := p) (by omega) hP hs (Q 0).toNat 13 0 (zt 0) M2 ([], fun _ => -1) F (by omega) rfl (by omega) OI.nil (hR.frP (fun j g1 g2 => hM2 j (by omega) (by omega))) ⟨by rw [b3 a (by omega), uM_eq]; rfl, fun i y hy => (by cases hy), fun q q0 q1 => b2 q q0 (by omega)⟩ (fun j j0 j1 => by rw [bt_0]; simp) (by omega)
  refine ⟨M1, a1, a2, fun e he => ?_, fun j hj => ?_⟩
  · rw [a3 e he, b3 a (by omega), uM_nei he]
  · rw [a4 j hj, hM2 j (by omega) (by omega)]
end PL
