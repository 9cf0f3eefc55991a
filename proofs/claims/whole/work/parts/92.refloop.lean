/-! The reference lays its loop; needs, lost. -/
def LpR (R : ZM) (l : List Int) : Prop := R 0 35 = l.length ∧ ∀ (i : Nat) (y : Int), l[i]? = some y → R 19 i = y
section RL
variable {w : Int64} {F : Nat} {R : ZM} {Q : Int → Int}
theorem canF_f {j : Int} : canF Q j = false ↔ (ordF Q).2 j = -1 := by
  unfold canF
  simp
theorem x_first {p : Int} (hF : 10 < F) (hP : wfP Q) (hR : R 1 = Q) (hw : ∀ j, 0 ≤ j → j < 12 → R 18 j = (ordF Q).2 j) (hp : 0 ≤ p ∧ p < Q 0) (hs : canF Q p = false) : p_X11_firstThatCanNot F (zt p) (LI R) w = some (zt (nxS Q (pEg Q) (canF Q) p)) := by
  have hc := hP.1
  have hm := hP.mn hp
  have hO := (ordF_ok hP).1
  have hln := hO.len hP
  obtain ⟨k0, k1, k2, k3, k4, k5, k6⟩ := stuck hP (canF_IsC hP) hp hs
  rw [k5]
  have key : ∀ (n : Nat) (k : Int) (K : Nat), k + n = pMany Q p → 0 ≤ k → stK Q (pEg Q) (canF Q) p n k = 4 * p + k0 → n < K → fixN (fun _ => none) (pb_X11_firstThatCanNot_2 F (zt p) (LI R) w) K (zt k) = some (zt (pNd Q p k0)) := by
    intro n
    induction n with
    | zero =>
      intro k K h1 h2 h3
      unfold stK at h3
      omega
    | succ n ih =>
      intro k K h1 h2 h3 hK
      obtain ⟨g, rfl⟩ : ∃ g, K = g + 1 := ⟨K - 1, by omega⟩
      rw [fix_succ]
      generalize hr : fixN (fun _ => none) (pb_X11_firstThatCanNot_2 F (zt p) (LI R) w) g = r
      have hn := hP.nd hp (k := k) (by omega)
      have hnd : Q (1 + 11 * p + (3 + k)) = pNd Q p k := rfl
      have hwk := hO.2.2.1 (pNd Q p k)
      unfold pb_X11_firstThatCanNot_2 pk_X11_firstThatCanNot_34
      rw [x_isLazy (by omega), ob_z, show (3 : Int32) = zt 3 from rfl, zt_add, x_of (by omega) (by omega), ob_z, ob_z, hR, hnd, mI_z (by omega) (by omega) (by omega), ob_z, hw _ hn.1 (by omega), show (1 : Int32) = zt 1 from rfl, zt_add, ← hr]
      rw [stK] at h3
      have hz : (zt ((ordF Q).2 (pNd Q p k)) = -zt 1) = ((ordF Q).2 (pNd Q p k) = -1) := by
        rw [show -zt 1 = zt (-1) from rfl]
        exact zt_eq (by omega) (by omega) (by omega) (by omega)
      by_cases q : lz (Q (1 + 11 * p + 7)) k = true
      · have hpe : pEg Q p k = false := by unfold pEg; rw [q]; rfl
        rw [if_neg (fun e => by rw [hpe] at e; cases e.1)] at h3
        rw [if_pos q, if_neg zz1]
        exact ih (k + 1) g (by omega) (by omega) h3 (by omega)
      · have q2 : lz (Q (1 + 11 * p + 7)) k = false := by simpa using q
        have hpe : pEg Q p k = true := by unfold pEg; rw [q2]; rfl
        rw [if_neg q, if_pos zz0]
        by_cases q3 : (ordF Q).2 (pNd Q p k) = -1
        · rw [if_pos ⟨hpe, canF_f.mpr q3⟩] at h3
          have : k = k0 := by omega
          rw [if_pos (by rw [hz]; exact q3), this]
        · rw [if_neg (fun e => q3 (canF_f.mp e.2))] at h3
          rw [if_neg (by rw [hz]; exact q3)]
          exact ih (k + 1) g (by omega) (by omega) h3 (by omega)
  unfold p_X11_firstThatCanNot
  rw [show (0 : Int32) = zt 0 from rfl]
  exact key (pMany Q p).toNat 0 F (by omega) (by omega) k2 (by omega)
theorem LI_35 (M : ZM) (j : Nat) : LI M j 35 = zt (M j 35) := rfl
theorem up2_35 (M : ZM) (j : Nat) (v : Int) : up2 (LI M) j 35 (zt v) = LI (uM M j 35 v) := up2_z M j 35 v
theorem x_lp75 {f : Int} (hF : 10 < F) (hP : wfP Q) (hf : 0 ≤ f ∧ f < Q 0) : ∀ (d : Nat) (q : Int) (l : List Int) (R : ZM) (K : Nat), 1 ≤ d → iterN (nxS Q (pEg Q) (canF Q)) d q = f → (0 ≤ q ∧ q < Q 0) → canF Q q = false → l.length + d ≤ 13 → R 1 = Q → (∀ j, 0 ≤ j → j < 12 → R 18 j = (ordF Q).2 j) → LpR R l → d < K →
    ∃ R1, fixN (fun _ _ _ => none) (pb_X11_laysLoop_75 F (zt f)) K (zt q) (LI R) w = some (LI R1, w) ∧ LpR R1 (l ++ lpS (nxS Q (pEg Q) (canF Q)) f d q) ∧ (∀ j, j ≠ 0 → j ≠ 19 → R1 j = R j) ∧ ∀ e, e ≠ 35 → R1 0 e = R 0 e := by
  have hc := hP.1
  intro d
  induction d with
  | zero => intro q l R K h1; omega
  | succ d ih =>
    intro q l R K h1 h2 hq hs hl hR hw hL hK
    obtain ⟨g, rfl⟩ : ∃ g, K = g + 1 := ⟨K - 1, by omega⟩
    rw [fix_succ, lpS]
    generalize hr : fixN (fun _ _ _ => none) (pb_X11_laysLoop_75 F (zt f)) g = r
    obtain ⟨k0, k1, k2, k3, k4, k5, k6⟩ := stuck hP (canF_IsC hP) hq hs
    unfold pb_X11_laysLoop_75
    rw [LI_35, hL.1, mS_z (by omega) (by omega) (by omega), ob_z, LI_35, uM_ne (by omega), hL.1, show (1 : Int32) = zt 1 from rfl, zt_add, up2_35, gnm_z]
    have hfr : ∀ j, j ≠ 0 → j ≠ 19 → uM (uM R 19 l.length q) 0 35 (l.length + 1) j = R j := fun j j0 j1 => by funext e; rw [uM_ne j0, uM_ne j1]
    have hf0 : ∀ e, e ≠ 35 → uM (uM R 19 l.length q) 0 35 (l.length + 1) 0 e = R 0 e := fun e he => by rw [uM_nei he, uM_ne (by omega)]
    have hL2 : LpR (uM (uM R 19 l.length q) 0 35 (l.length + 1)) (l ++ [q]) := by
      refine ⟨by rw [uM_eq]; simp, fun i y hy => ?_⟩
      rw [uM_ne (by omega)]
      rcases snoc_at hy with hy | ⟨h5, h6⟩
      · have := at_ltG hy
        rw [uM_nei (by omega)]; exact hL.2 i y hy
      · rw [uM_eqi (by omega)]; exact h6
    generalize uM (uM R 19 l.length q) 0 35 (l.length + 1) = R2 at *
    have hR2 : R2 1 = Q := by rw [hfr 1 (by omega) (by omega)]; exact hR
    have hw2 : ∀ j, 0 ≤ j → j < 12 → R2 18 j = (ordF Q).2 j := by rw [hfr 18 (by omega) (by omega)]; exact hw
    rw [x_first hF hP hR2 hw2 hq hs, ob_z]
    have hn : 0 ≤ nxS Q (pEg Q) (canF Q) q ∧ nxS Q (pEg Q) (canF Q) q < Q 0 := by rw [k5]; exact k6
    have hn2 : canF Q (nxS Q (pEg Q) (canF Q) q) = false := by rw [k5]; exact k4
    have hz : (zt (nxS Q (pEg Q) (canF Q) q) = zt f) = (nxS Q (pEg Q) (canF Q) q = f) := zt_eq (by omega) (by omega) (by omega) (by omega)
    by_cases e : nxS Q (pEg Q) (canF Q) q = f
    · rw [if_pos (by rw [hz]; exact e), if_pos e]
      exact ⟨R2, rfl, hL2, hfr, hf0⟩
    · rw [if_neg (by rw [hz]; exact e), if_neg e, ← hr]
      have hd : 1 ≤ d := by
        rcases Nat.eq_zero_or_pos d with z | z
        · subst z; exact absurd h2 e
        · exact z
      obtain ⟨R1, a1, a2, a3, a4⟩ := ih (nxS Q (pEg Q) (canF Q) q) (l ++ [q]) R2 g hd h2 hn hn2 (by simp; omega) hR2 hw2 hL2 (by omega)
      rw [List.append_assoc] at a2
      exact ⟨R1, a1, a2, fun j j0 j1 => by rw [a3 j j0 j1, hfr j j0 j1], fun e he => by rw [a4 e he, hf0 e he]⟩
theorem x_lp50 (hF : 20 < F) (hP : wfP Q) (hR : R 1 = Q) (hw : ∀ j, 0 ≤ j → j < 12 → R 18 j = (ordF Q).2 j) : ∀ (n : Nat) (met : List Int) (q : Int) (seen : Int32) (K : Nat), met.length + n = 13 → met.Nodup → (∀ y ∈ met, 0 ≤ y ∧ y < Q 0) → (0 ≤ q ∧ q < Q 0) → canF Q q = false → (∀ j, 0 ≤ j → j < 32 → (bt seen j = true ↔ j ∈ met)) → n < K → fixN (fun _ _ => none) (pb_X11_laysLoop_50 F (LI R) w) K (zt q) seen = pk_X11_laysLoop_73 F (zt (entS (nxS Q (pEg Q) (canF Q)) n met q)) (LI R) w := by
  have hc := hP.1
  intro n
  induction n with
  | zero =>
    intro met q seen K h1 h2 h3
    have := nodup_le 12 met h2 (fun y hy => by have := h3 y hy; omega)
    omega
  | succ n ih =>
    intro met q seen K h1 h2 h3 h4 h5 h6 hK
    obtain ⟨g, rfl⟩ : ∃ g, K = g + 1 := ⟨K - 1, by omega⟩
    rw [fix_succ]
    generalize hr : fixN (fun _ _ => none) (pb_X11_laysLoop_50 F (LI R) w) g = r
    obtain ⟨k0, k1, k2, k3, k4, k5, k6⟩ := stuck hP (canF_IsC hP) h4 h5
    unfold pb_X11_laysLoop_50 entS
    rw [x_first (by omega) hP hR hw h4 h5, gnm_z, ob_z]
    simp only [zt_lit, ib_fold]
    rw [bt_shr (by omega)]
    have hbq := h6 q h4.1 (by omega)
    by_cases e : q ∈ met
    · rw [if_pos (hbq.mpr e), if_neg (show ¬ (zt 1 = zt 0) by decide), if_pos e]
    · rw [if_neg (fun g => e (hbq.mp g)), if_pos rfl, if_neg e, ← hr]
      exact ih (q :: met) (nxS Q (pEg Q) (canF Q) q) (seen ||| ib q) g (by simp; omega) (List.nodup_cons.mpr ⟨e, h2⟩) (fun y hy => by
        rcases List.mem_cons.mp hy with rfl | hy
        · exact h4
        · exact h3 y hy) (by rw [k5]; exact k6) (by rw [k5]; exact k4) (fun j j0 j1 => by
        rw [bt_or _ (by omega) j0, Bool.or_eq_true, decide_eq_true_eq, List.mem_cons, h6 j j0 j1]
        constructor
        · rintro (g | g)
          · exact Or.inr g
          · exact Or.inl g.symm
        · rintro (g | g)
          · exact Or.inr g.symm
          · exact Or.inl g) (by omega)
theorem x_laysLoop (hF : 100 < F) (hP : wfP (R 1)) : ∃ R1, p_X11_laysLoop F (LI R) w = some (LI R1, w) ∧ LpR R1 (loopF (R 1)) ∧ (∀ j, 0 < j → j < 17 → R1 j = R j) ∧ ∀ e, e ≠ 32 → e ≠ 35 → R1 0 e = R 0 e := by
  have hc := hP.1
  obtain ⟨R2, a1, a2, a3, a4⟩ := x_laysOrder (R := R) (w := w) (F := F) hF hP
  unfold p_X11_laysLoop
  rw [a1, pcU_z, show (0 : Int32) = zt 0 from rfl, up2_35, gnm_z]
  have e1 : uM R2 0 35 0 1 = R 1 := by rw [← a3 1 (by omega) (by omega) (by omega)]; funext e; exact uM_ne (by omega)
  have e18 : ∀ j, 0 ≤ j → j < 12 → uM R2 0 35 0 18 j = (ordF (R 1)).2 j := fun j j0 j1 => by rw [uM_ne (by omega)]; exact a2.2.2 j j0 j1
  have hfr : ∀ j, 0 < j → j < 17 → uM R2 0 35 0 j = R j := fun j j0 j1 => by rw [← a3 j (by omega) (by omega) (by omega)]; funext e; exact uM_ne (by omega)
  have hf0 : ∀ e, e ≠ 32 → e ≠ 35 → uM R2 0 35 0 0 e = R 0 e := fun e g1 g2 => by rw [uM_nei g2, a4 e g1]
  have hL0 : uM R2 0 35 0 0 35 = 0 := uM_eq _ _ _ _
  generalize uM R2 0 35 0 = R3 at *
  have hO := (ordF_ok hP).1
  have hln := hO.len hP
  have k11 : ∀ (n : Nat) (i : Int) (K : Nat), i + n = R 1 0 → 0 ≤ i → n < K → fixN (fun _ => none) (pb_X11_laysLoop_11 F (LI R3) w) K (zt i) = pk_X11_laysLoop_37 F (zt (if lsS (canF (R 1)) n i = -1 then R 1 0 else lsS (canF (R 1)) n i)) (LI R3) w := by
    intro n
    induction n with
    | zero =>
      intro i K h1 h2 hK
      obtain ⟨g, rfl⟩ : ∃ g, K = g + 1 := ⟨K - 1, by omega⟩
      rw [fix_succ]
      unfold pb_X11_laysLoop_11 lsS
      rw [show (0 : Int32) = zt 0 from rfl, mI_z (by omega) (by omega) (by omega), ob_z, e1, if_pos (zle_pos (by omega) (by omega) (by omega)), if_pos rfl, show i = R 1 0 by omega]
    | succ n ih =>
      intro i K h1 h2 hK
      obtain ⟨g, rfl⟩ : ∃ g, K = g + 1 := ⟨K - 1, by omega⟩
      rw [fix_succ]
      generalize hr : fixN (fun _ => none) (pb_X11_laysLoop_11 F (LI R3) w) g = r
      have hwi := hO.2.2.1 i
      have hih := ih (i + 1) g (by omega) (by omega) (by omega)
      rw [hr] at hih
      unfold pb_X11_laysLoop_11 lsS
      rw [show (0 : Int32) = zt 0 from rfl, mI_z (by omega) (by omega) (by omega), ob_z, e1, if_neg (zle_neg (by omega) (by omega) (by omega)), mI_z (by omega) (by omega) (by omega), ob_z, e18 i h2 (by omega), show (1 : Int32) = zt 1 from rfl, zt_add, hih]
      have hz : (zt ((ordF (R 1)).2 i) = -zt 1) = ((ordF (R 1)).2 i = -1) := by
        rw [show -zt 1 = zt (-1) from rfl]
        exact zt_eq (by omega) (by omega) (by omega) (by omega)
      by_cases q : (ordF (R 1)).2 i = -1
      · rw [if_pos (by rw [hz]; exact q), if_pos (canF_f.mpr q), if_neg (by omega)]
      · rw [if_neg (by rw [hz]; exact q), if_neg (fun e => q (canF_f.mp e))]
  rw [k11 (R 1 0).toNat 0 F (by omega) (by omega) (by omega)]
  unfold pk_X11_laysLoop_37
  rw [show (0 : Int32) = zt 0 from rfl, mI_z (by omega) (by omega) (by omega), ob_z, e1]
  by_cases q : lsS (canF (R 1)) (R 1 0).toNat 0 = -1
  · rw [if_pos q, if_pos rfl]
    refine ⟨R3, rfl, ?_, hfr, hf0⟩
    have hnil : loopF (R 1) = [] := by unfold loopF loopG; rw [if_pos q]
    rw [hnil]
    exact ⟨hL0, fun i y hy => (by cases hy)⟩
  · have hI := canF_IsC hP
    obtain ⟨l1, l2, l3⟩ := hI.lp hP q
    rw [if_neg q]
    rcases lsS_spec (can := canF (R 1)) (R 1 0).toNat 0 (by omega) with ⟨b1, b2⟩ | ⟨b1, b2⟩
    · exact absurd b1 q
    · obtain ⟨s1, d, d1, d2, d3⟩ := entS_ok (nx := nxS (R 1) (pEg (R 1)) (canF (R 1))) (c := R 1 0) (St := fun q => (0 ≤ q ∧ q < R 1 0) ∧ canF (R 1) q = false) hc (fun q hq => by
        obtain ⟨k, k1, k2, k3, k4, k5, k6⟩ := stuck hP hI hq.1 hq.2
        exact ⟨hq.1, by rw [k5]; exact k6, by rw [k5]; exact k4⟩) 13 [] (lsS (canF (R 1)) (R 1 0).toNat 0) rfl List.nodup_nil (fun y hy => by cases hy) trivial ⟨by omega, b2⟩
      rw [if_neg (show ¬ (zt (lsS (canF (R 1)) (R 1 0).toNat 0) = zt (R 1 0)) by rw [zt_eq (by omega) (by omega) (by omega) (by omega)]; omega), x_lp50 (by omega) hP e1 e18 13 [] _ (zt 0) F rfl List.nodup_nil (fun y hy => by cases hy) (by omega) b2 (fun j _ _ => by rw [bt_0]; simp) (by omega)]
      have hst := lpS_stab (nx := nxS (R 1) (pEg (R 1)) (canF (R 1))) d _ d1 d3
      have hG := l2 (R 1 0).toNat (Nat.le_refl _)
      rw [(hst _ (by omega)).1] at hG
      unfold pk_X11_laysLoop_73
      obtain ⟨R4, c1, c2, c3, c4⟩ := x_lp75 (w := w) (F := F) (Q := R 1) (by omega) hP l1.1 d _ [] R3 F d1 d3 l1.1 l1.2 (by simp; omega) e1 e18 ⟨hL0, fun i y hy => (by cases hy)⟩ (by omega)
      rw [List.nil_append, hG] at c2
      exact ⟨R4, c1, c2, fun j j0 j1 => by rw [c3 j (by omega) (by omega), hfr j j0 j1], fun e g1 g2 => by rw [c4 e g2, hf0 e g1 g2]⟩
theorem x_loop {k : Int} (hF : 100 < F) (hk : -2147483648 ≤ k ∧ k < 2147483648) (hP : wfP (R 1)) : ∃ R1, p_X11_loop F (zt k) (LI R) w = some (zt (pickS (loopF (R 1)) k), LI R1, w) ∧ FrQ R R1 := by
  have hl := loopF_len hP
  unfold p_X11_loop
  rw [show (0 : Int32) = zt 0 from rfl, R0_z, gnm_z]
  have e1 : R0 R 1 = R 1 := R0_row (by omega)
  obtain ⟨R1, a1, a2, a3, a4⟩ := x_laysLoop (R := R0 R) (w := w) (F := F) hF (by rw [e1]; exact hP)
  rw [e1] at a2
  rw [a1, pcU_z, LI_35, a2.1]
  have hfr : FrQ R R1 := (FrQ.r0 R).trans ⟨fun j j0 j1 => a3 j j0 j1, fun e e0 e1 e2 => a4 e e1 e2⟩
  unfold pickS
  simp (disch := omega) only [zt_lit, zt_neg, zt_eq, zt_sub, x_in, ob_z]
  by_cases c1 : k = -1
  · rw [if_pos c1, if_pos c1]; exact ⟨R1, rfl, hfr⟩
  · rw [if_neg c1, if_neg c1]
    by_cases c2 : 0 ≤ k ∧ k < (loopF (R 1)).length
    · rw [if_pos (show 0 ≤ k ∧ k ≤ ((loopF (R 1)).length : Int) - 1 by omega), if_neg (by decide), if_pos c2, x_pick (by decide) (by omega) c2 a2.2, ob_z]
      exact ⟨R1, rfl, hfr⟩
    · rw [if_neg (show ¬ (0 ≤ k ∧ k ≤ ((loopF (R 1)).length : Int) - 1) by omega), if_pos rfl, if_neg c2]
      exact ⟨R1, rfl, hfr⟩
/-! needs -/
theorem x_needsOf {i : Int} {z : Int32} (hF : 10 < F) (hP : wfP Q) (hR : R 1 = Q) (hi : 0 ≤ i ∧ i < Q 0) : p_X11_needsOf F (zt i) z (LI R) w = some (nb Q (eL Q z 0) i) := by
  have hc := hP.1
  have hm := hP.mn hi
  have key : ∀ (n : Nat) (k : Int) (v : Int32) (K : Nat), k + n = pMany Q i → 0 ≤ k → n < K → fixN (fun _ _ => none) (pb_X11_needsOf_5 F (zt i) z (LI R) w) K v (zt k) = some (nbS Q (eL Q z 0) i n k v) := by
    intro n
    induction n with
    | zero =>
      intro k v K h1 h2 hK
      obtain ⟨g, rfl⟩ : ∃ g, K = g + 1 := ⟨K - 1, by omega⟩
      rw [fix_succ]
      unfold pb_X11_needsOf_5 nbS
      rw [show (2 : Int32) = zt 2 from rfl, x_of (by omega) (by omega), ob_z, hR, if_pos (zle_pos (by unfold pMany at *; omega) (by unfold pMany at *; omega) (by omega))]
    | succ n ih =>
      intro k v K h1 h2 hK
      obtain ⟨g, rfl⟩ : ∃ g, K = g + 1 := ⟨K - 1, by omega⟩
      rw [fix_succ]
      generalize hr : fixN (fun _ _ => none) (pb_X11_needsOf_5 F (zt i) z (LI R) w) g = r
      have hnd : Q (1 + 11 * i + (3 + k)) = pNd Q i k := rfl
      have s31 : pk_X11_needsOf_31 F r (zt i) z (zt k) v (LI R) w = r (v ||| ib (pNd Q i k)) (zt (k + 1)) := by
        unfold pk_X11_needsOf_31
        rw [show (3 : Int32) = zt 3 from rfl, zt_add, x_of (by omega) (by omega), ob_z, hR, hnd, gnm_z]
        simp only [zt_lit, zt_add, ib_fold]
      unfold pb_X11_needsOf_5
      rw [show (2 : Int32) = zt 2 from rfl, x_of (by omega) (by omega), ob_z, hR, if_neg (zle_neg (by unfold pMany at *; omega) (by unfold pMany at *; omega) (by omega)), x_isLazy (by omega), ob_z, hR, s31, gnm_z, show (1 : Int32) = zt 1 from rfl, zt_add, show v ||| (0 : Int32) = v from or_z0 v]
      rw [nbS, ← ih (k + 1) _ g (by omega) (by omega) (by omega), hr]
      have hel : eL Q z 0 i k = (decide (z ≠ 0) || pEg Q i k) := by unfold eL; rw [btL_0]; simp
      rw [hel]
      by_cases hz : z = 0
      · have hd : decide (z ≠ 0) = false := by simp [hz]
        rw [if_pos hz, hd, Bool.false_or]
        by_cases q : lz (Q (1 + 11 * i + 7)) k = true
        · have hpe : pEg Q i k = false := by unfold pEg; rw [q]; rfl
          rw [if_pos q, if_neg zz1, hpe, if_neg (by simp)]
        · have q2 : lz (Q (1 + 11 * i + 7)) k = false := by simpa using q
          have hpe : pEg Q i k = true := by unfold pEg; rw [q2]; rfl
          rw [if_neg q, if_pos zz0, hpe, if_pos rfl]
      · have hd : decide (z ≠ 0) = true := by simp [hz]
        rw [if_neg hz, hd, Bool.true_or, if_pos rfl]
  unfold p_X11_needsOf
  rw [show (0 : Int32) = zt 0 from rfl]
  exact key (pMany Q i).toNat 0 (zt 0) F (by omega) (by omega) (by omega)
def alS (Q : Int → Int) (E : Int → Int → Bool) (st : Int32) : Nat → Int → Int32 → Int32
  | 0, _, v => v
  | n + 1, i, v => alS Q E st n (i + 1) (if bt st i = true then v ||| nb Q E i else v)
theorem alS_ok {E : Int → Int → Bool} (hP : wfP Q) {p : Int} {st : Int32} (hst : NdP Q E p st) : ∀ (n : Nat) (i : Int) (v : Int32), i + n = 12 → 0 ≤ i → NdP Q E p v → SubB st v → NdP Q E p (alS Q E st n i v) ∧ SubB v (alS Q E st n i v) ∧ ∀ i', i ≤ i' → i' < 12 → bt st i' = true → ∀ j, Bnd Q E i' j → bt (alS Q E st n i v) j = true := by
  have hc := hP.1
  intro n
  induction n with
  | zero =>
    intro i v h1 h2 h3 h4
    unfold alS
    exact ⟨h3, SubB.refl _, fun i' a b => by omega⟩
  | succ n ih =>
    intro i v h1 h2 h3 h4
    unfold alS
    by_cases q : bt st i = true
    · have hi : 0 ≤ i ∧ i < Q 0 := ⟨h2, hst.1 i h2 (by omega) q⟩
      rw [if_pos q]
      obtain ⟨a1, a2, a3⟩ := ih (i + 1) (v ||| nb Q E i) (by omega) (by omega) (h3.add hP hi (h4 i h2 (by omega) q)) (h4.trans SubB.oo)
      refine ⟨a1, SubB.oo.trans a2, fun i' g1 g2 g3 j hj => ?_⟩
      by_cases e : i' = i
      · subst e
        have hr := hj.rng hP hi
        exact a2 j hr.1 (by omega) (SubB.oor j hr.1 (by omega) ((nb_bit hP hi hr.1).mpr hj))
      · exact a3 i' (by omega) g2 g3 j hj
    · rw [if_neg q]
      obtain ⟨a1, a2, a3⟩ := ih (i + 1) v (by omega) (by omega) h3 h4
      refine ⟨a1, a2, fun i' g1 g2 g3 j hj => ?_⟩
      by_cases e : i' = i
      · subst e; exact absurd g3 q
      · exact a3 i' (by omega) g2 g3 j hj
theorem x_needsOfAll {st z : Int32} {p : Int} (hF : 20 < F) (hP : wfP Q) (hR : R 1 = Q) (hst : NdP Q (eL Q z 0) p st) : p_X11_needsOfAll F st z (LI R) w = some (alS Q (eL Q z 0) st 12 0 st) := by
  have hc := hP.1
  have key : ∀ (n : Nat) (i : Int) (v : Int32) (K : Nat), i + n = 12 → 0 ≤ i → n < K → fixN (fun _ _ => none) (pb_X11_needsOfAll_5 F st z (LI R) w) K v (zt i) = some (alS Q (eL Q z 0) st n i v) := by
    intro n
    induction n with
    | zero =>
      intro i v K h1 h2 hK
      obtain ⟨g, rfl⟩ : ∃ g, K = g + 1 := ⟨K - 1, by omega⟩
      rw [fix_succ]
      unfold pb_X11_needsOfAll_5 alS
      rw [show (12 : Int32) = zt 12 from rfl, if_pos (zle_pos (by omega) (by omega) (by omega))]
    | succ n ih =>
      intro i v K h1 h2 hK
      obtain ⟨g, rfl⟩ : ∃ g, K = g + 1 := ⟨K - 1, by omega⟩
      rw [fix_succ]
      generalize hr : fixN (fun _ _ => none) (pb_X11_needsOfAll_5 F st z (LI R) w) g = r
      unfold pb_X11_needsOfAll_5
      rw [show (12 : Int32) = zt 12 from rfl, if_neg (zle_neg (by omega) (by omega) (by omega)), alS, ← ih (i + 1) _ g (by omega) (by omega) (by omega), hr]
      by_cases q : bt st i = true
      · rw [if_pos q, x_needsOf (by omega) hP hR ⟨h2, hst.1 i h2 (by omega) q⟩, ob_z, gnm_z]
        simp only [zt_lit, zt_add]
        rw [bt_shr (by omega), if_pos q, if_pos rfl]
      · rw [if_neg q, gnm_z]
        simp only [zt_lit, zt_add]
        rw [bt_shr (by omega), if_neg q, if_neg (show ¬ (zt 0 = zt 1) by decide), or_z0]
  unfold p_X11_needsOfAll
  rw [show (0 : Int32) = zt 0 from rfl]
  exact key 12 0 st F (by omega) (by omega) (by omega)
theorem x_allNeeds {z : Int32} {p : Int} (hF : 20 < F) (hP : wfP Q) (hR : R 1 = Q) (hp : 0 ≤ p ∧ p < Q 0) : ∃ v, p_X11_allNeeds F (zt p) z (LI R) w = some v ∧ NdB Q (eL Q z 0) p v := by
  have hc := hP.1
  have key : ∀ (m : Nat) (st : Int32) (K : Nat), 12 ≤ cnB (bt st) (Q 0).toNat + m → NdP Q (eL Q z 0) p st → m < K → ∃ v, fixN (fun _ => none) (pb_X11_allNeeds_7 F z (LI R) w) K st = some v ∧ NdP Q (eL Q z 0) p v ∧ alS Q (eL Q z 0) v 12 0 v = v := by
    intro m
    induction m with
    | zero =>
      intro st K h1 h2 hK
      obtain ⟨g, rfl⟩ : ∃ g, K = g + 1 := ⟨K - 1, by omega⟩
      rw [fix_succ]
      unfold pb_X11_allNeeds_7
      obtain ⟨a1, a2, a3⟩ := alS_ok hP h2 12 0 st (by omega) (by omega) h2 (SubB.refl _)
      have hfull := cnB_full (f := bt st) (Q 0).toNat (by have := cnB_le (bt st) (Q 0).toNat; omega)
      have he : alS Q (eL Q z 0) st 12 0 st = st := SubB.anti (fun j a b hb => hfull j a (by have := a1.1 j a b hb; omega)) a2
      rw [x_needsOfAll hF hP hR h2, ob_z, if_pos he]
      exact ⟨st, rfl, h2, he⟩
    | succ m ih =>
      intro st K h1 h2 hK
      obtain ⟨g, rfl⟩ : ∃ g, K = g + 1 := ⟨K - 1, by omega⟩
      rw [fix_succ]
      generalize hr : fixN (fun _ => none) (pb_X11_allNeeds_7 F z (LI R) w) g = r
      unfold pb_X11_allNeeds_7
      obtain ⟨a1, a2, a3⟩ := alS_ok hP h2 12 0 st (by omega) (by omega) h2 (SubB.refl _)
      rw [x_needsOfAll hF hP hR h2, ob_z, ob_z]
      by_cases q : alS Q (eL Q z 0) st 12 0 st = st
      · rw [if_pos q]; exact ⟨st, rfl, h2, q⟩
      · rw [if_neg q, ← hr]
        have hg := a2.grow hc a1.1 q
        exact ih _ g (by omega) a1 (by omega)
  obtain ⟨v, a1, a2, a3⟩ := key 12 (nb Q (eL Q z 0) p) F (by omega) (NdP.start hP hp) (by omega)
  refine ⟨v, ?_, a2.fin hP hp (fun i i0 i1 hb j hj => ?_)⟩
  · unfold p_X11_allNeeds
    rw [x_needsOf (by omega) hP hR hp, ob_z]
    exact a1
  · have := (alS_ok hP a2 12 0 v (by omega) (by omega) a2 (SubB.refl _)).2.2 i i0 (by omega) hb j hj
    rw [a3] at this
    exact this
theorem x_needs {p : Int} {z : Int32} (hF : 100 < F) (hp : -2147483648 ≤ p ∧ p < 2147483648) (hP : wfP (R 1)) : (¬ (0 ≤ p ∧ p < R 1 0) → p_X11_needs F (zt p) z (LI R) w = some (zt (-1), LI (R0 R), w)) ∧ ((0 ≤ p ∧ p < R 1 0) → ∃ v, NdB (R 1) (eL (R 1) z 0) p v ∧ p_X11_needs F (zt p) z (LI R) w = some (v, LI (R0 R), w)) := by
  have hc := hP.1
  have e1 : R0 R 1 = R 1 := R0_row (by omega)
  unfold p_X11_needs
  rw [show (0 : Int32) = zt 0 from rfl, R0_z, gnm_z, x_isPart hp (by rw [e1]; exact hc), ob_z, e1]
  refine ⟨fun h => ?_, fun h => ?_⟩
  · rw [if_neg (show ¬ (0 ≤ p ∧ p ≤ R 1 0 - 1) by omega), if_pos rfl]
    rfl
  · obtain ⟨v, a1, a2⟩ := x_allNeeds (w := w) (F := F) (z := z) (by omega) hP e1 h
    rw [if_pos (show 0 ≤ p ∧ p ≤ R 1 0 - 1 by omega), if_neg (by decide), a1, ob_z]
    exact ⟨v, a2, rfl⟩
theorem x_lost {p : Int} (hF : 100 < F) (hp : -2147483648 ≤ p ∧ p < 2147483648) (hP : wfP (R 1)) : (¬ (0 ≤ p ∧ p < R 1 0) → p_X11_lost F (zt p) (LI R) w = some (zt (-1), LI (R0 R), w)) ∧ ((0 ≤ p ∧ p < R 1 0) → ∃ v, LoB (R 1) (pEg (R 1)) p v ∧ p_X11_lost F (zt p) (LI R) w = some (v, LI (R0 R), w)) := by
  have hc := hP.1
  have e1 : R0 R 1 = R 1 := R0_row (by omega)
  unfold p_X11_lost
  rw [show (0 : Int32) = zt 0 from rfl, R0_z, gnm_z, x_isPart hp (by rw [e1]; exact hc), ob_z, e1]
  refine ⟨fun h => ?_, fun h => ?_⟩
  · rw [if_neg (show ¬ (0 ≤ p ∧ p ≤ R 1 0 - 1) by omega), if_pos rfl]
    rfl
  · rw [if_pos (show 0 ≤ p ∧ p ≤ R 1 0 - 1 by omega), if_neg (by decide), gnm_z]
    have key : ∀ (n : Nat) (i : Int) (v : Int32) (K : Nat), i + n = R 1 0 → 0 ≤ i → InB (R 1 0) v → (∀ j, 0 ≤ j → j < R 1 0 → (bt v j = true ↔ j = p ∨ (j < i ∧ Rch (R 1) (pEg (R 1)) j p))) → n < K → ∃ v', fixN (fun _ _ => none) (pb_X11_lost_21 F (zt p) (LI (R0 R)) w) K v (zt i) = some (v', LI (R0 R), w) ∧ LoB (R 1) (pEg (R 1)) p v' := by
      intro n
      induction n with
      | zero =>
        intro i v K h1 h2 h3 h4 hK
        obtain ⟨g, rfl⟩ : ∃ g, K = g + 1 := ⟨K - 1, by omega⟩
        rw [fix_succ]
        unfold pb_X11_lost_21
        rw [show (0 : Int32) = zt 0 from rfl, mI_z (by omega) (by omega) (by omega), ob_z, e1, if_pos (zle_pos (by omega) (by omega) (by omega))]
        refine ⟨v, rfl, h3, fun j j0 j1 => ?_⟩
        rw [h4 j j0 j1]
        exact ⟨fun g => g.imp id (fun g => g.2), fun g => g.imp id (fun g => ⟨by omega, g⟩)⟩
      | succ n ih =>
        intro i v K h1 h2 h3 h4 hK
        obtain ⟨g, rfl⟩ : ∃ g, K = g + 1 := ⟨K - 1, by omega⟩
        rw [fix_succ]
        generalize hr : fixN (fun _ _ => none) (pb_X11_lost_21 F (zt p) (LI (R0 R)) w) g = r
        have hi : 0 ≤ i ∧ i < R 1 0 := by omega
        obtain ⟨u, u1, u2⟩ := x_allNeeds (w := w) (F := F) (z := zt 0) (by omega) hP e1 hi
        rw [eL_0] at u2
        have hup := u2.2 p h.1 h.2
        unfold pb_X11_lost_21
        rw [show (0 : Int32) = zt 0 from rfl, mI_z (by omega) (by omega) (by omega), ob_z, e1, if_neg (zle_neg (by omega) (by omega) (by omega)), u1, ob_z, gnm_z, gnm_z]
        simp only [zt_lit, zt_add, ib_fold]
        rw [bt_shr (by omega), ← hr, or_z0]
        by_cases q : bt u p = true
        · rw [if_pos q, if_pos rfl]
          refine ih (i + 1) (v ||| ib i) g (by omega) (by omega) (h3.or hi hc.2) (fun j j0 j1 => ?_) (by omega)
          rw [bt_or _ (by omega) j0, Bool.or_eq_true, decide_eq_true_eq, h4 j j0 j1]
          constructor
          · rintro ((g | g) | g)
            · exact Or.inl g
            · exact Or.inr ⟨by omega, g.2⟩
            · subst g; exact Or.inr ⟨by omega, hup.mp q⟩
          · rintro (g | g)
            · exact Or.inl (Or.inl g)
            · by_cases e : i = j
              · exact Or.inr e
              · exact Or.inl (Or.inr ⟨by omega, g.2⟩)
        · rw [if_neg q, if_neg (show ¬ (zt 0 = zt 1) by decide)]
          refine ih (i + 1) v g (by omega) (by omega) h3 (fun j j0 j1 => ?_) (by omega)
          rw [h4 j j0 j1]
          constructor
          · rintro (g | g)
            · exact Or.inl g
            · exact Or.inr ⟨by omega, g.2⟩
          · rintro (g | g)
            · exact Or.inl g
            · have e : j ≠ i := fun e => by subst e; exact q (hup.mpr g.2)
              exact Or.inr ⟨by omega, g.2⟩
    obtain ⟨v, a1, a2⟩ := key (R 1 0).toNat 0 (ib p) F (by omega) (by omega) (fun j j0 j1 hb => by
      rw [bt_ib (by omega) j0, decide_eq_true_eq] at hb
      omega) (fun j j0 j1 => by
      rw [bt_ib (by omega) j0, decide_eq_true_eq]
      exact ⟨fun g => Or.inl g.symm, fun g => by
        rcases g with g | g
        · exact g.symm
        · omega⟩) (by omega)
    exact ⟨v, a2, a1⟩
end RL
