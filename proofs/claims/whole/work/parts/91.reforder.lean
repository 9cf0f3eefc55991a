/-! The reference lays its order and its loop. -/
def FSr (R : ZM) (s : List Int × (Int → Int)) : Prop := R 0 32 = s.1.length ∧ (∀ (i : Nat) (y : Int), s.1[i]? = some y → R 17 i = y) ∧ ∀ p, 0 ≤ p → p < 12 → R 18 p = s.2 p
/-- only scratch rows changed -/
def FrQ (R R1 : ZM) : Prop := (∀ j, 0 < j → j < 17 → R1 j = R j) ∧ ∀ e, e ≠ 0 → e ≠ 32 → e ≠ 35 → R1 0 e = R 0 e
theorem FrQ.refl (R : ZM) : FrQ R R := ⟨fun _ _ _ => rfl, fun _ _ _ _ => rfl⟩
theorem FrQ.trans {R R1 R2 : ZM} (h : FrQ R R1) (h1 : FrQ R1 R2) : FrQ R R2 := ⟨fun j a b => (h1.1 j a b).trans (h.1 j a b), fun e a b c => (h1.2 e a b c).trans (h.2 e a b c)⟩
theorem FrQ.fr {R R1 : ZM} (h : FrQ R R1) : Fr R R1 := ⟨h.1 2 (by omega) (by omega), h.1 3 (by omega) (by omega), fun e _ _ => by rw [h.1 1 (by omega) (by omega)]⟩
theorem FrQ.fru {R R1 : ZM} (h : FrQ R R1) : FrU R R1 := ⟨h.1 4 (by omega) (by omega), h.2 5 (by omega) (by omega) (by omega)⟩
theorem FrQ.r0 (R : ZM) : FrQ R (R0 R) := ⟨fun j a b => R0_row (by omega), fun e a b c => uM_nei a⟩
section RO
variable {w : Int64} {F : Nat} {R : ZM} {Q wv : Int → Int}
theorem x_mayStart {p : Int} (hF : 10 < F) (hP : wfP Q) (hR : R 1 = Q) (hw : ∀ j, 0 ≤ j → j < 12 → R 18 j = wv j) (hwr : ∀ j, -1 ≤ wv j ∧ wv j ≤ 12) (hp : 0 ≤ p ∧ p < Q 0) : p_X11_mayStart F (zt p) (LI R) w = some (zt (if allK (fun k => !(pEg Q p k) || !(decide (wv (pNd Q p k) = -1))) (pMany Q p).toNat 0 = true then 1 else 0)) := by
  have hc := hP.1
  have hm := hP.mn hp
  have key : ∀ (n : Nat) (k : Int) (K : Nat), k + n = pMany Q p → 0 ≤ k → n < K → fixN (fun _ => none) (pb_X11_mayStart_2 F (zt p) (LI R) w) K (zt k) = some (zt (if allK (fun k => !(pEg Q p k) || !(decide (wv (pNd Q p k) = -1))) n k = true then 1 else 0)) := by
    intro n
    induction n with
    | zero =>
      intro k K h1 h2 hK
      obtain ⟨g, rfl⟩ : ∃ g, K = g + 1 := ⟨K - 1, by omega⟩
      rw [fix_succ]
      unfold pb_X11_mayStart_2 allK
      rw [show (2 : Int32) = zt 2 from rfl, x_of (by omega) (by omega), ob_z, hR, if_pos (zle_pos (by unfold pMany at *; omega) (by unfold pMany at *; omega) (by omega)), if_pos rfl]
      rfl
    | succ n ih =>
      intro k K h1 h2 hK
      obtain ⟨g, rfl⟩ : ∃ g, K = g + 1 := ⟨K - 1, by omega⟩
      rw [fix_succ]
      generalize hr : fixN (fun _ => none) (pb_X11_mayStart_2 F (zt p) (LI R) w) g = r
      have hn := hP.nd hp (k := k) (by omega)
      have hnd : Q (1 + 11 * p + (3 + k)) = pNd Q p k := rfl
      have hwk := hwr (pNd Q p k)
      unfold pb_X11_mayStart_2
      rw [show (2 : Int32) = zt 2 from rfl, x_of (by omega) (by omega), ob_z, hR, if_neg (zle_neg (by unfold pMany at *; omega) (by unfold pMany at *; omega) (by omega)), x_isLazy (by omega), ob_z, show (3 : Int32) = zt 3 from rfl, zt_add, x_of (by omega) (by omega), ob_z, hR, hnd, mI_z (by omega) (by omega) (by omega), ob_z, hw _ hn.1 (by omega), show (1 : Int32) = zt 1 from rfl, zt_add, ← hr, ih (k + 1) g (by omega) (by omega) (by omega)]
      rw [show allK (fun k => !(pEg Q p k) || !(decide (wv (pNd Q p k) = -1))) (n + 1) k = ((!(pEg Q p k) || !(decide (wv (pNd Q p k) = -1))) && allK (fun k => !(pEg Q p k) || !(decide (wv (pNd Q p k) = -1))) n (k + 1)) from rfl]
      by_cases q : lz (Q (1 + 11 * p + 7)) k = true
      · have hpe : pEg Q p k = false := by unfold pEg; rw [q]; rfl
        rw [if_pos q, if_neg zz1, hpe, Bool.not_false, Bool.true_or, Bool.true_and]
      · have q2 : lz (Q (1 + 11 * p + 7)) k = false := by simpa using q
        have hpe : pEg Q p k = true := by unfold pEg; rw [q2]; rfl
        rw [if_neg q, if_pos zz0, hpe, Bool.not_true, Bool.false_or]
        have hz : (zt (wv (pNd Q p k)) = -zt 1) = (wv (pNd Q p k) = -1) := by
          rw [show -zt 1 = zt (-1) from rfl]
          exact zt_eq (by omega) (by omega) (by omega) (by omega)
        by_cases q3 : wv (pNd Q p k) = -1
        · rw [if_pos (by rw [hz]; exact q3), show decide (wv (pNd Q p k) = -1) = true from decide_eq_true q3, Bool.not_true, Bool.false_and, if_neg (by simp)]
          rfl
        · rw [if_neg (by rw [hz]; exact q3), show decide (wv (pNd Q p k) = -1) = false from decide_eq_false q3, Bool.not_false, Bool.true_and]
  unfold p_X11_mayStart
  rw [show (0 : Int32) = zt 0 from rfl]
  exact key (pMany Q p).toNat 0 F (by omega) (by omega) (by omega)
theorem x_waveOf {p : Int} (hF : 10 < F) (hP : wfP Q) (hR : R 1 = Q) (hw : ∀ j, 0 ≤ j → j < 12 → R 18 j = wv j) (hwr : ∀ j, -1 ≤ wv j ∧ wv j ≤ 12) (hp : 0 ≤ p ∧ p < Q 0) : p_X11_waveOf F (zt p) (LI R) w = some (zt (wavOf Q wv p)) := by
  have hc := hP.1
  have hm := hP.mn hp
  have key : ∀ (n : Nat) (k a : Int) (K : Nat), k + n = pMany Q p → 0 ≤ k → -1 ≤ a → a ≤ 100 → n < K → fixN (fun _ _ => none) (pb_X11_waveOf_4 F (zt p) (LI R) w) K (zt a) (zt k) = some (zt (wavK Q wv p n k a)) := by
    intro n
    induction n with
    | zero =>
      intro k a K h1 h2 h3 h4 hK
      obtain ⟨g, rfl⟩ : ∃ g, K = g + 1 := ⟨K - 1, by omega⟩
      rw [fix_succ]
      unfold pb_X11_waveOf_4 wavK
      rw [show (2 : Int32) = zt 2 from rfl, x_of (by omega) (by omega), ob_z, hR, if_pos (zle_pos (by unfold pMany at *; omega) (by unfold pMany at *; omega) (by omega))]
    | succ n ih =>
      intro k a K h1 h2 h3 h4 hK
      obtain ⟨g, rfl⟩ : ∃ g, K = g + 1 := ⟨K - 1, by omega⟩
      rw [fix_succ]
      generalize hr : fixN (fun _ _ => none) (pb_X11_waveOf_4 F (zt p) (LI R) w) g = r
      have hn := hP.nd hp (k := k) (by omega)
      have hnd : Q (1 + 11 * p + (3 + k)) = pNd Q p k := rfl
      have hwk := hwr (pNd Q p k)
      unfold pb_X11_waveOf_4 wavK
      rw [show (2 : Int32) = zt 2 from rfl, x_of (by omega) (by omega), ob_z, hR, if_neg (zle_neg (by unfold pMany at *; omega) (by unfold pMany at *; omega) (by omega)), x_isLazy (by omega), ob_z, show (3 : Int32) = zt 3 from rfl, zt_add, x_of (by omega) (by omega), ob_z, ob_z, hR, hnd, mI_z (by omega) (by omega) (by omega), ob_z, ob_z, hw _ hn.1 (by omega), gnm_z, show (1 : Int32) = zt 1 from rfl, zt_add, zt_add, ← hr]
      unfold pEg
      by_cases q : lz (Q (1 + 11 * p + 7)) k = true
      · rw [if_pos q, if_neg zz1, q, if_neg (by simp), ih (k + 1) a g (by omega) (by omega) h3 h4 (by omega)]
      · have q2 : lz (Q (1 + 11 * p + 7)) k = false := by simpa using q
        rw [if_neg q, if_pos zz0, q2]
        have hz : (zt (wv (pNd Q p k)) < zt a) = (wv (pNd Q p k) < a) := zt_lt (by omega) (by omega) (by omega) (by omega)
        by_cases q3 : wv (pNd Q p k) < a
        · rw [if_pos (by rw [hz]; exact q3), if_neg (by omega), ih (k + 1) a g (by omega) (by omega) h3 h4 (by omega)]
        · rw [if_neg (by rw [hz]; exact q3), if_pos ⟨rfl, by omega⟩, ih (k + 1) _ g (by omega) (by omega) (by omega) (by omega) (by omega)]
  unfold p_X11_waveOf wavOf
  rw [show (0 : Int32) = zt 0 from rfl]
  exact key (pMany Q p).toNat 0 0 F (by omega) (by omega) (by omega) (by omega) (by omega)
theorem LI_32 (M : ZM) (j : Nat) : LI M j 32 = zt (M j 32) := rfl
theorem up2_32 (M : ZM) (j : Nat) (v : Int) : up2 (LI M) j 32 (zt v) = LI (uM M j 32 v) := up2_z M j 32 v
theorem x_lo36 {r : Int32 → (Nat → Nat → Int32) → Int64 → Option ((Nat → Nat → Int32) × Int64)} {s : List Int × (Int → Int)} (hF : 10 < F) (hP : wfP Q) (hO : OI Q s) (hR : R 1 = Q) (hS : FSr R s) : ∀ (n : Nat) (i : Int) (K : Nat), i + n = Q 0 → 0 ≤ i → n + 1 < K → fixN (fun _ _ _ _ => none) (pb_X11_laysOrder_36 F r) K (zt 0) (zt i) (LI R) w = if lstR Q s.2 n i = -1 then r (zt 0) (LI R) w else r (zt 1) (LI (uM (uM (uM R 18 (lstR Q s.2 n i) (wavOf Q s.2 (lstR Q s.2 n i))) 17 s.1.length (lstR Q s.2 n i)) 0 32 (s.1.length + 1))) w := by
  have hc := hP.1
  have hwr : ∀ j, -1 ≤ s.2 j ∧ s.2 j ≤ 12 := fun j => by
    have := hO.2.2.1 j
    have := hO.len hP
    omega
  intro n
  induction n with
  | zero =>
    intro i K h1 h2 hK
    obtain ⟨g, rfl⟩ : ∃ g, K = g + 1 := ⟨K - 1, by omega⟩
    rw [fix_succ]
    unfold pb_X11_laysOrder_36 lstR
    rw [show (0 : Int32) = zt 0 from rfl, mI_z (by omega) (by omega) (by omega), ob_z, hR, if_pos (zle_pos (by omega) (by omega) (by omega)), if_pos rfl]
  | succ n ih =>
    intro i K h1 h2 hK
    obtain ⟨g, rfl⟩ : ∃ g, K = g + 1 := ⟨K - 1, by omega⟩
    rw [fix_succ]
    generalize hr : fixN (fun _ _ _ _ => none) (pb_X11_laysOrder_36 F r) g = rr
    have hi : 0 ≤ i ∧ i < Q 0 := by omega
    have hih := ih (i + 1) g (by omega) (by omega) (by omega)
    have s72 : pk_X11_laysOrder_72 F rr (zt i) (LI R) w = rr (zt 0) (zt (i + 1)) (LI R) w := by
      unfold pk_X11_laysOrder_72 pk_X11_laysOrder_73
      rw [if_pos rfl, show (1 : Int32) = zt 1 from rfl, zt_add]
      rfl
    rw [hr] at hih
    unfold pb_X11_laysOrder_36 lstR
    rw [show (0 : Int32) = zt 0 from rfl, mI_z (by omega) (by omega) (by omega), ob_z, hR, if_neg (zle_neg (by omega) (by omega) (by omega)), if_pos rfl, mI_z (by omega) (by omega) (by omega), ob_z, hS.2.2 i h2 (by omega), x_mayStart (by omega) hP hR hS.2.2 hwr hi, ob_z, s72, hih]
    have hz : (zt (s.2 i) = -1) = (s.2 i = -1) := by
      rw [show (-1 : Int32) = zt (-1) from rfl]
      have := hwr i
      exact zt_eq (by omega) (by omega) (by omega) (by omega)
    by_cases q1 : s.2 i = -1
    · rw [if_pos (by rw [hz]; exact q1)]
      by_cases q2 : allK (fun k => !(pEg Q i k) || !(decide (s.2 (pNd Q i k) = -1))) (pMany Q i).toNat 0 = true
      · have hrd : rdyB Q s.2 i = true := by unfold rdyB; rw [q1, q2]; rfl
        have hws := wavOf_spec (wv := s.2) hP hi
        have hln := hO.len hP
        have hni : i ∉ s.1 := fun e => ((hO.2.1 i).mp e).2 q1
        have hlt : (s.1.length : Int) < Q 0 := by
          have := nodup_le (Q 0).toNat (i :: s.1) (List.nodup_cons.mpr ⟨hni, hO.1⟩) (fun y hy => by
            rcases List.mem_cons.mp hy with rfl | hy
            · omega
            · have := ((hO.2.1 y).mp hy).1; omega)
          simp only [List.length_cons] at this
          omega
        rw [if_pos q2, if_neg (show ¬ (zt 1 = zt 0) by decide), if_pos hrd, if_neg (by omega)]
        unfold pk_X11_laysOrder_73
        rw [if_neg (show ¬ ((1 : Int32) = 0) by decide), x_waveOf (by omega) hP hR hS.2.2 hwr hi, ob_z, mS_z (by omega) (by omega) (by omega), ob_z, LI_32, uM_ne (by omega), hS.1, mS_z (by omega) (by omega) (by omega), ob_z, LI_32, uM_ne (by omega), uM_ne (by omega), hS.1, show (1 : Int32) = zt 1 from rfl, zt_add, zt_add, up2_32, gnm_z]
        obtain ⟨g2, rfl⟩ : ∃ g2, g = g2 + 1 := ⟨g - 1, by omega⟩
        rw [← hr, fix_succ]
        unfold pb_X11_laysOrder_36
        rw [show (0 : Int32) = zt 0 from rfl, mI_z (by omega) (by omega) (by omega), ob_z]
        rw [if_neg (show ¬ (zt 1 = zt 0) by decide)]
        split <;> rfl
      · have hrd : ¬ rdyB Q s.2 i = true := fun e => q2 (by unfold rdyB at e; rw [Bool.and_eq_true] at e; exact e.2)
        rw [if_neg q2, if_pos rfl, if_neg hrd]
    · have hrd : ¬ rdyB Q s.2 i = true := fun e => q1 ((rdy_iff hP hi).mp e).1
      rw [if_neg (by rw [hz]; exact q1), if_neg hrd]
theorem x_lo28 (hF : 20 < F) (hP : wfP Q) : ∀ (m f : Nat) (R : ZM) (s : List Int × (Int → Int)) (K : Nat), (s.1.length : Int) + m = Q 0 → m + 1 ≤ f → OI Q s → R 1 = Q → FSr R s → m + 1 < K →
    ∃ R1, fixN (fun _ _ _ => none) (pb_X11_laysOrder_28 F) K (zt 1) (LI R) w = some (LI R1, w) ∧ FSr R1 (ordS Q f s) ∧ (∀ j, j ≠ 0 → j ≠ 17 → j ≠ 18 → R1 j = R j) ∧ ∀ e, e ≠ 32 → R1 0 e = R 0 e := by
  have hc := hP.1
  have base : ∀ (f : Nat) (R : ZM) (s : List Int × (Int → Int)) (K : Nat), OI Q s → R 1 = Q → FSr R s → 1 < K → 1 ≤ f → lstR Q s.2 (Q 0).toNat 0 = -1 → ∃ R1, fixN (fun _ _ _ => none) (pb_X11_laysOrder_28 F) K (zt 1) (LI R) w = some (LI R1, w) ∧ FSr R1 (ordS Q f s) ∧ (∀ j, j ≠ 0 → j ≠ 17 → j ≠ 18 → R1 j = R j) ∧ ∀ e, e ≠ 32 → R1 0 e = R 0 e := by
    intro f R s K hO hR hS hK hf hl
    obtain ⟨g, rfl⟩ : ∃ g, K = g + 2 := ⟨K - 2, by omega⟩
    obtain ⟨f', rfl⟩ : ∃ g, f = g + 1 := ⟨f - 1, by omega⟩
    rw [ordS, if_pos hl]
    refine ⟨R, ?_, hS, fun _ _ _ _ => rfl, fun _ _ => rfl⟩
    rw [fix_succ]
    generalize hr : fixN (fun _ _ _ => none) (pb_X11_laysOrder_28 F) (g + 1) = r
    unfold pb_X11_laysOrder_28
    rw [if_neg (show ¬ (zt 1 = 0) by decide), show (0 : Int32) = zt 0 from rfl, x_lo36 (by omega) hP hO hR hS (Q 0).toNat 0 F (by omega) (by omega) (by omega), if_pos hl, ← hr, fix_succ]
    unfold pb_X11_laysOrder_28
    rw [if_pos (show zt 0 = 0 from rfl)]
  intro m
  induction m with
  | zero =>
    intro f R s K h1 h2 hO hR hS hK
    exact base f R s K hO hR hS (by omega) (by omega) (hO.full hP (by omega))
  | succ m ih =>
    intro f R s K h1 h2 hO hR hS hK
    by_cases q : lstR Q s.2 (Q 0).toNat 0 = -1
    · exact base f R s K hO hR hS (by omega) (by omega) q
    · obtain ⟨g, rfl⟩ : ∃ g, K = g + 1 := ⟨K - 1, by omega⟩
      obtain ⟨f', rfl⟩ : ∃ g, f = g + 1 := ⟨f - 1, by omega⟩
      obtain ⟨s1, s2, s3⟩ := hO.step hP q
      rw [ordS, if_neg q, fix_succ]
      generalize hr : fixN (fun _ _ _ => none) (pb_X11_laysOrder_28 F) g = r
      unfold pb_X11_laysOrder_28
      rw [if_neg (show ¬ (zt 1 = 0) by decide), show (0 : Int32) = zt 0 from rfl, x_lo36 (by omega) hP hO hR hS (Q 0).toNat 0 F (by omega) (by omega) (by omega), if_neg q, ← hr]
      generalize lstR Q s.2 (Q 0).toNat 0 = p0 at *
      have hlen : (s.1 ++ [p0]).length = s.1.length + 1 := by simp
      have hfr : ∀ j, j ≠ 0 → j ≠ 17 → j ≠ 18 → uM (uM (uM R 18 p0 (wavOf Q s.2 p0)) 17 s.1.length p0) 0 32 (s.1.length + 1) j = R j := fun j j0 j1 j2 => by funext e; rw [uM_ne j0, uM_ne j1, uM_ne j2]
      have hf0 : ∀ e, e ≠ 32 → uM (uM (uM R 18 p0 (wavOf Q s.2 p0)) 17 s.1.length p0) 0 32 (s.1.length + 1) 0 e = R 0 e := fun e he => by rw [uM_nei he, uM_ne (by omega), uM_ne (by omega)]
      have hFS : FSr (uM (uM (uM R 18 p0 (wavOf Q s.2 p0)) 17 s.1.length p0) 0 32 (s.1.length + 1)) (s.1 ++ [p0], ua s.2 p0 (wavOf Q s.2 p0)) := by
        refine ⟨?_, fun i y hy => ?_, fun q q0 q1 => ?_⟩
        · show _ = ((s.1 ++ [p0]).length : Int)
          rw [uM_eq, hlen]; omega
        · have hy : (s.1 ++ [p0])[i]? = some y := hy
          rw [uM_ne (by omega)]
          rcases snoc_at hy with hy | ⟨h5, h6⟩
          · have := at_ltG hy
            rw [uM_nei (by omega), uM_ne (by omega)]; exact hS.2.1 i y hy
          · rw [uM_eqi (by omega)]; exact h6
        · show _ = ua s.2 p0 (wavOf Q s.2 p0) q
          rw [uM_ne (by omega), uM_ne (by omega)]
          by_cases e : q = p0
          · rw [e, uM_eq, ua_eq]
          · rw [uM_nei e, ua_ne e]; exact hS.2.2 q q0 q1
      obtain ⟨R1, a1, a2, a3, a4⟩ := ih f' _ (s.1 ++ [p0], ua s.2 p0 (wavOf Q s.2 p0)) g (by rw [hlen]; omega) (by omega) s3 (by rw [hfr 1 (by omega) (by omega) (by omega)]; exact hR) hFS (by omega)
      exact ⟨R1, a1, a2, fun j j0 j1 j2 => by rw [a3 j j0 j1 j2, hfr j j0 j1 j2], fun e he => by rw [a4 e he, hf0 e he]⟩
theorem x_lo7 : ∀ (c : Nat) (k : Int) (R : ZM) (K : Nat), k + c = 12 → 0 ≤ k → c < K →
    ∃ R1, fixN (fun _ _ _ => none) (pb_X11_laysOrder_7 F) K (zt k) (LI R) w = pk_X11_laysOrder_26 F (LI R1) w ∧ (∀ e, k ≤ e → e < 12 → R1 18 e = -1) ∧ (∀ e, e < k → R1 18 e = R 18 e) ∧ ∀ j, j ≠ 18 → R1 j = R j := by
  intro c
  induction c with
  | zero =>
    intro k R K h1 h2 hK
    obtain ⟨g, rfl⟩ : ∃ g, K = g + 1 := ⟨K - 1, by omega⟩
    rw [fix_succ]
    refine ⟨R, ?_, fun e a b => by omega, fun _ _ => rfl, fun _ _ => rfl⟩
    unfold pb_X11_laysOrder_7
    simp (disch := omega) only [zt_lit, zt_le]
    rw [if_pos (by omega)]
  | succ c ih =>
    intro k R K h1 h2 hK
    obtain ⟨g, rfl⟩ : ∃ g, K = g + 1 := ⟨K - 1, by omega⟩
    rw [fix_succ]
    generalize hr : fixN (fun _ _ _ => none) (pb_X11_laysOrder_7 F) g = r
    unfold pb_X11_laysOrder_7
    simp (disch := omega) only [zt_lit, zt_neg, zt_le, zt_add, mS_z, ob_z]
    rw [if_neg (by omega), ← hr]
    obtain ⟨R1, a1, a2, a3, a4⟩ := ih (k + 1) (uM R 18 k (-1)) g (by omega) (by omega) (by omega)
    refine ⟨R1, a1, fun e b1 b2 => ?_, fun e he => ?_, fun j hj => ?_⟩
    · by_cases q : e = k
      · subst q; rw [a3 _ (by omega), uM_eq]
      · exact a2 e (by omega) b2
    · rw [a3 e (by omega), uM_nei (by omega)]
    · rw [a4 j hj]; funext e; exact uM_ne hj
theorem x_laysOrder (hF : 100 < F) (hP : wfP (R 1)) : ∃ R1, p_X11_laysOrder F (LI R) w = some (LI R1, w) ∧ FSr R1 (ordF (R 1)) ∧ (∀ j, j ≠ 0 → j ≠ 17 → j ≠ 18 → R1 j = R j) ∧ ∀ e, e ≠ 32 → R1 0 e = R 0 e := by
  have hc := hP.1
  unfold p_X11_laysOrder
  rw [show (0 : Int32) = zt 0 from rfl, up2_32, gnm_z]
  obtain ⟨R2, a1, a2, a3, a4⟩ := x_lo7 (w := w) (F := F) 12 0 (uM R 0 32 0) F (by omega) (by omega) (by omega)
  rw [a1]
  unfold pk_X11_laysOrder_26
  have e1 : R2 1 = R 1 := by rw [a4 1 (by omega)]; funext e; exact uM_ne (by omega)
  obtain ⟨R3, b1, b2, b3, b4⟩ := x_lo28 (w := w) (F := F) (Q := R 1) (by omega) hP (R 1 0).toNat 13 R2 ([], fun _ => -1) F (by simp; omega) (by omega) OI.nil e1 ⟨by rw [a4 0 (by omega), uM_eq]; rfl, fun i y hy => (by cases hy), fun q q0 q1 => a2 q q0 q1⟩ (by omega)
  refine ⟨R3, b1, b2, fun j j0 j1 j2 => ?_, fun e he => ?_⟩
  · rw [b3 j j0 j1 j2, a4 j j2]; funext e; exact uM_ne j0
  · rw [b4 e he, a4 0 (by omega), uM_nei he]
theorem x_pick {l : List Int} {k : Int} {j : Nat} {N : Nat} (hN : N < 1000) (hl : l.length ≤ N) (hk : 0 ≤ k ∧ k < l.length) (hM : ∀ (i : Nat) (y : Int), l[i]? = some y → R j i = y) : mI (LI R) j N (zt k) = some (zt ((l[k.toNat]?).getD (-1))) := by
  have hx : l[k.toNat]? = some l[k.toNat] := List.getElem?_eq_getElem (by omega)
  have := hM k.toNat _ hx
  rw [show ((k.toNat : Nat) : Int) = k by omega] at this
  rw [mI_z hk.1 (by omega) (by omega), this, hx]
  rfl
theorem x_start {k : Int} (hF : 100 < F) (hk : -2147483648 ≤ k ∧ k < 2147483648) (hP : wfP (R 1)) : ∃ R1, p_X11_start F (zt k) (LI R) w = some (zt (pickS (ordF (R 1)).1 k), LI R1, w) ∧ FrQ R R1 := by
  have hc := hP.1
  have hl := (ordF_ok hP).1.len hP
  unfold p_X11_start
  rw [show (0 : Int32) = zt 0 from rfl, R0_z, gnm_z]
  have e1 : R0 R 1 = R 1 := R0_row (by omega)
  obtain ⟨R1, a1, a2, a3, a4⟩ := x_laysOrder (R := R0 R) (w := w) (F := F) hF (by rw [e1]; exact hP)
  rw [e1] at a2
  rw [a1, pcU_z, LI_32, a2.1]
  have hfr : FrQ R R1 := (FrQ.r0 R).trans ⟨fun j j0 j1 => a3 j (by omega) (by omega) (by omega), fun e e0 e1 e2 => a4 e e1⟩
  unfold pickS
  simp (disch := omega) only [zt_lit, zt_neg, zt_eq, zt_sub, x_in, ob_z]
  by_cases c1 : k = -1
  · rw [if_pos c1, if_pos c1]; exact ⟨R1, rfl, hfr⟩
  · rw [if_neg c1, if_neg c1]
    by_cases c2 : 0 ≤ k ∧ k < (ordF (R 1)).1.length
    · rw [if_pos (show 0 ≤ k ∧ k ≤ ((ordF (R 1)).1.length : Int) - 1 by omega), if_neg (by decide), if_pos c2, x_pick (by decide) (by omega) c2 a2.2.1, ob_z]
      exact ⟨R1, rfl, hfr⟩
    · rw [if_neg (show ¬ (0 ≤ k ∧ k ≤ ((ordF (R 1)).1.length : Int) - 1) by omega), if_pos rfl, if_neg c2]
      exact ⟨R1, rfl, hfr⟩
theorem x_wave {p : Int} (hF : 100 < F) (hp : -2147483648 ≤ p ∧ p < 2147483648) (hP : wfP (R 1)) : ∃ R1, p_X11_wave F (zt p) (LI R) w = some (zt (if 0 ≤ p ∧ p < R 1 0 then (ordF (R 1)).2 p else -1), LI R1, w) ∧ FrQ R R1 := by
  have hc := hP.1
  unfold p_X11_wave
  rw [show (0 : Int32) = zt 0 from rfl, R0_z, gnm_z]
  have e1 : R0 R 1 = R 1 := R0_row (by omega)
  obtain ⟨R1, a1, a2, a3, a4⟩ := x_laysOrder (R := R0 R) (w := w) (F := F) hF (by rw [e1]; exact hP)
  rw [e1] at a2
  have e2 : R1 1 = R 1 := by rw [a3 1 (by omega) (by omega) (by omega), e1]
  have hfr : FrQ R R1 := (FrQ.r0 R).trans ⟨fun j j0 j1 => a3 j (by omega) (by omega) (by omega), fun e e0 e1 e2 => a4 e e1⟩
  rw [a1, pcU_z, x_isPart hp (by rw [e2]; exact hc), ob_z, e2]
  by_cases c1 : 0 ≤ p ∧ p < R 1 0
  · rw [if_pos (show 0 ≤ p ∧ p ≤ R 1 0 - 1 by omega), if_neg (by decide), if_pos c1, mI_z (by omega) (by omega) (by omega), ob_z, a2.2.2 p c1.1 (by omega)]
    exact ⟨R1, rfl, hfr⟩
  · rw [if_neg (show ¬ (0 ≤ p ∧ p ≤ R 1 0 - 1) by omega), if_pos rfl, if_neg c1]
    exact ⟨R1, rfl, hfr⟩
theorem x_deep (hF : 100 < F) (hP : wfP (R 1)) : ∃ R1, p_X11_deep F (LI R) w = some (zt (dpS (R 1)), LI R1, w) ∧ FrQ R R1 := by
  have hc := hP.1
  have hO := (ordF_ok hP).1
  have hl := hO.len hP
  unfold p_X11_deep
  rw [show (0 : Int32) = zt 0 from rfl, R0_z, gnm_z]
  have e1 : R0 R 1 = R 1 := R0_row (by omega)
  obtain ⟨R1, a1, a2, a3, a4⟩ := x_laysOrder (R := R0 R) (w := w) (F := F) hF (by rw [e1]; exact hP)
  rw [e1] at a2
  have e2 : R1 1 = R 1 := by rw [a3 1 (by omega) (by omega) (by omega), e1]
  have hfr : FrQ R R1 := (FrQ.r0 R).trans ⟨fun j j0 j1 => a3 j (by omega) (by omega) (by omega), fun e e0 e1 e2 => a4 e e1⟩
  have key : ∀ (m : Nat) (i acc : Int) (G : Nat), i + m = R 1 0 → 0 ≤ i → -1 ≤ acc → acc ≤ 100 → m < G → fixN (fun _ _ => none) (pb_X11_deep_28 F (LI R1) w) G (zt acc) (zt i) = some (zt (mxW (ordF (R 1)).2 m i acc), LI R1, w) := by
    intro m
    induction m with
    | zero =>
      intro i acc G g1 g2 g3 g4 hG
      obtain ⟨g, rfl⟩ : ∃ g, G = g + 1 := ⟨G - 1, by omega⟩
      rw [fix_succ]
      unfold pb_X11_deep_28 mxW
      rw [show (0 : Int32) = zt 0 from rfl, mI_z (by omega) (by omega) (by omega), ob_z, e2, if_pos (zle_pos (by omega) (by omega) (by omega))]
    | succ m ih =>
      intro i acc G g1 g2 g3 g4 hG
      obtain ⟨g, rfl⟩ : ∃ g, G = g + 1 := ⟨G - 1, by omega⟩
      rw [fix_succ]
      generalize hr : fixN (fun _ _ => none) (pb_X11_deep_28 F (LI R1) w) g = r
      have hw := hO.2.2.1 i
      unfold pb_X11_deep_28 mxW
      rw [show (0 : Int32) = zt 0 from rfl, mI_z (by omega) (by omega) (by omega), ob_z, e2, if_neg (zle_neg (by omega) (by omega) (by omega)), mI_z (by omega) (by omega) (by omega), ob_z, ob_z, a2.2.2 i g2 (by omega)]
      simp (disch := omega) only [zt_lit, zt_add, zt_le, gnm_z]
      rw [← hr]
      by_cases q : acc < (ordF (R 1)).2 i + 1
      · rw [if_neg (by omega), if_pos q, ih (i + 1) _ g (by omega) (by omega) (by omega) (by omega) (by omega)]
      · rw [if_pos (by omega), if_neg q, ih (i + 1) _ g (by omega) (by omega) (by omega) (by omega) (by omega)]
  rw [a1, pcU_z, mI_z (by omega) (by omega) (by omega), ob_z, e2, LI_32, a2.1]
  unfold dpS
  simp (disch := omega) only [zt_le]
  by_cases q : ((ordF (R 1)).1.length : Int) = R 1 0
  · rw [if_pos (by omega), if_pos q, key (R 1 0).toNat 0 0 F (by omega) (by omega) (by omega) (by omega) (by omega)]
    exact ⟨R1, rfl, hfr⟩
  · rw [if_neg (by omega), if_neg q]
    exact ⟨R1, rfl, hfr⟩
end RO
