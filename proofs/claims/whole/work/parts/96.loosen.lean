/-! The class's search for the fewest. -/
def FrP (a : Nat) (M M1 : ZM) (lg lg1 : Nat → Nat → Int64) : Prop := (∀ j, j ≠ a → M1 j = M j) ∧ (∀ e, e ≠ 8 → M1 a e = M a e) ∧ ∀ j k, (j ≠ a ∨ k ≠ 7) → lg1 j k = lg j k
theorem FrP.refl (a : Nat) (M : ZM) (lg : Nat → Nat → Int64) : FrP a M M lg lg := ⟨fun _ _ => rfl, fun _ _ => rfl, fun _ _ _ => rfl⟩
theorem FrP.trans {a : Nat} {M M1 M2 : ZM} {lg lg1 lg2 : Nat → Nat → Int64} (h : FrP a M M1 lg lg1) (h1 : FrP a M1 M2 lg1 lg2) : FrP a M M2 lg lg2 := ⟨fun j a => (h1.1 j a).trans (h.1 j a), fun e a => (h1.2.1 e a).trans (h.2.1 e a), fun j k a => (h1.2.2 j k a).trans (h.2.2 j k a)⟩
abbrev CL7 : Type := Nat → Int64 → Int64 → Int32 → Int32 → (Nat → Nat → Int32) → (Nat → Nat → Int64) → Option ((Nat → Nat → Int32) × (Nat → Nat → Int64))
def SndM (Q : Int → Int) (L : Int64) (left : Nat) (C : Int64 → Prop) : Prop := ∀ X, C X → okM Q X ∧ EgM Q X ∧ SubL L X ∧ cnM X ≤ cnM L + left
/-- X is to be seen from L on, T being settled -/
def ToSee (Q : Int → Int) (L T : Int64) (left : Nat) (X : Int64) : Prop := okM Q X ∧ EgM Q X ∧ SubL L X ∧ cnM X ≤ cnM L + left ∧ ∀ s, 0 ≤ s → s < 48 → btL T s = true → btL X s = true → btL L s = true
def LsOK (Q : Int → Int) (p a : Nat) (pf : CL7) (left : Nat) : Prop := ∀ (L T : Int64) (kn : Int32) (M : ZM) (lg : Nat → Nat → Int64), RP M p Q → (M a 8 = 0 ∨ M a 8 = 1) → EgM Q L → SndC Q (eL Q (zt 0) L) kn → ∃ M1 lg1 C, pf a L T kn (zt left) (LI M) lg = some (LI M1, lg1) ∧ FrP a M M1 lg lg1 ∧ PostL C (M a 8) (lg a 7) (M1 a 8) (lg1 a 7) ∧ SndM Q L left C ∧ ∀ X, ToSee Q L T left X → ∃ Y, C Y ∧ SubL Y X
theorem lp_closed {nx : Int → Int} {f : Int} : ∀ (d : Nat) (p : Int), 1 ≤ d → iterN nx d p = f → ∀ q ∈ lpS nx f d p, nx q = f ∨ nx q ∈ lpS nx f d p
  | 0, p, h, _, _, _ => by omega
  | 1, p, _, h, q, hq => by
    have e : nx p = f := h
    unfold lpS at hq
    rw [if_pos e] at hq
    have : q = p := by simpa using hq
    rw [this]; exact Or.inl e
  | d + 2, p, _, h, q, hq => by
    have ih := lp_closed (nx := nx) (f := f) (d + 1) (nx p) (by omega) h
    rw [lpS] at hq ⊢
    by_cases e : nx p = f
    · rw [if_pos e] at hq
      have : q = p := by simpa using hq
      rw [this]; exact Or.inl e
    · rw [if_neg e] at hq ⊢
      rcases List.mem_cons.mp hq with rfl | hq
      · refine Or.inr (List.mem_cons_of_mem _ ?_)
        rw [lpS]
        split <;> exact List.mem_cons_self
      · exact (ih q hq).imp id (List.mem_cons_of_mem _)
theorem lp_all {nx : Int → Int} {f : Int} {St : Int → Prop} (h : ∀ q, St q → St (nx q)) : ∀ (n : Nat) (p : Int), St p → ∀ q ∈ lpS nx f n p, St q
  | 0, p, _, q, hq => by cases hq
  | n + 1, p, hp, q, hq => by
    rw [lpS] at hq
    by_cases e : nx p = f
    · rw [if_pos e] at hq
      have : q = p := by simpa using hq
      rw [this]; exact hp
    · rw [if_neg e] at hq
      rcases List.mem_cons.mp hq with rfl | hq
      · exact hp
      · exact lp_all h n (nx p) (h p hp) q hq
section LQ
variable {F : Nat} {lg : Nat → Nat → Int64} {M : ZM} {p a : Nat} {Q : Int → Int} {L : Int64}
theorem eL_sub {X Y : Int64} (h : SubL X Y) (hP : wfP Q) {i k : Int} (hi : 0 ≤ i ∧ i < Q 0) (hk : 0 ≤ k ∧ k < 4) (he : eL Q (zt 0) Y i k = true) : eL Q (zt 0) X i k = true := by
  have hc := hP.1
  unfold eL at *
  rw [Bool.and_eq_true] at *
  refine ⟨he.1, ?_⟩
  cases e : btL X (4 * i + k) with
  | false => rfl
  | true =>
    have := h (4 * i + k) (by omega) (by omega) e
    rw [this] at he
    cases he.2
theorem Can_sub {X Y : Int64} (h : SubL X Y) (hP : wfP Q) {q : Int} (hc : Can Q (eL Q (zt 0) X) q) : Can Q (eL Q (zt 0) Y) q := fun S hS => hc S (fun i i0 i1 hj => hS i i0 i1 (fun j hb => by
  obtain ⟨k, k0, k1, k2, k3⟩ := hb
  have hm := hP.mn ⟨i0, i1⟩
  exact hj j ⟨k, k0, k1, eL_sub h hP ⟨i0, i1⟩ (by omega) k2, k3⟩))
theorem SubL.bit {L : Int64} {s : Int} (hs : 0 ≤ s ∧ s < 48) : SubL L (L ||| lbit s) := fun t t0 t1 hb => by rw [btL_or (by omega) t0, hb, Bool.true_or]
theorem y_consider (hf : M a 8 = 0 ∨ M a 8 = 1) : ∃ M1 lg1, p_X5_consider F p a L (LI M) lg = some (LI M1, lg1) ∧ FrP a M M1 lg lg1 ∧ PostL (fun X => X = L) (M a 8) (lg a 7) (M1 a 8) (lg1 a 7) := by
  have e8 : LI M a 8 = zt (M a 8) := rfl
  have k29 : pk_X5_consider_29 F p a L (LI M) lg = some (LI (uM M a 8 1), up3 lg a 7 L) := by
    unfold pk_X5_consider_29
    rw [gnm_z, show (1 : Int32) = zt 1 from rfl, show up2 (LI M) a 8 (zt 1) = LI (uM M a 8 1) from up2_z M a 8 1, gnm_z]
  have hfr : FrP a M (uM M a 8 1) lg (up3 lg a 7 L) := by
    refine ⟨fun j hj => by funext e; exact uM_ne hj, fun e he => uM_nei he, fun j k hjk => ?_⟩
    unfold up3 vp_updL
    by_cases q : j = a
    · rw [if_pos q, q]
      have : k ≠ 7 := by omega
      simp [this]
    · rw [if_neg q]
  have hlo : up3 lg a 7 L a 7 = L := by unfold up3 vp_updL; simp
  have h8 : uM M a 8 1 a 8 = 1 := uM_eq _ _ _ _
  unfold p_X5_consider
  rw [gnm_z, gnm_z, e8, k29]
  rcases hf with hf | hf
  · rw [hf, if_pos zz0]
    refine ⟨_, _, rfl, hfr, ?_⟩
    rw [h8, hlo]
    exact ⟨Or.inr rfl, fun g => by omega, fun _ => ⟨Or.inr rfl, fun g => by omega, fun X hX => Or.inl hX.symm⟩⟩
  · rw [hf, if_neg zz1]
    by_cases q : ltM L (lg a 7)
    · rw [if_neg (fun e => low_bit.mp e q)]
      refine ⟨_, _, rfl, hfr, ?_⟩
      rw [h8, hlo]
      exact ⟨Or.inr rfl, fun g => by omega, fun _ => ⟨Or.inr rfl, fun _ => Or.inr q, fun X hX => Or.inl hX.symm⟩⟩
    · rw [if_pos (low_bit.mpr q)]
      refine ⟨M, lg, rfl, FrP.refl _ _ _, ?_⟩
      rw [hf]
      refine ⟨Or.inr rfl, fun g => by omega, fun _ => ⟨Or.inl ⟨rfl, rfl⟩, fun _ => Or.inl rfl, fun X hX => ?_⟩⟩
      rw [hX]
      rcases LeM.total (lg a 7) L with g | g
      · exact g
      · exact absurd g q
theorem y_ls53 {pf : CL7} {l : Nat} {cn : Int32} {f : Int} (hF : 20 < F) (hP : wfP Q) (hs : p + 9 ≤ a ∨ a + 4 ≤ p) (hpf : LsOK Q p a pf l) (hl : l ≤ 3) (hE : EgM Q L) (hI : CnB Q L cn) (hin : InB (Q 0) cn) (hf : 0 ≤ f ∧ f < Q 0) : ∀ (n : Nat) (t q : Int) (T : Int64) (M : ZM) (lg : Nat → Nat → Int64) (K : Nat), t + n = Q 0 → 0 ≤ t → (0 ≤ q ∧ q < Q 0) → bt cn q = false → RP M p Q → (M a 8 = 0 ∨ M a 8 = 1) → n < K →
    ∃ M1 lg1 C, fixN (fun _ _ _ _ _ => none) (pb_X5_loosen_53 F pf p a L (zt ((l : Int) + 1)) cn (zt f)) K (zt q) T (zt t) (LI M) lg = some (LI M1, lg1) ∧ FrP a M M1 lg lg1 ∧ PostL C (M a 8) (lg a 7) (M1 a 8) (lg1 a 7) ∧ SndM Q L (l + 1) C ∧ ∀ X, ToSee Q L T (l + 1) X → (∃ q', q' ∈ lpS (nxS Q (eL Q (zt 0) L) (bt cn)) f n q ∧ btL X (stS Q (eL Q (zt 0) L) (bt cn) q') = true) → ∃ Y, C Y ∧ SubL Y X := by
  have hc := hP.1
  intro n
  induction n with
  | zero =>
    intro t q T M lg K h1 h2 h3 h4 hR h8 hK
    obtain ⟨g, rfl⟩ : ∃ g, K = g + 1 := ⟨K - 1, by omega⟩
    rw [fix_succ]
    refine ⟨M, lg, fun _ => False, ?_, FrP.refl _ _ _, PostL.none h8, fun X hX => absurd hX id, fun X _ hq => ?_⟩
    · unfold pb_X5_loosen_53
      rw [LI_0, hR.1, if_pos (zle_pos (by omega) (by omega) (by omega))]
    · obtain ⟨q', a, -⟩ := hq
      unfold lpS at a
      cases a
  | succ n ih =>
    intro t q T M lg K h1 h2 h3 h4 hR h8 hK
    obtain ⟨g, rfl⟩ : ∃ g, K = g + 1 := ⟨K - 1, by omega⟩
    rw [fix_succ, lpS]
    generalize hr : fixN (fun _ _ _ _ _ => none) (pb_X5_loosen_53 F pf p a L (zt ((l : Int) + 1)) cn (zt f)) g = r
    obtain ⟨k, k1, k2, k3, k4, k5, k6, k7⟩ := y_next (F := F) (lg := lg) (a := a) hF hP hR hI h3 h4
    have hm := hP.mn h3
    have hsl : 0 ≤ 4 * q + k ∧ 4 * q + k < 48 := by omega
    have hnl : btL L (4 * q + k) = false := by
      unfold eL at k4
      rw [Bool.and_eq_true] at k4
      simpa using k4.2
    have hpe : pEg Q q k = true := by
      unfold eL at k4
      rw [Bool.and_eq_true] at k4
      simpa [show zt 0 = (0 : Int32) from rfl] using k4.1
    have hslE : slotE Q (4 * q + k) := by
      refine ⟨hsl.1, ?_, ?_, ?_⟩
      · rw [show (4 * q + k) / 4 = q by omega]; exact h3.2
      · rw [show (4 * q + k) / 4 = q by omega, show (4 * q + k) % 4 = k by omega]; exact k1.2
      · rw [show (4 * q + k) / 4 = q by omega, show (4 * q + k) % 4 = k by omega]; exact hpe
    have hE2 : EgM Q (L ||| lbit (4 * q + k)) := fun s s0 s1 hb => by
      rw [btL_or (by omega) s0, Bool.or_eq_true, decide_eq_true_eq] at hb
      rcases hb with hb | hb
      · exact hE s s0 s1 hb
      · rw [← hb]; exact hslE
    have hS2 : SndC Q (eL Q (zt 0) (L ||| lbit (4 * q + k))) cn := ⟨hin, fun j j0 j1 hb => Can_sub (SubL.bit hsl) hP ((hI j j0 (hin j j0 j1 hb)).mp hb)⟩
    have hcn := cnM_or hsl hnl
    -- the call, or none
    have call : ∃ M2 lg2 C1, pb_X5_loosen_53 F pf p a L (zt ((l : Int) + 1)) cn (zt f) r (zt q) T (zt t) (LI M) lg = pk_X5_loosen_119 F pf p a r L (zt ((l : Int) + 1)) cn (zt f) T (zt t) (zt (4 * q + k)) (LI M2) lg2 ∧ FrP a M M2 lg lg2 ∧ PostL C1 (M a 8) (lg a 7) (M2 a 8) (lg2 a 7) ∧ SndM Q L (l + 1) C1 ∧ ∀ X, ToSee Q L T (l + 1) X → btL X (4 * q + k) = true → ∃ Y, C1 Y ∧ SubL Y X := by
      have pre : pb_X5_loosen_53 F pf p a L (zt ((l : Int) + 1)) cn (zt f) r (zt q) T (zt t) (LI M) lg = if btL T (4 * q + k) = false then hcU (pf a (L ||| lbit (4 * q + k)) T cn (zt l) (LI M) lg) (fun sg6 lg7 => pk_X5_loosen_119 F pf p a r L (zt ((l : Int) + 1)) cn (zt f) T (zt t) (zt (4 * q + k)) sg6 lg7) else pk_X5_loosen_119 F pf p a r L (zt ((l : Int) + 1)) cn (zt f) T (zt t) (zt (4 * q + k)) (LI M) lg := by
        unfold pb_X5_loosen_53
        rw [LI_0, hR.1, if_neg (zle_neg (by omega) (by omega) (by omega)), if_neg (show ¬ (zt q = -1) by rw [show (-1 : Int32) = zt (-1) from rfl, zt_eq (by omega) (by omega) (by omega) (by omega)]; omega), k2, ob_z, if_neg (show ¬ (zt (4 * q + k) = -1) by rw [show (-1 : Int32) = zt (-1) from rfl, zt_eq (by omega) (by omega) (by omega) (by omega)]; omega), lbit_fold, show (1 : Int32) = zt 1 from rfl, zt_sub, show (l : Int) + 1 - 1 = (l : Int) by omega]
        by_cases qt : btL T (4 * q + k) = false
        · rw [if_pos ((btL_test (by omega)).mpr qt), if_pos qt]
        · rw [if_neg (fun e => qt ((btL_test (by omega)).mp e)), if_neg qt]
      by_cases qt : btL T (4 * q + k) = false
      · obtain ⟨M2, lg2, C1, a1, a2, a3, a4, a5⟩ := hpf (L ||| lbit (4 * q + k)) T cn M lg hR h8 hE2 hS2
        refine ⟨M2, lg2, C1, ?_, a2, a3, fun X hX => ?_, fun X hX hb => ?_⟩
        · rw [pre, if_pos qt, a1, hcU_z]
        · obtain ⟨b1, b2, b3, b4⟩ := a4 X hX
          exact ⟨b1, b2, (SubL.bit hsl).trans b3, by omega⟩
        · obtain ⟨b1, b2, b3, b4, b5⟩ := hX
          refine a5 X ⟨b1, b2, fun s s0 s1 hs => ?_, by omega, fun s s0 s1 g1 g2 => ?_⟩
          · rw [btL_or (by omega) s0, Bool.or_eq_true, decide_eq_true_eq] at hs
            rcases hs with hs | hs
            · exact b3 s s0 s1 hs
            · rw [← hs]; exact hb
          · rw [btL_or (by omega) s0, b5 s s0 s1 g1 g2, Bool.true_or]
      · refine ⟨M, lg, fun _ => False, ?_, FrP.refl _ _ _, PostL.none h8, fun X hX => absurd hX id, fun X hX hb => ?_⟩
        · rw [pre, if_neg qt]
        · exfalso
          have := hX.2.2.2.2 _ hsl.1 hsl.2 (by simpa using qt) hb
          rw [hnl] at this
          cases this
    obtain ⟨M2, lg2, C1, c1, c2, c3, c4, c5⟩ := call
    have hR2 : RP M2 p Q := hR.frP (fun j g1 g2 => c2.1 j (by omega))
    have hbh : p_X5_behind F p a (zt (4 * q + k)) (LI M2) lg2 = some (zt (nxS Q (eL Q (zt 0) L) (bt cn) q)) := by rw [y_behind hP hR2 h3 k1, k5]
    rw [c1]
    unfold pk_X5_loosen_119
    rw [gnm_z, hbh, ob_z, lbit_fold, show (1 : Int32) = zt 1 from rfl, zt_add]
    have hz : (zt (nxS Q (eL Q (zt 0) L) (bt cn) q) = zt f) = (nxS Q (eL Q (zt 0) L) (bt cn) q = f) := zt_eq (by omega) (by omega) (by omega) (by omega)
    by_cases e : nxS Q (eL Q (zt 0) L) (bt cn) q = f
    · rw [if_pos (by rw [hz]; exact e), if_pos e]
      refine ⟨M2, lg2, C1, rfl, c2, c3, c4, fun X hX hq => ?_⟩
      obtain ⟨q', q1, q2⟩ := hq
      have : q' = q := by simpa using q1
      rw [this, k7] at q2
      exact c5 X hX q2
    · rw [if_neg (by rw [hz]; exact e), if_neg e, ← hr]
      have h82 : M2 a 8 = 0 ∨ M2 a 8 = 1 := c3.1
      obtain ⟨M3, lg3, C2, d1, d2, d3, d4, d5⟩ := ih (t + 1) (nxS Q (eL Q (zt 0) L) (bt cn) q) (T ||| lbit (4 * q + k)) M2 lg2 g (by omega) (by omega) k6.1 k6.2 hR2 h82 (by omega)
      refine ⟨M3, lg3, fun X => C1 X ∨ C2 X, d1, c2.trans d2, c3.join d3, fun X hX => hX.elim (c4 X) (d4 X), fun X hX hq => ?_⟩
      by_cases qx : btL X (4 * q + k) = true
      · obtain ⟨Y, y1, y2⟩ := c5 X hX qx
        exact ⟨Y, Or.inl y1, y2⟩
      · have hX2 : ToSee Q L (T ||| lbit (4 * q + k)) (l + 1) X := by
          obtain ⟨b1, b2, b3, b4, b5⟩ := hX
          refine ⟨b1, b2, b3, b4, fun s s0 s1 g1 g2 => ?_⟩
          rw [btL_or (by omega) s0, Bool.or_eq_true, decide_eq_true_eq] at g1
          rcases g1 with g1 | g1
          · exact b5 s s0 s1 g1 g2
          · rw [← g1] at g2; exact absurd g2 qx
        obtain ⟨q', q1, q2⟩ := hq
        have hq' : q' ∈ lpS (nxS Q (eL Q (zt 0) L) (bt cn)) f n (nxS Q (eL Q (zt 0) L) (bt cn) q) := by
          rcases List.mem_cons.mp q1 with rfl | q1
          · rw [k7] at q2; exact absurd q2 qx
          · exact q1
        obtain ⟨Y, y1, y2⟩ := d5 X hX2 ⟨q', hq', q2⟩
        exact ⟨Y, Or.inr y1, y2⟩
theorem hit {cn : Int32} (hP : wfP Q) (hI : CnB Q L cn) (h0 : lsS (bt cn) (Q 0).toNat 0 ≠ -1) {X : Int64} (hX : okM Q X) : ∃ q', q' ∈ lpS (nxS Q (eL Q (zt 0) L) (bt cn)) (entS (nxS Q (eL Q (zt 0) L) (bt cn)) 13 [] (lsS (bt cn) (Q 0).toNat 0)) (Q 0).toNat (entS (nxS Q (eL Q (zt 0) L) (bt cn)) 13 [] (lsS (bt cn) (Q 0).toNat 0)) ∧ btL X (stS Q (eL Q (zt 0) L) (bt cn) q') = true := by
  have hc := hP.1
  apply Classical.byContradiction
  intro hn
  rcases lsS_spec (can := bt cn) (Q 0).toNat 0 (by omega) with ⟨b1, b2⟩ | ⟨b1, b2⟩
  · exact h0 b1
  · have hst : ∀ q, ((0 ≤ q ∧ q < Q 0) ∧ bt cn q = false) → (0 ≤ q ∧ q < Q 0) ∧ ((0 ≤ nxS Q (eL Q (zt 0) L) (bt cn) q ∧ nxS Q (eL Q (zt 0) L) (bt cn) q < Q 0) ∧ bt cn (nxS Q (eL Q (zt 0) L) (bt cn) q) = false) := fun q hq => by
      obtain ⟨k, k1, k2, k3, k4, k5, k6⟩ := stuck hP hI hq.1 hq.2
      exact ⟨hq.1, by rw [k5]; exact k6, by rw [k5]; exact k4⟩
    obtain ⟨s1, d, d1, d2, d3⟩ := entS_ok (nx := nxS Q (eL Q (zt 0) L) (bt cn)) (c := Q 0) (St := fun q => (0 ≤ q ∧ q < Q 0) ∧ bt cn q = false) hc hst 13 [] (lsS (bt cn) (Q 0).toNat 0) rfl List.nodup_nil (fun y hy => by cases hy) trivial ⟨by omega, b2⟩
    generalize entS (nxS Q (eL Q (zt 0) L) (bt cn)) 13 [] (lsS (bt cn) (Q 0).toNat 0) = f at *
    have hsb := (lpS_stab (nx := nxS Q (eL Q (zt 0) L) (bt cn)) d f d1 d3 (Q 0).toNat (by omega)).1
    rw [hsb] at hn
    have hcl := lp_closed (nx := nxS Q (eL Q (zt 0) L) (bt cn)) d f d1 d3
    have hall := lp_all (nx := nxS Q (eL Q (zt 0) L) (bt cn)) (f := f) (St := fun q => (0 ≤ q ∧ q < Q 0) ∧ bt cn q = false) (fun q hq => (hst q hq).2) d f s1
    have hfm : f ∈ lpS (nxS Q (eL Q (zt 0) L) (bt cn)) f d f := by
      obtain ⟨d', rfl⟩ : ∃ d', d = d' + 1 := ⟨d - 1, by omega⟩
      rw [lpS]
      split <;> exact List.mem_cons_self
    generalize lpS (nxS Q (eL Q (zt 0) L) (bt cn)) f d f = lp at *
    have := hX f s1.1.1 s1.1.2 (fun y => y ∉ lp) (fun i i0 i1 hj hi => ?_)
    · exact this hfm
    · obtain ⟨g1, g2⟩ := hall i hi
      obtain ⟨k, k1, k2, k3, k4, k5, k6⟩ := stuck hP hI g1 g2
      have hxs : btL X (4 * i + k) = false := by
        cases e : btL X (4 * i + k) with
        | false => rfl
        | true => exact absurd ⟨i, hi, by rw [k2]; exact e⟩ hn
      have hb : Bnd Q (eL Q (zt 0) X) i (pNd Q i k) := by
        refine ⟨k, k1.1, k1.2, ?_, rfl⟩
        unfold eL at k3 ⊢
        rw [Bool.and_eq_true] at k3
        rw [k3.1, hxs]
        rfl
      refine hj _ hb ?_
      rw [← k5]
      rcases hcl i hi with e | e
      · rw [e]; exact hfm
      · exact e
theorem y_loosen (hF : 20 < F) (hP : wfP Q) (hs : p + 9 ≤ a ∨ a + 4 ≤ p) : ∀ (left D : Nat), left ≤ 3 → left < D → LsOK Q p a (fixN (fun _ _ _ _ _ _ _ => none) (fun pf => pg_X5_loosen F pf p) D) left := by
  have hc := hP.1
  intro left
  induction left with
  | zero =>
    intro D _ hD L T kn M lg hR h8 hE hK
    obtain ⟨d, rfl⟩ : ∃ d, D = d + 1 := ⟨D - 1, by omega⟩
    rw [fix_succ]
    unfold pg_X5_loosen
    obtain ⟨v, a1, a2, a3⟩ := y_startable (F := F) (lg := lg) (a := a) hF hP hR hK
    have hI : CnB Q L v := a3
    rw [a1, ob_z, y_leastStuck hF hP hR, ob_z]
    rcases lsS_spec (can := bt v) (Q 0).toNat 0 (by omega) with ⟨b1, b2⟩ | ⟨b1, b2⟩
    · obtain ⟨M1, lg1, c1, c2, c3⟩ := y_consider (F := F) (p := p) (L := L) (lg := lg) h8
      rw [b1, if_pos (show zt (-1) = -1 from rfl), c1, hcU_z]
      have hok : okM Q L := fun q q0 q1 => (hI q q0 q1).mp (b2 q q0 (by omega))
      exact ⟨M1, lg1, _, rfl, c2, c3, fun X hX => by rw [hX]; exact ⟨hok, hE, SubL.refl _, by omega⟩, fun X hX => ⟨L, rfl, hX.2.2.1⟩⟩
    · rw [if_neg (show ¬ (zt (lsS (bt v) (Q 0).toNat 0) = -1) by rw [show (-1 : Int32) = zt (-1) from rfl, zt_eq (by omega) (by omega) (by omega) (by omega)]; omega), if_pos (show zt ((0 : Nat) : Int) ≤ 0 by decide)]
      refine ⟨M, lg, fun _ => False, ?_, FrP.refl _ _ _, PostL.none h8, fun X hX => absurd hX id, fun X hX => ?_⟩
      · unfold pk_X5_loosen_41
        obtain ⟨g, rfl⟩ : ∃ g, F = g + 1 := ⟨F - 1, by omega⟩
        rw [fix_succ]
        unfold pb_X5_loosen_53
        rw [if_pos (show (-1 : Int32) = -1 from rfl)]
        split <;> rfl
      · exfalso
        have he := hX.2.2.1.eqb (by have := hX.2.2.2.1; omega)
        have hok := (okM_cong hP he).mpr hX.1
        have := (hI _ b1.1 (by omega)).mpr (hok _ b1.1 (by omega))
        rw [b2] at this
        cases this
  | succ l ih =>
    intro D hl3 hD L T kn M lg hR h8 hE hK
    obtain ⟨d, rfl⟩ : ∃ d, D = d + 1 := ⟨D - 1, by omega⟩
    have hpf := ih d (by omega) (by omega)
    rw [fix_succ]
    generalize fixN (fun _ _ _ _ _ _ _ => none) (fun pf => pg_X5_loosen F pf p) d = pf at *
    unfold pg_X5_loosen
    obtain ⟨v, a1, a2, a3⟩ := y_startable (F := F) (lg := lg) (a := a) hF hP hR hK
    have hI : CnB Q L v := a3
    rw [a1, ob_z, y_leastStuck hF hP hR, ob_z]
    rcases lsS_spec (can := bt v) (Q 0).toNat 0 (by omega) with ⟨b1, b2⟩ | ⟨b1, b2⟩
    · obtain ⟨M1, lg1, c1, c2, c3⟩ := y_consider (F := F) (p := p) (L := L) (lg := lg) h8
      rw [b1, if_pos (show zt (-1) = -1 from rfl), c1, hcU_z]
      have hok : okM Q L := fun q q0 q1 => (hI q q0 q1).mp (b2 q q0 (by omega))
      exact ⟨M1, lg1, _, rfl, c2, c3, fun X hX => by rw [hX]; exact ⟨hok, hE, SubL.refl _, by omega⟩, fun X hX => ⟨L, rfl, hX.2.2.1⟩⟩
    · have hne : lsS (bt v) (Q 0).toNat 0 ≠ -1 := by omega
      have hI0 : IsC Q (eL Q (zt 0) L) (bt v) := hI
      obtain ⟨l1, -, -⟩ := hI0.lp hP hne
      have el : ((l + 1 : Nat) : Int) = (l : Int) + 1 := by omega
      rw [if_neg (show ¬ (zt (lsS (bt v) (Q 0).toNat 0) = -1) by rw [show (-1 : Int32) = zt (-1) from rfl, zt_eq (by omega) (by omega) (by omega) (by omega)]; omega), if_neg (show ¬ (zt ((l + 1 : Nat) : Int) ≤ 0) by rw [show (0 : Int32) = zt 0 from rfl, zt_le (by omega) (by omega) (by omega) (by omega)]; omega), y_loopEntry hF hP hR hI, ob_z, if_neg hne, el]
      unfold pk_X5_loosen_41
      obtain ⟨M1, lg1, C, c1, c2, c3, c4, c5⟩ := y_ls53 (F := F) (p := p) (a := a) (L := L) hF hP hs hpf (by omega) hE hI a2 l1.1 (Q 0).toNat 0 _ T M lg F (by omega) (by omega) l1.1 l1.2 hR h8 (by omega)
      rw [show (0 : Int32) = zt 0 from rfl]
      exact ⟨M1, lg1, C, c1, c2, c3, c4, fun X hX => c5 X hX (hit hP hI hne hX.1)⟩
end LQ
