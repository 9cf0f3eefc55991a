/-! Where things lie apart; boards copied, reset, new. -/
def Lay (K : HK) (a : Nat) (l : List ((Nat × Nat) ⊕ Nat)) : Prop := ∀ d, d < l.length → K (a + d) = l[d]?
theorem lay_disj {K : HK} {a c : Nat} {la lc : List ((Nat × Nat) ⊕ Nat)} (ha : Lay K a la) (hc : Lay K c lc) (hne : a ≠ c) (h0 : 0 < la.length ∧ 0 < lc.length) (h1 : ∀ d, d < la.length → 0 < d → la[d]? ≠ lc[0]?) (h2 : ∀ d, d < lc.length → 0 < d → lc[d]? ≠ la[0]?) : a + la.length ≤ c ∨ c + lc.length ≤ a := by
  by_cases q1 : a + la.length ≤ c
  · exact Or.inl q1
  by_cases q2 : c + lc.length ≤ a
  · exact Or.inr q2
  exfalso
  by_cases q3 : a < c
  · have e1 := ha (c - a) (by omega)
    have e2 := hc 0 h0.2
    rw [show a + (c - a) = c + 0 by omega] at e1
    exact h1 (c - a) (by omega) (by omega) (e1.symm.trans e2)
  · have e1 := hc (a - c) (by omega)
    have e2 := ha 0 h0.1
    rw [show c + (a - c) = a + 0 by omega] at e1
    exact h2 (a - c) (by omega) (by omega) (e1.symm.trans e2)
section LY
variable {F : Nat} {K : HK} {pr rr : HP} {pt : Nat → Nat} {M : ZM} {lg : Nat → Nat → Int64} {n b c p q : Nat} {A : Int → Int} {B : Int}
theorem OkParts.lay (h : OkParts K pr p) : Lay K p pt_K := by
  intro d hd
  rcases d with _ | d; · exact h.k0
  rcases d with _ | d; · exact h.k1
  rcases d with _ | d; · exact h.k2
  rcases d with _ | d; · exact h.k3
  rcases d with _ | d; · exact h.k4
  rcases d with _ | d; · exact h.k5
  rcases d with _ | d; · exact h.k6
  rcases d with _ | d; · exact h.k7
  rcases d with _ | d; · exact h.k8
  exact absurd hd (by simp only [pt_K, List.length_cons, List.length_nil]; omega)
theorem OkBoard.lay (h : OkBoard K pr pt b p) : Lay K b bo_K := by
  have t := h.o4
  have u := h.o5
  intro d hd
  rcases d with _ | d; · exact h.k0
  rcases d with _ | d; · exact h.k1
  rcases d with _ | d; · exact h.k2
  rcases d with _ | d; · exact t.k0
  rcases d with _ | d; · exact t.k1
  rcases d with _ | d; · exact t.k2
  rcases d with _ | d; · exact t.k3
  rcases d with _ | d; · exact t.k4
  rcases d with _ | d; · exact t.k5
  rcases d with _ | d; · exact t.k6
  rcases d with _ | d; · exact u.k0
  rcases d with _ | d; · exact u.k1
  rcases d with _ | d; · exact u.k2
  exact absurd hd (by simp only [bo_K, List.length_cons, List.length_nil]; omega)
theorem OkPaper.lay (h : OkPaper K pr p) : Lay K p pa_K := by
  intro d hd
  rcases d with _ | d; · exact h.k0
  rcases d with _ | d; · exact h.k1
  exact absurd hd (by simp only [pa_K, List.length_cons, List.length_nil]; omega)
theorem bo_bo (h : OkBoard K pr pt b p) {q : Nat} (h2 : OkBoard K pr pt c q) (hne : b ≠ c) : b + 13 ≤ c ∨ c + 13 ≤ b := lay_disj (la := bo_K) (lc := bo_K) h.lay h2.lay hne (by decide) (by decide) (by decide)
theorem bo_pt (h : OkBoard K pr pt b p) {q : Nat} (h2 : OkParts K pr q) : b + 13 ≤ q ∨ q + 9 ≤ b := by
  refine lay_disj (la := bo_K) (lc := pt_K) h.lay h2.lay (fun e => ?_) (by decide) (by decide) (by decide)
  subst e
  have := h.k0.symm.trans h2.k0
  cases this
theorem pt_pt {q : Nat} (h : OkParts K pr p) (h2 : OkParts K pr q) (hne : p ≠ q) : p + 9 ≤ q ∨ q + 9 ≤ p := lay_disj (la := pt_K) (lc := pt_K) h.lay h2.lay hne (by decide) (by decide) (by decide)
theorem pa_pa {q : Nat} (h : OkPaper K pr p) (h2 : OkPaper K pr q) (hne : p ≠ q) : p + 2 ≤ q ∨ q + 2 ≤ p := lay_disj (la := pa_K) (lc := pa_K) h.lay h2.lay hne (by decide) (by decide) (by decide)
theorem pa_bo {q : Nat} (h : OkPaper K pr q) (h2 : OkBoard K pr pt b p) : q + 2 ≤ b ∨ b + 13 ≤ q := by
  refine lay_disj (la := pa_K) (lc := bo_K) h.lay h2.lay (fun e => ?_) (by decide) (by decide) (by decide)
  subst e
  have := h.k0.symm.trans h2.k0
  cases this
theorem pa_pt {q : Nat} (h : OkPaper K pr q) (h2 : OkParts K pr p) : q + 2 ≤ p ∨ p + 9 ≤ q := by
  refine lay_disj (la := pa_K) (lc := pt_K) h.lay h2.lay (fun e => ?_) (by decide) (by decide) (by decide)
  subst e
  have := h.k0.symm.trans h2.k0
  cases this
theorem v_copyFrom (hb : OkBoard K pr pt b p) (hc : OkBoard K pr pt c q) (hne : b ≠ c) (hg : GR B A) (hR : RB M c q A) : ∃ M1, f_X0_copyFrom F b c n (hp K pr pt rr (LI M) lg) = some (n, hp K pr (upt pt b q) rr (LI M1) lg) ∧ RB M1 b q A ∧ ∀ j, (j < b ∨ b + 13 ≤ j) → M1 j = M j := by
  have hd := bo_bo hb hc hne
  have hdp := bo_pt hb hc.o0
  obtain ⟨R1, R2, R3, R4⟩ := hR
  have hm := hg.1.2.2.1.1
  have s0 : ∀ (M2 : ZM) (j : Nat) (e v : Int), j ≠ b → uM M2 b e v j = M2 j := fun M2 j e v hj => by funext e; exact uM_ne hj
  unfold f_X0_copyFrom
  rw [v_gP hc.k0 rfl, hc.2.1, v_pP hb.k0 rfl hu0, v_gI hc.k0 rfl, v_pI hb.k0 rfl, LI_1, R2.1, up2_1]
  rw [v_gR hc.k0 rfl hc.p2, v_gR hb.k0 rfl hb.p2, v_gR hb.k0 rfl hb.p2, v_aL hb.k1 (by decide)]
  rw [show (0 : Int32) = zt 0 from rfl, zt_ofNat, v_aC hc.k1 hb.k1 (by decide) (mC_z (by omega) (by omega) (by omega) (by omega) (fun i _ _ => fits_i _))]
  rw [v_gR hc.k0 rfl hc.p3, v_gR hb.k0 rfl hb.p3, show (12 : Int32) = zt 12 from rfl, v_aC hc.k2 hb.k2 (by decide) (mC_z (by omega) (by omega) (by omega) (by omega) (fun i _ _ => fits_i _))]
  generalize hM2 : cpM (cpM (uM M b 1 (A 145)) (c + 1) (b + 1) ((60 : Nat) : Int)) (c + 2) (b + 2) 12 = M2
  have o2 : ∀ j, j ≠ b → j ≠ b + 1 → j ≠ b + 2 → M2 j = M j := fun j j0 j1 j2 => by rw [← hM2, cpM_ne j2, cpM_ne j1, s0 _ _ _ _ j0]
  have e1 : M2 b 1 = A 145 := by rw [← hM2, cpM_ne (by omega), cpM_ne (by omega), uM_eq]
  have e2 : ∀ e, 0 ≤ e → e < 60 → M2 (b + 1) e = M (c + 1) e := fun e g0 g1 => by rw [← hM2, cpM_ne (by omega), cpM_in (by omega), s0 _ _ _ _ (by omega)]
  have e3 : ∀ e, 0 ≤ e → e < 12 → M2 (b + 2) e = M (c + 2) e := fun e g0 g1 => by rw [← hM2, cpM_in (by omega), cpM_ne (by omega), s0 _ _ _ _ (by omega)]
  have R3b : RT M2 c A := R3.ext (fun j g0 g1 => o2 j (by omega) (by omega) (by omega))
  obtain ⟨M3, a1, ⟨a2, a3⟩, a4⟩ := y_cp7 (F := F) (lg := lg) (b := b) hg.1.2.2.1 R3b hd
  rw [v_gR hb.k0 rfl hb.p4, v_gR hc.k0 rfl hc.p4, v_cvU hb.o4.k0 (r_eU (e_X7_copyFrom hb.o4 hc.o4) a1)]
  have R4b : RW M3 c A := by
    unfold RW
    rw [a4 (c + 10) (by omega), a4 (c + 10 + 1) (by omega), a4 (c + 10 + 2) (by omega), o2 (c + 10) (by omega) (by omega) (by omega), o2 (c + 10 + 1) (by omega) (by omega) (by omega), o2 (c + 10 + 2) (by omega) (by omega) (by omega)]
    exact R4
  obtain ⟨M4, b1, b2, b3⟩ := y_cp9 (F := F) (lg := lg) (b := b) hg.2.1 R4b hd
  rw [v_gR hb.k0 rfl hb.p5, v_gR hc.k0 rfl hc.p5, v_cvU hb.o5.k0 (r_eU (e_X9_copyFrom hb.o5 hc.o5) b1)]
  refine ⟨M4, rfl, ⟨?_, ⟨?_, fun s i g0 g1 g2 g3 => ?_⟩, ⟨fun i g0 g1 => ?_, ?_, fun t g0 g1 => ?_⟩, b2⟩, fun j hj => ?_⟩
  · refine R1.ext hg.1.1 (fun e _ => rfl) (fun j g0 g1 => ?_)
    rw [b3 j (by omega), a4 j (by omega), o2 j (by omega) (by omega) (by omega)]
  · rw [b3 b (by omega), a4 b (by omega), e1]
  · rw [b3 _ (by omega), a4 _ (by omega), e2 _ (by omega) (by omega)]; exact R2.2 s i g0 g1 g2 g3
  · rw [b3 _ (by omega), a4 _ (by omega), e3 _ (by omega) (by omega)]; exact R3.1 i g0 g1
  · rw [b3 _ (by omega)]; exact a2
  · rw [b3 (b + 3 + 1) (by omega), b3 (b + 3 + 2) (by omega), b3 (b + 3 + 3) (by omega), b3 (b + 3 + 4) (by omega), b3 (b + 3 + 5) (by omega)]
    exact a3 t g0 g1
  · rw [b3 j (by omega), a4 j (by omega), o2 j (by omega) (by omega) (by omega)]
/-- nothing is there but parts -/
def Z0 (A : Int → Int) : Prop := A 145 = 0 ∧ (∀ e, 133 ≤ e → e < 145 → A e = 0) ∧ (∀ e, 146 ≤ e → e < 206 → A e = 0) ∧ A 206 = 0 ∧ A 687 = 0 ∧ A 748 = 0 ∧ A 809 = 0 ∧ A 810 = 0
theorem v_reset (hF : 1000 < F) (hb : OkBoard K pr pt b p) (hq : OkParts K pr q) (hP : RP M q A) (hw : wfP A) (hz : Z0 A) : ∃ M1, f_X0_reset F b q n (hp K pr pt rr (LI M) lg) = some (n, hp K pr (upt pt b q) rr (LI M1) lg) ∧ RB M1 b q A ∧ ∀ j, (j < b ∨ b + 13 ≤ j) → M1 j = M j := by
  have hdp := bo_pt hb hq
  obtain ⟨z1, z2, z3, z4, z5, z6, z7, z8⟩ := hz
  unfold f_X0_reset
  rw [v_pP hb.k0 rfl hu0, show (0 : Int32) = zt 0 from rfl, v_pI hb.k0 rfl, up2_1, v_gR hb.k0 rfl hb.p2]
  obtain ⟨M2, a1, a2, a3⟩ := y_fill (F := F) (lg := lg) (M := uM M b 1 0) (N := 60) (a := b + 1) (v := -1) (by decide) hF
  rw [show (-1 : Int32) = zt (-1) from rfl, v_csU (r_eU (e_J7_fill_53178 hb.k1) a1), v_gR hb.k0 rfl hb.p3]
  obtain ⟨M3, b1, b2, b3⟩ := y_fill (F := F) (lg := lg) (M := M2) (N := 12) (a := b + 2) (v := 0) (by decide) hF
  rw [v_csU (r_eU (e_J7_fill_53178 hb.k2) b1), v_gR hb.k0 rfl hb.p4, v_pI hb.o4.k0 rfl, up2_0, v_gR hb.k0 rfl hb.p5]
  have c1 : p_X9_clear F (b + 10) (LI (uM M3 (b + 3) 0 0)) lg = some (LI (uM (uM (uM (uM M3 (b + 3) 0 0) (b + 10) 0 0) (b + 10) 1 0) (b + 10) 3 0), lg) := by
    unfold p_X9_clear
    rw [show (0 : Int32) = zt 0 from rfl, up2_0, gnm_z, up2_1, gnm_z, up2_3, gnm_z]
  rw [v_cvU hb.o5.k0 (r_eU (e_X9_clear hb.o5) c1)]
  have s0 : ∀ (M2 : ZM) (i j : Nat) (e v : Int), j ≠ i → uM M2 i e v j = M2 j := fun M2 i j e v hj => by funext e; exact uM_ne hj
  refine ⟨_, rfl, ⟨?_, ⟨?_, fun s i g0 g1 g2 g3 => ?_⟩, ⟨fun i g0 g1 => ?_, ?_, fun t g0 g1 => by omega⟩, ?_, ?_, fun i g0 g1 => by omega, ?_, fun i g0 g1 => by omega⟩, fun j hj => ?_⟩
  · refine hP.ext hw (fun e _ => rfl) (fun j g0 g1 => ?_)
    rw [s0 _ _ _ _ _ (by omega), s0 _ _ _ _ _ (by omega), s0 _ _ _ _ _ (by omega), s0 _ _ _ _ _ (by omega), b3 j (by omega), a3 j (by omega), s0 _ _ _ _ _ (by omega)]
  · rw [s0 _ _ _ _ _ (by omega), s0 _ _ _ _ _ (by omega), s0 _ _ _ _ _ (by omega), s0 _ _ _ _ _ (by omega), b3 b (by omega), a3 b (by omega), uM_eq, z1]
  · rw [s0 _ _ _ _ _ (by omega), s0 _ _ _ _ _ (by omega), s0 _ _ _ _ _ (by omega), s0 _ _ _ _ _ (by omega), b3 _ (by omega), a2 _ (by omega) (by omega), z3 _ (by omega) (by omega)]; rfl
  · rw [s0 _ _ _ _ _ (by omega), s0 _ _ _ _ _ (by omega), s0 _ _ _ _ _ (by omega), s0 _ _ _ _ _ (by omega), b2 _ (by omega) (by omega), z2 _ (by omega) (by omega)]
  · rw [s0 _ _ _ _ _ (by omega), s0 _ _ _ _ _ (by omega), s0 _ _ _ _ _ (by omega), uM_eq, z4]
  · rw [uM_nei (by omega), uM_nei (by omega), uM_eq, z8]
  · rw [uM_nei (by omega), uM_eq, z7]
  · rw [uM_eq, z5]
  · rw [s0 _ _ _ _ _ (by omega), s0 _ _ _ _ _ (by omega), s0 _ _ _ _ _ (by omega), s0 _ _ _ _ _ (by omega), b3 j (by omega), a3 j (by omega), s0 _ _ _ _ _ (by omega)]
/-- a paper: length, fault, place, bytes -/
def PPr (M : ZM) (a : Nat) (A T : Int → Int) : Prop := M a 1 = A 891 ∧ M a 2 = A 892 ∧ M a 3 = A 893 ∧ ∀ e, 0 ≤ e → e < A 891 → M (a + 1) e = T e
theorem v_cpPaper {a : Nat} {T : Int → Int} (hb : OkPaper K pr b) (hc : OkPaper K pr c) (hne : b ≠ c) (hl : 0 ≤ A 891 ∧ A 891 ≤ 600) (hT : ∀ e, -128 ≤ T e ∧ T e ≤ 127) (hR : PPr M c A T) : ∃ M1, f_X2_copyFrom F b c n (hp K pr pt rr (LI M) lg) = some (n, hp K pr pt rr (LI M1) lg) ∧ PPr M1 b A T ∧ ∀ j, (j < b ∨ b + 2 ≤ j) → M1 j = M j := by
  have hd := pa_pa hb hc hne
  obtain ⟨r1, r2, r3, r4⟩ := hR
  have s0 : ∀ (M2 : ZM) (i j : Nat) (e v : Int), j ≠ i → uM M2 i e v j = M2 j := fun M2 i j e v hj => by funext e; exact uM_ne hj
  have c1 : p_X2_copyFrom F b c (LI M) lg = some (LI (uM (uM (uM (cpM M (c + 1) (b + 1) (A 891)) b 1 (A 891)) b 2 (A 892)) b 3 (A 893)), lg) := by
    unfold p_X2_copyFrom
    rw [LI_1, r1, show (0 : Int32) = zt 0 from rfl, mC_z (by omega) (by omega) (by omega) (by omega) (fun i g0 g1 => by rw [r4 i g0 g1]; exact fits_b (hT i)), ob_z]
    rw [LI_1, cpM_ne (by omega), r1, up2_1, gnm_z, LI_2, s0 _ _ _ _ _ (by omega), cpM_ne (by omega), r2, up2_2, gnm_z, LI_3, s0 _ _ _ _ _ (by omega), s0 _ _ _ _ _ (by omega), cpM_ne (by omega), r3, up2_3, gnm_z]
  refine ⟨_, r_eU (e_X2_copyFrom hb hc) c1, ⟨?_, ?_, ?_, fun e g0 g1 => ?_⟩, fun j hj => ?_⟩
  · rw [uM_nei (by omega), uM_nei (by omega), uM_eq]
  · rw [uM_nei (by omega), uM_eq]
  · rw [uM_eq]
  · rw [s0 _ _ _ _ _ (by omega), s0 _ _ _ _ _ (by omega), s0 _ _ _ _ _ (by omega), cpM_in ⟨g0, g1⟩, r4 e g0 g1]
  · rw [s0 _ _ _ _ _ (by omega), s0 _ _ _ _ _ (by omega), s0 _ _ _ _ _ (by omega), cpM_ne (by omega)]
end LY
