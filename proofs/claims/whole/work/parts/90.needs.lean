/-! What parts need, what is lost with them: both close their sets alike. -/
def Rch (Q : Int → Int) (E : Int → Int → Bool) (i j : Int) : Prop := ∀ S : Int → Prop, (∀ b, Bnd Q E i b → S b) → (∀ a b, (0 ≤ a ∧ a < Q 0) → S a → Bnd Q E a b → S b) → S j
def NdB (Q : Int → Int) (E : Int → Int → Bool) (p : Int) (v : Int32) : Prop := InB (Q 0) v ∧ ∀ j, 0 ≤ j → j < Q 0 → (bt v j = true ↔ Rch Q E p j)
def LoB (Q : Int → Int) (E : Int → Int → Bool) (p : Int) (v : Int32) : Prop := InB (Q 0) v ∧ ∀ j, 0 ≤ j → j < Q 0 → (bt v j = true ↔ j = p ∨ Rch Q E j p)
theorem InB.uni {c : Int} {v v1 : Int32} (hc : c ≤ 12) (h : InB c v) (h1 : InB c v1) (he : ∀ j, 0 ≤ j → j < c → (bt v j = true ↔ bt v1 j = true)) : v = v1 := by
  refine SubB.anti (fun j a b hb => (he j a (h j a b hb)).mp hb) (fun j a b hb => (he j a (h1 j a b hb)).mpr hb)
theorem NdB.uni {Q : Int → Int} {E : Int → Int → Bool} {p : Int} {v v1 : Int32} (hc : Q 0 ≤ 12) (h : NdB Q E p v) (h1 : NdB Q E p v1) : v = v1 := h.1.uni hc h1.1 (fun j a b => (h.2 j a b).trans (h1.2 j a b).symm)
theorem LoB.uni {Q : Int → Int} {E : Int → Int → Bool} {p : Int} {v v1 : Int32} (hc : Q 0 ≤ 12) (h : LoB Q E p v) (h1 : LoB Q E p v1) : v = v1 := h.1.uni hc h1.1 (fun j a b => (h.2 j a b).trans (h1.2 j a b).symm)
section RN
variable {Q : Int → Int} {E : Int → Int → Bool}
theorem nb_in (hP : wfP Q) {i : Int} (hi : 0 ≤ i ∧ i < Q 0) : InB (Q 0) (nb Q E i) := fun j a b hb => (((nb_bit hP hi a).mp hb).rng hP hi).2
theorem InB.oo {c : Int} {v w : Int32} (h : InB c v) (h1 : InB c w) : InB c (v ||| w) := fun j a b hb => by
  rw [bt_oo, Bool.or_eq_true] at hb
  exact hb.elim (h j a b) (h1 j a b)
theorem Rch.one {i j : Int} (h : Bnd Q E i j) : Rch Q E i j := fun S h1 _ => h1 j h
theorem Rch.step {i a b : Int} (ha : 0 ≤ a ∧ a < Q 0) (h : Rch Q E i a) (hb : Bnd Q E a b) : Rch Q E i b := fun S h1 h2 => h2 a b ha (h S h1 h2) hb
theorem Rch.pre {i a b : Int} (ha : 0 ≤ a ∧ a < Q 0) (h : Bnd Q E i a) (hb : Rch Q E a b) : Rch Q E i b := fun S h1 h2 => hb S (fun c hc => h2 a c ha (h1 a h) hc) h2
/-- sets on the way to all that p needs -/
def NdP (Q : Int → Int) (E : Int → Int → Bool) (p : Int) (v : Int32) : Prop := InB (Q 0) v ∧ (∀ j, 0 ≤ j → j < 32 → bt v j = true → Rch Q E p j) ∧ SubB (nb Q E p) v
theorem NdP.start (hP : wfP Q) {p : Int} (hp : 0 ≤ p ∧ p < Q 0) : NdP Q E p (nb Q E p) := ⟨nb_in hP hp, fun j a _ hb => Rch.one ((nb_bit hP hp a).mp hb), SubB.refl _⟩
theorem NdP.add (hP : wfP Q) {p i : Int} {v : Int32} (hi : 0 ≤ i ∧ i < Q 0) (h : NdP Q E p v) (hb : bt v i = true) : NdP Q E p (v ||| nb Q E i) := by
  have hc := hP.1
  refine ⟨h.1.oo (nb_in hP hi), fun j a b g => ?_, fun j a b g => ?_⟩
  · rw [bt_oo, Bool.or_eq_true] at g
    rcases g with g | g
    · exact h.2.1 j a b g
    · exact (h.2.1 i hi.1 (by omega) hb).step hi ((nb_bit hP hi a).mp g)
  · rw [bt_oo, h.2.2 j a b g, Bool.true_or]
theorem NdP.fin (hP : wfP Q) {p : Int} {v : Int32} (hp : 0 ≤ p ∧ p < Q 0) (h : NdP Q E p v) (hcl : ∀ i, 0 ≤ i → i < Q 0 → bt v i = true → ∀ j, Bnd Q E i j → bt v j = true) : NdB Q E p v := by
  have hc := hP.1
  refine ⟨h.1, fun j j0 j1 => ⟨h.2.1 j j0 (by omega), fun g => ?_⟩⟩
  refine g (fun b => bt v b = true) (fun b hb => ?_) (fun a b ha hs hb => hcl a ha.1 ha.2 hs b hb)
  have hr := hb.rng hP hp
  exact h.2.2 b hr.1 (by omega) ((nb_bit hP hp hr.1).mpr hb)
def ndSw (Q : Int → Int) (E : Int → Int → Bool) : Nat → Int → Int32 → Int32
  | 0, _, v => v
  | n + 1, i, v => ndSw Q E n (i + 1) (if bt v i = false then v else v ||| nb Q E i)
theorem SubB.oo {v w : Int32} : SubB v (v ||| w) := fun j _ _ hb => by rw [bt_oo, hb, Bool.true_or]
theorem SubB.oor {v w : Int32} : SubB w (v ||| w) := fun j _ _ hb => by rw [bt_oo, hb, Bool.or_true]
theorem ndSw_ok (hP : wfP Q) {p : Int} : ∀ (n : Nat) (i : Int) (v : Int32), i + n = Q 0 → 0 ≤ i → NdP Q E p v → NdP Q E p (ndSw Q E n i v) ∧ SubB v (ndSw Q E n i v) ∧ (SubB (ndSw Q E n i v) v → ∀ i', i ≤ i' → i' < Q 0 → bt v i' = true → ∀ j, Bnd Q E i' j → bt v j = true) := by
  have hc := hP.1
  intro n
  induction n with
  | zero =>
    intro i v h1 h2 h3
    unfold ndSw
    exact ⟨h3, SubB.refl _, fun _ i' a b => by omega⟩
  | succ n ih =>
    intro i v h1 h2 h3
    unfold ndSw
    by_cases q : bt v i = false
    · rw [if_pos q]
      obtain ⟨a1, a2, a3⟩ := ih (i + 1) v (by omega) (by omega) h3
      refine ⟨a1, a2, fun g i' g1 g2 g3 => ?_⟩
      by_cases e : i' = i
      · rw [e, q] at g3; cases g3
      · exact a3 g i' (by omega) g2 g3
    · rw [if_neg q]
      have q' : bt v i = true := by simpa using q
      obtain ⟨a1, a2, a3⟩ := ih (i + 1) (v ||| nb Q E i) (by omega) (by omega) (h3.add hP (by omega) q')
      refine ⟨a1, SubB.oo.trans a2, fun g i' g1 g2 g3 j hj => ?_⟩
      have hvv : SubB (v ||| nb Q E i) v := a2.trans g
      by_cases e : i' = i
      · subst e
        have hr := hj.rng hP (by omega)
        exact hvv j hr.1 (by omega) (SubB.oor j hr.1 (by omega) ((nb_bit hP (by omega) hr.1).mpr hj))
      · have hr := hj.rng hP (by omega)
        have heq : v ||| nb Q E i = v := SubB.anti hvv SubB.oo
        rw [heq] at a3
        have g' : SubB (ndSw Q E n (i + 1) (v ||| nb Q E i)) v := g
        rw [heq] at g'
        exact a3 g' i' (by omega) g2 g3 j hj
/-- sets on the way to all that is lost with p -/
def LoP (Q : Int → Int) (E : Int → Int → Bool) (p : Int) (v : Int32) : Prop := InB (Q 0) v ∧ (∀ j, 0 ≤ j → j < 32 → bt v j = true → j = p ∨ Rch Q E j p) ∧ bt v p = true
theorem LoP.fin (hP : wfP Q) {p : Int} {v : Int32} (hp : 0 ≤ p ∧ p < Q 0) (h : LoP Q E p v) (hcl : ∀ i, 0 ≤ i → i < Q 0 → (∃ j, Bnd Q E i j ∧ bt v j = true) → bt v i = true) : LoB Q E p v := by
  have hc := hP.1
  refine ⟨h.1, fun j j0 j1 => ⟨h.2.1 j j0 (by omega), fun g => ?_⟩⟩
  rcases g with g | g
  · rw [g]; exact h.2.2
  · exact g (fun b => bt v b = true → bt v j = true) (fun b hb hv => hcl j j0 j1 ⟨b, hb, hv⟩) (fun a b ha hs hb hv => hs (hcl a ha.1 ha.2 ⟨b, hb, hv⟩)) h.2.2
def loSw (Q : Int → Int) (E : Int → Int → Bool) : Nat → Int → Int32 → Int32
  | 0, _, v => v
  | n + 1, i, v => loSw Q E n (i + 1) (if nb Q E i &&& v = zt 0 then v else v ||| ib i)
theorem nb_meet (hP : wfP Q) {i : Int} {v : Int32} (hi : 0 ≤ i ∧ i < Q 0) : (nb Q E i &&& v = zt 0) ↔ ¬ ∃ j, Bnd Q E i j ∧ bt v j = true := by
  have hc := hP.1
  rw [bt_and]
  constructor
  · rintro h ⟨j, hj, hv⟩
    have hr := hj.rng hP hi
    exact h j hr.1 (by omega) ⟨(nb_bit hP hi hr.1).mpr hj, hv⟩
  · rintro h j a b ⟨g1, g2⟩
    exact h ⟨j, (nb_bit hP hi a).mp g1, g2⟩
theorem loSw_ok (hP : wfP Q) {p : Int} : ∀ (n : Nat) (i : Int) (v : Int32), i + n = Q 0 → 0 ≤ i → LoP Q E p v → LoP Q E p (loSw Q E n i v) ∧ SubB v (loSw Q E n i v) ∧ (SubB (loSw Q E n i v) v → ∀ i', i ≤ i' → i' < Q 0 → (∃ j, Bnd Q E i' j ∧ bt v j = true) → bt v i' = true) := by
  have hc := hP.1
  intro n
  induction n with
  | zero =>
    intro i v h1 h2 h3
    unfold loSw
    exact ⟨h3, SubB.refl _, fun _ i' a b => by omega⟩
  | succ n ih =>
    intro i v h1 h2 h3
    have hi : 0 ≤ i ∧ i < Q 0 := by omega
    unfold loSw
    by_cases q : nb Q E i &&& v = zt 0
    · rw [if_pos q]
      obtain ⟨a1, a2, a3⟩ := ih (i + 1) v (by omega) (by omega) h3
      refine ⟨a1, a2, fun g i' g1 g2 g3 => ?_⟩
      by_cases e : i' = i
      · subst e; exact absurd g3 ((nb_meet hP hi).mp q)
      · exact a3 g i' (by omega) g2 g3
    · rw [if_neg q]
      have q' : ∃ j, Bnd Q E i j ∧ bt v j = true := Classical.byContradiction (fun g => q ((nb_meet hP hi).mpr g))
      have hs : LoP Q E p (v ||| ib i) := by
        refine ⟨h3.1.or hi hc.2, fun j a b g => ?_, SubB.oo p ?_ ?_ h3.2.2⟩
        · rw [bt_or _ (by omega) a, Bool.or_eq_true, decide_eq_true_eq] at g
          rcases g with g | g
          · exact h3.2.1 j a b g
          · subst g
            obtain ⟨y, y1, y2⟩ := q'
            have hr := y1.rng hP hi
            rcases h3.2.1 y hr.1 (by omega) y2 with e | e
            · rw [← e]; exact Or.inr (Rch.one y1)
            · exact Or.inr (Rch.pre hr y1 e)
        · apply Classical.byContradiction
          intro g
          have := h3.1 p
          have h9 := h3.2.2
          unfold bt at h9
          rw [show p.toNat = 0 by omega] at h9
          have hb0 : bt v 0 = true := by unfold bt; exact h9
          rcases h3.2.1 0 (by omega) (by omega) hb0 with e | e
          · omega
          · have hr : ∀ b, Bnd Q E 0 b → 0 ≤ b := fun b hb => (hb.rng hP (by have := h3.1 0 (by omega) (by omega) hb0; omega)).1
            have := e (fun b => 0 ≤ b) hr (fun a b ha _ hb => (hb.rng hP ha).1)
            exact g this
        · apply Classical.byContradiction
          intro g
          have h9 := h3.2.2
          unfold bt at h9
          rw [BitVec.getLsbD_of_ge _ _ (by omega)] at h9
          cases h9
      obtain ⟨a1, a2, a3⟩ := ih (i + 1) (v ||| ib i) (by omega) (by omega) hs
      refine ⟨a1, (SubB.or (by omega)).trans a2, fun g i' g1 g2 g3 => ?_⟩
      have hvv : SubB (v ||| ib i) v := a2.trans g
      have heq : v ||| ib i = v := SubB.anti hvv (SubB.or (by omega))
      by_cases e : i' = i
      · subst e
        exact hvv i' (by omega) (by omega) (by rw [bt_or _ (by omega) (by omega)]; simp)
      · rw [heq] at a3
        have g' : SubB (loSw Q E n (i + 1) (v ||| ib i)) v := g
        rw [heq] at g'
        exact a3 g' i' (by omega) g2 g3
end RN
section CN
variable {F : Nat} {lg : Nat → Nat → Int64} {M : ZM} {p a : Nat} {Q : Int → Int} {z : Int32}
theorem y_neededBy {q : Int} (hF : 20 < F) (hP : wfP Q) (hR : RP M p Q) (hq : 0 ≤ q ∧ q < Q 0) : ∃ v, p_X5_neededBy F p a (zt q) z (LI M) lg = some v ∧ NdB Q (eL Q z 0) q v := by
  have hc := hP.1
  have hin : ∀ (r : Int32 → Int32 → Option Int32) (bf : Int32) (t : Int) (n : Nat) (i : Int) (v : Int32) (K : Nat), i + n = Q 0 → 0 ≤ i → n < K → fixN (fun _ _ => none) (pb_X5_neededBy_32 F p a r z (zt t) bf (LI M) lg) K v (zt i) = if ndSw Q (eL Q z 0) n i v = bf then some (ndSw Q (eL Q z 0) n i v) else r (ndSw Q (eL Q z 0) n i v) (zt t + 1) := by
    intro r bf t n
    induction n with
    | zero =>
      intro i v K h1 h2 hK
      obtain ⟨g, rfl⟩ : ∃ g, K = g + 1 := ⟨K - 1, by omega⟩
      rw [fix_succ]
      unfold pb_X5_neededBy_32 pk_X5_neededBy_73 ndSw
      rw [LI_0, hR.1, if_pos (zle_pos (by omega) (by omega) (by omega))]
    | succ n ih =>
      intro i v K h1 h2 hK
      obtain ⟨g, rfl⟩ : ∃ g, K = g + 1 := ⟨K - 1, by omega⟩
      rw [fix_succ]
      generalize hr : fixN (fun _ _ => none) (pb_X5_neededBy_32 F p a r z (zt t) bf (LI M) lg) g = rr
      unfold pb_X5_neededBy_32 ndSw
      rw [LI_0, hR.1, if_neg (zle_neg (by omega) (by omega) (by omega)), y_needBits (by omega) hP hR (by omega), ob_z, gnm_z]
      rw [← ih (i + 1) _ g (by omega) (by omega) (by omega), hr]
      simp only [zt_lit, zt_add, ib_fold]
      by_cases q1 : bt v i = false
      · rw [if_pos ((bt_test (by omega)).mpr q1), if_pos q1]
      · rw [if_neg (fun e => q1 ((bt_test (by omega)).mp e)), if_neg q1]
  have hsw := fun v (hv : NdP Q (eL Q z 0) q v) => ndSw_ok (E := eL Q z 0) hP (Q 0).toNat 0 v (by omega) (by omega) hv
  obtain ⟨v, a1, a2, a3, a4⟩ := rounds (c := Q 0) (sw := ndSw Q (eL Q z 0) (Q 0).toNat 0) (P := NdP Q (eL Q z 0) q) (z := fun _ _ => none) (b := pb_X5_neededBy_14 F p a z (LI M) lg) (F := F) hc hF (fun v hv => ⟨(hsw v hv).1, (hsw v hv).2.1, hv.1⟩) (fun r v t _ h1 h2 => by
      unfold pb_X5_neededBy_14
      rw [LI_0, hR.1, if_pos (zle_pos h1 (by omega) (by omega))]) (fun r v t _ h1 h2 => by
      unfold pb_X5_neededBy_14
      rw [LI_0, hR.1, if_neg (zle_neg (by omega) (by omega) (by omega)), show (0 : Int32) = zt 0 from rfl, hin r v t (Q 0).toNat 0 v F (by omega) (by omega) (by omega), show (1 : Int32) = zt 1 from rfl, zt_add]) (NdP.start hP hq)
  refine ⟨v, ?_, a2.fin hP hq (fun i i0 i1 hb j hj => ?_)⟩
  · unfold p_X5_neededBy
    rw [y_needBits (by omega) hP hR hq, ob_z, show (0 : Int32) = zt 0 from rfl]
    exact a1
  · rcases a4 with a4 | a4
    · exact (hsw v a2).2.2 (by rw [a4]; exact SubB.refl _) i i0 i1 hb j hj
    · have hr := hj.rng hP ⟨i0, i1⟩
      exact a4 j hr.1 hr.2
theorem y_lostWith {q : Int} (hF : 20 < F) (hP : wfP Q) (hR : RP M p Q) (hq : 0 ≤ q ∧ q < Q 0) : ∃ v, p_X5_lostWith F p a (zt q) (LI M) lg = some v ∧ LoB Q (pEg Q) q v := by
  have hc := hP.1
  have hin : ∀ (r : Int32 → Int32 → Option Int32) (bf : Int32) (t : Int) (n : Nat) (i : Int) (v : Int32) (K : Nat), i + n = Q 0 → 0 ≤ i → n < K → fixN (fun _ _ => none) (pb_X5_lostWith_23 F p a r (zt t) bf (LI M) lg) K v (zt i) = if loSw Q (pEg Q) n i v = bf then some (loSw Q (pEg Q) n i v) else r (loSw Q (pEg Q) n i v) (zt t + 1) := by
    intro r bf t n
    induction n with
    | zero =>
      intro i v K h1 h2 hK
      obtain ⟨g, rfl⟩ : ∃ g, K = g + 1 := ⟨K - 1, by omega⟩
      rw [fix_succ]
      unfold pb_X5_lostWith_23 pk_X5_lostWith_64 loSw
      rw [LI_0, hR.1, if_pos (zle_pos (by omega) (by omega) (by omega))]
    | succ n ih =>
      intro i v K h1 h2 hK
      obtain ⟨g, rfl⟩ : ∃ g, K = g + 1 := ⟨K - 1, by omega⟩
      rw [fix_succ]
      generalize hr : fixN (fun _ _ => none) (pb_X5_lostWith_23 F p a r (zt t) bf (LI M) lg) g = rr
      unfold pb_X5_lostWith_23 loSw
      rw [LI_0, hR.1, if_neg (zle_neg (by omega) (by omega) (by omega)), show (0 : Int32) = zt 0 from rfl, y_needBits (by omega) hP hR (by omega), ob_z, gnm_z, eL_0]
      rw [← ih (i + 1) _ g (by omega) (by omega) (by omega), hr]
      simp only [zt_lit, zt_add, ib_fold]
      by_cases q1 : nb Q (pEg Q) i &&& v = zt 0
      · rw [if_pos q1, if_pos q1]
      · rw [if_neg q1, if_neg q1]
  have hsw := fun v (hv : LoP Q (pEg Q) q v) => loSw_ok (E := pEg Q) hP (Q 0).toNat 0 v (by omega) (by omega) hv
  obtain ⟨v, a1, a2, a3, a4⟩ := rounds (c := Q 0) (sw := loSw Q (pEg Q) (Q 0).toNat 0) (P := LoP Q (pEg Q) q) (z := fun _ _ => none) (b := pb_X5_lostWith_6 F p a (LI M) lg) (F := F) hc hF (fun v hv => ⟨(hsw v hv).1, (hsw v hv).2.1, hv.1⟩) (fun r v t _ h1 h2 => by
      unfold pb_X5_lostWith_6
      rw [LI_0, hR.1, if_pos (zle_pos h1 (by omega) (by omega))]) (fun r v t _ h1 h2 => by
      unfold pb_X5_lostWith_6
      rw [LI_0, hR.1, if_neg (zle_neg (by omega) (by omega) (by omega)), show (0 : Int32) = zt 0 from rfl, hin r v t (Q 0).toNat 0 v F (by omega) (by omega) (by omega), show (1 : Int32) = zt 1 from rfl, zt_add]) (v := ib q) ⟨fun j j0 j1 hb => by
        rw [bt_ib (by omega) j0, decide_eq_true_eq] at hb
        omega, fun j j0 j1 hb => by
        rw [bt_ib (by omega) j0, decide_eq_true_eq] at hb
        exact Or.inl hb.symm, by rw [bt_ib (by omega) hq.1]; simp⟩
  refine ⟨v, ?_, a2.fin hP hq (fun i i0 i1 hb => ?_)⟩
  · unfold p_X5_lostWith
    rw [gnm_z, show (0 : Int32) = zt 0 from rfl]
    exact a1
  · rcases a4 with a4 | a4
    · exact (hsw v a2).2.2 (by rw [a4]; exact SubB.refl _) i i0 i1 hb
    · exact a4 i i0 i1
end CN
section CV2
variable {B : Int} {x : Nat} {K : HK} {pr : HP} {pt : Nat → Nat} {rr : HP} {n : Nat} {M : ZM} {lg : Nat → Nat → Int64} {A T : Int → Int} {U : List (Int → Int)} {I : IMG} {F : Nat}
theorem v_needs {p : Int} {z : Int32} (hF : 1000 < F) (hp0 : -2147483648 ≤ p ∧ p < 2147483648) (h : CI B x K pr pt rr n M lg A T U I) : (¬ (0 ≤ p ∧ p < A 0) → StC B x M lg A T U I (-1) (f_X10_needs F x (zt p) z n (hp K pr pt rr (LI M) lg))) ∧ ((0 ≤ p ∧ p < A 0) → ∃ v, NdB A (eL A z 0) p v ∧ StC B x M lg A T U I v.toInt (f_X10_needs F x (zt p) z n (hp K pr pt rr (LI M) lg))) := by
  have hs := h.1
  have hA := h.2.1.2.1.1
  have hg := h.2.1.2.rng
  have h0 : M (pt (x + 16)) 0 = A 0 := h.2.1.1.1.1
  unfold f_X10_needs
  rw [v_gR hs.o10 rfl hs.r1, v_gP hs.b0.k0 rfl, v_cvP hs.b0.o0.k0 ((e_X3_holds hs.b0.o0).trans (y_holds3 hp0 (by omega))), h0]
  refine ⟨fun c1 => ?_, fun c1 => ?_⟩
  · rw [if_neg c1, if_pos zz0]; exact h.same rfl
  · rw [if_pos c1, if_neg zz1]
    obtain ⟨pt1, M1, a1, a2, a3, a4⟩ := v_study hF h
    have hs1 := a2.1
    have hR : RP M1 (pt1 (x + 48)) A := by rw [a3.2]; exact a2.2.1.1.1
    obtain ⟨v, b1, b2⟩ := y_neededBy (F := F) (lg := lg) (a := x + 48) (z := z) (by omega) hA hR c1
    rw [v_gR hs.o10 rfl hs.r5, v_gR hs.o10 rfl hs.r1, v_gP hs.b0.k0 rfl, v_cvU hs.plan.k0 a1, v_gR hs1.o10 rfl hs1.r5, v_cvP hs1.plan.k0 ((e_X5_neededBy hs1.plan).trans b1)]
    exact ⟨v, b2, _, _, _, _, _, _, _, by rw [zt_as], a2, a4⟩
theorem v_lost {p : Int} (hF : 1000 < F) (hp0 : -2147483648 ≤ p ∧ p < 2147483648) (h : CI B x K pr pt rr n M lg A T U I) : (¬ (0 ≤ p ∧ p < A 0) → StC B x M lg A T U I (-1) (f_X10_lost F x (zt p) n (hp K pr pt rr (LI M) lg))) ∧ ((0 ≤ p ∧ p < A 0) → ∃ v, LoB A (pEg A) p v ∧ StC B x M lg A T U I v.toInt (f_X10_lost F x (zt p) n (hp K pr pt rr (LI M) lg))) := by
  have hs := h.1
  have hA := h.2.1.2.1.1
  have hg := h.2.1.2.rng
  have h0 : M (pt (x + 16)) 0 = A 0 := h.2.1.1.1.1
  unfold f_X10_lost
  rw [v_gR hs.o10 rfl hs.r1, v_gP hs.b0.k0 rfl, v_cvP hs.b0.o0.k0 ((e_X3_holds hs.b0.o0).trans (y_holds3 hp0 (by omega))), h0]
  refine ⟨fun c1 => ?_, fun c1 => ?_⟩
  · rw [if_neg c1, if_pos zz0]; exact h.same rfl
  · rw [if_pos c1, if_neg zz1]
    obtain ⟨pt1, M1, a1, a2, a3, a4⟩ := v_study hF h
    have hs1 := a2.1
    have hR : RP M1 (pt1 (x + 48)) A := by rw [a3.2]; exact a2.2.1.1.1
    obtain ⟨v, b1, b2⟩ := y_lostWith (F := F) (lg := lg) (a := x + 48) (by omega) hA hR c1
    rw [v_gR hs.o10 rfl hs.r5, v_gR hs.o10 rfl hs.r1, v_gP hs.b0.k0 rfl, v_cvU hs.plan.k0 a1, v_gR hs1.o10 rfl hs1.r5, v_cvP hs1.plan.k0 ((e_X5_lostWith hs1.plan).trans b1)]
    exact ⟨v, b2, _, _, _, _, _, _, _, by rw [zt_as], a2, a4⟩
end CV2
