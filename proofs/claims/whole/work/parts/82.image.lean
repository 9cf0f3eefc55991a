/-! The class keeps an image. -/
section IM
variable {B : Int} {x : Nat} {K : HK} {pr : HP} {pt : Nat → Nat} {rr rr3 : HP} {n : Nat} {M M1 : ZM} {lg : Nat → Nat → Int64} {A A1 T T1 : Int → Int} {U : List (Int → Int)} {I : IMG} {F : Nat}
theorem xP_upr {q k a b L : Nat} {f : Nat → Nat → Option Nat} (h : q < b) : xP (upr rr q k a) b L f = upr (xP rr b L f) q k a := by
  funext j i
  by_cases e : j = q
  · subst e
    by_cases e2 : i = k
    · subst e2; rw [xP_out (by omega), upr_eq, upr_eq]
    · rw [xP_out (by omega), upr_nei e2, upr_nei e2, xP_out (by omega)]
  · rw [upr_ne e]
    unfold xP
    by_cases g : b ≤ j ∧ j < b + L
    · rw [if_pos g, if_pos g]
    · rw [if_neg g, if_neg g, upr_ne e]
theorem v_img62 {k a c : Nat} (h : CI B x K pr pt rr n M lg A T U I) (hk : k < 3) (hs3 : HS K pr pt rr3 n x) (h4 : rr3 (x + 4) = rr (x + 4)) (h5 : ∀ j, j ≠ k → rr3 (x + 5) j = rr (x + 5) j) (h6 : ∀ j, j ≠ k → rr3 (x + 6) j = rr (x + 6) j) (ha : rr3 (x + 5) k = some a) (hc : rr3 (x + 6) k = some c) : ∃ M1, k_X10_image_62 F x (zt k) n (hp K pr pt rr3 (LI M) lg) = some (zt 1, n, hp K pr (upt pt a (pt (x + 16))) rr3 (LI M1) lg) ∧ CI B x K pr (upt pt a (pt (x + 16))) rr3 n M1 lg A T U (uI I k (A, T)) ∧ Rest x M M1 lg lg := by
  obtain ⟨hs, ⟨h2, h3⟩, ⟨hP, hT⟩, ⟨p1, p2, p3, p4⟩, h7, h8⟩ := h
  have hba := hs3.islot hk ha
  have hpc := hs3.pslot hk hc
  have hbd := hs3.board hba.1
  obtain ⟨M1, a1, a2, a3⟩ := v_copyFrom (F := F) (rr := rr3) (lg := lg) (n := n) hbd hs3.b0 (by omega) h3 h2
  have hs4 := hs3.ptset (b := a) hs3.b0.o0
  have hdc := pa_bo (hs3.paper hpc.1) hbd
  obtain ⟨M2, b1, b2, b3⟩ := v_cpPaper (F := F) (rr := rr3) (lg := lg) (n := n) (pt := upt pt a (pt (x + 16))) (a := 0) (hs4.paper hpc.1) hs4.pap (by omega) hT.1 hT.2 (hP.fr ⟨a3 _ (by omega), a3 _ (by omega)⟩)
  have hM : ∀ j, (j < a ∨ a + 13 ≤ j) → (j < c ∨ c + 2 ≤ j) → M2 j = M j := fun j g1 g2 => by rw [b3 j g2, a3 j g1]
  have bo : ∀ b C, K b = some (.inr 0) → b ≠ a → RB M b (pt b) C → RB M2 b (upt pt a (pt (x + 16)) b) C := fun b C hb hne hR => by
    rw [upt_ne hne]
    have d1 := bo_bo hbd (hs.board hb) (Ne.symm hne)
    have d2 := bo_pt hbd (hs.board hb).o0
    have d3 := pa_bo (hs.paper hpc.1) (hs.board hb)
    have d4 := pa_pt (hs.paper hpc.1) (hs.board hb).o0
    exact hR.memM (fun j _ _ => hM j (by omega) (by omega)) (fun j _ _ => hM j (by omega) (by omega))
  refine ⟨M2, ?_, ⟨hs4, ⟨bo _ _ hs.b0.k0 (by omega) h2, h3⟩, ⟨hP.fr ⟨hM _ (by omega) (by omega), hM _ (by omega) (by omega)⟩, hT⟩, ⟨?_, p2, ?_, fun j C hj => ?_⟩, fun j hj => ?_, ?_⟩, fun j g1 g2 => hM j (by omega) (by omega), rfl⟩
  · unfold k_X10_image_62
    rw [v_gR hs3.o10 rfl hs3.r7, v_aN hs3.k5 (Or.inl rfl) (by omega) (by decide) (by rw [show ((k : Int)).toNat = k by omega]; exact ha), v_gR hs3.o10 rfl hs3.r1, v_cvU hba.1 a1, v_gR hs4.o10 rfl hs4.r8, v_aN hs4.k6 (Or.inr rfl) (by omega) (by decide) (by rw [show ((k : Int)).toNat = k by omega]; exact hc), v_gR hs4.o10 rfl hs4.r0, v_cvU hpc.1 b1, rN1]
  · rw [hM _ (by omega) (by omega)]; exact p1
  · rw [hM _ (by omega) (by omega)]; exact p3
  · obtain ⟨g1, a', g2, g3⟩ := p4 j C hj
    rw [hM (x + 3) (by omega) (by omega), h4]
    have g2' := g2
    rw [← h4] at g2'
    have ha' := hs3.slot (slN_lt _ _ _) g2'
    have hne : a' ≠ a := fun e => by
      have hl := slN_lt (M (x + 3) 2) U.length j
      have := hs3.rrs.2.1 (slN (M (x + 3) 2) U.length j) (8 + k) a (by omega) (by omega) (by unfold DB; rw [if_pos hl, g2', e]) (by unfold DB; rw [if_neg (by omega), show 8 + k - 8 = k by omega]; exact ha)
      omega
    exact ⟨g1, a', g2, bo a' C ha'.1 hne g3⟩
  · unfold uI
    by_cases q : j = k
    · subst q
      rw [if_pos rfl]
      refine ⟨fun e => (by cases e), fun C S e => ?_⟩
      cases e
      refine ⟨h3, hT, a, c, ha, hc, ?_, b2⟩
      rw [upt_eq]
      have d4 := pa_pt (hs.paper hpc.1) hs.b0.o0
      exact a2.memM (fun j _ _ => b3 j (by omega)) (fun j _ _ => b3 j (by omega))
    · rw [if_neg q, h5 j q, h6 j q]
      refine ⟨(h7 j hj).1, fun C S e => ?_⟩
      obtain ⟨g1, g2, a', c', g3, g4, g5, g6⟩ := (h7 j hj).2 C S e
      have g3' := g3
      have g4' := g4
      rw [← h5 j q] at g3'
      rw [← h6 j q] at g4'
      have ha' := hs3.islot hj g3'
      have hc' := hs3.pslot hj g4'
      have hne : a' ≠ a := fun e => by
        have := hs3.rrs.2.1 (8 + j) (8 + k) a (by omega) (by omega) (by unfold DB; rw [if_neg (by omega), show 8 + j - 8 = j by omega, g3', e]) (by unfold DB; rw [if_neg (by omega), show 8 + k - 8 = k by omega]; exact ha)
        omega
      have hne2 : c' ≠ c := fun e => q (hs3.rrs.2.2.2.1 j k c hj hk (by rw [g4', e]) hc)
      have d1 := pa_pa (hs.paper hpc.1) (hs.paper hc'.1) (Ne.symm hne2)
      have d2 := pa_bo (hs.paper hc'.1) hbd
      exact ⟨g1, g2, a', c', g3, g4, bo a' C ha'.1 hne g5, g6.fr ⟨hM _ (by omega) (by omega), hM _ (by omega) (by omega)⟩⟩
  · rw [upt_ne (by omega)]
    have e2 := hs.ptsAt hs.2.2.1.2
    have d2 := bo_pt hbd hs.2.2.1.2
    have d4 := pa_pt (hs.paper hpc.1) hs.2.2.1.2
    exact h8.fr (fun j _ _ => hM j (by omega) (by omega)) rfl (fun j _ _ => hM j (by omega) (by omega))
theorem HS.newPa (h : HS K pr pt rr n x) : HS (xK K n pa_K) (xP pr n 2 (pa_P n)) pt (xP rr n 2 (fun _ _ => none)) (n + 2) x := by
  have hn := h.n0
  have hL : pa_K.length = 2 := rfl
  have hK : ∀ q, q < n → xK K n pa_K q = K q ∧ xP pr n 2 (pa_P n) q = pr q := fun q hq => ⟨xK_out (by omega), xP_out (by omega)⟩
  refine h.grow (by omega) (fun q hq => ⟨(hK q hq).1, (hK q hq).2, rfl⟩) (fun a ha => ?_) (fun a ha hk => ?_) (fun a ha hk => ?_) ?_
  · rw [xK_out (by omega)]; exact h.2.2.2.2.2.2.2.1.1 a (by omega)
  · exfalso
    rcases Nat.lt_or_ge a (n + 2) with g | g
    · have e := xK_in (K := K) (a := n) (d := a - n) (l := pa_K) (by omega)
      rw [show n + (a - n) = a by omega, hk] at e
      have h13 : ∀ d, d < 2 → ¬ pa_K[d]? = some (.inr 0) := by decide
      exact h13 (a - n) (by omega) e.symm
    · rw [xK_out (by omega), h.2.2.2.2.2.2.2.1.1 a (by omega)] at hk; cases hk
  · have hz : a = n := by
      rcases Nat.lt_or_ge a (n + 2) with g | g
      · have e := xK_in (K := K) (a := n) (d := a - n) (l := pa_K) (by omega)
        rw [show n + (a - n) = a by omega, hk] at e
        have h13 : ∀ d, d < 2 → pa_K[d]? = some (.inr 2) → d = 0 := by decide
        have := h13 (a - n) (by omega) e.symm
        omega
      · rw [xK_out (by omega), h.2.2.2.2.2.2.2.1.1 a (by omega)] at hk; cases hk
    subst hz
    exact ⟨xK_in (d := 0) (by decide), xP_in (d := 0) (by decide), xK_in (d := 1) (by decide)⟩
  · have e4 : xP rr n 2 (fun _ _ => none) (x + 4) = rr (x + 4) := xP_out (by omega)
    have e5 : xP rr n 2 (fun _ _ => none) (x + 5) = rr (x + 5) := xP_out (by omega)
    have e6 : xP rr n 2 (fun _ _ => none) (x + 6) = rr (x + 6) := xP_out (by omega)
    have eD : ∀ s, DB (xP rr n 2 (fun _ _ => none)) x s = DB rr x s := fun s => by unfold DB; rw [e4, e5]
    obtain ⟨r1, r2, r3, r4, r5⟩ := h.rrs
    refine ⟨fun s a hs ha => ?_, fun s s1 a hs hs1 ha ha1 => ?_, ?_, ?_, ?_⟩
    · rw [eD] at ha
      have := r1 s a hs ha
      exact ⟨by rw [(hK a (h.lt this.1)).1]; exact this.1, this.2⟩
    · rw [eD] at ha ha1
      exact r2 s s1 a hs hs1 ha ha1
    · intro k a hk ha
      rw [e6] at ha
      have := r3 k a hk ha
      exact ⟨by rw [(hK a (h.lt this.1)).1]; exact this.1, this.2⟩
    · intro k k1 a hk hk1 ha ha1
      rw [e6] at ha ha1
      exact r4 k k1 a hk hk1 ha ha1
    · intro k hk
      rw [e5, e6]
      exact r5 k hk
theorem HS.setImg {a c k : Nat} (h : HS K pr pt rr n x) (hk : k < 3) (ha : K a = some (.inr 0)) (hx : x + 74 ≤ a) (hf : ∀ s, s < 11 → DB rr x s ≠ some a) (hc : K c = some (.inr 2)) (hxc : x + 74 ≤ c) (hfc : ∀ j, j < 3 → rr (x + 6) j ≠ some c) : HS K pr pt (upr (upr rr (x + 5) k a) (x + 6) k c) n x := by
  obtain ⟨h1, h2, h3, h4, h5, h6, h7, h8, r1, r2, r3, r4, r5⟩ := h
  have e4 : upr (upr rr (x + 5) k a) (x + 6) k c (x + 4) = rr (x + 4) := by funext i; rw [upr_ne (by omega), upr_ne (by omega)]
  have e5 : ∀ i, upr (upr rr (x + 5) k a) (x + 6) k c (x + 5) i = if i = k then some a else rr (x + 5) i := fun i => by
    rw [upr_ne (by omega)]
    by_cases q : i = k
    · subst q; rw [upr_eq, if_pos rfl]
    · rw [upr_nei q, if_neg q]
  have e6 : ∀ i, upr (upr rr (x + 5) k a) (x + 6) k c (x + 6) i = if i = k then some c else rr (x + 6) i := fun i => by
    by_cases q : i = k
    · subst q; rw [upr_eq, if_pos rfl]
    · rw [upr_nei q, upr_ne (by omega), if_neg q]
  have eD : ∀ s, DB (upr (upr rr (x + 5) k a) (x + 6) k c) x s = if s = 8 + k then some a else DB rr x s := fun s => by
    unfold DB
    rw [e4, e5]
    by_cases q : s < 8
    · rw [if_pos q, if_pos q, if_neg (by omega)]
    · rw [if_neg q, if_neg q]
      by_cases q2 : s = 8 + k
      · rw [if_pos q2, if_pos (by omega)]
      · rw [if_neg q2, if_neg (by omega)]
  refine ⟨h1, h2, h3, h4, h5, h6, h7, h8, fun s d hs hd => ?_, fun s s1 d hs hs1 hd hd1 => ?_, fun j d hj hd => ?_, fun j j1 d hj hj1 hd hd1 => ?_, fun j hj => ?_⟩
  · rw [eD] at hd
    by_cases q : s = 8 + k
    · rw [if_pos q] at hd; cases hd; exact ⟨ha, hx⟩
    · rw [if_neg q] at hd; exact r1 s d hs hd
  · rw [eD] at hd hd1
    by_cases q : s = 8 + k
    · rw [if_pos q] at hd
      cases hd
      by_cases q1 : s1 = 8 + k
      · omega
      · rw [if_neg q1] at hd1; exact absurd hd1 (hf s1 hs1)
    · rw [if_neg q] at hd
      by_cases q1 : s1 = 8 + k
      · rw [if_pos q1] at hd1; cases hd1; exact absurd hd (hf s hs)
      · rw [if_neg q1] at hd1; exact r2 s s1 d hs hs1 hd hd1
  · rw [e6] at hd
    by_cases q : j = k
    · rw [if_pos q] at hd; cases hd; exact ⟨hc, hxc⟩
    · rw [if_neg q] at hd; exact r3 j d hj hd
  · rw [e6] at hd hd1
    by_cases q : j = k
    · rw [if_pos q] at hd
      cases hd
      by_cases q1 : j1 = k
      · omega
      · rw [if_neg q1] at hd1; exact absurd hd1 (hfc j1 hj1)
    · rw [if_neg q] at hd
      by_cases q1 : j1 = k
      · rw [if_pos q1] at hd1; cases hd1; exact absurd hd (hfc j hj)
      · rw [if_neg q1] at hd1; exact r4 j j1 d hj hj1 hd hd1
  · rw [e5, e6]
    by_cases q : j = k
    · rw [if_pos q, if_pos q]; simp
    · rw [if_neg q, if_neg q]; exact r5 j hj
theorem v_image {k : Int} (hF : 1000 < F) (hk : -2147483648 ≤ k ∧ k < 2147483648) (h : CI B x K pr pt rr n M lg A T U I) : (¬ (0 ≤ k ∧ k < 3) → StC B x M lg A T U I 0 (f_X10_image F x (zt k) n (hp K pr pt rr (LI M) lg))) ∧ ((0 ≤ k ∧ k < 3) → StC B x M lg A T U (uI I k.toNat (A, T)) 1 (f_X10_image F x (zt k) n (hp K pr pt rr (LI M) lg))) := by
  have hs := h.1
  have hn := hs.n0
  unfold f_X10_image
  simp (disch := omega) only [zt_lit, zt_lt]
  by_cases c1 : k < 0
  · rw [if_pos c1]; exact ⟨fun _ => h.same rN0, fun e => by omega⟩
  · rw [if_neg c1]
    by_cases c2 : k < 3
    · rw [if_pos c2]
      refine ⟨fun e => absurd ⟨by omega, c2⟩ e, fun _ => ?_⟩
      have hkn : (k.toNat : Int) = k := by omega
      rw [v_gR hs.o10 rfl hs.r7, v_aQ hs.k5 (Or.inl rfl) (by omega) (by decide)]
      have h56 := hs.rrs.2.2.2.2 k.toNat (by omega)
      cases h5 : rr (x + 5) k.toNat with
      | some a =>
        rw [if_neg (by simp)]
        unfold k_X10_image_40
        rw [v_gR hs.o10 rfl hs.r8, v_aQ hs.k6 (Or.inr rfl) (by omega) (by decide)]
        cases h6 : rr (x + 6) k.toNat with
        | none => rw [h56.mpr h6] at h5; cases h5
        | some c =>
          rw [if_neg (by simp)]
          obtain ⟨M1, a1, a2, a3⟩ := v_img62 (F := F) (k := k.toNat) h (by omega) hs rfl (fun _ _ => rfl) (fun _ _ => rfl) h5 h6
          rw [hkn] at a1
          exact ⟨_, _, _, _, _, _, _, a1, a2, a3⟩
      | none =>
        have h6 := h56.mp h5
        have hlb : bo_K.length = 13 := rfl
        have hlp : pa_K.length = 2 := rfl
        rw [if_pos rfl, v_gR hs.o10 rfl hs.r7, gR_new (by have := hs.lt hs.o10; omega), v_gR hs.o10 rfl hs.r1, gR_new (by have := hs.lt hs.b0.k0; omega), v_gP hs.b0.k0 rfl]
        obtain ⟨M1, a1, a2⟩ := v_newB (F := F) (M := M) (lg := lg) hF hs hs.b0.o0
        have hs1 := hs.newB hs.b0.o0
        have kn : xK K n bo_K n = some (.inr 0) := xK_in (d := 0) (by decide)
        rw [v_csU a1, v_aP hs1.k5 (Or.inl rfl) (by omega) (by decide) kn]
        unfold k_X10_image_40
        rw [v_gR hs1.o10 rfl hs1.r8, v_aQ hs1.k6 (Or.inr rfl) (by omega) (by decide), upr_ne (by omega), xP_out (by omega), h6, if_pos rfl, v_gR hs1.o10 rfl hs1.r8, v_csU (kc_X2.trans (by rw [pa_blk]))]
        have hs2 := hs1.newPa
        have kp : xK (xK K n bo_K) (n + 13) pa_K (n + 13) = some (.inr 2) := xK_in (d := 0) (by decide)
        have kb : xK (xK K n bo_K) (n + 13) pa_K n = some (.inr 0) := by rw [xK_out (by omega)]; exact kn
        rw [v_aP hs2.k6 (Or.inr rfl) (by omega) (by decide) kp, xP_upr (by omega)]
        have hD : ∀ s, s < 11 → DB (xP (xP rr n 13 (fun _ _ => none)) (n + 13) 2 (fun _ _ => none)) x s ≠ some n := fun s hs9 e => by
          have e2 : DB rr x s = some n := by
            unfold DB at e ⊢
            rw [xP_out (by omega), xP_out (by omega), xP_out (by omega), xP_out (by omega)] at e
            exact e
          have := hs.lt (hs.rrs.1 s n hs9 e2).1
          omega
        have hC : ∀ j, j < 3 → xP (xP rr n 13 (fun _ _ => none)) (n + 13) 2 (fun _ _ => none) (x + 6) j ≠ some (n + 13) := fun j hj e => by
          rw [xP_out (by omega), xP_out (by omega)] at e
          have := hs.lt (hs.rrs.2.2.1 j _ hj e).1
          omega
        have hs3 := hs2.setImg (k := k.toNat) (by omega) kb (by omega) hD kp (by omega) hC
        have hci := h.ext hs2 (M1 := xM M1 (n + 13) 2 pa_M) (lg1 := xL (xL lg n 13) (n + 13) 2) (fun q hq => upt_ne (by omega)) (fun q hq => by rw [xM_out (by omega), a2 q hq]) (fun k a hka => by rw [xP_out (by omega), xP_out (by omega)]; exact hka) (by rw [xP_out (by omega), xP_out (by omega)]) (by rw [xP_out (by omega), xP_out (by omega)]) (by rw [xL_out (by omega), xL_out (by omega)])
        obtain ⟨M2, b1, b2, b3⟩ := v_img62 (F := F) (k := k.toNat) hci (by omega) hs3 (by funext i; rw [upr_ne (by omega), upr_ne (by omega)]) (fun j hj => by rw [upr_ne (by omega), upr_nei hj]) (fun j hj => by rw [upr_nei hj, upr_ne (by omega)]) (by rw [upr_ne (by omega), upr_eq]) (upr_eq _ _ _ _)
        rw [hkn] at b1
        exact ⟨_, _, _, _, _, _, _, b1, b2, Rest.trans ⟨fun j g1 g2 => by rw [xM_out (by omega), a2 j (by omega)], by rw [xL_out (by omega), xL_out (by omega)]⟩ b3⟩
    · rw [if_neg c2]; exact ⟨fun _ => h.same rN0, fun e => absurd e.2 c2⟩
end IM
