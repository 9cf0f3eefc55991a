/-! Past.keep, Past.giveBack, Past.clear. -/
section KE
variable {B : Int} {x : Nat} {K : HK} {pr : HP} {pt : Nat → Nat} {rr : HP} {n : Nat} {M : ZM} {lg : Nat → Nat → Int64} {A T : Int → Int} {U : List (Int → Int)} {I : IMG} {F : Nat}
theorem sl_new {N : Int} {l : Nat} (h : 0 ≤ N ∧ N < 8) (hl : l ≤ 8) : slN N l l = N.toNat := by unfold slN; omega
theorem puU_at {U : List (Int → Int)} {A C : Int → Int} {j : Nat} (h : (puU U A)[j]? = some C) : (j + 1 = (puU U A).length ∧ C = A) ∨ (j + 1 < (puU U A).length ∧ U[if U.length = 8 then j + 1 else j]? = some C) := by
  unfold puU at *
  by_cases q : U.length = 8
  · rw [if_pos q] at *
    rw [if_pos q]
    by_cases q2 : j < U.tail.length
    · rw [List.getElem?_append_left q2, List.getElem?_tail] at h
      right
      exact ⟨by simp at q2 ⊢; omega, h⟩
    · rw [List.getElem?_append_right (by omega)] at h
      left
      have hz : j - U.tail.length = 0 := by
        rcases Nat.eq_zero_or_pos (j - U.tail.length) with z | z
        · exact z
        · rw [List.getElem?_eq_none (by simp only [List.length_cons, List.length_nil]; omega)] at h; cases h
      rw [hz] at h
      simp at h hz q2
      exact ⟨by simp; omega, h.symm⟩
  · rw [if_neg q] at *
    rw [if_neg q]
    by_cases q2 : j < U.length
    · rw [List.getElem?_append_left q2] at h
      right
      exact ⟨by simp; omega, h⟩
    · rw [List.getElem?_append_right (by omega)] at h
      left
      have hz : j - U.length = 0 := by
        rcases Nat.eq_zero_or_pos (j - U.length) with z | z
        · exact z
        · rw [List.getElem?_eq_none (by simp only [List.length_cons, List.length_nil]; omega)] at h; cases h
      rw [hz] at h
      simp at h
      exact ⟨by simp; omega, h.symm⟩
theorem puU_len2 {U : List (Int → Int)} {A : Int → Int} (h : U.length ≤ 8) : (puU U A).length = if U.length = 8 then 8 else U.length + 1 := by
  unfold puU
  split
  · simp; omega
  · simp
theorem v_keep32 {a : Nat} (h : CI B x K pr pt rr n M lg A T U I) (hr : rr (x + 4) (M (x + 3) 2).toNat = some a) : ∃ M1, k_X4_keep_32 F (x + 3) (x + 16) n (hp K pr pt rr (LI M) lg) = some (n, hp K pr (upt pt a (pt (x + 16))) rr (LI M1) lg) ∧ CI B x K pr (upt pt a (pt (x + 16))) rr n M1 lg A T (puU U A) I ∧ (∀ j, x + 16 ≤ j → j < x + 73 → M1 j = M j) := by
  obtain ⟨hs, ⟨h2, h3⟩, ⟨h4, h5⟩, ⟨p1, p2, p3, p4⟩, h7, h8⟩ := h
  obtain ⟨sx0, sx1, sx2, sx3, sx4, sx5, sx6, sx7, sx8, sx9, k3, r3, k4, k5, k6, k73⟩ := hs.1
  have ha := hs.slot (show (M (x + 3) 2).toNat < 8 by omega) hr
  obtain ⟨M2, c1, c2, c3⟩ := v_copyFrom (F := F) (rr := rr) (lg := lg) (n := n) (hs.board ha.1) hs.b0 (by omega) h3 h2
  have e3 : M2 (x + 3) = M (x + 3) := c3 _ (by omega)
  have hN : ∃ N' : Int, (0 ≤ N' ∧ N' < 8) ∧ N' = (if M (x + 3) 2 = 7 then 0 else M (x + 3) 2 + 1) ∧ k_X4_keep_32 F (x + 3) (x + 16) n (hp K pr pt rr (LI M) lg) = some (n, hp K pr (upt pt a (pt (x + 16))) rr (LI (uM (uM M2 (x + 3) 2 N') (x + 3) 1 (if U.length = 8 then 8 else U.length + 1))) lg) := by
    refine ⟨if M (x + 3) 2 = 7 then 0 else M (x + 3) 2 + 1, by split <;> omega, rfl, ?_⟩
    unfold k_X4_keep_32
    rw [v_gR k3 rfl r3, v_gI k3 rfl, LI_2, v_aN k4 (Or.inl rfl) p3 (by decide) hr, v_cvU ha.1 c1, v_gI k3 rfl, LI_2, e3]
    have k67 : ∀ v : Int, k_X4_keep_67 F (x + 3) (x + 3) (zt v) n (hp K pr (upt pt a (pt (x + 16))) rr (LI M2) lg) = some (n, hp K pr (upt pt a (pt (x + 16))) rr (LI (uM (uM M2 (x + 3) 2 v) (x + 3) 1 (if U.length = 8 then 8 else U.length + 1))) lg) := by
      intro v
      unfold k_X4_keep_67
      rw [v_pI k3 rfl, up2_2, v_gI k3 rfl, LI_1, uM_nei (by omega), e3, p1]
      simp (disch := omega) only [zt_lit, zt_add, zt_lt]
      rw [v_pI k3 rfl]
      by_cases q : U.length = 8
      · rw [if_pos (by omega), if_pos q, up2_1]
      · rw [if_neg (by omega), if_neg q, up2_1]
    simp (disch := omega) only [zt_lit, zt_add, zt_le]
    by_cases q : M (x + 3) 2 = 7
    · rw [if_pos (by omega), if_pos q]; exact k67 0
    · rw [if_neg (by omega), if_neg q, v_gI k3 rfl, LI_2, e3]
      simp only [zt_lit, zt_add]
      exact k67 _
  obtain ⟨N', n1, n2, n3⟩ := hN
  refine ⟨_, n3, ?_, fun j g1 g2 => ?_⟩
  · generalize hc' : (if U.length = 8 then (8 : Int) else (U.length : Int) + 1) = c'
    have hM : ∀ j, (j < a ∨ a + 13 ≤ j) → j ≠ x + 3 → uM (uM M2 (x + 3) 2 N') (x + 3) 1 c' j = M j := fun j g1 g2 => by
      funext e
      rw [uM_ne g2, uM_ne g2, c3 j g1]
    have bo : ∀ b C, K b = some (.inr 0) → b ≠ a → b ≠ x + 32 → RB M b (pt b) C → RB (uM (uM M2 (x + 3) 2 N') (x + 3) 1 c') b (upt pt a (pt (x + 16)) b) C := fun b C hb hne hx hR => hs.otherB (q := 0) ha.1 hb hne (upt_ne hne) (fun j g1 g2 _ _ => hM j g1 g2) hx hR
    have hpl := puU_len2 (A := A) p2
    refine ⟨hs.ptset hs.b0.o0, ⟨bo _ _ hs.b0.k0 (by omega) (by omega) h2, h3⟩, ⟨h4.fr ⟨hM _ (by omega) (by omega), hM _ (by omega) (by omega)⟩, h5⟩, ⟨?_, puU_len p2, ?_, fun j C hj => ?_⟩, fun k hk => ?_, ?_⟩
    · rw [uM_eq, ← hc', hpl]
      split <;> rfl
    · rw [uM_nei (by omega), uM_eq]; exact n1
    · rw [uM_nei (by omega), uM_eq]
      rcases puU_at hj with ⟨g1, rfl⟩ | ⟨g1, g2⟩
      · refine ⟨h3, a, ?_, ?_⟩
        · rw [show slN N' (puU U C).length j = (M (x + 3) 2).toNat by
            unfold slN
            rw [n2]
            by_cases q8 : U.length = 8
            · rw [if_pos q8] at hpl; split <;> omega
            · rw [if_neg q8] at hpl; split <;> omega]
          exact hr
        · rw [upt_eq]
          refine c2.memM (fun j g1 g2 => ?_) (fun j g1 g2 => ?_)
          · have := hs.ptsAt hs.b0.o0
            funext e; rw [uM_ne (by omega), uM_ne (by omega)]
          · funext e; rw [uM_ne (by omega), uM_ne (by omega)]
      · obtain ⟨g3, a', g4, g5⟩ := p4 _ C g2
        have hU := at_ltG g2
        have hsl : slN N' (puU U A).length j = slN (M (x + 3) 2) U.length (if U.length = 8 then j + 1 else j) ∧ slN (M (x + 3) 2) U.length (if U.length = 8 then j + 1 else j) ≠ (M (x + 3) 2).toNat := by
          unfold slN
          rw [n2]
          by_cases q8 : U.length = 8
          · rw [if_pos q8] at hpl hU ⊢
            split <;> omega
          · rw [if_neg q8] at hpl hU ⊢
            split <;> omega
        rw [hsl.1]
        have ha' := hs.slot (slN_lt _ _ _) g4
        have hne : a' ≠ a := fun e => hsl.2 (hs.rrs.2.1 _ _ a (by have := slN_lt (M (x + 3) 2) U.length (if U.length = 8 then j + 1 else j); omega) (by omega) (by unfold DB; rw [if_pos (slN_lt _ _ _), g4, e]) (by unfold DB; rw [if_pos (by omega)]; exact hr))
        exact ⟨g3, a', g4, bo a' C ha'.1 hne (by omega) g5⟩
    · obtain ⟨g1, g2⟩ := h7 k hk
      refine ⟨g1, fun C S hq => ?_⟩
      obtain ⟨g3, g4, a', c, g5, g6, g7, g8⟩ := g2 C S hq
      have ha' := hs.islot hk g5
      have hc := hs.pslot hk g6
      have hne : a' ≠ a := fun e => by
        have := hs.rrs.2.1 (8 + k) (M (x + 3) 2).toNat a (by omega) (by omega) (by unfold DB; rw [if_neg (by omega), show 8 + k - 8 = k by omega, g5, e]) (by unfold DB; rw [if_pos (by omega)]; exact hr)
        omega
      have hd := pa_bo (hs.paper hc.1) (hs.board ha.1)
      exact ⟨g3, g4, a', c, g5, g6, bo a' C ha'.1 hne (by omega) g7, g8.fr ⟨hM _ (by omega) (by omega), hM _ (by omega) (by omega)⟩⟩
    · rw [upt_ne (by omega)]
      have e2 := hs.ptsAt hs.2.2.1.2
      have d2 := bo_pt (hs.board ha.1) hs.2.2.1.2
      exact h8.fr (fun j g1 g2 => hM j (by omega) (by omega)) rfl (fun j g1 g2 => hM j (by omega) (by omega))
  · funext e; rw [uM_ne (by omega), uM_ne (by omega), c3 j (by omega)]
/-- what a call of the class leaves of the reference -/
def Rest (x : Nat) (M M1 : ZM) (lg lg1 : Nat → Nat → Int64) : Prop := (∀ j, x + 52 ≤ j → j < x + 73 → M1 j = M j) ∧ lg1 (x + 52) = lg (x + 52)
theorem Rest.refl (x : Nat) (M : ZM) (lg : Nat → Nat → Int64) : Rest x M M lg lg := ⟨fun _ _ _ => rfl, rfl⟩
theorem Rest.trans {x : Nat} {M M1 M2 : ZM} {lg lg1 lg2 : Nat → Nat → Int64} (h : Rest x M M1 lg lg1) (h1 : Rest x M1 M2 lg1 lg2) : Rest x M M2 lg lg2 := ⟨fun j a c => (h1.1 j a c).trans (h.1 j a c), h1.2.trans h.2⟩
theorem v_keep (hF : 1000 < F) (h : CI B x K pr pt rr n M lg A T U I) : ∃ K1 pr1 pt1 rr1 n1 M1 lg1, f_X4_keep F (x + 3) (x + 16) n (hp K pr pt rr (LI M) lg) = some (n1, hp K1 pr1 pt1 rr1 (LI M1) lg1) ∧ CI B x K1 pr1 pt1 rr1 n1 M1 lg1 A T (puU U A) I ∧ Rest x M M1 lg lg1 := by
  have hs := h.1
  have hN := h.2.2.2.1.2.2.1
  have hn := hs.n0
  obtain ⟨sx0, sx1, sx2, sx3, sx4, sx5, sx6, sx7, sx8, sx9, k3, r3, k4, k5, k6, k73⟩ := hs.1
  unfold f_X4_keep
  rw [v_gR k3 rfl r3, v_gI k3 rfl, LI_2, v_aQ k4 (Or.inl rfl) hN (by decide)]
  cases hr : rr (x + 4) (M (x + 3) 2).toNat with
  | some a =>
    rw [if_neg (by simp)]
    obtain ⟨M1, a1, a2, a3⟩ := v_keep32 (F := F) h hr
    exact ⟨_, _, _, _, _, _, _, a1, a2, fun j g1 g2 => a3 j (by omega) g2, rfl⟩
  | none =>
    rw [if_pos rfl, v_gR k3 rfl r3, v_gI k3 rfl, LI_2, gR_new (by have := hs.lt hs.b0.k0; omega), v_gP hs.b0.k0 rfl]
    obtain ⟨M1, a1, a2⟩ := v_newB (F := F) (M := M) (lg := lg) hF hs hs.b0.o0
    have hsN := hs.newB hs.b0.o0
    have kn : xK K n bo_K n = some (.inr 0) := xK_in (d := 0) (by decide)
    have k4' : xK K n bo_K (x + 4) = some (.inl (4, 8)) := by rw [xK_out (by omega)]; exact k4
    rw [v_csU a1, v_aP k4' (Or.inl rfl) hN (by decide) kn]
    have hlen : bo_K.length = 13 := rfl
    have hD : ∀ s, s < 11 → DB (xP rr n 13 (fun _ _ => none)) x s ≠ some n := fun s hs1 e => by
      have e2 : DB rr x s = some n := by
        unfold DB at e ⊢
        rw [xP_out (by omega), xP_out (by omega)] at e
        exact e
      have := hs.lt (hs.rrs.1 s n hs1 e2).1
      omega
    have hs2 := hsN.setSlot (show (M (x + 3) 2).toNat < 8 by omega) kn (by omega) hD
    have hci := h.ext hs2 (M1 := M1) (lg1 := xL lg n 13) (fun q hq => upt_ne (by omega)) a2 (fun k a hk => ?_) ?_ ?_ ?_
    · have hr2 : upr (xP rr n 13 (fun _ _ => none)) (x + 4) (M (x + 3) 2).toNat n (x + 4) (M1 (x + 3) 2).toNat = some n := by
        rw [a2 (x + 3) (by omega), upr_eq]
      obtain ⟨M2, b1, b2, b3⟩ := v_keep32 (F := F) hci hr2
      exact ⟨_, _, _, _, _, _, _, b1, b2, fun j g1 g2 => by rw [b3 j (by omega) g2, a2 j (by omega)], xL_out (by omega)⟩
    · by_cases q : k = (M (x + 3) 2).toNat
      · rw [q, hr] at hk; cases hk
      · rw [upr_nei q, xP_out (by omega)]; exact hk
    · funext i; rw [upr_ne (by omega), xP_out (by omega)]
    · funext i; rw [upr_ne (by omega), xP_out (by omega)]
    · exact xL_out (by omega)
theorem v_giveBack0 (h : CI B x K pr pt rr n M lg A T [] I) : f_X4_giveBack F (x + 3) (x + 16) n (hp K pr pt rr (LI M) lg) = some (zt (-1), n, hp K pr pt rr (LI M) lg) := by
  obtain ⟨p1, -⟩ := h.2.2.2.1
  obtain ⟨sx0, sx1, sx2, sx3, sx4, sx5, sx6, sx7, sx8, sx9, k3, r3, k4, k5, k6, k73⟩ := h.1.1
  have p0 : M (x + 3) 1 = 0 := by rw [p1]; rfl
  have k18 : ∀ v, k_X4_giveBack_18 F (x + 3) (x + 16) v n (hp K pr pt rr (LI M) lg) = some (zt (-1), n, hp K pr pt rr (LI M) lg) := fun v => by
    unfold k_X4_giveBack_18
    rw [v_gI k3 rfl, LI_1, p0, if_pos (show zt 0 = 0 from rfl)]
    rfl
  unfold f_X4_giveBack
  rw [v_gI k3 rfl]
  by_cases q : LI M (x + 3) 2 ≤ 0
  · rw [if_pos q, k18]
  · rw [if_neg q, v_gI k3 rfl, k18]
theorem v_giveBack1 {C : Int → Int} (h : CI B x K pr pt rr n M lg A T (U ++ [C]) I) : ∃ pt1 M1, f_X4_giveBack F (x + 3) (x + 16) n (hp K pr pt rr (LI M) lg) = some (zt U.length, n, hp K pr pt1 rr (LI M1) lg) ∧ CI B x K pr pt1 rr n M1 lg (fun e => if e < 891 then C e else A e) T U I ∧ Rest x M M1 lg lg := by
  have hs := h.1
  obtain ⟨p1, p2, p3, p4⟩ := h.2.2.2.1
  obtain ⟨sx0, sx1, sx2, sx3, sx4, sx5, sx6, sx7, sx8, sx9, k3, r3, k4, k5, k6, k73⟩ := hs.1
  have hlen : (U ++ [C]).length = U.length + 1 := by simp
  rw [hlen] at p1 p2 p4
  obtain ⟨g1, a, g2, g3⟩ := p4 U.length C (by simp)
  have ha := hs.slot (slN_lt _ _ _) g2
  obtain ⟨M2, c1, c2, c3⟩ := v_copyFrom (F := F) (rr := rr) (lg := lg) (n := n) hs.b0 (hs.board ha.1) (by omega) g1 g3
  have e3 : M2 (x + 3) = M (x + 3) := c3 _ (by omega)
  have hL : ∃ L : Int, L = (if M (x + 3) 2 = 0 then 7 else M (x + 3) 2 - 1) ∧ (0 ≤ L ∧ L < 8) ∧ slN (M (x + 3) 2) (U.length + 1) U.length = L.toNat := by
    refine ⟨_, rfl, by split <;> omega, ?_⟩
    unfold slN
    split <;> omega
  obtain ⟨L, l1, l2, l3⟩ := hL
  rw [l3] at g2
  have k18 : k_X4_giveBack_18 F (x + 3) (x + 16) (zt L) n (hp K pr pt rr (LI M) lg) = some (zt U.length, n, hp K pr (upt pt (x + 16) (pt a)) rr (LI (uM (uM M2 (x + 3) 2 L) (x + 3) 1 U.length)) lg) := by
    unfold k_X4_giveBack_18
    rw [v_gI k3 rfl, LI_1, p1, if_neg (by rw [show (0 : Int32) = zt 0 from rfl, zt_eq (by omega) (by omega) (by omega) (by omega)]; omega), v_gR k3 rfl r3, v_aQ k4 (Or.inl rfl) l2 (by decide), g2, if_neg (by simp), v_gR k3 rfl r3, v_aN k4 (Or.inl rfl) l2 (by decide) g2, v_cvU hs.b0.k0 c1, v_pI k3 rfl, up2_2, v_gI k3 rfl, LI_1, uM_nei (by omega), e3, p1, show (1 : Int32) = zt 1 from rfl, zt_sub, v_pI k3 rfl, up2_1, v_gI k3 rfl, LI_1, uM_eq, show ((U.length + 1 : Nat) : Int) - 1 = (U.length : Int) by omega]
  have hgb : f_X4_giveBack F (x + 3) (x + 16) n (hp K pr pt rr (LI M) lg) = k_X4_giveBack_18 F (x + 3) (x + 16) (zt L) n (hp K pr pt rr (LI M) lg) := by
    unfold f_X4_giveBack
    rw [v_gI k3 rfl, LI_2]
    simp (disch := omega) only [zt_lit, zt_le]
    by_cases q : M (x + 3) 2 = 0
    · rw [if_pos (by omega), l1, if_pos q]
    · rw [if_neg (by omega), v_gI k3 rfl, LI_2, l1, if_neg q]
      simp only [zt_lit, zt_sub]
  refine ⟨_, _, hgb.trans k18, ?_, fun j g1 g2 => ?_, rfl⟩
  · have hci : CI B x K pr (upt pt (x + 16) (pt a)) rr n M2 lg (fun e => if e < 891 then C e else A e) T (U ++ [C]) I := by
      refine h.setB (Int.le_refl _) (hs.ptset (hs.board ha.1).o0) (fun b hb => upt_ne hb) (fun j g1 g2 => c3 j (by omega)) rfl ?_ ?_ (fun e e1 e2 => if_neg (by omega))
      · rw [upt_eq]
        exact c2.cong g1 (fun e _ e2 => if_pos e2)
      · exact g1.cong (fun e _ e2 => if_pos e2)
    obtain ⟨j1, ⟨j2, j3⟩, ⟨j4, j5⟩, ⟨q1, q2, q3, q4⟩, j7, j8⟩ := hci
    have hM : ∀ j, j ≠ x + 3 → uM (uM M2 (x + 3) 2 L) (x + 3) 1 U.length j = M2 j := fun j g => by funext e; rw [uM_ne g, uM_ne g]
    have bo : ∀ b C, K b = some (.inr 0) → RB M2 b (upt pt (x + 16) (pt a) b) C → RB (uM (uM M2 (x + 3) 2 L) (x + 3) 1 U.length) b (upt pt (x + 16) (pt a) b) C := fun b C hb hR => by
      have e1 := j1.boAt hb
      have e2 := j1.ptsAt (j1.board hb).o0
      exact hR.memM (fun j _ _ => hM j (by omega)) (fun j _ _ => hM j (by omega))
    refine ⟨j1, ⟨bo _ _ j1.b0.k0 j2, j3⟩, ⟨j4.fr ⟨hM _ (by omega), hM _ (by omega)⟩, j5⟩, ⟨by rw [uM_eq], by omega, by rw [uM_nei (by omega), uM_eq]; exact l2, fun j D hj => ?_⟩, fun k hk => ?_, ?_⟩
    · have hjl := at_ltG hj
      obtain ⟨w1, a', w2, w3⟩ := q4 j D (by rw [List.getElem?_append_left hjl]; exact hj)
      rw [e3] at w2
      rw [uM_nei (by omega), uM_eq]
      refine ⟨w1, a', ?_, bo a' D (j1.slot (slN_lt _ _ _) w2).1 w3⟩
      rw [hlen] at w2
      rw [← w2]
      congr 1
      unfold slN
      rw [l1]
      split <;> omega
    · obtain ⟨w1, w2⟩ := j7 k hk
      refine ⟨w1, fun D S hq => ?_⟩
      obtain ⟨w3, w4, a', c, w5, w6, w7, w8⟩ := w2 D S hq
      have hc := j1.pslot hk w6
      exact ⟨w3, w4, a', c, w5, w6, bo a' D (j1.islot hk w5).1 w7, w8.fr ⟨hM _ (by omega), hM _ (by omega)⟩⟩
    · have e2 := j1.ptsAt j1.2.2.1.2
      exact j8.fr (fun j _ _ => hM j (by omega)) rfl (fun j _ _ => hM j (by omega))
  · funext e; rw [uM_ne (by omega), uM_ne (by omega), c3 j (by omega)]
/-- Past.clear -/
theorem v_clear (h : CI B x K pr pt rr n M lg A T U I) : ∃ M1, f_X4_clear F (x + 3) n (hp K pr pt rr (LI M) lg) = some (n, hp K pr pt rr (LI M1) lg) ∧ CI B x K pr pt rr n M1 lg A T [] I ∧ Rest x M M1 lg lg := by
  obtain ⟨j1, ⟨j2, j3⟩, ⟨j4, j5⟩, ⟨q1, q2, q3, q4⟩, j7, j8⟩ := h
  obtain ⟨sx0, sx1, sx2, sx3, sx4, sx5, sx6, sx7, sx8, sx9, k3, r3, k4, k5, k6, k73⟩ := j1.1
  have hM : ∀ j, j ≠ x + 3 → uM M (x + 3) 1 0 j = M j := fun j g => by funext e; rw [uM_ne g]
  have bo : ∀ b C, K b = some (.inr 0) → RB M b (pt b) C → RB (uM M (x + 3) 1 0) b (pt b) C := fun b C hb hR => by
    have e1 := j1.boAt hb
    have e2 := j1.ptsAt (j1.board hb).o0
    exact hR.memM (fun j _ _ => hM j (by omega)) (fun j _ _ => hM j (by omega))
  refine ⟨uM M (x + 3) 1 0, ?_, ⟨j1, ⟨bo _ _ j1.b0.k0 j2, j3⟩, ⟨j4.fr ⟨hM _ (by omega), hM _ (by omega)⟩, j5⟩, ⟨by rw [uM_eq]; rfl, by simp, by rw [uM_nei (by omega)]; exact q3, fun j D hj => by simp at hj⟩, fun k hk => ?_, ?_⟩, fun j g1 g2 => hM j (by omega), rfl⟩
  · unfold f_X4_clear
    rw [v_pI k3 rfl, show (0 : Int32) = zt 0 from rfl, up2_1]
  · obtain ⟨w1, w2⟩ := j7 k hk
    refine ⟨w1, fun D S hq => ?_⟩
    obtain ⟨w3, w4, a', c, w5, w6, w7, w8⟩ := w2 D S hq
    have hc := j1.pslot hk w6
    exact ⟨w3, w4, a', c, w5, w6, bo a' D (j1.islot hk w5).1 w7, w8.fr ⟨hM _ (by omega), hM _ (by omega)⟩⟩
  · have e2 := j1.ptsAt j1.2.2.1.2
    exact j8.fr (fun j _ _ => hM j (by omega)) rfl (fun j _ _ => hM j (by omega))
end KE
