/-! The class's calls over memory: tries, images. -/
section CD
variable {B : Int} {x : Nat} {K : HK} {pr : HP} {pt : Nat → Nat} {rr rr3 : HP} {n : Nat} {M M1 : ZM} {lg : Nat → Nat → Int64} {A A1 T T1 : Int → Int} {U : List (Int → Int)} {I : IMG} {F : Nat}
theorem CI.pt32 {q : Nat} (h : CI B x K pr pt rr n M lg A T U I) (hq : OkParts K pr q) : CI B x K pr (upt pt (x + 32) q) rr n M lg A T U I := by
  obtain ⟨h1, ⟨h2, h3⟩, h4, ⟨p1, p2, p3, p4⟩, h7, h8⟩ := h
  refine ⟨h1.ptset hq, ⟨by rw [upt_ne (by omega)]; exact h2, h3⟩, h4, ⟨p1, p2, p3, fun j C hj => ?_⟩, fun k hk => ⟨(h7 k hk).1, fun C S hC => ?_⟩, by rw [upt_ne (by omega)]; exact h8⟩
  · obtain ⟨g1, a, g2, g3⟩ := p4 j C hj
    have := (h1.slot (slN_lt _ _ _) g2).2
    exact ⟨g1, a, g2, by rw [upt_ne (by omega)]; exact g3⟩
  · obtain ⟨g1, g2, a, c, g3, g4, g5, g6⟩ := (h7 k hk).2 C S hC
    have := (h1.islot hk g3).2
    exact ⟨g1, g2, a, c, g3, g4, by rw [upt_ne (by omega)]; exact g5, g6⟩
theorem v_would {p k : Int} (hF : 1000 < F) (hB : B ≤ 1000000000) (hp0 : -2147483648 ≤ p ∧ p < 2147483648) (hk : -2147483648 ≤ k ∧ k < 2147483648) (h : CI B x K pr pt rr n M lg A T U I) : StC B x M lg A T U I (wldS A p k) (f_X10_would F x (zt p) (zt k) n (hp K pr pt rr (LI M) lg)) := by
  have hs := h.1
  have hG := h.2.1.2
  have hg := hG.rng
  have h0 : M (pt (x + 16)) 0 = A 0 := h.2.1.1.1.1
  unfold f_X10_would wldS
  rw [v_gR hs.o10 rfl hs.r1, v_gP hs.b0.k0 rfl, v_cvP hs.b0.o0.k0 ((e_X3_holds hs.b0.o0).trans (y_holds3 hp0 (by omega))), h0]
  by_cases c1 : 0 ≤ p ∧ p < A 0
  · rw [if_pos c1, if_neg zz1]
    simp (disch := omega) only [zt_lit, zt_lt, zt_le]
    by_cases c2 : k < 0
    · rw [if_pos c2, if_neg (by omega)]; exact h.same rfl
    · rw [if_neg c2]
      by_cases c3 : k ≤ 1
      · rw [if_pos c3, if_pos ⟨c1, by omega, c3⟩, v_gR hs.o10 rfl hs.r3, v_gR hs.o10 rfl hs.r1]
        obtain ⟨M1, a1, a2, a3⟩ := v_copyFrom (F := F) (rr := rr) (lg := lg) (n := n) hs.b1 hs.b0 (by omega) hG h.2.1.1
        have h1 := h.pt32 hs.b0.o0
        have hs1 := h1.1
        have ept : upt pt (x + 32) (pt (x + 16)) (x + 32) = pt (x + 16) := upt_eq _ _ _
        have hb1 := hs1.b1
        have hm1 := hs1.m1
        have hsp := hs1.sp1
        rw [ept] at hb1 hm1 hsp
        obtain ⟨M2, lg2, b1, b2, b3, b4⟩ := y_askFor (F := F) (lg := lg) (B := B) (by omega) hB hsp a2 hG.1 hG.2.1 c1
        rw [v_cvU hs.b1.k0 a1, v_gR hs1.o10 rfl hs1.r4, v_cvI hm1.k0 (r_eI (e_X1_askFor hm1) b1)]
        have hfr : Frm x M M2 := fun j g1 g2 => by rw [b3 j (by omega) (by omega), a3 j (by omega)]
        have hci := h1.fr (lg1 := lg2) hfr (by funext i; exact b4 _ _ (by omega))
        have hrest : Rest x M M2 lg lg2 := ⟨fun j g1 g2 => by rw [b3 j (by omega) (by omega), a3 j (by omega)], by funext i; exact b4 _ _ (by omega)⟩
        simp (disch := omega) only [zt_eq]
        by_cases c4 : k = 0
        · rw [if_pos c4, if_pos c4, v_gR hs1.o10 rfl hs1.r3, v_gR hb1.k0 rfl hb1.p4, v_gI hb1.o4.k0 rfl, v_gR hs1.o10 rfl hs1.r1, v_gR hs1.b0.k0 rfl hs1.b0.p4, v_gI hs1.b0.o4.k0 rfl, LI_0, LI_0, b2.2.2.1.2.1, hci.2.1.1.2.2.1.2.1, zt_sub]
          exact ⟨_, _, _, _, _, _, _, rfl, hci, hrest⟩
        · rw [if_neg c4, if_neg c4]
          exact ⟨_, _, _, _, _, _, _, rfl, hci, hrest⟩
      · rw [if_neg c3, if_neg (fun e => c3 e.2.2)]; exact h.same rfl
  · rw [if_neg c1, if_pos zz0, if_neg (fun e => c1 e.1)]; exact h.same rfl
theorem v_worth {p : Int} (hF : 1000 < F) (hB : B ≤ 900000000) (hp0 : -2147483648 ≤ p ∧ p < 2147483648) (h : CI B x K pr pt rr n M lg A T U I) : StC B x M lg A T U I (wrtS A p) (f_X10_worth F x (zt p) n (hp K pr pt rr (LI M) lg)) := by
  have hs := h.1
  have hG := h.2.1.2
  have hg := hG.rng
  have h0 : M (pt (x + 16)) 0 = A 0 := h.2.1.1.1.1
  unfold f_X10_worth wrtS
  rw [v_gR hs.o10 rfl hs.r1, v_gP hs.b0.k0 rfl, v_cvP hs.b0.o0.k0 ((e_X3_holds hs.b0.o0).trans (y_holds3 hp0 (by omega))), h0]
  by_cases c1 : 0 ≤ p ∧ p < A 0
  · rw [if_pos c1, if_pos c1, if_neg zz1, v_gR hs.o10 rfl hs.r3, v_gR hs.o10 rfl hs.r1]
    obtain ⟨M1, a1, a2, a3⟩ := v_copyFrom (F := F) (rr := rr) (lg := lg) (n := n) hs.b1 hs.b0 (by omega) hG h.2.1.1
    have h1 := h.pt32 hs.b0.o0
    have hs1 := h1.1
    have ept : upt pt (x + 32) (pt (x + 16)) (x + 32) = pt (x + 16) := upt_eq _ _ _
    have hb1 := hs1.b1
    have hm1 := hs1.m1
    have hsp := hs1.sp1
    rw [ept] at hb1 hm1 hsp
    obtain ⟨M2, lg2, b1, b2, b3, b4⟩ := y_askFor (F := F) (lg := lg) (B := B) (by omega) (by omega) hsp a2 hG.1 hG.2.1 c1
    rw [v_cvU hs.b1.k0 a1, v_gR hs1.o10 rfl hs1.r4, v_cvI hm1.k0 (r_eI (e_X1_askFor hm1) b1)]
    have hfr : Frm x M M2 := fun j g1 g2 => by rw [b3 j (by omega) (by omega), a3 j (by omega)]
    have hci := h1.fr (lg1 := lg2) hfr (by funext i; exact b4 _ _ (by omega))
    have hrest : Rest x M M2 lg lg2 := ⟨fun j g1 g2 => by rw [b3 j (by omega) (by omega), a3 j (by omega)], by funext i; exact b4 _ _ (by omega)⟩
    have hwf : FI (B + 13) (asA [] (askA A p)) 0 ∧ WT (asA [] (askA A p)) ∧ _ ∧ _ ∧ (askA A p).1 < asA [] (askA A p) 206 ∧ -4 ≤ (askA A p).1 ∧ (askA A p).1 ≠ -1 := ask_wf hG.1 hG.2.1 c1
    obtain ⟨w1, w2, -, -, w5, w6, w7⟩ := hwf
    have b2 : RB M2 (x + 32) (pt (x + 16)) (asA [] (askA A p)) := b2
    have hm2 := w1.2.2.1.1
    rw [v_gR hs1.o10 rfl hs1.r3, v_gR hb1.k0 rfl hb1.p4]
    have hh : p_X7_holds F (x + 32 + 3) (zt (askA A p).1) (LI M2) lg2 = some (zt (if 0 ≤ (askA A p).1 ∧ (askA A p).1 < M2 (x + 32 + 3) 0 then 1 else 0)) := y_holds7 (by omega) (by rw [b2.2.2.1.2.1]; exact hm2)
    rw [b2.2.2.1.2.1] at hh
    rw [show (fetS 13 [] p (A 145) A).1 = (askA A p).1 from rfl, v_cvP hb1.o4.k0 ((e_X7_holds hb1.o4).trans hh)]
    by_cases c2 : (askA A p).1 < 0
    · rw [if_neg (show ¬ (0 ≤ (askA A p).1 ∧ (askA A p).1 < asA [] (askA A p) 206) by omega), if_pos zz0, if_pos c2]
      exact ⟨_, _, _, _, _, _, _, rfl, hci, hrest⟩
    · rw [if_pos (show 0 ≤ (askA A p).1 ∧ (askA A p).1 < asA [] (askA A p) 206 by omega), if_neg zz1, if_neg c2, v_gR hs1.o10 rfl hs1.r4]
      obtain ⟨M3, lg3, d1, d2, d3, d4⟩ := y_reckonFor (F := F) (lg := lg2) (B := B + 13) (by omega) (by omega) hsp b2 w1 w2 (t := (askA A p).1) (by omega)
      obtain ⟨u1, u2, u3, u4, u5, u6, u7⟩ := value_wf w1 w2 (t := (askA A p).1) (by omega)
      rw [v_cvI hm1.k0 (r_eI (e_X1_reckonFor hm1) d1)]
      have hfr3 : Frm x M2 M3 := fun j g1 g2 => d3 j (by omega) (by omega)
      have hci3 := hci.fr (lg1 := lg3) hfr3 (by funext i; exact d4 _ _ (by omega))
      have hrest3 : Rest x M M3 lg lg3 := hrest.trans ⟨fun j g1 g2 => d3 j (by omega) (by omega), by funext i; exact d4 _ _ (by omega)⟩
      have hz1 : (zt (recS 61 [] [] (askA A p).1 (asA [] (askA A p))).1 = (1 : Int32)) = ((recS 61 [] [] (askA A p).1 (asA [] (askA A p))).1 = 1) := by
        rw [show (1 : Int32) = zt 1 from rfl]
        exact zt_eq (by omega) (by omega) (by omega) (by omega)
      by_cases c3 : (recS 61 [] [] (askA A p).1 (asA [] (askA A p))).1 = 1
      · rw [if_pos c3, if_pos (show zt (recS 61 [] [] (askA A p).1 (asA [] (askA A p))).1 = (1 : Int32) by rw [hz1]; exact c3), v_gR hs1.o10 rfl hs1.r3, v_gR hb1.k0 rfl hb1.p4, v_gR hb1.o4.k0 rfl hb1.o4.p4, v_aIz hb1.o4.k4 (by decide) (by omega) (by decide), (d2.2.2.1.2.2 (askA A p).1 (by omega) (by omega)).2.2.2.1]
        exact ⟨_, _, _, _, _, _, _, rfl, hci3, hrest3⟩
      · rw [if_neg c3, if_neg (show ¬ (zt (recS 61 [] [] (askA A p).1 (asA [] (askA A p))).1 = (1 : Int32)) by rw [hz1]; exact c3)]
        exact ⟨_, _, _, _, _, _, _, rfl, hci3, hrest3⟩
  · rw [if_neg c1, if_neg c1, if_pos zz0]; exact h.same rfl
theorem CI.setP (h : CI B x K pr pt rr n M lg A T U I) (hM : ∀ j, j ≠ x + 1 → j ≠ x + 2 → M1 j = M j) (hA : ∀ e, 0 ≤ e → e < 891 → A1 e = A e) (hP : PPr M1 (x + 1) A1 T1) (hT : TxR A1 T1) : CI B x K pr pt rr n M1 lg A1 T1 U I := by
  obtain ⟨h1, ⟨h2, h3⟩, h4, ⟨p1, p2, p3, p4⟩, h7, h8⟩ := h
  have bo : ∀ b C, K b = some (.inr 0) → RB M b (pt b) C → RB M1 b (pt b) C := fun b C hb hR => by
    have e1 := h1.boAt hb
    have e2 := h1.ptsAt (h1.board hb).o0
    exact hR.memM (fun j _ _ => hM j (by omega) (by omega)) (fun j _ _ => hM j (by omega) (by omega))
  have e3 : M1 (x + 3) = M (x + 3) := hM _ (by omega) (by omega)
  refine ⟨h1, ⟨(bo _ _ h1.b0.k0 h2).cong h3 hA, h3.cong hA⟩, ⟨hP, hT⟩, ⟨by rw [e3]; exact p1, p2, by rw [e3]; exact p3, fun j C hj => ?_⟩, fun k hk => ⟨(h7 k hk).1, fun C S hC => ?_⟩, ?_⟩
  · obtain ⟨g1, a, g2, g3⟩ := p4 j C hj
    rw [e3]
    exact ⟨g1, a, g2, bo a C (h1.slot (slN_lt _ _ _) g2).1 g3⟩
  · obtain ⟨g1, g2, a, c, g3, g4, g5, g6⟩ := (h7 k hk).2 C S hC
    have := (h1.pslot hk g4).2
    exact ⟨g1, g2, a, c, g3, g4, bo a C (h1.islot hk g3).1 g5, g6.fr ⟨hM _ (by omega) (by omega), hM _ (by omega) (by omega)⟩⟩
  · have e2 := h1.ptsAt h1.2.2.1.2
    exact h8.fr (fun j _ _ => hM j (by omega) (by omega)) rfl (fun j _ _ => hM j (by omega) (by omega))
theorem v_again {k : Int} (hk : -2147483648 ≤ k ∧ k < 2147483648) (h : CI B x K pr pt rr n M lg A T U I) : (¬ ((0 ≤ k ∧ k < 3) ∧ I k.toNat ≠ none) → StC B x M lg A T U I 0 (f_X10_again F x (zt k) n (hp K pr pt rr (LI M) lg))) ∧ (∀ C S, (0 ≤ k ∧ k < 3) → I k.toNat = some (C, S) → StC B x M lg C S [] I 1 (f_X10_again F x (zt k) n (hp K pr pt rr (LI M) lg))) := by
  have hs := h.1
  unfold f_X10_again
  simp (disch := omega) only [zt_lit, zt_lt, zt_le]
  by_cases c1 : k < 0
  · rw [if_pos c1]; exact ⟨fun _ => h.same rN0, fun C S e _ => by omega⟩
  · rw [if_neg c1]
    by_cases c2 : 3 ≤ k
    · rw [if_pos c2]; exact ⟨fun _ => h.same rN0, fun C S e _ => by omega⟩
    · rw [if_neg c2, v_gR hs.o10 rfl hs.r7, v_aQ hs.k5 (Or.inl rfl) (by omega) (by decide)]
      obtain ⟨i1, i2⟩ := h.2.2.2.2.1 k.toNat (by omega)
      cases hI : I k.toNat with
      | none =>
        rw [i1 hI, if_pos rfl]
        exact ⟨fun _ => h.same rN0, fun C S _ e => by cases e⟩
      | some q =>
        obtain ⟨C, S⟩ := q
        refine ⟨fun e => absurd ⟨by omega, by simp⟩ e, fun C2 S2 _ e => ?_⟩
        cases e
        obtain ⟨g1, g2, a, c, g3, g4, g5, g6⟩ := i2 C S hI
        have ha := hs.islot (by omega) g3
        have hc := hs.pslot (by omega) g4
        rw [g3, if_neg (by simp), v_gR hs.o10 rfl hs.r8, v_aQ hs.k6 (Or.inr rfl) (by omega) (by decide), g4, if_neg (by simp), v_gR hs.o10 rfl hs.r1, v_gR hs.o10 rfl hs.r7, v_aN hs.k5 (Or.inl rfl) (by omega) (by decide) g3]
        obtain ⟨M1, a1, a2, a3⟩ := v_copyFrom (F := F) (rr := rr) (lg := lg) (n := n) hs.b0 (hs.board ha.1) (by omega) g1 g5
        have hci : CI B x K pr (upt pt (x + 16) (pt a)) rr n M1 lg (fun e => if e < 891 then C e else A e) T U I := by
          refine h.setB (Int.le_refl _) (hs.ptset (hs.board ha.1).o0) (fun b hb => upt_ne hb) (fun j g1 g2 => a3 j (by omega)) rfl ?_ ?_ (fun e e1 e2 => if_neg (by omega))
          · rw [upt_eq]
            exact a2.cong g1 (fun e _ e2 => if_pos e2)
          · exact g1.cong (fun e _ e2 => if_pos e2)
        have hs1 := hci.1
        rw [v_cvU hs.b0.k0 a1, v_gR hs1.o10 rfl hs1.r0, v_gR hs1.o10 rfl hs1.r8, v_aN hs1.k6 (Or.inr rfl) (by omega) (by decide) g4]
        obtain ⟨M2, b1, b2, b3⟩ := v_cpPaper (F := F) (rr := rr) (lg := lg) (n := n) (pt := upt pt (x + 16) (pt a)) (a := 0) hs1.pap (hs1.paper hc.1) (by omega) g2.1 g2.2 (g6.fr ⟨a3 _ (by omega), a3 _ (by omega)⟩)
        rw [v_cvU hs1.pap.k0 b1, v_gR hs1.o10 rfl hs1.r6]
        have hci2 := hci.setP (M1 := M2) (A1 := C) (T1 := S) (fun j j1 j2 => b3 j (by omega)) (fun e e1 e2 => (if_pos e2).symm) b2 g2
        obtain ⟨M3, d1, d2, d3⟩ := v_clear (F := F) hci2
        rw [v_cvU hs1.k3 d1]
        exact ⟨_, _, _, _, _, _, _, rfl, d2, Rest.trans ⟨fun j j1 j2 => by rw [b3 j (by omega), a3 j (by omega)], rfl⟩ d3⟩
end CD
