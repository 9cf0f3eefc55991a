/-! The class keeps and gives back; new boards; a board that is set. -/
section PK
variable {B B1 : Int} {x : Nat} {K K1 : HK} {pr pr1 : HP} {pt pt1 : Nat → Nat} {rr rr1 : HP} {n n1 : Nat} {M M1 : ZM} {lg lg1 : Nat → Nat → Int64} {A A1 T T1 : Int → Int} {U : List (Int → Int)} {I : IMG} {F : Nat}
theorem HS.ptsLt {p : Nat} (h : HS K pr pt rr n x) (hp : OkParts K pr p) : p + 9 ≤ n := by have := h.lt hp.k8; omega
theorem HS.boLt {b : Nat} (h : HS K pr pt rr n x) (hb : K b = some (.inr 0)) : b + 13 ≤ n := by have := h.lt (h.board hb).o5.k2; omega
theorem HS.paLt {b : Nat} (h : HS K pr pt rr n x) (hb : K b = some (.inr 2)) : b + 2 ≤ n := by have := h.lt (h.paper hb).k1; omega
/-- more cells behind -/
theorem CI.ext (h : CI B x K pr pt rr n M lg A T U I) (hs : HS K1 pr1 pt1 rr1 n1 x) (hpt : ∀ q, q < n → pt1 q = pt q) (hM : ∀ q, q < n → M1 q = M q) (hr4 : ∀ k a, rr (x + 4) k = some a → rr1 (x + 4) k = some a) (hr5 : rr1 (x + 5) = rr (x + 5)) (hr6 : rr1 (x + 6) = rr (x + 6)) (hl : lg1 (x + 48) = lg (x + 48)) : CI B x K1 pr1 pt1 rr1 n1 M1 lg1 A T U I := by
  obtain ⟨h1, ⟨h2, h3⟩, ⟨h4, h5⟩, h6, h7, h8⟩ := h
  have hn := h1.n0
  have bo : ∀ b C, K b = some (.inr 0) → RB M b (pt b) C → RB M1 b (pt1 b) C := fun b C hb hR => by
    have e1 := h1.boLt hb
    have e2 := h1.ptsLt (h1.board hb).o0
    rw [hpt b (by omega)]
    exact hR.memM (fun j _ c => hM j (by omega)) (fun j _ c => hM j (by omega))
  refine ⟨hs, ⟨bo _ _ h1.b0.k0 h2, h3⟩, ⟨h4.fr ⟨hM _ (by omega), hM _ (by omega)⟩, h5⟩, ?_, ?_, ?_⟩
  · obtain ⟨g1, g2, g3, g4⟩ := h6
    have e : M1 (x + 3) = M (x + 3) := hM _ (by omega)
    unfold PaR
    rw [e]
    refine ⟨g1, g2, g3, fun j C hj => ?_⟩
    obtain ⟨g5, a, g6, g7⟩ := g4 j C hj
    exact ⟨g5, a, hr4 _ _ g6, bo a C (h1.slot (slN_lt _ _ _) g6).1 g7⟩
  · intro k hk
    obtain ⟨g1, g2⟩ := h7 k hk
    rw [hr5, hr6]
    refine ⟨g1, fun C S hq => ?_⟩
    obtain ⟨g3, g4, a, c, g5, g6, g7, g8⟩ := g2 C S hq
    have ec := h1.paLt (h1.pslot hk g6).1
    exact ⟨g3, g4, a, c, g5, g6, bo a C (h1.islot hk g5).1 g7, g8.fr ⟨hM _ (by omega), hM _ (by omega)⟩⟩
  · have e2 := h1.ptsLt h1.2.2.1.2
    rw [hpt (x + 48) (by omega)]
    exact h8.fr (fun j a c => hM j (by omega)) hl (fun j a c => hM j (by omega))
/-- another board, whatever was written at a -/
theorem HS.otherB {a b q : Nat} {C : Int → Int} (hs : HS K pr pt rr n x) (ha : K a = some (.inr 0)) (hb : K b = some (.inr 0)) (hne : b ≠ a) (hpt : pt1 b = pt b) (hM : ∀ j, (j < a ∨ a + 13 ≤ j) → j ≠ x + 3 → (j < x + 29 ∨ x + 48 ≤ j) → (j < x + 52 ∨ x + 73 ≤ j) → M1 j = M j) (hx : b ≠ x + 32) (hR : RB M b (pt b) C) : RB M1 b (pt1 b) C := by
  rw [hpt]
  have d1 := bo_bo (hs.board ha) (hs.board hb) (Ne.symm hne)
  have d2 := bo_pt (hs.board ha) (hs.board hb).o0
  have e1 := hs.boAt hb
  have e2 := hs.ptsAt (hs.board hb).o0
  exact hR.memM (fun j g1 g2 => hM j (by omega) (by omega) (by omega) (by omega)) (fun j g1 g2 => hM j (by omega) (by omega) (by omega) (by omega))
/-- the board itself is another row -/
theorem CI.setB (h : CI B x K pr pt rr n M lg A T U I) (hB : B ≤ B1) (hs : HS K pr pt1 rr n x) (hpt : ∀ b, b ≠ x + 16 → pt1 b = pt b) (hM : ∀ j, (j < x + 16 ∨ x + 48 ≤ j) → (j < x + 52 ∨ x + 73 ≤ j) → M1 j = M j) (hl : lg1 (x + 48) = lg (x + 48)) (hR : RB M1 (x + 16) (pt1 (x + 16)) A1) (hG : GR B1 A1) (he : ∀ e, 891 ≤ e → e < 894 → A1 e = A e) : CI B1 x K pr pt1 rr n M1 lg1 A1 T U I := by
  obtain ⟨h1, ⟨h2, h3⟩, ⟨h4, h5⟩, h6, h7, h8⟩ := h.upB hB
  have bo : ∀ b C, K b = some (.inr 0) → x + 74 ≤ b → RB M b (pt b) C → RB M1 b (pt1 b) C := fun b C hb hx hR => h1.otherB (q := 0) h1.b0.k0 hb (by omega) (hpt b (by omega)) (fun j g1 g2 g3 g4 => hM j (by omega) g4) (by omega) hR
  have e891 := he 891 (by omega) (by omega)
  refine ⟨hs, ⟨hR, hG⟩, ⟨?_, ?_⟩, ?_, ?_, ?_⟩
  · exact (h4.fr ⟨hM _ (by omega) (by omega), hM _ (by omega) (by omega)⟩).cong h5.1.2 e891 (he _ (by omega) (by omega)) (he _ (by omega) (by omega)) (fun _ _ _ => rfl)
  · unfold TxR; rw [e891]; exact h5
  · obtain ⟨g1, g2, g3, g4⟩ := h6
    have e : M1 (x + 3) = M (x + 3) := hM _ (by omega) (by omega)
    unfold PaR
    rw [e]
    refine ⟨g1, g2, g3, fun j C hj => ?_⟩
    obtain ⟨g5, a, g6, g7⟩ := g4 j C hj
    have ha := h1.slot (slN_lt _ _ _) g6
    exact ⟨g5, a, g6, bo a C ha.1 ha.2 g7⟩
  · intro k hk
    obtain ⟨g1, g2⟩ := h7 k hk
    refine ⟨g1, fun C S hq => ?_⟩
    obtain ⟨g3, g4, a, c, g5, g6, g7, g8⟩ := g2 C S hq
    have ha := h1.islot hk g5
    have hc := h1.pslot hk g6
    exact ⟨g3, g4, a, c, g5, g6, bo a C ha.1 ha.2 g7, g8.fr ⟨hM _ (by omega) (by omega), hM _ (by omega) (by omega)⟩⟩
  · rw [hpt (x + 48) (by omega)]
    have e2 := h1.ptsAt h1.2.2.1.2
    have d2 := bo_pt h1.b0 h1.2.2.1.2
    exact h8.fr (fun j a c => hM j (by omega) (by omega)) hl (fun j a c => hM j (by omega) (by omega))
theorem upt_self (pt : Nat → Nat) (q : Nat) : upt pt q (pt q) = pt := by
  funext j
  unfold upt
  by_cases h : j = q
  · rw [if_pos h, h]
  · rw [if_neg h]
theorem HS.newB {p : Nat} (h : HS K pr pt rr n x) (hp : OkParts K pr p) : HS (xK K n bo_K) (xP pr n 13 (bo_P n)) (upt pt n p) (xP rr n 13 (fun _ _ => none)) (n + 13) x := by
  have hn := h.n0
  have hK : ∀ q, q < n → xK K n bo_K q = K q ∧ xP pr n 13 (bo_P n) q = pr q := fun q hq => ⟨xK_out (by omega), xP_out (by omega)⟩
  have hL : bo_K.length = 13 := rfl
  refine h.grow (by omega) (fun q hq => ⟨(hK q hq).1, (hK q hq).2, upt_ne (by omega)⟩) (fun a ha => ?_) (fun a ha hk => ?_) (fun a ha hk => ?_) ?_
  · rw [xK_out (by omega)]; exact h.2.2.2.2.2.2.2.1.1 a (by omega)
  · have hz : a = n := by
      rcases Nat.lt_or_ge a (n + 13) with g | g
      · have e := xK_in (K := K) (a := n) (d := a - n) (l := bo_K) (by omega)
        rw [show n + (a - n) = a by omega, hk] at e
        have h13 : ∀ d, d < 13 → bo_K[d]? = some (.inr 0) → d = 0 := by decide
        have := h13 (a - n) (by omega) e.symm
        omega
      · rw [xK_out (by omega), h.2.2.2.2.2.2.2.1.1 a (by omega)] at hk; cases hk
    subst hz
    rw [upt_eq]
    exact xbo_ok hK hp (h.ptsLt hp)
  · exfalso
    rcases Nat.lt_or_ge a (n + 13) with g | g
    · have e := xK_in (K := K) (a := n) (d := a - n) (l := bo_K) (by omega)
      rw [show n + (a - n) = a by omega, hk] at e
      have h13 : ∀ d, d < 13 → ¬ bo_K[d]? = some (.inr 2) := by decide
      exact h13 (a - n) (by omega) e.symm
    · rw [xK_out (by omega), h.2.2.2.2.2.2.2.1.1 a (by omega)] at hk; cases hk
  · have e4 : xP rr n 13 (fun _ _ => none) (x + 4) = rr (x + 4) := xP_out (by omega)
    have e5 : xP rr n 13 (fun _ _ => none) (x + 5) = rr (x + 5) := xP_out (by omega)
    have e6 : xP rr n 13 (fun _ _ => none) (x + 6) = rr (x + 6) := xP_out (by omega)
    have eD : ∀ s, DB (xP rr n 13 (fun _ _ => none)) x s = DB rr x s := fun s => by unfold DB; rw [e4, e5]
    obtain ⟨r1, r2, r3, r4, r5⟩ := h.rrs
    refine ⟨fun s a hs ha => ?_, fun s s1 a hs hs1 ha ha1 => ?_, ?_, ?_, ?_⟩
    · rw [eD] at ha
      have := r1 s a hs ha
      exact ⟨by rw [(hK a (h.lt this.1)).1]; exact this.1, this.2⟩
    · rw [eD] at ha ha1
      exact r2 s s1 a hs hs1 ha ha1
    · intro k a hk ha
      rw [e6] at ha
      have := r3 k a hk ha
      exact ⟨by rw [(hK a (h.lt this.1)).1]; exact this.1, this.2⟩
    · intro k k1 a hk hk1 ha ha1
      rw [e6] at ha ha1
      exact r4 k k1 a hk hk1 ha ha1
    · intro k hk
      rw [e5, e6]
      exact r5 k hk
theorem HS.setSlot {a k : Nat} (h : HS K pr pt rr n x) (hk : k < 8) (ha : K a = some (.inr 0)) (hx : x + 74 ≤ a) (hf : ∀ s, s < 11 → DB rr x s ≠ some a) : HS K pr pt (upr rr (x + 4) k a) n x := by
  obtain ⟨h1, h2, h3, h4, h5, h6, h7, h8, r1, r2, r3, r4, r5⟩ := h
  have e5 : upr rr (x + 4) k a (x + 5) = rr (x + 5) := by funext i; exact upr_ne (by omega)
  have e6 : upr rr (x + 4) k a (x + 6) = rr (x + 6) := by funext i; exact upr_ne (by omega)
  have eD : ∀ s, DB (upr rr (x + 4) k a) x s = if s = k then some a else DB rr x s := fun s => by
    unfold DB
    rw [e5]
    by_cases q : s = k
    · subst q; rw [if_pos hk, upr_eq, if_pos rfl]
    · rw [if_neg q, upr_nei q]
  refine ⟨h1, h2, h3, h4, h5, h6, h7, h8, fun s c hs hc => ?_, fun s s1 c hs hs1 hc hc1 => ?_, by rw [e6]; exact r3, by rw [e6]; exact r4, by rw [e5, e6]; exact r5⟩
  · rw [eD] at hc
    by_cases q : s = k
    · rw [if_pos q] at hc; cases hc; exact ⟨ha, hx⟩
    · rw [if_neg q] at hc; exact r1 s c hs hc
  · rw [eD] at hc hc1
    by_cases q : s = k
    · rw [if_pos q] at hc
      cases hc
      by_cases q1 : s1 = k
      · omega
      · rw [if_neg q1] at hc1; exact absurd hc1 (hf s1 hs1)
    · rw [if_neg q] at hc
      by_cases q1 : s1 = k
      · rw [if_pos q1] at hc1; cases hc1; exact absurd hc (hf s hs)
      · rw [if_neg q1] at hc1; exact r2 s s1 c hs hs1 hc hc1
theorem v_newB {p : Nat} (hF : 1000 < F) (h : HS K pr pt rr n x) (hop : OkParts K pr p) : ∃ M1, f_X0_init F n p (n + 1) (gset (hp K pr pt rr (LI M) lg) n (.inr (0, df_X0))) = some (n + 13, hp (xK K n bo_K) (xP pr n 13 (bo_P n)) (upt pt n p) (xP rr n 13 (fun _ _ => none)) (LI M1) (xL lg n 13)) ∧ ∀ j, j < n → M1 j = M j := by
  have hb := (h.newB hop).board (show xK K n bo_K n = some (.inr 0) from xK_in (d := 0) (by decide))
  rw [upt_eq] at hb
  obtain ⟨M2, a1, a2, a3⟩ := y_fill (F := F) (lg := xL lg n 13) (M := xM M n 13 (fun _ _ => 0)) (N := 60) (a := n + 1) (v := -1) (by decide) hF
  refine ⟨M2, ?_, fun j hj => ?_⟩
  · rw [kc_X0, bo_blk, show (-1 : Int32) = zt (-1) from rfl, v_csU (r_eU (e_J7_fill_53178 hb.k1) a1)]
  · rw [a3 j (by omega), xM_out (by omega)]
theorem gR_new {G : GH} {q ci k m : Nat} {e : AC} (h : q ≠ m) : gR (gset G m e) q ci k = gR G q ci k := by
  unfold gR
  rw [gset_ne h]
end PK
