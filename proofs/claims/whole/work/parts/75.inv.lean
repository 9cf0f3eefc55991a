/-! The class's memory as rows: what holds between calls. -/
abbrev IMG : Type := Nat → Option ((Int → Int) × (Int → Int))
def slN (N : Int) (l j : Nat) : Nat := (N.toNat + 8 - l + j) % 8
def PaR (B : Int) (x : Nat) (pt : Nat → Nat) (rr : HP) (M : ZM) (U : List (Int → Int)) : Prop := M (x + 3) 1 = U.length ∧ U.length ≤ 8 ∧ (0 ≤ M (x + 3) 2 ∧ M (x + 3) 2 < 8) ∧ ∀ (j : Nat) (C : Int → Int), U[j]? = some C → GR B C ∧ ∃ a, rr (x + 4) (slN (M (x + 3) 2) U.length j) = some a ∧ RB M a (pt a) C
def TxR (A T : Int → Int) : Prop := (0 ≤ A 891 ∧ A 891 ≤ 600) ∧ ∀ e, -128 ≤ T e ∧ T e ≤ 127
def ImR (B : Int) (x : Nat) (pt : Nat → Nat) (rr : HP) (M : ZM) (I : IMG) : Prop := ∀ k, k < 3 → (I k = none → rr (x + 5) k = none) ∧ ∀ C S, I k = some (C, S) → GR B C ∧ TxR C S ∧ ∃ a c, rr (x + 5) k = some a ∧ rr (x + 6) k = some c ∧ RB M a (pt a) C ∧ PPr M c C S
def CI (B : Int) (x : Nat) (K : HK) (pr : HP) (pt : Nat → Nat) (rr : HP) (n : Nat) (M : ZM) (lg : Nat → Nat → Int64) (A T : Int → Int) (U : List (Int → Int)) (I : IMG) : Prop :=
  HS K pr pt rr n x ∧ (RB M (x + 16) (pt (x + 16)) A ∧ GR B A) ∧ (PPr M (x + 1) A T ∧ TxR A T) ∧ PaR B x pt rr M U ∧ ImR B x pt rr M I ∧ PlR M lg (x + 48) (pt (x + 48))
section CV
variable {B B1 : Int} {x : Nat} {K K1 : HK} {pr pr1 : HP} {pt pt1 : Nat → Nat} {rr rr1 : HP} {n n1 : Nat} {M M1 : ZM} {lg lg1 : Nat → Nat → Int64} {A A1 T T1 : Int → Int} {U : List (Int → Int)} {I : IMG}
theorem PPr.fr {a : Nat} (h : PPr M a A T) (hm : M1 a = M a ∧ M1 (a + 1) = M (a + 1)) : PPr M1 a A T := by
  unfold PPr
  rw [hm.1, hm.2]
  exact h
theorem PPr.cong {a : Nat} (h : PPr M a A T) (hc : A 891 ≤ 600) (h1 : A1 891 = A 891) (h2 : A1 892 = A 892) (h3 : A1 893 = A 893) (hT : ∀ e, 0 ≤ e → e < 600 → T1 e = T e) : PPr M a A1 T1 := by
  obtain ⟨g1, g2, g3, g4⟩ := h
  exact ⟨by rw [h1]; exact g1, by rw [h2]; exact g2, by rw [h3]; exact g3, fun e a c => by rw [h1] at c; rw [hT e a (by omega)]; exact g4 e a c⟩
theorem RB.bp {b p : Nat} (h : RB M b p A) (hp : ∀ j, p ≤ j → j < p + 9 → M1 j = M j) (hb : ∀ j, b ≤ j → j < b + 13 → M1 j = M j) : RB M1 b p A := h.memM hp hb
/-- what a call leaves as it was, but for makers, the trial and the reference -/
def Frm (x : Nat) (M M1 : ZM) : Prop := ∀ j, (j < x + 29 ∨ x + 48 ≤ j) → (j < x + 52 ∨ x + 73 ≤ j) → M1 j = M j
theorem HS.ptsM {p : Nat} (h : HS K pr pt rr n x) (hp : OkParts K pr p) (hf : Frm x M M1) : ∀ j, p ≤ j → j < p + 9 → M1 j = M j := by
  intro j h1 h2
  rcases h.ptsAt hp with e | e
  · exact hf j (by omega) (by omega)
  · exact hf j (by omega) (by omega)
theorem HS.boM {b : Nat} (h : HS K pr pt rr n x) (hb : K b = some (.inr 0)) (hne : b ≠ x + 32) (hf : Frm x M M1) : ∀ j, b ≤ j → j < b + 13 → M1 j = M j := by
  intro j h1 h2
  rcases h.boAt hb with e | e | e
  · exact hf j (by omega) (by omega)
  · exact absurd e hne
  · exact hf j (by omega) (by omega)
theorem HS.paM {b : Nat} (h : HS K pr pt rr n x) (hb : K b = some (.inr 2)) (hf : Frm x M M1) : M1 b = M b ∧ M1 (b + 1) = M (b + 1) := by
  rcases h.paAt hb with e | e
  · exact ⟨hf _ (by omega) (by omega), hf _ (by omega) (by omega)⟩
  · exact ⟨hf _ (by omega) (by omega), hf _ (by omega) (by omega)⟩
theorem HS.slot {k a : Nat} (h : HS K pr pt rr n x) (hk : k < 8) (ha : rr (x + 4) k = some a) : K a = some (.inr 0) ∧ x + 74 ≤ a := h.rrs.1 k a (by omega) (by unfold DB; rw [if_pos hk]; exact ha)
theorem HS.islot {k a : Nat} (h : HS K pr pt rr n x) (hk : k < 3) (ha : rr (x + 5) k = some a) : K a = some (.inr 0) ∧ x + 74 ≤ a := h.rrs.1 (8 + k) a (by omega) (by unfold DB; rw [if_neg (by omega), show 8 + k - 8 = k by omega]; exact ha)
theorem HS.pslot {k a : Nat} (h : HS K pr pt rr n x) (hk : k < 3) (ha : rr (x + 6) k = some a) : K a = some (.inr 2) ∧ x + 74 ≤ a := h.rrs.2.2.1 k a hk ha
theorem slN_lt (N : Int) (l j : Nat) : slN N l j < 8 := Nat.mod_lt _ (by decide)
theorem PaR.fr (h : PaR B x pt rr M U) (hs : HS K pr pt rr n x) (hf : Frm x M M1) : PaR B x pt rr M1 U := by
  obtain ⟨h1, h2, h3, h4⟩ := h
  have e : M1 (x + 3) = M (x + 3) := hf _ (by omega) (by omega)
  unfold PaR
  rw [e]
  refine ⟨h1, h2, h3, fun j C hj => ?_⟩
  obtain ⟨g1, a, g2, g3⟩ := h4 j C hj
  have ha := hs.slot (slN_lt _ _ _) g2
  exact ⟨g1, a, g2, g3.bp (hs.ptsM (hs.board ha.1).o0 hf) (hs.boM ha.1 (by omega) hf)⟩
theorem ImR.fr (h : ImR B x pt rr M I) (hs : HS K pr pt rr n x) (hf : Frm x M M1) : ImR B x pt rr M1 I := by
  intro k hk
  obtain ⟨h1, h2⟩ := h k hk
  refine ⟨h1, fun C S hq => ?_⟩
  obtain ⟨g1, g2, a, c, g3, g4, g5, g6⟩ := h2 C S hq
  have ha := hs.islot hk g3
  have hc := hs.pslot hk g4
  exact ⟨g1, g2, a, c, g3, g4, g5.bp (hs.ptsM (hs.board ha.1).o0 hf) (hs.boM ha.1 (by omega) hf), g6.fr (hs.paM hc.1 hf)⟩
theorem CI.fr (h : CI B x K pr pt rr n M lg A T U I) (hf : Frm x M M1) (hl : lg1 (x + 48) = lg (x + 48)) : CI B x K pr pt rr n M1 lg1 A T U I := by
  obtain ⟨h1, ⟨h2, h3⟩, ⟨h4, h5⟩, h6, h7, h8⟩ := h
  refine ⟨h1, ⟨h2.bp (h1.ptsM h1.b0.o0 hf) (h1.boM h1.b0.k0 (by omega) hf), h3⟩, ⟨h4.fr (h1.paM h1.pap.k0 hf), h5⟩, h6.fr h1 hf, h7.fr h1 hf, ?_⟩
  exact h8.fr (fun j a c => hf j (by omega) (by omega)) hl (h1.ptsM h1.2.2.1.2 hf)
theorem PaR.upB (h : PaR B x pt rr M U) (hB : B ≤ B1) : PaR B1 x pt rr M U := ⟨h.1, h.2.1, h.2.2.1, fun j C hj => ⟨(h.2.2.2 j C hj).1.upB hB, (h.2.2.2 j C hj).2⟩⟩
theorem ImR.upB (h : ImR B x pt rr M I) (hB : B ≤ B1) : ImR B1 x pt rr M I := fun k hk => ⟨(h k hk).1, fun C S hq => ⟨((h k hk).2 C S hq).1.upB hB, ((h k hk).2 C S hq).2⟩⟩
theorem CI.upB (h : CI B x K pr pt rr n M lg A T U I) (hB : B ≤ B1) : CI B1 x K pr pt rr n M lg A T U I := ⟨h.1, ⟨h.2.1.1, h.2.1.2.upB hB⟩, h.2.2.1, h.2.2.2.1.upB hB, h.2.2.2.2.1.upB hB, h.2.2.2.2.2⟩
/-- the row and the text of another hand -/
theorem CI.congA (h : CI B x K pr pt rr n M lg A T U I) (he : ∀ e, 0 ≤ e → e < 894 → A1 e = A e) (hT : ∀ e, 0 ≤ e → e < 600 → T1 e = T e) (hb : ∀ e, -128 ≤ T1 e ∧ T1 e ≤ 127) : CI B x K pr pt rr n M lg A1 T1 U I := by
  obtain ⟨h1, ⟨h2, h3⟩, ⟨h4, h5⟩, h6⟩ := h
  refine ⟨h1, ⟨h2.cong h3 (fun e a c => he e a (by omega)), h3.cong (fun e a c => he e a (by omega))⟩, ⟨h4.cong h5.1.2 (he _ (by omega) (by omega)) (he _ (by omega) (by omega)) (he _ (by omega) (by omega)) hT, ?_, hb⟩, h6⟩
  rw [he 891 (by omega) (by omega)]
  exact h5.1
theorem xbo_ok {p a : Nat} (hK : ∀ q, q < a → (xK K a bo_K q = K q ∧ xP pr a 13 (bo_P a) q = pr q)) (hp : OkParts K pr p) (hlt : p + 9 ≤ a) : OkBoard (xK K a bo_K) (xP pr a 13 (bo_P a)) (upt pt a p) a p := by
  have k : ∀ d, d < 13 → xK K a bo_K (a + d) = bo_K[d]? := fun d hd => xK_in hd
  have f : ∀ d i, d < 13 → xP pr a 13 (bo_P a) (a + d) i = bo_P a d i := fun d i hd => xP_in hd
  have hp1 : OkParts (xK K a bo_K) (xP pr a 13 (bo_P a)) p := by
    have kk : ∀ d, d < 9 → xK K a bo_K (p + d) = K (p + d) := fun d hd => (hK _ (by omega)).1
    have k0 := kk 0 (by omega)
    have pp : xP pr a 13 (bo_P a) p = pr p := (hK p (by omega)).2
    exact ⟨k0.trans hp.k0, by rw [pp]; exact hp.p1, (kk 1 (by omega)).trans hp.k1, by rw [pp]; exact hp.p2, (kk 2 (by omega)).trans hp.k2, by rw [pp]; exact hp.p3, (kk 3 (by omega)).trans hp.k3, by rw [pp]; exact hp.p4, (kk 4 (by omega)).trans hp.k4, by rw [pp]; exact hp.p5, (kk 5 (by omega)).trans hp.k5, by rw [pp]; exact hp.p6, (kk 6 (by omega)).trans hp.k6, by rw [pp]; exact hp.p7, (kk 7 (by omega)).trans hp.k7, by rw [pp]; exact hp.p8, (kk 8 (by omega)).trans hp.k8⟩
  exact ⟨k 0 (by decide), upt_eq _ _ _, hp1, f 0 2 (by decide), k 1 (by decide), f 0 3 (by decide), k 2 (by decide), f 0 4 (by decide), ⟨k 3 (by decide), f 3 1 (by decide), k 4 (by decide), f 3 2 (by decide), k 5 (by decide), f 3 3 (by decide), k 6 (by decide), f 3 4 (by decide), k 7 (by decide), f 3 5 (by decide), k 8 (by decide), f 3 6 (by decide), k 9 (by decide)⟩, f 0 5 (by decide), ⟨k 10 (by decide), f 10 2 (by decide), k 11 (by decide), f 10 4 (by decide), k 12 (by decide)⟩⟩
end CV
