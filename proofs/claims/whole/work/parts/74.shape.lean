/-! The shape of the class's memory. x: the PlugBoard; fixed blocks up to x + 73, later ones from x + 74 on. -/
def SX (K : HK) (pr : HP) (x : Nat) : Prop := K x = some (.inr 10) ∧ pr x 0 = some (x + 1) ∧ pr x 1 = some (x + 16) ∧ pr x 2 = some (x + 29) ∧ pr x 3 = some (x + 32) ∧ pr x 4 = some (x + 45) ∧ pr x 5 = some (x + 48) ∧ pr x 6 = some (x + 3) ∧ pr x 7 = some (x + 5) ∧ pr x 8 = some (x + 6) ∧ K (x + 3) = some (.inr 4) ∧ pr (x + 3) 0 = some (x + 4) ∧ K (x + 4) = some (.inl (4, 8)) ∧ K (x + 5) = some (.inl (4, 3)) ∧ K (x + 6) = some (.inl (5, 3)) ∧ K (x + 73) = some (.inl (3, 1))
def Mk (K : HK) (pr : HP) (m b : Nat) : Prop := K m = some (.inr 1) ∧ pr m 0 = some b ∧ pr m 1 = some (b + 3) ∧ pr m 2 = some (m + 1) ∧ K (m + 1) = some (.inl (0, 73)) ∧ pr m 6 = some (m + 2) ∧ K (m + 2) = some (.inl (0, 48))
def PlK (K : HK) (pr : HP) (a : Nat) : Prop := K a = some (.inr 5) ∧ pr a 2 = some (a + 1) ∧ K (a + 1) = some (.inl (0, 12)) ∧ pr a 3 = some (a + 2) ∧ K (a + 2) = some (.inl (0, 12)) ∧ pr a 5 = some (a + 3) ∧ K (a + 3) = some (.inl (0, 12))
def SB (K : HK) (pr : HP) (pt : Nat → Nat) : Prop := (∀ a, K a = some (.inr 0) → OkBoard K pr pt a (pt a)) ∧ (∀ a, K a = some (.inr 2) → OkPaper K pr a)
def SP (K : HK) (x : Nat) : Prop := (∀ a, K a = some (.inr 3) → a = x + 7 ∨ x + 74 ≤ a) ∧ (∀ a, K a = some (.inr 0) → a = x + 16 ∨ a = x + 32 ∨ x + 74 ≤ a) ∧ (∀ a, K a = some (.inr 2) → a = x + 1 ∨ x + 74 ≤ a)
def DB (rr : HP) (x s : Nat) : Option Nat := if s < 8 then rr (x + 4) s else rr (x + 5) (s - 8)
def RRs (K : HK) (rr : HP) (x : Nat) : Prop := (∀ s a, s < 11 → DB rr x s = some a → K a = some (.inr 0) ∧ x + 74 ≤ a) ∧ (∀ s s1 a, s < 11 → s1 < 11 → DB rr x s = some a → DB rr x s1 = some a → s = s1) ∧ (∀ k a, k < 3 → rr (x + 6) k = some a → K a = some (.inr 2) ∧ x + 74 ≤ a) ∧ (∀ k k1 a, k < 3 → k1 < 3 → rr (x + 6) k = some a → rr (x + 6) k1 = some a → k = k1) ∧ ∀ k, k < 3 → (rr (x + 5) k = none ↔ rr (x + 6) k = none)
def OkRef (K : HK) (pr : HP) (mo : Nat) : Prop := Lay K mo mo_K ∧ ∀ k, k < 37 → ∀ j, (hFT.getD 11 [])[k]? = some 2 → mo_P mo 0 k = some j → pr mo k = some j
def HS (K : HK) (pr : HP) (pt : Nat → Nat) (rr : HP) (n x : Nat) : Prop := SX K pr x ∧ (Mk K pr (x + 29) (x + 16) ∧ Mk K pr (x + 45) (x + 32)) ∧ (PlK K pr (x + 48) ∧ OkParts K pr (pt (x + 48))) ∧ OkRef K pr (x + 52) ∧ (K (x + 16) = some (.inr 0) ∧ K (x + 32) = some (.inr 0) ∧ K (x + 1) = some (.inr 2)) ∧ SB K pr pt ∧ SP K x ∧ ((∀ a, n ≤ a → K a = none) ∧ x + 74 ≤ n) ∧ RRs K rr x
def KX (K : HK) (pr : HP) (K1 : HK) (pr1 : HP) : Prop := ∀ q, K q ≠ none → K1 q = K q ∧ pr1 q = pr q
section SH
variable {K K1 : HK} {pr pr1 : HP} {pt pt1 : Nat → Nat} {rr rr1 : HP} {n n1 x a b m p q : Nat}
theorem KX.k {v : (Nat × Nat) ⊕ Nat} (h : KX K pr K1 pr1) (hk : K q = some v) : K1 q = some v := by rw [(h q (by rw [hk]; simp)).1, hk]
theorem KX.pp {v : (Nat × Nat) ⊕ Nat} {k j : Nat} (h : KX K pr K1 pr1) (hk : K q = some v) (hp : pr q k = some j) : pr1 q k = some j := by rw [(h q (by rw [hk]; simp)).2, hp]
theorem OkParts.kx (h : OkParts K pr p) (e : KX K pr K1 pr1) : OkParts K1 pr1 p := by
  have k0 := h.k0
  exact ⟨e.k k0, e.pp k0 h.p1, e.k h.k1, e.pp k0 h.p2, e.k h.k2, e.pp k0 h.p3, e.k h.k3, e.pp k0 h.p4, e.k h.k4, e.pp k0 h.p5, e.k h.k5, e.pp k0 h.p6, e.k h.k6, e.pp k0 h.p7, e.k h.k7, e.pp k0 h.p8, e.k h.k8⟩
theorem OkThings.kx (h : OkThings K pr p) (e : KX K pr K1 pr1) : OkThings K1 pr1 p := by
  have k0 := h.k0
  exact ⟨e.k k0, e.pp k0 h.p1, e.k h.k1, e.pp k0 h.p2, e.k h.k2, e.pp k0 h.p3, e.k h.k3, e.pp k0 h.p4, e.k h.k4, e.pp k0 h.p5, e.k h.k5, e.pp k0 h.p6, e.k h.k6⟩
theorem OkTold.kx (h : OkTold K pr p) (e : KX K pr K1 pr1) : OkTold K1 pr1 p := by
  have k0 := h.k0
  exact ⟨e.k k0, e.pp k0 h.p2, e.k h.k1, e.pp k0 h.p4, e.k h.k2⟩
theorem OkPaper.kx (h : OkPaper K pr p) (e : KX K pr K1 pr1) : OkPaper K1 pr1 p := ⟨e.k h.k0, e.pp h.k0 h.p0, e.k h.k1⟩
theorem OkBoard.kx (h : OkBoard K pr pt b p) (e : KX K pr K1 pr1) (ht : pt1 b = pt b) : OkBoard K1 pr1 pt1 b p := by
  have k0 := h.k0
  exact ⟨e.k k0, by rw [ht]; exact h.2.1, h.o0.kx e, e.pp k0 h.p2, e.k h.k1, e.pp k0 h.p3, e.k h.k2, e.pp k0 h.p4, h.o4.kx e, e.pp k0 h.p5, h.o5.kx e⟩
theorem Mk.kx (h : Mk K pr m b) (e : KX K pr K1 pr1) : Mk K1 pr1 m b := by
  obtain ⟨k0, h1, h2, h3, h4, h5, h6⟩ := h
  exact ⟨e.k k0, e.pp k0 h1, e.pp k0 h2, e.pp k0 h3, e.k h4, e.pp k0 h5, e.k h6⟩
theorem PlK.kx (h : PlK K pr a) (e : KX K pr K1 pr1) : PlK K1 pr1 a := by
  obtain ⟨k0, h1, h2, h3, h4, h5, h6⟩ := h
  exact ⟨e.k k0, e.pp k0 h1, e.k h2, e.pp k0 h3, e.k h4, e.pp k0 h5, e.k h6⟩
theorem SX.kx (h : SX K pr x) (e : KX K pr K1 pr1) : SX K1 pr1 x := by
  obtain ⟨k0, h1, h2, h3, h4, h5, h6, h7, h8, h9, k3, h10, k4, k5, k6, k7⟩ := h
  exact ⟨e.k k0, e.pp k0 h1, e.pp k0 h2, e.pp k0 h3, e.pp k0 h4, e.pp k0 h5, e.pp k0 h6, e.pp k0 h7, e.pp k0 h8, e.pp k0 h9, e.k k3, e.pp k3 h10, e.k k4, e.k k5, e.k k6, e.k k7⟩
theorem OkRef.kx (h : OkRef K pr m) (e : KX K pr K1 pr1) : OkRef K1 pr1 m := by
  refine ⟨fun d hd => ?_, fun k hk j g1 g2 => ?_⟩
  · have := h.1 d hd
    rw [List.getElem?_eq_getElem hd] at this ⊢
    exact e.k this
  · have k0 := h.1 0 (by decide)
    exact e.pp (show K m = some (.inr 11) from k0) (h.2 k hk j g1 g2)
theorem Mk.ok (h : Mk K pr m b) (hb : OkBoard K pr pt b p) : OkMaker K pr pt m b p := ⟨h.1, h.2.1, hb, h.2.2.1, hb.o4, h.2.2.2.1, h.2.2.2.2.1, h.2.2.2.2.2.1, h.2.2.2.2.2.2⟩
theorem PlK.ok (h : PlK K pr a) (hp : OkParts K pr (pt a)) : OkPlan K pr pt a (pt a) := ⟨h.1, rfl, hp, h.2⟩
theorem SB.ptset (h : SB K pr pt) (hq : OkParts K pr q) : SB K pr (upt pt b q) := by
  refine ⟨fun a ha => ?_, h.2⟩
  by_cases e : a = b
  · subst e
    rw [upt_eq]
    exact (h.1 a ha).ptset hq
  · rw [upt_ne e]
    exact (h.1 a ha).ptne (Ne.symm e)
theorem HS.ptset (h : HS K pr pt rr n x) (hq : OkParts K pr q) : HS K pr (upt pt b q) rr n x := by
  obtain ⟨h1, h2, ⟨h3, h4⟩, h5, h6, h7, h8⟩ := h
  refine ⟨h1, h2, ⟨h3, ?_⟩, h5, h6, h7.ptset hq, h8⟩
  by_cases e : x + 48 = b
  · rw [e, upt_eq]; exact hq
  · rw [upt_ne e]; exact h4
theorem HS.board (h : HS K pr pt rr n x) (ha : K a = some (.inr 0)) : OkBoard K pr pt a (pt a) := h.2.2.2.2.2.1.1 a ha
theorem HS.paper (h : HS K pr pt rr n x) (ha : K a = some (.inr 2)) : OkPaper K pr a := h.2.2.2.2.2.1.2 a ha
theorem HS.b0 (h : HS K pr pt rr n x) : OkBoard K pr pt (x + 16) (pt (x + 16)) := h.board h.2.2.2.2.1.1
theorem HS.b1 (h : HS K pr pt rr n x) : OkBoard K pr pt (x + 32) (pt (x + 32)) := h.board h.2.2.2.2.1.2.1
theorem HS.pap (h : HS K pr pt rr n x) : OkPaper K pr (x + 1) := h.paper h.2.2.2.2.1.2.2
theorem HS.m0 (h : HS K pr pt rr n x) : OkMaker K pr pt (x + 29) (x + 16) (pt (x + 16)) := h.2.1.1.ok h.b0
theorem HS.m1 (h : HS K pr pt rr n x) : OkMaker K pr pt (x + 45) (x + 32) (pt (x + 32)) := h.2.1.2.ok h.b1
theorem HS.plan (h : HS K pr pt rr n x) : OkPlan K pr pt (x + 48) (pt (x + 48)) := h.2.2.1.1.ok h.2.2.1.2
theorem HS.ptsAt (h : HS K pr pt rr n x) (hp : OkParts K pr p) : p = x + 7 ∨ x + 74 ≤ p := h.2.2.2.2.2.2.1.1 p hp.k0
theorem HS.boAt (h : HS K pr pt rr n x) (hb : K b = some (.inr 0)) : b = x + 16 ∨ b = x + 32 ∨ x + 74 ≤ b := h.2.2.2.2.2.2.1.2.1 b hb
theorem HS.paAt (h : HS K pr pt rr n x) (hb : K b = some (.inr 2)) : b = x + 1 ∨ x + 74 ≤ b := h.2.2.2.2.2.2.1.2.2 b hb
theorem HS.lt {v : (Nat × Nat) ⊕ Nat} (h : HS K pr pt rr n x) (hk : K q = some v) : q < n := by
  rcases Nat.lt_or_ge q n with e | e
  · exact e
  · rw [h.2.2.2.2.2.2.2.1.1 q e] at hk; cases hk
theorem HS.n0 (h : HS K pr pt rr n x) : x + 74 ≤ n := h.2.2.2.2.2.2.2.1.2
theorem HS.kx0 (h : HS K pr pt rr n x) (hK : ∀ q, q < n → K1 q = K q ∧ pr1 q = pr q) : KX K pr K1 pr1 := by
  intro q hq
  cases e : K q with
  | none => exact absurd e hq
  | some v => have := hK q (h.lt e); rw [← e]; exact this
theorem HS.rrs (h : HS K pr pt rr n x) : RRs K rr x := h.2.2.2.2.2.2.2.2
/-- new cells: a board, a paper, or a reader with its parts -/
theorem HS.grow (h : HS K pr pt rr n x) (hn : n ≤ n1) (hK : ∀ q, q < n → K1 q = K q ∧ pr1 q = pr q ∧ pt1 q = pt q) (hz : ∀ a, n1 ≤ a → K1 a = none) (hbo : ∀ a, n ≤ a → K1 a = some (.inr 0) → OkBoard K1 pr1 pt1 a (pt1 a)) (hpa : ∀ a, n ≤ a → K1 a = some (.inr 2) → OkPaper K1 pr1 a) (hrr : RRs K1 rr1 x) : HS K1 pr1 pt1 rr1 n1 x := by
  have e : KX K pr K1 pr1 := h.kx0 (fun q hq => ⟨(hK q hq).1, (hK q hq).2.1⟩)
  have hn0 := h.n0
  refine ⟨h.1.kx e, ⟨h.2.1.1.kx e, h.2.1.2.kx e⟩, ⟨h.2.2.1.1.kx e, ?_⟩, h.2.2.2.1.kx e, ⟨e.k h.2.2.2.2.1.1, e.k h.2.2.2.2.1.2.1, e.k h.2.2.2.2.1.2.2⟩, ⟨fun a ha => ?_, fun a ha => ?_⟩, ⟨fun a ha => ?_, fun a ha => ?_, fun a ha => ?_⟩, ⟨hz, by omega⟩, hrr⟩
  · rw [(hK (x + 48) (by omega)).2.2]; exact h.2.2.1.2.kx e
  · rcases Nat.lt_or_ge a n with g | g
    · obtain ⟨k1, k2, k3⟩ := hK a g
      rw [k3]
      exact (h.board (by rw [← k1]; exact ha)).kx e k3
    · exact hbo a g ha
  · rcases Nat.lt_or_ge a n with g | g
    · exact (h.paper (by rw [← (hK a g).1]; exact ha)).kx e
    · exact hpa a g ha
  · rcases Nat.lt_or_ge a n with g | g
    · exact h.2.2.2.2.2.2.1.1 a (by rw [← (hK a g).1]; exact ha)
    · right; omega
  · rcases Nat.lt_or_ge a n with g | g
    · exact h.2.2.2.2.2.2.1.2.1 a (by rw [← (hK a g).1]; exact ha)
    · right; right; omega
  · rcases Nat.lt_or_ge a n with g | g
    · exact h.2.2.2.2.2.2.1.2.2 a (by rw [← (hK a g).1]; exact ha)
    · right; omega
end SH
