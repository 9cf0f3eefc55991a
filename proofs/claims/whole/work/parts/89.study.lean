/-! Rows with the same parts tell the same; the plan is studied; start, loop, wave, deep of the class. -/
def PEq (Q A : Int → Int) : Prop := A 0 = Q 0 ∧ ∀ i, 0 ≤ i → i < Q 0 → pMany A i = pMany Q i ∧ (∀ k, pEg A i k = pEg Q i k) ∧ ∀ k, 0 ≤ k → k < pMany Q i → pNd A i k = pNd Q i k
theorem PEq.of {M : ZM} {p : Nat} {Q A : Int → Int} (h : RP M p Q) (h1 : RP M p A) : PEq Q A := by
  have e0 : A 0 = Q 0 := by rw [← h1.1, h.1]
  refine ⟨e0, fun i i0 i1 => ?_⟩
  obtain ⟨-, -, -, -, -, a6, a7, a8⟩ := h.2 i i0 i1
  obtain ⟨-, -, -, -, -, b6, b7, b8⟩ := h1.2 i i0 (by rw [e0]; exact i1)
  have em : pMany A i = pMany Q i := by
    unfold pMany
    rw [← b6, a6]
  refine ⟨em, fun k => ?_, fun k k0 k1 => ?_⟩
  · unfold pEg
    rw [← b7, a7]
  · have c1 := a8 k k0 k1
    have c2 := b8 k k0 (by unfold pMany at *; omega)
    unfold pNd
    rw [← c2, c1]
section PE
variable {Q A : Int → Int}
theorem allK_cong {f g : Int → Bool} : ∀ (n : Nat) (k : Int), (∀ i, k ≤ i → i < k + n → f i = g i) → allK f n k = allK g n k
  | 0, _, _ => rfl
  | n + 1, k, h => by
    unfold allK
    rw [h k (by omega) (by omega), allK_cong n (k + 1) (fun i a b => h i (by omega) (by omega))]
theorem PEq.rdy (h : PEq Q A) (hP : wfP Q) {wv : Int → Int} {i : Int} (hi : 0 ≤ i ∧ i < Q 0) : rdyB A wv i = rdyB Q wv i := by
  obtain ⟨h1, h2, h3⟩ := h.2 i hi.1 hi.2
  have hm := hP.mn hi
  unfold rdyB
  rw [h1]
  congr 1
  exact allK_cong _ _ (fun k k0 k1 => by rw [h2 k, h3 k k0 (by omega)])
theorem PEq.lst (h : PEq Q A) (hP : wfP Q) {wv : Int → Int} : ∀ (n : Nat) (i : Int), 0 ≤ i → i + n ≤ Q 0 → lstR A wv n i = lstR Q wv n i
  | 0, _, _, _ => rfl
  | n + 1, i, h0, h1 => by
    unfold lstR
    rw [h.rdy hP (by omega), PEq.lst h hP n (i + 1) (by omega) (by omega)]
theorem PEq.wav (h : PEq Q A) (hP : wfP Q) {wv : Int → Int} {i : Int} (hi : 0 ≤ i ∧ i < Q 0) : wavOf A wv i = wavOf Q wv i := by
  obtain ⟨h1, h2, h3⟩ := h.2 i hi.1 hi.2
  have hm := hP.mn hi
  have e : ∀ (n : Nat) (k a : Int), 0 ≤ k → k + n ≤ pMany Q i → wavK A wv i n k a = wavK Q wv i n k a := by
    intro n
    induction n with
    | zero => intro k a _ _; rfl
    | succ n ih =>
      intro k a k0 k1
      unfold wavK
      rw [h2 k, h3 k k0 (by omega), ih (k + 1) _ (by omega) (by omega)]
  unfold wavOf
  rw [h1]
  exact e _ 0 0 (by omega) (by omega)
theorem PEq.ord (h : PEq Q A) (hP : wfP Q) : ∀ (n : Nat) (s : List Int × (Int → Int)), ordS A n s = ordS Q n s
  | 0, _ => rfl
  | n + 1, s => by
    have hc := hP.1
    unfold ordS
    rw [h.1, h.lst hP _ 0 (by omega) (by omega)]
    by_cases q : lstR Q s.2 (Q 0).toNat 0 = -1
    · rw [if_pos q, if_pos q]
    · rw [if_neg q, if_neg q]
      rcases lstR_spec (Q := Q) (wv := s.2) (Q 0).toNat 0 (by omega) with ⟨a, -⟩ | ⟨a, b⟩
      · exact absurd a q
      · rw [h.wav hP (by omega), PEq.ord h hP n]
theorem PEq.orF (h : PEq Q A) (hP : wfP Q) : ordF A = ordF Q := h.ord hP 13 _
theorem PEq.caF (h : PEq Q A) (hP : wfP Q) : canF A = canF Q := by
  funext p
  unfold canF
  rw [h.orF hP]
theorem PEq.bnd (h : PEq Q A) (hP : wfP Q) {E E' : Int → Int → Bool} (hE : ∀ i k, 0 ≤ i → i < Q 0 → E' i k = E i k) {i j : Int} (hi : 0 ≤ i ∧ i < Q 0) : Bnd A E' i j ↔ Bnd Q E i j := by
  obtain ⟨h1, h2, h3⟩ := h.2 i hi.1 hi.2
  unfold Bnd
  rw [h1]
  constructor
  · rintro ⟨k, a, b, c, d⟩
    exact ⟨k, a, b, by rw [← hE i k hi.1 hi.2]; exact c, by rw [← h3 k a b]; exact d⟩
  · rintro ⟨k, a, b, c, d⟩
    exact ⟨k, a, b, by rw [hE i k hi.1 hi.2]; exact c, by rw [h3 k a b]; exact d⟩
theorem PEq.can (h : PEq Q A) (hP : wfP Q) {E E' : Int → Int → Bool} (hE : ∀ i k, 0 ≤ i → i < Q 0 → E' i k = E i k) {p : Int} : Can A E' p ↔ Can Q E p := by
  unfold Can
  constructor
  · intro g S hS
    refine g S (fun i i0 i1 hj => ?_)
    rw [h.1] at i1
    exact hS i i0 i1 (fun j hb => hj j ((h.bnd hP hE ⟨i0, i1⟩).mpr hb))
  · intro g S hS
    refine g S (fun i i0 i1 hj => ?_)
    exact hS i i0 (by rw [h.1]; exact i1) (fun j hb => hj j ((h.bnd hP hE ⟨i0, i1⟩).mp hb))
theorem stK_cong {E E1 : Int → Int → Bool} {can : Int → Bool} {q : Int} : ∀ (n : Nat) (k : Int), (∀ k', k ≤ k' → k' < k + n → E1 q k' = E q k' ∧ pNd A q k' = pNd Q q k') → stK A E1 can q n k = stK Q E can q n k
  | 0, _, _ => rfl
  | n + 1, k, h => by
    have ih := stK_cong (E := E) (E1 := E1) (can := can) (q := q) n (k + 1) (fun k' a b => h k' (by omega) (by omega))
    obtain ⟨h1, h2⟩ := h k (by omega) (by omega)
    rw [stK, stK, h1, h2, ih]
theorem PEq.stE (h : PEq Q A) (hP : wfP Q) {can : Int → Bool} {q : Int} (hq : 0 ≤ q ∧ q < Q 0) : stS A (pEg A) can q = stS Q (pEg Q) can q := by
  obtain ⟨h1, h2, h3⟩ := h.2 q hq.1 hq.2
  have hm := hP.mn hq
  have e := stK_cong (Q := Q) (A := A) (E := pEg Q) (E1 := pEg A) (can := can) (q := q) (pMany Q q).toNat 0 (fun k' a b => ⟨h2 k', h3 k' a (by omega)⟩)
  unfold stS
  rw [h1, e]
theorem PEq.nx1 (h : PEq Q A) {can : Int → Bool} {q k l : Int} (hq : 0 ≤ q ∧ q < Q 0) (k1 : 0 ≤ k ∧ k < pMany Q q) (hkl : l = k) (l5 : nxS A (pEg A) can q = pNd A q l) (k5 : nxS Q (pEg Q) can q = pNd Q q k) : nxS A (pEg A) can q = nxS Q (pEg Q) can q := by
  obtain ⟨h1, h2, h3⟩ := h.2 q hq.1 hq.2
  rw [l5, k5, hkl]
  exact h3 k k1.1 k1.2
theorem PEq.nx (h : PEq Q A) (hP : wfP Q) (hA : wfP A) {can : Int → Bool} (hIQ : IsC Q (pEg Q) can) (hIA : IsC A (pEg A) can) {q : Int} (hq : (0 ≤ q ∧ q < Q 0) ∧ can q = false) : nxS A (pEg A) can q = nxS Q (pEg Q) can q ∧ ((0 ≤ nxS Q (pEg Q) can q ∧ nxS Q (pEg Q) can q < Q 0) ∧ can (nxS Q (pEg Q) can q) = false) := by
  obtain ⟨k, k1, k2, k3, k4, k5, k6⟩ := stuck hP hIQ hq.1 hq.2
  have hqA : 0 ≤ q ∧ q < A 0 := by rw [h.1]; exact hq.1
  obtain ⟨l, l1, l2, l3, l4, l5, l6⟩ := stuck hA hIA hqA hq.2
  have hst := h.stE hP (can := can) hq.1
  have hkl : 4 * q + l = 4 * q + k := l2.symm.trans (hst.trans k2)
  have hkl2 : l = k := by
    clear hst l2 k2 k3 k4 k5 k6 l3 l4 l5 l6 hIQ hIA h hP hA
    omega
  refine ⟨h.nx1 hq.1 k1 hkl2 l5 k5, ?_, ?_⟩
  · rw [k5]; exact k6
  · rw [k5]; exact k4
theorem entS_cong {nx nx1 : Int → Int} {St : Int → Prop} (h : ∀ q, St q → nx1 q = nx q ∧ St (nx q)) : ∀ (n : Nat) (met : List Int) (q : Int), St q → entS nx1 n met q = entS nx n met q
  | 0, _, _, _ => rfl
  | n + 1, met, q, hq => by
    unfold entS
    rw [(h q hq).1, entS_cong h n _ _ (h q hq).2]
theorem lpS_cong {nx nx1 : Int → Int} {St : Int → Prop} (h : ∀ q, St q → nx1 q = nx q ∧ St (nx q)) (f : Int) : ∀ (n : Nat) (q : Int), St q → lpS nx1 f n q = lpS nx f n q
  | 0, _, _ => rfl
  | n + 1, q, hq => by
    unfold lpS
    rw [(h q hq).1, lpS_cong h f n _ (h q hq).2]
theorem PEq.loG (h : PEq Q A) (hP : wfP Q) (hA : wfP A) {can : Int → Bool} (hIQ : IsC Q (pEg Q) can) (hIA : IsC A (pEg A) can) : loopG A (pEg A) can = loopG Q (pEg Q) can := by
  have hc := hP.1
  have hst : ∀ q, ((0 ≤ q ∧ q < Q 0) ∧ can q = false) → nxS A (pEg A) can q = nxS Q (pEg Q) can q ∧ ((0 ≤ nxS Q (pEg Q) can q ∧ nxS Q (pEg Q) can q < Q 0) ∧ can (nxS Q (pEg Q) can q) = false) := fun q hq => h.nx hP hA hIQ hIA hq
  have hn : ∀ (m : Nat), (if lsS can (Q 0).toNat 0 = -1 then [] else lpS (nxS A (pEg A) can) (entS (nxS A (pEg A) can) m [] (lsS can (Q 0).toNat 0)) m (entS (nxS A (pEg A) can) m [] (lsS can (Q 0).toNat 0))) = if lsS can (Q 0).toNat 0 = -1 then [] else lpS (nxS A (pEg A) can) (entS (nxS Q (pEg Q) can) m [] (lsS can (Q 0).toNat 0)) m (entS (nxS Q (pEg Q) can) m [] (lsS can (Q 0).toNat 0)) := by
    intro m
    by_cases q : lsS can (Q 0).toNat 0 = -1
    · rw [if_pos q, if_pos q]
    · rw [if_neg q, if_neg q]
      rcases lsS_spec (can := can) (Q 0).toNat 0 (by omega) with ⟨b1, b2⟩ | ⟨b1, b2⟩
      · exact absurd b1 q
      · rw [entS_cong hst m [] _ ⟨by omega, b2⟩]
  have hl : ∀ (m : Nat) (e : Int), ((0 ≤ e ∧ e < Q 0) ∧ can e = false) → lpS (nxS A (pEg A) can) e m e = lpS (nxS Q (pEg Q) can) e m e := fun m e he => lpS_cong hst e m e he
  have h13 := hn 13
  by_cases q : lsS can (Q 0).toNat 0 = -1
  · rw [if_pos q, if_pos q] at h13
    have e1 : loopG A (pEg A) can = [] := by unfold loopG; rw [h.1, if_pos q]
    have e2 : loopG Q (pEg Q) can = [] := by unfold loopG; rw [if_pos q]
    rw [e1, e2]
  · rw [if_neg q, if_neg q] at h13
    have e1 : loopG A (pEg A) can = lpS (nxS A (pEg A) can) (entS (nxS A (pEg A) can) 13 [] (lsS can (Q 0).toNat 0)) 13 (entS (nxS A (pEg A) can) 13 [] (lsS can (Q 0).toNat 0)) := by unfold loopG; rw [h.1, if_neg q]
    have e2 : loopG Q (pEg Q) can = lpS (nxS Q (pEg Q) can) (entS (nxS Q (pEg Q) can) 13 [] (lsS can (Q 0).toNat 0)) 13 (entS (nxS Q (pEg Q) can) 13 [] (lsS can (Q 0).toNat 0)) := by unfold loopG; rw [if_neg q]
    have hlp := (hIQ.lp hP q).1
    generalize entS (nxS Q (pEg Q) can) 13 [] (lsS can (Q 0).toNat 0) = e at *
    rw [e1, e2, h13]
    exact hl 13 e hlp
theorem PEq.loF (h : PEq Q A) (hP : wfP Q) (hA : wfP A) : loopF A = loopF Q := by
  have hIQ := canF_IsC hP
  have hIA := canF_IsC hA
  have hcf := h.caF hP
  rw [hcf] at hIA
  unfold loopF
  rw [hcf]
  exact h.loG hP hA hIQ hIA
theorem PEq.slot (h : PEq Q A) {s : Int} : slotE A s ↔ slotE Q s := by
  unfold slotE
  rw [h.1]
  refine and_congr_right (fun s0 => and_congr_right (fun s1 => ?_))
  obtain ⟨h1, h2, h3⟩ := h.2 (s / 4) (by omega) s1
  rw [h1, h2]
theorem PEq.gd (h : PEq Q A) (hP : wfP Q) {xs : List Int} : gdX A xs ↔ gdX Q xs := by
  unfold gdX okX
  rw [h.1]
  have hE : ∀ i k, 0 ≤ i → i < Q 0 → exX A xs i k = exX Q xs i k := fun i k i0 i1 => by
    unfold exX
    rw [(h.2 i i0 i1).2.1 k]
  constructor
  · rintro ⟨a, b, c, d⟩
    exact ⟨a, fun s hs => h.slot.mp (b s hs), c, fun p p0 p1 => (h.can hP hE).mp (d p p0 p1)⟩
  · rintro ⟨a, b, c, d⟩
    exact ⟨a, fun s hs => h.slot.mpr (b s hs), c, fun p p0 p1 => (h.can hP hE).mpr (d p p0 p1)⟩
theorem PEq.loos (h : PEq Q A) (hP : wfP Q) {xs : List Int} : LooS A xs ↔ LooS Q xs := by
  unfold LooS
  rw [h.gd hP]
  refine and_congr_right (fun _ => ⟨fun g ys hy => g ys ((h.gd hP).mpr hy), fun g ys hy => g ys ((h.gd hP).mp hy)⟩)
theorem PEq.looc (h : PEq Q A) (hP : wfP Q) {f : Int} {L : Int64} (hl : LooC Q f L) : LooC A f L := by
  rcases hl with ⟨a, b⟩ | ⟨xs, a, b⟩
  · exact Or.inl ⟨a, fun ys hy => b ys ((h.gd hP).mp hy)⟩
  · exact Or.inr ⟨xs, (h.loos hP).mpr a, b⟩
theorem PEq.pls (h : PEq Q A) (hP : wfP Q) (hA : wfP A) {M : ZM} {lg : Nat → Nat → Int64} {a : Nat} (hl : PlS M lg a Q) : PlS M lg a A := by
  obtain ⟨p1, p2, p3, p4, p5, p6⟩ := hl
  unfold PlS
  rw [h.orF hP, h.loF hP hA, h.1]
  exact ⟨p1, p2, p3, p4, p5, p6.imp id (fun g => h.looc hP g)⟩
end PE
section ST
variable {B : Int} {x : Nat} {K : HK} {pr : HP} {pt pt1 : Nat → Nat} {rr : HP} {n : Nat} {M M1 : ZM} {lg lg1 : Nat → Nat → Int64} {A T : Int → Int} {U : List (Int → Int)} {I : IMG} {F : Nat}
theorem CI.setPl (h : CI B x K pr pt rr n M lg A T U I) (hs : HS K pr pt1 rr n x) (hpt : ∀ b, b ≠ x + 48 → pt1 b = pt b) (hM : ∀ j, (j < x + 48 ∨ x + 52 ≤ j) → M1 j = M j) (hP : PlR M1 lg1 (x + 48) (pt1 (x + 48))) : CI B x K pr pt1 rr n M1 lg1 A T U I := by
  obtain ⟨h1, ⟨h2, h3⟩, ⟨h4, h5⟩, ⟨p1, p2, p3, p4⟩, h7, h8⟩ := h
  have bo : ∀ b C, K b = some (.inr 0) → RB M b (pt b) C → RB M1 b (pt1 b) C := fun b C hb hR => by
    have e1 := h1.boAt hb
    have e2 := h1.ptsAt (h1.board hb).o0
    rw [hpt b (by omega)]
    exact hR.memM (fun j _ _ => hM j (by omega)) (fun j _ _ => hM j (by omega))
  have e3 : M1 (x + 3) = M (x + 3) := hM _ (by omega)
  refine ⟨hs, ⟨bo _ _ h1.b0.k0 h2, h3⟩, ⟨h4.fr ⟨hM _ (by omega), hM _ (by omega)⟩, h5⟩, ⟨by rw [e3]; exact p1, p2, by rw [e3]; exact p3, fun j C hj => ?_⟩, fun k hk => ⟨(h7 k hk).1, fun C S hC => ?_⟩, hP⟩
  · obtain ⟨g1, a, g2, g3⟩ := p4 j C hj
    rw [e3]
    exact ⟨g1, a, g2, bo a C (h1.slot (slN_lt _ _ _) g2).1 g3⟩
  · obtain ⟨g1, g2, a, c, g3, g4, g5, g6⟩ := (h7 k hk).2 C S hC
    have := (h1.pslot hk g4).2
    exact ⟨g1, g2, a, c, g3, g4, bo a C (h1.islot hk g3).1 g5, g6.fr ⟨hM _ (by omega), hM _ (by omega)⟩⟩
theorem up2_6 (M : ZM) (j : Nat) (v : Int) : up2 (LI M) j 6 (zt v) = LI (uM M j 6 v) := up2_z M j 6 v
/-- what study leaves: the plan tells of the board's own parts -/
def Std (x : Nat) (K : HK) (pr : HP) (pt : Nat → Nat) (M : ZM) (lg : Nat → Nat → Int64) (A : Int → Int) : Prop := PlS M lg (x + 48) A ∧ pt (x + 48) = pt (x + 16)
theorem v_study (hF : 1000 < F) (h : CI B x K pr pt rr n M lg A T U I) : ∃ pt1 M1, f_X5_study F (x + 48) (pt (x + 16)) n (hp K pr pt rr (LI M) lg) = some (n, hp K pr pt1 rr (LI M1) lg) ∧ CI B x K pr pt1 rr n M1 lg A T U I ∧ Std x K pr pt1 M1 lg A ∧ Rest x M M1 lg lg := by
  have hs := h.1
  have hA := h.2.1.2.1.1
  unfold f_X5_study
  rw [v_gP hs.plan.k0 rfl]
  by_cases q : pt (x + 16) = pt (x + 48)
  · rw [if_pos q]
    obtain ⟨Q, q1, q2, q3⟩ := h.2.2.2.2.2
    refine ⟨pt, M, rfl, h, ⟨?_, q.symm⟩, Rest.refl _ _ _⟩
    rw [← q] at q1
    exact (PEq.of q1 h.2.1.1.1).pls q2 hA q3
  · rw [if_neg q, v_pP hs.plan.k0 rfl hu5, v_pI hs.plan.k0 rfl, show (-3 : Int32) = zt (-3) from rfl, up2_6]
    have hs1 := hs.ptset (b := x + 48) hs.b0.o0
    have ept : upt pt (x + 48) (pt (x + 16)) (x + 48) = pt (x + 16) := upt_eq _ _ _
    have hpl := hs1.plan
    rw [ept] at hpl
    have hpa := hs.ptsAt hs.b0.o0
    have hM2 : ∀ j, j ≠ x + 48 → uM M (x + 48) 6 (-3) j = M j := fun j hj => by funext e; exact uM_ne hj
    have hR2 : RP (uM M (x + 48) 6 (-3)) (pt (x + 16)) A := h.2.1.1.1.frP (fun j g1 g2 => hM2 j (by omega))
    obtain ⟨M3, a1, a2, a3, a4⟩ := y_findStart (F := F) (lg := lg) (a := x + 48) hF hA hR2 (by omega)
    have hR3 : RP M3 (pt (x + 16)) A := hR2.frP (fun j g1 g2 => a4 j (by omega))
    obtain ⟨M4, b1, b2, b3, b4⟩ := y_findLoop (F := F) (lg := lg) (a := x + 48) hF hA hR3 (by omega)
    rw [v_cvU hs.plan.k0 (r_eU (e_X5_findStart hpl) a1), v_cvU hs.plan.k0 (r_eU (e_X5_findLoop hpl) b1)]
    have hM4 : ∀ j, (j < x + 48 ∨ x + 52 ≤ j) → M4 j = M j := fun j hj => by rw [b4 j (by omega) (by omega), a4 j (by omega), hM2 j (by omega)]
    have hPl : PlS M4 lg (x + 48) A := by
      refine ⟨?_, fun i y hy => ?_, fun p p0 p1 => ?_, b2.1, b2.2, Or.inl ?_⟩
      · rw [b3 1 (by omega)]; exact a2.1
      · rw [b4 (x + 48 + 1) (by omega) (by omega)]; exact a2.2.1 i y hy
      · rw [b4 (x + 48 + 2) (by omega) (by omega)]; exact a2.2.2 p p0 (by have := hA.1; omega)
      · rw [b3 6 (by omega), a3 6 (by omega), uM_eq]
    refine ⟨_, M4, rfl, h.setPl hs1 (fun b hb => upt_ne hb) hM4 ⟨A, ?_, hA, hPl⟩, ⟨hPl, ?_⟩, fun j g1 g2 => hM4 j (by omega), rfl⟩
    · rw [ept]
      exact h.2.1.1.1.frP (fun j g1 g2 => hM4 j (by omega))
    · rw [ept, upt_ne (by omega)]
def pickS (l : List Int) (k : Int) : Int := if k = -1 then l.length else if 0 ≤ k ∧ k < l.length then (l[k.toNat]?).getD (-1) else -1
theorem v_pick {l : List Int} {q : Nat} {k : Int} (hk : -2147483648 ≤ k ∧ k < 2147483648) (hK : K q = some (.inl (0, 12))) (hl : l.length ≤ 12) (hM : ∀ (i : Nat) (y : Int), l[i]? = some y → M q i = y) : f_X10_pick F q (zt l.length) (zt k) (hp K pr pt rr (LI M) lg) = some (zt (pickS l k)) := by
  unfold f_X10_pick pickS
  simp (disch := omega) only [zt_lit, zt_neg, zt_eq, zt_lt, zt_le]
  by_cases c1 : k = -1
  · rw [if_pos c1, if_pos c1]
  · rw [if_neg c1, if_neg c1]
    by_cases c2 : k < 0
    · rw [if_pos c2, if_neg (by omega)]
    · rw [if_neg c2]
      by_cases c3 : (l.length : Int) ≤ k
      · rw [if_pos c3, if_neg (by omega)]
      · rw [if_neg c3, if_pos (by omega), v_aL hK (by decide), zt_ofNat]
        simp (disch := omega) only [zt_le]
        rw [if_neg (by omega), v_aIz hK (by decide) (by omega) (by decide)]
        have hx : l[k.toNat]? = some l[k.toNat] := List.getElem?_eq_getElem (by omega)
        have := hM k.toNat _ hx
        rw [show ((k.toNat : Nat) : Int) = k by omega] at this
        rw [this, hx]
        rfl
theorem v_start {k : Int} (hF : 1000 < F) (hk : -2147483648 ≤ k ∧ k < 2147483648) (h : CI B x K pr pt rr n M lg A T U I) : StC B x M lg A T U I (pickS (ordF A).1 k) (f_X10_start F x (zt k) n (hp K pr pt rr (LI M) lg)) := by
  have hs := h.1
  have hA := h.2.1.2.1.1
  have hc := hA.1
  obtain ⟨pt1, M1, a1, a2, a3, a4⟩ := v_study hF h
  have hs1 := a2.1
  have hl := (ordF_ok hA).1.len hA
  unfold f_X10_start
  rw [v_gR hs.o10 rfl hs.r5, v_gR hs.o10 rfl hs.r1, v_gP hs.b0.k0 rfl, v_cvU hs.plan.k0 a1, v_gR hs1.o10 rfl hs1.r5, v_gR hs1.plan.k0 rfl hs1.plan.p2, v_gR hs1.o10 rfl hs1.r5, v_gI hs1.plan.k0 rfl, LI_1, a3.1.1, v_pick hk hs1.plan.k1 (by omega) a3.1.2.1]
  exact ⟨_, _, _, _, _, _, _, rfl, a2, a4⟩
theorem loopF_len (hA : wfP A) : (loopF A).length ≤ 12 := by
  have hc := hA.1
  by_cases q : lsS (canF A) (A 0).toNat 0 = -1
  · unfold loopF loopG
    rw [if_pos q]
    simp
  · have := ((canF_IsC hA).lp hA q).2.2
    have e : loopF A = loopG A (pEg A) (canF A) := rfl
    rw [e]
    omega
theorem v_loop {k : Int} (hF : 1000 < F) (hk : -2147483648 ≤ k ∧ k < 2147483648) (h : CI B x K pr pt rr n M lg A T U I) : StC B x M lg A T U I (pickS (loopF A) k) (f_X10_loop F x (zt k) n (hp K pr pt rr (LI M) lg)) := by
  have hs := h.1
  have hA := h.2.1.2.1.1
  obtain ⟨pt1, M1, a1, a2, a3, a4⟩ := v_study hF h
  have hs1 := a2.1
  unfold f_X10_loop
  rw [v_gR hs.o10 rfl hs.r5, v_gR hs.o10 rfl hs.r1, v_gP hs.b0.k0 rfl, v_cvU hs.plan.k0 a1, v_gR hs1.o10 rfl hs1.r5, v_gR hs1.plan.k0 rfl hs1.plan.p5, v_gR hs1.o10 rfl hs1.r5, v_gI hs1.plan.k0 rfl, LI_4, a3.1.2.2.2.1, v_pick hk hs1.plan.k3 (loopF_len hA) a3.1.2.2.2.2.1]
  exact ⟨_, _, _, _, _, _, _, rfl, a2, a4⟩
theorem v_wave {p : Int} (hF : 1000 < F) (hp0 : -2147483648 ≤ p ∧ p < 2147483648) (h : CI B x K pr pt rr n M lg A T U I) : StC B x M lg A T U I (if 0 ≤ p ∧ p < A 0 then (ordF A).2 p else -1) (f_X10_wave F x (zt p) n (hp K pr pt rr (LI M) lg)) := by
  have hs := h.1
  have hg := h.2.1.2.rng
  have h0 : M (pt (x + 16)) 0 = A 0 := h.2.1.1.1.1
  unfold f_X10_wave
  rw [v_gR hs.o10 rfl hs.r1, v_gP hs.b0.k0 rfl, v_cvP hs.b0.o0.k0 ((e_X3_holds hs.b0.o0).trans (y_holds3 hp0 (by omega))), h0]
  by_cases c1 : 0 ≤ p ∧ p < A 0
  · rw [if_pos c1, if_pos c1, if_neg zz1]
    obtain ⟨pt1, M1, a1, a2, a3, a4⟩ := v_study hF h
    have hs1 := a2.1
    rw [v_gR hs.o10 rfl hs.r5, v_gR hs.o10 rfl hs.r1, v_gP hs.b0.k0 rfl, v_cvU hs.plan.k0 a1, v_gR hs1.o10 rfl hs1.r5, v_gR hs1.plan.k0 rfl hs1.plan.p3, v_aIz hs1.plan.k2 (by decide) (by omega) (by decide), a3.1.2.2.1 p c1.1 c1.2]
    exact ⟨_, _, _, _, _, _, _, rfl, a2, a4⟩
  · rw [if_neg c1, if_neg c1, if_pos zz0]; exact h.same rfl
def mxW (wv : Int → Int) : Nat → Int → Int → Int
  | 0, _, a => a
  | n + 1, i, a => mxW wv n (i + 1) (if a < wv i + 1 then wv i + 1 else a)
def dpS (Q : Int → Int) : Int := if ((ordF Q).1.length : Int) = Q 0 then mxW (ordF Q).2 (Q 0).toNat 0 0 else -1
theorem loopF_nil (hA : wfP A) : loopF A = [] ↔ ((ordF A).1.length : Int) = A 0 := by
  have hc := hA.1
  rw [ord_all hA]
  have hI := canF_IsC hA
  rcases lsS_spec (can := canF A) (A 0).toNat 0 (by omega) with ⟨b1, b2⟩ | ⟨b1, b2⟩
  · unfold loopF loopG
    rw [if_pos b1]
    exact ⟨fun _ p p0 p1 => (hI p p0 p1).mp (b2 p p0 (by omega)), fun _ => rfl⟩
  · have hne : lsS (canF A) (A 0).toNat 0 ≠ -1 := by omega
    constructor
    · intro g
      exfalso
      unfold loopF loopG at g
      rw [if_neg hne, lpS] at g
      split at g <;> cases g
    · intro g
      exfalso
      have := (hI _ b1.1 (by omega)).mpr (g _ b1.1 (by omega))
      rw [b2] at this
      cases this
theorem v_deep (hF : 1000 < F) (h : CI B x K pr pt rr n M lg A T U I) : StC B x M lg A T U I (dpS A) (f_X10_deep F x n (hp K pr pt rr (LI M) lg)) := by
  have hs := h.1
  have hA := h.2.1.2.1.1
  have hc := hA.1
  obtain ⟨pt1, M1, a1, a2, a3, a4⟩ := v_study hF h
  have hs1 := a2.1
  have hR : RP M1 (pt1 (x + 48)) A := by rw [a3.2]; exact a2.2.1.1.1
  have hO := (ordF_ok hA).1
  have hln := hO.len hA
  have key : ∀ (m : Nat) (i acc : Int) (G : Nat), i + m = A 0 → 0 ≤ i → -1 ≤ acc → acc ≤ 100 → m < G → fixN (fun _ _ => none) (pb_X5_longestRow_13 F (pt1 (x + 48)) (x + 48) (LI M1) lg) G (zt acc) (zt i) = some (zt (mxW (ordF A).2 m i acc)) := by
    intro m
    induction m with
    | zero =>
      intro i acc G g1 g2 g3 g4 hG
      obtain ⟨g, rfl⟩ : ∃ g, G = g + 1 := ⟨G - 1, by omega⟩
      rw [fix_succ]
      unfold pb_X5_longestRow_13 mxW
      rw [LI_0, hR.1, if_pos (zle_pos (by omega) (by omega) (by omega))]
    | succ m ih =>
      intro i acc G g1 g2 g3 g4 hG
      obtain ⟨g, rfl⟩ : ∃ g, G = g + 1 := ⟨G - 1, by omega⟩
      rw [fix_succ]
      generalize hr : fixN (fun _ _ => none) (pb_X5_longestRow_13 F (pt1 (x + 48)) (x + 48) (LI M1) lg) g = r
      have hw := hO.2.2.1 i
      unfold pb_X5_longestRow_13 mxW
      rw [LI_0, hR.1, if_neg (zle_neg (by omega) (by omega) (by omega)), mI_z (by omega) (by omega) (by omega), ob_z, a3.1.2.2.1 i g2 (by omega)]
      simp (disch := omega) only [zt_lit, zt_add, zt_lt, gnm_z]
      rw [← hr]
      by_cases q : acc < (ordF A).2 i + 1
      · rw [if_pos q, if_pos q, ih (i + 1) _ g (by omega) (by omega) (by omega) (by omega) (by omega)]
      · rw [if_neg q, if_neg q, ih (i + 1) _ g (by omega) (by omega) (by omega) (by omega) (by omega)]
  have hlr : p_X5_longestRow F (pt1 (x + 48)) (x + 48) (LI M1) lg = some (zt (dpS A)) := by
    have hll := loopF_len hA
    unfold p_X5_longestRow dpS
    rw [LI_4, a3.1.2.2.2.1]
    simp (disch := omega) only [zt_lit, zt_neg, zt_le]
    by_cases q : ((ordF A).1.length : Int) = A 0
    · rw [if_pos q, (loopF_nil hA).mpr q, if_pos (by simp)]
      exact key (A 0).toNat 0 0 F (by omega) (by omega) (by omega) (by omega) (by omega)
    · rw [if_neg q, if_neg]
      intro e
      apply q
      rw [← loopF_nil hA]
      exact List.length_eq_zero_iff.mp (by omega)
  unfold f_X10_deep
  rw [v_gR hs.o10 rfl hs.r5, v_gR hs.o10 rfl hs.r1, v_gP hs.b0.k0 rfl, v_cvU hs.plan.k0 a1, v_gR hs1.o10 rfl hs1.r5, v_cvP hs1.plan.k0 ((e_X5_longestRow hs1.plan).trans hlr)]
  exact ⟨_, _, _, _, _, _, _, rfl, a2, a4⟩
end ST
