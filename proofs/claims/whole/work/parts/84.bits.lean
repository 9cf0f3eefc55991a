/-! Sets as bits. -/
def bt (x : Int32) (i : Int) : Bool := x.toBitVec.getLsbD i.toNat
def ib (i : Int) : Int32 := zt 1 <<< (zt i &&& zt 31)
theorem ib_fold (i : Int) : zt 1 <<< (zt i &&& zt 31) = ib i := rfl
theorem ib_tp0 : ∀ i : Nat, i < 32 → (ib (i : Int)).toBitVec = BitVec.twoPow 32 i := by decide +kernel
theorem ib_tp {i : Int} (h : 0 ≤ i ∧ i < 32) : (ib i).toBitVec = BitVec.twoPow 32 i.toNat := by
  have := ib_tp0 i.toNat (by omega)
  rw [show ((i.toNat : Nat) : Int) = i by omega] at this
  exact this
theorem bt_0 (j : Int) : bt (zt 0) j = false := by
  unfold bt
  simp [zt]
theorem bt_ib {i j : Int} (h : 0 ≤ i ∧ i < 32) (hj : 0 ≤ j) : bt (ib i) j = decide (i = j) := by
  unfold bt
  rw [ib_tp h, BitVec.getLsbD_twoPow]
  have e : (i.toNat = j.toNat) ↔ i = j := by omega
  have h2 : i.toNat < 32 := by omega
  simp only [h2, decide_true, Bool.true_and, e]
theorem bt_oo (x y : Int32) (j : Int) : bt (x ||| y) j = (bt x j || bt y j) := by
  unfold bt
  rw [Int32.toBitVec_or, BitVec.getLsbD_or]
theorem bt_or (x : Int32) {i j : Int} (h : 0 ≤ i ∧ i < 32) (hj : 0 ≤ j) : bt (x ||| ib i) j = (bt x j || decide (i = j)) := by
  rw [bt_oo, bt_ib h hj]
theorem bt_ext {x y : Int32} (h : ∀ j, 0 ≤ j → j < 32 → bt x j = bt y j) : x = y := by
  refine Int32.toBitVec.inj (BitVec.eq_of_getLsbD_eq (fun j hj => ?_))
  have := h (j : Int) (by omega) (by omega)
  unfold bt at this
  rw [show ((j : Int)).toNat = j by omega] at this
  exact this
theorem bt_and {x y : Int32} : (x &&& y = zt 0) ↔ ∀ j, 0 ≤ j → j < 32 → ¬ (bt x j = true ∧ bt y j = true) := by
  constructor
  · intro h j h0 h1 hb
    have := congrArg (fun z => bt z j) h
    simp only [bt_0] at this
    unfold bt at this hb
    rw [Int32.toBitVec_and, BitVec.getLsbD_and, hb.1, hb.2] at this
    cases this
  · intro h
    refine bt_ext (fun j h0 h1 => ?_)
    rw [bt_0]
    have := h j h0 h1
    unfold bt at this ⊢
    rw [Int32.toBitVec_and, BitVec.getLsbD_and]
    cases e1 : x.toBitVec.getLsbD j.toNat with
    | false => rfl
    | true =>
      cases e2 : y.toBitVec.getLsbD j.toNat with
      | false => rfl
      | true => exact absurd ⟨e1, e2⟩ this
theorem bt_test {x : Int32} {i : Int} (h : 0 ≤ i ∧ i < 32) : (x &&& ib i = zt 0) ↔ bt x i = false := by
  rw [bt_and]
  constructor
  · intro g
    have := g i h.1 h.2
    rw [bt_ib h h.1] at this
    simpa using this
  · intro g j h0 h1 hb
    rw [bt_ib h h0] at hb
    have : i = j := by simpa using hb.2
    subst this
    rw [g] at hb
    cases hb.1
theorem neg1_bits : (zt (-1)).toBitVec = BitVec.allOnes 32 := by decide
theorem bt_sub {x y : Int32} : (x &&& (y ^^^ zt (-1)) = zt 0) ↔ ∀ j, 0 ≤ j → j < 32 → bt x j = true → bt y j = true := by
  rw [bt_and]
  have e : ∀ j : Int, 0 ≤ j → j < 32 → bt (y ^^^ zt (-1)) j = !(bt y j) := by
    intro j h0 h1
    unfold bt
    rw [Int32.toBitVec_xor, neg1_bits, BitVec.getLsbD_xor, BitVec.getLsbD_allOnes]
    have : j.toNat < 32 := by omega
    simp [this]
  constructor
  · intro h j h0 h1 hx
    have := h j h0 h1
    rw [e j h0 h1] at this
    simpa [hx] using this
  · intro h j h0 h1 hb
    rw [e j h0 h1] at hb
    have := h j h0 h1 hb.1
    rw [this] at hb
    cases hb.2
theorem one_bits : ∀ j : Nat, j < 32 → (zt 1).toBitVec.getLsbD j = decide (j = 0) := by decide
theorem sh32 : ∀ i : Nat, i < 32 → ((zt (i : Int) &&& zt 31).toBitVec.smod 32).toNat = i := by decide +kernel
theorem shr_bit {x : Int32} {i : Int} (h : 0 ≤ i ∧ i < 32) : (x >>> (zt i &&& zt 31)).toBitVec.getLsbD 0 = bt x i := by
  have e := sh32 i.toNat (by omega)
  rw [show ((i.toNat : Nat) : Int) = i by omega] at e
  rw [Int32.toBitVec_shiftRight, BitVec.sshiftRight', e, BitVec.getLsbD_sshiftRight]
  have h2 : i.toNat < 32 := by omega
  unfold bt
  simp [h2]
theorem bt_shr {x : Int32} {i : Int} (h : 0 ≤ i ∧ i < 32) : (x >>> (zt i &&& zt 31)) &&& zt 1 = zt (if bt x i = true then 1 else 0) := by
  have e : ((x >>> (zt i &&& zt 31)) &&& zt 1) = if bt x i = true then zt 1 else zt 0 := by
    refine Int32.toBitVec.inj (BitVec.eq_of_getLsbD_eq (fun j hj => ?_))
    rw [Int32.toBitVec_and, BitVec.getLsbD_and, one_bits j hj]
    by_cases q : j = 0
    · subst q
      rw [shr_bit h]
      by_cases q2 : bt x i = true
      · rw [if_pos q2, q2, one_bits 0 (by decide)]; rfl
      · rw [if_neg q2]
        have : bt x i = false := by simpa using q2
        rw [this]; simp [zt]
    · simp only [q, decide_false, Bool.and_false]
      by_cases q2 : bt x i = true
      · rw [if_pos q2, one_bits j hj]; simp [q]
      · rw [if_neg q2]; simp [zt]
  rw [e]
  split <;> rfl
theorem or_z0 (x : Int32) : x ||| zt 0 = x := by
  refine bt_ext (fun j h0 h1 => ?_)
  rw [bt_oo, bt_0, Bool.or_false]
/-! bits of slots -/
theorem btL_test {L : Int64} {s : Int} (h : 0 ≤ s ∧ s < 60) : (lg_cmp (L &&& lbit s) (0 : Int64) = 0) ↔ btL L s = false := by
  rw [lg_cmp_eq, ← Int64.toBitVec_inj, Int64.toBitVec_and, lbit_tp h, BitVec.and_twoPow]
  unfold btL
  have hne : BitVec.twoPow 64 s.toNat ≠ 0#64 := fun e => by
    have := congrArg (fun z => z.getLsbD s.toNat) e
    simp [BitVec.getLsbD_twoPow] at this
    omega
  by_cases q : L.toBitVec.getLsbD s.toNat = true
  · rw [if_pos q, q]
    exact ⟨fun e => absurd e hne, fun e => by cases e⟩
  · rw [if_neg q]
    exact ⟨fun _ => by simpa using q, fun _ => rfl⟩
theorem btL_or {L : Int64} {t s : Int} (h : 0 ≤ t ∧ t < 60) (hs : 0 ≤ s) : btL (L ||| lbit t) s = (btL L s || decide (t = s)) := by
  unfold btL
  rw [Int64.toBitVec_or, lbit_tp h, BitVec.getLsbD_or, BitVec.getLsbD_twoPow]
  have e : (t.toNat = s.toNat) ↔ t = s := by omega
  have h2 : t.toNat < 64 := by omega
  simp only [h2, decide_true, Bool.true_and, e]
theorem btL_0 (s : Int) : btL 0 s = false := by
  unfold btL
  simp
theorem lbit_fold (s : Int) : (1 : Int64) <<< ((Int32.toInt64 (zt s)) &&& 63) = lbit s := rfl
/-! how many bits -/
def cnB (f : Int → Bool) : Nat → Nat
  | 0 => 0
  | n + 1 => cnB f n + (if f (n : Int) = true then 1 else 0)
theorem cnB_le (f : Int → Bool) : ∀ n, cnB f n ≤ n
  | 0 => Nat.le_refl _
  | n + 1 => by
    have := cnB_le f n
    unfold cnB
    split <;> omega
theorem cnB_full {f : Int → Bool} : ∀ n, n ≤ cnB f n → ∀ i : Int, 0 ≤ i → i < (n : Int) → f i = true
  | 0, _, i, h0, h1 => by omega
  | n + 1, h, i, h0, h1 => by
    have hl := cnB_le f n
    unfold cnB at h
    by_cases q : f (n : Int) = true
    · rw [if_pos q] at h
      by_cases e : i = (n : Int)
      · rw [e]; exact q
      · exact cnB_full n (by omega) i h0 (by omega)
    · rw [if_neg q] at h
      omega
theorem cnB_mono {f g : Int → Bool} : ∀ n : Nat, (∀ i : Int, 0 ≤ i → i < (n : Int) → f i = true → g i = true) → cnB f n ≤ cnB g n
  | 0, _ => Nat.le_refl _
  | n + 1, h => by
    have := cnB_mono (f := f) (g := g) n (fun i a b => h i a (by omega))
    have hn := h (n : Int) (by omega) (by omega)
    unfold cnB
    by_cases q : f (n : Int) = true
    · rw [if_pos q, if_pos (hn q)]; omega
    · rw [if_neg q]; split <;> omega
theorem cnB_lt {f g : Int → Bool} : ∀ n : Nat, (∀ i : Int, 0 ≤ i → i < (n : Int) → f i = true → g i = true) → (∃ i : Int, 0 ≤ i ∧ i < (n : Int) ∧ f i = false ∧ g i = true) → cnB f n < cnB g n
  | 0, _, ⟨i, a, b, _, _⟩ => by omega
  | n + 1, h, ⟨i, a, b, c, d⟩ => by
    have hm := cnB_mono (f := f) (g := g) n (fun i a b => h i a (by omega))
    have hn := h (n : Int) (by omega) (by omega)
    unfold cnB
    by_cases e : i = (n : Int)
    · rw [← e, c, d, if_neg (by simp), if_pos rfl]; omega
    · have := cnB_lt (f := f) (g := g) n (fun i a b => h i a (by omega)) ⟨i, a, by omega, c, d⟩
      by_cases q : f (n : Int) = true
      · rw [if_pos q, if_pos (hn q)]; omega
      · rw [if_neg q]; split <;> omega
def SubB (x y : Int32) : Prop := ∀ j, 0 ≤ j → j < 32 → bt x j = true → bt y j = true
def InB (c : Int) (x : Int32) : Prop := ∀ j, 0 ≤ j → j < 32 → bt x j = true → j < c
theorem SubB.refl (x : Int32) : SubB x x := fun _ _ _ h => h
theorem SubB.trans {x y z : Int32} (h : SubB x y) (h1 : SubB y z) : SubB x z := fun j a b c => h1 j a b (h j a b c)
theorem SubB.anti {x y : Int32} (h : SubB x y) (h1 : SubB y x) : x = y := bt_ext (fun j a b => by
  have e1 := h j a b
  have e2 := h1 j a b
  cases q : bt x j with
  | true => rw [e1 q]
  | false =>
    cases q2 : bt y j with
    | false => rfl
    | true => rw [e2 q2] at q; cases q)
theorem SubB.grow {c : Int} {x y : Int32} (hc : 0 ≤ c ∧ c ≤ 12) (h : SubB x y) (hy : InB c y) (hne : y ≠ x) : cnB (bt x) c.toNat < cnB (bt y) c.toNat := by
  refine cnB_lt c.toNat (fun i a b => h i a (by omega)) (Classical.byContradiction (fun hn => hne (SubB.anti (fun j a b hj => ?_) h)))
  cases q : bt x j with
  | true => rfl
  | false =>
    have := hy j a b hj
    exact absurd ⟨j, a, by omega, q, hj⟩ hn
/-- rounds till nothing is new -/
theorem rounds {c : Int} {sw : Int32 → Int32} {P : Int32 → Prop} {z : Int32 → Int32 → Option Int32} {b : (Int32 → Int32 → Option Int32) → Int32 → Int32 → Option Int32} {F : Nat} (hc : 0 ≤ c ∧ c ≤ 12) (hF : 20 < F) (hP : ∀ v, P v → P (sw v) ∧ SubB v (sw v) ∧ InB c v) (h0 : ∀ r v t, P v → c ≤ t → t ≤ 12 → b r v (zt t) = some v) (h1 : ∀ r v t, P v → 0 ≤ t → t < c → b r v (zt t) = if sw v = v then some (sw v) else r (sw v) (zt (t + 1))) {v : Int32} (hv : P v) : ∃ v', fixN z b F v (zt 0) = some v' ∧ P v' ∧ SubB v v' ∧ (sw v' = v' ∨ ∀ i, 0 ≤ i → i < c → bt v' i = true) := by
  have key : ∀ (m : Nat) (t : Int) (K : Nat) (v : Int32), t + m = c → 0 ≤ t → t ≤ cnB (bt v) c.toNat → P v → m < K → ∃ v', fixN z b K v (zt t) = some v' ∧ P v' ∧ SubB v v' ∧ (sw v' = v' ∨ ∀ i, 0 ≤ i → i < c → bt v' i = true) := by
    intro m
    induction m with
    | zero =>
      intro t K v e1 e2 e3 e4 e5
      obtain ⟨g, rfl⟩ : ∃ g, K = g + 1 := ⟨K - 1, by omega⟩
      rw [fix_succ]
      exact ⟨v, h0 _ _ _ e4 (by omega) (by omega), e4, SubB.refl _, Or.inr (fun i a d => cnB_full c.toNat (by omega) i a (by omega))⟩
    | succ m ih =>
      intro t K v e1 e2 e3 e4 e5
      obtain ⟨g, rfl⟩ : ∃ g, K = g + 1 := ⟨K - 1, by omega⟩
      rw [fix_succ, h1 _ _ _ e4 e2 (by omega)]
      obtain ⟨p1, p2, p3⟩ := hP v e4
      by_cases q : sw v = v
      · rw [if_pos q]
        exact ⟨v, by rw [q], e4, SubB.refl _, Or.inl q⟩
      · rw [if_neg q]
        have hg := p2.grow hc (hP _ p1).2.2 q
        obtain ⟨v', a1, a2, a3, a4⟩ := ih (t + 1) g (sw v) (by omega) (by omega) (by omega) p1 (by omega)
        exact ⟨v', a1, a2, p2.trans a3, a4⟩
  exact key c.toNat 0 F v (by omega) (by omega) (by omega) hv (by omega)
