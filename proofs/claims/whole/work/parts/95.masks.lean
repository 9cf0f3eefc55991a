/-! Sets of slots as long words; the least of them. -/
def SubL (X Y : Int64) : Prop := ∀ s, 0 ≤ s → s < 48 → btL X s = true → btL Y s = true
def EgM (Q : Int → Int) (X : Int64) : Prop := ∀ s, 0 ≤ s → s < 64 → btL X s = true → slotE Q s
def okM (Q : Int → Int) (X : Int64) : Prop := ∀ p, 0 ≤ p → p < Q 0 → Can Q (eL Q (zt 0) X) p
def cnM (X : Int64) : Nat := cnB (btL X) 48
def ltM (X Y : Int64) : Prop := ∃ s, (0 ≤ s ∧ s < 64) ∧ btL X s = true ∧ btL Y s = false ∧ ∀ t, 0 ≤ t → t < s → btL X t = btL Y t
def LeM (X Y : Int64) : Prop := X = Y ∨ ltM X Y
theorem SubL.refl (X : Int64) : SubL X X := fun _ _ _ h => h
theorem SubL.trans {X Y Z : Int64} (h : SubL X Y) (h1 : SubL Y Z) : SubL X Z := fun s a b c => h1 s a b (h s a b c)
theorem btL_ext {X Y : Int64} (h : ∀ s, 0 ≤ s → s < 64 → btL X s = btL Y s) : X = Y := by
  refine Int64.toBitVec.inj (BitVec.eq_of_getLsbD_eq (fun j hj => ?_))
  have := h (j : Int) (by omega) (by omega)
  unfold btL at this
  rw [show ((j : Int)).toNat = j by omega] at this
  exact this
theorem EgM.hi {Q : Int → Int} (hP : wfP Q) {X : Int64} (h : EgM Q X) {s : Int} (hs : 48 ≤ s ∧ s < 64) : btL X s = false := by
  cases e : btL X s with
  | false => rfl
  | true => have := (h s (by omega) hs.2 e).lt hP; omega
theorem EgM.ext {Q : Int → Int} (hP : wfP Q) {X Y : Int64} (h : EgM Q X) (h1 : EgM Q Y) (he : ∀ s, 0 ≤ s → s < 48 → btL X s = btL Y s) : X = Y := btL_ext (fun s a b => by
  by_cases q : s < 48
  · exact he s a q
  · rw [h.hi hP (by omega), h1.hi hP (by omega)])
theorem SubL.eqb {X Y : Int64} (h : SubL X Y) (hc : cnM Y ≤ cnM X) : ∀ s, 0 ≤ s → s < 48 → btL X s = btL Y s := by
  intro s a b
  cases e : btL X s with
  | true => exact (h s a b e).symm
  | false =>
    cases e2 : btL Y s with
    | false => rfl
    | true =>
      have := cnB_lt (f := btL X) (g := btL Y) 48 (fun i i0 i1 => h i i0 (by omega)) ⟨s, a, by omega, e, e2⟩
      unfold cnM at hc
      omega
theorem ltM.trans {X Y Z : Int64} (h : ltM X Y) (h1 : ltM Y Z) : ltM X Z := by
  obtain ⟨s, s0, s1, s2, s3⟩ := h
  obtain ⟨t, t0, t1, t2, t3⟩ := h1
  by_cases q : s < t
  · exact ⟨s, s0, s1, by rw [← t3 s s0.1 q]; exact s2, fun u u0 u1 => by rw [s3 u u0 u1, t3 u u0 (by omega)]⟩
  · by_cases q2 : t < s
    · exact ⟨t, t0, by rw [s3 t t0.1 q2]; exact t1, t2, fun u u0 u1 => by rw [s3 u u0 (by omega), t3 u u0 u1]⟩
    · have : s = t := by omega
      subst this
      rw [s2] at t1
      cases t1
theorem LeM.trans {X Y Z : Int64} (h : LeM X Y) (h1 : LeM Y Z) : LeM X Z := by
  rcases h with rfl | h
  · exact h1
  · rcases h1 with rfl | h1
    · exact Or.inr h
    · exact Or.inr (h.trans h1)
/-- the first place in which two differ -/
theorem first_diff {f g : Int → Bool} : ∀ n : Nat, (∀ s, 0 ≤ s → s < (n : Int) → f s = g s) ∨ ∃ s, (0 ≤ s ∧ s < (n : Int)) ∧ f s ≠ g s ∧ ∀ t, 0 ≤ t → t < s → f t = g t
  | 0 => Or.inl (fun s a b => by omega)
  | n + 1 => by
    rcases first_diff (f := f) (g := g) n with h | ⟨s, s0, s1, s2⟩
    · by_cases q : f (n : Int) = g (n : Int)
      · refine Or.inl (fun s a b => ?_)
        by_cases e : s = (n : Int)
        · rw [e]; exact q
        · exact h s a (by omega)
      · exact Or.inr ⟨(n : Int), by omega, q, fun t a b => h t a b⟩
    · exact Or.inr ⟨s, by omega, s1, s2⟩
theorem LeM.total (X Y : Int64) : LeM X Y ∨ ltM Y X := by
  rcases first_diff (f := btL X) (g := btL Y) 64 with h | ⟨s, s0, s1, s2⟩
  · exact Or.inl (Or.inl (btL_ext h))
  · cases e : btL X s with
    | true =>
      have e2 : btL Y s = false := by
        cases e2 : btL Y s with
        | false => rfl
        | true => rw [e, e2] at s1; exact absurd rfl s1
      exact Or.inl (Or.inr ⟨s, by omega, e, e2, s2⟩)
    | false =>
      have e2 : btL Y s = true := by
        cases e2 : btL Y s with
        | true => rfl
        | false => rw [e, e2] at s1; exact absurd rfl s1
      exact Or.inr ⟨s, by omega, e2, e, fun t a b => (s2 t a b).symm⟩
theorem ltM.irr {X : Int64} (h : ltM X X) : False := by
  obtain ⟨s, s0, s1, s2, s3⟩ := h
  rw [s1] at s2
  cases s2
theorem low_bit {X Y : Int64} : (lg_cmp (X &&& ((X ^^^ Y) &&& (-(X ^^^ Y)))) (0 : Int64) = 0) ↔ ¬ ltM X Y := by
  rw [lg_cmp_eq]
  have hd : ∀ s : Int, 0 ≤ s → s < 64 → btL (X ^^^ Y) s = (btL X s ^^ btL Y s) := fun s _ _ => by
    unfold btL
    rw [Int64.toBitVec_xor, BitVec.getLsbD_xor]
  have hl : ∀ s : Int, 0 ≤ s → s < 64 → (btL (X &&& ((X ^^^ Y) &&& (-(X ^^^ Y)))) s = true ↔ btL X s = true ∧ btL (X ^^^ Y) s = true ∧ ∀ t, 0 ≤ t → t < s → btL (X ^^^ Y) t = false) := by
    intro s a b
    unfold btL
    rw [Int64.toBitVec_and, Int64.toBitVec_and, Int64.toBitVec_neg, BitVec.getLsbD_and, BitVec.getLsbD_and, BitVec.getLsbD_neg]
    generalize (X ^^^ Y).toBitVec = d
    have hs : s.toNat < 64 := by omega
    simp only [hs, decide_true, Bool.true_and, Bool.and_eq_true]
    constructor
    · rintro ⟨h1, h2, h3⟩
      refine ⟨h1, h2, fun t t0 t1 => ?_⟩
      rw [h2] at h3
      simp only [Bool.true_xor, Bool.not_eq_true', decide_eq_false_iff_not] at h3
      cases e : d.getLsbD t.toNat with
      | false => rfl
      | true => exact absurd ⟨t.toNat, by omega, e⟩ h3
    · rintro ⟨h1, h2, h3⟩
      refine ⟨h1, h2, ?_⟩
      rw [h2]
      simp only [Bool.true_xor, Bool.not_eq_true', decide_eq_false_iff_not]
      rintro ⟨j, j0, j1⟩
      have := h3 (j : Int) (by omega) (by omega)
      rw [show ((j : Int)).toNat = j by omega, j1] at this
      cases this
  constructor
  · rintro h ⟨s, s0, s1, s2, s3⟩
    have h1 := (hl s s0.1 s0.2).mpr ⟨s1, by rw [hd s s0.1 s0.2, s1, s2]; rfl, fun t t0 t1 => by rw [hd t t0 (by omega), s3 t t0 t1]; simp⟩
    rw [h, btL_0] at h1
    cases h1
  · intro h
    refine btL_ext (fun s a b => ?_)
    rw [btL_0]
    cases e : btL (X &&& ((X ^^^ Y) &&& (-(X ^^^ Y)))) s with
    | false => rfl
    | true =>
      obtain ⟨e1, e2, e3⟩ := (hl s a b).mp e
      exfalso
      apply h
      refine ⟨s, ⟨a, b⟩, e1, ?_, fun t t0 t1 => ?_⟩
      · rw [hd s a b, e1] at e2
        simpa using e2
      · have := e3 t t0 t1
        rw [hd t t0 (by omega)] at this
        cases q1 : btL X t <;> cases q2 : btL Y t <;> rw [q1, q2] at this <;> first | rfl | cases this
/-- what is kept after all of C were considered -/
def PostL (C : Int64 → Prop) (f : Int) (lo : Int64) (f1 : Int) (lo1 : Int64) : Prop := (f1 = 0 ∨ f1 = 1) ∧ (f1 = 0 → f = 0 ∧ ∀ X, ¬ C X) ∧ (f1 = 1 → ((f = 1 ∧ lo1 = lo) ∨ C lo1) ∧ (f = 1 → LeM lo1 lo) ∧ ∀ X, C X → LeM lo1 X)
theorem PostL.none {f : Int} {lo : Int64} (hf : f = 0 ∨ f = 1) : PostL (fun _ => False) f lo f lo := ⟨hf, fun h => ⟨h, fun _ g => g⟩, fun h => ⟨Or.inl ⟨h, rfl⟩, fun _ => Or.inl rfl, fun _ g => absurd g id⟩⟩
theorem PostL.join {C D : Int64 → Prop} {f f1 f2 : Int} {lo lo1 lo2 : Int64} (h : PostL C f lo f1 lo1) (h1 : PostL D f1 lo1 f2 lo2) : PostL (fun X => C X ∨ D X) f lo f2 lo2 := by
  obtain ⟨a1, a2, a3⟩ := h
  obtain ⟨b1, b2, b3⟩ := h1
  refine ⟨b1, fun g => ?_, fun g => ?_⟩
  · obtain ⟨c1, c2⟩ := b2 g
    obtain ⟨d1, d2⟩ := a2 c1
    exact ⟨d1, fun X hX => hX.elim (d2 X) (c2 X)⟩
  · obtain ⟨c1, c2, c3⟩ := b3 g
    rcases a1 with a0 | a0
    · obtain ⟨d1, d2⟩ := a2 a0
      refine ⟨?_, fun e => by omega, fun X hX => hX.elim (fun g => absurd g (d2 X)) (c3 X)⟩
      rcases c1 with ⟨c1, -⟩ | c1
      · omega
      · exact Or.inr (Or.inr c1)
    · obtain ⟨d1, d2, d3⟩ := a3 a0
      have hle := c2 a0
      refine ⟨?_, fun e => hle.trans (d2 e), fun X hX => hX.elim (fun g => hle.trans (d3 X g)) (c3 X)⟩
      rcases c1 with ⟨-, c1⟩ | c1
      · rw [c1]
        rcases d1 with d1 | d1
        · exact Or.inl d1
        · exact Or.inr (Or.inl d1)
      · exact Or.inr (Or.inr c1)
theorem cnM_or {L : Int64} {s : Int} (hs : 0 ≤ s ∧ s < 48) (hn : btL L s = false) : cnM (L ||| lbit s) = cnM L + 1 := by
  have key : ∀ n : Nat, n ≤ 48 → cnB (btL (L ||| lbit s)) n = cnB (btL L) n + (if s < (n : Int) then 1 else 0) := by
    intro n
    induction n with
    | zero => intro _; rw [if_neg (by omega)]; rfl
    | succ n ih =>
      intro hn48
      unfold cnB
      rw [ih (by omega), btL_or (by omega) (by omega)]
      by_cases q : s = (n : Int)
      · rw [← q, hn, if_neg (by omega), if_pos (by simp), if_neg (by simp), if_pos (by omega)]
      · have e : decide (s = (n : Int)) = false := by simpa using q
        rw [e, Bool.or_false]
        by_cases q2 : s < (n : Int)
        · rw [if_pos q2, if_pos (show s < ((n + 1 : Nat) : Int) by omega)]; omega
        · rw [if_neg q2, if_neg (show ¬ (s < ((n + 1 : Nat) : Int)) by omega)]; omega
  have := key 48 (Nat.le_refl _)
  unfold cnM
  rw [this, if_pos (by omega)]
/-! masks and lists -/
def blM (X : Int64) : List Int := (seg (fun i => i) 48 0).filter (btL X)
theorem blM_mem {X : Int64} {s : Int} : s ∈ blM X ↔ (0 ≤ s ∧ s < 48) ∧ btL X s = true := by
  unfold blM
  rw [List.mem_filter, seg_mem]
  constructor
  · rintro ⟨⟨j, a, b, c⟩, d⟩
    have : j = s := c
    exact ⟨by omega, d⟩
  · rintro ⟨a, b⟩
    exact ⟨⟨s, by omega, by omega, rfl⟩, b⟩
theorem srt_seg : ∀ (n : Nat) (i : Int), srtL (seg (fun i => i) n i)
  | 0, _ => trivial
  | n + 1, i => ⟨fun b hb => by
      obtain ⟨j, a, c, d⟩ := (seg_mem _ _ _ _).mp hb
      have : j = b := d
      show i < b
      omega, srt_seg n (i + 1)⟩
theorem srt_filter {f : Int → Bool} : ∀ l : List Int, srtL l → srtL (l.filter f)
  | [], _ => trivial
  | a :: l, h => by
    rw [List.filter_cons]
    split
    · exact ⟨fun b hb => h.1 b (List.mem_filter.mp hb).1, srt_filter l h.2⟩
    · exact srt_filter l h.2
theorem blM_srt (X : Int64) : srtL (blM X) := srt_filter _ (srt_seg _ _)
theorem blM_len (X : Int64) : (blM X).length = cnM X := by
  have key : ∀ n : Nat, ((seg (fun i => i) n 0).filter (btL X)).length = cnB (btL X) n := by
    intro n
    induction n with
    | zero => rfl
    | succ n ih =>
      rw [seg_snoc, List.filter_append, List.length_append, ih, cnB]
      have e : (0 : Int) + (n : Int) = (n : Int) := by omega
      rw [e]
      by_cases q : btL X (n : Int) = true
      · rw [if_pos q, List.filter_cons, if_pos q]; rfl
      · rw [if_neg q, List.filter_cons, if_neg q]; rfl
  exact key 48
theorem lt_of_first : ∀ (xs ys : List Int), srtL xs → srtL ys → xs.length = ys.length → (∃ s, s ∈ xs ∧ s ∉ ys ∧ ∀ t, t < s → (t ∈ xs ↔ t ∈ ys)) → ltL xs ys
  | [], _, _, _, _, ⟨s, h, _⟩ => by cases h
  | a :: xs, [], _, _, h, _ => by simp at h
  | a :: xs, b :: ys, hx, hy, hl, ⟨s, s1, s2, s3⟩ => by
    rcases Int.lt_trichotomy a b with q | q | q
    · exact Or.inl q
    · subst q
      refine Or.inr ⟨rfl, lt_of_first xs ys hx.2 hy.2 (by simpa using hl) ?_⟩
      have hsa : s ≠ a := fun e => s2 (by rw [e]; exact List.mem_cons_self)
      have hsx : s ∈ xs := by
        rcases List.mem_cons.mp s1 with e | e
        · exact absurd e hsa
        · exact e
      refine ⟨s, hsx, fun e => s2 (List.mem_cons_of_mem _ e), fun t ht => ?_⟩
      have h3 := s3 t ht
      rw [List.mem_cons, List.mem_cons] at h3
      constructor
      · intro g
        have : t ≠ a := by have := hx.1 t g; omega
        exact (h3.mp (Or.inr g)).elim (fun e => absurd e this) id
      · intro g
        have : t ≠ a := by have := hy.1 t g; omega
        exact (h3.mpr (Or.inr g)).elim (fun e => absurd e this) id
    · exfalso
      have hsa : a ≤ s := by
        rcases List.mem_cons.mp s1 with e | e
        · omega
        · have := hx.1 s e; omega
      have := (s3 b (by omega)).mpr List.mem_cons_self
      rcases List.mem_cons.mp this with e | e
      · omega
      · have := hx.1 b e; omega
def mkL : List Int → Int64
  | [] => 0
  | s :: l => mkL l ||| lbit s
theorem mkL_bit : ∀ (l : List Int), (∀ s ∈ l, 0 ≤ s ∧ s < 48) → ∀ s, 0 ≤ s → (btL (mkL l) s = true ↔ s ∈ l)
  | [], _, s, _ => by
    unfold mkL
    rw [btL_0]
    simp
  | a :: l, h, s, hs => by
    have ha := h a List.mem_cons_self
    unfold mkL
    rw [btL_or (by omega) hs, Bool.or_eq_true, decide_eq_true_eq, mkL_bit l (fun t ht => h t (List.mem_cons_of_mem _ ht)) s hs, List.mem_cons]
    constructor
    · rintro (g | g)
      · exact Or.inr g
      · exact Or.inl g.symm
    · rintro (g | g)
      · exact Or.inr g.symm
      · exact Or.inl g
section MQ
variable {Q : Int → Int}
theorem okM_okX (hP : wfP Q) {X : Int64} {xs : List Int} (h : ∀ s, 0 ≤ s → s < 48 → (btL X s = true ↔ s ∈ xs)) : okM Q X ↔ okX Q xs := by
  have hc := hP.1
  have hb : ∀ i j, 0 ≤ i → i < Q 0 → (Bnd Q (eL Q (zt 0) X) i j ↔ Bnd Q (exX Q xs) i j) := by
    intro i j i0 i1
    have hm := hP.mn ⟨i0, i1⟩
    have he : ∀ k, 0 ≤ k → k < pMany Q i → eL Q (zt 0) X i k = exX Q xs i k := by
      intro k k0 k1
      have h1 := h (4 * i + k) (by omega) (by omega)
      have hd : decide (zt 0 ≠ (0 : Int32)) = false := by decide
      unfold eL exX
      rw [hd, Bool.false_or]
      congr 2
      cases e : btL X (4 * i + k) with
      | true => simpa using h1.mp e
      | false =>
        have : (4 * i + k) ∉ xs := fun g => by rw [h1.mpr g] at e; cases e
        simpa using this
    constructor
    · rintro ⟨k, a, b, c, d⟩
      exact ⟨k, a, b, by rw [← he k a b]; exact c, d⟩
    · rintro ⟨k, a, b, c, d⟩
      exact ⟨k, a, b, by rw [he k a b]; exact c, d⟩
  unfold okM okX
  exact ⟨fun g p p0 p1 => (Can_iff rfl hb).mp (g p p0 p1), fun g p p0 p1 => (Can_iff rfl hb).mpr (g p p0 p1)⟩
theorem okM_cong (hP : wfP Q) {X Y : Int64} (h : ∀ s, 0 ≤ s → s < 48 → btL X s = btL Y s) : okM Q X ↔ okM Q Y := by
  rw [okM_okX hP (xs := blM Y) (X := X) (fun s a b => by rw [h s a b, blM_mem]; exact ⟨fun g => ⟨⟨a, b⟩, g⟩, fun g => g.2⟩), okM_okX hP (xs := blM Y) (X := Y) (fun s a b => by rw [blM_mem]; exact ⟨fun g => ⟨⟨a, b⟩, g⟩, fun g => g.2⟩)]
/-- the least of the smallest is what is asked for -/
theorem loos_of_mask (hP : wfP Q) {m : Nat} {X : Int64} (hm : m ≤ 3) (h1 : okM Q X) (h2 : EgM Q X) (h3 : cnM X ≤ m) (h4 : ∀ Y, EgM Q Y → okM Q Y → m ≤ cnM Y) (h5 : ∀ Y, EgM Q Y → okM Q Y → cnM Y ≤ m → LeM X Y) : LooS Q (blM X) ∧ (blM X).length = m := by
  have hcx : cnM X = m := by have := h4 X h2 h1; omega
  have hlen : (blM X).length = m := by rw [blM_len]; exact hcx
  have hmem : ∀ s ∈ blM X, slotE Q s := fun s hs => by
    obtain ⟨a, b⟩ := blM_mem.mp hs
    exact h2 s a.1 (by omega) b
  refine ⟨⟨⟨blM_srt X, hmem, by omega, (okM_okX hP (fun s a b => by rw [blM_mem]; exact ⟨fun g => ⟨⟨a, b⟩, g⟩, fun g => g.2⟩)).mp h1⟩, fun ys hy => ?_⟩, hlen⟩
  obtain ⟨y1, y2, y3, y4⟩ := hy
  have hyr : ∀ s ∈ ys, 0 ≤ s ∧ s < 48 := fun s hs => ⟨(y2 s hs).1, ((y2 s hs).lt hP).2.2⟩
  have hbit := mkL_bit ys hyr
  have hE : EgM Q (mkL ys) := fun s a b hb => y2 s ((hbit s a).mp hb)
  have hO : okM Q (mkL ys) := (okM_okX hP (fun s a _ => hbit s a)).mpr y4
  have hc1 := h4 _ hE hO
  have hc2 : cnM (mkL ys) ≤ ys.length := by
    have e : cnM (mkL ys) ≤ cnB (fun p => decide (p ∈ ys)) 48 := cnB_mono 48 (fun i i0 i1 hb => by rw [decide_eq_true_eq]; exact (hbit i i0).mp hb)
    exact Nat.le_trans e (cnB_list 48 ys)
  rw [hlen]
  by_cases q : m < ys.length
  · exact Or.inl q
  · refine Or.inr ⟨by omega, ?_⟩
    rcases h5 _ hE hO (by omega) with e | ⟨s, s0, s1, s2, s3⟩
    · left
      have hsame : ∀ t, t ∈ blM X ↔ t ∈ ys := fun t => by
        rw [blM_mem, e]
        constructor
        · rintro ⟨a, b⟩; exact (hbit t a.1).mp b
        · intro g; have := hyr t g; exact ⟨this, (hbit t this.1).mpr g⟩
      have key : ∀ (l1 l2 : List Int), srtL l1 → srtL l2 → (∀ t, t ∈ l1 ↔ t ∈ l2) → l1 = l2 := by
        intro l1
        induction l1 with
        | nil =>
          intro l2 _ _ h
          cases l2 with
          | nil => rfl
          | cons b l => exact absurd ((h b).mpr List.mem_cons_self) (by simp)
        | cons a l1 ih =>
          intro l2 g1 g2 h
          cases l2 with
          | nil => exact absurd ((h a).mp List.mem_cons_self) (by simp)
          | cons b l2 =>
            have hab : a = b := by
              have h1 := (h a).mp List.mem_cons_self
              have h2 := (h b).mpr List.mem_cons_self
              rcases List.mem_cons.mp h1 with e1 | e1
              · exact e1
              · rcases List.mem_cons.mp h2 with e2 | e2
                · exact e2.symm
                · have := g2.1 a e1; have := g1.1 b e2; omega
            subst hab
            rw [ih l2 g1.2 g2.2 (fun t => by
              have ht := h t
              rw [List.mem_cons, List.mem_cons] at ht
              constructor
              · intro g
                have : t ≠ a := by have := g1.1 t g; omega
                exact (ht.mp (Or.inr g)).elim (fun e => absurd e this) id
              · intro g
                have : t ≠ a := by have := g2.1 t g; omega
                exact (ht.mpr (Or.inr g)).elim (fun e => absurd e this) id)]
      exact key _ _ (blM_srt X) y1 hsame
    · right
      have hs48 : s < 48 := by
        have := (h2 s s0.1 s0.2 s1).lt hP
        omega
      refine lt_of_first _ _ (blM_srt X) y1 (by omega) ⟨s, blM_mem.mpr ⟨⟨s0.1, hs48⟩, s1⟩, fun g => ?_, fun t ht => ?_⟩
      · rw [(hbit s s0.1).mpr g] at s2; cases s2
      · by_cases g0 : 0 ≤ t
        · rw [blM_mem, s3 t g0 ht, hbit t g0]
          exact ⟨fun g => g.2, fun g => ⟨⟨g0, by omega⟩, g⟩⟩
        · exact ⟨fun g => absurd (blM_mem.mp g).1.1 g0, fun g => absurd (hyr t g).1 g0⟩
end MQ
