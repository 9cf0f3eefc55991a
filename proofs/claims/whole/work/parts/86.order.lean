/-! The order in which parts could start, and the loop: plain theory. -/
theorem allK_iff {f : Int → Bool} : ∀ (n : Nat) (k : Int), allK f n k = true ↔ ∀ i, k ≤ i → i < k + n → f i = true
  | 0, k => by
    unfold allK
    exact ⟨fun _ i a b => by omega, fun _ => rfl⟩
  | n + 1, k => by
    unfold allK
    rw [Bool.and_eq_true, allK_iff n (k + 1)]
    constructor
    · rintro ⟨h1, h2⟩ i a b
      by_cases e : i = k
      · rw [e]; exact h1
      · exact h2 i (by omega) (by omega)
    · intro h
      exact ⟨h k (by omega) (by omega), fun i a b => h i (by omega) (by omega)⟩
section OT
variable {Q : Int → Int} {wv : Int → Int}
theorem rdy_iff (hP : wfP Q) {p : Int} (hp : 0 ≤ p ∧ p < Q 0) : rdyB Q wv p = true ↔ wv p = -1 ∧ ∀ j, Bnd Q (pEg Q) p j → wv j ≠ -1 := by
  have hm := hP.mn hp
  unfold rdyB
  rw [Bool.and_eq_true, decide_eq_true_eq, allK_iff]
  refine and_congr_right (fun _ => ⟨fun h j hj => ?_, fun h k k0 k1 => ?_⟩)
  · obtain ⟨k, a, b, c, d⟩ := hj
    have := h k a (by omega)
    rw [c, d] at this
    simpa using this
  · cases e : pEg Q p k with
    | false => rfl
    | true =>
      have := h _ ⟨k, k0, by omega, e, rfl⟩
      simp [this]
theorem lstR_spec : ∀ (n : Nat) (i : Int), 0 ≤ i → (lstR Q wv n i = -1 ∧ ∀ p, i ≤ p → p < i + n → ¬ rdyB Q wv p = true) ∨ ((i ≤ lstR Q wv n i ∧ lstR Q wv n i < i + n) ∧ rdyB Q wv (lstR Q wv n i) = true)
  | 0, i, h => by
    unfold lstR
    exact Or.inl ⟨rfl, fun p a b => by omega⟩
  | n + 1, i, h => by
    unfold lstR
    by_cases q : rdyB Q wv i = true
    · rw [if_pos q]
      exact Or.inr ⟨by omega, q⟩
    · rw [if_neg q]
      rcases lstR_spec n (i + 1) (by omega) with ⟨a, b⟩ | ⟨a, b⟩
      · refine Or.inl ⟨a, fun p c d => ?_⟩
        by_cases e : p = i
        · rw [e]; exact q
        · exact b p (by omega) (by omega)
      · exact Or.inr ⟨by omega, b⟩
theorem wavK_spec {p : Int} : ∀ (n : Nat) (k a : Int), a ≤ wavK Q wv p n k a ∧ (∀ k', k ≤ k' → k' < k + n → pEg Q p k' = true → wv (pNd Q p k') + 1 ≤ wavK Q wv p n k a) ∧ (wavK Q wv p n k a = a ∨ ∃ k', k ≤ k' ∧ k' < k + n ∧ pEg Q p k' = true ∧ wavK Q wv p n k a = wv (pNd Q p k') + 1)
  | 0, k, a => by
    unfold wavK
    exact ⟨Int.le_refl _, fun k' b c => by omega, Or.inl rfl⟩
  | n + 1, k, a => by
    unfold wavK
    by_cases q : pEg Q p k = true ∧ a ≤ wv (pNd Q p k)
    · rw [if_pos q]
      obtain ⟨h1, h2, h3⟩ := wavK_spec (p := p) n (k + 1) (wv (pNd Q p k) + 1)
      refine ⟨by omega, fun k' b c d => ?_, Or.inr ?_⟩
      · by_cases e : k' = k
        · rw [e]; exact h1
        · exact h2 k' (by omega) (by omega) d
      · rcases h3 with h3 | ⟨k', b, c, d, e⟩
        · exact ⟨k, by omega, by omega, q.1, h3⟩
        · exact ⟨k', by omega, by omega, d, e⟩
    · rw [if_neg q]
      obtain ⟨h1, h2, h3⟩ := wavK_spec (p := p) n (k + 1) a
      refine ⟨h1, fun k' b c d => ?_, ?_⟩
      · by_cases e : k' = k
        · subst e
          have : ¬ (a ≤ wv (pNd Q p k')) := fun g => q ⟨d, g⟩
          omega
        · exact h2 k' (by omega) (by omega) d
      · rcases h3 with h3 | ⟨k', b, c, d, e⟩
        · exact Or.inl h3
        · exact Or.inr ⟨k', by omega, by omega, d, e⟩
theorem wavOf_spec (hP : wfP Q) {p : Int} (hp : 0 ≤ p ∧ p < Q 0) : 0 ≤ wavOf Q wv p ∧ (∀ j, Bnd Q (pEg Q) p j → wv j + 1 ≤ wavOf Q wv p) ∧ (wavOf Q wv p = 0 ∨ ∃ j, Bnd Q (pEg Q) p j ∧ wavOf Q wv p = wv j + 1) := by
  have hm := hP.mn hp
  obtain ⟨h1, h2, h3⟩ := wavK_spec (Q := Q) (wv := wv) (p := p) (pMany Q p).toNat 0 0
  refine ⟨h1, fun j hj => ?_, ?_⟩
  · obtain ⟨k, a, b, c, d⟩ := hj
    rw [← d]
    exact h2 k a (by omega) c
  · rcases h3 with h3 | ⟨k', b, c, d, e⟩
    · exact Or.inl h3
    · exact Or.inr ⟨_, ⟨k', b, by omega, d, rfl⟩, e⟩
theorem wav_uni (hP : wfP Q) {p r : Int} (hp : 0 ≤ p ∧ p < Q 0) (h0 : 0 ≤ r) (h1 : ∀ j, Bnd Q (pEg Q) p j → wv j + 1 ≤ r) (h2 : r = 0 ∨ ∃ j, Bnd Q (pEg Q) p j ∧ r = wv j + 1) : r = wavOf Q wv p := by
  obtain ⟨g0, g1, g2⟩ := wavOf_spec (wv := wv) hP hp
  have a1 : r ≤ wavOf Q wv p := by
    rcases h2 with h2 | ⟨j, hj, h2⟩
    · omega
    · rw [h2]; exact g1 j hj
  have a2 : wavOf Q wv p ≤ r := by
    rcases g2 with g2 | ⟨j, hj, g2⟩
    · omega
    · rw [g2]; exact h1 j hj
  omega
def OI (Q : Int → Int) (s : List Int × (Int → Int)) : Prop := s.1.Nodup ∧ (∀ p, p ∈ s.1 ↔ (0 ≤ p ∧ p < Q 0) ∧ s.2 p ≠ -1) ∧ (∀ p, -1 ≤ s.2 p ∧ s.2 p < s.1.length) ∧ (∀ p, p ∈ s.1 → Can Q (pEg Q) p) ∧ ∀ p, ¬ (0 ≤ p ∧ p < Q 0) → s.2 p = -1
theorem OI.nil : OI Q ([], fun _ => -1) := ⟨List.nodup_nil, fun p => by simp, fun p => by simp, fun p h => (by cases h), fun _ _ => rfl⟩
theorem OI.len {s : List Int × (Int → Int)} (hP : wfP Q) (h : OI Q s) : (s.1.length : Int) ≤ Q 0 := by
  have hc := hP.1
  have := nodup_le (Q 0).toNat s.1 h.1 (fun y hy => by
    have := ((h.2.1 y).mp hy).1
    omega)
  omega
theorem OI.step {s : List Int × (Int → Int)} (hP : wfP Q) (h : OI Q s) (hl : lstR Q s.2 (Q 0).toNat 0 ≠ -1) : (0 ≤ lstR Q s.2 (Q 0).toNat 0 ∧ lstR Q s.2 (Q 0).toNat 0 < Q 0) ∧ (0 ≤ wavOf Q s.2 (lstR Q s.2 (Q 0).toNat 0) ∧ wavOf Q s.2 (lstR Q s.2 (Q 0).toNat 0) ≤ s.1.length) ∧ OI Q (s.1 ++ [lstR Q s.2 (Q 0).toNat 0], ua s.2 (lstR Q s.2 (Q 0).toNat 0) (wavOf Q s.2 (lstR Q s.2 (Q 0).toNat 0))) := by
  have hc := hP.1
  obtain ⟨h1, h2, h3, h4, h5⟩ := h
  rcases lstR_spec (Q := Q) (wv := s.2) (Q 0).toNat 0 (by omega) with ⟨a, -⟩ | ⟨a, b⟩
  · exact absurd a hl
  · generalize lstR Q s.2 (Q 0).toNat 0 = p at *
    have hp : 0 ≤ p ∧ p < Q 0 := by omega
    obtain ⟨b1, b2⟩ := (rdy_iff hP hp).mp b
    obtain ⟨w1, w2, w3⟩ := wavOf_spec (wv := s.2) hP hp
    have hw : wavOf Q s.2 p ≤ s.1.length := by
      rcases w3 with w3 | ⟨j, hj, w3⟩
      · omega
      · have := h3 j; omega
    have hn : p ∉ s.1 := fun e => ((h2 p).mp e).2 b1
    refine ⟨hp, ⟨w1, hw⟩, ?_, fun q => ?_, fun q => ?_, fun q hq => ?_, fun q hq => ?_⟩
    · rw [List.nodup_append]
      exact ⟨h1, by simp, fun y hy z hz => by
        have : z = p := by simpa using hz
        subst this
        exact fun e => hn (e ▸ hy)⟩
    · show q ∈ s.1 ++ [p] ↔ _ ∧ ua s.2 p (wavOf Q s.2 p) q ≠ -1
      rw [List.mem_append, List.mem_singleton, h2 q]
      by_cases e : q = p
      · subst e
        rw [ua_eq]
        exact ⟨fun _ => ⟨hp, by omega⟩, fun _ => Or.inr rfl⟩
      · rw [ua_ne e]
        exact ⟨fun g => g.elim id (fun g => absurd g e), Or.inl⟩
    · show -1 ≤ ua s.2 p (wavOf Q s.2 p) q ∧ ua s.2 p (wavOf Q s.2 p) q < (s.1 ++ [p]).length
      have hlen : (s.1 ++ [p]).length = s.1.length + 1 := by simp
      by_cases e : q = p
      · rw [e, ua_eq]; omega
      · rw [ua_ne e]; have := h3 q; omega
    · rcases List.mem_append.mp hq with hq | hq
      · exact h4 q hq
      · have : q = p := by simpa using hq
        subst this
        exact Can.of hp (fun j hj => h4 j ((h2 j).mpr ⟨hj.rng hP hp, b2 j hj⟩))
    · show ua s.2 p (wavOf Q s.2 p) q = -1
      have hqp : q ≠ p := fun e => hq (by rw [e]; exact hp)
      rw [ua_ne hqp]
      exact h5 q hq
theorem ordS_ok (hP : wfP Q) : ∀ (n : Nat) (s : List Int × (Int → Int)), OI Q s → Q 0 < s.1.length + n → OI Q (ordS Q n s) ∧ lstR Q (ordS Q n s).2 (Q 0).toNat 0 = -1
  | 0, s, h, hn => by have := h.len hP; omega
  | n + 1, s, h, hn => by
    unfold ordS
    by_cases q : lstR Q s.2 (Q 0).toNat 0 = -1
    · rw [if_pos q]; exact ⟨h, q⟩
    · rw [if_neg q]
      exact ordS_ok hP n _ (h.step hP q).2.2 (by simp; omega)
theorem ordF_ok (hP : wfP Q) : OI Q (ordF Q) ∧ lstR Q (ordF Q).2 (Q 0).toNat 0 = -1 := by
  have hc := hP.1
  exact ordS_ok hP 13 _ OI.nil (by simp; omega)
theorem OI.full {s : List Int × (Int → Int)} (hP : wfP Q) (h : OI Q s) (hl : Q 0 ≤ s.1.length) : lstR Q s.2 (Q 0).toNat 0 = -1 := by
  apply Classical.byContradiction
  intro q
  have := (h.step hP q).2.2.len hP
  simp at this
  omega
theorem canF_iff (hP : wfP Q) {p : Int} (hp : 0 ≤ p ∧ p < Q 0) : canF Q p = true ↔ Can Q (pEg Q) p := by
  have hc := hP.1
  obtain ⟨⟨h1, h2, h3, h4, h5⟩, hl⟩ := ordF_ok hP
  unfold canF
  have e : (!decide ((ordF Q).2 p = -1)) = true ↔ (ordF Q).2 p ≠ -1 := by simp
  rw [e]
  refine ⟨fun g => h4 p ((h2 p).mpr ⟨hp, g⟩), fun g => ?_⟩
  refine g (fun j => (ordF Q).2 j ≠ -1) (fun i i0 i1 hi => ?_)
  rcases lstR_spec (Q := Q) (wv := (ordF Q).2) (Q 0).toNat 0 (by omega) with ⟨a, b⟩ | ⟨a, b⟩
  · intro g1
    exact b i i0 (by omega) ((rdy_iff hP ⟨i0, i1⟩).mpr ⟨g1, hi⟩)
  · omega
theorem cnB_cons (l : List Int) (y : Int) : ∀ n : Nat, cnB (fun p => decide (p ∈ y :: l)) n ≤ cnB (fun p => decide (p ∈ l)) n + (if 0 ≤ y ∧ y < (n : Int) then 1 else 0)
  | 0 => by simp [cnB]
  | n + 1 => by
    have ih := cnB_cons l y n
    unfold cnB
    by_cases q : (n : Int) = y
    · have e1 : ¬ (0 ≤ y ∧ y < (n : Int)) := by omega
      have e2 : 0 ≤ y ∧ y < ((n + 1 : Nat) : Int) := by omega
      rw [if_neg e1] at ih
      rw [if_pos e2]
      split <;> split <;> omega
    · have e3 : decide ((n : Int) ∈ y :: l) = decide ((n : Int) ∈ l) := by simp [q]
      rw [e3]
      have e4 : (if 0 ≤ y ∧ y < ((n + 1 : Nat) : Int) then 1 else 0) = (if 0 ≤ y ∧ y < (n : Int) then 1 else 0) := by
        by_cases g : 0 ≤ y ∧ y < (n : Int)
        · rw [if_pos g, if_pos (by omega)]
        · rw [if_neg g, if_neg (by omega)]
      rw [e4]
      omega
theorem cnB_list (n : Nat) : ∀ l : List Int, cnB (fun p => decide (p ∈ l)) n ≤ l.length
  | [] => by
    have : ∀ n : Nat, cnB (fun p => decide (p ∈ ([] : List Int))) n = 0 := by
      intro n
      induction n with
      | zero => rfl
      | succ n ih => unfold cnB; rw [ih]; simp
    rw [this]
    omega
  | y :: l => by
    have h1 := cnB_cons l y n
    have h2 := cnB_list n l
    simp only [List.length_cons]
    split at h1 <;> omega
theorem cnB_all {f : Int → Bool} : ∀ n : Nat, (∀ i : Int, 0 ≤ i → i < (n : Int) → f i = true) → cnB f n = n
  | 0, _ => rfl
  | n + 1, h => by
    unfold cnB
    rw [cnB_all n (fun i a b => h i a (by omega)), if_pos (h (n : Int) (by omega) (by omega))]
/-- all come: none is stuck -/
theorem ord_all (hP : wfP Q) : ((ordF Q).1.length : Int) = Q 0 ↔ ∀ p, 0 ≤ p → p < Q 0 → Can Q (pEg Q) p := by
  have hc := hP.1
  obtain ⟨hO, hl⟩ := ordF_ok hP
  have hlen := hO.len hP
  constructor
  · intro e p p0 p1
    apply Classical.byContradiction
    intro hn
    have hnm : p ∉ (ordF Q).1 := fun g => hn (hO.2.2.2.1 p g)
    have := nodup_le (Q 0).toNat (p :: (ordF Q).1) (List.nodup_cons.mpr ⟨hnm, hO.1⟩) (fun y hy => by
      rcases List.mem_cons.mp hy with rfl | hy
      · omega
      · have := ((hO.2.1 y).mp hy).1; omega)
    simp only [List.length_cons] at this
    omega
  · intro h
    have h1 : cnB (fun p => decide (p ∈ (ordF Q).1)) (Q 0).toNat = (Q 0).toNat := cnB_all _ (fun i i0 i1 => by
      rw [decide_eq_true_eq, hO.2.1 i]
      have hi : 0 ≤ i ∧ i < Q 0 := by omega
      refine ⟨hi, ?_⟩
      have := (canF_iff hP hi).mpr (h i i0 (by omega))
      unfold canF at this
      simpa using this)
    have h2 := cnB_list (Q 0).toNat (ordF Q).1
    omega
end OT
/-! the loop -/
def iterN (nx : Int → Int) : Nat → Int → Int
  | 0, p => p
  | n + 1, p => iterN nx n (nx p)
theorem iterN_succ (nx : Int → Int) : ∀ (n : Nat) (p : Int), iterN nx (n + 1) p = nx (iterN nx n p)
  | 0, p => rfl
  | n + 1, p => by
    rw [iterN, iterN_succ nx n (nx p)]
    rfl
theorem lpS_stab {nx : Int → Int} {f : Int} : ∀ (d : Nat) (p : Int), 1 ≤ d → iterN nx d p = f → ∀ n, d ≤ n → lpS nx f n p = lpS nx f d p ∧ (lpS nx f d p).length ≤ d
  | 0, p, h, _, n, _ => by omega
  | 1, p, _, h, n, hn => by
    obtain ⟨m, rfl⟩ : ∃ m, n = m + 1 := ⟨n - 1, by omega⟩
    have e : nx p = f := h
    unfold lpS
    rw [if_pos e, if_pos e]
    exact ⟨rfl, Nat.le_refl _⟩
  | d + 2, p, _, h, n, hn => by
    obtain ⟨m, rfl⟩ : ∃ m, n = m + 1 := ⟨n - 1, by omega⟩
    have ih := lpS_stab (nx := nx) (f := f) (d + 1) (nx p) (by omega) h m (by omega)
    rw [lpS, lpS]
    by_cases q : nx p = f
    · rw [if_pos q, if_pos q]
      exact ⟨rfl, by simp⟩
    · rw [if_neg q, if_neg q, ih.1]
      exact ⟨rfl, by simp only [List.length_cons]; have := ih.2; omega⟩
def Chn (nx : Int → Int) : List Int → Int → Prop
  | [], _ => True
  | h :: t, p => nx h = p ∧ Chn nx t h
theorem Chn.ret {nx : Int → Int} : ∀ (l : List Int) (p e : Int), Chn nx l p → e ∈ l → ∃ d, 1 ≤ d ∧ d ≤ l.length ∧ iterN nx d e = p
  | [], p, e, _, h => by cases h
  | h :: t, p, e, ⟨h1, h2⟩, he => by
    rcases List.mem_cons.mp he with rfl | he
    · exact ⟨1, Nat.le_refl _, by simp, h1⟩
    · obtain ⟨d, d1, d2, d3⟩ := Chn.ret t h e h2 he
      exact ⟨d + 1, by omega, by simp; omega, by rw [iterN_succ, d3, h1]⟩
/-- the entry is met again, within as many as there are -/
theorem entS_ok {nx : Int → Int} {c : Int} {St : Int → Prop} (hc : 0 ≤ c ∧ c ≤ 12) (hst : ∀ p, St p → (0 ≤ p ∧ p < c) ∧ St (nx p)) : ∀ (n : Nat) (met : List Int) (p : Int), met.length + n = 13 → met.Nodup → (∀ y ∈ met, 0 ≤ y ∧ y < c) → Chn nx met p → St p → St (entS nx n met p) ∧ ∃ d, 1 ≤ d ∧ d ≤ c.toNat ∧ iterN nx d (entS nx n met p) = entS nx n met p
  | 0, met, p, hn, hd, hm, hC, hs => by
    have := nodup_le 12 met hd (fun y hy => by have := hm y hy; omega)
    omega
  | n + 1, met, p, hn, hd, hm, hC, hs => by
    unfold entS
    by_cases q : p ∈ met
    · rw [if_pos q]
      obtain ⟨d, d1, d2, d3⟩ := Chn.ret met p p hC q
      have := nodup_le c.toNat met hd (fun y hy => by have := hm y hy; omega)
      exact ⟨hs, d, d1, by omega, d3⟩
    · rw [if_neg q]
      exact entS_ok hc hst n (p :: met) (nx p) (by simp; omega) (List.nodup_cons.mpr ⟨q, hd⟩) (fun y hy => by
        rcases List.mem_cons.mp hy with rfl | hy
        · exact (hst y hs).1
        · exact hm y hy) ⟨rfl, hC⟩ (hst p hs).2
theorem lsS_spec {can : Int → Bool} : ∀ (n : Nat) (i : Int), 0 ≤ i → (lsS can n i = -1 ∧ ∀ p, i ≤ p → p < i + n → can p = true) ∨ ((i ≤ lsS can n i ∧ lsS can n i < i + n) ∧ can (lsS can n i) = false)
  | 0, i, h => by
    unfold lsS
    exact Or.inl ⟨rfl, fun p a b => by omega⟩
  | n + 1, i, h => by
    unfold lsS
    by_cases q : can i = false
    · rw [if_pos q]
      exact Or.inr ⟨by omega, q⟩
    · rw [if_neg q]
      rcases lsS_spec (can := can) n (i + 1) (by omega) with ⟨a, b⟩ | ⟨a, b⟩
      · refine Or.inl ⟨a, fun p c d => ?_⟩
        by_cases e : p = i
        · rw [e]; simpa using q
        · exact b p (by omega) (by omega)
      · exact Or.inr ⟨by omega, b⟩
theorem stK_spec {Q : Int → Int} {E : Int → Int → Bool} {can : Int → Bool} {p : Int} : ∀ (n : Nat) (k : Int), 0 ≤ k → (stK Q E can p n k = -1 ∧ ∀ k', k ≤ k' → k' < k + n → E p k' = true → can (pNd Q p k') = true) ∨ ∃ k', (k ≤ k' ∧ k' < k + n) ∧ stK Q E can p n k = 4 * p + k' ∧ E p k' = true ∧ can (pNd Q p k') = false
  | 0, k, h => by
    unfold stK
    exact Or.inl ⟨rfl, fun k' a b => by omega⟩
  | n + 1, k, h => by
    unfold stK
    by_cases q : E p k = true ∧ can (pNd Q p k) = false
    · rw [if_pos q]
      exact Or.inr ⟨k, by omega, rfl, q.1, q.2⟩
    · rw [if_neg q]
      rcases stK_spec (Q := Q) (E := E) (can := can) (p := p) n (k + 1) (by omega) with ⟨a, b⟩ | ⟨k', a, b, c, d⟩
      · refine Or.inl ⟨a, fun k' c d e => ?_⟩
        by_cases e2 : k' = k
        · subst e2
          cases g : can (pNd Q p k') with
          | true => rfl
          | false => exact absurd ⟨e, g⟩ q
        · exact b k' (by omega) (by omega) e
      · exact Or.inr ⟨k', by omega, b, c, d⟩
/-- can is just what can start -/
def IsC (Q : Int → Int) (E : Int → Int → Bool) (can : Int → Bool) : Prop := ∀ p, 0 ≤ p → p < Q 0 → (can p = true ↔ Can Q E p)
theorem stuck {Q : Int → Int} {E : Int → Int → Bool} {can : Int → Bool} (hP : wfP Q) (hI : IsC Q E can) {p : Int} (hp : 0 ≤ p ∧ p < Q 0) (hs : can p = false) : ∃ k, (0 ≤ k ∧ k < pMany Q p) ∧ stS Q E can p = 4 * p + k ∧ E p k = true ∧ can (pNd Q p k) = false ∧ nxS Q E can p = pNd Q p k ∧ 0 ≤ pNd Q p k ∧ pNd Q p k < Q 0 := by
  have hm := hP.mn hp
  rcases stK_spec (Q := Q) (E := E) (can := can) (p := p) (pMany Q p).toNat 0 (by omega) with ⟨a, b⟩ | ⟨k', a, b, c, d⟩
  · exfalso
    have : Can Q E p := Can.of hp (fun j hj => by
      have hr := hj.rng hP hp
      obtain ⟨k, k0, k1, k2, k3⟩ := hj
      have := b k k0 (by omega) k2
      rw [k3] at this
      exact (hI j hr.1 hr.2).mp this)
    rw [(hI p hp.1 hp.2).mpr this] at hs
    cases hs
  · have hst : stS Q E can p = 4 * p + k' := b
    have hn := hP.nd hp (k := k') (by omega)
    refine ⟨k', by omega, hst, c, d, ?_, hn⟩
    unfold nxS
    rw [hst]
    congr 1 <;> omega
