/-! What reckoning keeps. -/
theorem full_memN {l : List Int} {p : Int} {N : Nat} (hd : l.Nodup) (h : ∀ x ∈ l, 0 ≤ x ∧ x < (N : Int)) (hl : l.length = N) (hp : 0 ≤ p ∧ p < (N : Int)) : p ∈ l := by
  apply Classical.byContradiction
  intro hn
  have := nodup_le N (p :: l) (List.nodup_cons.mpr ⟨hn, hd⟩) (fun x hx => by
    rcases List.mem_cons.mp hx with rfl | hx
    · omega
    · exact h x hx)
  rw [List.length_cons] at this
  omega
theorem nodup_snoc {l : List Int} {t : Int} (hd : l.Nodup) (h : t ∉ l) : (l ++ [t]).Nodup := by
  rw [List.nodup_append]
  exact ⟨hd, by simp, fun a ha b hb => by
    rw [List.mem_singleton] at hb
    subst hb
    exact fun e => h (e ▸ ha)⟩
theorem nedS_ok {B : Int} {A : Int → Int} {t p k : Int} (hA : FI B A 0) (ht : 0 ≤ t ∧ t < A 206) (hp : p = A (207 + 8 * t)) (hk : 0 ≤ k ∧ k < A (1 + 11 * p + 2)) : ExtR A (nedS t p k A).2.2 ∧ (¬ (nedS t p k A).1 < 0 → (0 ≤ (nedS t p k A).1 ∧ (nedS t p k A).1 < (nedS t p k A).2.2 206) ∧ (nedS t p k A).2.2 (207 + 8 * t + (4 + k)) = (nedS t p k A).1 + 1 ∧ (nedS t p k A).2.2 (207 + 8 * t + 2) = A (207 + 8 * t + 2) ∧ FI B (nedS t p k A).2.2 0) ∧ ((nedS t p k A).1 < 0 → (nedS t p k A).1 = -2 ∨ (nedS t p k A).1 = -3 ∨ (nedS t p k A).1 = -4) ∧ ((nedS t p k A).1 < 0 → (nedS t p k A).2.1.length ≤ 13 ∧ FI B (nedS t p k A).2.2 13) := by
  have hm := hA.2.2.1.1
  obtain ⟨w1, w2, w3, w4⟩ := hA.2.2.1.2 t ht.1 ht.2
  rw [← hp] at w1
  have hwp := hA.1.2 p w1.1 w1.2
  have hmany := hwp.2.1
  have hk4 := w4 k hk.1 (by omega)
  unfold nedS
  by_cases q : A (207 + 8 * t + (4 + k)) = 0
  · rw [if_pos q]
    have hnd := hwp.2.2.1 k hk.1 hk.2
    obtain ⟨r1, r2, r3⟩ := fetS_ok (B := B) 13 [] (A 0) (A (207 + 8 * t + 1)) rfl (by simp) (fun x hx => by cases hx) hA.1.1.2 w2 (A (1 + 11 * p + (3 + k))) A rfl hA hnd.1 hnd.2
    simp only at r1 r2 r3
    generalize fetS 13 [] (A (1 + 11 * p + (3 + k))) (A (207 + 8 * t + 1)) A = r at *
    by_cases q2 : r.1 < 0
    · rw [if_pos q2]
      exact ⟨r1.toR, fun h => absurd q2 h, fun _ => (r3 q2).1, fun _ => (r3 q2).2⟩
    · rw [if_neg q2]
      obtain ⟨r4, r5⟩ := r2 (by omega)
      have hm2 := r5.2.2.1.1
      have hl := r1.2.1
      have e4 : r.2.2 (207 + 8 * t + (4 + k)) = 0 := by rw [r1.2.2 t (4 + k) ht.1 ht.2 (by omega) (by omega)]; exact q
      refine ⟨r1.toR.trans (ua_extR (by omega) (by omega) (by omega) e4), fun _ => ⟨⟨by simp only; omega, ?_⟩, ?_, ?_, ?_⟩, fun h => absurd h q2, fun h => absurd h q2⟩
      · show r.1 < ua r.2.2 _ _ 206
        rw [ua_ne (by omega)]; exact r4
      · exact ua_eq _ _ _
      · show ua r.2.2 _ _ _ = _
        rw [ua_ne (by omega), r1.2.2 t 2 ht.1 ht.2 (by omega) (by omega)]
      · exact ua_FI r5 (by omega) (by omega) ⟨fun h => by omega, fun _ => by omega⟩
  · rw [if_neg q]
    exact ⟨ExtR.refl _, fun _ => ⟨⟨by simp only; omega, by simp only; omega⟩, by simp only; omega, rfl, hA⟩, fun h => absurd h (by simp only; omega), fun h => absurd h (by simp only; omega)⟩
theorem recL_ok {B : Int} {rec : Int → (Int → Int) → FR} {pre : List Int} {t p : Int} {N : Int} (hrec : RecR B N rec) (hpre : pre.length ≤ 60) (ht : 0 ≤ t ∧ t < N) : ∀ (n : Nat) (k : Int) (A : Int → Int), FI B A 0 → N ≤ A 206 → p = A (207 + 8 * t) → 0 ≤ k → k + n ≤ A (1 + 11 * p + 2) → (∀ i, 0 ≤ i → i < k → 0 < A (207 + 8 * t + (4 + i)) ∧ A (207 + 8 * (A (207 + 8 * t + (4 + i)) - 1) + 2) = 1) →
    ExtR A (recL rec pre t p n k A).2.2 ∧ (¬ (recL rec pre t p n k A).1 < 0 → (recL rec pre t p n k A).1 = 1 ∧ FI B (recL rec pre t p n k A).2.2 0 ∧ ∀ i, 0 ≤ i → i < k + n → 0 < (recL rec pre t p n k A).2.2 (207 + 8 * t + (4 + i)) ∧ (recL rec pre t p n k A).2.2 (207 + 8 * ((recL rec pre t p n k A).2.2 (207 + 8 * t + (4 + i)) - 1) + 2) = 1) ∧ ((recL rec pre t p n k A).1 < 0 → FailR B (recL rec pre t p n k A))
  | 0, k, A, hA, hN, hp, hk, hn, hd => ⟨ExtR.refl _, fun _ => ⟨rfl, hA, fun i a b => hd i a (by omega)⟩, fun h => absurd h (by simp only [recL]; omega)⟩
  | n + 1, k, A, hA, hN, hp, hk, hn, hd => by
    obtain ⟨w1, w2, w3, w4⟩ := hA.2.2.1.2 t ht.1 (by omega)
    rw [← hp] at w1
    have hmany := (hA.1.2 p w1.1 w1.2).2.1
    obtain ⟨e1, e2, e3, e4⟩ := nedS_ok (B := B) (A := A) (t := t) (p := p) (k := k) hA (by omega) hp (by omega)
    unfold recL
    generalize nedS t p k A = e at *
    by_cases q1 : e.1 < 0
    · rw [if_pos q1]
      obtain ⟨l1, l2⟩ := e4 q1
      exact ⟨e1, fun h => absurd q1 h, fun _ => ⟨e3 q1, by simp only [List.length_append]; omega, l2⟩⟩
    · rw [if_neg q1]
      obtain ⟨f1, f2, f3, f4⟩ := e2 q1
      have hl1 := e1.2.1
      obtain ⟨r1, r2, r3⟩ := hrec e.1 e.2.2 (by omega) f4 f1.1 f1.2
      generalize rec e.1 e.2.2 = r at *
      by_cases q2 : r.1 < 0
      · rw [if_pos q2]
        exact ⟨e1.trans r1, fun h => absurd q2 h, fun _ => r3 q2⟩
      · rw [if_neg q2]
        obtain ⟨g1, g2, g3⟩ := r2 q2
        have hl2 := r1.2.1
        have hx := e1.trans r1
        have hp2 : p = r.2.2 (207 + 8 * t) := by rw [(hx.2.2 t ht.1 (by omega)).1]; exact hp
        have hc := hA.1.1
        have hkeep : ∀ i, 0 ≤ i → i < 4 → 0 < e.2.2 (207 + 8 * t + (4 + i)) → r.2.2 (207 + 8 * t + (4 + i)) = e.2.2 (207 + 8 * t + (4 + i)) := fun i a b h => (r1.2.2 t ht.1 (by omega)).2.2.2 i a b (by omega)
        obtain ⟨i1, i2, i3⟩ := recL_ok hrec hpre ht n (k + 1) r.2.2 g3 (by omega) hp2 (by omega) (by rw [hx.1 _ (by omega)]; omega) (fun i a b => by
          by_cases ei : i = k
          · subst ei
            rw [hkeep i a (by omega) (by omega), f2]
            exact ⟨by omega, by rw [show e.1 + 1 - 1 = e.1 by omega]; exact g2⟩
          · obtain ⟨d1, d2⟩ := hd i a (by omega)
            have m1 := (e1.2.2 t ht.1 (by omega)).2.2.2 i a (by omega) (by omega)
            rw [hkeep i a (by omega) (by omega), m1]
            have hb := w4 i a (by omega)
            refine ⟨d1, ?_⟩
            exact ((hx.2.2 (A (207 + 8 * t + (4 + i)) - 1) (by omega) (by omega)).2.2.1 d2).1)
        exact ⟨hx.trans i1, fun h => by
          obtain ⟨j1, j2, j3⟩ := i2 h
          exact ⟨j1, j2, fun i a b => j3 i a (by omega)⟩, i3⟩
theorem recS_ok {B : Int} : ∀ (d : Nat) (sums prs : List Int) (N : Int), sums.length + d = 61 → prs.length = sums.length → sums.Nodup → (∀ x ∈ sums, 0 ≤ x ∧ x < N) → N ≤ 60 → RecR B N (fun t A => recS d sums prs t A)
  | 0, sums, prs, N, hl, hpl, hd, hr, hN => by
    have := nodup_le 60 sums hd (fun x hx => by have := hr x hx; omega)
    omega
  | d + 1, sums, prs, N, hl, hpl, hd, hr, hN => by
    intro t A hNA hA ht1 ht2
    show ExtR A (recS (d + 1) sums prs t A).2.2 ∧ (¬ (recS (d + 1) sums prs t A).1 < 0 → (recS (d + 1) sums prs t A).1 = 1 ∧ (recS (d + 1) sums prs t A).2.2 (207 + 8 * t + 2) = 1 ∧ FI B (recS (d + 1) sums prs t A).2.2 0) ∧ ((recS (d + 1) sums prs t A).1 < 0 → FailR B (recS (d + 1) sums prs t A))
    have hm := hA.2.2.1.1
    obtain ⟨w1, w2, w3, w4⟩ := hA.2.2.1.2 t ht1 ht2
    have hwp := hA.1.2 _ w1.1 w1.2
    have hlen : sums.length ≤ 60 := by omega
    unfold recS
    by_cases q1 : A (207 + 8 * t + 2) = 1
    · rw [if_pos q1]
      exact ⟨ExtR.refl _, fun _ => ⟨rfl, q1, hA⟩, fun h => absurd h (by simp only; omega)⟩
    · rw [if_neg q1]
      by_cases q2 : t ∈ sums
      · rw [if_pos q2]
        exact ⟨ExtR.refl _, fun h => absurd h (by simp only; omega), fun _ => ⟨Or.inl rfl, by simp only [List.length_append, List.length_singleton]; omega, hA.mono (by omega)⟩⟩
      · rw [if_neg q2]
        have hlt : sums.length < 60 := by
          apply Classical.byContradiction
          intro hh
          exact q2 (full_memN (N := 60) hd (fun x hx => by have := hr x hx; omega) (by omega) (by omega))
        have hask : 0 ≤ askd A (A (207 + 8 * t)) ∧ askd A (A (207 + 8 * t)) ≤ A (1 + 11 * A (207 + 8 * t) + 2) := by
          unfold askd
          have := hwp.2.1
          split <;> omega
        have hrec := recS_ok (B := B) d (sums ++ [t]) (prs ++ [A (207 + 8 * t)]) (A 206) (by rw [List.length_append, List.length_singleton]; omega) (by rw [List.length_append, List.length_append, List.length_singleton, List.length_singleton]; omega) (nodup_snoc hd q2) (fun x hx => by
          rcases List.mem_append.mp hx with h | h
          · have := hr x h; omega
          · rw [List.mem_singleton] at h; subst h; omega) (by omega)
        obtain ⟨l1, l2, l3⟩ := recL_ok (B := B) (N := A 206) (t := t) (p := A (207 + 8 * t)) (pre := prs ++ [A (207 + 8 * t)]) hrec (by rw [List.length_append, List.length_singleton]; omega) ⟨ht1, ht2⟩ (askd A (A (207 + 8 * t))).toNat 0 A hA (Int.le_refl _) rfl (by omega) (by omega) (fun i a b => by omega)
        have hIS : ¬ (recL (fun u C => recS d (sums ++ [t]) (prs ++ [A (207 + 8 * t)]) u C) (prs ++ [A (207 + 8 * t)]) t (A (207 + 8 * t)) (askd A (A (207 + 8 * t))).toNat 0 A).2.2 206 < 0 := by have := l1.2.1; omega
        generalize recL (fun u C => recS d (sums ++ [t]) (prs ++ [A (207 + 8 * t)]) u C) (prs ++ [A (207 + 8 * t)]) t (A (207 + 8 * t)) (askd A (A (207 + 8 * t))).toNat 0 A = r at *
        by_cases q3 : r.1 < 0
        · rw [if_pos q3]
          exact ⟨l1, fun h => absurd q3 h, l3⟩
        · rw [if_neg q3]
          obtain ⟨m1, m2, m3⟩ := l2 q3
          have hl6 := l1.2.1
          have hm2 := m2.2.2.1.1
          -- the thing itself isn't valued meanwhile, or it is: either way its mark is set now
          refine ⟨?_, fun _ => ⟨rfl, ?_, ?_⟩, fun h => absurd h (by simp only; omega)⟩
          · refine ⟨fun e he => ?_, ?_, fun u a b => ?_⟩
            · show vaS r.2.2 t e = _
              unfold vaS
              rw [ua_ne (by omega), ua_ne (by omega)]
              exact l1.1 e he
            · show _ ≤ vaS r.2.2 t 206
              unfold vaS
              rw [ua_ne (by omega), ua_ne (by omega)]
              exact hl6
            · obtain ⟨b1, b2, b3, b4⟩ := l1.2.2 u a b
              show vaS r.2.2 t _ = _ ∧ vaS r.2.2 t _ = _ ∧ (_ → vaS r.2.2 t _ = 1 ∧ vaS r.2.2 t _ = _) ∧ ∀ k, _ → _ → _ → vaS r.2.2 t _ = _
              unfold vaS
              refine ⟨by rw [ua_ne (by omega), ua_ne (by omega)]; exact b1, by rw [ua_ne (by omega), ua_ne (by omega)]; exact b2, fun q => ?_, fun k c d q => by rw [ua_ne (by omega), ua_ne (by omega)]; exact b4 k c d q⟩
              have hu : u ≠ t := fun e => by subst e; exact q1 q
              rw [ua_ne (by omega), ua_ne (by omega), ua_ne (by omega), ua_ne (by omega)]
              exact b3 q
          · show vaS r.2.2 t _ = 1
            unfold vaS
            exact ua_eq _ _ _
          · show FI B (vaS r.2.2 t) 0
            unfold vaS
            exact ua_FI (ua_FI m2 (by omega) (by omega) ⟨fun h => by omega, fun h => by omega⟩) (by rw [ua_ne (by omega)]; omega) (by omega) ⟨fun _ => by omega, fun h => by omega⟩
