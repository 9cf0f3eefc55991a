/-! What asking keeps. -/
def FailOK (B : Int) (r : FR) : Prop := (r.1 = -2 ∨ r.1 = -3 ∨ r.1 = -4) ∧ r.2.1.length ≤ 13 ∧ FI B r.2.2 13
def RecOK (c B : Int) (n : Nat) (rec : Int → (Int → Int) → FR) : Prop := ∀ q C, C 0 = c → FI B C n → 0 ≤ q → q < c → Ext C (rec q C).2.2 ∧ (0 ≤ (rec q C).1 → (rec q C).1 < (rec q C).2.2 206 ∧ FI B (rec q C).2.2 n) ∧ ((rec q C).1 < 0 → FailOK B (rec q C))
theorem FI.mono {B : Int} {A : Int → Int} {n m : Nat} (h : FI B A n) (hm : n ≤ m) : FI B A m :=
  ⟨h.1, h.2.1, h.2.2.1, fun p a b => by have := h.2.2.2 p a b; omega⟩
theorem gatS_ok {c B : Int} {n : Nat} {rec : Int → (Int → Int) → FR} {p : Int} (hrec : RecOK c B n rec) (hp : 0 ≤ p ∧ p < c) : ∀ (j : Nat) (k : Int) (h C : Int → Int), FI B C n → C 0 = c → C (1 + 11 * p + 2) = k + j → 0 ≤ k → (∀ i, 0 ≤ i → i < 4 → 0 ≤ h i ∧ h i ≤ C 206) →
    Ext C (gatS rec p j k h C).2.2.2 ∧ (0 ≤ (gatS rec p j k h C).1 → FI B (gatS rec p j k h C).2.2.2 n ∧ ∀ i, 0 ≤ i → i < 4 → 0 ≤ (gatS rec p j k h C).2.2.1 i ∧ (gatS rec p j k h C).2.2.1 i ≤ (gatS rec p j k h C).2.2.2 206) ∧ ((gatS rec p j k h C).1 < 0 → FailOK B ((gatS rec p j k h C).1, (gatS rec p j k h C).2.1, (gatS rec p j k h C).2.2.2))
  | 0, k, h, C, hC, _, _, _, hh => ⟨Ext.refl _, fun _ => ⟨hC, hh⟩, fun q => absurd q (by simp only [gatS]; omega)⟩
  | j + 1, k, h, C, hC, h0, hk, hk0, hh => by
    unfold gatS
    by_cases q1 : lz (C (1 + 11 * p + 7)) k = true
    · rw [if_pos q1]
      exact gatS_ok hrec hp j (k + 1) h C hC h0 (by omega) (by omega) hh
    · rw [if_neg q1]
      have hn := (hC.1.2 p hp.1 (by omega)).2.2.1 k hk0 (by omega)
      obtain ⟨r1, r2, r3⟩ := hrec (C (1 + 11 * p + (3 + k))) C h0 hC hn.1 (by omega)
      generalize rec (C (1 + 11 * p + (3 + k))) C = r at *
      by_cases q2 : r.1 < 0
      · rw [if_pos q2]
        exact ⟨r1, fun q => absurd q (by simp only; omega), fun _ => r3 q2⟩
      · rw [if_neg q2]
        obtain ⟨r4, r5⟩ := r2 (by omega)
        have e0 : r.2.2 0 = c := (r1.1 0 (by omega)).trans h0
        have hm := r1.2.1
        obtain ⟨g1, g2, g3⟩ := gatS_ok hrec hp j (k + 1) (ua h k (r.1 + 1)) r.2.2 r5 e0 (by rw [r1.1 (1 + 11 * p + 2) (by have := hC.1.1; omega)]; omega) (by omega) (fun i a b => by
          by_cases e : i = k
          · rw [ua_eqi e]; omega
          · rw [ua_ne e]; have := hh i a b; omega)
        exact ⟨r1.trans g1, g2, g3⟩
theorem fetS_ok {B : Int} : ∀ (d : Nat) (way : List Int) (c scope : Int), way.length + d = 13 → way.Nodup → (∀ x ∈ way, 0 ≤ x ∧ x < c) → c ≤ 12 → (0 ≤ scope ∧ scope ≤ 4) → RecOK c B way.length (fun q C => fetS d way q scope C)
  | 0, way, c, scope, hl, hd, hr, hc, hs => by
    have := nodup_le 12 way hd (fun x hx => by have := hr x hx; omega)
    omega
  | d + 1, way, c, scope, hl, hd, hr, hc, hs => by
    intro q A h0 hA ha1 ha2
    show Ext A (fetS (d + 1) way q scope A).2.2 ∧ (0 ≤ (fetS (d + 1) way q scope A).1 → (fetS (d + 1) way q scope A).1 < (fetS (d + 1) way q scope A).2.2 206 ∧ FI B (fetS (d + 1) way q scope A).2.2 way.length) ∧ ((fetS (d + 1) way q scope A).1 < 0 → FailOK B (fetS (d + 1) way q scope A))
    unfold fetS
    have hm := hA.2.2.1.1
    have hp : 0 ≤ sPart A q scope ∧ sPart A q scope < A 0 := sSt_rng hA.2.1 (by omega) (by omega) (scope + 1).toNat (by omega)
    have hir := sIs_rng (A := A) (p := sPart A q scope) (scope := scope) hm.1
    generalize sPart A q scope = p at *
    have hhome : 0 ≤ sHome A p scope ∧ sHome A p scope ≤ 4 := by unfold sHome; split <;> omega
    by_cases q1 : sIs A p scope ≠ -1
    · rw [if_pos q1]
      exact ⟨Ext.refl _, fun _ => ⟨by simp only; omega, hA⟩, fun h => absurd h (by simp only; omega)⟩
    · rw [if_neg q1]
      by_cases q2 : p ∈ way
      · rw [if_pos q2]
        exact ⟨Ext.refl _, fun h => absurd h (by simp only; omega), fun _ => ⟨Or.inl rfl, by simp only [List.length_append, List.length_cons, List.length_nil]; omega, hA.mono (by omega)⟩⟩
      · rw [if_neg q2]
        by_cases q3 : A 206 = 60
        · rw [if_pos q3]
          exact ⟨Ext.refl _, fun h => absurd h (by simp only; omega), fun _ => ⟨Or.inr (Or.inr rfl), by simp only [List.length_append, List.length_cons, List.length_nil]; omega, hA.mono (by omega)⟩⟩
        · rw [if_neg q3]
          have hlw : (way ++ [p]).length = way.length + 1 := by simp
          have hndw : (way ++ [p]).Nodup := by
            rw [List.nodup_append]
            exact ⟨hd, by simp, fun a ha b hb => by
              rw [List.mem_singleton] at hb
              subst hb
              exact fun e => q2 (e ▸ ha)⟩
          have hrec := fetS_ok (B := B) d (way ++ [p]) c (sHome A p scope) (by omega) hndw (fun x hx => by
            rcases List.mem_append.mp hx with h | h
            · exact hr x h
            · rw [List.mem_singleton] at h; subst h; omega) hc hhome
          rw [hlw] at hrec
          have hx1 : Ext A (ua A (133 + p) (A (133 + p) + 1)) := ua_ext (by omega)
          have h61 : ua A (133 + p) (A (133 + p) + 1) 206 = A 206 := ua_ne (by omega)
          have hFI1 : FI B (ua A (133 + p) (A (133 + p) + 1)) (way.length + 1) := ⟨hx1.wfP hA.1, hx1.wfS hA.2.1, ua_wfT hA.2.2.1 (by omega), fun i a b => by
            rw [h61]
            have := hA.2.2.2 i a b
            by_cases e : i = p
            · subst e; rw [ua_eq]; omega
            · rw [ua_ne (by omega)]; omega⟩
          have hmany := (hA.1.2 p hp.1 hp.2).2.1
          obtain ⟨g1, g2, g3⟩ := gatS_ok (p := p) hrec (by omega) (A (1 + 11 * p + 2)).toNat 0 (fun _ => 0) _ hFI1 ((hx1.1 0 (by omega)).trans h0) (by rw [hx1.1 _ (by omega)]; omega) (by omega) (fun i _ _ => ⟨Int.le_refl _, by rw [h61]; omega⟩)
          generalize gatS (fun q C => fetS d (way ++ [p]) q (sHome A p scope) C) p (A (1 + 11 * p + 2)).toNat 0 (fun _ => 0) (ua A (133 + p) (A (133 + p) + 1)) = g at *
          unfold makS
          by_cases q4 : g.1 < 0
          · rw [if_pos q4]
            exact ⟨hx1.trans g1, fun h => absurd h (by simp only; omega), fun _ => g3 q4⟩
          · rw [if_neg q4]
            obtain ⟨g4, g5⟩ := g2 (by omega)
            by_cases q5 : 0 < g.2.2.2 (1 + 11 * p + 9) ∧ A (133 + p) + 1 = g.2.2.2 (1 + 11 * p + 9)
            · rw [if_pos q5]
              exact ⟨hx1.trans g1, fun h => absurd h (by simp only; omega), fun _ => ⟨Or.inr (Or.inl rfl), by rw [hlw]; omega, g4.mono (by omega)⟩⟩
            · rw [if_neg q5]
              by_cases q6 : g.2.2.2 206 = 60
              · rw [if_pos q6]
                exact ⟨hx1.trans g1, fun h => absurd h (by simp only; omega), fun _ => ⟨Or.inr (Or.inr rfl), by rw [hlw]; omega, g4.mono (by omega)⟩⟩
              · rw [if_neg q6]
                have hm2 := g4.2.2.1.1
                have hc2 : g.2.2.2 0 = A 0 := (hx1.trans g1).1 0 (by omega)
                have hx2 := addT_ext (A := g.2.2.2) (p := p) (s := sHome A p scope) (h := g.2.2.1) ⟨hm2.1, by omega⟩
                have ha6 := (addT_at (A := g.2.2.2) (p := p) (s := sHome A p scope) (h := g.2.2.1) hm2.1).1
                refine ⟨(hx1.trans g1).trans hx2, fun _ => ⟨by simp only; omega, hx2.wfP g4.1, hx2.wfS g4.2.1, addT_wfT g4.2.2.1 (by omega) (by omega) hhome g5, fun i a b => ?_⟩, fun h => absurd h (by simp only; omega)⟩
                have := g4.2.2.2 i a b
                simp only
                rw [addT_out (by omega) (by omega), ha6]
                omega
