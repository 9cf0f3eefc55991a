/-! Asking as a recursion, and what it keeps. -/
abbrev FR : Type := Int × List Int × (Int → Int)
def gatS (rec : Int → (Int → Int) → FR) (p : Int) : Nat → Int → (Int → Int) → (Int → Int) → Int × List Int × (Int → Int) × (Int → Int)
  | 0, _, h, A => (0, [], h, A)
  | n + 1, k, h, A =>
    if lz (A (1 + 11 * p + 7)) k = true then gatS rec p n (k + 1) h A
    else if (rec (A (1 + 11 * p + (3 + k))) A).1 < 0 then ((rec (A (1 + 11 * p + (3 + k))) A).1, (rec (A (1 + 11 * p + (3 + k))) A).2.1, h, (rec (A (1 + 11 * p + (3 + k))) A).2.2)
    else gatS rec p n (k + 1) (ua h k ((rec (A (1 + 11 * p + (3 + k))) A).1 + 1)) (rec (A (1 + 11 * p + (3 + k))) A).2.2
def makS (way : List Int) (p home turn : Int) (g : Int × List Int × (Int → Int) × (Int → Int)) : FR :=
  if g.1 < 0 then (g.1, g.2.1, g.2.2.2)
  else if 0 < g.2.2.2 (1 + 11 * p + 9) ∧ turn = g.2.2.2 (1 + 11 * p + 9) then (-3, way, g.2.2.2)
  else if g.2.2.2 206 = 60 then (-4, way, g.2.2.2)
  else (g.2.2.2 206, [], addT g.2.2.2 p home g.2.2.1)
def fetS : Nat → List Int → Int → Int → (Int → Int) → FR
  | 0, way, _, _, A => (-2, way, A)
  | d + 1, way, asked, scope, A =>
    if sIs A (sPart A asked scope) scope ≠ -1 then (sIs A (sPart A asked scope) scope, [], A)
    else if sPart A asked scope ∈ way then (-2, way ++ [sPart A asked scope], A)
    else if A 206 = 60 then (-4, way ++ [sPart A asked scope], A)
    else makS (way ++ [sPart A asked scope]) (sPart A asked scope) (sHome A (sPart A asked scope) scope) (A (133 + sPart A asked scope) + 1)
      (gatS (fun q C => fetS d (way ++ [sPart A asked scope]) q (sHome A (sPart A asked scope) scope) C) (sPart A asked scope) (A (1 + 11 * sPart A asked scope + 2)).toNat 0 (fun _ => 0) (ua A (133 + sPart A asked scope) (A (133 + sPart A asked scope) + 1)))
def Ext (A A1 : Int → Int) : Prop := (∀ e, e < 133 ∨ (145 ≤ e ∧ e < 206) ∨ 687 ≤ e → A1 e = A e) ∧ A 206 ≤ A1 206 ∧ ∀ t k, 0 ≤ t → t < A 206 → 0 ≤ k → k < 8 → A1 (207 + 8 * t + k) = A (207 + 8 * t + k)
theorem Ext.refl (A : Int → Int) : Ext A A := ⟨fun _ _ => rfl, Int.le_refl _, fun _ _ _ _ _ _ => rfl⟩
theorem Ext.trans {A A1 A2 : Int → Int} (h : Ext A A1) (h1 : Ext A1 A2) : Ext A A2 :=
  ⟨fun e he => (h1.1 e he).trans (h.1 e he), Int.le_trans h.2.1 h1.2.1, fun t k a b c d => (h1.2.2 t k a (by have := h.2.1; omega) c d).trans (h.2.2 t k a b c d)⟩
theorem Ext.wfP {A A1 : Int → Int} (h : Ext A A1) (hw : wfP A) : wfP A1 := by
  have h0 : A1 0 = A 0 := h.1 0 (by omega)
  have hc := hw.1
  refine ⟨by omega, fun p a b => ?_⟩
  obtain ⟨w1, w2, w3, w4, w5, w6, w7⟩ := hw.2 p a (by omega)
  unfold wfPart
  rw [h.1 (1 + 11 * p) (by omega), h.1 (1 + 11 * p + 2) (by omega), h.1 (1 + 11 * p + 7) (by omega), h.1 (1 + 11 * p + 8) (by omega), h.1 (1 + 11 * p + 9) (by omega), h.1 (1 + 11 * p + 10) (by omega)]
  refine ⟨w1, w2, fun k a b => ?_, w4, w5, w6, w7⟩
  rw [h.1 (1 + 11 * p + (3 + k)) (by omega), h0]
  exact w3 k a b
theorem Ext.wfS {A A1 : Int → Int} (h : Ext A A1) (hw : wfS A) : wfS A1 := by
  have h0 : A1 0 = A 0 := h.1 0 (by omega)
  refine ⟨by rw [h.1 145 (by omega)]; exact hw.1, fun s p a b c d => ?_⟩
  rw [h.1 (146 + 12 * s + p) (by omega), h0]
  exact hw.2 s p a b c d
def FI (B : Int) (A : Int → Int) (n : Nat) : Prop := wfP A ∧ wfS A ∧ wfT A ∧ (∀ p, 0 ≤ p → p < 12 → 0 ≤ A (133 + p) ∧ A (133 + p) ≤ B + n + A 206)
theorem addT_at {A : Int → Int} {p s : Int} {h : Int → Int} (hm : 0 ≤ A 206) : addT A p s h 206 = A 206 + 1 ∧ addT A p s h (207 + 8 * A 206) = p ∧ addT A p s h (207 + 8 * A 206 + 1) = s ∧ addT A p s h (207 + 8 * A 206 + 2) = 0 ∧ addT A p s h (207 + 8 * A 206 + 3) = 0 ∧ ∀ k, 0 ≤ k → k < 4 → addT A p s h (207 + 8 * A 206 + (4 + k)) = h k := by
  unfold addT
  refine ⟨?_, ?_, ?_, ?_, ?_, ?_⟩
  · simp (disch := omega) only [ua_ne, ua_eq]
  · simp (disch := omega) only [ua_ne, ua_eq]
  · simp (disch := omega) only [ua_ne, ua_eq]
  · simp (disch := omega) only [ua_ne, ua_eq]
  · simp (disch := omega) only [ua_ne, ua_eq]
  · intro k a b
    have : k = 0 ∨ k = 1 ∨ k = 2 ∨ k = 3 := by omega
    rcases this with rfl | rfl | rfl | rfl
    · simp (disch := omega) only [ua_ne, ua_eq]
    · simp (disch := omega) only [ua_ne, ua_eq]
    · simp (disch := omega) only [ua_ne, ua_eq]
    · simp (disch := omega) only [ua_ne, ua_eq]
theorem addT_out {A : Int → Int} {p s : Int} {h : Int → Int} {e : Int} (he : e ≠ 206) (h2 : e < 207 + 8 * A 206 ∨ 207 + 8 * A 206 + 8 ≤ e) : addT A p s h e = A e := by
  unfold addT
  simp (disch := omega) only [ua_ne]
theorem addT_cong {A : Int → Int} {p s : Int} {h h1 : Int → Int} (e : ∀ k, 0 ≤ k → k < 4 → h k = h1 k) : addT A p s h = addT A p s h1 := by
  unfold addT
  rw [e 0 (by omega) (by omega), e 1 (by omega) (by omega), e 2 (by omega) (by omega), e 3 (by omega) (by omega)]
theorem ua_ext {A : Int → Int} {e v : Int} (h : 133 ≤ e ∧ e < 145) : Ext A (ua A e v) :=
  ⟨fun x hx => ua_ne (by omega), by rw [ua_ne (by omega)]; exact Int.le_refl _, fun t k _ _ _ _ => ua_ne (by omega)⟩
theorem addT_ext {A : Int → Int} {p s : Int} {h : Int → Int} (hm : 0 ≤ A 206 ∧ A 206 < 60) : Ext A (addT A p s h) :=
  ⟨fun x hx => addT_out (by omega) (by omega), by rw [(addT_at hm.1).1]; omega, fun t k _ _ _ _ => addT_out (by omega) (by omega)⟩
theorem Ext.thing {A A1 : Int → Int} (h : Ext A A1) {t : Int} (ht : 0 ≤ t ∧ t < A 206) (hw : wfThing A t) : wfThing A1 t := by
  obtain ⟨w1, w2, w3, w4⟩ := hw
  have h0 : A1 0 = A 0 := h.1 0 (by omega)
  have e0 := h.2.2 t 0 ht.1 ht.2 (by omega) (by omega)
  have h2 := h.2.1
  rw [Int.add_zero] at e0
  unfold wfThing
  rw [e0, h.2.2 t 1 ht.1 ht.2 (by omega) (by omega), h.2.2 t 2 ht.1 ht.2 (by omega) (by omega), h0]
  refine ⟨w1, w2, w3, fun k a b => ?_⟩
  rw [h.2.2 t (4 + k) ht.1 ht.2 (by omega) (by omega)]
  have := w4 k a b
  omega
theorem addT_wfT {A : Int → Int} {p s : Int} {h : Int → Int} (hw : wfT A) (hl : A 206 < 60) (hp : 0 ≤ p ∧ p < A 0) (hs : 0 ≤ s ∧ s ≤ 4) (hh : ∀ k, 0 ≤ k → k < 4 → 0 ≤ h k ∧ h k ≤ A 206) : wfT (addT A p s h) := by
  have hm := hw.1
  obtain ⟨a1, a2, a3, a4, a5, a6⟩ := addT_at (A := A) (p := p) (s := s) (h := h) hm.1
  have hx := addT_ext (A := A) (p := p) (s := s) (h := h) ⟨hm.1, hl⟩
  have h0 : addT A p s h 0 = A 0 := hx.1 0 (by omega)
  refine ⟨by omega, fun t q1 q2 => ?_⟩
  by_cases e : t = A 206
  · subst e
    unfold wfThing
    rw [a2, a3, a4, h0, a1]
    refine ⟨hp, hs, by omega, fun k b1 b2 => ?_⟩
    rw [a6 k b1 b2]
    have := hh k b1 b2
    omega
  · exact hx.thing ⟨q1, by omega⟩ (hw.2 t q1 (by omega))
theorem ua_wfT {A : Int → Int} {e v : Int} (hw : wfT A) (h : 133 ≤ e ∧ e < 145) : wfT (ua A e v) := by
  have hx := ua_ext (A := A) (v := v) h
  have h6 : ua A e v 206 = A 206 := ua_ne (by omega)
  exact ⟨by rw [h6]; exact hw.1, fun t a b => hx.thing ⟨a, by omega⟩ (hw.2 t a (by omega))⟩
/-- as many different ones as there can be -/
theorem nodup_le : ∀ (n : Nat) (l : List Int), l.Nodup → (∀ x ∈ l, 0 ≤ x ∧ x < (n : Int)) → l.length ≤ n
  | 0, l, _, h => by
    cases l with
    | nil => exact Nat.le_refl _
    | cons x xs => have := h x List.mem_cons_self; omega
  | n + 1, l, hd, h => by
    by_cases hm : (n : Int) ∈ l
    · have h1 := nodup_le n (l.erase (n : Int)) (hd.erase _) (fun x hx => by
        have := h x (List.mem_of_mem_erase hx)
        have hne : x ≠ (n : Int) := fun e => by
          subst e
          exact absurd hx (List.Nodup.not_mem_erase hd)
        omega)
      rw [List.length_erase_of_mem hm] at h1
      omega
    · have := nodup_le n l hd (fun x hx => by
        have := h x hx
        have hne : x ≠ (n : Int) := fun e => hm (e ▸ hx)
        omega)
      omega
theorem full_mem {l : List Int} {p c : Int} (hc : c ≤ 12) (hd : l.Nodup) (h : ∀ x ∈ l, 0 ≤ x ∧ x < c) (hl : l.length = 12) (hp : 0 ≤ p ∧ p < c) : p ∈ l := by
  apply Classical.byContradiction
  intro hn
  have := nodup_le 12 (p :: l) (List.nodup_cons.mpr ⟨hn, hd⟩) (fun x hx => by
    rcases List.mem_cons.mp hx with rfl | hx
    · omega
    · have := h x hx; omega)
  rw [List.length_cons] at this
  omega
