/-! Reckoning as a recursion, and what it keeps. -/
def ap (act v x : Int) : Int := if act = 1 then v + x else if act = 2 then v * x else if act = 3 then (if zt x ≤ zt v then v else x) else if act = 4 then (if zt v ≤ zt x then v else x) else v - x
def vfS (A : Int → Int) (t act : Int) : Nat → Int → Int → Int
  | 0, _, v => v
  | n + 1, k, v => vfS A t act n (k + 1) (ap act v (A (207 + 8 * (A (207 + 8 * t + (4 + k)) - 1) + 3)))
def nedS (t p k : Int) (A : Int → Int) : FR :=
  if A (207 + 8 * t + (4 + k)) = 0 then
    (if (fetS 13 [] (A (1 + 11 * p + (3 + k))) (A (207 + 8 * t + 1)) A).1 < 0 then fetS 13 [] (A (1 + 11 * p + (3 + k))) (A (207 + 8 * t + 1)) A
     else ((fetS 13 [] (A (1 + 11 * p + (3 + k))) (A (207 + 8 * t + 1)) A).1, [], ua (fetS 13 [] (A (1 + 11 * p + (3 + k))) (A (207 + 8 * t + 1)) A).2.2 (207 + 8 * t + (4 + k)) ((fetS 13 [] (A (1 + 11 * p + (3 + k))) (A (207 + 8 * t + 1)) A).1 + 1)))
  else (A (207 + 8 * t + (4 + k)) - 1, [], A)
def recL (rec : Int → (Int → Int) → FR) (pre : List Int) (t p : Int) : Nat → Int → (Int → Int) → FR
  | 0, _, A => (1, [], A)
  | n + 1, k, A =>
    if (nedS t p k A).1 < 0 then ((nedS t p k A).1, pre ++ (nedS t p k A).2.1, (nedS t p k A).2.2)
    else if (rec (nedS t p k A).1 (nedS t p k A).2.2).1 < 0 then rec (nedS t p k A).1 (nedS t p k A).2.2
    else recL rec pre t p n (k + 1) (rec (nedS t p k A).1 (nedS t p k A).2.2).2.2
def askd (A : Int → Int) (p : Int) : Int := if A (1 + 11 * p) = 0 then 0 else A (1 + 11 * p + 2)
def vaS (A : Int → Int) (t : Int) : Int → Int := ua (ua A (207 + 8 * t + 3) (vfS A t (A (1 + 11 * A (207 + 8 * t))) (askd A (A (207 + 8 * t))).toNat 0 (A (1 + 11 * A (207 + 8 * t) + 1)))) (207 + 8 * t + 2) 1
def recS : Nat → List Int → List Int → Int → (Int → Int) → FR
  | 0, _, _, _, A => (-2, [], A)
  | d + 1, sums, prs, t, A =>
    if A (207 + 8 * t + 2) = 1 then (1, [], A)
    else if t ∈ sums then (-2, prs ++ [A (207 + 8 * t)], A)
    else if (recL (fun u C => recS d (sums ++ [t]) (prs ++ [A (207 + 8 * t)]) u C) (prs ++ [A (207 + 8 * t)]) t (A (207 + 8 * t)) (askd A (A (207 + 8 * t))).toNat 0 A).1 < 0 then recL (fun u C => recS d (sums ++ [t]) (prs ++ [A (207 + 8 * t)]) u C) (prs ++ [A (207 + 8 * t)]) t (A (207 + 8 * t)) (askd A (A (207 + 8 * t))).toNat 0 A
    else (1, [], vaS (recL (fun u C => recS d (sums ++ [t]) (prs ++ [A (207 + 8 * t)]) u C) (prs ++ [A (207 + 8 * t)]) t (A (207 + 8 * t)) (askd A (A (207 + 8 * t))).toNat 0 A).2.2 t)
def ExtR (A A1 : Int → Int) : Prop := (∀ e, e < 133 ∨ (145 ≤ e ∧ e < 206) ∨ 687 ≤ e → A1 e = A e) ∧ A 206 ≤ A1 206 ∧ ∀ t, 0 ≤ t → t < A 206 → A1 (207 + 8 * t) = A (207 + 8 * t) ∧ A1 (207 + 8 * t + 1) = A (207 + 8 * t + 1) ∧ (A (207 + 8 * t + 2) = 1 → A1 (207 + 8 * t + 2) = 1 ∧ A1 (207 + 8 * t + 3) = A (207 + 8 * t + 3)) ∧ ∀ k, 0 ≤ k → k < 4 → A (207 + 8 * t + (4 + k)) ≠ 0 → A1 (207 + 8 * t + (4 + k)) = A (207 + 8 * t + (4 + k))
theorem ExtR.refl (A : Int → Int) : ExtR A A := ⟨fun _ _ => rfl, Int.le_refl _, fun _ _ _ => ⟨rfl, rfl, fun h => ⟨h, rfl⟩, fun _ _ _ _ => rfl⟩⟩
theorem ExtR.trans {A A1 A2 : Int → Int} (h : ExtR A A1) (h1 : ExtR A1 A2) : ExtR A A2 := by
  refine ⟨fun e he => (h1.1 e he).trans (h.1 e he), Int.le_trans h.2.1 h1.2.1, fun t a b => ?_⟩
  have hl := h.2.1
  obtain ⟨a1, a2, a3, a4⟩ := h.2.2 t a b
  obtain ⟨b1, b2, b3, b4⟩ := h1.2.2 t a (by omega)
  refine ⟨b1.trans a1, b2.trans a2, fun q => ?_, fun k c d q => ?_⟩
  · obtain ⟨c1, c2⟩ := a3 q
    obtain ⟨d1, d2⟩ := b3 c1
    exact ⟨d1, d2.trans c2⟩
  · have e := a4 k c d q
    rw [← e] at q
    exact (b4 k c d q).trans e
theorem Ext.toR {A A1 : Int → Int} (h : Ext A A1) : ExtR A A1 := by
  refine ⟨h.1, h.2.1, fun t a b => ?_⟩
  have e0 := h.2.2 t 0 a b (by omega) (by omega)
  rw [Int.add_zero] at e0
  exact ⟨e0, h.2.2 t 1 a b (by omega) (by omega), fun q => ⟨by rw [h.2.2 t 2 a b (by omega) (by omega)]; exact q, h.2.2 t 3 a b (by omega) (by omega)⟩, fun k c d _ => h.2.2 t (4 + k) a b (by omega) (by omega)⟩
theorem ExtR.wfP {A A1 : Int → Int} (h : ExtR A A1) (hw : wfP A) : wfP A1 := by
  have h0 : A1 0 = A 0 := h.1 0 (by omega)
  have hc := hw.1
  refine ⟨by omega, fun p a b => ?_⟩
  obtain ⟨w1, w2, w3, w4, w5, w6, w7⟩ := hw.2 p a (by omega)
  unfold wfPart
  rw [h.1 (1 + 11 * p) (by omega), h.1 (1 + 11 * p + 2) (by omega), h.1 (1 + 11 * p + 7) (by omega), h.1 (1 + 11 * p + 8) (by omega), h.1 (1 + 11 * p + 9) (by omega), h.1 (1 + 11 * p + 10) (by omega)]
  refine ⟨w1, w2, fun k a b => ?_, w4, w5, w6, w7⟩
  rw [h.1 (1 + 11 * p + (3 + k)) (by omega), h0]
  exact w3 k a b
theorem ExtR.wfS {A A1 : Int → Int} (h : ExtR A A1) (hw : wfS A) : wfS A1 := by
  have h0 : A1 0 = A 0 := h.1 0 (by omega)
  refine ⟨by rw [h.1 145 (by omega)]; exact hw.1, fun s p a b c d => ?_⟩
  rw [h.1 (146 + 12 * s + p) (by omega), h0]
  exact hw.2 s p a b c d
/-- a field of a thing is set -/
theorem ua_FI {B : Int} {A : Int → Int} {n : Nat} {t k v : Int} (h : FI B A n) (ht : 0 ≤ t ∧ t < A 206) (hk : 2 ≤ k ∧ k < 8) (hv : (k = 2 → 0 ≤ v ∧ v ≤ 1) ∧ (4 ≤ k → 0 ≤ v ∧ v ≤ A 206)) : FI B (ua A (207 + 8 * t + k) v) n := by
  obtain ⟨h1, h2, h3, h4⟩ := h
  have hm := h3.1
  have h0 : ua A (207 + 8 * t + k) v 0 = A 0 := ua_ne (by omega)
  have h6 : ua A (207 + 8 * t + k) v 206 = A 206 := ua_ne (by omega)
  have hc := h1.1
  refine ⟨⟨by omega, fun p a b => ?_⟩, ⟨by rw [ua_ne (by omega)]; exact h2.1, fun s p a b c d => by rw [ua_ne (by omega), h0]; exact h2.2 s p a b c d⟩, ⟨by omega, fun u a b => ?_⟩, fun p a b => by rw [ua_ne (by omega), h6]; exact h4 p a b⟩
  · rw [h0] at b
    obtain ⟨w1, w2, w3, w4, w5, w6, w7⟩ := h1.2 p a b
    have hu : ∀ e, e < 207 → ua A (207 + 8 * t + k) v e = A e := fun e he => ua_ne (by omega)
    unfold wfPart
    rw [hu (1 + 11 * p) (by omega), hu (1 + 11 * p + 2) (by omega), hu (1 + 11 * p + 7) (by omega), hu (1 + 11 * p + 8) (by omega), hu (1 + 11 * p + 9) (by omega), hu (1 + 11 * p + 10) (by omega), h0]
    exact ⟨w1, w2, fun i c d => by rw [ua_ne (by omega)]; exact w3 i c d, w4, w5, w6, w7⟩
  · rw [h6] at b
    obtain ⟨w1, w2, w3, w4⟩ := h3.2 u a b
    unfold wfThing
    rw [ua_ne (show 207 + 8 * u ≠ 207 + 8 * t + k by omega), ua_ne (show 207 + 8 * u + 1 ≠ 207 + 8 * t + k by omega), h0, h6]
    refine ⟨w1, w2, ?_, fun i c d => ?_⟩
    · by_cases e : 207 + 8 * u + 2 = 207 + 8 * t + k
      · rw [ua_eqi e]; exact hv.1 (by omega)
      · rw [ua_ne e]; exact w3
    · by_cases e : 207 + 8 * u + (4 + i) = 207 + 8 * t + k
      · rw [ua_eqi e]; exact hv.2 (by omega)
      · rw [ua_ne e]; exact w4 i c d
/-- a need that was wanting is set -/
theorem ua_extR {A : Int → Int} {t k v : Int} (ht : 0 ≤ t ∧ t < A 206) (hm : A 206 ≤ 60) (hk : 0 ≤ k ∧ k < 4) (h0 : A (207 + 8 * t + (4 + k)) = 0) : ExtR A (ua A (207 + 8 * t + (4 + k)) v) := by
  refine ⟨fun e he => ua_ne (by omega), by rw [ua_ne (by omega)]; exact Int.le_refl _, fun u a b => ⟨ua_ne (by omega), ua_ne (by omega), fun q => ⟨by rw [ua_ne (by omega)]; exact q, ua_ne (by omega)⟩, fun i c d q => ?_⟩⟩
  by_cases e : 207 + 8 * u + (4 + i) = 207 + 8 * t + (4 + k)
  · rw [e] at q; exact absurd h0 q
  · exact ua_ne e
theorem vaS_extR {A : Int → Int} {t : Int} (ht : 0 ≤ t ∧ t < A 206) (hm : A 206 ≤ 60) (h2 : A (207 + 8 * t + 2) ≠ 1) : ExtR A (vaS A t) := by
  unfold vaS
  refine ⟨fun e he => by rw [ua_ne (by omega), ua_ne (by omega)], by rw [ua_ne (by omega), ua_ne (by omega)]; exact Int.le_refl _, fun u a b => ⟨by rw [ua_ne (by omega), ua_ne (by omega)], by rw [ua_ne (by omega), ua_ne (by omega)], fun q => ?_, fun i c d q => by rw [ua_ne (by omega), ua_ne (by omega)]⟩⟩
  have e : u ≠ t := fun e => by subst e; exact h2 q
  exact ⟨by rw [ua_ne (by omega), ua_ne (by omega)]; exact q, by rw [ua_ne (by omega), ua_ne (by omega)]⟩
def vS (A : Int → Int) : Nat → Int
  | 0 => 0
  | n + 1 => vS A n + A (207 + 8 * (n : Int) + 2)
def VA (A : Int → Int) : Int := vS A (A 206).toNat
theorem vS_rng {A : Int → Int} : ∀ n : Nat, (∀ t, 0 ≤ t → t < (n : Int) → 0 ≤ A (207 + 8 * t + 2) ∧ A (207 + 8 * t + 2) ≤ 1) → 0 ≤ vS A n ∧ vS A n ≤ n
  | 0, _ => ⟨Int.le_refl _, Int.le_refl _⟩
  | n + 1, h => by
    have h1 := vS_rng n (fun t a b => h t a (by omega))
    have h2 := h n (by omega) (by omega)
    unfold vS
    omega
theorem vS_le {A A1 : Int → Int} : ∀ n : Nat, (∀ t, 0 ≤ t → t < (n : Int) → A (207 + 8 * t + 2) ≤ A1 (207 + 8 * t + 2)) → vS A n ≤ vS A1 n
  | 0, _ => Int.le_refl _
  | n + 1, h => by
    have h1 := vS_le n (fun t a b => h t a (by omega))
    have h2 := h n (by omega) (by omega)
    unfold vS
    omega
theorem vS_more {A : Int → Int} {n : Nat} : ∀ k : Nat, (∀ t, 0 ≤ t → t < (n : Int) + k → 0 ≤ A (207 + 8 * t + 2)) → vS A n ≤ vS A (n + k)
  | 0, _ => Int.le_refl _
  | k + 1, h => by
    have h1 := vS_more (A := A) (n := n) k (fun t a b => h t a (by omega))
    have h2 := h (n + k : Nat) (by omega) (by omega)
    show vS A n ≤ vS A (n + k) + A (207 + 8 * ((n + k : Nat) : Int) + 2)
    omega
theorem vS_ua {A : Int → Int} {t v : Int} (ht : 0 ≤ t) : ∀ n : Nat, t < (n : Int) → vS (ua A (207 + 8 * t + 2) v) n = vS A n + v - A (207 + 8 * t + 2)
  | 0, h => by omega
  | n + 1, h => by
    unfold vS
    by_cases e : t = n
    · subst e
      rw [ua_eq]
      have : vS (ua A (207 + 8 * (n : Int) + 2) v) n = vS A n := Int.le_antisymm (vS_le n (fun u a b => by rw [ua_ne (by omega)]; exact Int.le_refl _)) (vS_le n (fun u a b => by rw [ua_ne (by omega)]; exact Int.le_refl _))
      omega
    · have := vS_ua (A := A) (v := v) ht n (by omega)
      rw [this, ua_ne (by omega)]
      omega
theorem VA_rng {B : Int} {A : Int → Int} {n : Nat} (h : FI B A n) : 0 ≤ VA A ∧ VA A ≤ A 206 := by
  have hm := h.2.2.1.1
  have := vS_rng (A := A) (A 206).toNat (fun t a b => (h.2.2.1.2 t a (by omega)).2.2.1)
  unfold VA
  omega
theorem VA_le {B : Int} {A A1 : Int → Int} {n n1 : Nat} (h : FI B A n) (h1 : FI B A1 n1) (hx : ExtR A A1) : VA A ≤ VA A1 := by
  have hm := h.2.2.1.1
  have hm1 := h1.2.2.1.1
  have hl := hx.2.1
  unfold VA
  have e1 : vS A (A 206).toNat ≤ vS A1 (A 206).toNat := vS_le _ (fun t a b => by
    have h2 := (h.2.2.1.2 t a (by omega)).2.2.1
    have h3 := (h1.2.2.1.2 t a (by omega)).2.2.1
    by_cases e : A (207 + 8 * t + 2) = 1
    · have := ((hx.2.2 t a (by omega)).2.2.1 e).1
      omega
    · omega)
  have e2 := vS_more (A := A1) (n := (A 206).toNat) ((A1 206).toNat - (A 206).toNat) (fun t a b => ((h1.2.2.1.2 t a (by omega)).2.2.1).1)
  rw [show (A 206).toNat + ((A1 206).toNat - (A 206).toNat) = (A1 206).toNat by omega] at e2
  omega
def FailR (B : Int) (r : FR) : Prop := (r.1 = -2 ∨ r.1 = -3 ∨ r.1 = -4) ∧ r.2.1.length ≤ 73 ∧ FI B r.2.2 13
def RecR (B : Int) (n : Int) (rec : Int → (Int → Int) → FR) : Prop := ∀ t A, n ≤ A 206 → FI B A 0 → 0 ≤ t → t < A 206 → ExtR A (rec t A).2.2 ∧ (¬ (rec t A).1 < 0 → (rec t A).1 = 1 ∧ (rec t A).2.2 (207 + 8 * t + 2) = 1 ∧ FI B (rec t A).2.2 0) ∧ ((rec t A).1 < 0 → FailR B (rec t A))
