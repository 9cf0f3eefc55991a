/-! The fewest needs that are to be lazy: the reference's search. -/
def Gd (ok : List Int → Prop) (sl : Int → Prop) (m : Nat) (f : Int) (zs : List Int) : Prop := zs.length = m ∧ srtL zs ∧ (∀ z ∈ zs, f ≤ z ∧ sl z) ∧ ok zs
def Fst (ok : List Int → Prop) (sl : Int → Prop) (m : Nat) (f : Int) (ys : List Int) : Prop := Gd ok sl m f ys ∧ ∀ zs, Gd ok sl m f zs → ys = zs ∨ ltL ys zs
def Non (ok : List Int → Prop) (sl : Int → Prop) (m : Nat) (f : Int) : Prop := ∀ zs, ¬ Gd ok sl m f zs
/-- no good list begins below i -/
def NoB (ok : List Int → Prop) (sl : Int → Prop) (m : Nat) (f i : Int) : Prop := ∀ z zs, Gd ok sl (m + 1) f (z :: zs) → i ≤ z
theorem NoB.start (ok : List Int → Prop) (sl : Int → Prop) (m : Nat) (f : Int) : NoB ok sl m f f := fun z zs h => (h.2.2.1 z List.mem_cons_self).1
theorem NoB.skip {ok : List Int → Prop} {sl : Int → Prop} {m : Nat} {f i : Int} (h : NoB ok sl m f i) (hi : ¬ sl i) : NoB ok sl m f (i + 1) := fun z zs g => by
  have h1 := h z zs g
  have h2 := (g.2.2.1 z List.mem_cons_self).2
  have : z ≠ i := fun e => hi (e ▸ h2)
  omega
theorem Gd.tail {ok : List Int → Prop} {sl sl1 : Int → Prop} {m : Nat} {f z : Int} {zs : List Int} (h : Gd ok sl (m + 1) f (z :: zs)) (hs : ∀ b, z < b → sl b → sl1 b) : Gd (fun ys => ok (z :: ys)) sl1 m (z + 1) zs := by
  obtain ⟨h1, h2, h3, h4⟩ := h
  refine ⟨by simpa using h1, h2.2, fun y hy => ?_, h4⟩
  have := h2.1 y hy
  exact ⟨by omega, hs y this (h3 y (List.mem_cons_of_mem _ hy)).2⟩
theorem NoB.none {ok : List Int → Prop} {sl sl1 : Int → Prop} {m : Nat} {f i : Int} (h : NoB ok sl m f i) (hs : ∀ b, i < b → sl b → sl1 b) (hn : Non (fun ys => ok (i :: ys)) sl1 m (i + 1)) : NoB ok sl m f (i + 1) := fun z zs g => by
  have h1 := h z zs g
  have : z ≠ i := fun e => by
    subst e
    exact hn zs (g.tail hs)
  omega
theorem NoB.found {ok : List Int → Prop} {sl sl1 : Int → Prop} {m : Nat} {f i : Int} {ys : List Int} (h : NoB ok sl m f i) (hf : f ≤ i) (hi : sl i) (hs : ∀ b, i < b → (sl b ↔ sl1 b)) (hy : Fst (fun ys => ok (i :: ys)) sl1 m (i + 1) ys) : Fst ok sl (m + 1) f (i :: ys) := by
  obtain ⟨⟨h1, h2, h3, h4⟩, h5⟩ := hy
  refine ⟨⟨by simpa using h1, ⟨fun b hb => by have := (h3 b hb).1; omega, h2⟩, fun z hz => ?_, h4⟩, fun zs hz => ?_⟩
  · rcases List.mem_cons.mp hz with rfl | hz
    · exact ⟨hf, hi⟩
    · have := h3 z hz
      exact ⟨by omega, (hs z (by omega)).mpr this.2⟩
  · cases zs with
    | nil => have := hz.1; simp at this
    | cons z zs =>
      have hz1 := h z zs hz
      by_cases e : z = i
      · subst e
        rcases h5 zs (hz.tail (fun b hb g => (hs b hb).mp g)) with e | e
        · exact Or.inl (by rw [e])
        · exact Or.inr (Or.inr ⟨rfl, e⟩)
      · exact Or.inr (Or.inl (by omega))
theorem NoB.non {ok : List Int → Prop} {sl : Int → Prop} {m : Nat} {f : Int} (h : NoB ok sl m f 48) (hs : ∀ b, sl b → b < 48) : Non ok sl (m + 1) f := fun zs g => by
  cases zs with
  | nil => have := g.1; simp at this
  | cons z zs =>
    have h1 := h z zs g
    have h2 := hs z (g.2.2.1 z List.mem_cons_self).2
    omega
theorem Fst.zero {ok : List Int → Prop} {sl : Int → Prop} {f : Int} (h : ok []) : Fst ok sl 0 f [] := ⟨⟨rfl, trivial, fun z hz => (by cases hz), h⟩, fun zs hz => Or.inl (List.length_eq_zero_iff.mp hz.1).symm⟩
theorem Non.zero {ok : List Int → Prop} {sl : Int → Prop} {f : Int} (h : ¬ ok []) : Non ok sl 0 f := fun zs hz => by
  have e := List.length_eq_zero_iff.mp hz.1
  subst e
  exact h hz.2.2.2
/-! a need is turned -/
def xr (y k : Int) : Int := ((y.toNat ^^^ (1 <<< k.toNat) : Nat) : Int)
def tQ (Q : Int → Int) (s : Int) : Int → Int := ua Q (1 + 11 * (s / 4) + 7) (xr (Q (1 + 11 * (s / 4) + 7)) (s % 4))
theorem xr_n0 : ∀ y : Nat, y < 16 → ∀ k : Nat, k < 4 → (zt (y : Int) ^^^ ib (k : Int) = zt (xr (y : Int) (k : Int)) ∧ 0 ≤ xr (y : Int) (k : Int) ∧ xr (y : Int) (k : Int) < 16 ∧ xr (xr (y : Int) (k : Int)) (k : Int) = (y : Int)) := by decide +kernel
theorem xr_n1 : ∀ y : Nat, y < 16 → ∀ k : Nat, k < 4 → ∀ j : Nat, j < 4 → lz (xr (y : Int) (k : Int)) (j : Int) = if j = k then !(lz (y : Int) (k : Int)) else lz (y : Int) (j : Int) := by decide +kernel
theorem xr_0 {y k : Int} (hy : 0 ≤ y ∧ y < 16) (hk : 0 ≤ k ∧ k < 4) : zt y ^^^ ib k = zt (xr y k) ∧ 0 ≤ xr y k ∧ xr y k < 16 ∧ xr (xr y k) k = y := by
  have := xr_n0 y.toNat (by omega) k.toNat (by omega)
  rw [show ((y.toNat : Nat) : Int) = y by omega, show ((k.toNat : Nat) : Int) = k by omega] at this
  exact this
theorem xr_1 {y k j : Int} (hy : 0 ≤ y ∧ y < 16) (hk : 0 ≤ k ∧ k < 4) (hj : 0 ≤ j ∧ j < 4) : lz (xr y k) j = if j = k then !(lz y k) else lz y j := by
  have := xr_n1 y.toNat (by omega) k.toNat (by omega) j.toNat (by omega)
  rw [show ((y.toNat : Nat) : Int) = y by omega, show ((k.toNat : Nat) : Int) = k by omega, show ((j.toNat : Nat) : Int) = j by omega] at this
  rw [this]
  by_cases e : j = k
  · rw [if_pos e, if_pos (by omega)]
  · rw [if_neg e, if_neg (by omega)]
section TU
variable {Q : Int → Int}
theorem slotE.lt (hP : wfP Q) {s : Int} (h : slotE Q s) : (0 ≤ s / 4 ∧ s / 4 < Q 0) ∧ (0 ≤ s % 4 ∧ s % 4 < 4) ∧ s < 48 := by
  have hc := hP.1
  obtain ⟨h1, h2, h3, h4⟩ := h
  omega
theorem tQ_tQ (hP : wfP Q) {s : Int} (h : 0 ≤ s ∧ s / 4 < Q 0) : tQ (tQ Q s) s = Q := by
  have hl := (hP.2 (s / 4) (by omega) h.2).2.2.2.1
  funext e
  unfold tQ
  by_cases q : e = 1 + 11 * (s / 4) + 7
  · rw [q, ua_eq, ua_eq]
    exact (xr_0 hl (by omega)).2.2.2
  · rw [ua_ne q, ua_ne q]
theorem tQ_ne {s e : Int} (h : e ≠ 1 + 11 * (s / 4) + 7) : tQ Q s e = Q e := ua_ne h
theorem tQ_wf (hP : wfP Q) {s : Int} (h : 0 ≤ s ∧ s / 4 < Q 0) : wfP (tQ Q s) := by
  have hl := (hP.2 (s / 4) (by omega) h.2).2.2.2.1
  have e0 : tQ Q s 0 = Q 0 := tQ_ne (by omega)
  refine ⟨by rw [e0]; exact hP.1, fun i i0 i1 => ?_⟩
  rw [e0] at i1
  obtain ⟨w1, w2, w3, w4, w5, w6, w7⟩ := hP.2 i i0 i1
  unfold wfPart
  rw [tQ_ne (e := 1 + 11 * i) (by omega), tQ_ne (e := 1 + 11 * i + 2) (by omega), tQ_ne (e := 1 + 11 * i + 8) (by omega), tQ_ne (e := 1 + 11 * i + 9) (by omega), tQ_ne (e := 1 + 11 * i + 10) (by omega), e0]
  refine ⟨w1, w2, fun k k0 k1 => by rw [tQ_ne (by omega)]; exact w3 k k0 k1, ?_, w5, w6, w7⟩
  by_cases q : i = s / 4
  · rw [q]
    unfold tQ
    rw [ua_eq]
    have := xr_0 hl (k := s % 4) (by omega)
    exact ⟨this.2.1, this.2.2.1⟩
  · rw [tQ_ne (by omega)]; exact w4
theorem tQ_mn {s i : Int} : pMany (tQ Q s) i = pMany Q i := tQ_ne (by omega)
theorem tQ_nd (hP : wfP Q) {s i k : Int} (hi : 0 ≤ i ∧ i < Q 0) (hk : 0 ≤ k ∧ k < pMany Q i) : pNd (tQ Q s) i k = pNd Q i k := by
  have := hP.mn hi
  exact tQ_ne (by omega)
theorem tQ_eg (hP : wfP Q) {s i k : Int} (hs : 0 ≤ s ∧ s / 4 < Q 0) (hi : 0 ≤ i ∧ i < Q 0) (hk : 0 ≤ k ∧ k < 4) : pEg (tQ Q s) i k = if 4 * i + k = s then !(pEg Q i k) else pEg Q i k := by
  have hl := (hP.2 (s / 4) (by omega) hs.2).2.2.2.1
  unfold pEg
  by_cases q : i = s / 4
  · have e : tQ Q s (1 + 11 * i + 7) = xr (Q (1 + 11 * i + 7)) (s % 4) := by
      rw [q]
      unfold tQ
      rw [ua_eq]
    rw [e, xr_1 (by rw [q]; exact hl) (by omega) hk]
    by_cases q2 : k = s % 4
    · rw [if_pos q2, if_pos (by omega), q2]
    · rw [if_neg q2, if_neg (by omega)]
  · rw [tQ_ne (by omega), if_neg (by omega)]
theorem tQ_slot (hP : wfP Q) {s b : Int} (hs : slotE Q s) : slotE (tQ Q s) b ↔ slotE Q b ∧ b ≠ s := by
  have e0 : tQ Q s 0 = Q 0 := tQ_ne (by omega)
  have hsl := hs.lt hP
  have hs0 := hs.1
  unfold slotE
  rw [e0, tQ_mn]
  constructor
  · rintro ⟨h1, h2, h3, h4⟩
    rw [tQ_eg hP (by omega) (by omega) (by omega)] at h4
    by_cases q : 4 * (b / 4) + b % 4 = s
    · rw [if_pos q] at h4
      have e : b = s := by omega
      rw [e, hs.2.2.2] at h4
      cases h4
    · rw [if_neg q] at h4
      exact ⟨⟨h1, h2, h3, h4⟩, by omega⟩
  · rintro ⟨⟨h1, h2, h3, h4⟩, h5⟩
    refine ⟨h1, h2, h3, ?_⟩
    rw [tQ_eg hP (by omega) (by omega) (by omega), if_neg (by omega)]
    exact h4
theorem Can_iff {A : Int → Int} {E E' : Int → Int → Bool} (h0 : A 0 = Q 0) (hb : ∀ i j, 0 ≤ i → i < Q 0 → (Bnd A E' i j ↔ Bnd Q E i j)) {p : Int} : Can A E' p ↔ Can Q E p := by
  unfold Can
  constructor
  · intro g S hS
    refine g S (fun i i0 i1 hj => ?_)
    rw [h0] at i1
    exact hS i i0 i1 (fun j hx => hj j ((hb i j i0 i1).mpr hx))
  · intro g S hS
    refine g S (fun i i0 i1 hj => ?_)
    exact hS i i0 (by rw [h0]; exact i1) (fun j hx => hj j ((hb i j i0 i1).mp hx))
theorem tQ_ok (hP : wfP Q) {s : Int} (hs : slotE Q s) (zs : List Int) : okX (tQ Q s) zs ↔ okX Q (s :: zs) := by
  have e0 : tQ Q s 0 = Q 0 := tQ_ne (by omega)
  have hsl := hs.lt hP
  have hs0 := hs.1
  unfold okX
  rw [e0]
  have hb : ∀ i j, 0 ≤ i → i < Q 0 → (Bnd (tQ Q s) (exX (tQ Q s) zs) i j ↔ Bnd Q (exX Q (s :: zs)) i j) := by
    intro i j i0 i1
    have hm := hP.mn ⟨i0, i1⟩
    have he : ∀ k, 0 ≤ k → k < pMany Q i → exX (tQ Q s) zs i k = exX Q (s :: zs) i k := by
      intro k k0 k1
      unfold exX
      rw [tQ_eg hP (by omega) ⟨i0, i1⟩ (by omega), List.contains_cons]
      by_cases q : 4 * i + k = s
      · have hE : pEg Q i k = true := by
          have := hs.2.2.2
          rw [show s / 4 = i by omega, show s % 4 = k by omega] at this
          exact this
        rw [if_pos q, hE]
        simp [q]
      · have hq : (4 * i + k == s) = false := by simpa using q
        rw [if_neg q, hq, Bool.false_or]
    unfold Bnd
    rw [tQ_mn]
    constructor
    · rintro ⟨k, a, b, c, d⟩
      exact ⟨k, a, b, by rw [← he k a b]; exact c, by rw [← tQ_nd hP ⟨i0, i1⟩ ⟨a, b⟩]; exact d⟩
    · rintro ⟨k, a, b, c, d⟩
      exact ⟨k, a, b, by rw [he k a b]; exact c, by rw [tQ_nd hP ⟨i0, i1⟩ ⟨a, b⟩]; exact d⟩
  constructor
  · intro g p p0 p1
    exact (Can_iff e0 hb).mp (g p p0 p1)
  · intro g p p0 p1
    exact (Can_iff e0 hb).mpr (g p p0 p1)
theorem exX_nil : exX Q [] = pEg Q := by
  funext i k
  unfold exX
  simp
theorem okX_nil (hP : wfP Q) : okX Q [] ↔ ((ordF Q).1.length : Int) = Q 0 := by
  unfold okX
  rw [exX_nil, ord_all hP]
end TU
section RZ
variable {w : Int64} {F : Nat} {R : ZM} {Q : Int → Int}
/-- the row stays, the rest may be scratched -/
def FrZ (R R1 : ZM) : Prop := (∀ j, 0 < j → j < 17 → R1 j = R j) ∧ ∀ e, e ≠ 32 → R1 0 e = R 0 e
theorem FrZ.refl (R : ZM) : FrZ R R := ⟨fun _ _ _ => rfl, fun _ _ => rfl⟩
theorem FrZ.trans {R R1 R2 : ZM} (h : FrZ R R1) (h1 : FrZ R1 R2) : FrZ R R2 := ⟨fun j a b => (h1.1 j a b).trans (h.1 j a b), fun e a => (h1.2 e a).trans (h.2 e a)⟩
theorem x_isLoose (hF : 100 < F) (hP : wfP (R 1)) : ∃ R1, p_X11_isLoose F (LI R) w = some (zt (if ((ordF (R 1)).1.length : Int) = R 1 0 then 1 else 0), LI R1, w) ∧ FrZ R R1 ∧ R1 20 = R 20 := by
  have hc := hP.1
  have hl := (ordF_ok hP).1.len hP
  obtain ⟨R1, a1, a2, a3, a4⟩ := x_laysOrder (R := R) (w := w) (F := F) hF hP
  have e1 : R1 1 = R 1 := a3 1 (by omega) (by omega) (by omega)
  unfold p_X11_isLoose
  rw [a1, pcU_z, show (0 : Int32) = zt 0 from rfl, mI_z (by omega) (by omega) (by omega), ob_z, e1, LI_32, a2.1]
  refine ⟨R1, ?_, ⟨fun j j0 j1 => a3 j (by omega) (by omega) (by omega), a4⟩, a3 20 (by omega) (by omega) (by omega)⟩
  have hz : (zt ((ordF (R 1)).1.length : Int) = zt (R 1 0)) = (((ordF (R 1)).1.length : Int) = R 1 0) := zt_eq (by omega) (by omega) (by omega) (by omega)
  by_cases q : ((ordF (R 1)).1.length : Int) = R 1 0
  · rw [if_pos (by rw [hz]; exact q), if_pos q]; rfl
  · rw [if_neg (by rw [hz]; exact q), if_neg q]; rfl
theorem dv4 : ∀ a : Nat, a < 48 → (zt (a : Int) / zt 4 = zt ((a : Int) / 4) ∧ zt (a : Int) - zt (a : Int) / zt 4 * zt 4 = zt ((a : Int) % 4)) := by decide +kernel
theorem dv4z {a : Int} (h : 0 ≤ a ∧ a < 48) : zt a / zt 4 = zt (a / 4) ∧ zt a - zt (a / 4) * zt 4 = zt (a % 4) := by
  have := dv4 a.toNat (by omega)
  rw [show ((a.toNat : Nat) : Int) = a by omega] at this
  exact ⟨this.1, by rw [← this.1]; exact this.2⟩
theorem x_isEager {s : Int} (hP : wfP (R 1)) (hs : 0 ≤ s ∧ s < 48) : (slotE (R 1) s → p_X11_isEager F (zt s) (LI R) w = some (zt 1)) ∧ (¬ slotE (R 1) s → p_X11_isEager F (zt s) (LI R) w = some (zt 0)) := by
  have hc := hP.1
  obtain ⟨d1, d2⟩ := dv4z hs
  unfold p_X11_isEager slotE
  rw [show (4 : Int32) = zt 4 from rfl, d1, gnm_z, d2, show (0 : Int32) = zt 0 from rfl, mI_z (by omega) (by omega) (by omega), ob_z]
  have hz1 : (zt (R 1 0) ≤ zt (s / 4)) = (R 1 0 ≤ s / 4) := zt_le (by omega) (by omega) (by omega) (by omega)
  by_cases q1 : R 1 0 ≤ s / 4
  · rw [if_pos (by rw [hz1]; exact q1)]
    exact ⟨fun h => by omega, fun _ => rfl⟩
  · have hi : 0 ≤ s / 4 ∧ s / 4 < R 1 0 := by omega
    have hm := hP.mn hi
    rw [if_neg (by rw [hz1]; exact q1), show (2 : Int32) = zt 2 from rfl, x_of (by omega) (by omega), ob_z]
    have hmn : R 1 (1 + 11 * (s / 4) + 2) = pMany (R 1) (s / 4) := rfl
    rw [hmn]
    have hz2 : (zt (pMany (R 1) (s / 4)) ≤ zt (s % 4)) = (pMany (R 1) (s / 4) ≤ s % 4) := zt_le (by omega) (by omega) (by omega) (by omega)
    by_cases q2 : pMany (R 1) (s / 4) ≤ s % 4
    · rw [if_pos (by rw [hz2]; exact q2)]
      exact ⟨fun h => by omega, fun _ => rfl⟩
    · rw [if_neg (by rw [hz2]; exact q2), x_isLazy (by omega), ob_z]
      by_cases q3 : lz (R 1 (1 + 11 * (s / 4) + 7)) (s % 4) = true
      · have hpe : pEg (R 1) (s / 4) (s % 4) = false := by unfold pEg; rw [q3]; rfl
        rw [if_pos q3, if_neg (show ¬ (zt 1 = zt 0) by decide)]
        exact ⟨fun h => (by rw [hpe] at h; cases h.2.2.2), fun _ => rfl⟩
      · have q4 : lz (R 1 (1 + 11 * (s / 4) + 7)) (s % 4) = false := by simpa using q3
        have hpe : pEg (R 1) (s / 4) (s % 4) = true := by unfold pEg; rw [q4]; rfl
        rw [if_neg q3, if_pos rfl]
        exact ⟨fun _ => rfl, fun h => absurd ⟨hs.1, hi.2, by omega, hpe⟩ h⟩
theorem x_turns {s : Int} (hP : wfP (R 1)) (hs : 0 ≤ s ∧ s < 48) (hi : s / 4 < R 1 0) : p_X11_turns F (zt s) (LI R) w = some (LI (sR R 1 (tQ (R 1) s)), w) := by
  have hc := hP.1
  obtain ⟨d1, d2⟩ := dv4z hs
  have hl := (hP.2 (s / 4) (by omega) hi).2.2.2.1
  unfold p_X11_turns
  rw [show (4 : Int32) = zt 4 from rfl, d1, d2]
  simp (disch := omega) only [zt_lit, zt_mul, zt_add, mI_z, ob_z, ib_fold]
  rw [(xr_0 hl (k := s % 4) (by omega)).1]
  simp (disch := omega) only [mS_z, ob_z]
  rw [uM_row]
  rfl
end RZ
