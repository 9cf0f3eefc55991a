/-! The reference's search, level by level; looser. -/
def Res (Q : Int → Int) (m : Nat) (f : Int) (a : Int) (R R1 : ZM) (r : Int) : Prop := FrZ R R1 ∧ (∀ e, e < a → R1 20 e = R 20 e) ∧ ((r = 1 ∧ Fst (okX Q) (slotE Q) m f (seg (R1 20) m a)) ∨ (r = 0 ∧ Non (okX Q) (slotE Q) m f))
theorem Fst.cong {ok ok1 : List Int → Prop} {sl : Int → Prop} {m : Nat} {f : Int} {ys : List Int} (h : Fst ok sl m f ys) (he : ∀ zs, ok zs ↔ ok1 zs) : Fst ok1 sl m f ys := ⟨⟨h.1.1, h.1.2.1, h.1.2.2.1, (he _).mp h.1.2.2.2⟩, fun zs hz => h.2 zs ⟨hz.1, hz.2.1, hz.2.2.1, (he _).mpr hz.2.2.2⟩⟩
theorem Non.cong {ok ok1 : List Int → Prop} {sl : Int → Prop} {m : Nat} {f : Int} (h : Non ok sl m f) (he : ∀ zs, ok zs ↔ ok1 zs) : Non ok1 sl m f := fun zs hz => h zs ⟨hz.1, hz.2.1, hz.2.2.1, (he _).mpr hz.2.2.2⟩
section SC
variable {w : Int64} {F : Nat} {Q : Int → Int}
theorem FrZ.back {R R2 : ZM} {i : Int} (hR : R 1 = Q) (h : FrZ (sR R 1 (tQ Q i)) R2) : FrZ R (sR R2 1 Q) := by
  refine ⟨fun j j0 j1 => ?_, fun e he => ?_⟩
  · by_cases q : j = 1
    · rw [q, sR_eq, hR]
    · rw [sR_ne q, h.1 j j0 j1, sR_ne q]
  · rw [sR_ne (by omega), h.2 e he, sR_ne (by omega)]
theorem scan {m : Nat} {a : Int} {z : Int32 → (Nat → Nat → Int32) → Int64 → Option (Int32 × (Nat → Nat → Int32) × Int64)} {b : (Int32 → (Nat → Nat → Int32) → Int64 → Option (Int32 × (Nat → Nat → Int32) × Int64)) → Int32 → (Nat → Nat → Int32) → Int64 → Option (Int32 × (Nat → Nat → Int32) × Int64)} (hP : wfP Q)
    (h48 : ∀ r R, b r (zt 48) (LI R) w = some (zt 0, LI R, w))
    (hskip : ∀ r R i, (0 ≤ i ∧ i < 48) → R 1 = Q → ¬ slotE Q i → b r (zt i) (LI R) w = r (zt (i + 1)) (LI R) w)
    (hslot : ∀ r R i, (0 ≤ i ∧ i < 48) → R 1 = Q → slotE Q i → ∃ y R2, Res (tQ Q i) m (i + 1) (a + 1) (sR R 1 (tQ Q i)) R2 y ∧ (y = 0 → b r (zt i) (LI R) w = r (zt (i + 1)) (LI (sR R2 1 Q)) w) ∧ (y = 1 → b r (zt i) (LI R) w = some (zt 1, LI (uM (sR R2 1 Q) 20 a i), w))) {f : Int} (hf : 0 ≤ f) :
    ∀ (n : Nat) (i : Int) (R : ZM) (K : Nat), i + n = 48 → f ≤ i → R 1 = Q → NoB (okX Q) (slotE Q) m f i → n < K → ∃ y R1, fixN z b K (zt i) (LI R) w = some (zt y, LI R1, w) ∧ Res Q (m + 1) f a R R1 y := by
  intro n
  induction n with
  | zero =>
    intro i R K h1 h2 hR hN hK
    obtain ⟨g, rfl⟩ : ∃ g, K = g + 1 := ⟨K - 1, by omega⟩
    have e : i = 48 := by omega
    subst e
    rw [fix_succ, h48]
    exact ⟨0, R, rfl, FrZ.refl _, fun _ _ => rfl, Or.inr ⟨rfl, hN.non (fun s hs => (hs.lt hP).2.2)⟩⟩
  | succ n ih =>
    intro i R K h1 h2 hR hN hK
    obtain ⟨g, rfl⟩ : ∃ g, K = g + 1 := ⟨K - 1, by omega⟩
    rw [fix_succ]
    have hi : 0 ≤ i ∧ i < 48 := by omega
    by_cases q : slotE Q i
    · obtain ⟨y, R2, ⟨r1, r2, r3⟩, k0, k1⟩ := hslot (fixN z b g) R i hi hR q
      have hsl : ∀ s, i < s → (slotE Q s ↔ slotE (tQ Q i) s) := fun s hs => by
        rw [tQ_slot hP q]
        exact ⟨fun g => ⟨g, by omega⟩, fun g => g.1⟩
      have hok : ∀ zs, okX (tQ Q i) zs ↔ okX Q (i :: zs) := tQ_ok hP q
      rcases r3 with ⟨y1, r3⟩ | ⟨y0, r3⟩
      · rw [k1 y1]
        refine ⟨1, _, rfl, ?_, fun e he => ?_, Or.inl ⟨rfl, ?_⟩⟩
        · refine (FrZ.back hR r1).trans ⟨fun j j0 j1 => by funext e; exact uM_ne (by omega), fun e he => uM_ne (by omega)⟩
        · rw [uM_nei (by omega), sR_ne (by omega), r2 e (by omega), sR_ne (by omega)]
        · rw [seg, uM_eq]
          have hse : seg (uM (sR R2 1 Q) 20 a i 20) m (a + 1) = seg (R2 20) m (a + 1) := seg_cong m (a + 1) (fun j j0 j1 => by rw [uM_nei (by omega), sR_ne (by omega)])
          rw [hse]
          exact hN.found h2 q hsl (r3.cong hok)
      · rw [k0 y0]
        obtain ⟨y2, R1, b1, b2, b3, b4⟩ := ih (i + 1) (sR R2 1 Q) g (by omega) (by omega) (sR_eq _ _ _) (hN.none (fun s hs g => (hsl s hs).mp g) (r3.cong hok)) (by omega)
        refine ⟨y2, R1, b1, (FrZ.back hR r1).trans b2, fun e he => ?_, b4⟩
        rw [b3 e he, sR_ne (by omega), r2 e (by omega), sR_ne (by omega)]
    · rw [hskip _ R i hi hR q]
      exact ih (i + 1) R g (by omega) (by omega) hR (hN.skip q) (by omega)
/-- turn, try, turn back -/
theorem x_turn2 {R R2 : ZM} {i : Int} (hP : wfP Q) (hi : 0 ≤ i ∧ i < 48) (hs : slotE Q i) (h : FrZ (sR R 1 (tQ Q i)) R2) : p_X11_turns F (zt i) (LI R2) w = some (LI (sR R2 1 Q), w) := by
  have hl := hs.lt hP
  have e1 : R2 1 = tQ Q i := by rw [h.1 1 (by omega) (by omega), sR_eq]
  have e0 : tQ Q i 0 = Q 0 := tQ_ne (by omega)
  rw [x_turns (by rw [e1]; exact tQ_wf hP (by omega)) hi (by rw [e1, e0]; omega), e1, tQ_tQ hP (by omega)]
theorem x_loose0 {R : ZM} {f a : Int} (hF : 100 < F) (hP : wfP (R 1)) : ∃ y R1, p_X11_isLoose F (LI R) w = some (zt y, LI R1, w) ∧ Res (R 1) 0 f a R R1 y := by
  obtain ⟨R1, a1, a2, a3⟩ := x_isLoose (R := R) (w := w) (F := F) hF hP
  by_cases q : ((ordF (R 1)).1.length : Int) = R 1 0
  · rw [if_pos q] at a1
    exact ⟨1, R1, a1, a2, fun e _ => by rw [a3], Or.inl ⟨rfl, Fst.zero ((okX_nil hP).mpr q)⟩⟩
  · rw [if_neg q] at a1
    exact ⟨0, R1, a1, a2, fun e _ => by rw [a3], Or.inr ⟨rfl, Non.zero (fun g => q ((okX_nil hP).mp g))⟩⟩
theorem mN1 {sg : Nat → Nat → Int32} {w : Int64} : mN .boolean (1 : Int32) sg w = some (zt 1, sg, w) := rfl
theorem mN0 {sg : Nat → Nat → Int32} {w : Int64} : mN .boolean (0 : Int32) sg w = some (zt 0, sg, w) := rfl
theorem Res.y01 {m : Nat} {f a : Int} {R R1 : ZM} {y : Int} (h : Res Q m f a R R1 y) : y = 1 ∨ y = 0 := h.2.2.elim (fun g => Or.inl g.1) (fun g => Or.inr g.1)
theorem x_last {R : ZM} {f : Int} (hF : 100 < F) (hP : wfP Q) (hR : R 1 = Q) (hf : 0 ≤ f ∧ f ≤ 48) : ∃ y R1, p_X11_isLastEnough F (zt f) (LI R) w = some (zt y, LI R1, w) ∧ Res Q 1 f 2 R R1 y := by
  unfold p_X11_isLastEnough
  refine scan (m := 0) hP (fun r R => ?_) (fun r R i hi hR q => ?_) (fun r R i hi hR q => ?_) hf.1 (48 - f).toNat f R F (by omega) (Int.le_refl _) hR (NoB.start _ _ _ _) (by omega)
  · unfold pb_X11_isLastEnough_2
    rw [if_pos (show (48 : Int32) ≤ zt 48 by decide), mN0]
  · unfold pb_X11_isLastEnough_2
    rw [show (48 : Int32) = zt 48 from rfl, if_neg (zle_neg hi.2 (by omega) (by omega)), (x_isEager (R := R) (by rw [hR]; exact hP) hi).2 (by rw [hR]; exact q), ob_z, if_pos zz0, show (1 : Int32) = zt 1 from rfl, zt_add]
  · have hl := q.lt hP
    have hT : p_X11_turns F (zt i) (LI R) w = some (LI (sR R 1 (tQ Q i)), w) := by rw [x_turns (by rw [hR]; exact hP) hi (by rw [hR]; omega), hR]
    have hwf : wfP (sR R 1 (tQ Q i) 1) := by rw [sR_eq]; exact tQ_wf hP (by omega)
    obtain ⟨y, R2, a1, a2⟩ := x_loose0 (w := w) (F := F) (f := i + 1) (a := 3) hF hwf
    rw [sR_eq] at a2
    have hB := x_turn2 (w := w) (F := F) hP hi q a2.1
    refine ⟨y, R2, a2, fun e => ?_, fun e => ?_⟩
    · unfold pb_X11_isLastEnough_2
      rw [show (48 : Int32) = zt 48 from rfl, if_neg (zle_neg hi.2 (by omega) (by omega)), (x_isEager (R := R) (by rw [hR]; exact hP) hi).1 (by rw [hR]; exact q), ob_z, if_neg zz1, hT, pcU_z, a1, pcI_z, hB, pcU_z, e, if_pos zz0, show (1 : Int32) = zt 1 from rfl, zt_add]
    · unfold pb_X11_isLastEnough_2 pk_X11_isLastEnough_38
      rw [show (48 : Int32) = zt 48 from rfl, if_neg (zle_neg hi.2 (by omega) (by omega)), (x_isEager (R := R) (by rw [hR]; exact hP) hi).1 (by rw [hR]; exact q), ob_z, if_neg zz1, hT, pcU_z, a1, pcI_z, hB, pcU_z, e, if_neg zz1, show (2 : Int32) = zt 2 from rfl, mS_z (by omega) (by omega) (by omega), ob_z, mN1]
theorem x_two {R : ZM} {f : Int} {m : Nat} (hF : 100 < F) (hP : wfP Q) (hm : m = 0 ∨ m = 1) (hR : R 1 = Q) (hf : 0 ≤ f ∧ f ≤ 48) : ∃ y R1, p_X11_areTwoEnough F (zt ((m : Int) + 2)) (zt f) (LI R) w = some (zt y, LI R1, w) ∧ Res Q (m + 1) f 1 R R1 y := by
  unfold p_X11_areTwoEnough
  refine scan (m := m) hP (fun r R => ?_) (fun r R i hi hR q => ?_) (fun r R i hi hR q => ?_) hf.1 (48 - f).toNat f R F (by omega) (Int.le_refl _) hR (NoB.start _ _ _ _) (by omega)
  · unfold pb_X11_areTwoEnough_2
    rw [if_pos (show (48 : Int32) ≤ zt 48 by decide), mN0]
  · unfold pb_X11_areTwoEnough_2
    rw [show (48 : Int32) = zt 48 from rfl, if_neg (zle_neg hi.2 (by omega) (by omega)), (x_isEager (R := R) (by rw [hR]; exact hP) hi).2 (by rw [hR]; exact q), ob_z, if_pos zz0, show (1 : Int32) = zt 1 from rfl, zt_add]
  · have hl := q.lt hP
    have hT : p_X11_turns F (zt i) (LI R) w = some (LI (sR R 1 (tQ Q i)), w) := by rw [x_turns (by rw [hR]; exact hP) hi (by rw [hR]; omega), hR]
    have hwf : wfP (tQ Q i) := tQ_wf hP (by omega)
    have s43 : ∀ (y : Int) (R2 : ZM), FrZ (sR R 1 (tQ Q i)) R2 → (y = 0 → pk_X11_areTwoEnough_43 F r (zt ((m : Int) + 2)) (zt i) (zt y) (LI R2) w = r (zt (i + 1)) (LI (sR R2 1 Q)) w) ∧ (y = 1 → pk_X11_areTwoEnough_43 F r (zt ((m : Int) + 2)) (zt i) (zt y) (LI R2) w = some (zt 1, LI (uM (sR R2 1 Q) 20 1 i), w)) := by
      intro y R2 h2
      have hB := x_turn2 (w := w) (F := F) hP hi q h2
      unfold pk_X11_areTwoEnough_43 pk_X11_areTwoEnough_55
      rw [hB, pcU_z]
      refine ⟨fun e => ?_, fun e => ?_⟩
      · rw [e, if_pos zz0, show (1 : Int32) = zt 1 from rfl, zt_add]
      · rw [e, if_neg zz1, show (1 : Int32) = zt 1 from rfl, mS_z (by omega) (by omega) (by omega), ob_z]; rfl
    have hpre : ∀ (o : Option (Int32 × (Nat → Nat → Int32) × Int64)), (if zt ((m : Int) + 2) = (2 : Int32) then pcI (p_X11_isLoose F (LI (sR R 1 (tQ Q i))) w) (fun x12 sg10 w11 => pk_X11_areTwoEnough_43 F r (zt ((m : Int) + 2)) (zt i) x12 sg10 w11) else pcI (p_X11_isLastEnough F (zt i + (1 : Int32)) (LI (sR R 1 (tQ Q i))) w) (fun x6 sg4 w5 => pk_X11_areTwoEnough_43 F r (zt ((m : Int) + 2)) (zt i) x6 sg4 w5)) = o → pb_X11_areTwoEnough_2 F (zt ((m : Int) + 2)) r (zt i) (LI R) w = o := by
      intro o ho
      unfold pb_X11_areTwoEnough_2
      rw [show (48 : Int32) = zt 48 from rfl, if_neg (zle_neg hi.2 (by omega) (by omega)), (x_isEager (R := R) (by rw [hR]; exact hP) hi).1 (by rw [hR]; exact q), ob_z, if_neg zz1, hT, pcU_z]
      exact ho
    rcases hm with rfl | rfl
    · obtain ⟨y, R2, a1, a2⟩ := x_loose0 (R := sR R 1 (tQ Q i)) (w := w) (F := F) (f := i + 1) (a := 2) hF (by rw [sR_eq]; exact hwf)
      rw [sR_eq] at a2
      refine ⟨y, R2, a2, fun e => hpre _ ?_, fun e => hpre _ ?_⟩
      · rw [if_pos (by decide), a1, pcI_z, (s43 y R2 a2.1).1 e]
      · rw [if_pos (by decide), a1, pcI_z, (s43 y R2 a2.1).2 e]
    · obtain ⟨y, R2, a1, a2⟩ := x_last (R := sR R 1 (tQ Q i)) (w := w) (F := F) (f := i + 1) hF hwf (sR_eq _ _ _) (by omega)
      refine ⟨y, R2, a2, fun e => hpre _ ?_, fun e => hpre _ ?_⟩
      · rw [if_neg (by decide), show (1 : Int32) = zt 1 from rfl, zt_add, a1, pcI_z, (s43 y R2 a2.1).1 e]
      · rw [if_neg (by decide), show (1 : Int32) = zt 1 from rfl, zt_add, a1, pcI_z, (s43 y R2 a2.1).2 e]
theorem x_enough {R : ZM} {m : Nat} (hF : 100 < F) (hP : wfP Q) (hm : m = 0 ∨ m = 1 ∨ m = 2) (hR : R 1 = Q) : ∃ y R1, p_X11_areEnough F (zt ((m : Int) + 1)) (LI R) w = some (zt y, LI R1, w) ∧ Res Q (m + 1) 0 0 R R1 y := by
  unfold p_X11_areEnough
  rw [show (0 : Int32) = zt 0 from rfl]
  refine scan (m := m) hP (fun r R => ?_) (fun r R i hi hR q => ?_) (fun r R i hi hR q => ?_) (Int.le_refl 0) 48 0 R F (by omega) (Int.le_refl _) hR (NoB.start _ _ _ _) (by omega)
  · unfold pb_X11_areEnough_2
    rw [if_pos (show (48 : Int32) ≤ zt 48 by decide), mN0]
  · unfold pb_X11_areEnough_2
    rw [show (48 : Int32) = zt 48 from rfl, if_neg (zle_neg hi.2 (by omega) (by omega)), (x_isEager (R := R) (by rw [hR]; exact hP) hi).2 (by rw [hR]; exact q), ob_z, if_pos zz0, show (1 : Int32) = zt 1 from rfl, zt_add]
  · have hl := q.lt hP
    have hT : p_X11_turns F (zt i) (LI R) w = some (LI (sR R 1 (tQ Q i)), w) := by rw [x_turns (by rw [hR]; exact hP) hi (by rw [hR]; omega), hR]
    have hwf : wfP (tQ Q i) := tQ_wf hP (by omega)
    have s43 : ∀ (y : Int) (R2 : ZM), FrZ (sR R 1 (tQ Q i)) R2 → (y = 0 → pk_X11_areEnough_44 F r (zt ((m : Int) + 1)) (zt i) (zt y) (LI R2) w = r (zt (i + 1)) (LI (sR R2 1 Q)) w) ∧ (y = 1 → pk_X11_areEnough_44 F r (zt ((m : Int) + 1)) (zt i) (zt y) (LI R2) w = some (zt 1, LI (uM (sR R2 1 Q) 20 0 i), w)) := by
      intro y R2 h2
      have hB := x_turn2 (w := w) (F := F) hP hi q h2
      unfold pk_X11_areEnough_44 pk_X11_areEnough_54
      rw [hB, pcU_z]
      refine ⟨fun e => ?_, fun e => ?_⟩
      · rw [e, if_pos zz0, show (1 : Int32) = zt 1 from rfl, zt_add]
      · rw [e, if_neg zz1, show (0 : Int32) = zt 0 from rfl, mS_z (by omega) (by omega) (by omega), ob_z]; rfl
    have hpre : ∀ (o : Option (Int32 × (Nat → Nat → Int32) × Int64)), (if zt ((m : Int) + 1) = (1 : Int32) then pcI (p_X11_isLoose F (LI (sR R 1 (tQ Q i))) w) (fun x12 sg10 w11 => pk_X11_areEnough_44 F r (zt ((m : Int) + 1)) (zt i) x12 sg10 w11) else pcI (p_X11_areTwoEnough F (zt ((m : Int) + 1)) (zt i + (1 : Int32)) (LI (sR R 1 (tQ Q i))) w) (fun x6 sg4 w5 => pk_X11_areEnough_44 F r (zt ((m : Int) + 1)) (zt i) x6 sg4 w5)) = o → pb_X11_areEnough_2 F (zt ((m : Int) + 1)) r (zt i) (LI R) w = o := by
      intro o ho
      unfold pb_X11_areEnough_2
      rw [show (48 : Int32) = zt 48 from rfl, if_neg (zle_neg hi.2 (by omega) (by omega)), (x_isEager (R := R) (by rw [hR]; exact hP) hi).1 (by rw [hR]; exact q), ob_z, if_neg zz1, hT, pcU_z]
      exact ho
    rcases hm with rfl | hm
    · obtain ⟨y, R2, a1, a2⟩ := x_loose0 (R := sR R 1 (tQ Q i)) (w := w) (F := F) (f := i + 1) (a := 1) hF (by rw [sR_eq]; exact hwf)
      rw [sR_eq] at a2
      refine ⟨y, R2, a2, fun e => hpre _ ?_, fun e => hpre _ ?_⟩
      · rw [if_pos (by decide), a1, pcI_z, (s43 y R2 a2.1).1 e]
      · rw [if_pos (by decide), a1, pcI_z, (s43 y R2 a2.1).2 e]
    · obtain ⟨m', rfl⟩ : ∃ m', m = m' + 1 := ⟨m - 1, by omega⟩
      obtain ⟨y, R2, a1, a2⟩ := x_two (R := sR R 1 (tQ Q i)) (w := w) (F := F) (f := i + 1) (m := m') hF hwf (by omega) (sR_eq _ _ _) (by omega)
      have em : ((m' + 1 : Nat) : Int) + 1 = (m' : Int) + 2 := by omega
      rw [em] at hpre s43
      rw [em]
      have hne : ¬ (zt ((m' : Int) + 2) = (1 : Int32)) := by
        rw [show (1 : Int32) = zt 1 from rfl, zt_eq (by omega) (by omega) (by omega) (by omega)]; omega
      refine ⟨y, R2, a2, fun e => hpre _ ?_, fun e => hpre _ ?_⟩
      · rw [if_neg hne, show (1 : Int32) = zt 1 from rfl, zt_add, a1, pcI_z, (s43 y R2 a2.1).1 e]
      · rw [if_neg hne, show (1 : Int32) = zt 1 from rfl, zt_add, a1, pcI_z, (s43 y R2 a2.1).2 e]
/-- what looser answers, of the row -/
def LzA (Q : Int → Int) (k ans : Int) : Prop := (ans = -2 ∧ LooN Q) ∨ ∃ xs, LooS Q xs ∧ ans = pickS xs k
theorem gd_Gd {xs : List Int} : gdX Q xs ↔ xs.length ≤ 3 ∧ Gd (okX Q) (slotE Q) xs.length 0 xs := by
  unfold gdX Gd
  constructor
  · rintro ⟨h1, h2, h3, h4⟩
    exact ⟨h3, rfl, h1, fun z hz => ⟨(h2 z hz).1, h2 z hz⟩, h4⟩
  · rintro ⟨h1, h2, h3, h4, h5⟩
    exact ⟨h3, fun z hz => (h4 z hz).2, h1, h5⟩
theorem Fst.loos {m : Nat} {ys : List Int} (h : Fst (okX Q) (slotE Q) m 0 ys) (hm : m ≤ 3) (hn : ∀ j, j < m → Non (okX Q) (slotE Q) j 0) : LooS Q ys := by
  have hl := h.1.1
  refine ⟨gd_Gd.mpr ⟨by omega, by rw [hl]; exact h.1⟩, fun zs hz => ?_⟩
  obtain ⟨z1, z2⟩ := gd_Gd.mp hz
  rcases Nat.lt_trichotomy zs.length m with g | g | g
  · exact absurd z2 (hn _ g zs)
  · rw [g] at z2
    exact Or.inr ⟨by omega, h.2 zs z2⟩
  · exact Or.inl (by omega)
theorem x_looser {R : ZM} {k : Int} (hF : 100 < F) (hk : -2147483648 ≤ k ∧ k < 2147483648) (hP : wfP (R 1)) : ∃ ans R1, p_X11_looser F (zt k) (LI R) w = some (zt ans, LI R1, w) ∧ LzA (R 1) k ans ∧ FrQ R R1 := by
  have e1 : R0 R 1 = R 1 := R0_row (by omega)
  unfold p_X11_looser
  rw [show (0 : Int32) = zt 0 from rfl, R0_z, gnm_z]
  obtain ⟨y, R2, a1, a2⟩ := x_loose0 (R := R0 R) (w := w) (F := F) (f := 0) (a := 0) hF (by rw [e1]; exact hP)
  rw [e1] at a2
  rw [a1, pcI_z]
  have toQ : ∀ R1, FrZ (R0 R) R1 → FrQ R R1 := fun R1 h => (FrQ.r0 R).trans ⟨h.1, fun e _ g _ => h.2 e g⟩
  have fin : ∀ (m : Nat) (R1 : ZM), m ≤ 3 → (∀ j, j < m → Non (okX (R 1)) (slotE (R 1)) j 0) → Fst (okX (R 1)) (slotE (R 1)) m 0 (seg (R1 20) m 0) → pk_X11_looser_41 F (zt k) (zt m) (LI R1) w = some (zt (pickS (seg (R1 20) m 0) k), LI R1, w) ∧ LzA (R 1) k (pickS (seg (R1 20) m 0) k) := by
    intro m R1 hm hn hf
    refine ⟨?_, Or.inr ⟨_, hf.loos hm hn, rfl⟩⟩
    have hlen : (seg (R1 20) m 0).length = m := seg_len _ _ _
    unfold pk_X11_looser_41 pickS
    rw [hlen]
    simp (disch := omega) only [zt_lit, zt_neg, zt_eq, zt_sub, x_in, ob_z]
    rw [if_neg (by omega)]
    by_cases c1 : k = -1
    · rw [if_pos c1, if_pos c1]
    · rw [if_neg c1, if_neg c1]
      by_cases c2 : 0 ≤ k ∧ k < m
      · rw [if_pos (show 0 ≤ k ∧ k ≤ (m : Int) - 1 by omega), if_neg (by decide), if_pos c2, mI_z (by omega) (by omega) (by omega), ob_z, seg_at _ _ _ _ (by omega), show (0 : Int) + (k.toNat : Int) = k by omega]
        rfl
      · rw [if_neg (show ¬ (0 ≤ k ∧ k ≤ (m : Int) - 1) by omega), if_pos rfl, if_neg c2]
  have key : ∀ (n m : Nat) (R3 : ZM) (K : Nat), m + n = 3 → R3 1 = R 1 → (∀ j, j < m + 1 → Non (okX (R 1)) (slotE (R 1)) j 0) → n + 1 < K → ∃ ans R1, fixN (fun _ _ _ => none) (pb_X11_looser_18 F (zt k)) K (zt ((m : Int) + 1)) (LI R3) w = some (zt ans, LI R1, w) ∧ LzA (R 1) k ans ∧ FrZ R3 R1 := by
    intro n
    induction n with
    | zero =>
      intro m R3 K h1 h2 h3 hK
      obtain ⟨g, rfl⟩ : ∃ g, K = g + 1 := ⟨K - 1, by omega⟩
      have hm3 : m = 3 := by omega
      subst hm3
      rw [fix_succ]
      refine ⟨-2, R3, ?_, Or.inl ⟨rfl, fun ys hy => ?_⟩, FrZ.refl _⟩
      · unfold pb_X11_looser_18 pk_X11_looser_41
        rw [if_neg (by decide), if_pos (by decide), if_pos (by decide)]
        rfl
      · obtain ⟨y1, y2⟩ := gd_Gd.mp hy
        exact h3 _ (by omega) ys y2
    | succ n ih =>
      intro m R3 K h1 h2 h3 hK
      obtain ⟨g, rfl⟩ : ∃ g, K = g + 1 := ⟨K - 1, by omega⟩
      rw [fix_succ]
      generalize hr : fixN (fun _ _ _ => none) (pb_X11_looser_18 F (zt k)) g = r
      unfold pb_X11_looser_18
      obtain ⟨y3, R4, b1, b2, b3, b4⟩ := x_enough (R := R3) (w := w) (F := F) (m := m) hF hP (by omega) h2
      have z1 : ¬ (zt ((m : Int) + 1) ≤ 0) := by rw [show (0 : Int32) = zt 0 from rfl, zt_le (by omega) (by omega) (by omega) (by omega)]; omega
      have z2 : ¬ ((4 : Int32) ≤ zt ((m : Int) + 1)) := by rw [show (4 : Int32) = zt 4 from rfl, zt_le (by omega) (by omega) (by omega) (by omega)]; omega
      rw [if_neg z1, if_neg z2, b1, pcI_z]
      rcases b4 with ⟨c1, c2⟩ | ⟨c1, c2⟩
      · rw [c1, if_neg zz1]
        obtain ⟨f1, f2⟩ := fin (m + 1) R4 (by omega) h3 c2
        have e9 : ((m + 1 : Nat) : Int) = (m : Int) + 1 := by omega
        rw [e9] at f1
        exact ⟨_, R4, f1, f2, b2⟩
      · rw [c1, if_pos zz0, ← hr]
        have h3' : ∀ j, j < m + 1 + 1 → Non (okX (R 1)) (slotE (R 1)) j 0 := fun j hj => by
          rcases Nat.lt_or_ge j (m + 1) with g | g
          · exact h3 j g
          · have : j = m + 1 := by omega
            rw [this]; exact c2
        obtain ⟨ans, R5, d1, d2, d3⟩ := ih (m + 1) R4 g (by omega) (by rw [b2.1 1 (by omega) (by omega), h2]) h3' (by omega)
        refine ⟨ans, R5, ?_, d2, b2.trans d3⟩
        rw [show (1 : Int32) = zt 1 from rfl, zt_add]
        exact d1
  rcases a2.2.2 with ⟨y1, hf⟩ | ⟨y0, hn⟩
  · rw [y1, if_neg (show ¬ (zt 1 = zt 0) by decide)]
    unfold pk_X11_looser_17
    obtain ⟨g, rfl⟩ : ∃ g, F = g + 1 := ⟨F - 1, by omega⟩
    rw [fix_succ]
    unfold pb_X11_looser_18
    rw [if_pos (by decide)]
    obtain ⟨f1, f2⟩ := fin 0 R2 (by omega) (fun j hj => by omega) hf
    exact ⟨_, R2, f1, f2, toQ _ a2.1⟩
  · rw [y0, if_pos rfl]
    unfold pk_X11_looser_17
    obtain ⟨ans, R1, b1, b2, b3⟩ := key 3 0 R2 F (by omega) (by rw [a2.1.1 1 (by omega) (by omega), e1]) (fun j hj => by
      have : j = 0 := by omega
      rw [this]; exact hn) (by omega)
    exact ⟨ans, R1, b1, b2, toQ _ (a2.1.trans b3)⟩
end SC
