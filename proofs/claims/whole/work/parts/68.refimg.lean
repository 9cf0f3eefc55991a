/-! The reference tries out; images. -/
def II (R : ZM) (I : Nat → Option ((Int → Int) × (Int → Int))) : Prop := ∀ k : Nat, k < 3 → (I k = none → R 3 k = 0) ∧ ∀ C S, I k = some (C, S) → R 3 k = 1 ∧ (∀ e, 0 ≤ e → e < 894 → R 1 (894 * (k + 1) + e) = C e) ∧ ∀ e, 0 ≤ e → e < 600 → R 2 (600 * (k + 1) + e) = S e
def uI (I : Nat → Option ((Int → Int) × (Int → Int))) (k : Nat) (q : (Int → Int) × (Int → Int)) : Nat → Option ((Int → Int) × (Int → Int)) := fun j => if j = k then some q else I j
theorem II.frame {R R1 : ZM} {I : Nat → Option ((Int → Int) × (Int → Int))} (h : II R I) (hf : Fr R R1) : II R1 I := by
  obtain ⟨f1, f2, f3⟩ := hf
  intro k hk
  obtain ⟨h1, h2⟩ := h k hk
  rw [f2]
  refine ⟨h1, fun C S hq => ?_⟩
  obtain ⟨g1, g2, g3⟩ := h2 C S hq
  refine ⟨g1, fun e a c => ?_, by rw [f1]; exact g3⟩
  rw [f3 _ (by omega) (by omega)]
  exact g2 e a c
section RM
variable {w : Int64} {F : Nat} {B : Int}
theorem cp4_of {R R1 : ZM} (h1 : ∀ e, 0 ≤ e → e < 894 → R1 1 (894 * 4 + e) = R 1 (894 * 0 + e)) (h2 : ∀ e, e < 894 * 4 ∨ 894 * 4 + 894 ≤ e → R1 1 e = R 1 e) : R1 1 = cp4 (R 1) := by
  funext e
  unfold cp4
  by_cases q : 3576 ≤ e ∧ e < 4470
  · rw [if_pos q]
    have := h1 (e - 3576) (by omega) (by omega)
    rw [show 894 * 4 + (e - 3576) = e by omega, show 894 * 0 + (e - 3576) = e - 3576 by omega] at this
    exact this
  · rw [if_neg q]; exact h2 e (by omega)
theorem x_would {R : ZM} {U : List (Int → Int)} {p k : Int} (hF : 7000 < F) (hB : B ≤ 1000000000) (hp : -2147483648 ≤ p ∧ p < 2147483648) (hk : -2147483648 ≤ k ∧ k < 2147483648) (hA : FI B (R 1) 0) (hU : RU R U) :
    ∃ R1, p_X11_would F (zt p) (zt k) (LI R) w = some (zt (wldS (cp4 (R 1)) p k), LI R1, w) ∧ (∀ e, 0 ≤ e → e < 894 → R1 1 e = R 1 e) ∧ RU R1 U ∧ Fr R R1 := by
  have hc := hA.1.1
  have e1 : R0 R 1 = R 1 := R0_row (by omega)
  have c0 : cp4 (R 1) 0 = R 1 0 := cp4_lo (by omega)
  unfold p_X11_would wldS
  rw [show (0 : Int32) = zt 0 from rfl, R0_z, gnm_z, x_isPart hp (by rw [e1]; exact hc), ob_z, e1, c0]
  have hno : ∃ R1, (some (zt (-1), LI (R0 R), w) : Option (Int32 × (Nat → Nat → Int32) × Int64)) = some (zt (-1), LI R1, w) ∧ (∀ e, 0 ≤ e → e < 894 → R1 1 e = R 1 e) ∧ RU R1 U ∧ Fr R R1 := ⟨R0 R, rfl, fun e _ _ => by rw [e1], hU.frame (R0_fru R), R0_fr R⟩
  by_cases q1 : 0 ≤ p ∧ p < R 1 0
  · rw [if_pos (show 0 ≤ p ∧ p ≤ R 1 0 - 1 by omega), if_neg (by decide)]
    simp (disch := omega) only [zt_lit, ob_z, x_in]
    by_cases q2 : 0 ≤ k ∧ k ≤ 1
    · rw [if_pos q2, if_neg (by decide), if_pos ⟨q1, q2⟩]
      obtain ⟨R1, a1, a2, a3, a4⟩ := x_copies (w := w) (F := F) (M := R0 R) (a := 0) (c := 4) (by omega) (by omega) (by omega) (by omega)
      rw [a1, pcU_z]
      have hC : R1 1 = cp4 (R 1) := by rw [← e1]; exact cp4_of a2 a3
      generalize hCe : cp4 (R 1) = C at *
      have hCl : ∀ e, e < 3576 → C e = R 1 e := fun e he => by rw [← hCe]; exact cp4_lo he
      have hCh : ∀ e, 0 ≤ e → e < 894 → C (3576 + e) = R 1 e := fun e a c => by rw [← hCe]; exact cp4_hi ⟨a, c⟩
      have hCA : FI B C 0 := hA.cong0 (fun e _ c => hCl e (by omega))
      have hCp : 0 ≤ p ∧ p < C 0 := by rw [c0]; exact q1
      have hCm := hCA.2.2.1.1
      have e3 : uM R1 0 29 0 1 = C := by rw [← hC]; funext e; exact uM_ne (by omega)
      rw [show up2 (LI R1) 0 29 (zt 0) = LI (uM R1 0 29 0) from up2_z R1 0 29 0, gnm_z]
      simp (disch := omega) only [mI_z, ob_z, e3]
      obtain ⟨R2, b1, b2, b3⟩ := x_asks (w := w) (F := F) (B := B) (by omega) hB (M := uM R1 0 29 0) (sn := 0) (f := fun _ => 0) (part := p) (scope := C 145) (by rw [e3]; exact hCA) (by rw [uM_eq]; rfl) (by omega) (fun j g1 g2 => by omega) (by rw [e3]; exact hCp) hCA.2.1.1
      rw [e3] at b1 b2
      have b2 : R2 1 = asA [] (askA C p) := b2
      rw [b1, pcI_z]
      simp (disch := omega) only [mI_z, ob_z, zt_sub, gnm_z]
      obtain ⟨R3, c1, c2, c3, c4⟩ := x_copies (w := w) (F := F) (M := R2) (a := 4) (c := 0) (by omega) (by omega) (by omega) (by omega)
      rw [c1, pcU_z]
      have hout : ∀ e, 894 ≤ e → asA [] (askA C p) e = C e := fun e he => ask_out hCA hCp he
      refine ⟨R3, ?_, fun e a c => ?_, ?_, ?_, ?_, ?_⟩
      · rw [b2]
        simp (disch := omega) only [zt_eq]
        by_cases q3 : k = 0
        · rw [if_pos q3, if_pos q3]
        · rw [if_neg q3, if_neg q3]; rfl
      · have := c2 e a c
        rw [show 894 * 0 + e = e by omega, show 894 * 4 + e = 3576 + e by omega, b2, hout _ (by omega), hCh e a c] at this
        exact this
      · refine (hU.frame (R0_fru R)).frame ⟨?_, ?_⟩
        · rw [c4 4 (by omega), b3.2.1 4 (by omega) (by omega), ← a4 4 (by omega)]; funext e; exact uM_ne (by omega)
        · rw [c4 0 (by omega), b3.1 5 (by omega), uM_nei (by omega), a4 0 (by omega)]
      · rw [c4 2 (by omega), b3.2.1 2 (by omega) (by omega), ← R0_row (R := R) (show 2 ≠ 0 by omega), ← a4 2 (by omega)]; funext e; exact uM_ne (by omega)
      · rw [c4 3 (by omega), b3.2.1 3 (by omega) (by omega), ← R0_row (R := R) (show 3 ≠ 0 by omega), ← a4 3 (by omega)]; funext e; exact uM_ne (by omega)
      · intro e g1 g2
        rw [c3 e (by omega), b2, hout e g1, hCl e g2]
    · rw [if_neg q2, if_pos rfl, if_neg (fun h => q2 h.2)]
      exact hno
  · rw [if_neg (show ¬ (0 ≤ p ∧ p ≤ R 1 0 - 1) by omega), if_pos rfl, if_neg (fun h => q1 h.1)]
    exact hno
theorem x_worth {R : ZM} {U : List (Int → Int)} {p : Int} (hF : 7000 < F) (hB : B ≤ 900000000) (hp : -2147483648 ≤ p ∧ p < 2147483648) (hA : FI B (R 1) 0) (hW : WT (R 1)) (hU : RU R U) :
    ∃ R1, p_X11_worth F (zt p) (LI R) w = some (zt (wrtS (cp4 (R 1)) p), LI R1, w) ∧ (∀ e, 0 ≤ e → e < 894 → R1 1 e = R 1 e) ∧ RU R1 U ∧ Fr R R1 := by
  have hc := hA.1.1
  have e1 : R0 R 1 = R 1 := R0_row (by omega)
  have c0 : cp4 (R 1) 0 = R 1 0 := cp4_lo (by omega)
  unfold p_X11_worth wrtS
  rw [show (0 : Int32) = zt 0 from rfl, R0_z, gnm_z, x_isPart hp (by rw [e1]; exact hc), ob_z, e1, c0]
  by_cases q1 : 0 ≤ p ∧ p < R 1 0
  · rw [if_pos (show 0 ≤ p ∧ p ≤ R 1 0 - 1 by omega), if_neg (by decide), if_pos q1]
    obtain ⟨R1, a1, a2, a3, a4⟩ := x_copies (w := w) (F := F) (M := R0 R) (a := 0) (c := 4) (by omega) (by omega) (by omega) (by omega)
    rw [show (4 : Int32) = zt 4 from rfl, a1, pcU_z]
    have hC : R1 1 = cp4 (R 1) := by rw [← e1]; exact cp4_of a2 a3
    generalize hCe : cp4 (R 1) = C at *
    have hCl : ∀ e, e < 3576 → C e = R 1 e := fun e he => by rw [← hCe]; exact cp4_lo he
    have hCh : ∀ e, 0 ≤ e → e < 894 → C (3576 + e) = R 1 e := fun e a c => by rw [← hCe]; exact cp4_hi ⟨a, c⟩
    have hCA : FI B C 0 := hA.cong0 (fun e _ c => hCl e (by omega))
    have hCp : 0 ≤ p ∧ p < C 0 := by rw [c0]; exact q1
    have hCm := hCA.2.2.1.1
    have hCW : WT C := by
      unfold WT
      rw [hCl _ (by omega), hCl 687 (by omega)]
      exact hW
    have e3 : uM R1 0 29 0 1 = C := by rw [← hC]; funext e; exact uM_ne (by omega)
    rw [show up2 (LI R1) 0 29 (zt 0) = LI (uM R1 0 29 0) from up2_z R1 0 29 0, gnm_z]
    simp (disch := omega) only [zt_lit, mI_z, ob_z, e3]
    obtain ⟨R2, b1, b2, b3⟩ := x_asks (w := w) (F := F) (B := B) (by omega) (by omega) (M := uM R1 0 29 0) (sn := 0) (f := fun _ => 0) (part := p) (scope := C 145) (by rw [e3]; exact hCA) (by rw [uM_eq]; rfl) (by omega) (fun j g1 g2 => by omega) (by rw [e3]; exact hCp) hCA.2.1.1
    rw [e3] at b1 b2
    have b2 : R2 1 = asA [] (askA C p) := b2
    have b1 : p_X11_asks F (zt p) (zt (C 145)) (LI (uM R1 0 29 0)) w = some (zt (askA C p).1, LI R2, w) := b1
    rw [b1, pcI_z]
    have hout : ∀ e, 894 ≤ e → asA [] (askA C p) e = C e := fun e he => ask_out hCA hCp he
    have hwf : FI (B + 13) (asA [] (askA C p)) 0 ∧ WT (asA [] (askA C p)) ∧ _ ∧ _ ∧ (askA C p).1 < asA [] (askA C p) 206 ∧ -4 ≤ (askA C p).1 ∧ (askA C p).1 ≠ -1 := ask_wf hCA hCW hCp
    obtain ⟨w1, w2, -, -, w5, w6, w7⟩ := hwf
    have fin : ∀ (v : Int) (R4 : ZM), (∀ e, 894 ≤ e → R4 1 e = C e) → R4 2 = R 2 → R4 3 = R 3 → R4 4 = R 4 → R4 0 5 = R 0 5 → ∃ R1, pk_X11_worth_63 F (zt v) (LI R4) w = some (zt v, LI R1, w) ∧ (∀ e, 0 ≤ e → e < 894 → R1 1 e = R 1 e) ∧ RU R1 U ∧ Fr R R1 := by
      intro v R4 f1 f2 f3 f4 f5
      obtain ⟨R3, c1, c2, c3, c4⟩ := x_copies (w := w) (F := F) (M := R4) (a := 4) (c := 0) (by omega) (by omega) (by omega) (by omega)
      unfold pk_X11_worth_63
      rw [show (4 : Int32) = zt 4 from rfl, show (0 : Int32) = zt 0 from rfl, c1, pcU_z]
      refine ⟨R3, rfl, fun e a c => ?_, ?_, ?_, ?_, ?_⟩
      · have := c2 e a c
        rw [show 894 * 0 + e = e by omega, show 894 * 4 + e = 3576 + e by omega, f1 _ (by omega), hCh e a c] at this
        exact this
      · exact hU.frame ⟨by rw [c4 4 (by omega), f4], by rw [c4 0 (by omega), f5]⟩
      · rw [c4 2 (by omega), f2]
      · rw [c4 3 (by omega), f3]
      · intro e g1 g2
        rw [c3 e (by omega), f1 e g1, hCl e g2]
    have g2 : R2 2 = R 2 := by rw [b3.2.1 2 (by omega) (by omega), ← R0_row (R := R) (show 2 ≠ 0 by omega), ← a4 2 (by omega)]; funext e; exact uM_ne (by omega)
    have g3 : R2 3 = R 3 := by rw [b3.2.1 3 (by omega) (by omega), ← R0_row (R := R) (show 3 ≠ 0 by omega), ← a4 3 (by omega)]; funext e; exact uM_ne (by omega)
    have g4 : R2 4 = R 4 := by rw [b3.2.1 4 (by omega) (by omega), ← R0_row (R := R) (show 4 ≠ 0 by omega), ← a4 4 (by omega)]; funext e; exact uM_ne (by omega)
    have g5 : R2 0 5 = R 0 5 := by rw [b3.1 5 (by omega), uM_nei (by omega), a4 0 (by omega)]; exact uM_nei (by omega)
    have hm2 := w1.2.2.1.1
    have hz : (zt (askA C p).1 < zt 0) = ((askA C p).1 < 0) := zt_lt (by omega) (by omega) (by omega) (by omega)
    by_cases q2 : (askA C p).1 < 0
    · rw [if_pos (show zt (askA C p).1 < zt 0 by rw [hz]; exact q2), if_pos q2]
      unfold pk_X11_worth_62
      exact fin 0 R2 (fun e he => by rw [b2]; exact hout e he) g2 g3 g4 g5
    · rw [if_neg (show ¬ (zt (askA C p).1 < zt 0) by rw [hz]; exact q2), if_neg q2]
      obtain ⟨R3, d1, d2, d3⟩ := x_reckons (w := w) (F := F) (B := B + 13) (by omega) (by omega) (M := R2) (t := (askA C p).1) (by rw [b2]; exact w1) (by rw [b2]; omega)
      rw [b2] at d1 d2
      rw [d1, pcI_z]
      obtain ⟨-, -, -, -, v5, v6, v7⟩ := value_wf w1 w2 (t := (askA C p).1) (by omega)
      have hfr : ∀ e, 894 ≤ e → R3 1 e = C e := fun e he => by rw [d2, value_out w1 (by omega) he, hout e he]
      have hz1 : (zt (recS 61 [] [] (askA C p).1 (asA [] (askA C p))).1 = zt 1) = ((recS 61 [] [] (askA C p).1 (asA [] (askA C p))).1 = 1) := zt_eq (by omega) (by omega) (by omega) (by omega)
      by_cases q3 : (recS 61 [] [] (askA C p).1 (asA [] (askA C p))).1 = 1
      · rw [if_pos (show zt (recS 61 [] [] (askA C p).1 (asA [] (askA C p))).1 = zt 1 by rw [hz1]; exact q3), if_pos q3, x_its (by omega) (by omega), ob_z, d2]
        exact fin _ R3 hfr (by rw [d3.2.1 2 (by omega) (by omega), g2]) (by rw [d3.2.1 3 (by omega) (by omega), g3]) (by rw [d3.2.1 4 (by omega) (by omega), g4]) (by rw [d3.1 5 (by omega) (by omega), g5])
      · rw [if_neg (show ¬ (zt (recS 61 [] [] (askA C p).1 (asA [] (askA C p))).1 = zt 1) by rw [hz1]; exact q3), if_neg q3]
        unfold pk_X11_worth_62
        exact fin 0 R3 hfr (by rw [d3.2.1 2 (by omega) (by omega), g2]) (by rw [d3.2.1 3 (by omega) (by omega), g3]) (by rw [d3.2.1 4 (by omega) (by omega), g4]) (by rw [d3.1 5 (by omega) (by omega), g5])
  · rw [if_neg (show ¬ (0 ≤ p ∧ p ≤ R 1 0 - 1) by omega), if_pos rfl, if_neg q1]
    exact ⟨R0 R, rfl, fun e _ _ => by rw [e1], hU.frame (R0_fru R), R0_fr R⟩
theorem x_image {R : ZM} {U : List (Int → Int)} {I : Nat → Option ((Int → Int) × (Int → Int))} {k : Int} (hF : 1000 < F) (hk : -2147483648 ≤ k ∧ k < 2147483648) (hT : ∀ e, -128 ≤ R 2 e ∧ R 2 e ≤ 127) (hU : RU R U) (hI : II R I) :
    (¬ (0 ≤ k ∧ k < 3) → p_X11_image F (zt k) (LI R) w = some (zt 0, LI (R0 R), w)) ∧
    ((0 ≤ k ∧ k < 3) → ∃ R1, p_X11_image F (zt k) (LI R) w = some (zt 1, LI R1, w) ∧ (∀ e, 0 ≤ e → e < 894 → R1 1 e = R 1 e) ∧ (∀ e, 0 ≤ e → e < 600 → R1 2 e = R 2 e) ∧ (∀ e, -128 ≤ R1 2 e ∧ R1 2 e ≤ 127) ∧ RU R1 U ∧ II R1 (uI I k.toNat (R 1, R 2))) := by
  have e1 : ∀ j, j ≠ 0 → R0 R j = R j := fun j hj => R0_row hj
  unfold p_X11_image
  rw [show (0 : Int32) = zt 0 from rfl, R0_z, gnm_z]
  simp (disch := omega) only [zt_lit, ob_z, x_in, zt_add]
  refine ⟨fun h => ?_, fun h => ?_⟩
  · rw [if_neg (show ¬ (0 ≤ k ∧ k ≤ 2) by omega), if_pos rfl]
    rfl
  · rw [if_pos (show 0 ≤ k ∧ k ≤ 2 by omega), if_neg (by decide)]
    obtain ⟨R1, a1, a2, a3, a4, a5, a6⟩ := x_copiesText (w := w) (F := F) (M := R0 R) (a := 0) (c := k + 1) hF (by omega) (by omega) (by omega) (by rw [e1 2 (by omega)]; exact hT)
    rw [e1 1 (by omega)] at a2 a3
    rw [e1 2 (by omega)] at a4 a5
    rw [a1, pcU_z, nar_b1]
    simp (disch := omega) only [mS_z, ob_z]
    refine ⟨_, rfl, fun e g1 g2 => ?_, fun e g1 g2 => ?_, fun e => ?_, ?_, fun j hj => ?_⟩
    · rw [uM_ne (by omega), a3 e (by omega)]
    · rw [uM_ne (by omega), a5 e (by omega)]
    · rw [uM_ne (by omega)]
      by_cases q : 600 * (k + 1) ≤ e ∧ e < 600 * (k + 1) + 600
      · have := a4 (e - 600 * (k + 1)) (by omega) (by omega)
        rw [show 600 * (k + 1) + (e - 600 * (k + 1)) = e by omega] at this
        rw [this]; exact hT _
      · rw [a5 e (by omega)]; exact hT _
    · refine (hU.frame (R0_fru R)).frame ⟨?_, ?_⟩
      · rw [← a6 4 (by omega) (by omega)]; funext e; exact uM_ne (by omega)
      · rw [uM_ne (by omega), a6 0 (by omega) (by omega)]
    · unfold uI
      by_cases q : j = k.toNat
      · rw [if_pos q]
        have hjk : (j : Int) = k := by omega
        refine ⟨fun hn => (by cases hn), fun C S hq => ?_⟩
        cases hq
        rw [hjk]
        refine ⟨uM_eq _ _ _ _, fun e g1 g2 => ?_, fun e g1 g2 => ?_⟩
        · rw [uM_ne (by omega), a2 e g1 g2]; congr 1; omega
        · rw [uM_ne (by omega), a4 e g1 g2]; congr 1; omega
      · rw [if_neg q]
        have hjk : (j : Int) ≠ k := by omega
        obtain ⟨h1, h2⟩ := hI j hj
        refine ⟨fun hn => ?_, fun C S hq => ?_⟩
        · rw [uM_nei hjk, a6 3 (by omega) (by omega), e1 3 (by omega)]; exact h1 hn
        · obtain ⟨i1, i2, i3⟩ := h2 C S hq
          refine ⟨?_, fun e g1 g2 => ?_, fun e g1 g2 => ?_⟩
          · rw [uM_nei hjk, a6 3 (by omega) (by omega), e1 3 (by omega)]; exact i1
          · rw [uM_ne (by omega), a3 _ (by omega)]; exact i2 e g1 g2
          · rw [uM_ne (by omega), a5 _ (by omega)]; exact i3 e g1 g2
theorem x_again {R : ZM} {U : List (Int → Int)} {I : Nat → Option ((Int → Int) × (Int → Int))} {k : Int} (hF : 1000 < F) (hk : -2147483648 ≤ k ∧ k < 2147483648) (hT : ∀ e, -128 ≤ R 2 e ∧ R 2 e ≤ 127) (hU : RU R U) (hI : II R I) :
    (¬ ((0 ≤ k ∧ k < 3) ∧ I k.toNat ≠ none) → p_X11_again F (zt k) (LI R) w = some (zt 0, LI (R0 R), w)) ∧
    (∀ C S, (0 ≤ k ∧ k < 3) → I k.toNat = some (C, S) → ∃ R1, p_X11_again F (zt k) (LI R) w = some (zt 1, LI R1, w) ∧ (∀ e, 0 ≤ e → e < 894 → R1 1 e = C e) ∧ (∀ e, 0 ≤ e → e < 600 → R1 2 e = S e) ∧ (∀ e, -128 ≤ R1 2 e ∧ R1 2 e ≤ 127) ∧ RU R1 [] ∧ II R1 I) := by
  have e1 : ∀ j, j ≠ 0 → R0 R j = R j := fun j hj => R0_row hj
  unfold p_X11_again
  rw [show (0 : Int32) = zt 0 from rfl, R0_z, gnm_z]
  simp (disch := omega) only [zt_lit, ob_z, x_in, zt_add]
  refine ⟨fun h => ?_, fun C S h hC => ?_⟩
  · by_cases q : 0 ≤ k ∧ k < 3
    · rw [if_pos (show 0 ≤ k ∧ k ≤ 2 by omega), if_neg (by decide)]
      have hn : I k.toNat = none := Decidable.byContradiction (fun g => h ⟨q, g⟩)
      have h0 := (hI k.toNat (by omega)).1 hn
      rw [show ((k.toNat : Nat) : Int) = k by omega] at h0
      simp (disch := omega) only [mI_z, ob_z, e1 3 (by omega), h0]
      rw [if_pos trivial]
      rfl
    · rw [if_neg (show ¬ (0 ≤ k ∧ k ≤ 2) by omega), if_pos rfl]
      rfl
  · rw [if_pos (show 0 ≤ k ∧ k ≤ 2 by omega), if_neg (by decide)]
    obtain ⟨i1, i2, i3⟩ := (hI k.toNat (by omega)).2 C S hC
    rw [show ((k.toNat : Nat) : Int) = k by omega] at i1 i2 i3
    simp (disch := omega) only [mI_z, ob_z, e1 3 (by omega), i1]
    rw [if_neg (by decide)]
    obtain ⟨R1, a1, a2, a3, a4, a5, a6⟩ := x_copiesText (w := w) (F := F) (M := R0 R) (a := k + 1) (c := 0) hF (by omega) (by omega) (by omega) (by rw [e1 2 (by omega)]; exact hT)
    rw [e1 1 (by omega)] at a2 a3
    rw [e1 2 (by omega)] at a4 a5
    rw [a1, pcU_z, show up2 (LI R1) 0 5 (zt 0) = LI (uM R1 0 5 0) from up2_z R1 0 5 0, gnm_z]
    refine ⟨_, rfl, fun e g1 g2 => ?_, fun e g1 g2 => ?_, fun e => ?_, ⟨uM_eq _ _ _ _, by simp, fun j D hj => by simp at hj⟩, fun j hj => ?_⟩
    · have := a2 e g1 g2
      rw [show 894 * 0 + e = e by omega] at this
      rw [uM_ne (by omega), this]; exact i2 e g1 g2
    · have := a4 e g1 g2
      rw [show 600 * 0 + e = e by omega] at this
      rw [uM_ne (by omega), this]; exact i3 e g1 g2
    · rw [uM_ne (by omega)]
      by_cases q : 0 ≤ e ∧ e < 600
      · have := a4 e q.1 q.2
        rw [show 600 * 0 + e = e by omega] at this
        rw [this]; exact hT _
      · rw [a5 e (by omega)]; exact hT _
    · obtain ⟨h1, h2⟩ := hI j hj
      refine ⟨fun hn => ?_, fun C2 S2 hq => ?_⟩
      · rw [uM_ne (by omega), a6 3 (by omega) (by omega), e1 3 (by omega)]; exact h1 hn
      · obtain ⟨j1, j2, j3⟩ := h2 C2 S2 hq
        refine ⟨?_, fun e g1 g2 => ?_, fun e g1 g2 => ?_⟩
        · rw [uM_ne (by omega), a6 3 (by omega) (by omega), e1 3 (by omega)]; exact j1
        · rw [uM_ne (by omega), a3 _ (by omega)]; exact j2 e g1 g2
        · rw [uM_ne (by omega), a5 _ (by omega)]; exact j3 e g1 g2
end RM
