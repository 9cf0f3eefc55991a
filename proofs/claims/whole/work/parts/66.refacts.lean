/-! The reference's acts and questions, as answers and rows. -/
theorem ask_out {B : Int} {A : Int → Int} {part : Int} (hA : FI B A 0) (hp : 0 ≤ part ∧ part < A 0) {e : Int} (he : 894 ≤ e) : asA [] (fetS 13 [] part (A 145) A) e = A e := by
  have hok := fetS_ok (B := B) 13 [] (A 0) (A 145) rfl (by simp) (fun x hx => by cases hx) hA.1.1.2 hA.2.1.1 part A rfl hA hp.1 hp.2
  simp only at hok
  unfold asA
  generalize fetS 13 [] part (A 145) A = r at *
  by_cases q : r.1 < 0
  · obtain ⟨o1, o2, o3⟩ := hok.2.2 q
    rw [if_pos q]
    unfold whyW
    have h9 : ua (ua r.2.2 809 0) 810 r.1 809 = 0 := by rw [ua_ne (by omega), ua_eq]
    have hlen : ([] ++ r.2.1).length = r.2.1.length := rfl
    rw [wl_out (by omega) (by omega), ua_ne (by omega), ua_ne (by omega), hok.1.1 e (by omega)]
  · rw [if_neg q, hok.1.1 e (by omega)]
theorem value_out {B : Int} {A : Int → Int} {t : Int} (hA : FI B A 0) (ht : 0 ≤ t ∧ t < A 206) {e : Int} (he : 894 ≤ e) : reA (recS 61 [] [] t A) e = A e := by
  have hok := recS_ok (B := B) 61 [] [] 0 rfl rfl (by simp) (fun x hx => by cases hx) (by omega) t A (by omega) hA ht.1 ht.2
  simp only at hok
  unfold reA
  generalize recS 61 [] [] t A = r at *
  by_cases q : r.1 < 0
  · obtain ⟨o1, o2, o3⟩ := hok.2.2 q
    rw [if_pos q]
    unfold whyW
    have h9 : ua (ua r.2.2 809 0) 810 r.1 809 = 0 := by rw [ua_ne (by omega), ua_eq]
    rw [wl_out (by omega) (by omega), ua_ne (by omega), ua_ne (by omega), hok.1.1 e (by omega)]
  · rw [if_neg q, hok.1.1 e (by omega)]
/-- rows of text and images are as they were -/
def Fr (R R1 : ZM) : Prop := R1 2 = R 2 ∧ R1 3 = R 3 ∧ ∀ e, 894 ≤ e → e < 3576 → R1 1 e = R 1 e
def FrU (R R1 : ZM) : Prop := R1 4 = R 4 ∧ R1 0 5 = R 0 5
theorem RU.frame {R R1 : ZM} {U : List (Int → Int)} (h : RU R U) (hf : FrU R R1) : RU R1 U := by
  obtain ⟨h1, h2, h3⟩ := h
  exact ⟨by rw [hf.2]; exact h1, h2, by rw [hf.1]; exact h3⟩
def R0 (R : ZM) : ZM := uM R 0 0 0
theorem R0_row {R : ZM} {j : Nat} (h : j ≠ 0) : R0 R j = R j := by funext e; exact uM_ne h
theorem R0_fr (R : ZM) : Fr R (R0 R) := ⟨R0_row (by omega), R0_row (by omega), fun e _ _ => by rw [R0_row (by omega)]⟩
theorem R0_fru (R : ZM) : FrU R (R0 R) := ⟨R0_row (by omega), uM_nei (by omega)⟩
def askA (A : Int → Int) (p : Int) : FR := fetS 13 [] p (A 145) A
/-- the row with its own copy behind -/
def cp4 (A : Int → Int) : Int → Int := fun e => if 3576 ≤ e ∧ e < 4470 then A (e - 3576) else A e
theorem cp4_lo {A : Int → Int} {e : Int} (h : e < 3576) : cp4 A e = A e := if_neg (by omega)
theorem cp4_hi {A : Int → Int} {e : Int} (h : 0 ≤ e ∧ e < 894) : cp4 A (3576 + e) = A e := by
  unfold cp4
  rw [if_pos (by omega), show 3576 + e - 3576 = e by omega]
def wldS (A : Int → Int) (p k : Int) : Int := if (0 ≤ p ∧ p < A 0) ∧ 0 ≤ k ∧ k ≤ 1 then (if k = 0 then asA [] (askA A p) 206 - A 206 else (askA A p).1) else -1
def wrtS (A : Int → Int) (p : Int) : Int := if 0 ≤ p ∧ p < A 0 then (if (askA A p).1 < 0 then 0 else if (recS 61 [] [] (askA A p).1 (asA [] (askA A p))).1 = 1 then reA (recS 61 [] [] (askA A p).1 (asA [] (askA A p))) (207 + 8 * (askA A p).1 + 3) else 0) else 0
def cntS (A : Int → Int) (u k : Int) : Int := if k = 0 then A 0 else if k = 1 then A 145 else if k = 2 then A 206 else if k = 3 then vaN A else if k = 4 then mdN A else if k = 5 then stN A else if k = 6 then u else if k = 7 then A 891 else if k = 8 then A 748 else if k = 9 then A 809 else if k = 10 then A 810 else -1
def prtS (A : Int → Int) (p k : Int) : Int := if k = 0 then A (1 + 11 * p + 0) else if k = 1 then A (1 + 11 * p + 1) else if k = 2 then A (1 + 11 * p + 2) else if k = 3 then A (1 + 11 * p + 8) else if k = 4 then A (1 + 11 * p + 9) else if k = 5 then A (1 + 11 * p + 10) else if k = 6 then A (133 + p) else if k = 7 then A (1 + 11 * p + 7) else toN A p
def thgS (A : Int → Int) (t k : Int) : Int := if k < 4 then A (207 + 8 * t + k) else hsN A t
theorem z10 : ¬ (zt 1 = zt 0) := by decide
section RA
variable {w : Int64} {F : Nat} {B : Int}
theorem R0_z (R : ZM) : up2 (LI R) 0 0 (zt 0) = LI (R0 R) := up2_z R 0 0 0
theorem x_enter {R : ZM} {U : List (Int → Int)} (hF : 7000 < F) (hA : FI B (R 1) 0) (hU : RU R U) :
    (R 1 145 = 4 → p_X11_enter F (LI R) w = some (zt (-1), LI (R0 R), w)) ∧
    (R 1 145 ≠ 4 → ∃ R1, p_X11_enter F (LI R) w = some (zt (R 1 145 + 1), LI R1, w) ∧ R1 1 = ua (R 1) 145 (R 1 145 + 1) ∧ RU R1 (puU U (R 1)) ∧ Fr R R1) := by
  have hS := hA.2.1.1
  unfold p_X11_enter
  rw [show (0 : Int32) = zt 0 from rfl, R0_z, gnm_z]
  simp (disch := omega) only [zt_lit, mI_z, ob_z, R0_row, zt_neg, zt_eq, ne_eq, Nat.one_ne_zero, not_false_eq_true]
  refine ⟨fun h => by rw [if_pos h], fun h => ?_⟩
  rw [if_neg h]
  obtain ⟨R1, a1, a2, a3, a4⟩ := x_keeps (w := w) hF (hU.frame (R0_fru R))
  rw [a1, pcU_z]
  have e1 : R1 1 = R 1 := by rw [a3 1 (by omega) (by omega), R0_row (by omega)]
  simp (disch := omega) only [zt_lit, mI_z, ob_z, zt_add, mS_z, e1, uM_eq]
  refine ⟨_, rfl, ?_, ?_, ?_, ?_, ?_⟩
  · rw [uM_row, sR_eq, e1]
  · rw [R0_row (by omega)] at a2
    exact a2.frame ⟨by funext e; exact uM_ne (by omega), uM_ne (by omega)⟩
  · funext e; rw [uM_ne (by omega), a3 2 (by omega) (by omega), R0_row (by omega)]
  · funext e; rw [uM_ne (by omega), a3 3 (by omega) (by omega), R0_row (by omega)]
  · intro e he _; rw [uM_nei (by omega), e1]
theorem x_stand {R : ZM} {U : List (Int → Int)} {p q : Int} (hF : 7000 < F) (hp : -2147483648 ≤ p ∧ p < 2147483648) (hq : -2147483648 ≤ q ∧ q < 2147483648) (hA : FI B (R 1) 0) (hU : RU R U) :
    (¬ ((0 ≤ p ∧ p < R 1 0) ∧ (0 ≤ q ∧ q < R 1 0) ∧ R 1 (146 + 12 * R 1 145 + p) ≠ (if p = q then 0 else q + 1)) → p_X11_stand F (zt p) (zt q) (LI R) w = some (zt 0, LI (R0 R), w)) ∧
    (((0 ≤ p ∧ p < R 1 0) ∧ (0 ≤ q ∧ q < R 1 0) ∧ R 1 (146 + 12 * R 1 145 + p) ≠ (if p = q then 0 else q + 1)) → ∃ R1, p_X11_stand F (zt p) (zt q) (LI R) w = some (zt 1, LI R1, w) ∧ R1 1 = ua (R 1) (146 + 12 * R 1 145 + p) (if p = q then 0 else q + 1) ∧ RU R1 (puU U (R 1)) ∧ Fr R R1) := by
  have hS := hA.2.1
  have hS1 := hS.1
  have hc := hA.1.1
  have e1 : R0 R 1 = R 1 := R0_row (by omega)
  unfold p_X11_stand
  rw [show (0 : Int32) = zt 0 from rfl, R0_z, gnm_z, x_isPart hp (by rw [e1]; exact hc), ob_z, e1]
  by_cases q1 : 0 ≤ p ∧ p < R 1 0
  · rw [if_pos (show 0 ≤ p ∧ p ≤ R 1 0 - 1 by omega), x_isPart hq (by rw [e1]; exact hc), ob_z, e1, if_neg z10]
    by_cases q2 : 0 ≤ q ∧ q < R 1 0
    · rw [if_pos (show 0 ≤ q ∧ q ≤ R 1 0 - 1 by omega), if_neg z10]
      simp (disch := omega) only [zt_lit, mI_z, ob_z, e1, zt_mul, zt_add, gnm_z, zt_eq]
      have key : ∀ v : Int, -2147483648 ≤ v → v < 2147483648 → (R 1 (146 + 12 * R 1 145 + p) = v → pk_X11_stand_53 F (zt (146 + 12 * R 1 145 + p)) (zt v) (LI (R0 R)) w = some (zt 0, LI (R0 R), w)) ∧ (R 1 (146 + 12 * R 1 145 + p) ≠ v → ∃ R1, pk_X11_stand_53 F (zt (146 + 12 * R 1 145 + p)) (zt v) (LI (R0 R)) w = some (zt 1, LI R1, w) ∧ R1 1 = ua (R 1) (146 + 12 * R 1 145 + p) v ∧ RU R1 (puU U (R 1)) ∧ Fr R R1) := by
        intro v v1 v2
        have hb := hS.2 (R 1 145) p (by omega) (by omega) (by omega) (by omega)
        unfold pk_X11_stand_53
        simp (disch := omega) only [zt_lit, mI_z, ob_z, e1, zt_eq]
        refine ⟨fun h => by rw [if_pos h]; rfl, fun h => ?_⟩
        rw [if_neg h]
        obtain ⟨R1, a1, a2, a3, a4⟩ := x_keeps (w := w) hF (hU.frame (R0_fru R))
        rw [a1, pcU_z]
        have e2 : R1 1 = R 1 := by rw [a3 1 (by omega) (by omega), R0_row (by omega)]
        simp (disch := omega) only [mS_z, ob_z]
        refine ⟨_, rfl, ?_, ?_, ?_, ?_, ?_⟩
        · rw [uM_row, sR_eq, e2]
        · rw [e1] at a2
          exact a2.frame ⟨by funext e; exact uM_ne (by omega), uM_ne (by omega)⟩
        · funext e; rw [uM_ne (by omega), a3 2 (by omega) (by omega), R0_row (by omega)]
        · funext e; rw [uM_ne (by omega), a3 3 (by omega) (by omega), R0_row (by omega)]
        · intro e he _; rw [uM_nei (by omega), e2]
      by_cases q3 : p = q
      · rw [if_pos q3, if_pos q3]
        obtain ⟨k1, k2⟩ := key 0 (by omega) (by omega)
        exact ⟨fun h => k1 (Decidable.byContradiction (fun g => h ⟨q1, q2, g⟩)), fun h => k2 h.2.2⟩
      · rw [if_neg q3, if_neg q3]
        obtain ⟨k1, k2⟩ := key (q + 1) (by omega) (by omega)
        exact ⟨fun h => k1 (Decidable.byContradiction (fun g => h ⟨q1, q2, g⟩)), fun h => k2 h.2.2⟩
    · rw [if_neg (show ¬ (0 ≤ q ∧ q ≤ R 1 0 - 1) by omega), if_pos rfl]
      exact ⟨fun _ => rfl, fun h => absurd h.2.1 q2⟩
  · rw [if_neg (show ¬ (0 ≤ p ∧ p ≤ R 1 0 - 1) by omega), if_pos rfl]
    exact ⟨fun _ => rfl, fun h => absurd h.1 q1⟩
theorem LI29 (R : ZM) : up2 (LI R) 0 29 (zt 0) = LI (uM R 0 29 0) := up2_z R 0 29 0
theorem x_ask {R : ZM} {U : List (Int → Int)} {p : Int} (hF : 7000 < F) (hB : B ≤ 1000000000) (hp : -2147483648 ≤ p ∧ p < 2147483648) (hA : FI B (R 1) 0) (hU : RU R U) :
    (¬ (0 ≤ p ∧ p < R 1 0) → p_X11_ask F (zt p) (LI R) w = some (zt (-1), LI (R0 R), w)) ∧
    ((0 ≤ p ∧ p < R 1 0) → ∃ R1, p_X11_ask F (zt p) (LI R) w = some (zt (askA (R 1) p).1, LI R1, w) ∧ R1 1 = asA [] (askA (R 1) p) ∧ RU R1 (puU U (R 1)) ∧ Fr R R1) := by
  have hc := hA.1.1
  have e1 : R0 R 1 = R 1 := R0_row (by omega)
  unfold p_X11_ask
  rw [show (0 : Int32) = zt 0 from rfl, R0_z, gnm_z, x_isPart hp (by rw [e1]; exact hc), ob_z, e1]
  refine ⟨fun h => ?_, fun h => ?_⟩
  · rw [if_neg (show ¬ (0 ≤ p ∧ p ≤ R 1 0 - 1) by omega), if_pos rfl]
    rfl
  · rw [if_pos (show 0 ≤ p ∧ p ≤ R 1 0 - 1 by omega), if_neg (by decide)]
    obtain ⟨R1, a1, a2, a3, a4⟩ := x_keeps (w := w) hF (hU.frame (R0_fru R))
    rw [e1] at a2
    have e2 : R1 1 = R 1 := by rw [a3 1 (by omega) (by omega), e1]
    have e3 : uM R1 0 29 0 1 = R 1 := by rw [← e2]; funext e; exact uM_ne (by omega)
    rw [a1, pcU_z, LI29, gnm_z]
    simp (disch := omega) only [zt_lit, mI_z, ob_z, e3]
    obtain ⟨R2, b1, b2, b3⟩ := x_asks (w := w) (F := F) (B := B) (by omega) hB (M := uM R1 0 29 0) (sn := 0) (f := fun _ => 0) (part := p) (scope := R 1 145) (by rw [e3]; exact hA) (by rw [uM_eq]; rfl) (by omega) (fun j g1 g2 => by omega) (by rw [e3]; exact h) hA.2.1.1
    rw [e3] at b1 b2
    rw [b1, pcI_z]
    refine ⟨R2, rfl, b2, ?_, ?_, ?_, ?_⟩
    · refine a2.frame ⟨?_, ?_⟩
      · rw [b3.2.1 4 (by omega) (by omega)]; funext e; exact uM_ne (by omega)
      · rw [b3.1 5 (by omega), uM_nei (by omega)]
    · rw [b3.2.1 2 (by omega) (by omega)]; funext e; rw [uM_ne (by omega), a3 2 (by omega) (by omega), R0_row (by omega)]
    · rw [b3.2.1 3 (by omega) (by omega)]; funext e; rw [uM_ne (by omega), a3 3 (by omega) (by omega), R0_row (by omega)]
    · intro e he _; rw [b2]; exact ask_out hA h he
theorem x_value {R : ZM} {U : List (Int → Int)} {t : Int} (hF : 7000 < F) (hB : B ≤ 1000000000) (hp : -2147483648 ≤ t ∧ t < 2147483648) (hA : FI B (R 1) 0) (hU : RU R U) :
    (¬ (0 ≤ t ∧ t < R 1 206) → p_X11_value F (zt t) (LI R) w = some (zt (-1), LI (R0 R), w)) ∧
    ((0 ≤ t ∧ t < R 1 206) → ∃ R1, p_X11_value F (zt t) (LI R) w = some (zt (recS 61 [] [] t (R 1)).1, LI R1, w) ∧ R1 1 = reA (recS 61 [] [] t (R 1)) ∧ RU R1 (puU U (R 1)) ∧ Fr R R1) := by
  have hm := hA.2.2.1.1
  have e1 : R0 R 1 = R 1 := R0_row (by omega)
  unfold p_X11_value
  rw [show (0 : Int32) = zt 0 from rfl, R0_z, gnm_z, x_isThing hp (by rw [e1]; exact hm), ob_z, e1]
  refine ⟨fun h => ?_, fun h => ?_⟩
  · rw [if_neg (show ¬ (0 ≤ t ∧ t ≤ R 1 206 - 1) by omega), if_pos rfl]
    rfl
  · rw [if_pos (show 0 ≤ t ∧ t ≤ R 1 206 - 1 by omega), if_neg (by decide)]
    obtain ⟨R1, a1, a2, a3, a4⟩ := x_keeps (w := w) hF (hU.frame (R0_fru R))
    rw [e1] at a2
    have e2 : R1 1 = R 1 := by rw [a3 1 (by omega) (by omega), e1]
    rw [a1, pcU_z]
    obtain ⟨R2, b1, b2, b3⟩ := x_reckons (w := w) (F := F) (B := B) (by omega) hB (M := R1) (t := t) (by rw [e2]; exact hA) (by rw [e2]; exact h)
    rw [e2] at b1 b2
    rw [b1, pcI_z]
    refine ⟨R2, rfl, b2, ?_, ?_, ?_, ?_⟩
    · exact a2.frame ⟨b3.2.1 4 (by omega) (by omega), b3.1 5 (by omega) (by omega)⟩
    · rw [b3.2.1 2 (by omega) (by omega), a3 2 (by omega) (by omega), R0_row (by omega)]
    · rw [b3.2.1 3 (by omega) (by omega), a3 3 (by omega) (by omega), R0_row (by omega)]
    · intro e he _; rw [b2]; exact value_out hA h he
end RA
