/-! Reading: what holds of both readers between two tokens. -/
def mpo (T : Int → Int) (N r : Int) : Int := if tkK T N r = 2 then tkB T N r else tkB T N r + 1
theorem mpo_le {T : Int → Int} {N r : Int} (hr : 0 ≤ r ∧ r ≤ N) (hN : N ≤ 600) : (tkB T N r ≤ mpo T N r ∧ mpo T N r ≤ 601) ∧ (tkK T N r = 2 → mpo T N r = tkB T N r ∧ mpo T N r < 600) := by
  have h := tk_rng (T := T) hr hN
  unfold mpo
  by_cases q : tkK T N r = 2
  · rw [if_pos q]
    have := h.2.2.1 (by omega)
    exact ⟨by omega, fun _ => by omega⟩
  · rw [if_neg q]
    exact ⟨by omega, fun g => absurd g q⟩
theorem mpo_step {T : Int → Int} {N r : Int} (hr : 0 ≤ r ∧ r ≤ N) (hN : N ≤ 600) (hk : tkK T N r ≠ 0) : mpo T N r ≤ mpo T N (tkE T N r) ∧ (tkK T N r = 2 → mpo T N r + 2 ≤ mpo T N (tkE T N r)) := by
  have h := tk_rng (T := T) hr hN
  have hlt := h.2.2.1 hk
  have h1 := tk_rng (T := T) (N := N) (r := tkE T N r) (by omega) hN
  have m1 := mpo_le (T := T) (N := N) (r := tkE T N r) (by omega) hN
  refine ⟨?_, fun g => ?_⟩
  · unfold mpo at m1 ⊢
    split <;> split <;> omega
  · have m0 := (mpo_le (T := T) hr hN).2 g
    by_cases q : tkK T N (tkE T N r) = 2
    · have e1 := (m1.2 q).1
      have d := tk_num (T := T) hr hN g
      have d1 := tk_dg q
      have hne : tkB T N (tkE T N r) ≠ tkE T N r := by
        intro e
        rw [e] at d1
        have := h1.2.2.1 (by omega)
        rw [d (by omega)] at d1
        cases d1
      omega
    · have e1 : mpo T N (tkE T N r) = tkB T N (tkE T N r) + 1 := by unfold mpo; rw [if_neg q]
      omega
def Tk (M R : ZM) (w : Int64) (a : Nat) (T : Int → Int) (N r : Int) : Prop := TokC M (a + 11) T N r ∧ TokR R w T N r ∧ (0 ≤ r ∧ r ≤ N)
def FrM (a : Nat) (M0 M : ZM) : Prop := ∀ j, (j < a ∨ a + 12 ≤ j) → M j = M0 j
def FrR (R0 R : ZM) : Prop := (∀ j, j ≠ 0 → j ≠ 5 → j ≠ 6 → j ≠ 7 → j ≠ 8 → R j = R0 j) ∧ ∀ e, e ≠ 6 → e ≠ 8 → e ≠ 9 → e ≠ 10 → e ≠ 11 → e ≠ 13 → e ≠ 14 → e ≠ 15 → e ≠ 19 → R 0 e = R0 0 e
def Ft (M R : ZM) (a : Nat) : Prop := M a 6 = R 0 15 ∧ M a 7 = R 0 14 ∧ (0 ≤ R 0 15 ∧ R 0 15 ≤ 5) ∧ (-1 ≤ R 0 14 ∧ R 0 14 ≤ 700)
def NdL (M R : ZM) (a : Nat) (m : Int) : Prop := (0 ≤ R 0 19 ∧ 2 * R 0 19 ≤ m) ∧ (∀ j, 0 ≤ j → j < R 0 19 → (0 ≤ R 6 j ∧ R 6 j ≤ m) ∧ 0 ≤ R 7 j ∧ R 7 j ≤ 999) ∧ ∀ v, 0 ≤ v → v < 12 → (M (a + 10) v = -1 ∧ ∀ j, 0 ≤ j → j < R 0 19 → R 7 j ≠ v) ∨ (0 ≤ M (a + 10) v ∧ (∃ j, 0 ≤ j ∧ j < R 0 19 ∧ R 7 j = v ∧ R 6 j = M (a + 10) v) ∧ ∀ j, 0 ≤ j → j < R 0 19 → R 7 j = v → M (a + 10) v ≤ R 6 j)
def CuE (M : ZM) (p : Nat) (Z : Int → Int) (i : Int) : Prop := M (p + 1) i = Z 0 ∧ M (p + 2) i = Z 1 ∧ M (p + 3) i = Z 8 ∧ M (p + 4) i = Z 9 ∧ M (p + 5) i = Z 10 ∧ M (p + 6) i = Z 2 ∧ M (p + 7) i = Z 7 ∧ ∀ k, 0 ≤ k → k < Z 2 → M (p + 8) (i * 4 + k) = Z (3 + k)
def wfZ (R : ZM) (Z : Int → Int) : Prop := (0 ≤ Z 0 ∧ Z 0 ≤ 5) ∧ (0 ≤ Z 2 ∧ Z 2 ≤ 4) ∧ (∀ k, 0 ≤ k → k < Z 2 → ∃ j, 0 ≤ j ∧ j < R 0 19 ∧ R 7 j = Z (3 + k)) ∧ (0 ≤ Z 7 ∧ Z 7 < 16) ∧ (0 ≤ Z 8 ∧ Z 8 ≤ 2) ∧ (0 ≤ Z 9 ∧ Z 9 ≤ 9) ∧ (0 ≤ Z 10 ∧ Z 10 ≤ 1)
def Dn (M R : ZM) (a : Nat) (P P1 : Int) : Prop := (∀ j, 0 ≤ j → j < R 0 19 → R 7 j < 12) ∧ (∀ i, 0 ≤ i → i < P → CuE M (a + 1) (fun e => R 5 (1 + 11 * i + e)) i ∧ wfZ R (fun e => R 5 (1 + 11 * i + e))) ∧ ∀ (i : Int) (d : Nat), P1 ≤ i → i < 12 → 1 ≤ d → d ≤ 7 → M (a + 1 + d) i = 0
def QC (M0 R0 : ZM) (a : Nat) (T : Int → Int) (N : Int) (M R : ZM) (w : Int64) (r m : Int) : Prop := FrM a M0 M ∧ FrR R0 R ∧ Tk M R w a T N r ∧ Ft M R a ∧ NdL M R a m ∧ (∀ i, 0 ≤ i → i < 12 → 0 ≤ M (a + 1 + 6) i ∧ M (a + 1 + 6) i ≤ 4) ∧ ∀ e, 133 ≤ e → e < 891 → R 5 e = 0
def Q1 (M0 R0 : ZM) (a : Nat) (T : Int → Int) (N : Int) (M R : ZM) (w : Int64) (r m P : Int) : Prop := QC M0 R0 a T N M R w r m ∧ (M a 3 = P ∧ 0 ≤ P ∧ P ≤ r) ∧ (P ≤ 12 ∧ R 5 0 = P ∨ 12 < P ∧ R 5 0 = 12) ∧ (M a 6 = 0 → P ≤ 12 ∧ Dn M R a P P)
def Q2 (M0 R0 : ZM) (a : Nat) (T : Int → Int) (N : Int) (M R : ZM) (w : Int64) (r m P : Int) : Prop := QC M0 R0 a T N M R w r m ∧ (M a 3 = P + 1 ∧ 0 ≤ P ∧ P < r) ∧ (P ≤ 12 ∧ R 5 0 = P ∨ 12 < P ∧ R 5 0 = 12) ∧ (P ≤ 11 ∧ M a 4 = P ∨ 11 < P ∧ M a 4 = 11) ∧ (0 ≤ M a 5 ∧ M a 5 ≤ R 0 19) ∧ (M a 5 ≤ 4 ∧ R 8 2 = M a 5 ∨ 4 < M a 5 ∧ R 8 2 = 4) ∧ (M a 6 = 0 → P < 12 ∧ Dn M R a P (P + 1) ∧ CuE M (a + 1) (R 8) P ∧ wfZ R (R 8))
theorem FrT.cell {R R1 : ZM} (h : FrT R R1) : (∀ j, j ≠ 0 → R1 j = R j) ∧ R1 0 14 = R 0 14 ∧ R1 0 15 = R 0 15 ∧ R1 0 19 = R 0 19 := ⟨h.1, h.2 _ (by omega) (by omega) (by omega) (by omega) (by omega), h.2 _ (by omega) (by omega) (by omega) (by omega) (by omega), h.2 _ (by omega) (by omega) (by omega) (by omega) (by omega)⟩
theorem CuE.fr {M M1 : ZM} {p : Nat} {Z : Int → Int} {i : Int} (h : CuE M p Z i) (hm : ∀ d, 1 ≤ d → d ≤ 8 → M1 (p + d) = M (p + d)) : CuE M1 p Z i := by
  unfold CuE
  rw [hm 1 (by omega) (by omega), hm 2 (by omega) (by omega), hm 3 (by omega) (by omega), hm 4 (by omega) (by omega), hm 5 (by omega) (by omega), hm 6 (by omega) (by omega), hm 7 (by omega) (by omega), hm 8 (by omega) (by omega)]
  exact h
theorem Dn.fr {M M1 R R1 : ZM} {a : Nat} {P P1 : Int} (h : Dn M R a P P1) (hm : ∀ d, 1 ≤ d → d ≤ 8 → M1 (a + 1 + d) = M (a + 1 + d)) (h5 : R1 5 = R 5) (h7 : R1 7 = R 7) (h19 : R1 0 19 = R 0 19) : Dn M1 R1 a P P1 := by
  unfold Dn wfZ
  rw [h5, h7, h19]
  refine ⟨h.1, fun i a1 a2 => ⟨(h.2.1 i a1 a2).1.fr hm, (h.2.1 i a1 a2).2⟩, fun i d g1 g2 g3 g4 => ?_⟩
  rw [hm d g3 (by omega)]
  exact h.2.2 i d g1 g2 g3 g4
theorem NdL.fr {M M1 R R1 : ZM} {a : Nat} {m m1 : Int} (h : NdL M R a m) (hm : M1 (a + 10) = M (a + 10)) (h6 : R1 6 = R 6) (h7 : R1 7 = R 7) (h19 : R1 0 19 = R 0 19) (hle : m ≤ m1) : NdL M1 R1 a m1 := by
  unfold NdL
  rw [hm, h6, h7, h19]
  exact ⟨⟨h.1.1, by have := h.1.2; omega⟩, fun j a1 a2 => ⟨⟨(h.2.1 j a1 a2).1.1, by have := (h.2.1 j a1 a2).1.2; omega⟩, (h.2.1 j a1 a2).2⟩, h.2.2⟩
section RD1
variable {F : Nat} {lg : Nat → Nat → Int64} {M0 R0 M R : ZM} {w : Int64} {a pb : Nat} {T : Int → Int} {N r m P : Int}
theorem FrR.tok {R1 : ZM} (h : FrR R0 R) (ht : FrT R R1) : FrR R0 R1 := ⟨fun j h0 h5 h6 h7 h8 => by rw [ht.1 j h0]; exact h.1 j h0 h5 h6 h7 h8, fun e e6 e8 e9 e10 e11 e13 e14 e15 e19 => by rw [ht.2 e e6 e8 e9 e10 e11]; exact h.2 e e6 e8 e9 e10 e11 e13 e14 e15 e19⟩
theorem adv2 (hF : 700 < F) (hN : 0 ≤ N ∧ N ≤ 600) (hT : ∀ e, -128 ≤ T e ∧ T e ≤ 127) (hpb : pb < a) (gp : ∀ e, 0 ≤ e → e < N → M0 pb e = T e) (gt : ∀ e, 0 ≤ e → e < N → R0 2 e = T e) (hM : FrM a M0 M) (hR : FrR R0 R) (ht : Tk M R w a T N r) : ∃ M1 R1 w1, p_X8_advance F pb (a + 11) (LI M) lg = some (LI M1, lg) ∧ p_X11_token F (LI R) w = some (LI R1, w1) ∧ Tk M1 R1 w1 a T N (tkE T N r) ∧ (∀ j, j ≠ a + 11 → M1 j = M j) ∧ FrT R R1 := by
  obtain ⟨⟨c1, c2, c3, c4, c5⟩, ⟨d1, d2, d3, d4⟩, hr⟩ := ht
  have h := tk_rng (T := T) hr hN.2
  obtain ⟨M1, a1, a2, a3⟩ := y_advance (F := F) (lg := lg) (M := M) (t := a + 11) (pb := pb) (T := T) (N := N) (r := tkE T N r) hF (by omega) hN hT (by omega) c1 c4 (fun e e0 e1 => by rw [hM pb (by omega)]; exact gp e e0 e1)
  obtain ⟨R1, w1, b1, b2, b3⟩ := x_token (F := F) (w := w) (R := R) (T := T) (N := N) (r := tkE T N r) hF hN hT (by omega) d1 d3 (fun e e0 e1 => by rw [hR.1 2 (by omega) (by omega) (by omega) (by omega) (by omega)]; exact gt e e0 e1)
  exact ⟨M1, R1, w1, a1, b1, ⟨a2, b2, by omega⟩, a3, b3⟩
/-- another token, all else as it was -/
theorem QC.tok {M1 R1 : ZM} {w1 : Int64} {r1 m1 : Int} (h : QC M0 R0 a T N M R w r m) (ht : Tk M1 R1 w1 a T N r1) (hM : ∀ j, j ≠ a + 11 → M1 j = M j) (hR : FrT R R1) (hm : m ≤ m1) : QC M0 R0 a T N M1 R1 w1 r1 m1 := by
  obtain ⟨h1, h2, h3, h4, h5, h6, h7⟩ := h
  obtain ⟨k1, k2, k3, k4⟩ := hR.cell
  refine ⟨fun j hj => by rw [hM j (by omega)]; exact h1 j hj, h2.tok hR, ht, ?_, h5.fr (hM _ (by omega)) (k1 _ (by omega)) (k1 _ (by omega)) k4 hm, ?_, ?_⟩
  · unfold Ft
    rw [hM a (by omega), k2, k3]
    exact h4
  · rw [hM (a + 1 + 6) (by omega)]; exact h6
  · rw [k1 5 (by omega)]; exact h7
theorem Q1.tok {M1 R1 : ZM} {w1 : Int64} {r1 m1 : Int} (h : Q1 M0 R0 a T N M R w r m P) (ht : Tk M1 R1 w1 a T N r1) (hM : ∀ j, j ≠ a + 11 → M1 j = M j) (hR : FrT R R1) (hm : m ≤ m1) (hr : r ≤ r1) : Q1 M0 R0 a T N M1 R1 w1 r1 m1 P := by
  obtain ⟨h1, h2, h3, h4⟩ := h
  obtain ⟨k1, k2, k3, k4⟩ := hR.cell
  refine ⟨h1.tok ht hM hR hm, ?_, ?_, ?_⟩
  · rw [hM a (by omega)]; exact ⟨h2.1, h2.2.1, by omega⟩
  · rw [k1 5 (by omega)]; exact h3
  · rw [hM a (by omega)]
    exact fun g => ⟨(h4 g).1, (h4 g).2.fr (fun d _ _ => hM _ (by omega)) (k1 _ (by omega)) (k1 _ (by omega)) k4⟩
theorem wfZ.fr {R1 : ZM} {Z : Int → Int} (h : wfZ R Z) (h7 : R1 7 = R 7) (h19 : R1 0 19 = R 0 19) : wfZ R1 Z := by
  unfold wfZ
  rw [h7, h19]
  exact h
theorem Q2.tok {M1 R1 : ZM} {w1 : Int64} {r1 m1 : Int} (h : Q2 M0 R0 a T N M R w r m P) (ht : Tk M1 R1 w1 a T N r1) (hM : ∀ j, j ≠ a + 11 → M1 j = M j) (hR : FrT R R1) (hm : m ≤ m1) (hr : r ≤ r1) : Q2 M0 R0 a T N M1 R1 w1 r1 m1 P := by
  obtain ⟨h1, h2, h3, h4, h5, h6, h7⟩ := h
  obtain ⟨k1, k2, k3, k4⟩ := hR.cell
  refine ⟨h1.tok ht hM hR hm, ?_, ?_, ?_, ?_, ?_, ?_⟩
  · rw [hM a (by omega)]; exact ⟨h2.1, h2.2.1, by omega⟩
  · rw [k1 5 (by omega)]; exact h3
  · rw [hM a (by omega)]; exact h4
  · rw [hM a (by omega), k4]; exact h5
  · rw [hM a (by omega), k1 8 (by omega)]; exact h6
  · rw [hM a (by omega), k1 8 (by omega)]
    exact fun g => ⟨(h7 g).1, (h7 g).2.1.fr (fun d _ _ => hM _ (by omega)) (k1 _ (by omega)) (k1 _ (by omega)) k4, (h7 g).2.2.1.fr (fun d _ _ => hM _ (by omega)), (h7 g).2.2.2.fr (k1 _ (by omega)) k4⟩
theorem Q2.adv (hF : 700 < F) (hN : 0 ≤ N ∧ N ≤ 600) (hT : ∀ e, -128 ≤ T e ∧ T e ≤ 127) (hpb : pb < a) (gp : ∀ e, 0 ≤ e → e < N → M0 pb e = T e) (gt : ∀ e, 0 ≤ e → e < N → R0 2 e = T e) (h : Q2 M0 R0 a T N M R w r m P) (hm : m ≤ mpo T N (tkE T N r)) : ∃ M1 R1 w1, p_X8_advance F pb (a + 11) (LI M) lg = some (LI M1, lg) ∧ p_X11_token F (LI R) w = some (LI R1, w1) ∧ Q2 M0 R0 a T N M1 R1 w1 (tkE T N r) (mpo T N (tkE T N r)) P := by
  obtain ⟨M1, R1, w1, a1, a2, a3, a4, a5⟩ := adv2 (lg := lg) hF hN hT hpb gp gt h.1.1 h.1.2.1 h.1.2.2.1
  have := tk_rng (T := T) h.1.2.2.1.2.2 hN.2
  exact ⟨M1, R1, w1, a1, a2, h.tok a3 a4 a5 hm (by omega)⟩
/-- a fault is noted by both alike -/
theorem note_ok {f p : Int} (h : QC M0 R0 a T N M R w r m) (hf : 1 ≤ f ∧ f ≤ 5) (hp : 0 ≤ p ∧ p ≤ 700) : ∃ M1 R1, p_X6_note F pb a (zt f) (zt p) (LI M) lg = some (LI M1, lg) ∧ p_X11_isBad F (zt f) (zt p) (LI R) w = some (LI R1, w) ∧ QC M0 R0 a T N M1 R1 w r m ∧ M1 a 6 ≠ 0 ∧ (∀ j, j ≠ a → M1 j = M j) ∧ (∀ e, e ≠ 6 → e ≠ 7 → M1 a e = M a e) ∧ (∀ j, j ≠ 0 → R1 j = R j) ∧ (∀ e, e ≠ 14 → e ≠ 15 → R1 0 e = R 0 e) ∧ (M1 a 6 = M a 6 ∧ M1 a 7 = M a 7 ∧ M a 6 ≠ 0 ∧ (M a 7 < p ∨ M a 7 = p ∧ M a 6 ≤ f) ∨ M1 a 6 = f ∧ M1 a 7 = p ∧ (M a 6 = 0 ∨ p < M a 7 ∨ p = M a 7 ∧ f < M a 6)) := by
  obtain ⟨h1, h2, ⟨⟨c1, c2, c3, c4, c5⟩, ht2, hr⟩, ⟨f1, f2, f3, f4⟩, h5, h6, h7⟩ := h
  have hnew : (M a 6 = 0 ∨ p < M a 7 ∨ p = M a 7 ∧ f < M a 6) → QC M0 R0 a T N (uM (uM M a 6 f) a 7 p) (uM (uM R 0 15 f) 0 14 p) w r m := by
    intro _
    have e0 : ∀ j, j ≠ a → uM (uM M a 6 f) a 7 p j = M j := fun j hj => by funext e; rw [uM_ne hj, uM_ne hj]
    have e1 : ∀ j, j ≠ 0 → uM (uM R 0 15 f) 0 14 p j = R j := fun j hj => by funext e; rw [uM_ne hj, uM_ne hj]
    have e2 : ∀ e, e ≠ 14 → e ≠ 15 → uM (uM R 0 15 f) 0 14 p 0 e = R 0 e := fun e a1 a2 => by rw [uM_nei a1, uM_nei a2]
    refine ⟨fun j hj => by rw [e0 j (by omega)]; exact h1 j hj, ⟨fun j g0 g5 g6 g7 g8 => by rw [e1 j g0]; exact h2.1 j g0 g5 g6 g7 g8, fun e e6 e8 e9 e10 e11 e13 e14 e15 e19 => by rw [e2 e e14 e15]; exact h2.2 e e6 e8 e9 e10 e11 e13 e14 e15 e19⟩, ⟨?_, ?_, hr⟩, ?_, h5.fr (e0 _ (by omega)) (e1 _ (by omega)) (e1 _ (by omega)) (e2 _ (by omega) (by omega)) (Int.le_refl _), ?_, ?_⟩
    · unfold TokC
      rw [e0 (a + 11) (by omega)]
      exact ⟨c1, c2, c3, c4, c5⟩
    · unfold TokR
      rw [e2 _ (by omega) (by omega), e2 _ (by omega) (by omega), e2 _ (by omega) (by omega), e2 _ (by omega) (by omega), e2 _ (by omega) (by omega), e2 _ (by omega) (by omega)]
      exact ht2
    · exact ⟨by rw [uM_nei (by omega), uM_eq, uM_nei (by omega), uM_eq], by rw [uM_eq, uM_eq], by rw [uM_nei (by omega), uM_eq]; omega, by rw [uM_eq]; omega⟩
    · rw [e0 (a + 1 + 6) (by omega)]; exact h6
    · rw [e1 5 (by omega)]; exact h7
  have kM : pk_X6_note_31 F pb a (zt f) (zt p) (LI M) lg = some (LI (uM (uM M a 6 f) a 7 p), lg) := by
    unfold pk_X6_note_31
    rw [up2_6, gnm_z, up2_7, gnm_z]
  have kR : pk_X11_isBad_31 F (zt f) (zt p) (LI R) w = some (LI (uM (uM R 0 15 f) 0 14 p), w) := by
    unfold pk_X11_isBad_31
    rw [show up2 (LI R) 0 15 (zt f) = LI (uM R 0 15 f) from up2_z R 0 15 f, gnm_z, show up2 (LI (uM R 0 15 f)) 0 14 (zt p) = LI (uM (uM R 0 15 f) 0 14 p) from up2_z _ 0 14 p, gnm_z]
  unfold p_X6_note p_X11_isBad
  rw [LI_6, LI_7, show LI R 0 15 = zt (M a 6) from by rw [f1]; rfl, show LI R 0 14 = zt (M a 7) from by rw [f2]; rfl, kM, kR]
  simp (disch := omega) only [zt_lit, zt_eq, zt_lt, zt_le]
  have yes : (M a 6 = 0 ∨ p < M a 7 ∨ p = M a 7 ∧ f < M a 6) → ∃ M1 R1, (some (LI (uM (uM M a 6 f) a 7 p), lg) : Option ((Nat → Nat → Int32) × (Nat → Nat → Int64))) = some (LI M1, lg) ∧ (some (LI (uM (uM R 0 15 f) 0 14 p), w) : Option ((Nat → Nat → Int32) × Int64)) = some (LI R1, w) ∧ QC M0 R0 a T N M1 R1 w r m ∧ M1 a 6 ≠ 0 ∧ (∀ j, j ≠ a → M1 j = M j) ∧ (∀ e, e ≠ 6 → e ≠ 7 → M1 a e = M a e) ∧ (∀ j, j ≠ 0 → R1 j = R j) ∧ (∀ e, e ≠ 14 → e ≠ 15 → R1 0 e = R 0 e) ∧ (M1 a 6 = M a 6 ∧ M1 a 7 = M a 7 ∧ M a 6 ≠ 0 ∧ (M a 7 < p ∨ M a 7 = p ∧ M a 6 ≤ f) ∨ M1 a 6 = f ∧ M1 a 7 = p ∧ (M a 6 = 0 ∨ p < M a 7 ∨ p = M a 7 ∧ f < M a 6)) := fun hq => by
    refine ⟨_, _, rfl, rfl, hnew hq, ?_, fun j hj => by funext e; rw [uM_ne hj, uM_ne hj], fun e e6 e7 => by rw [uM_nei e7, uM_nei e6], fun j hj => by funext e; rw [uM_ne hj, uM_ne hj], fun e e14 e15 => by rw [uM_nei e14, uM_nei e15], Or.inr ⟨?_, uM_eq _ _ _ _, hq⟩⟩
    · rw [uM_nei (by omega), uM_eq]; omega
    · rw [uM_nei (by omega), uM_eq]
  have no : M a 6 ≠ 0 → (M a 7 < p ∨ M a 7 = p ∧ M a 6 ≤ f) → ∃ M1 R1, (some (LI M, lg) : Option ((Nat → Nat → Int32) × (Nat → Nat → Int64))) = some (LI M1, lg) ∧ (some (LI R, w) : Option ((Nat → Nat → Int32) × Int64)) = some (LI R1, w) ∧ QC M0 R0 a T N M1 R1 w r m ∧ M1 a 6 ≠ 0 ∧ (∀ j, j ≠ a → M1 j = M j) ∧ (∀ e, e ≠ 6 → e ≠ 7 → M1 a e = M a e) ∧ (∀ j, j ≠ 0 → R1 j = R j) ∧ (∀ e, e ≠ 14 → e ≠ 15 → R1 0 e = R 0 e) ∧ (M1 a 6 = M a 6 ∧ M1 a 7 = M a 7 ∧ M a 6 ≠ 0 ∧ (M a 7 < p ∨ M a 7 = p ∧ M a 6 ≤ f) ∨ M1 a 6 = f ∧ M1 a 7 = p ∧ (M a 6 = 0 ∨ p < M a 7 ∨ p = M a 7 ∧ f < M a 6)) := fun hq hq2 => ⟨M, R, rfl, rfl, ⟨h1, h2, ⟨⟨c1, c2, c3, c4, c5⟩, ht2, hr⟩, ⟨f1, f2, f3, f4⟩, h5, h6, h7⟩, hq, fun _ _ => rfl, fun _ _ _ => rfl, fun _ _ => rfl, fun _ _ _ => rfl, Or.inl ⟨rfl, rfl, hq, hq2⟩⟩
  by_cases q : M a 6 = 0
  · simp only [if_pos q]
    exact yes (Or.inl (by omega))
  · simp only [if_neg q]
    by_cases q1 : p < M a 7
    · simp only [if_pos q1]
      exact yes (Or.inr (Or.inl (by omega)))
    · simp only [if_neg q1]
      by_cases q2 : p = M a 7
      · simp only [if_pos q2]
        by_cases q3 : M a 6 ≤ f
        · simp only [if_pos q3]
          exact no (by omega) (Or.inr (by omega))
        · simp only [if_neg q3]
          exact yes (Or.inr (Or.inr (by omega)))
      · simp only [if_neg q2]
        exact no (by omega) (Or.inl (by omega))
end RD1
