/-! A part begins: both readers alike. -/
def ntM (M : ZM) (a : Nat) (f p : Int) : ZM := if M a 6 = 0 ∨ p < M a 7 ∨ (p = M a 7 ∧ f < M a 6) then uM (uM M a 6 f) a 7 p else M
section RD6
variable {F : Nat} {lg : Nat → Nat → Int64} {M0 R0 M R : ZM} {w : Int64} {a pb : Nat} {T : Int → Int} {N r m P : Int}
theorem nt_row {f p : Int} {j : Nat} (hj : j ≠ a) : ntM M a f p j = M j := by
  unfold ntM
  split
  · funext e; rw [uM_ne hj, uM_ne hj]
  · rfl
theorem nt_cell {f p e : Int} (h6 : e ≠ 6) (h7 : e ≠ 7) : ntM M a f p a e = M a e := by
  unfold ntM
  split
  · rw [uM_nei h7, uM_nei h6]
  · rfl
theorem nt_same {f p : Int} {M1 : ZM} (h : M1 a = M a) : ntM M1 a f p a = ntM M a f p a := by
  unfold ntM
  rw [h]
  split
  · funext e
    by_cases q7 : e = 7
    · rw [uM_eqi q7, uM_eqi q7]
    · rw [uM_nei q7, uM_nei q7]
      by_cases q6 : e = 6
      · rw [uM_eqi q6, uM_eqi q6]
      · rw [uM_nei q6, uM_nei q6, h]
  · exact h
theorem y_note {f p : Int} (h6 : 0 ≤ M a 6 ∧ M a 6 ≤ 5) (h7 : -1 ≤ M a 7 ∧ M a 7 ≤ 700) (hf : 1 ≤ f ∧ f ≤ 5) (hq : 0 ≤ p ∧ p ≤ 700) : p_X6_note F pb a (zt f) (zt p) (LI M) lg = some (LI (ntM M a f p), lg) := by
  have kM : pk_X6_note_31 F pb a (zt f) (zt p) (LI M) lg = some (LI (uM (uM M a 6 f) a 7 p), lg) := by
    unfold pk_X6_note_31
    rw [up2_6, gnm_z, up2_7, gnm_z]
  unfold p_X6_note ntM
  rw [LI_6, LI_7, kM]
  simp (disch := omega) only [zt_lit, zt_eq, zt_lt, zt_le]
  by_cases q : M a 6 = 0
  · rw [if_pos q, if_pos (Or.inl q)]
  · rw [if_neg q]
    by_cases q1 : p < M a 7
    · rw [if_pos q1, if_pos (Or.inr (Or.inl q1))]
    · rw [if_neg q1]
      by_cases q2 : p = M a 7
      · rw [if_pos q2]
        by_cases q3 : M a 6 ≤ f
        · rw [if_pos q3, if_neg (by omega)]
        · rw [if_neg q3, if_pos (by omega)]
      · rw [if_neg q2, if_neg (by omega)]
/-- what note_ok leaves is ntM -/
theorem nt_eq {f p : Int} {M1 : ZM} (h1 : ∀ j, j ≠ a → M1 j = M j) (h2 : ∀ e, e ≠ 6 → e ≠ 7 → M1 a e = M a e) (h3 : M1 a 6 = M a 6 ∧ M1 a 7 = M a 7 ∧ M a 6 ≠ 0 ∧ (M a 7 < p ∨ M a 7 = p ∧ M a 6 ≤ f) ∨ M1 a 6 = f ∧ M1 a 7 = p ∧ (M a 6 = 0 ∨ p < M a 7 ∨ p = M a 7 ∧ f < M a 6)) : M1 = ntM M a f p := by
  funext j e
  by_cases qj : j = a
  · subst qj
    unfold ntM
    rcases h3 with ⟨g1, g2, g3⟩ | ⟨g1, g2, g3⟩
    · rw [if_neg (by omega)]
      by_cases q6 : e = 6
      · rw [q6]; exact g1
      · by_cases q7 : e = 7
        · rw [q7]; exact g2
        · exact h2 e q6 q7
    · rw [if_pos g3]
      by_cases q7 : e = 7
      · rw [uM_eqi q7, q7]; exact g2
      · rw [uM_nei q7]
        by_cases q6 : e = 6
        · rw [uM_eqi q6, q6]; exact g1
        · rw [uM_nei q6]; exact h2 e q6 q7
  · rw [h1 j qj, nt_row qj]
/-- the piece is emptied -/
theorem x_empty {v1 : Int} : ∀ (n : Nat) (i : Int) (R : ZM) (w : Int64) (K : Nat), i + n = 11 → 0 ≤ i → n < K → (∀ e, 0 ≤ e → e < i → R 8 e = 0) → ∃ R1, fixN (fun _ _ _ => none) (pb_X11_line_51 F (zt v1)) K (zt i) (LI R) w = pk_X11_line_70 F (zt v1) (LI R1) w ∧ (∀ e, 0 ≤ e → e < 11 → R1 8 e = 0) ∧ ∀ j, j ≠ 8 → R1 j = R j := by
  intro n
  induction n with
  | zero =>
    intro i R w K h1 h2 hK h
    obtain ⟨g, rfl⟩ : ∃ g, K = g + 1 := ⟨K - 1, by omega⟩
    rw [fix_succ]
    refine ⟨R, ?_, fun e e0 e1 => h e e0 (by omega), fun _ _ => rfl⟩
    unfold pb_X11_line_51
    rw [show (11 : Int32) = zt 11 from rfl, if_pos (zle_pos (by omega) (by omega) (by omega))]
  | succ n ih =>
    intro i R w K h1 h2 hK h
    obtain ⟨g, rfl⟩ : ∃ g, K = g + 1 := ⟨K - 1, by omega⟩
    obtain ⟨R1, a1, a2, a3⟩ := ih (i + 1) (uM R 8 i 0) w g (by omega) (by omega) (by omega) (fun e e0 e1 => by
      by_cases q : e = i
      · rw [uM_eqi q]
      · rw [uM_nei q]; exact h e e0 (by omega))
    rw [fix_succ]
    refine ⟨R1, ?_, a2, fun j hj => by rw [a3 j hj]; funext e; exact uM_ne hj⟩
    rw [← a1]
    generalize fixN (fun _ _ _ => none) (pb_X11_line_51 F (zt v1)) g = rr
    unfold pb_X11_line_51
    rw [show (11 : Int32) = zt 11 from rfl, if_neg (zle_neg (by omega) (by omega) (by omega)), show (0 : Int32) = zt 0 from rfl, mS_z (by omega) (by omega) (by omega), ob_z, show (1 : Int32) = zt 1 from rfl, zt_add]
/-- what follows the part's first rows in the class -/
def rdRest (F : Nat) (pb v0 : Nat) (sg7 : Nat → Nat → Int32) (lg : Nat → Nat → Int64) : Option (Int32 × (Nat → Nat → Int32) × (Nat → Nat → Int64)) :=
  hcI (p_X6_readAct F pb v0 sg7 lg) (fun (x10 : Int32) (sg8 : Nat → Nat → Int32) (lg9 : Nat → Nat → Int64) =>
  if x10 = 0 then
  (hN .boolean (0 : Int32) sg8 lg9)
  else (hcI (p_X6_readNumber F pb v0 sg8 lg9) (fun (x13 : Int32) (sg11 : Nat → Nat → Int32) (lg12 : Nat → Nat → Int64) =>
  if x13 = 0 then
  (hN .boolean (0 : Int32) sg11 lg12)
  else (fixN (fun _ _ _ => none) (pb_X6_readPart_83 F  pb v0  ) F (0 : Int32) sg11 lg12))))
theorem y_begin6 (hM : M a 3 = P) (hP : 0 ≤ P ∧ P ≤ 700) : pk_X6_readPart_37 F pb a (LI M) lg = rdRest F pb a (LI (uM (uM (uM M a 4 (if 11 < P then 11 else P)) a 3 (P + 1)) a 5 0)) lg := by
  unfold pk_X6_readPart_37
  have e : (if (11 : Int32) < LI M a 3 then (11 : Int32) else LI M a 3) = zt (if 11 < P then 11 else P) := by
    rw [LI_3, hM]
    by_cases q : 11 < P
    · rw [if_pos (by rw [show (11 : Int32) = zt 11 from rfl, zt_lt (by omega) (by omega) (by omega) (by omega)]; exact q), if_pos q]
      rfl
    · rw [if_neg (by rw [show (11 : Int32) = zt 11 from rfl, zt_lt (by omega) (by omega) (by omega) (by omega)]; exact q), if_neg q]
  rw [e, up2_4, gnm_z, LI_3, uM_nei (by omega), hM, show (1 : Int32) = zt 1 from rfl, zt_add, up2_3, gnm_z, show (0 : Int32) = zt 0 from rfl, up2_5, gnm_z]
  rfl
theorem start_ok (hF : 700 < F) (hN : 0 ≤ N ∧ N ≤ 600) (hT : ∀ e, -128 ≤ T e ∧ T e ≤ 127) (hpb : pb < a) (gp : ∀ e, 0 ≤ e → e < N → M0 pb e = T e) (gt : ∀ e, 0 ≤ e → e < N → R0 2 e = T e) (h : Q1 M0 R0 a T N M R w r (mpo T N r) P) (hw : wdP T N r 0 = true) : ∃ M2 R2 w2 v1, p_X6_readPart F pb a (LI M) lg = rdRest F pb a (LI M2) lg ∧ p_X11_line F (LI R) w = pk_X11_line_70 F (zt v1) (LI R2) w2 ∧ (P < 12 ∧ v1 = 1 ∨ 12 ≤ P ∧ v1 = 0) ∧ Q2 M0 R0 a T N M2 R2 w2 (tkE T N r) (mpo T N (tkE T N r)) P := by
  obtain ⟨k1, k2, k3, k4⟩ := h
  have htk := k1.2.2.1
  have hr := htk.2.2
  have hrg := tk_rng (T := T) hr hN.2
  have hk := wd_k hw
  have hlt := hrg.2.2.1 (by omega)
  have hst := (mpo_step (T := T) hr hN.2 (by omega)).1
  have gpM : ∀ e, 0 ≤ e → e < N → M pb e = T e := fun e e0 e1 => by rw [k1.1 pb (by omega)]; exact gp e e0 e1
  have hft := k1.2.2.2.1
  -- the reference's note, and what it would be in the class
  have ph : ∃ (Mx R' : ZM) (v1 : Int), (P < 12 ∧ v1 = 1 ∧ Mx = M ∨ 12 ≤ P ∧ v1 = 0 ∧ Mx = ntM M a 4 (tkB T N r) ∧ Mx a 6 ≠ 0) ∧ p_X11_line F (LI R) w = pk_X11_line_45 F (zt v1) (LI R') w ∧ QC M0 R0 a T N Mx R' w r (mpo T N r) ∧ (∀ j, j ≠ 0 → R' j = R j) ∧ R' 0 19 = R 0 19 := by
    unfold p_X11_line
    rw [xw1 (k := 0) (c := 1885434484) (by omega) rfl hN htk hw, ob_z, if_neg (by decide), show (0 : Int32) = zt 0 from rfl, mI_z (by omega) (by omega) (by omega), ob_z, show (12 : Int32) = zt 12 from rfl]
    by_cases q : P < 12
    · rw [if_neg (zle_neg (by omega) (by omega) (by omega))]
      exact ⟨M, R, 1, Or.inl ⟨q, rfl, rfl⟩, by unfold pk_X11_line_31; rw [if_neg (by decide)]; rfl, k1, fun _ _ => rfl, rfl⟩
    · rw [if_pos (zle_pos (by omega) (by omega) (by omega))]
      obtain ⟨M1, R1, a1, a2, a3, a4, a5, a6, a7, a8, a9⟩ := note_ok (F := F) (lg := lg) (pb := pb) (f := 4) (p := tkB T N r) k1 (by omega) (by omega)
      refine ⟨M1, R1, 0, Or.inr ⟨by omega, rfl, nt_eq a5 a6 a9, a4⟩, ?_, a3, a7, a8 _ (by omega) (by omega)⟩
      unfold pk_X11_line_31
      rw [if_pos (show zt 0 = (0 : Int32) from rfl), LI_8, htk.2.1.2.1, show (4 : Int32) = zt 4 from rfl, a2, pcU_z]
  obtain ⟨Mx, R', v1, p1, p2, p3, p4, p5⟩ := ph
  have hMx : ∀ j, j ≠ a → Mx j = M j := fun j hj => by
    rcases p1 with ⟨-, -, e⟩ | ⟨-, -, e, -⟩
    · rw [e]
    · rw [e]; exact nt_row hj
  have hMa : ∀ e, e ≠ 6 → e ≠ 7 → Mx a e = M a e := fun e e6 e7 => by
    rcases p1 with ⟨-, -, g⟩ | ⟨-, -, g, -⟩
    · rw [g]
    · rw [g]; exact nt_cell e6 e7
  obtain ⟨M1, R1, w1, a1, a2, a3, a4, a5⟩ := adv2 (F := F) (lg := lg) hF hN hT hpb gp gt k1.1 p3.2.1 (p3.2.2.1.set (M1 := M) (hMx _ (by omega)).symm (fun _ _ _ => rfl))
  obtain ⟨R2, b1, b2, b3⟩ := x_empty (F := F) (v1 := v1) 11 0 R1 w1 F (by omega) (by omega) (by omega) (fun e e0 e1 => by omega)
  -- the class's note
  have hcl : ∃ M3, p_X6_readPart F pb a (LI M) lg = pk_X6_readPart_37 F pb a (LI M3) lg ∧ (∀ j, j ≠ a + 11 → M3 j = Mx j) ∧ M3 (a + 11) = M1 (a + 11) := by
    unfold p_X6_readPart
    rw [gnm_z, yt1 hF (by omega) hN hT htk gpM hw a1, hcI_z, if_neg (by decide), LI_3, LI_3, show M1 a 3 = P by rw [a4 a (by omega)]; exact k2.1, htk.1.2.2.1, show (12 : Int32) = zt 12 from rfl]
    rcases p1 with ⟨g1, g2, g3⟩ | ⟨g1, g2, g3, g4⟩
    · rw [if_pos (by rw [zt_lt (by omega) (by omega) (by omega) (by omega)]; exact g1)]
      exact ⟨M1, rfl, fun j hj => by rw [g3]; exact a4 j hj, rfl⟩
    · rw [if_neg (by rw [zt_lt (by omega) (by omega) (by omega) (by omega)]; omega), show (4 : Int32) = zt 4 from rfl, y_note (by rw [a4 a (by omega), hft.1]; exact hft.2.2.1) (by rw [a4 a (by omega), hft.2.1]; exact hft.2.2.2) (by omega) (by omega), hcU_z]
      refine ⟨_, rfl, fun j hj => ?_, nt_row (by omega)⟩
      by_cases q : j = a
      · subst q; rw [g3]; exact nt_same (a4 _ (by omega))
      · rw [nt_row q, hMx j q]; exact a4 j hj
  obtain ⟨M3, c1, c2, c3⟩ := hcl
  have e3 : M3 a 3 = P := by rw [c2 a (by omega), hMa 3 (by omega) (by omega)]; exact k2.1
  have qc : QC M0 R0 a T N M3 R1 w1 (tkE T N r) (mpo T N (tkE T N r)) := p3.tok (a3.set c3 (fun _ _ _ => rfl)) c2 a5 hst
  obtain ⟨t1, t2, t3, t4⟩ := a5.cell
  refine ⟨uM (uM (uM M3 a 4 (if 11 < P then 11 else P)) a 3 (P + 1)) a 5 0, R2, w1, v1, by rw [c1, y_begin6 e3 (by omega)], ?_, ?_, ?_⟩
  · rw [p2]
    unfold pk_X11_line_45
    rw [a2, pcU_z, ← b1]
    rfl
  · rcases p1 with ⟨g1, g2, -⟩ | ⟨g1, g2, -⟩
    · exact Or.inl ⟨g1, g2⟩
    · exact Or.inr ⟨g1, g2⟩
  · have er : ∀ j, j ≠ a → uM (uM (uM M3 a 4 (if 11 < P then 11 else P)) a 3 (P + 1)) a 5 0 j = M3 j := fun j hj => by funext e; rw [uM_ne hj, uM_ne hj, uM_ne hj]
    have ec : ∀ e, e ≠ 3 → e ≠ 4 → e ≠ 5 → uM (uM (uM M3 a 4 (if 11 < P then 11 else P)) a 3 (P + 1)) a 5 0 a e = M3 a e := fun e g3 g4 g5 => by rw [uM_nei g5, uM_nei g3, uM_nei g4]
    have v3 : uM (uM (uM M3 a 4 (if 11 < P then 11 else P)) a 3 (P + 1)) a 5 0 a 3 = P + 1 := by rw [uM_nei (by omega), uM_eq]
    have v4 : uM (uM (uM M3 a 4 (if 11 < P then 11 else P)) a 3 (P + 1)) a 5 0 a 4 = (if 11 < P then 11 else P) := by rw [uM_nei (by omega), uM_nei (by omega), uM_eq]
    have v5 : uM (uM (uM M3 a 4 (if 11 < P then 11 else P)) a 3 (P + 1)) a 5 0 a 5 = 0 := uM_eq _ _ _ _
    generalize uM (uM (uM M3 a 4 (if 11 < P then 11 else P)) a 3 (P + 1)) a 5 0 = M4 at er ec v3 v4 v5 ⊢
    have hn19 : 0 ≤ R1 0 19 := qc.2.2.2.2.1.1.1
    refine ⟨qc.set (fun j hj => er j (by omega)) ⟨ec 6 (by omega) (by omega) (by omega), ec 7 (by omega) (by omega) (by omega)⟩ (fun j _ _ g8 => b3 j g8) (fun e _ => by rw [b3 0 (by omega)]) (by rw [er _ (by omega)]; exact qc.2.2.2.2.2.1) (by rw [b3 5 (by omega)]; exact qc.2.2.2.2.2.2), ⟨v3, k2.2.1, by omega⟩, ?_, ?_, ?_, ?_, ?_⟩
    · rw [b3 5 (by omega), t1 5 (by omega), p4 5 (by omega)]; exact k3
    · rw [v4]
      by_cases q : 11 < P
      · rw [if_pos q]; omega
      · rw [if_neg q]; omega
    · rw [v5, b3 0 (by omega)]; exact ⟨Int.le_refl _, hn19⟩
    · rw [v5, b2 2 (by omega) (by omega)]; omega
    · intro g
      rw [ec 6 (by omega) (by omega) (by omega), c2 a (by omega)] at g
      rcases p1 with ⟨g1, g2, g3⟩ | ⟨g1, g2, g3, g4⟩
      · rw [g3] at g
        obtain ⟨-, d⟩ := k4 g
        have hrow : ∀ d, 1 ≤ d → d ≤ 8 → M4 (a + 1 + d) = M (a + 1 + d) := fun d _ _ => by rw [er _ (by omega), c2 _ (by omega), g3]
        have d1 : Dn M4 R2 a P P := d.fr hrow (by rw [b3 5 (by omega), t1 5 (by omega), p4 5 (by omega)]) (by rw [b3 7 (by omega), t1 7 (by omega), p4 7 (by omega)]) (by rw [b3 0 (by omega), t4, p5])
        have z := fun (d : Nat) (hd : 1 ≤ d ∧ d ≤ 7) => d1.2.2 P d (Int.le_refl _) g1 hd.1 hd.2
        have y : ∀ e, 0 ≤ e → e < 11 → R2 8 e = 0 := b2
        refine ⟨g1, ⟨d1.1, d1.2.1, fun i d i0 i1 i2 i3 => d1.2.2 i d (by omega) i1 i2 i3⟩, ⟨?_, ?_, ?_, ?_, ?_, ?_, ?_, fun k k0 k1 => ?_⟩, ?_, ?_, fun k k0 k1 => ?_, ?_, ?_, ?_, ?_⟩
        · rw [z 1 (by omega), y 0 (by omega) (by omega)]
        · rw [z 2 (by omega), y 1 (by omega) (by omega)]
        · rw [z 3 (by omega), y 8 (by omega) (by omega)]
        · rw [z 4 (by omega), y 9 (by omega) (by omega)]
        · rw [z 5 (by omega), y 10 (by omega) (by omega)]
        · rw [z 6 (by omega), y 2 (by omega) (by omega)]
        · rw [z 7 (by omega), y 7 (by omega) (by omega)]
        · rw [y 2 (by omega) (by omega)] at k1; omega
        · rw [y 0 (by omega) (by omega)]; omega
        · rw [y 2 (by omega) (by omega)]; omega
        · rw [y 2 (by omega) (by omega)] at k1; omega
        · rw [y 7 (by omega) (by omega)]; omega
        · rw [y 8 (by omega) (by omega)]; omega
        · rw [y 9 (by omega) (by omega)]; omega
        · rw [y 10 (by omega) (by omega)]; omega
      · exact absurd g g4
end RD6
