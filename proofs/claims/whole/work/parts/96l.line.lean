/-! A part as a whole, in lockstep. -/
def OuL (M0 R0 : ZM) (a : Nat) (T : Int → Int) (N P r : Int) (lg : Nat → Nat → Int64) (oc : Option (Int32 × (Nat → Nat → Int32) × (Nat → Nat → Int64))) (ou : Option (Int32 × (Nat → Nat → Int32) × Int64)) : Prop := (∃ M1 R1 w1 r1, oc = some ((1 : Int32), LI M1, lg) ∧ ou = some ((1 : Int32), LI R1, w1) ∧ r < r1 ∧ Q1 M0 R0 a T N M1 R1 w1 r1 (mpo T N r1) (P + 1)) ∨ OuF M0 R0 a lg oc ou
theorem CuE.cong {M : ZM} {p : Nat} {Z Z1 : Int → Int} {i : Int} (h : CuE M p Z i) (hz : ∀ e, 0 ≤ e → e < 11 → Z1 e = Z e) (h2 : Z 2 ≤ 4) : CuE M p Z1 i := by
  obtain ⟨c1, c2, c3, c4, c5, c6, c7, c8⟩ := h
  refine ⟨?_, ?_, ?_, ?_, ?_, ?_, ?_, fun k k0 k1 => ?_⟩
  · rw [hz 0 (by omega) (by omega)]; exact c1
  · rw [hz 1 (by omega) (by omega)]; exact c2
  · rw [hz 8 (by omega) (by omega)]; exact c3
  · rw [hz 9 (by omega) (by omega)]; exact c4
  · rw [hz 10 (by omega) (by omega)]; exact c5
  · rw [hz 2 (by omega) (by omega)]; exact c6
  · rw [hz 7 (by omega) (by omega)]; exact c7
  · rw [hz 2 (by omega) (by omega)] at k1
    rw [hz (3 + k) (by omega) (by omega)]
    exact c8 k k0 k1
theorem wfZ.cong {R R1 : ZM} {Z Z1 : Int → Int} (h : wfZ R Z) (hz : ∀ e, 0 ≤ e → e < 11 → Z1 e = Z e) (h7 : R1 7 = R 7) (h19 : R1 0 19 = R 0 19) : wfZ R1 Z1 := by
  obtain ⟨c1, c2, c3, c4, c5, c6, c7⟩ := h
  refine ⟨?_, ?_, fun k k0 k1 => ?_, ?_, ?_, ?_, ?_⟩
  · rw [hz 0 (by omega) (by omega)]; exact c1
  · rw [hz 2 (by omega) (by omega)]; exact c2
  · rw [hz 2 (by omega) (by omega)] at k1
    rw [hz (3 + k) (by omega) (by omega), h7, h19]
    exact c3 k k0 k1
  · rw [hz 7 (by omega) (by omega)]; exact c4
  · rw [hz 8 (by omega) (by omega)]; exact c5
  · rw [hz 9 (by omega) (by omega)]; exact c6
  · rw [hz 10 (by omega) (by omega)]; exact c7
section RD7
variable {F : Nat} {lg : Nat → Nat → Int64} {M0 R0 M R : ZM} {w : Int64} {a pb : Nat} {T : Int → Int} {N r m P v1 : Int}
theorem xs45 (hN : 0 ≤ N ∧ N ≤ 600) (hT : ∀ e, -128 ≤ T e ∧ T e ≤ 127) (ht : Tk M R w a T N r) : (tkK T N r = 4 → p_X11_isSign F (45 : Int32) (LI R) w = some 1) ∧ (tkK T N r ≠ 4 → p_X11_isSign F (45 : Int32) (LI R) w = some 0) := by
  have h := x_isSign (F := F) (c := 45) (Or.inr rfl) ht.2.1 hT ht.2.2 hN.2
  rw [show (45 : Int32) = zt 45 from rfl, h]
  refine ⟨fun g => ?_, fun g => ?_⟩
  · rw [if_pos (by rw [g]; rfl)]; rfl
  · rw [if_neg (by intro e; exact g (by simpa using e))]; rfl
theorem xs59 (hN : 0 ≤ N ∧ N ≤ 600) (hT : ∀ e, -128 ≤ T e ∧ T e ≤ 127) (ht : Tk M R w a T N r) : (tkK T N r = 3 → p_X11_isSign F (59 : Int32) (LI R) w = some 1) ∧ (tkK T N r ≠ 3 → p_X11_isSign F (59 : Int32) (LI R) w = some 0) := by
  have h := x_isSign (F := F) (c := 59) (Or.inl ⟨rfl, trivial⟩) ht.2.1 hT ht.2.2 hN.2
  rw [show (59 : Int32) = zt 59 from rfl, h]
  refine ⟨fun g => ?_, fun g => ?_⟩
  · rw [if_pos (by rw [g]; rfl)]; rfl
  · rw [if_neg (by intro e; exact g (by simpa using e))]; rfl
theorem ytake {c : Int} (hN : N ≤ 600) (ht : Tk M R w a T N r) (hc : 0 ≤ c ∧ c ≤ 5) : (tkK T N r = c → ∀ M1, p_X8_advance F pb (a + 11) (LI M) lg = some (LI M1, lg) → p_X8_take F pb (a + 11) (zt c) (LI M) lg = some (1, LI M1, lg)) ∧ (tkK T N r ≠ c → p_X8_take F pb (a + 11) (zt c) (LI M) lg = some (0, LI M, lg)) := by
  unfold p_X8_take
  refine ⟨fun g M1 h1 => ?_, fun g => ?_⟩
  · rw [if_pos (by rw [tkc hN ht hc]; exact g), h1, hcU_z]; rfl
  · rw [if_neg (by rw [tkc hN ht hc]; exact g)]; rfl
/-- the number, once the sign is known -/
def rfNum (F : Nat) (v1 : Int32) (sg8 : Nat → Nat → Int32) (w9 : Int64) : Option (Int32 × (Nat → Nat → Int32) × Int64) :=
  Option.bind (p_X11_isSign F (45 : Int32) sg8 w9) (fun (x10 : Int32) =>
  if x10 = 0 then
  (pk_X11_line_113 F  v1 (1 : Int32) sg8 w9)
  else (pk_X11_line_113 F  v1 (-1 : Int32) sg8 w9))
theorem act_ok (hF : 700 < F) (hN : 0 ≤ N ∧ N ≤ 600) (hT : ∀ e, -128 ≤ T e ∧ T e ≤ 127) (hpb : pb < a) (gp : ∀ e, 0 ≤ e → e < N → M0 pb e = T e) (gt : ∀ e, 0 ≤ e → e < N → R0 2 e = T e) (h : Q2 M0 R0 a T N M R w r (mpo T N r) P) : (∃ M1 R1 w1, p_X6_readAct F pb a (LI M) lg = some (1, LI M1, lg) ∧ pk_X11_line_70 F (zt v1) (LI R) w = rfNum F (zt v1) (LI R1) w1 ∧ r < tkE T N r ∧ Q2 M0 R0 a T N M1 R1 w1 (tkE T N r) (mpo T N (tkE T N r)) P) ∨ OuF M0 R0 a lg (p_X6_readAct F pb a (LI M) lg) (pk_X11_line_70 F (zt v1) (LI R) w) := by
  have htk := h.1.2.2.1
  have hr := htk.2.2
  have hrg := tk_rng (T := T) hr hN.2
  have hp4 := h.2.2.2.1
  have hp0 := h.2.1.2.1
  have hs := acN_rng (T := T) (N := N) (r := r)
  unfold p_X6_readAct pk_X11_line_70
  rw [y_actOfToken hF hN hT htk (fun e e0 e1 => by rw [h.1.1 pb (by omega)]; exact gp e e0 e1), ob_z, x_actHere hN htk, ob_z, show (0 : Int32) = zt 0 from rfl, show mS (LI R) 8 11 (zt 0) (zt (acN T N r)) = some (LI (uM R 8 0 (acN T N r))) from mS_z (by omega) (by omega) (by omega), ob_z, show mI (LI (uM R 8 0 (acN T N r))) 8 11 (zt 0) = some (zt (uM R 8 0 (acN T N r) 8 0)) from mI_z (by omega) (by omega) (by omega), ob_z, uM_eq, show (-1 : Int32) = zt (-1) from rfl]
  by_cases q : acN T N r = -1
  · rw [if_pos (by rw [q]), if_pos (show zt (acN T N r) = zt (-1) by rw [q])]
    have hq : QC M0 R0 a T N M (uM R 8 0 (acN T N r)) w r (mpo T N r) := h.1.set (fun _ _ => rfl) ⟨rfl, rfl⟩ (fun j _ _ g8 => by funext e; exact uM_ne g8) (fun e _ => uM_ne (by omega)) h.1.2.2.2.2.2.1 (fun e e0 e1 => by rw [uM_ne (by omega)]; exact h.1.2.2.2.2.2.2 e e0 e1)
    obtain ⟨R1, b1, b2⟩ := hq.fail (F := F) hN.2 (mpo_le hr hN.2).1.2
    rw [b1, pcI_z]
    exact Or.inr ⟨M, R1, w, rfl, rfl, b2⟩
  · have hk : tkK T N r ≠ 0 := by
      intro hk
      apply q
      unfold acN
      rw [if_neg (fun g => by have := wd_k g; omega), if_neg (fun g => by have := wd_k g; omega), if_neg (fun g => by have := wd_k g; omega), if_neg (fun g => by have := wd_k g; omega), if_neg (fun g => by have := wd_k g; omega), if_neg (fun g => by have := wd_k g; omega)]
    have nq : ¬ (zt (acN T N r) = zt (-1)) := by rw [zt_eq (by omega) (by omega) (by omega) (by omega)]; exact q
    rw [if_neg nq, if_neg nq]
    have hc := h.cell (d := 1) (k := 0) (v := acN T N r) (Or.inl ⟨rfl, rfl, by omega, by omega⟩)
    obtain ⟨M1, R1, w1, a1, a2, a3⟩ := hc.adv (F := F) (lg := lg) hF hN hT hpb gp gt (mpo_step hr hN.2 hk).1
    have hlt := hrg.2.2.1 hk
    refine Or.inl ⟨M1, R1, w1, ?_, ?_, by omega, a3⟩
    · rw [LI_4, mS_z (by omega) (by omega) (by omega), ob_z, a1, hcU_z]
      rfl
    · rw [a2, pcU_z]
      rfl
/-- the class's number, once the sign is known -/
def clNum (F : Nat) (pb v0 : Nat) (x3 : Int32) (sg1 : Nat → Nat → Int32) (lg2 : Nat → Nat → Int64) : Option (Int32 × (Nat → Nat → Int32) × (Nat → Nat → Int64)) :=
  if (sg1 (v0 + 11) 2) = (2 : Int32) then
  (if x3 = 0 then
  (Option.bind (mS sg1 (v0 + 1 + 2) 12 (sg1 v0 4) (sg1 (v0 + 11) 5)) (fun (sg4 : Nat → Nat → Int32) =>
  hcU (p_X8_advance F pb (v0 + 11) sg4 lg2) (fun (sg5 : Nat → Nat → Int32) (lg6 : Nat → Nat → Int64) =>
  hN .boolean (1 : Int32) sg5 lg6)))
  else (Option.bind (mS sg1 (v0 + 1 + 2) 12 (sg1 v0 4) (-(sg1 (v0 + 11) 5))) (fun (sg7 : Nat → Nat → Int32) =>
  hcU (p_X8_advance F pb (v0 + 11) sg7 lg2) (fun (sg8 : Nat → Nat → Int32) (lg9 : Nat → Nat → Int64) =>
  hN .boolean (1 : Int32) sg8 lg9))))
  else (hN .boolean (0 : Int32) sg1 lg2)
theorem num_at {s : Int} {x3 : Int32} (hx : (s = 1 ∧ x3 = 0) ∨ (s = -1 ∧ x3 = 1)) (hF : 700 < F) (hN : 0 ≤ N ∧ N ≤ 600) (hT : ∀ e, -128 ≤ T e ∧ T e ≤ 127) (hpb : pb < a) (gp : ∀ e, 0 ≤ e → e < N → M0 pb e = T e) (gt : ∀ e, 0 ≤ e → e < N → R0 2 e = T e) (h : Q2 M0 R0 a T N M R w r (mpo T N r) P) : (∃ M1 R1 w1, clNum F pb a x3 (LI M) lg = some (1, LI M1, lg) ∧ pk_X11_line_122 F (zt v1) (zt s) (LI R) w = fixN (fun _ _ => none) (pb_X11_line_151 F (zt v1)) F (LI R1) w1 ∧ r < tkE T N r ∧ Q2 M0 R0 a T N M1 R1 w1 (tkE T N r) (mpo T N (tkE T N r)) P) ∨ OuF M0 R0 a lg (clNum F pb a x3 (LI M) lg) (pk_X11_line_122 F (zt v1) (zt s) (LI R) w) := by
  have htk := h.1.2.2.1
  have hr := htk.2.2
  have hrg := tk_rng (T := T) hr hN.2
  have hp4 := h.2.2.2.1
  have hp0 := h.2.1.2.1
  unfold clNum pk_X11_line_122
  rw [show (2 : Int32) = zt 2 from rfl]
  by_cases hk : tkK T N r = 2
  · have hn := nv_rng (T := T) hr hN.2 hk
    rw [if_pos (show LI M (a + 11) 2 = zt 2 by rw [tkc hN.2 htk (by omega)]; exact hk), if_pos (show LI R 0 9 = (3 : Int32) by rw [tkr3 htk]; exact hk), LI_11, htk.2.1.2.2.2.2.2.2.1 hk, zt_mul, show (1 : Int32) = zt 1 from rfl, mS_z (by omega) (by omega) (by omega), ob_z, LI_5, htk.1.2.2.2.2 hk, LI_4]
    have hc := h.cell (d := 2) (k := 1) (v := s * tkV T N r) (Or.inr (Or.inl ⟨rfl, rfl⟩))
    obtain ⟨M1, R1, w1, a1, a2, a3⟩ := hc.adv (F := F) (lg := lg) hF hN hT hpb gp gt (mpo_step hr hN.2 (by omega)).1
    have hlt := hrg.2.2.1 (by omega)
    refine Or.inl ⟨M1, R1, w1, ?_, ?_, by omega, a3⟩
    · rcases hx with ⟨hs, rfl⟩ | ⟨hs, rfl⟩
      · rw [if_pos rfl, show tkV T N r = s * tkV T N r by rw [hs, Int.one_mul], mS_z (by omega) (by omega) (by omega), ob_z, a1, hcU_z]
        rfl
      · rw [if_neg (by decide), zt_neg, show -tkV T N r = s * tkV T N r by rw [hs]; omega, mS_z (by omega) (by omega) (by omega), ob_z, a1, hcU_z]
        rfl
    · rw [a2, pcU_z]
  · obtain ⟨R1, b1, b2⟩ := h.1.fail (F := F) hN.2 (mpo_le hr hN.2).1.2
    rw [if_neg (show ¬ (LI M (a + 11) 2 = zt 2) by rw [tkc hN.2 htk (by omega)]; exact hk), if_neg (show ¬ (LI R 0 9 = (3 : Int32)) by rw [tkr3 htk]; exact hk), b1, pcI_z]
    exact Or.inr ⟨M, R1, w, rfl, rfl, b2⟩
theorem num_ok (hF : 700 < F) (hN : 0 ≤ N ∧ N ≤ 600) (hT : ∀ e, -128 ≤ T e ∧ T e ≤ 127) (hpb : pb < a) (gp : ∀ e, 0 ≤ e → e < N → M0 pb e = T e) (gt : ∀ e, 0 ≤ e → e < N → R0 2 e = T e) (h : Q2 M0 R0 a T N M R w r (mpo T N r) P) : (∃ M1 R1 w1 r1, p_X6_readNumber F pb a (LI M) lg = some (1, LI M1, lg) ∧ rfNum F (zt v1) (LI R) w = fixN (fun _ _ => none) (pb_X11_line_151 F (zt v1)) F (LI R1) w1 ∧ r < r1 ∧ Q2 M0 R0 a T N M1 R1 w1 r1 (mpo T N r1) P) ∨ OuF M0 R0 a lg (p_X6_readNumber F pb a (LI M) lg) (rfNum F (zt v1) (LI R) w) := by
  have htk := h.1.2.2.1
  have hr := htk.2.2
  have hrg := tk_rng (T := T) hr hN.2
  by_cases hk : tkK T N r = 4
  · have hlt := hrg.2.2.1 (by omega)
    obtain ⟨M1, R1, w1, a1, a2, a3⟩ := h.adv (F := F) (lg := lg) hF hN hT hpb gp gt (mpo_step hr hN.2 (by omega)).1
    have ec : p_X6_readNumber F pb a (LI M) lg = clNum F pb a 1 (LI M1) lg := by
      unfold p_X6_readNumber
      rw [show (4 : Int32) = zt 4 from rfl, (ytake hN.2 htk (by omega)).1 hk M1 a1, hcI_z]
      rfl
    have er : rfNum F (zt v1) (LI R) w = pk_X11_line_122 F (zt v1) (zt (-1)) (LI R1) w1 := by
      unfold rfNum pk_X11_line_113
      rw [(xs45 hN hT htk).1 hk, ob_z, if_neg (by decide), if_neg (by decide), a2, pcU_z]
      rfl
    rw [ec, er]
    rcases num_at (v1 := v1) (lg := lg) (pb := pb) (Or.inr ⟨rfl, rfl⟩) hF hN hT hpb gp gt a3 with ⟨M2, R2, w2, b1, b2, b3, b4⟩ | b
    · exact Or.inl ⟨M2, R2, w2, _, b1, b2, by omega, b4⟩
    · exact Or.inr b
  · have ec : p_X6_readNumber F pb a (LI M) lg = clNum F pb a 0 (LI M) lg := by
      unfold p_X6_readNumber
      rw [show (4 : Int32) = zt 4 from rfl, (ytake hN.2 htk (by omega)).2 hk, hcI_z]
      rfl
    have er : rfNum F (zt v1) (LI R) w = pk_X11_line_122 F (zt v1) (zt 1) (LI R) w := by
      unfold rfNum pk_X11_line_113
      rw [(xs45 hN hT htk).2 hk, ob_z, if_pos rfl, if_pos (by decide)]
      rfl
    rw [ec, er]
    rcases num_at (v1 := v1) (lg := lg) (pb := pb) (Or.inl ⟨rfl, rfl⟩) hF hN hT hpb gp gt h with ⟨M2, R2, w2, b1, b2, b3, b4⟩ | b
    · exact Or.inl ⟨M2, R2, w2, _, b1, b2, by omega, b4⟩
    · exact Or.inr b
/-- the piece goes to its place -/
theorem x_store (hP : 0 ≤ P ∧ P < 12) : ∀ (n : Nat) (i : Int) (R : ZM) (K : Nat), i + n = 11 → 0 ≤ i → n < K → R 5 0 = P → ∃ R1, fixN (fun _ _ _ => none) (pb_X11_line_179 F) K (zt i) (LI R) w = some (1, LI R1, w) ∧ (∀ e, i ≤ e → e < 11 → R1 5 (1 + 11 * P + e) = R 8 e) ∧ R1 5 0 = P + 1 ∧ (∀ e, e ≠ 0 → (e < 1 + 11 * P + i ∨ 1 + 11 * P + 11 ≤ e) → R1 5 e = R 5 e) ∧ ∀ j, j ≠ 5 → R1 j = R j := by
  intro n
  induction n with
  | zero =>
    intro i R K h1 h2 hK h
    obtain ⟨g, rfl⟩ : ∃ g, K = g + 1 := ⟨K - 1, by omega⟩
    rw [fix_succ]
    refine ⟨uM R 5 0 (P + 1), ?_, fun e e0 e1 => by omega, uM_eq _ _ _ _, fun e e0 _ => uM_nei e0, fun j hj => by funext e; exact uM_ne hj⟩
    unfold pb_X11_line_179
    rw [show (11 : Int32) = zt 11 from rfl, if_pos (zle_pos (by omega) (by omega) (by omega))]
    unfold pk_X11_line_215
    rw [show (0 : Int32) = zt 0 from rfl, mI_z (by omega) (by omega) (by omega), ob_z, h, show (1 : Int32) = zt 1 from rfl, zt_add, mS_z (by omega) (by omega) (by omega), ob_z]
    rfl
  | succ n ih =>
    intro i R K h1 h2 hK h
    obtain ⟨g, rfl⟩ : ∃ g, K = g + 1 := ⟨K - 1, by omega⟩
    obtain ⟨R1, a1, a2, a3, a4, a5⟩ := ih (i + 1) (uM R 5 (1 + 11 * P + i) (R 8 i)) g (by omega) (by omega) (by omega) (by rw [uM_nei (by omega)]; exact h)
    rw [fix_succ]
    refine ⟨R1, ?_, fun e e0 e1 => ?_, a3, fun e e0 e1 => ?_, fun j hj => by rw [a5 j hj]; funext e; exact uM_ne hj⟩
    · rw [← a1]
      generalize fixN (fun _ _ _ => none) (pb_X11_line_179 F) g = rr
      unfold pb_X11_line_179
      rw [show (11 : Int32) = zt 11 from rfl, if_neg (zle_neg (by omega) (by omega) (by omega)), show (0 : Int32) = zt 0 from rfl, mI_z (by omega) (by omega) (by omega), ob_z, mI_z (by omega) (by omega) (by omega), ob_z, h, show (1 : Int32) = zt 1 from rfl, zt_mul, zt_add, zt_add, mS_z (by omega) (by omega) (by omega), ob_z, zt_add]
    · by_cases q : e = i
      · rw [q, a4 _ (by omega) (Or.inl (by omega)), uM_eq]
      · rw [a2 e (by omega) e1, uM_ne (by omega)]
    · rw [a4 e e0 (by omega), uM_nei (by omega)]
/-- the part ends -/
theorem end_ok (hF : 700 < F) (hv : P < 12 ∧ v1 = 1 ∨ 12 ≤ P ∧ v1 = 0) (h : Q2 M0 R0 a T N M R w r m P) : ∃ R1, (if zt v1 = 0 then (mN .boolean (1 : Int32) (LI R) w) else (fixN (fun _ _ _ => none) (pb_X11_line_179 F) F (0 : Int32) (LI R) w)) = some (1, LI R1, w) ∧ Q1 M0 R0 a T N M R1 w r m (P + 1) := by
  obtain ⟨k1, k2, k3, k4, k5, k6, k7⟩ := h
  rcases hv with ⟨hp, rfl⟩ | ⟨hp, rfl⟩
  · obtain ⟨R1, a1, a2, a3, a4, a5⟩ := x_store (F := F) (w := w) (P := P) ⟨k2.2.1, hp⟩ 11 0 R F (by omega) (by omega) (by omega) (by omega)
    rw [if_neg (by decide)]
    refine ⟨R1, a1, k1.set (fun _ _ => rfl) ⟨rfl, rfl⟩ (fun j _ g5 _ => a5 j g5) (fun e _ => by rw [a5 0 (by omega)]) k1.2.2.2.2.2.1 (fun e e0 e1 => by rw [a4 e (by omega) (Or.inr (by omega))]; exact k1.2.2.2.2.2.2 e e0 e1), ⟨k2.1, by omega, by omega⟩, Or.inl ⟨by omega, a3⟩, fun g => ?_⟩
    obtain ⟨g1, ⟨d1, d2, d3⟩, g5, g6⟩ := k7 g
    have e7 : R1 7 = R 7 := a5 7 (by omega)
    have e19 : R1 0 19 = R 0 19 := by rw [a5 0 (by omega)]
    refine ⟨by omega, by rw [e7, e19]; exact d1, fun i i0 i1 => ?_, d3⟩
    by_cases q : i = P
    · subst q
      exact ⟨g5.cong (fun e e0 e1 => a2 e e0 e1) g6.2.1.2, g6.cong (fun e e0 e1 => a2 e e0 e1) e7 e19⟩
    · have hz : ∀ e, 0 ≤ e → e < 11 → R1 5 (1 + 11 * i + e) = R 5 (1 + 11 * i + e) := fun e e0 e1 => a4 _ (by omega) (Or.inl (by omega))
      obtain ⟨z1, z2⟩ := d2 i i0 (by omega)
      exact ⟨z1.cong hz z2.2.1.2, z2.cong hz e7 e19⟩
  · rw [if_pos (show zt 0 = (0 : Int32) from rfl)]
    refine ⟨R, rfl, k1, ⟨k2.1, by omega, by omega⟩, Or.inr ⟨by omega, by omega⟩, fun g => ?_⟩
    have := (k7 g).1
    omega
theorem part_loop (hv : P < 12 ∧ v1 = 1 ∨ 12 ≤ P ∧ v1 = 0) (hF : 700 < F) (hN : 0 ≤ N ∧ N ≤ 600) (hT : ∀ e, -128 ≤ T e ∧ T e ≤ 127) (hpb : pb < a) (gp : ∀ e, 0 ≤ e → e < N → M0 pb e = T e) (gt : ∀ e, 0 ≤ e → e < N → R0 2 e = T e) : ∀ (n : Nat) (r v2 : Int) (M R : ZM) (w : Int64) (K : Nat), N - r < n → n ≤ K → 0 ≤ v2 → v2 < r → Q2 M0 R0 a T N M R w r (mpo T N r) P → OuL M0 R0 a T N P r lg (fixN (fun _ _ _ => none) (pb_X6_readPart_83 F pb a) K (zt v2) (LI M) lg) (fixN (fun _ _ => none) (pb_X11_line_151 F (zt v1)) K (LI R) w) := by
  intro n
  induction n with
  | zero =>
    intro r v2 M R w K h1 hK h2 h3 h
    have := h.1.2.2.1.2.2
    omega
  | succ n ih =>
    intro r v2 M R w K h1 hK h2 h3 h
    obtain ⟨g, rfl⟩ : ∃ g, K = g + 1 := ⟨K - 1, by omega⟩
    have htk := h.1.2.2.1
    have hr := htk.2.2
    have hrg := tk_rng (T := T) hr hN.2
    rw [fix_succ, fix_succ]
    have ih' := fun (r1 v3 : Int) (M1 R1 : ZM) (w1 : Int64) (h4 : N - r1 < n) (h5 : 0 ≤ v3) (h6 : v3 < r1) (h7 : Q2 M0 R0 a T N M1 R1 w1 r1 (mpo T N r1) P) => ih r1 v3 M1 R1 w1 g h4 (by omega) h5 h6 h7
    generalize fixN (fun _ _ _ => none) (pb_X6_readPart_83 F pb a) g = rc at ih' ⊢
    generalize fixN (fun _ _ => none) (pb_X11_line_151 F (zt v1)) g = rf at ih' ⊢
    unfold pb_X6_readPart_83 pb_X11_line_151
    rw [show (600 : Int32) = zt 600 from rfl, if_neg (zle_neg (by omega) (by omega) (by omega)), show (3 : Int32) = zt 3 from rfl]
    by_cases hk : tkK T N r = 3
    · have hlt := hrg.2.2.1 (by omega)
      obtain ⟨M1, R1, w1, a1, a2, a3⟩ := h.adv (F := F) (lg := lg) hF hN hT hpb gp gt (mpo_step hr hN.2 (by omega)).1
      obtain ⟨R2, b1, b2⟩ := end_ok hF hv a3
      rw [(ytake hN.2 htk (by omega)).1 hk M1 a1, hcI_z, if_neg (by decide), (xs59 hN hT htk).1 hk, ob_z, if_neg (by decide)]
      unfold pk_X11_line_169
      rw [a2, pcU_z, b1]
      exact Or.inl ⟨M1, R2, w1, _, rfl, rfl, by omega, b2⟩
    · rw [(ytake hN.2 htk (by omega)).2 hk, hcI_z, if_pos rfl, (xs59 hN hT htk).2 hk, ob_z, if_pos rfl]
      rcases clause_ok (F := F) (lg := lg) (pb := pb) hF hN hT hpb gp gt h with ⟨M1, R1, w1, r1, b1, b2, b3, b4⟩ | ⟨M1, R1, w1, b1, b2, b3⟩
      · rw [b1, hcI_z, if_neg (by decide), b2, pcI_z, if_neg (by decide), show (1 : Int32) = zt 1 from rfl, zt_add]
        rcases ih' r1 (v2 + 1) M1 R1 w1 (by omega) (by omega) (by omega) b4 with ⟨M2, R2, w2, r2, c1, c2, c3, c4⟩ | c
        · exact Or.inl ⟨M2, R2, w2, r2, c1, c2, by omega, c4⟩
        · exact Or.inr c
      · rw [b1, hcI_z, if_pos rfl, b2, pcI_z, if_pos rfl]
        exact Or.inr ⟨M1, R1, w1, rfl, rfl, b3⟩
theorem line_ok (hF : 700 < F) (hN : 0 ≤ N ∧ N ≤ 600) (hT : ∀ e, -128 ≤ T e ∧ T e ≤ 127) (hpb : pb < a) (gp : ∀ e, 0 ≤ e → e < N → M0 pb e = T e) (gt : ∀ e, 0 ≤ e → e < N → R0 2 e = T e) (h : Q1 M0 R0 a T N M R w r (mpo T N r) P) : OuL M0 R0 a T N P r lg (p_X6_readPart F pb a (LI M) lg) (p_X11_line F (LI R) w) := by
  have htk := h.1.2.2.1
  have hr := htk.2.2
  have hrg := tk_rng (T := T) hr hN.2
  have hP := h.2.1
  cases hw : wdP T N r 0 with
  | true =>
    have hlt := hrg.2.2.1 (by have := wd_k hw; omega)
    obtain ⟨M2, R2, w2, v1, s1, s2, s3, s4⟩ := start_ok (F := F) (lg := lg) (pb := pb) hF hN hT hpb gp gt h hw
    rw [s1, s2]
    unfold rdRest
    rcases act_ok (F := F) (lg := lg) (pb := pb) (v1 := v1) hF hN hT hpb gp gt s4 with ⟨M3, R3, w3, t1, t2, t3, t4⟩ | ⟨M3, R3, w3, t1, t2, t3⟩
    · rw [t1, hcI_z, if_neg (by decide), t2]
      rcases num_ok (F := F) (lg := lg) (pb := pb) (v1 := v1) hF hN hT hpb gp gt t4 with ⟨M5, R5, w5, r5, u1, u2, u3, u4⟩ | ⟨M5, R5, w5, u1, u2, u3⟩
      · rw [u1, hcI_z, if_neg (by decide), u2]
        rcases part_loop (F := F) (lg := lg) (pb := pb) s3 hF hN hT hpb gp gt 601 r5 0 M5 R5 w5 F (by have := u4.1.2.2.1.2.2; omega) (by omega) (by omega) (by omega) u4 with ⟨M6, R6, w6, r6, c1, c2, c3, c4⟩ | c
        · exact Or.inl ⟨M6, R6, w6, r6, c1, c2, by omega, c4⟩
        · exact Or.inr c
      · rw [u1, hcI_z, if_pos rfl, u2]
        exact Or.inr ⟨M5, R5, w5, rfl, rfl, u3⟩
    · rw [t1, hcI_z, if_pos rfl, t2]
      exact Or.inr ⟨M3, R3, w3, rfl, rfl, t3⟩
  | false =>
    obtain ⟨R1, b1, b2⟩ := h.1.fail (F := F) hN.2 (mpo_le hr hN.2).1.2
    unfold p_X6_readPart p_X11_line
    rw [gnm_z, yt0 hF (by omega) hN hT htk (fun e e0 e1 => by rw [h.1.1 pb (by omega)]; exact gp e e0 e1) hw, hcI_z, if_pos rfl, xw0 (k := 0) (c := 1885434484) (by omega) rfl hN htk hw, ob_z, if_pos rfl, b1, pcI_z]
    exact Or.inr ⟨M, R1, w, rfl, rfl, b2⟩
end RD7
