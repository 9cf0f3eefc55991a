/-! One need, and a run of them. -/
section RD3
variable {F : Nat} {lg : Nat → Nat → Int64} {M0 R0 M R : ZM} {w : Int64} {a pb : Nat} {T : Int → Int} {N r m P : Int}
theorem LI_19 (M : ZM) (j : Nat) : LI M j 19 = zt (M j 19) := rfl
theorem up2_19 (M : ZM) (j : Nat) (v : Int) : up2 (LI M) j 19 (zt v) = LI (uM M j 19 v) := up2_z M j 19 v
theorem Q2.note {f p : Int} (h : Q2 M0 R0 a T N M R w r m P) (hf : 1 ≤ f ∧ f ≤ 5) (hq : 0 ≤ p ∧ p ≤ 700) : ∃ M1 R1, p_X6_note F pb a (zt f) (zt p) (LI M) lg = some (LI M1, lg) ∧ p_X11_isBad F (zt f) (zt p) (LI R) w = some (LI R1, w) ∧ Q2 M0 R0 a T N M1 R1 w r m P ∧ M1 a 6 ≠ 0 ∧ M1 a 5 = M a 5 ∧ R1 0 19 = R 0 19 ∧ R1 7 = R 7 ∧ R1 8 = R 8 := by
  obtain ⟨k1, k2, k3, k4, k5, k6, k7⟩ := h
  obtain ⟨M1, R1, a1, a2, a3, a4, a5, a6, a7, a8, -⟩ := note_ok (F := F) (lg := lg) (pb := pb) k1 hf hq
  refine ⟨M1, R1, a1, a2, ⟨a3, ?_, ?_, ?_, ?_, ?_, fun g => absurd g a4⟩, a4, a6 _ (by omega) (by omega), a8 _ (by omega) (by omega), a7 _ (by omega), a7 _ (by omega)⟩
  · rw [a6 3 (by omega) (by omega)]; exact k2
  · rw [a7 5 (by omega)]; exact k3
  · rw [a6 4 (by omega) (by omega)]; exact k4
  · rw [a6 5 (by omega) (by omega), a8 19 (by omega) (by omega)]; exact k5
  · rw [a6 5 (by omega) (by omega), a7 8 (by omega)]; exact k6
/-- what follows the list's growth in the reference -/
def pkNeed (F : Nat) (v1 : Int32) (sg : Nat → Nat → Int32) (w : Int64) : Option ((Nat → Nat → Int32) × Int64) :=
  Option.bind (mI sg 8 11 (2 : Int32)) (fun (x4 : Int32) =>
  if x4 = (4 : Int32) then
  (pcU (p_X11_isBad F (3 : Int32) (sg 0 8) sg w) (fun (sg14 : Nat → Nat → Int32) (w15 : Int64) =>
  pcU (p_X11_token F  sg14 w15) (fun (sg16 : Nat → Nat → Int32) (w17 : Int64) =>
  some (sg16, w17))))
  else (Option.bind (mI sg 8 11 (2 : Int32)) (fun (x5 : Int32) =>
  Option.bind (mS sg 8 11 ((3 : Int32) + x5) (sg 0 11)) (fun (sg6 : Nat → Nat → Int32) =>
  Option.bind (mI sg6 8 11 (7 : Int32)) (fun (x7 : Int32) =>
  if v1 = 0 then
  (pk_X11_needHere_117 F  (7 : Int32) x7 (0 : Int32) sg6 w)
  else (Option.bind (mI sg6 8 11 (2 : Int32)) (fun (x13 : Int32) =>
  pk_X11_needHere_117 F  (7 : Int32) x7 ((1 : Int32) <<< (x13 &&& 31)) sg6 w)))))))
/-- the need is written down -/
theorem Q2.tell {l v : Int} (hl : l = 0 ∨ l = 1) (hv : 0 ≤ v ∧ v ≤ 999) (hN : N ≤ 600) (h : Q2 M0 R0 a T N M R w r m P) (hst : M a 5 + 1 ≤ R 0 19) (hbig : R 0 19 ≤ 400) (hk : tkK T N r = 2) (hV : tkV T N r = v) (hin : ∃ j, 0 ≤ j ∧ j < R 0 19 ∧ R 7 j = v) : ∃ M1 R1, pk_X6_addNeed_56 F pb a (zt l) (zt v) (LI M) lg = some (LI M1, lg) ∧ pkNeed F (zt l) (LI R) w = pcU (p_X11_token F (LI R1) w) (fun sg w => some (sg, w)) ∧ Q2 M0 R0 a T N M1 R1 w r m P := by
  have hQ := h
  obtain ⟨⟨k1, k2, k3, k4, k5, k6, k7⟩, h2, h3, h4, h5, h6, h7⟩ := h
  have hrg := tk_rng (T := T) k3.2.2 hN
  have tb : M (a + 11) 3 = tkB T N r := k3.1.2.2.1
  have rb : R 0 8 = tkB T N r := k3.2.1.2.1
  have rv : R 0 11 = v := by rw [k3.2.1.2.2.2.2.2.2.1 hk]; exact hV
  unfold pk_X6_addNeed_56 pkNeed
  rw [LI_5, show (2 : Int32) = zt 2 from rfl, mI_z (by omega) (by omega) (by omega), ob_z]
  by_cases q4 : M a 5 < 4
  · have e2 : R 8 2 = M a 5 := by omega
    have hp4 : 0 ≤ M a 4 ∧ M a 4 < 12 := by omega
    have hc4 := k6 (M a 4) hp4.1 hp4.2
    rw [if_pos (by rw [show (4 : Int32) = zt 4 from rfl, zt_lt (by omega) (by omega) (by omega) (by omega)]; exact q4), e2, if_neg (by rw [show (4 : Int32) = zt 4 from rfl, zt_eq (by omega) (by omega) (by omega) (by omega)]; omega), ob_z]
    -- the reference
    have hR : ∃ R1 lr, R1 = uM (uM (uM R 8 (3 + M a 5) v) 8 7 lr) 8 2 (M a 5 + 1) ∧ lr = (if l = 0 then R 8 7 else orC (R 8 7) (M a 5)) ∧ (Option.bind (mS (LI R) 8 11 ((3 : Int32) + zt (M a 5)) (LI R 0 11)) (fun (sg6 : Nat → Nat → Int32) => Option.bind (mI sg6 8 11 (7 : Int32)) (fun (x7 : Int32) => if zt l = 0 then (pk_X11_needHere_117 F (7 : Int32) x7 (0 : Int32) sg6 w) else (Option.bind (mI sg6 8 11 (zt 2)) (fun (x13 : Int32) => pk_X11_needHere_117 F (7 : Int32) x7 ((1 : Int32) <<< (x13 &&& 31)) sg6 w)))) = pcU (p_X11_token F (LI R1) w) (fun sg w => some (sg, w))) := by
      rw [LI_11, rv, show (3 : Int32) = zt 3 from rfl, zt_add, mS_z (by omega) (by omega) (by omega), ob_z, show (7 : Int32) = zt 7 from rfl, mI_z (by omega) (by omega) (by omega), ob_z, uM_nei (by omega)]
      have k117 : ∀ (s3 : Int32) (lr : Int), zt (R 8 7) ||| s3 = zt lr → pk_X11_needHere_117 F (zt 7) (zt (R 8 7)) s3 (LI (uM R 8 (3 + M a 5) v)) w = pcU (p_X11_token F (LI (uM (uM (uM R 8 (3 + M a 5) v) 8 7 lr) 8 2 (M a 5 + 1))) w) (fun sg w => some (sg, w)) := by
        intro s3 lr e
        unfold pk_X11_needHere_117
        rw [e, mS_z (by omega) (by omega) (by omega), ob_z, show (2 : Int32) = zt 2 from rfl, mI_z (by omega) (by omega) (by omega), ob_z, uM_nei (by omega), uM_nei (by omega), e2, show (1 : Int32) = zt 1 from rfl, zt_add, mS_z (by omega) (by omega) (by omega), ob_z]
      rcases hl with rfl | rfl
      · refine ⟨_, _, rfl, rfl, ?_⟩
        rw [if_pos (show zt 0 = (0 : Int32) from rfl)]
        exact k117 0 _ (Int32.or_zero)
      · refine ⟨_, _, rfl, rfl, ?_⟩
        rw [if_neg (by decide), if_neg (by decide), mI_z (by omega) (by omega) (by omega), ob_z, uM_nei (by omega), e2]
        exact k117 _ _ (orC_z _ _)
    obtain ⟨R1, lr, eR, el, hR⟩ := hR
    -- whatever the class wrote, so it fits
    have fin : ∀ Y : ZM, (∀ j, j ≠ a + 1 + 6 → j ≠ a + 1 + 7 → j ≠ a + 1 + 8 → Y j = M j) → (∀ i, i ≠ M a 4 → Y (a + 1 + 6) i = M (a + 1 + 6) i ∧ Y (a + 1 + 7) i = M (a + 1 + 7) i) → (∀ e, e ≠ M a 4 * 4 + M (a + 1 + 6) (M a 4) → Y (a + 1 + 8) e = M (a + 1 + 8) e) → (∀ e, (e < 4 * M a 4 ∨ 4 * M a 4 + 4 ≤ e) → Y (a + 1 + 8) e = M (a + 1 + 8) e) → (0 ≤ Y (a + 1 + 6) (M a 4) ∧ Y (a + 1 + 6) (M a 4) ≤ 4) → (M (a + 1 + 6) (M a 4) < 4 → Y (a + 1 + 8) (M a 4 * 4 + M (a + 1 + 6) (M a 4)) = v ∧ Y (a + 1 + 7) (M a 4) = (if l = 0 then M (a + 1 + 7) (M a 4) else orC (M (a + 1 + 7) (M a 4)) (M (a + 1 + 6) (M a 4))) ∧ Y (a + 1 + 6) (M a 4) = M (a + 1 + 6) (M a 4) + 1) → Q2 M0 R0 a T N (uM Y a 5 (M a 5 + 1)) R1 w r m P := by
      intro Y y1 y2 y3 y4 y5 y6
      have u0 : ∀ j, j ≠ a → uM Y a 5 (M a 5 + 1) j = Y j := fun j hj => by funext e; exact uM_ne hj
      have z2 : R1 8 2 = M a 5 + 1 := by rw [eR, uM_eq]
      have z7 : R1 8 7 = lr := by rw [eR, uM_nei (by omega), uM_eq]
      have zn : R1 8 (3 + M a 5) = v := by rw [eR, uM_nei (by omega), uM_nei (by omega), uM_eq]
      have zo : ∀ e, e ≠ 2 → e ≠ 7 → e ≠ 3 + M a 5 → R1 8 e = R 8 e := fun e g2 g7 g3 => by rw [eR, uM_nei g2, uM_nei g7, uM_nei g3]
      refine hQ.piece (fun j hj => by rw [u0 j (by omega)]; exact y1 j (by omega) (by omega) (by omega)) (fun e he => by rw [uM_nei he, y1 a (by omega) (by omega) (by omega)]) (fun d i d1 d2 hi => ?_) (fun e he => by rw [u0 _ (by omega)]; exact y4 e he) (fun j hj => by rw [eR]; funext e; rw [uM_ne hj, uM_ne hj, uM_ne hj]) (by rw [uM_eq]; omega) (by rw [uM_eq, z2]; omega) (by rw [u0 _ (by omega)]; exact y5) (fun g g1 g2 g3 g4 => ?_)
      · rw [u0 _ (by omega)]
        by_cases d6 : d = 6
        · subst d6; exact (y2 i hi).1
        · by_cases d7 : d = 7
          · subst d7; exact (y2 i hi).2
          · rw [y1 _ (by omega) (by omega) (by omega)]
      · obtain ⟨c1, c2, c3, c4, c5, c6, c7, c8⟩ := g3
        obtain ⟨f1, f2, f3, f4, f5, f6, f7⟩ := g4
        rw [g2] at y6 y3
        rw [c6, e2] at y6 y3
        obtain ⟨s1, s2, s3⟩ := y6 q4
        refine ⟨⟨?_, ?_, ?_, ?_, ?_, ?_, ?_, fun k k0 k1 => ?_⟩, ?_, ?_, fun k k0 k1 => ?_, ?_, ?_, ?_, ?_⟩
        · rw [u0 _ (by omega), y1 _ (by omega) (by omega) (by omega), zo 0 (by omega) (by omega) (by omega)]; exact c1
        · rw [u0 _ (by omega), y1 _ (by omega) (by omega) (by omega), zo 1 (by omega) (by omega) (by omega)]; exact c2
        · rw [u0 _ (by omega), y1 _ (by omega) (by omega) (by omega), zo 8 (by omega) (by omega) (by omega)]; exact c3
        · rw [u0 _ (by omega), y1 _ (by omega) (by omega) (by omega), zo 9 (by omega) (by omega) (by omega)]; exact c4
        · rw [u0 _ (by omega), y1 _ (by omega) (by omega) (by omega), zo 10 (by omega) (by omega) (by omega)]; exact c5
        · rw [u0 _ (by omega), z2]; exact s3
        · rw [u0 _ (by omega), z7, s2, el, c7]
        · rw [z2] at k1
          rw [u0 _ (by omega)]
          by_cases q : k = M a 5
          · rw [q, zn]; exact s1
          · rw [y3 _ (by omega), zo _ (by omega) (by omega) (by omega)]
            exact c8 k k0 (by omega)
        · rw [zo 0 (by omega) (by omega) (by omega)]; exact f1
        · rw [z2]; omega
        · rw [z2] at k1
          by_cases q : k = M a 5
          · rw [q, zn]; exact hin
          · rw [zo _ (by omega) (by omega) (by omega)]
            exact f3 k k0 (by omega)
        · rw [z7, el]
          split
          · exact f4
          · exact orC_rng f4 (by omega)
        · rw [zo 8 (by omega) (by omega) (by omega)]; exact f5
        · rw [zo 9 (by omega) (by omega) (by omega)]; exact f6
        · rw [zo 10 (by omega) (by omega) (by omega)]; exact f7
    have h92 : ∀ Y : ZM, Y a 5 = M a 5 → pk_X6_addNeed_92 F pb a (LI Y) lg = some (LI (uM Y a 5 (M a 5 + 1)), lg) := fun Y e => by
      unfold pk_X6_addNeed_92
      rw [LI_5, e, show (1 : Int32) = zt 1 from rfl, zt_add, up2_5, gnm_z]
    unfold p_X3_addNeed
    rw [LI_4, mI_z (by omega) (by omega) (by omega), ob_z]
    by_cases qc : M (a + 1 + 6) (M a 4) < 4
    · rw [if_pos (by rw [show (4 : Int32) = zt 4 from rfl, zt_lt (by omega) (by omega) (by omega) (by omega)]; exact qc), show (4 : Int32) = zt 4 from rfl, zt_mul, zt_add, mS_z (by omega) (by omega) (by omega), ob_z]
      have h44 : ∀ Y : ZM, pk_X3_addNeed_44 F (a + 1) (zt (M a 4)) (zt (M (a + 1 + 6) (M a 4))) (LI Y) lg = some (LI (uM Y (a + 1 + 6) (M a 4) (M (a + 1 + 6) (M a 4) + 1)), lg) := fun Y => by
        unfold pk_X3_addNeed_44
        rw [show (1 : Int32) = zt 1 from rfl, zt_add, mS_z (by omega) (by omega) (by omega), ob_z]
      rcases hl with rfl | rfl
      · rw [if_pos (show zt 0 = (0 : Int32) from rfl), h44, hcU_z, h92 _ (by rw [uM_ne (by omega), uM_ne (by omega)])]
        refine ⟨_, R1, rfl, hR, fin _ (fun j g6 g7 g8 => by funext e; rw [uM_ne g6, uM_ne g8]) (fun i hi => ⟨by rw [uM_nei hi, uM_ne (by omega)], by rw [uM_ne (by omega), uM_ne (by omega)]⟩) (fun e he => by rw [uM_ne (by omega), uM_nei he]) (fun e he => by rw [uM_ne (by omega), uM_nei (by omega)]) (by rw [uM_eq]; omega) (fun _ => ⟨by rw [uM_ne (by omega), uM_eq], by rw [if_pos rfl, uM_ne (by omega), uM_ne (by omega)], uM_eq _ _ _ _⟩)⟩
      · rw [if_neg (by decide), mI_z (by omega) (by omega) (by omega), ob_z, uM_ne (by omega), orC_z, mS_z (by omega) (by omega) (by omega), ob_z, h44, hcU_z, h92 _ (by rw [uM_ne (by omega), uM_ne (by omega), uM_ne (by omega)])]
        refine ⟨_, R1, rfl, hR, fin _ (fun j g6 g7 g8 => by funext e; rw [uM_ne g6, uM_ne g7, uM_ne g8]) (fun i hi => ⟨by rw [uM_nei hi, uM_ne (by omega), uM_ne (by omega)], by rw [uM_ne (by omega), uM_nei hi, uM_ne (by omega)]⟩) (fun e he => by rw [uM_ne (by omega), uM_ne (by omega), uM_nei he]) (fun e he => by rw [uM_ne (by omega), uM_ne (by omega), uM_nei (by omega)]) (by rw [uM_eq]; omega) (fun _ => ⟨by rw [uM_ne (by omega), uM_ne (by omega), uM_eq], by rw [if_neg (by decide), uM_ne (by omega), uM_eq], uM_eq _ _ _ _⟩)⟩
    · rw [if_neg (by rw [show (4 : Int32) = zt 4 from rfl, zt_lt (by omega) (by omega) (by omega) (by omega)]; exact qc), hcU_z, h92 M rfl]
      exact ⟨_, R1, rfl, hR, fin M (fun _ _ _ _ => rfl) (fun _ _ => ⟨rfl, rfl⟩) (fun _ _ => rfl) (fun _ _ => rfl) hc4 (fun g => absurd g qc)⟩
  · have e2 : R 8 2 = 4 := by omega
    rw [if_neg (by rw [show (4 : Int32) = zt 4 from rfl, zt_lt (by omega) (by omega) (by omega) (by omega)]; exact q4), e2, if_pos (show zt 4 = (4 : Int32) from rfl), LI_3, tb, LI_8, rb, show (3 : Int32) = zt 3 from rfl]
    obtain ⟨M1, R1, a1, a2, a3, a4, a5, a6, a7, a8⟩ := hQ.note (F := F) (lg := lg) (pb := pb) (f := 3) (p := tkB T N r) (by omega) (by omega)
    rw [a1, hcU_z, a2, pcU_z]
    unfold pk_X6_addNeed_92
    rw [LI_5, show (1 : Int32) = zt 1 from rfl, zt_add, up2_5, gnm_z]
    refine ⟨_, R1, rfl, rfl, a3.piece (fun j hj => by funext e; exact uM_ne (by omega)) (fun e he => uM_nei he) (fun d i _ _ _ => uM_ne (by omega)) (fun e _ => uM_ne (by omega)) (fun _ _ => rfl) (by rw [uM_eq]; omega) (by rw [uM_eq, a8, a5]; omega) ?_ (fun g => absurd g a4)⟩
    rw [uM_ne (by omega)]
    exact a3.1.2.2.2.2.2.1 _ (by have := a3.2.2.2.1; have := a3.2.1.2; omega) (by have := a3.2.2.2.1; omega)
/-- one need -/
theorem need_ok {l : Int} (hl : l = 0 ∨ l = 1) (hF : 700 < F) (hN : 0 ≤ N ∧ N ≤ 600) (hT : ∀ e, -128 ≤ T e ∧ T e ≤ 127) (hpb : pb < a) (gp : ∀ e, 0 ≤ e → e < N → M0 pb e = T e) (gt : ∀ e, 0 ≤ e → e < N → R0 2 e = T e) (h : Q2 M0 R0 a T N M R w r (mpo T N r) P) (hk : tkK T N r = 2) : ∃ M2 M1 R1 w1, p_X6_addNeed F pb a (zt l) (LI M) lg = some (LI M2, lg) ∧ p_X8_advance F pb (a + 11) (LI M2) lg = some (LI M1, lg) ∧ p_X11_needHere F (zt l) (LI R) w = some (LI R1, w1) ∧ Q2 M0 R0 a T N M1 R1 w1 (tkE T N r) (mpo T N (tkE T N r)) P := by
  have htk := h.1.2.2.1
  have hr0 := htk.2.2
  have hrg := tk_rng (T := T) htk.2.2 hN.2
  have hv := nv_rng (T := T) htk.2.2 hN.2 hk
  have hm := (mpo_le (T := T) htk.2.2 hN.2).2 hk
  have hstep := (mpo_step (T := T) htk.2.2 hN.2 (by omega)).2 hk
  have tb : M (a + 11) 3 = tkB T N r := htk.1.2.2.1
  have tv : M (a + 11) 5 = tkV T N r := htk.1.2.2.2.2 hk
  -- the check of the number
  have ph0 : ∃ Mn Rn, (tkV T N r < 12 ∨ Mn a 6 ≠ 0) ∧ (tkV T N r < 12 → Mn = M) ∧ (12 ≤ tkV T N r → p_X6_note F pb a (zt 2) (zt (tkB T N r)) (LI M) lg = some (LI Mn, lg)) ∧ p_X11_needHere F (zt l) (LI R) w = pk_X11_needHere_18 F (zt l) (LI Rn) w ∧ Q2 M0 R0 a T N Mn Rn w r (mpo T N r) P := by
    by_cases q : tkV T N r < 12
    · refine ⟨M, R, Or.inl q, fun _ => rfl, fun g => by omega, ?_, h⟩
      unfold p_X11_needHere
      rw [LI_11, htk.2.1.2.2.2.2.2.2.1 hk, if_pos (by rw [show (12 : Int32) = zt 12 from rfl, zt_lt (by omega) (by omega) (by omega) (by omega)]; exact q)]
    · obtain ⟨M1, R1, a1, a2, a3, a4, a5, a6, a7, a8⟩ := h.note (F := F) (lg := lg) (pb := pb) (f := 2) (p := tkB T N r) (by omega) (by omega)
      refine ⟨M1, R1, Or.inr a4, fun g => absurd g q, fun _ => a1, ?_, a3⟩
      unfold p_X11_needHere
      rw [LI_11, htk.2.1.2.2.2.2.2.2.1 hk, if_neg (by rw [show (12 : Int32) = zt 12 from rfl, zt_lt (by omega) (by omega) (by omega) (by omega)]; exact q), LI_8, htk.2.1.2.1, show (2 : Int32) = zt 2 from rfl, a2, pcU_z]
  obtain ⟨Mn, Rn, p1, p2, p3, p4, p5⟩ := ph0
  have hn5 := p5.2.2.2.2.1
  have hn19 := p5.1.2.2.2.2.1.1
  have htn := p5.1.2.2.1
  obtain ⟨MA, m1, m2, m3, m4⟩ := p5.push hN.2 hk hv p1
  obtain ⟨MB, RB, b1, b2, b3⟩ := m3.tell (F := F) (lg := lg) (pb := pb) hl hv hN.2 (by rw [uM_eq, m4]; omega) (by rw [uM_eq]; omega) hk rfl ⟨Rn 0 19, hn19.1, by rw [uM_eq]; omega, by rw [uM_ne (by omega), uM_eq]⟩
  obtain ⟨M1, R1, w1, c1, c2, c3⟩ := b3.adv (lg := lg) hF hN hT hpb gp gt hstep
  refine ⟨MB, M1, R1, w1, ?_, c1, ?_, c3⟩
  · rw [← b1]
    unfold p_X6_addNeed
    rw [LI_5, tv, gnm_z, if_neg (by rw [show (0 : Int32) = zt 0 from rfl, zt_lt (by omega) (by omega) (by omega) (by omega)]; omega)]
    by_cases q : tkV T N r < 12
    · have e := p2 q
      subst e
      rw [if_pos (by rw [show (12 : Int32) = zt 12 from rfl, zt_lt (by omega) (by omega) (by omega) (by omega)]; exact q), mI_z (by omega) (by omega) (by omega), ob_z]
      have hfr : -1 ≤ Mn (a + 10) (tkV T N r) ∧ Mn (a + 10) (tkV T N r) ≤ 700 := by
        rcases p5.1.2.2.2.2.1.2.2 _ hv.1 q with ⟨g, -⟩ | ⟨g, ⟨j, j0, j1, j2, j3⟩, -⟩
        · omega
        · have := p5.1.2.2.2.2.1.2.1 j j0 j1
          omega
      rw [show (-1 : Int32) = zt (-1) from rfl]
      by_cases q1 : Mn (a + 10) (tkV T N r) = -1
      · rw [if_pos (by rw [q1]), LI_3, tb, mS_z (by omega) (by omega) (by omega), ob_z, (m1 q).1 q1]
      · rw [if_neg (by rw [zt_eq (by omega) (by omega) (by omega) (by omega)]; exact q1), (m1 q).2 q1]
    · rw [if_neg (by rw [show (12 : Int32) = zt 12 from rfl, zt_lt (by omega) (by omega) (by omega) (by omega)]; exact q)]
      unfold pk_X6_addNeed_18
      rw [LI_3, tb, show (2 : Int32) = zt 2 from rfl, p3 (by omega), hcU_z, m2 (by omega)]
  · rw [p4]
    have e18 : pk_X11_needHere_18 F (zt l) (LI Rn) w = pkNeed F (zt l) (LI (uM (uM (uM Rn 6 (Rn 0 19) (tkB T N r)) 7 (Rn 0 19) (tkV T N r)) 0 19 (Rn 0 19 + 1))) w := by
      unfold pk_X11_needHere_18
      rw [LI_19, LI_8, htn.2.1.2.1, mS_z (by omega) (by omega) (by omega), ob_z, LI_19, LI_11, uM_ne (by omega), uM_ne (by omega), htn.2.1.2.2.2.2.2.2.1 hk, mS_z (by omega) (by omega) (by omega), ob_z, LI_19, uM_ne (by omega), uM_ne (by omega), show (1 : Int32) = zt 1 from rfl, zt_add, up2_19, gnm_z]
      rfl
    rw [e18, b2, c2, pcU_z]
/-- a run of needs -/
theorem needs_loop {l : Int} (hl : l = 0 ∨ l = 1) (hF : 700 < F) (hN : 0 ≤ N ∧ N ≤ 600) (hT : ∀ e, -128 ≤ T e ∧ T e ≤ 127) (hpb : pb < a) (gp : ∀ e, 0 ≤ e → e < N → M0 pb e = T e) (gt : ∀ e, 0 ≤ e → e < N → R0 2 e = T e) : ∀ (n : Nat) (r v2 : Int) (M R : ZM) (w : Int64) (K : Nat), N - r ≤ n → n < K → 0 ≤ v2 → v2 < r → Q2 M0 R0 a T N M R w r (mpo T N r) P → ∃ M1 R1 w1 r1, fixN (fun _ _ _ => none) (pb_X6_readNeeds_15 F pb a (zt l)) K (zt v2) (LI M) lg = some (1, LI M1, lg) ∧ fixN (fun _ _ => none) (pb_X11_needsTold_13 F (zt l)) K (LI R) w = some (1, LI R1, w1) ∧ r ≤ r1 ∧ Q2 M0 R0 a T N M1 R1 w1 r1 (mpo T N r1) P := by
  intro n
  induction n with
  | zero =>
    intro r v2 M R w K h1 hK h2 h3 h
    obtain ⟨g, rfl⟩ : ∃ g, K = g + 1 := ⟨K - 1, by omega⟩
    have htk := h.1.2.2.1
    have hrg := tk_rng (T := T) htk.2.2 hN.2
    have hk : tkK T N r ≠ 2 := by
      intro e
      have := hrg.2.2.1 (by omega)
      have := htk.2.2
      omega
    rw [fix_succ, fix_succ]
    refine ⟨M, R, w, r, ?_, ?_, Int.le_refl _, h⟩
    · unfold pb_X6_readNeeds_15
      have := htk.2.2
      rw [show (600 : Int32) = zt 600 from rfl, if_neg (zle_neg (by omega) (by omega) (by omega)), show (2 : Int32) = zt 2 from rfl, if_neg (by rw [tkc hN.2 htk (by omega)]; exact hk)]
      rfl
    · unfold pb_X11_needsTold_13
      rw [if_neg (by rw [tkr3 htk]; exact hk)]
      rfl
  | succ n ih =>
    intro r v2 M R w K h1 hK h2 h3 h
    obtain ⟨g, rfl⟩ : ∃ g, K = g + 1 := ⟨K - 1, by omega⟩
    have htk := h.1.2.2.1
    have hrg := tk_rng (T := T) htk.2.2 hN.2
    have hrr := htk.2.2
    rw [fix_succ, fix_succ]
    unfold pb_X6_readNeeds_15 pb_X11_needsTold_13
    rw [show (600 : Int32) = zt 600 from rfl, if_neg (zle_neg (by omega) (by omega) (by omega)), show (2 : Int32) = zt 2 from rfl]
    by_cases hk : tkK T N r = 2
    · obtain ⟨M2, M1, R1, w1, a1, a2, a3, a4⟩ := need_ok (F := F) (lg := lg) (pb := pb) hl hF hN hT hpb gp gt h hk
      have hlt := hrg.2.2.1 (by omega)
      rw [if_pos (by rw [tkc hN.2 htk (by omega)]; exact hk), if_pos (by rw [tkr3 htk]; exact hk), a1, hcU_z, a2, hcU_z, a3, pcU_z, show (1 : Int32) = zt 1 from rfl, zt_add]
      obtain ⟨M3, R3, w3, r3, b1, b2, b3, b4⟩ := ih (tkE T N r) (v2 + 1) M1 R1 w1 g (by omega) (by omega) (by omega) (by omega) a4
      exact ⟨M3, R3, w3, r3, b1, b2, by omega, b4⟩
    · rw [if_neg (by rw [tkc hN.2 htk (by omega)]; exact hk), if_neg (by rw [tkr3 htk]; exact hk)]
      exact ⟨M, R, w, r, rfl, rfl, Int.le_refl _, h⟩
end RD3
