/-! The reference's pile of values does what the recursion says. -/
def lpR (F K : Nat) : RT3 := fixN (fun _ _ _ => none) (pb_X11_reckons_21 F) K
section RR
variable {w : Int64} {F : Nat}
theorem x_lr1 {M : ZM} {n : Nat} {K : Nat} (h : M 0 29 = ((n + 1 : Nat) : Int)) (hn : n ≤ 60) : lpR F (K + 1) (zt 1) (LI M) w = pcI (p_X11_sumGoesOn F (LI M) w) (lpR F K) := by
  show pb_X11_reckons_21 F (lpR F K) (zt 1) (LI M) w = _
  generalize lpR F K = r
  unfold pb_X11_reckons_21
  have hl : LI M 0 29 = zt ((n + 1 : Nat) : Int) := by rw [← h]; rfl
  rw [hl]
  simp (disch := omega) only [zt_lit, zt_eq, zt_le]
  rw [if_pos trivial, if_neg (by omega)]
theorem x_lr0 {M : ZM} {K : Nat} (h : M 0 29 = 0) : lpR F (K + 1) (zt 1) (LI M) w = some (zt 1, LI (uM M 0 29 0), w) := by
  show pb_X11_reckons_21 F (lpR F K) (zt 1) (LI M) w = _
  generalize lpR F K = r
  unfold pb_X11_reckons_21 pk_X11_reckons_41
  have hl : LI M 0 29 = zt 0 := by rw [← h]; rfl
  rw [hl]
  simp (disch := omega) only [zt_lit, zt_eq, zt_le, gnm_z, up2_z]
  rfl
theorem x_lrn {M : ZM} {K : Nat} {x : Int} (hx : x = -2 ∨ x = -3 ∨ x = -4) : lpR F (K + 1) (zt x) (LI M) w = some (zt x, LI (uM M 0 29 0), w) := by
  show pb_X11_reckons_21 F (lpR F K) (zt x) (LI M) w = _
  generalize lpR F K = r
  unfold pb_X11_reckons_21 pk_X11_reckons_41
  simp (disch := omega) only [zt_lit, zt_eq, gnm_z, up2_z]
  rw [if_neg (by omega)]
  rfl
theorem u29_sm {M : ZM} {v n : Int} : SmR M (uM M 0 29 v) n := ⟨fun e _ b => uM_nei b, fun j a _ => by funext e; exact uM_ne (by omega), fun i _ _ => ⟨uM_ne (by omega), uM_ne (by omega)⟩⟩
def RecSim (F : Nat) (w : Int64) (B : Int) (d : Nat) : Prop := ∀ (M : ZM) (sn : Nat) (sums prs : List Int) (t : Int), PJ B M sn sums prs → sn + d = 61 → 0 ≤ t → t < M 1 206 → M 1 (207 + 8 * t + 2) ≠ 1 → t ∉ sums →
  (¬ (recS d sums prs t (M 1)).1 < 0 → ∃ (k : Nat) (M1 : ZM), (k : Int) ≤ 9 * (VA (recS d sums prs t (M 1)).2.2 - VA (M 1)) ∧ (∀ K, lpR F (K + k) (zt 1) (LI (puR M sn t)) w = lpR F K (zt 1) (LI M1) w) ∧ M1 1 = (recS d sums prs t (M 1)).2.2 ∧ M1 0 29 = sn ∧ SmR M M1 sn) ∧
  ((recS d sums prs t (M 1)).1 < 0 → ∃ (k : Nat) (M1 : ZM), (k : Int) ≤ 9 * (VA (recS d sums prs t (M 1)).2.2 - VA (M 1)) + 10 * d ∧ (∀ K, lpR F (K + k) (zt 1) (LI (puR M sn t)) w = some (zt (recS d sums prs t (M 1)).1, LI M1, w)) ∧ M1 1 = whyW (recS d sums prs t (M 1)).2.2 (recS d sums prs t (M 1)).1 (recS d sums prs t (M 1)).2.1 ∧ M1 0 29 = 0 ∧ SmR M M1 0)
theorem x_recL {B : Int} {d : Nat} (hF : 500 < F) (hB : B ≤ 1000000000) (hsim : RecSim F w B d) {sn : Nat} {sums prs : List Int} {t p : Int} (hd : sn + 1 + d = 61) (hps : (sums ++ [t]).length = sn + 1) :
    ∀ (n : Nat) (k : Int) (M : ZM), PJ B M (sn + 1) (sums ++ [t]) (prs ++ [p]) → M 14 sn = t → M 15 sn = k → p = M 1 (207 + 8 * t) → M 1 (1 + 11 * p) ≠ 0 → M 1 (1 + 11 * p + 2) = k + n → 0 ≤ k →
    (¬ (recL (fun u C => recS d (sums ++ [t]) (prs ++ [p]) u C) (prs ++ [p]) t p n k (M 1)).1 < 0 → ∃ (cnt : Nat) (M1 : ZM), (cnt : Int) ≤ 9 * (VA (recL (fun u C => recS d (sums ++ [t]) (prs ++ [p]) u C) (prs ++ [p]) t p n k (M 1)).2.2 - VA (M 1)) + 2 * n ∧ (∀ K, lpR F (K + cnt) (zt 1) (LI M) w = lpR F K (zt 1) (LI M1) w) ∧ M1 1 = (recL (fun u C => recS d (sums ++ [t]) (prs ++ [p]) u C) (prs ++ [p]) t p n k (M 1)).2.2 ∧ M1 0 29 = ((sn + 1 : Nat) : Int) ∧ M1 14 sn = t ∧ M1 15 sn = k + n ∧ SmR M M1 sn) ∧
    ((recL (fun u C => recS d (sums ++ [t]) (prs ++ [p]) u C) (prs ++ [p]) t p n k (M 1)).1 < 0 → ∃ (cnt : Nat) (M1 : ZM), (cnt : Int) ≤ 9 * (VA (recL (fun u C => recS d (sums ++ [t]) (prs ++ [p]) u C) (prs ++ [p]) t p n k (M 1)).2.2 - VA (M 1)) + 2 * n + 10 * d + 2 ∧ (∀ K, lpR F (K + cnt) (zt 1) (LI M) w = some (zt (recL (fun u C => recS d (sums ++ [t]) (prs ++ [p]) u C) (prs ++ [p]) t p n k (M 1)).1, LI M1, w)) ∧ M1 1 = whyW (recL (fun u C => recS d (sums ++ [t]) (prs ++ [p]) u C) (prs ++ [p]) t p n k (M 1)).2.2 (recL (fun u C => recS d (sums ++ [t]) (prs ++ [p]) u C) (prs ++ [p]) t p n k (M 1)).1 (recL (fun u C => recS d (sums ++ [t]) (prs ++ [p]) u C) (prs ++ [p]) t p n k (M 1)).2.1 ∧ M1 0 29 = 0 ∧ SmR M M1 0) := by
  intro n
  induction n with
  | zero =>
    intro k M hPJ h14 h15 hp hact hmany hk
    refine ⟨fun _ => ⟨0, M, ?_, fun K => rfl, rfl, hPJ.2.1, h14, by omega, SmR.refl _ _⟩, fun h => absurd h (by simp only [recL]; omega)⟩
    show ((0 : Nat) : Int) ≤ 9 * (VA (M 1) - VA (M 1)) + 2 * ((0 : Nat) : Int)
    omega
  | succ n ih =>
    intro k M hPJ h14 h15 hp hact hmany hk
    have hm := hPJ.1.2.2.1.1
    have hc := hPJ.1.1.1
    have htr := hPJ.r14 sn (by omega) (by omega)
    rw [h14] at htr
    obtain ⟨w1, w2, w3, w4⟩ := hPJ.1.2.2.1.2 t htr.1 htr.2
    rw [← hp] at w1
    obtain ⟨p1, p2, p3, -⟩ := hPJ.1.1.2 _ w1.1 w1.2
    have h60 := hPJ.len
    obtain ⟨s1, s2⟩ := x_sgn (w := w) (F := F) (k := k) (p := p) hF hB hPJ h14 h15 hp hact (by omega)
    obtain ⟨e1, e2, e3, e4⟩ := nedS_ok (B := B) (A := M 1) (t := t) (p := p) (k := k) hPJ.1 htr hp (by omega)
    have hstep : ∀ K, lpR F (K + 1) (zt 1) (LI M) w = pcI (p_X11_sumGoesOn F (LI M) w) (lpR F K) := fun K => x_lr1 hPJ.2.1 (by omega)
    have hrec := recS_ok (B := B) d (sums ++ [t]) (prs ++ [p]) (M 1 206) (by omega) (by omega) hPJ.2.2.2.1 hPJ.2.2.2.2.1 (by omega)
    have hd1 : 0 < d := by omega
    unfold recL
    generalize nedS t p k (M 1) = e at *
    by_cases q1 : e.1 < 0
    · rw [if_pos q1]
      obtain ⟨M1, a1, a2, a3⟩ := s1 q1
      have hv := VA_le hPJ.1 (e4 q1).2 e1
      refine ⟨fun h => absurd q1 h, fun _ => ⟨2, uM M1 0 29 0, by simp only; omega, fun K => ?_, ?_, uM_eq _ _ _ _, (a3.less (by omega)).trans u29_sm⟩⟩
      · rw [show K + 2 = K + 1 + 1 from rfl, hstep, a1, pcI_z]
        exact x_lrn (e3 q1)
      · simp only
        rw [← a2]
        funext x
        exact uM_ne (by omega)
    · rw [if_neg q1]
      obtain ⟨f1, f2, f3, f4⟩ := e2 q1
      obtain ⟨M1, a1, a2, a3, a4⟩ := s2 q1
      have hl1 := e1.2.1
      have hv1 := VA_le hPJ.1 f4 e1
      have hPJ1 : PJ B M1 (sn + 1) (sums ++ [t]) (prs ++ [p]) := hPJ.next (by rw [a2]; exact e1) (by rw [a2]; exact f4) a3 (a4.less (by omega))
      have g14 : M1 14 sn = t := by rw [(a4.2.2 sn (by omega) (by omega)).1]; exact h14
      have g15 : M1 15 sn = k := by rw [(a4.2.2 sn (by omega) (by omega)).2]; exact h15
      have h137 := x_sg137 (w := w) (F := F) (k := k) (u := e.1) (t := t) (by omega) hPJ1 (by omega) g15 (by omega) (by rw [a2]; exact f2) (by rw [a2]; exact f1)
      rw [a2] at h137
      rw [h137] at a1
      obtain ⟨r1, r2, r3⟩ := hrec e.1 e.2.2 (by omega) f4 f1.1 f1.2
      simp only at r1 r2 r3
      have hsimE := hsim M1 (sn + 1) (sums ++ [t]) (prs ++ [p]) e.1 hPJ1 hd f1.1 (by rw [a2]; exact f1.2)
      rw [a2] at hsimE
      -- from here on the need's value is there
      have hgo : ∀ (M2 : ZM) (r : FR), M2 1 = r.2.2 → ExtR e.2.2 r.2.2 → FI B r.2.2 0 → r.2.2 (207 + 8 * e.1 + 2) = 1 → M2 0 29 = ((sn + 1 : Nat) : Int) → SmR M1 M2 (sn + 1) →
          (¬ (recL (fun u C => recS d (sums ++ [t]) (prs ++ [p]) u C) (prs ++ [p]) t p n (k + 1) r.2.2).1 < 0 → ∃ (cnt : Nat) (M3 : ZM), (cnt : Int) ≤ 9 * (VA (recL (fun u C => recS d (sums ++ [t]) (prs ++ [p]) u C) (prs ++ [p]) t p n (k + 1) r.2.2).2.2 - VA r.2.2) + 2 * n ∧ (∀ K, lpR F (K + cnt) (zt 1) (LI (uM M2 15 sn (k + 1))) w = lpR F K (zt 1) (LI M3) w) ∧ M3 1 = (recL (fun u C => recS d (sums ++ [t]) (prs ++ [p]) u C) (prs ++ [p]) t p n (k + 1) r.2.2).2.2 ∧ M3 0 29 = ((sn + 1 : Nat) : Int) ∧ M3 14 sn = t ∧ M3 15 sn = k + 1 + n ∧ SmR M M3 sn) ∧
          ((recL (fun u C => recS d (sums ++ [t]) (prs ++ [p]) u C) (prs ++ [p]) t p n (k + 1) r.2.2).1 < 0 → ∃ (cnt : Nat) (M3 : ZM), (cnt : Int) ≤ 9 * (VA (recL (fun u C => recS d (sums ++ [t]) (prs ++ [p]) u C) (prs ++ [p]) t p n (k + 1) r.2.2).2.2 - VA r.2.2) + 2 * n + 10 * d + 2 ∧ (∀ K, lpR F (K + cnt) (zt 1) (LI (uM M2 15 sn (k + 1))) w = some (zt (recL (fun u C => recS d (sums ++ [t]) (prs ++ [p]) u C) (prs ++ [p]) t p n (k + 1) r.2.2).1, LI M3, w)) ∧ M3 1 = whyW (recL (fun u C => recS d (sums ++ [t]) (prs ++ [p]) u C) (prs ++ [p]) t p n (k + 1) r.2.2).2.2 (recL (fun u C => recS d (sums ++ [t]) (prs ++ [p]) u C) (prs ++ [p]) t p n (k + 1) r.2.2).1 (recL (fun u C => recS d (sums ++ [t]) (prs ++ [p]) u C) (prs ++ [p]) t p n (k + 1) r.2.2).2.1 ∧ M3 0 29 = 0 ∧ SmR M M3 0) := by
        intro M2 r b1 bx bF b2 b29 bS
        have hx := e1.trans bx
        have hl2 := bx.2.1
        have u1 : uM M2 15 sn (k + 1) 1 = M2 1 := by funext x; exact uM_ne (by omega)
        have uS : SmR M2 (uM M2 15 sn (k + 1)) sn := ⟨fun x _ _ => uM_ne (by omega), fun j a c => by funext x; exact uM_ne (by omega), fun i _ b => ⟨uM_ne (by omega), uM_nei (by omega)⟩⟩
        have hS2 : SmR M (uM M2 15 sn (k + 1)) sn := ((a4.less (by omega)).trans (bS.less (by omega))).trans uS
        have hs14 : ∀ j, 0 ≤ j → j < ((sn + 1 : Nat) : Int) → uM M2 15 sn (k + 1) 14 j = M 14 j := fun j c1 c2 => by rw [uM_ne (by omega), (bS.2.2 j c1 (by omega)).1, (a4.2.2 j c1 (by omega)).1]
        have hPJ2 : PJ B (uM M2 15 sn (k + 1)) (sn + 1) (sums ++ [t]) (prs ++ [p]) := by
          obtain ⟨c1, c2, c3, c4, c5, c6⟩ := hPJ
          refine ⟨by rw [u1, b1]; exact bF, by rw [uM_ne (by omega)]; exact b29, ?_, c4, fun x hx1 => ?_, ?_⟩
          · rw [seg_cong (g := M 14) (sn + 1) 0 (fun j d1 d2 => hs14 j d1 (by omega))]; exact c3
          · rw [u1, b1]; have := c5 x hx1; omega
          · rw [c6]
            refine List.map_congr_left (fun x hx1 => ?_)
            have := c5 x hx1
            rw [u1, b1, (hx.2.2 x this.1 this.2).1]
        have hp2 : p = uM M2 15 sn (k + 1) 1 (207 + 8 * t) := by rw [u1, b1, (hx.2.2 t htr.1 htr.2).1]; exact hp
        have := ih (k + 1) (uM M2 15 sn (k + 1)) hPJ2 (by rw [hs14 sn (by omega) (by omega)]; exact h14) (uM_eq _ _ _ _) hp2 (by rw [u1, b1, hx.1 _ (by omega)]; exact hact) (by rw [u1, b1, hx.1 _ (by omega)]; omega) (by omega)
        rw [u1, b1] at this
        obtain ⟨i1, i2⟩ := this
        refine ⟨fun h => ?_, fun h => ?_⟩
        · obtain ⟨cnt, M3, c1, c2, c3, c4, c5, c6, c7⟩ := i1 h
          exact ⟨cnt, M3, c1, c2, c3, c4, c5, c6, hS2.trans c7⟩
        · obtain ⟨cnt, M3, c1, c2, c3, c4, c5⟩ := i2 h
          exact ⟨cnt, M3, c1, c2, c3, c4, (hS2.less (by omega)).trans c5⟩
      by_cases q2 : e.2.2 (207 + 8 * e.1 + 2) = 1
      · -- it was there
        have hrs : recS d (sums ++ [t]) (prs ++ [p]) e.1 e.2.2 = (1, [], e.2.2) := by
          obtain ⟨d', rfl⟩ : ∃ d', d = d' + 1 := ⟨d - 1, by omega⟩
          unfold recS
          rw [if_pos q2]
        rw [if_pos q2] at a1
        rw [hrs, if_neg (by simp only; omega)]
        obtain ⟨i1, i2⟩ := hgo M1 (1, [], e.2.2) a2 (ExtR.refl _) f4 q2 a3 (SmR.refl _ _)
        simp only at i1 i2 ⊢
        refine ⟨fun h => ?_, fun h => ?_⟩
        · obtain ⟨cnt, M3, c1, c2, c3, c4, c5, c6, c7⟩ := i1 h
          refine ⟨cnt + 1, M3, by omega, fun K => ?_, c3, c4, c5, by omega, c7⟩
          rw [show K + (cnt + 1) = K + cnt + 1 by omega, hstep, a1, pcI_z]
          exact c2 K
        · obtain ⟨cnt, M3, c1, c2, c3, c4, c5⟩ := i2 h
          refine ⟨cnt + 1, M3, by omega, fun K => ?_, c3, c4, c5⟩
          rw [show K + (cnt + 1) = K + cnt + 1 by omega, hstep, a1, pcI_z]
          exact c2 K
      · rw [if_neg q2] at a1
        by_cases q3 : e.1 ∈ sums ++ [t]
        · -- a ring
          have hrs : recS d (sums ++ [t]) (prs ++ [p]) e.1 e.2.2 = (-2, (prs ++ [p]) ++ [e.2.2 (207 + 8 * e.1)], e.2.2) := by
            obtain ⟨d', rfl⟩ : ∃ d', d = d' + 1 := ⟨d - 1, by omega⟩
            unfold recS
            rw [if_neg q2, if_pos q3]
          rw [if_pos q3] at a1
          rw [hrs, if_pos (by simp only; omega)]
          refine ⟨fun h => absurd h (by simp only; omega), fun _ => ⟨2, uM (sR (uM M1 0 26 0) 1 (whyW e.2.2 (-2) (prs ++ [p] ++ [e.2.2 (207 + 8 * e.1)]))) 0 29 0, by simp only; omega, fun K => ?_, ?_, uM_eq _ _ _ _, ?_⟩⟩
          · rw [show K + 2 = K + 1 + 1 from rfl, hstep, a1, pcI_z]
            exact x_lrn (Or.inl rfl)
          · funext x
            rw [uM_ne (by omega), sR_eq]
          · refine (a4.less (by omega)).trans ⟨fun x c1 c2 => by rw [uM_nei c2, sR_ne (by omega), uM_nei c1], fun j c1 c2 => by funext x; rw [uM_ne (by omega), sR_ne (by omega), uM_ne (by omega)], fun i c1 c2 => by omega⟩
        · -- it is reckoned now
          rw [if_neg q3] at a1
          obtain ⟨z1, z2⟩ := hsimE q2 q3
          rw [show (((sn + 1 : Nat) : Int)) = (sn : Int) + 1 by omega] at z1 z2
          generalize recS d (sums ++ [t]) (prs ++ [p]) e.1 e.2.2 = r at *
          by_cases q4 : r.1 < 0
          · rw [if_pos q4]
            obtain ⟨cnt, M2, b1, b2, b3, b4, b5⟩ := z2 q4
            refine ⟨fun h => absurd q4 h, fun _ => ⟨cnt + 1, M2, by omega, fun K => ?_, b3, b4, (a4.less (by omega)).trans b5⟩⟩
            rw [show K + (cnt + 1) = K + cnt + 1 by omega, hstep, a1, pcI_z]
            exact b2 K
          · rw [if_neg q4]
            obtain ⟨cnt, M2, b1, b2, b3, b4, b5⟩ := z1 q4
            obtain ⟨g1, g2, g3⟩ := r2 q4
            have hx := e1.trans r1
            have hl2 := r1.2.1
            have hv2 := VA_le f4 g3 r1
            have hPJ2 : PJ B M2 (sn + 1) (sums ++ [t]) (prs ++ [p]) := hPJ1.next (by rw [a2, b3]; exact r1) (by rw [b3]; exact g3) (by rw [b4]; omega) (b5.less (by omega))
            have j14 : M2 14 sn = t := by rw [(b5.2.2 sn (by omega) (by omega)).1]; exact g14
            have j15 : M2 15 sn = k := by rw [(b5.2.2 sn (by omega) (by omega)).2]; exact g15
            have hhas : M2 1 (207 + 8 * t + (4 + k)) = e.1 + 1 := by rw [b3, (r1.2.2 t htr.1 (by omega)).2.2.2 k hk (by omega) (by omega)]; exact f2
            have hp2 : p = M2 1 (207 + 8 * t) := by rw [b3, (hx.2.2 t htr.1 htr.2).1]; exact hp
            have hned2 : nedS t p k (M2 1) = (e.1, [], M2 1) := by
              unfold nedS
              rw [if_neg (by omega), hhas, show e.1 + 1 - 1 = e.1 by omega]
            obtain ⟨-, s4⟩ := x_sgn (w := w) (F := F) (k := k) (p := p) hF hB hPJ2 j14 j15 hp2 (by rw [b3, hx.1 _ (by omega)]; exact hact) (by rw [b3, hx.1 _ (by omega)]; omega)
            rw [hned2] at s4
            obtain ⟨M3, c1, c2, c3, c4⟩ := s4 (by simp only; omega)
            simp only at c2
            have hPJ3 : PJ B M3 (sn + 1) (sums ++ [t]) (prs ++ [p]) := hPJ2.next (by rw [c2]; exact ExtR.refl _) (by rw [c2, b3]; exact g3) c3 (c4.less (by omega))
            have h137b := x_sg137 (w := w) (F := F) (k := k) (u := e.1) (t := t) (by omega) hPJ3 (by omega) (by rw [(c4.2.2 sn (by omega) (by omega)).2]; exact j15) (by omega) (by rw [c2]; exact hhas) (by rw [c2, b3]; omega)
            rw [c2, b3, if_pos g2] at h137b
            rw [h137b] at c1
            obtain ⟨i1, i2⟩ := hgo M3 r (c2.trans b3) r1 g3 g2 c3 ((b5.less (by omega)).trans (c4.less (by omega)))
            have hst2 : ∀ K, lpR F (K + 1) (zt 1) (LI M2) w = lpR F K (zt 1) (LI (uM M3 15 sn (k + 1))) w := fun K => by
              rw [x_lr1 hPJ2.2.1 (by omega), c1]
              rfl
            refine ⟨fun h => ?_, fun h => ?_⟩
            · obtain ⟨cnt2, M4, o1, o2, o3, o4, o5, o6, o7⟩ := i1 h
              refine ⟨cnt2 + 1 + cnt + 1, M4, by omega, fun K => ?_, o3, o4, o5, by omega, o7⟩
              rw [show K + (cnt2 + 1 + cnt + 1) = (K + cnt2 + 1) + cnt + 1 by omega, hstep, a1, pcI_z, b2, hst2]
              exact o2 K
            · obtain ⟨cnt2, M4, o1, o2, o3, o4, o5⟩ := i2 h
              refine ⟨cnt2 + 1 + cnt + 1, M4, by omega, fun K => ?_, o3, o4, o5⟩
              rw [show K + (cnt2 + 1 + cnt + 1) = (K + cnt2 + 1) + cnt + 1 by omega, hstep, a1, pcI_z, b2, hst2]
              exact o2 K
theorem x_rec {B : Int} (hF : 500 < F) (hB : B ≤ 1000000000) : ∀ d : Nat, RecSim F w B d
  | 0 => by
    intro M sn sums prs t hPJ hd
    have := hPJ.len
    omega
  | d + 1 => by
    have hsim := x_rec (B := B) hF hB d
    intro M sn sums prs t hPJ hd ht1 ht2 hIS hns
    have hlen := hPJ.len
    have hm := hPJ.1.2.2.1.1
    have hc := hPJ.1.1.1
    obtain ⟨w1, w2, w3, w4⟩ := hPJ.1.2.2.1.2 t ht1 ht2
    obtain ⟨p1, p2, p3, -⟩ := hPJ.1.1.2 _ w1.1 w1.2
    have hPJ1 := hPJ.push ⟨ht1, ht2⟩ hns
    obtain ⟨u1, u2, u3, u4, u5⟩ := puR_at (M := M) (sn := (sn : Int)) (t := t)
    have hlen1 := hPJ1.len
    have hnd := hPJ1.2.2.2.1
    have hr2 : ∀ x ∈ sums ++ [t], 0 ≤ x ∧ x < M 1 206 := by have := hPJ1.2.2.2.2.1; rw [u1] at this; exact this
    have hrec := recS_ok (B := B) d (sums ++ [t]) (prs ++ [M 1 (207 + 8 * t)]) (M 1 206) (by omega) (by omega) hnd hr2 (by omega)
    have hask : 0 ≤ askd (M 1) (M 1 (207 + 8 * t)) ∧ askd (M 1) (M 1 (207 + 8 * t)) ≤ M 1 (1 + 11 * M 1 (207 + 8 * t) + 2) := by
      unfold askd
      split <;> omega
    have hok := recL_ok (B := B) (N := M 1 206) (t := t) (p := M 1 (207 + 8 * t)) (pre := prs ++ [M 1 (207 + 8 * t)]) hrec (by omega) ⟨ht1, ht2⟩ (askd (M 1) (M 1 (207 + 8 * t))).toNat 0 (M 1) hPJ.1 (Int.le_refl _) rfl (by omega) (by omega) (fun i a b => by omega)
    have hself : (recS (d + 1) sums prs t (M 1)) = (if (recL (fun u C => recS d (sums ++ [t]) (prs ++ [M 1 (207 + 8 * t)]) u C) (prs ++ [M 1 (207 + 8 * t)]) t (M 1 (207 + 8 * t)) (askd (M 1) (M 1 (207 + 8 * t))).toNat 0 (M 1)).1 < 0 then recL (fun u C => recS d (sums ++ [t]) (prs ++ [M 1 (207 + 8 * t)]) u C) (prs ++ [M 1 (207 + 8 * t)]) t (M 1 (207 + 8 * t)) (askd (M 1) (M 1 (207 + 8 * t))).toNat 0 (M 1)
      else (1, [], vaS (recL (fun u C => recS d (sums ++ [t]) (prs ++ [M 1 (207 + 8 * t)]) u C) (prs ++ [M 1 (207 + 8 * t)]) t (M 1 (207 + 8 * t)) (askd (M 1) (M 1 (207 + 8 * t))).toNat 0 (M 1)).2.2 t)) := by
      show (if M 1 (207 + 8 * t + 2) = 1 then _ else _) = _
      rw [if_neg hIS, if_neg hns]
    have hIS0 : M 1 (207 + 8 * t + 2) = 0 := by omega
    rw [hself]
    -- the thing's own mark stays open
    have hown : (recL (fun u C => recS d (sums ++ [t]) (prs ++ [M 1 (207 + 8 * t)]) u C) (prs ++ [M 1 (207 + 8 * t)]) t (M 1 (207 + 8 * t)) (askd (M 1) (M 1 (207 + 8 * t))).toNat 0 (M 1)).2.2 (207 + 8 * t + 2) = M 1 (207 + 8 * t + 2) := by
      refine recL_keep (B := B) (d := d) (sums := sums ++ [t]) (prs := prs ++ [M 1 (207 + 8 * t)]) (by omega) (by omega) hnd hr2 (by omega) ⟨ht1, ht2⟩ (askd (M 1) (M 1 (207 + 8 * t))).toNat 0 (M 1) hPJ.1 (Int.le_refl _) rfl (by omega) (by omega) t (List.mem_append.mpr (Or.inr (List.mem_singleton.mpr rfl)))
    -- the walk over the needs
    have hloop : (¬ (recL (fun u C => recS d (sums ++ [t]) (prs ++ [M 1 (207 + 8 * t)]) u C) (prs ++ [M 1 (207 + 8 * t)]) t (M 1 (207 + 8 * t)) (askd (M 1) (M 1 (207 + 8 * t))).toNat 0 (M 1)).1 < 0 → ∃ (cnt : Nat) (M1 : ZM), (cnt : Int) ≤ 9 * (VA (recL (fun u C => recS d (sums ++ [t]) (prs ++ [M 1 (207 + 8 * t)]) u C) (prs ++ [M 1 (207 + 8 * t)]) t (M 1 (207 + 8 * t)) (askd (M 1) (M 1 (207 + 8 * t))).toNat 0 (M 1)).2.2 - VA (M 1)) + 8 ∧ (∀ K, lpR F (K + cnt) (zt 1) (LI (puR M sn t)) w = lpR F K (zt 1) (LI M1) w) ∧ M1 1 = (recL (fun u C => recS d (sums ++ [t]) (prs ++ [M 1 (207 + 8 * t)]) u C) (prs ++ [M 1 (207 + 8 * t)]) t (M 1 (207 + 8 * t)) (askd (M 1) (M 1 (207 + 8 * t))).toNat 0 (M 1)).2.2 ∧ M1 0 29 = ((sn + 1 : Nat) : Int) ∧ M1 14 sn = t ∧ M1 15 sn = askd (M 1) (M 1 (207 + 8 * t)) ∧ SmR (puR M sn t) M1 sn) ∧
        ((recL (fun u C => recS d (sums ++ [t]) (prs ++ [M 1 (207 + 8 * t)]) u C) (prs ++ [M 1 (207 + 8 * t)]) t (M 1 (207 + 8 * t)) (askd (M 1) (M 1 (207 + 8 * t))).toNat 0 (M 1)).1 < 0 → ∃ (cnt : Nat) (M1 : ZM), (cnt : Int) ≤ 9 * (VA (recL (fun u C => recS d (sums ++ [t]) (prs ++ [M 1 (207 + 8 * t)]) u C) (prs ++ [M 1 (207 + 8 * t)]) t (M 1 (207 + 8 * t)) (askd (M 1) (M 1 (207 + 8 * t))).toNat 0 (M 1)).2.2 - VA (M 1)) + 8 + 10 * d + 2 ∧ (∀ K, lpR F (K + cnt) (zt 1) (LI (puR M sn t)) w = some (zt (recL (fun u C => recS d (sums ++ [t]) (prs ++ [M 1 (207 + 8 * t)]) u C) (prs ++ [M 1 (207 + 8 * t)]) t (M 1 (207 + 8 * t)) (askd (M 1) (M 1 (207 + 8 * t))).toNat 0 (M 1)).1, LI M1, w)) ∧ M1 1 = whyW (recL (fun u C => recS d (sums ++ [t]) (prs ++ [M 1 (207 + 8 * t)]) u C) (prs ++ [M 1 (207 + 8 * t)]) t (M 1 (207 + 8 * t)) (askd (M 1) (M 1 (207 + 8 * t))).toNat 0 (M 1)).2.2 (recL (fun u C => recS d (sums ++ [t]) (prs ++ [M 1 (207 + 8 * t)]) u C) (prs ++ [M 1 (207 + 8 * t)]) t (M 1 (207 + 8 * t)) (askd (M 1) (M 1 (207 + 8 * t))).toNat 0 (M 1)).1 (recL (fun u C => recS d (sums ++ [t]) (prs ++ [M 1 (207 + 8 * t)]) u C) (prs ++ [M 1 (207 + 8 * t)]) t (M 1 (207 + 8 * t)) (askd (M 1) (M 1 (207 + 8 * t))).toNat 0 (M 1)).2.1 ∧ M1 0 29 = 0 ∧ SmR (puR M sn t) M1 0) := by
      by_cases qa : M 1 (1 + 11 * M 1 (207 + 8 * t)) = 0
      · have e0 : askd (M 1) (M 1 (207 + 8 * t)) = 0 := if_pos qa
        rw [e0]
        refine ⟨fun _ => ⟨0, puR M sn t, ?_, fun K => rfl, u1, by rw [u2]; omega, u3, u4, SmR.refl _ _⟩, fun h => absurd h (by simp only [recL, Int.toNat_zero]; omega)⟩
        show ((0 : Nat) : Int) ≤ 9 * (VA (M 1) - VA (M 1)) + 8
        omega
      · have e0 : askd (M 1) (M 1 (207 + 8 * t)) = M 1 (1 + 11 * M 1 (207 + 8 * t) + 2) := if_neg qa
        have := x_recL (w := w) (F := F) (B := B) (d := d) hF hB hsim (sn := sn) (sums := sums) (prs := prs) (t := t) (p := M 1 (207 + 8 * t)) (by omega) (by omega) (askd (M 1) (M 1 (207 + 8 * t))).toNat 0 (puR M sn t) hPJ1 u3 u4 (by rw [u1]) (by rw [u1]; exact qa) (by rw [u1]; omega) (by omega)
        rw [u1] at this
        obtain ⟨i1, i2⟩ := this
        refine ⟨fun h => ?_, fun h => ?_⟩
        · obtain ⟨cnt, M1, a1, a2, a3, a4, a5, a6, a7⟩ := i1 h
          exact ⟨cnt, M1, by omega, a2, a3, a4, a5, by omega, a7⟩
        · obtain ⟨cnt, M1, a1, a2, a3, a4, a5⟩ := i2 h
          exact ⟨cnt, M1, by omega, a2, a3, a4, a5⟩
    obtain ⟨i1, i2⟩ := hloop
    obtain ⟨l1, l2, l3⟩ := hok
    have hask2 : askd (M 1) (M 1 (207 + 8 * t)) = 0 ∧ M 1 (1 + 11 * M 1 (207 + 8 * t)) = 0 ∨ M 1 (1 + 11 * M 1 (207 + 8 * t)) ≠ 0 ∧ askd (M 1) (M 1 (207 + 8 * t)) = M 1 (1 + 11 * M 1 (207 + 8 * t) + 2) := by
      unfold askd
      by_cases qa : M 1 (1 + 11 * M 1 (207 + 8 * t)) = 0
      · exact Or.inl ⟨if_pos qa, qa⟩
      · exact Or.inr ⟨qa, if_neg qa⟩
    generalize recL (fun u C => recS d (sums ++ [t]) (prs ++ [M 1 (207 + 8 * t)]) u C) (prs ++ [M 1 (207 + 8 * t)]) t (M 1 (207 + 8 * t)) (askd (M 1) (M 1 (207 + 8 * t))).toNat 0 (M 1) = r at *
    by_cases q : r.1 < 0
    · rw [if_pos q]
      obtain ⟨cnt, M1, a1, a2, a3, a4, a5⟩ := i2 q
      exact ⟨fun h => absurd q h, fun _ => ⟨cnt, M1, by omega, a2, a3, a4, (u5.less (by omega)).trans a5⟩⟩
    · rw [if_neg q]
      obtain ⟨cnt, M1, a1, a2, a3, a4, a5, a6, a7⟩ := i1 q
      obtain ⟨m1, m2, m3⟩ := l2 q
      have hl6 := l1.2.1
      have hm2 := m2.2.2.1.1
      have hs14 : ∀ j, 0 ≤ j → j < ((sn + 1 : Nat) : Int) → M1 14 j = puR M sn t 14 j := fun j c1 c2 => by
        by_cases ej : j = sn
        · subst ej; rw [a5, u3]
        · exact (a7.2.2 j c1 (by omega)).1
      have hPJ2 : PJ B M1 (sn + 1) (sums ++ [t]) (prs ++ [M 1 (207 + 8 * t)]) := by
        obtain ⟨c1, c2, c3, c4, c5, c6⟩ := hPJ1
        refine ⟨by rw [a3]; exact m2, a4, ?_, c4, fun x hx1 => ?_, ?_⟩
        · rw [seg_cong (g := puR M sn t 14) (sn + 1) 0 (fun j d1 d2 => hs14 j d1 (by omega))]; exact c3
        · rw [a3]; have := hr2 x hx1; omega
        · rw [c6]
          refine List.map_congr_left (fun x hx1 => ?_)
          have := hr2 x hx1
          rw [u1, a3, (l1.2.2 x this.1 this.2).1]
      have hpt : M1 1 (207 + 8 * t) = M 1 (207 + 8 * t) := by rw [a3, (l1.2.2 t ht1 ht2).1]
      have hE := x_sgE (w := w) (F := F) (t := t) (by omega) hPJ2 a5 (by omega) (by
        rw [hpt, a3, l1.1 _ (by omega), l1.1 _ (by omega), a6]
        rcases hask2 with h | h
        · exact Or.inl h.2
        · exact Or.inr h.2) (by
        rw [hpt, a3, l1.1 _ (by omega), l1.1 _ (by omega)]
        intro qa k c1 c2
        rcases hask2 with h | h
        · exact absurd h.2 qa
        · exact (m3 k c1 (by omega)).1)
      rw [a3] at hE
      have hva : VA (vaS r.2.2 t) = VA r.2.2 + 1 := by
        unfold VA vaS
        have e6 : ∀ v : Int, ua (ua r.2.2 (207 + 8 * t + 3) v) (207 + 8 * t + 2) 1 206 = r.2.2 206 := fun v => by rw [ua_ne (by omega), ua_ne (by omega)]
        rw [e6, vS_ua ht1 _ (by omega)]
        have e3 : ∀ v : Int, vS (ua r.2.2 (207 + 8 * t + 3) v) (r.2.2 206).toNat = vS r.2.2 (r.2.2 206).toNat := fun v => Int.le_antisymm (vS_le _ (fun u a b => by rw [ua_ne (by omega)]; exact Int.le_refl _)) (vS_le _ (fun u a b => by rw [ua_ne (by omega)]; exact Int.le_refl _))
        rw [e3, ua_ne (by omega), hown, hIS0, Int.sub_zero]
      refine ⟨fun _ => ⟨cnt + 1, uM (sR M1 1 (vaS r.2.2 t)) 0 29 sn, by simp only; omega, fun K => ?_, ?_, uM_eq _ _ _ _, ?_⟩, fun h => absurd h (by simp only; omega)⟩
      · rw [show K + (cnt + 1) = (K + 1) + cnt by omega, a2, x_lr1 a4 (by omega), hE]
        rfl
      · funext x
        rw [uM_ne (by omega), sR_eq]
      · refine (u5.trans a7).trans ⟨fun x _ c2 => by rw [uM_nei c2, sR_ne (by omega)], fun j c1 c2 => by funext x; rw [uM_ne (by omega), sR_ne (by omega)], fun i c1 c2 => ⟨by rw [uM_ne (by omega), sR_ne (by omega)], by rw [uM_ne (by omega), sR_ne (by omega)]⟩⟩
/-- the reference's value -/
def reA (r : FR) : Int → Int := if r.1 < 0 then whyW r.2.2 r.1 r.2.1 else r.2.2
theorem x_reckons {B : Int} {M : ZM} {t : Int} (hF : 2000 < F) (hB : B ≤ 1000000000) (hFI : FI B (M 1) 0) (ht : 0 ≤ t ∧ t < M 1 206) :
    ∃ M1 : ZM, p_X11_reckons F (zt t) (LI M) w = some (zt (recS 61 [] [] t (M 1)).1, LI M1, w) ∧ M1 1 = reA (recS 61 [] [] t (M 1)) ∧ SmR M M1 0 := by
  have hm := hFI.2.2.1.1
  obtain ⟨w1, w2, w3, w4⟩ := hFI.2.2.1.2 t ht.1 ht.2
  have e1 : uM M 0 29 0 1 = M 1 := by funext e; exact uM_ne (by omega)
  have hPJ : PJ B (uM M 0 29 0) 0 [] [] := ⟨by rw [e1]; exact hFI, uM_eq _ _ _ _, rfl, by simp, fun x hx => (by cases hx), rfl⟩
  have hok := recS_ok (B := B) 61 [] [] 0 rfl rfl (by simp) (fun x hx => by cases hx) (by omega) t (M 1) (by omega) hFI ht.1 ht.2
  simp only at hok
  unfold p_X11_reckons pk_X11_reckons_19
  have e1' : uM M 0 ((29 : Nat) : Int) 0 1 = M 1 := e1
  simp (disch := omega) only [zt_lit, up2_z, gnm_z, x_its, ob_z, e1', zt_eq]
  show ∃ M1 : ZM, (if M 1 (207 + 8 * t + 2) = 0 then pcU (p_X11_sumBegins F (zt t) (LI (uM M 0 29 0)) w) (fun sg7 w8 => lpR F F (zt 1) sg7 w8) else lpR F F (zt 1) (LI (uM M 0 29 0)) w) = _ ∧ _
  obtain ⟨g, hg⟩ : ∃ g, F = g + 1 := ⟨F - 1, by omega⟩
  by_cases q : M 1 (207 + 8 * t + 2) = 0
  · rw [if_pos q, x_sumBegins (sn := 0) (by omega) (uM_eq _ _ _ _), pcU_z]
    obtain ⟨z1, z2⟩ := x_rec (w := w) (F := F) (B := B) (by omega) hB 61 (uM M 0 29 0) 0 [] [] t hPJ rfl ht.1 (by rw [e1]; exact ht.2) (by rw [e1]; omega) (by simp)
    rw [e1] at z1 z2
    unfold reA
    generalize recS 61 [] [] t (M 1) = r at *
    have hv0 := VA_rng hFI
    by_cases q2 : r.1 < 0
    · obtain ⟨cnt, M1, a1, a2, a3, a4, a5⟩ := z2 q2
      have hv1 := VA_rng (hok.2.2 q2).2.2
      have hm1 := (hok.2.2 q2).2.2.2.2.1.1
      refine ⟨M1, ?_, by rw [if_pos q2]; exact a3, u29_sm.trans a5⟩
      have := a2 (F - cnt)
      rw [show F - cnt + cnt = F by omega] at this
      exact this
    · obtain ⟨cnt, M1, a1, a2, a3, a4, a5⟩ := z1 q2
      have hv1 := VA_rng (hok.2.1 q2).2.2
      have hm1 := (hok.2.1 q2).2.2.2.2.1.1
      refine ⟨uM M1 0 29 0, ?_, by rw [if_neg q2, ← a3]; funext x; exact uM_ne (by omega), (u29_sm.trans a5).trans u29_sm⟩
      have := a2 (F - cnt)
      rw [show F - cnt + cnt = F by omega] at this
      refine this.trans ?_
      obtain ⟨g2, hg2⟩ : ∃ g2, F - cnt = g2 + 1 := ⟨F - cnt - 1, by omega⟩
      rw [hg2, x_lr0 a4, (hok.2.1 q2).1]
  · rw [if_neg q]
    have hr : recS 61 [] [] t (M 1) = (1, [], M 1) := by
      show (if M 1 (207 + 8 * t + 2) = 1 then _ else _) = _
      rw [if_pos (by omega)]
    rw [hr]
    refine ⟨uM (uM M 0 29 0) 0 29 0, ?_, ?_, u29_sm.trans u29_sm⟩
    · rw [hg, x_lr0 (uM_eq _ _ _ _)]
    · unfold reA
      rw [if_neg (by simp only; omega), ← e1]
      funext x
      exact uM_ne (by omega)
end RR
