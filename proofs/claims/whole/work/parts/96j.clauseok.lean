section RD5
variable {F : Nat} {lg : Nat → Nat → Int64} {M0 R0 M R : ZM} {w : Int64} {a pb : Nat} {T : Int → Int} {N r m P : Int}
theorem needs_ok {l : Int} (hl : l = 0 ∨ l = 1) (hF : 700 < F) (hN : 0 ≤ N ∧ N ≤ 600) (hT : ∀ e, -128 ≤ T e ∧ T e ≤ 127) (hpb : pb < a) (gp : ∀ e, 0 ≤ e → e < N → M0 pb e = T e) (gt : ∀ e, 0 ≤ e → e < N → R0 2 e = T e) (h : Q2 M0 R0 a T N M R w r (mpo T N r) P) : (∃ M1 R1 w1 r1, p_X6_readNeeds F pb a (zt l) (LI M) lg = some (1, LI M1, lg) ∧ p_X11_needsTold F (zt l) (LI R) w = some (1, LI R1, w1) ∧ r ≤ r1 ∧ Q2 M0 R0 a T N M1 R1 w1 r1 (mpo T N r1) P) ∨ OuF M0 R0 a lg (p_X6_readNeeds F pb a (zt l) (LI M) lg) (p_X11_needsTold F (zt l) (LI R) w) := by
  have htk := h.1.2.2.1
  have hP := h.2.1
  have hr := htk.2.2
  unfold p_X6_readNeeds p_X11_needsTold
  rw [show (2 : Int32) = zt 2 from rfl]
  by_cases hk : tkK T N r = 2
  · rw [if_pos (by rw [tkc hN.2 htk (by omega)]; exact hk), if_pos (show LI R 0 9 = (3 : Int32) from by rw [tkr3 htk]; exact hk)]
    exact Or.inl (needs_loop hl hF hN hT hpb gp gt 600 r 0 M R w F (by omega) (by omega) (by omega) (by omega) h)
  · obtain ⟨R1, b1, b2⟩ := h.1.fail (F := F) hN.2 (mpo_le hr hN.2).1.2
    rw [if_neg (by rw [tkc hN.2 htk (by omega)]; exact hk), if_neg (show ¬ (LI R 0 9 = (3 : Int32)) from by rw [tkr3 htk]; exact hk), b1, pcI_z]
    exact Or.inr ⟨M, R1, w, rfl, rfl, b2⟩
/-- the number of breaks, behind the word -/
def rfBreaks (F : Nat) (sg17 : Nat → Nat → Int32) (w18 : Int64) : Option (Int32 × (Nat → Nat → Int32) × Int64) :=
  if (sg17 0 9) = (3 : Int32) then
  (if (sg17 0 11) ≤ (9 : Int32) then
  (pk_X11_clause_124 F  sg17 w18)
  else (pcU (p_X11_isBad F (2 : Int32) (sg17 0 8) sg17 w18) (fun (sg22 : Nat → Nat → Int32) (w23 : Int64) =>
  pk_X11_clause_124 F  sg22 w23)))
  else (pcI (p_X11_fails F  sg17 w18) (fun (x26 : Int32) (sg24 : Nat → Nat → Int32) (w25 : Int64) =>
  mN .boolean x26 sg24 w25))
theorem breaks_ok (hF : 700 < F) (hN : 0 ≤ N ∧ N ≤ 600) (hT : ∀ e, -128 ≤ T e ∧ T e ≤ 127) (hpb : pb < a) (gp : ∀ e, 0 ≤ e → e < N → M0 pb e = T e) (gt : ∀ e, 0 ≤ e → e < N → R0 2 e = T e) (h : Q2 M0 R0 a T N M R w r (mpo T N r) P) : Ou M0 R0 a T N P r lg (p_X6_readBreaks F pb a (LI M) lg) (rfBreaks F (LI R) w) := by
  have htk := h.1.2.2.1
  have hP := h.2.1
  have hr := htk.2.2
  have hrg := tk_rng (T := T) hr hN.2
  have fin : ∀ (M R : ZM), Q2 M0 R0 a T N M R w r (mpo T N r) P → tkK T N r = 2 → (tkV T N r ≤ 9 ∨ M a 6 ≠ 0) → Ou M0 R0 a T N P r lg (pk_X6_readBreaks_37 F pb a (LI M) lg) (pk_X11_clause_124 F (LI R) w) := by
    intro M R h hk hv
    have htk := h.1.2.2.1
    have hp4 := h.2.2.2.1
    have hp0 := h.2.1.2.1
    have hn := nv_rng (T := T) hr hN.2 hk
    have hc := h.cell (d := 4) (k := 9) (v := tkV T N r) (Or.inr (Or.inr (Or.inr (Or.inl ⟨rfl, rfl, hn.1, hv⟩))))
    obtain ⟨M1, R1, w1, a1, a2, a3⟩ := hc.adv (F := F) (lg := lg) hF hN hT hpb gp gt (mpo_step hr hN.2 (by omega)).1
    refine Or.inl ⟨M1, R1, w1, _, ?_, ?_, hrg.2.2.1 (by omega) |> fun g => by omega, a3⟩
    · unfold pk_X6_readBreaks_37
      rw [LI_4, LI_5, htk.1.2.2.2.2 hk, mS_z (by omega) (by omega) (by omega), ob_z, a1, hcU_z]
      rfl
    · unfold pk_X11_clause_124
      rw [LI_11, htk.2.1.2.2.2.2.2.2.1 hk, show (9 : Int32) = zt 9 from rfl, mS_z (by omega) (by omega) (by omega), ob_z, a2, pcU_z]
      rfl
  unfold p_X6_readBreaks rfBreaks
  rw [show (2 : Int32) = zt 2 from rfl]
  by_cases hk : tkK T N r = 2
  · have hn := nv_rng (T := T) hr hN.2 hk
    rw [if_pos (by rw [tkc hN.2 htk (by omega)]; exact hk), if_pos (show LI R 0 9 = (3 : Int32) from by rw [tkr3 htk]; exact hk), LI_5, htk.1.2.2.2.2 hk, LI_11, htk.2.1.2.2.2.2.2.2.1 hk, show (9 : Int32) = zt 9 from rfl]
    by_cases q : tkV T N r ≤ 9
    · rw [if_pos (zle_pos q (by omega) (by omega)), if_pos (zle_pos q (by omega) (by omega))]
      exact fin M R h hk (Or.inl q)
    · rw [if_neg (zle_neg (by omega) (by omega) (by omega)), if_neg (zle_neg (by omega) (by omega) (by omega)), LI_3, htk.1.2.2.1, LI_8, htk.2.1.2.1]
      obtain ⟨M1, R1, a1, a2, a3, a4, -⟩ := h.note (F := F) (lg := lg) (pb := pb) (f := 2) (p := tkB T N r) (by omega) (by omega)
      rw [a1, hcU_z, a2, pcU_z]
      exact fin M1 R1 a3 hk (Or.inr a4)
  · obtain ⟨R1, b1, b2⟩ := h.1.fail (F := F) hN.2 (mpo_le hr hN.2).1.2
    rw [if_neg (by rw [tkc hN.2 htk (by omega)]; exact hk), if_neg (show ¬ (LI R 0 9 = (3 : Int32)) from by rw [tkr3 htk]; exact hk), b1, pcI_z]
    exact Or.inr ⟨M, R1, w, rfl, rfl, b2⟩
/-- the span, behind the word -/
def rfSpan (F : Nat) (sg27 : Nat → Nat → Int32) (w28 : Int64) : Option (Int32 × (Nat → Nat → Int32) × Int64) :=
  Option.bind (p_X11_spanHere F  sg27 w28) (fun (x29 : Int32) =>
  Option.bind (mS sg27 8 11 (8 : Int32) x29) (fun (sg30 : Nat → Nat → Int32) =>
  Option.bind (mI sg30 8 11 (8 : Int32)) (fun (x31 : Int32) =>
  if x31 = (-1 : Int32) then
  (pcI (p_X11_fails F  sg30 w28) (fun (x36 : Int32) (sg34 : Nat → Nat → Int32) (w35 : Int64) =>
  mN .boolean x36 sg34 w35))
  else (pcU (p_X11_token F  sg30 w28) (fun (sg32 : Nat → Nat → Int32) (w33 : Int64) =>
  mN .boolean (1 : Int32) sg32 w33)))))
theorem span_ok (hF : 700 < F) (hN : 0 ≤ N ∧ N ≤ 600) (hT : ∀ e, -128 ≤ T e ∧ T e ≤ 127) (hpb : pb < a) (gp : ∀ e, 0 ≤ e → e < N → M0 pb e = T e) (gt : ∀ e, 0 ≤ e → e < N → R0 2 e = T e) (h : Q2 M0 R0 a T N M R w r (mpo T N r) P) : Ou M0 R0 a T N P r lg (p_X6_readSpan F pb a (LI M) lg) (rfSpan F (LI R) w) := by
  have htk := h.1.2.2.1
  have hr := htk.2.2
  have hrg := tk_rng (T := T) hr hN.2
  have hp4 := h.2.2.2.1
  have hp0 := h.2.1.2.1
  have hs := sN_rng (T := T) (N := N) (r := r)
  rw [y_readSpan hF hN hT htk (fun e e0 e1 => by rw [h.1.1 pb (by omega)]; exact gp e e0 e1)]
  unfold rfSpan
  rw [x_spanHere hN htk, ob_z, show (8 : Int32) = zt 8 from rfl, mS_z (by omega) (by omega) (by omega), ob_z, mI_z (by omega) (by omega) (by omega), ob_z, uM_eq]
  unfold pk_X6_readSpan_49
  rw [show (-1 : Int32) = zt (-1) from rfl]
  by_cases q : sN T N r = -1
  · rw [if_pos (by rw [q]), if_pos (by rw [q])]
    have hq : QC M0 R0 a T N M (uM R 8 8 (sN T N r)) w r (mpo T N r) := h.1.set (fun _ _ => rfl) ⟨rfl, rfl⟩ (fun j _ _ g8 => by funext e; exact uM_ne g8) (fun e _ => uM_ne (by omega)) h.1.2.2.2.2.2.1 (fun e e0 e1 => by rw [uM_ne (by omega)]; exact h.1.2.2.2.2.2.2 e e0 e1)
    obtain ⟨R1, b1, b2⟩ := hq.fail (F := F) hN.2 (mpo_le hr hN.2).1.2
    rw [b1, pcI_z]
    exact Or.inr ⟨M, R1, w, rfl, rfl, b2⟩
  · have hk : tkK T N r = 1 := by
      unfold sN at q
      by_cases q12 : wdP T N r 12 = true
      · exact wd_k q12
      · rw [if_neg q12] at q
        by_cases q13 : wdP T N r 13 = true
        · exact wd_k q13
        · rw [if_neg q13] at q
          by_cases q14 : wdP T N r 14 = true
          · exact wd_k q14
          · rw [if_neg q14] at q; exact absurd rfl q
    rw [if_neg (by rw [zt_eq (by omega) (by omega) (by omega) (by omega)]; exact q), if_neg (by rw [zt_eq (by omega) (by omega) (by omega) (by omega)]; exact q)]
    have hc := h.cell (d := 3) (k := 8) (v := sN T N r) (Or.inr (Or.inr (Or.inl ⟨rfl, rfl, by omega, by omega⟩)))
    obtain ⟨M1, R1, w1, a1, a2, a3⟩ := hc.adv (F := F) (lg := lg) hF hN hT hpb gp gt (mpo_step hr hN.2 (by omega)).1
    have hlt := hrg.2.2.1 (by omega)
    refine Or.inl ⟨M1, R1, w1, _, ?_, ?_, by omega, a3⟩
    · rw [LI_4, mS_z (by omega) (by omega) (by omega), ob_z, a1, hcU_z]
      rfl
    · rw [a2, pcU_z]
      rfl
theorem Ou.later {r0 : Int} {oc : Option (Int32 × (Nat → Nat → Int32) × (Nat → Nat → Int64))} {ou : Option (Int32 × (Nat → Nat → Int32) × Int64)} (h : Ou M0 R0 a T N P r lg oc ou) (hr : r0 ≤ r) : Ou M0 R0 a T N P r0 lg (hcI oc (fun x s l => hN .boolean x s l)) ou := by
  rcases h with ⟨M1, R1, w1, r1, a1, a2, a3, a4⟩ | ⟨M1, R1, w1, a1, a2, a3⟩
  · exact Or.inl ⟨M1, R1, w1, r1, by rw [a1, hcI_z]; rfl, a2, by omega, a4⟩
  · exact Or.inr ⟨M1, R1, w1, by rw [a1, hcI_z]; rfl, a2, a3⟩
def hB (x : Int32) (s : Nat → Nat → Int32) (l : Nat → Nat → Int64) : Option (Int32 × (Nat → Nat → Int32) × (Nat → Nat → Int64)) := hN .boolean x s l
theorem clause_ok (hF : 700 < F) (hN : 0 ≤ N ∧ N ≤ 600) (hT : ∀ e, -128 ≤ T e ∧ T e ≤ 127) (hpb : pb < a) (gp : ∀ e, 0 ≤ e → e < N → M0 pb e = T e) (gt : ∀ e, 0 ≤ e → e < N → R0 2 e = T e) (h : Q2 M0 R0 a T N M R w r (mpo T N r) P) : Ou M0 R0 a T N P r lg (p_X6_readClause F pb a (LI M) lg) (p_X11_clause F (LI R) w) := by
  have htk := h.1.2.2.1
  have hr := htk.2.2
  have hrg := tk_rng (T := T) hr hN.2
  have hp4 := h.2.2.2.1
  have hp0 := h.2.1.2.1
  have gpM : ∀ e, 0 ≤ e → e < N → M pb e = T e := fun e e0 e1 => by rw [h.1.1 pb (by omega)]; exact gp e e0 e1
  have step : tkK T N r = 1 → ∃ M1 R1 w1, p_X8_advance F pb (a + 11) (LI M) lg = some (LI M1, lg) ∧ p_X11_token F (LI R) w = some (LI R1, w1) ∧ Q2 M0 R0 a T N M1 R1 w1 (tkE T N r) (mpo T N (tkE T N r)) P := fun hk => h.adv (F := F) (lg := lg) hF hN hT hpb gp gt (mpo_step hr hN.2 (by omega)).1
  have nd : ∀ (l : Int) (M1 R1 : ZM) (w1 : Int64), (l = 0 ∨ l = 1) → tkK T N r = 1 → Q2 M0 R0 a T N M1 R1 w1 (tkE T N r) (mpo T N (tkE T N r)) P → Ou M0 R0 a T N P r lg (hcI (p_X6_readNeeds F pb a (zt l) (LI M1) lg) (fun x s l => hB x s l)) (pcI (p_X11_needsTold F (zt l) (LI R1) w1) (fun x s l => mN .boolean x s l)) := by
    intro l M1 R1 w1 hl hk hq
    have hlt := hrg.2.2.1 (by omega)
    rcases needs_ok (F := F) (lg := lg) (pb := pb) hl hF hN hT hpb gp gt hq with ⟨M2, R2, w2, r2, b1, b2, b3, b4⟩ | ⟨M2, R2, w2, b1, b2, b3⟩
    · exact Or.inl ⟨M2, R2, w2, r2, by rw [b1, hcI_z]; rfl, by rw [b2, pcI_z]; rfl, by omega, b4⟩
    · exact Or.inr ⟨M2, R2, w2, by rw [b1, hcI_z]; rfl, by rw [b2, pcI_z]; rfl, b3⟩
  unfold p_X6_readClause p_X11_clause
  cases q7 : wdP T N r 7 with
  | true =>
    have hk := wd_k q7
    have hlt := hrg.2.2.1 (by omega)
    obtain ⟨M1, R1, w1, a1, a2, a3⟩ := step hk
    rw [yt1 hF (by omega) hN hT htk gpM q7 a1, hcI_z, if_neg (by decide), xw0 (k := 9) (c := 1818327673) (by omega) rfl hN htk (wd_oth hN htk (by omega) (by omega) (by omega) q7), ob_z, if_pos rfl, xw0 (k := 8) (c := 474147546227) (by omega) rfl hN htk (wd_oth hN htk (by omega) (by omega) (by omega) q7), ob_z, if_pos rfl, xw1 (k := 7) (c := 1936744814) (by omega) rfl hN htk q7, ob_z, if_neg (by decide), a2, pcU_z]
    exact (span_ok hF hN hT hpb gp gt a3).later (by omega)
  | false =>
    rw [yt0 hF (by omega) hN hT htk gpM q7, hcI_z, if_pos rfl]
    cases q8 : wdP T N r 8 with
    | true =>
      obtain ⟨M1, R1, w1, a1, a2, a3⟩ := step (wd_k q8)
      rw [yt1 hF (by omega) hN hT htk gpM q8 a1, hcI_z, if_neg (by decide), xw0 (k := 9) (c := 1818327673) (by omega) rfl hN htk (wd_oth hN htk (by omega) (by omega) (by omega) q8), ob_z, if_pos rfl, xw1 (k := 8) (c := 474147546227) (by omega) rfl hN htk q8, ob_z, if_neg (by decide), a2, pcU_z]
      exact nd 0 M1 R1 w1 (Or.inl rfl) (wd_k q8) a3
    | false =>
      rw [yt0 hF (by omega) hN hT htk gpM q8, hcI_z, if_pos rfl]
      cases q9 : wdP T N r 9 with
      | true =>
        obtain ⟨M1, R1, w1, a1, a2, a3⟩ := step (wd_k q9)
        rw [yt1 hF (by omega) hN hT htk gpM q9 a1, hcI_z, if_neg (by decide), xw1 (k := 9) (c := 1818327673) (by omega) rfl hN htk q9, ob_z, if_neg (by decide), a2, pcU_z]
        exact nd 1 M1 R1 w1 (Or.inr rfl) (wd_k q9) a3
      | false =>
        rw [yt0 hF (by omega) hN hT htk gpM q9, hcI_z, if_pos rfl, xw0 (k := 9) (c := 1818327673) (by omega) rfl hN htk q9, ob_z, if_pos rfl, xw0 (k := 8) (c := 474147546227) (by omega) rfl hN htk q8, ob_z, if_pos rfl, xw0 (k := 7) (c := 1936744814) (by omega) rfl hN htk q7, ob_z, if_pos rfl]
        cases q10 : wdP T N r 10 with
        | true =>
          have hk := wd_k q10
          have hlt := hrg.2.2.1 (by omega)
          obtain ⟨M1, R1, w1, a1, a2, a3⟩ := step hk
          rw [yt1 hF (by omega) hN hT htk gpM q10 a1, hcI_z, if_neg (by decide), xw1 (k := 10) (c := 108243466677107) (by omega) rfl hN htk q10, ob_z, if_neg (by decide), a2, pcU_z]
          exact (breaks_ok hF hN hT hpb gp gt a3).later (by omega)
        | false =>
          rw [yt0 hF (by omega) hN hT htk gpM q10, hcI_z, if_pos rfl, xw0 (k := 10) (c := 108243466677107) (by omega) rfl hN htk q10, ob_z, if_pos rfl]
          cases q11 : wdP T N r 11 with
          | true =>
            have hk := wd_k q11
            have hlt := hrg.2.2.1 (by omega)
            have hc := h.cell (d := 5) (k := 10) (v := 1) (Or.inr (Or.inr (Or.inr (Or.inr ⟨rfl, rfl, by omega, by omega⟩))))
            have ht1 : Tk M (uM R 8 10 1) w a T N r := htk.set rfl (fun e _ _ => uM_ne (by omega))
            obtain ⟨M1, R1, w1, a1, a2, a3, a4, a5⟩ := adv2 (F := F) (lg := lg) hF hN hT hpb gp gt h.1.1 hc.1.2.1 ht1
            have e4 : M1 a 4 = M a 4 := by rw [a4 a (by omega)]
            rw [yt1 hF (by omega) hN hT htk gpM q11 a1, hcI_z, if_neg (by decide), xw1 (k := 11) (c := 6447460) (by omega) rfl hN htk q11, ob_z, if_neg (by decide), LI_4, e4, show vp_nar .boolean (1 : Int32) = zt 1 from rfl, mS_z (by omega) (by omega) (by omega), ob_z, show (10 : Int32) = zt 10 from rfl, show mS (LI R) 8 11 (zt 10) (1 : Int32) = some (LI (uM R 8 10 1)) from mS_z (v := 1) (by omega) (by omega) (by omega), ob_z, a2, pcU_z]
            refine Or.inl ⟨_, R1, w1, _, rfl, rfl, by omega, hc.tok (a3.set ?_ (fun _ _ _ => rfl)) (fun j hj => ?_) a5 (mpo_step hr hN.2 (by omega)).1 (by omega)⟩
            · funext e
              exact uM_ne (by omega)
            · funext e
              by_cases q : j = a + 1 + 5
              · subst q
                by_cases qe : e = M a 4
                · rw [uM_eqi qe, uM_eqi qe]
                · rw [uM_nei qe, uM_nei qe, a4 _ (by omega)]
              · rw [uM_ne q, uM_ne q, a4 j hj]
          | false =>
            obtain ⟨R1, b1, b2⟩ := h.1.fail (F := F) hN.2 (mpo_le hr hN.2).1.2
            rw [yt0 hF (by omega) hN hT htk gpM q11, hcI_z, if_pos rfl, xw0 (k := 11) (c := 6447460) (by omega) rfl hN htk q11, ob_z, if_pos rfl, b1, pcI_z]
            exact Or.inr ⟨M, R1, w, rfl, rfl, b2⟩
end RD5
