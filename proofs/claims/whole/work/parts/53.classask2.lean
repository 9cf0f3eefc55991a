/-! The class asks. -/
section CR
variable {F : Nat} {lg : Nat → Nat → Int64} {b p m : Nat}
theorem y_fet {B : Int} (hF : 100 < F) (hB : B ≤ 1000000000) (hs : Sp b p m) (x : Nat) : ∀ d : Nat, ClsSim b p m lg B (cf F b p (d + x)) d
  | 0 => by
    intro M A way wf asked scope _ _ _ hFI hl hnod hr _ _ _ _ _ _ _ _ _
    have := nodup_le 12 way hnod (fun y hy => by have h1 := hr y hy; have h2 := hFI.1.1; omega)
    omega
  | d + 1 => by
    have hsim := y_fet (B := B) hF hB hs x d
    intro M A way wf asked scope hP hS hT hFI hl hnod hr h4 hwf1 hwf2 h3 hw ha1 ha2 hs1 hs2
    obtain ⟨s1, s2, s3⟩ := hs
    rw [show d + 1 + x = (d + x) + 1 by omega]
    show ∃ M1 : ZM, pg_X1_fetch F (cf F b p (d + x)) b p m (zt asked) (zt scope) (LI M) lg = _ ∧ _
    generalize cf F b p (d + x) = pf at hsim ⊢
    have hc := hFI.1.1
    have hm := hFI.2.2.1.1
    have hM := hFI.2.2.2
    have hp : 0 ≤ sPart A asked scope ∧ sPart A asked scope < A 0 := sSt_rng hFI.2.1 hc.2 ⟨ha1, ha2⟩ (scope + 1).toNat (by omega)
    have hres := y_resolve (F := F) (lg := lg) (M := M) (b := b) (p := p) (A := A) (i := asked) (s := scope) (by omega) (by omega) (by omega) hFI.2.1 hc.2 hS
    change p_X0_resolve F p b (zt asked) (zt scope) (LI M) lg = some (zt (sPart A asked scope)) at hres
    unfold fetS pg_X1_fetch
    rw [hres, ob_z]
    generalize sPart A asked scope = q at *
    have hpp := hP.2 q hp.1 hp.2
    have hwp := hFI.1.2 q hp.1 hp.2
    have hspan := hwp.2.2.2.2.1
    have hm3 : M (p + 3) q = A (1 + 11 * q + 8) := hpp.2.2.1
    have hm4 : M (p + 4) q = A (1 + 11 * q + 9) := hpp.2.2.2.1
    have hbrk := hwp.2.2.2.2.2.1
    have hir := sIs_rng (A := A) (p := q) (scope := scope) hm.1
    have hhome : 0 ≤ sHome A q scope ∧ sHome A q scope ≤ 4 := by unfold sHome; split <;> omega
    have hfind := y_find (F := F) (lg := lg) (M := M) (b := b) (A := A) (i := q) (s := sHome A q scope) (by omega) (by omega) hhome hFI.2.2.1 hc.2 hT
    have hcnt : M (b + 3) 0 = A 206 := hT.2.1
    have hpush := puM_at (M := M) (b := b) (p := p) (m := m) (x := q) (wf := wf) (n := way.length) h3 hwf1 ⟨s1, s2, s3⟩
    obtain ⟨u1, u2, u3, u4, u5, u6⟩ := hpush
    rw [hw] at u2
    have hrefuse : ∀ k : Int, k < 0 → ∃ M1 : ZM, hcI (p_X1_refuse F b p m (zt q) (zt k) (LI M) lg) (fun x sg lg => some (x, sg, lg)) = some (zt k, LI M1, lg) ∧ RT M1 b A ∧ CRr M M1 b m wf way (way ++ [q]) k := fun k hk => by
      have hl2 : (way ++ [q]).length = way.length + 1 := by simp
      refine ⟨puM M m q, ?_, hT.ext (fun j a c => u6 j (by omega)), u5, fun i a c => u3 i c, fun i a c => by rw [u4], fun h => absurd h (by omega), fun _ => ⟨by rw [u1, hl2]; omega, by rw [hl2]; exact u2⟩⟩
      rw [y_refuse (by omega)]
      rfl
    -- what a making comes to
    have hmake : ∃ M1 : ZM, pg_X1_make F pf b p m (zt q) (zt (sHome A q scope)) (LI M) lg = some (zt (if q ∈ way then ((-2, way ++ [q], A) : FR) else if A 206 = 60 then (-4, way ++ [q], A) else makS (way ++ [q]) q (sHome A q scope) (A (133 + q) + 1) (gatS (fun x C => fetS d (way ++ [q]) x (sHome A q scope) C) q (A (1 + 11 * q + 2)).toNat 0 (fun _ => 0) (ua A (133 + q) (A (133 + q) + 1)))).1, LI M1, lg) ∧
        RT M1 b (if q ∈ way then ((-2, way ++ [q], A) : FR) else if A 206 = 60 then (-4, way ++ [q], A) else makS (way ++ [q]) q (sHome A q scope) (A (133 + q) + 1) (gatS (fun x C => fetS d (way ++ [q]) x (sHome A q scope) C) q (A (1 + 11 * q + 2)).toNat 0 (fun _ => 0) (ua A (133 + q) (A (133 + q) + 1)))).2.2 ∧
        CRr M M1 b m wf way (if q ∈ way then ((-2, way ++ [q], A) : FR) else if A 206 = 60 then (-4, way ++ [q], A) else makS (way ++ [q]) q (sHome A q scope) (A (133 + q) + 1) (gatS (fun x C => fetS d (way ++ [q]) x (sHome A q scope) C) q (A (1 + 11 * q + 2)).toNat 0 (fun _ => 0) (ua A (133 + q) (A (133 + q) + 1)))).2.1 (if q ∈ way then ((-2, way ++ [q], A) : FR) else if A 206 = 60 then (-4, way ++ [q], A) else makS (way ++ [q]) q (sHome A q scope) (A (133 + q) + 1) (gatS (fun x C => fetS d (way ++ [q]) x (sHome A q scope) C) q (A (1 + 11 * q + 2)).toNat 0 (fun _ => 0) (ua A (133 + q) (A (133 + q) + 1)))).1 := by
      unfold pg_X1_make
      rw [LI_3, LI_4, h3, h4, zt_sub, gnm_z, show wf + (way.length : Int) - wf = way.length by omega]
      simp (disch := omega) only [zt_lit, zt_le, zt_neg]
      by_cases q0 : (12 : Int) ≤ way.length
      · have hmem : q ∈ way := full_mem hc.2 hnod hr (by omega) hp
        rw [if_pos q0, if_pos hmem]
        exact hrefuse (-2) (by omega)
      · rw [if_neg q0]
        have hway := y_isOnWay (F := F) (lg := lg) (M := M) (b := b) (p := p) (m := m) (x := q) (wf := wf) (n := way.length) (by omega) (by omega) h4 h3 ⟨hwf1, hwf2⟩ (by omega) (by rw [hw]; exact fun y hy => by have := hr y hy; omega)
        rw [hw] at hway
        rw [hway, ob_z]
        by_cases q2 : q ∈ way
        · rw [if_pos q2, if_pos q2, if_neg (by decide)]
          exact hrefuse (-2) (by omega)
        · rw [if_neg q2, if_neg q2, if_pos rfl]
          rw [y_isFull (by omega), ob_z, hcnt]
          by_cases q3 : A 206 = 60
          · rw [if_pos q3, if_pos q3, if_neg (by decide)]
            exact hrefuse (-4) (by omega)
          · rw [if_neg q3, if_neg q3, if_pos rfl]
            have hmd : M (b + 2) q = A (133 + q) := hT.1 q (by omega) (by omega)
            simp (disch := omega) only [mI_z, mS_z, ob_z, zt_add, hmd, uM_eq]
            -- made is counted, the part is pushed
            have hu : ∀ j, j ≠ b + 2 → uM M (b + 2) q (A (133 + q) + 1) j = M j := fun j hj => by funext e; rw [uM_ne hj]
            have v3 : uM M (b + 2) q (A (133 + q) + 1) m 3 = wf + way.length := by rw [hu m (by omega)]; exact h3
            obtain ⟨w1, w2, w3, w4, w5, w6⟩ := puM_at (M := uM M (b + 2) q (A (133 + q) + 1)) (b := b) (p := p) (m := m) (x := q) (wf := wf) (n := way.length) v3 hwf1 ⟨s1, s2, s3⟩
            rw [y_push (by omega), hcU_z]
            rw [hu (m + 1) (by omega), hw] at w2
            generalize hN : puM (uM M (b + 2) q (A (133 + q) + 1)) m q = N at *
            have hx1 : Ext A (ua A (133 + q) (A (133 + q) + 1)) := ua_ext (by omega)
            have h61 : ua A (133 + q) (A (133 + q) + 1) 206 = A 206 := ua_ne (by omega)
            have hFI1 : FI B (ua A (133 + q) (A (133 + q) + 1)) (way.length + 1) := ⟨hx1.wfP hFI.1, hx1.wfS hFI.2.1, ua_wfT hFI.2.2.1 (by omega), fun i a c => by
              rw [h61]
              have := hM i a c
              by_cases e : i = q
              · subst e; rw [ua_eq]; omega
              · rw [ua_ne (by omega)]; omega⟩
            have hNj : ∀ j, j ≠ b + 2 → (j < m ∨ m + 2 ≤ j) → N j = M j := fun j h1 h2 => by rw [w6 j h2, hu j h1]
            have hP1 : RP N p (ua A (133 + q) (A (133 + q) + 1)) := hP.ext hFI.1 (fun e he => hx1.1 e (by omega)) (fun j a c => hNj j (by omega) (by omega))
            have hS1 : RS N b (ua A (133 + q) (A (133 + q) + 1)) := hS.ext (fun e h1 h2 => hx1.1 e (by omega)) (fun j a c => hNj j (by omega) (by omega))
            have hT1 : RT N b (ua A (133 + q) (A (133 + q) + 1)) := by
              refine ⟨fun i a c => ?_, by rw [hNj (b + 3) (by omega) (by omega), h61]; exact hcnt, fun t a c => ?_⟩
              · rw [w6 (b + 2) (by omega)]
                by_cases e : i = q
                · subst e; rw [uM_eq, ua_eq]
                · rw [uM_nei e, ua_ne (by omega)]; exact hT.1 i a c
              · rw [h61] at c
                rw [hNj (b + 3 + 1) (by omega) (by omega), hNj (b + 3 + 2) (by omega) (by omega), hNj (b + 3 + 3) (by omega) (by omega), hNj (b + 3 + 4) (by omega) (by omega), hNj (b + 3 + 5) (by omega) (by omega), ua_ne (by omega), ua_ne (by omega), ua_ne (by omega), ua_ne (by omega)]
                obtain ⟨t1, t2, t3, t4, t5⟩ := hT.2.2 t a c
                exact ⟨t1, t2, t3, t4, fun k d1 d2 => by rw [ua_ne (by omega)]; exact t5 k d1 d2⟩
            have hlw : (way ++ [q]).length = way.length + 1 := by simp
            have hndw : (way ++ [q]).Nodup := by
              rw [List.nodup_append]
              exact ⟨hnod, by simp, fun a ha c hc => by
                rw [List.mem_singleton] at hc
                subst hc
                exact fun e => q2 (e ▸ ha)⟩
            have hrw : ∀ y ∈ way ++ [q], 0 ≤ y ∧ y < A 0 := fun y hy => by
              rcases List.mem_append.mp hy with h | h
              · exact hr y h
              · rw [List.mem_singleton] at h; subst h; exact hp
            have hgok := gatS_ok (c := A 0) (B := B) (n := way.length + 1) (p := q) (rec := fun x C => fetS d (way ++ [q]) x (sHome A q scope) C) (by
              have := fetS_ok (B := B) d (way ++ [q]) (A 0) (sHome A q scope) (by omega) hndw hrw hc.2 hhome
              rw [hlw] at this
              exact this) hp (A (1 + 11 * q + 2)).toNat 0 (fun _ => 0) _ hFI1 (by rw [hx1.1 0 (by omega)]) (by rw [hx1.1 _ (by omega)]; have := hwp.2.1; omega) (by omega) (fun i _ _ => ⟨Int.le_refl _, by rw [h61]; omega⟩)
            obtain ⟨M2, e1, e2, e3, e4, e5, e6, e7⟩ := y_gat (F := F) (lg := lg) (b := b) (p := p) (m := m) (B := B) (d := d) (pf := pf) (c := A 0) (q := q) (s := sHome A q scope) (wf := wf) (n := way.length) (way := way ++ [q]) hsim ⟨s1, s2, s3⟩ hlw (by omega) hndw hrw (by omega) ⟨hwf1, hwf2⟩ hp hc.2 hhome (A (1 + 11 * q + 2)).toNat 0 (fun _ => 0) (ua A (133 + q) (A (133 + q) + 1)) N F hP1 hS1 hT1 hFI1 (by rw [hx1.1 0 (by omega)]) (by rw [w5.2 4 (by omega), hu m (by omega)]; exact h4) w1 w2 (by rw [hx1.1 _ (by omega)]; have := hwp.2.1; omega) (by omega) (fun i _ _ => rfl) (fun i a c => by omega) (by omega)
            rw [show zt (way.length : Int) * zt 4 = zt (4 * way.length) by rw [zt_mul, Int.mul_comm]]
            unfold pg_X1_gather
            rw [show (0 : Int32) = zt 0 from rfl, e1, hcI_z]
            obtain ⟨g1, g2, g3⟩ := hgok
            generalize gatS (fun x C => fetS d (way ++ [q]) x (sHome A q scope) C) q (A (1 + 11 * q + 2)).toNat 0 (fun _ => 0) (ua A (133 + q) (A (133 + q) + 1)) = g at *
            have hFN : Fm M N b m := ⟨fun j a c => by rw [w6 j (by omega), hu j (by omega)], fun e he => by rw [w5.2 e he, hu m (by omega)]⟩
            have hF2 : Fm M M2 b m := hFN.trans e3
            have hrow : ∀ i, 0 ≤ i → i < wf + way.length → M2 (m + 1) i = M (m + 1) i := fun i a c => by rw [e4 i a (by omega), w3 i c, hu (m + 1) (by omega)]
            have hgth : ∀ i : Int, 0 ≤ i → i < 4 * (way.length : Int) → M2 (m + 2) i = M (m + 2) i := fun i a c => by rw [e5 i a c, w4, hu (m + 2) (by omega)]
            unfold makS
            by_cases q4 : g.1 < 0
            · have hg3 := (g3 q4).1
              simp only at hg3
              rw [if_pos q4, if_pos q4]
              simp (disch := omega) only [zt_neg, zt_le]
              rw [if_neg (by omega)]
              exact ⟨M2, rfl, e2, hF2, hrow, hgth, fun h => absurd h (by omega), fun _ => e7 q4⟩
            · rw [if_neg q4, if_neg q4]
              obtain ⟨g4, g5⟩ := g2 (by omega)
              obtain ⟨e8, e9⟩ := e6 (by omega)
              have hx2 : Ext A g.2.2.2 := hx1.trans g1
              have hm2 := g4.2.2.1.1
              have hb4 : M2 (p + 4) q = A (1 + 11 * q + 9) := by rw [hF2.1 (p + 4) (by omega) (by omega)]; exact hm4
              have hb9 : g.2.2.2 (1 + 11 * q + 9) = A (1 + 11 * q + 9) := hx2.1 _ (by omega)
              have hmq := hM q (by omega) (by omega)
              have hseg2 : seg (M2 (m + 1)) (way ++ [q]).length wf = way ++ [q] := by
                rw [hlw, ← w2]
                exact seg_cong _ _ (fun i a c => e4 i (by omega) (by omega))
              have hc2 : M2 (b + 3) 0 = g.2.2.2 206 := e2.2.1
              have h32 : M2 m 3 = wf + way.length + 1 := by rw [e8]; exact w1
              simp (disch := omega) only [zt_neg, zt_le, mI_z, ob_z, hb4, zt_eq]
              rw [if_pos (by omega), hb9]
              by_cases q5 : A (133 + q) + 1 = A (1 + 11 * q + 9)
              · rw [if_pos q5, if_pos ⟨by omega, q5⟩]
                exact ⟨M2, rfl, e2, hF2, hrow, hgth, fun h => absurd h (by simp only; omega), fun _ => ⟨by rw [h32, hlw]; omega, hseg2⟩⟩
              · rw [if_neg q5, if_neg (fun h => q5 h.2), y_isFull (by omega), ob_z, hc2]
                by_cases q6 : g.2.2.2 206 = 60
                · rw [if_pos q6, if_pos q6, if_neg (by decide)]
                  exact ⟨M2, rfl, e2, hF2, hrow, hgth, fun h => absurd h (by simp only; omega), fun _ => ⟨by rw [h32, hlw]; omega, hseg2⟩⟩
                · rw [if_neg q6, if_neg q6, if_pos rfl, y_pop (by omega), hcU_z]
                  have hp3 : ∀ j, j ≠ m → uM M2 m 3 (M2 m 3 - 1) j = M2 j := fun j hj => by funext e; rw [uM_ne hj]
                  have hT3 : RT (uM M2 m 3 (M2 m 3 - 1)) b g.2.2.2 := e2.ext (fun j a c => hp3 j (by omega))
                  rw [y_add (by omega) ⟨s1, s2, s3⟩ (by rw [hp3 (b + 3) (by omega)]; omega) (by omega), hcI_z, hp3 (b + 3) (by omega), hc2]
                  refine ⟨_, rfl, adM_rt ⟨s1, s2, s3⟩ hT3 (by omega) (fun k a c => by rw [hp3 (m + 2) (by omega)]; exact e9 k a c), ?_, fun i a c => ?_, fun i a c => ?_, fun _ => ?_, fun h => absurd h (by simp only; omega)⟩
                  · refine hF2.trans ⟨fun j a c => by rw [adM_out (by omega), hp3 j (by omega)], fun e he => by rw [adM_out (by omega), uM_nei he]⟩
                  · rw [adM_out (by omega), hp3 _ (by omega)]; exact hrow i a c
                  · rw [adM_out (by omega), hp3 _ (by omega)]; exact hgth i a c
                  · rw [adM_out (by omega), uM_eq, h32, h3]; omega
    simp (disch := omega) only [zt_lit, mI_z, ob_z, hm3, zt_eq]
    have e56 : ∀ s0 : Int, -1 ≤ s0 ∧ s0 < 60 → s0 = sIs A q scope → ∃ M1 : ZM, pk_X1_fetch_56 F pf b p m (zt q) (zt (sHome A q scope)) (zt s0) (LI M) lg = some (zt (if sIs A q scope ≠ -1 then ((sIs A q scope, [], A) : FR) else if q ∈ way then (-2, way ++ [q], A) else if A 206 = 60 then (-4, way ++ [q], A) else makS (way ++ [q]) q (sHome A q scope) (A (133 + q) + 1) (gatS (fun x C => fetS d (way ++ [q]) x (sHome A q scope) C) q (A (1 + 11 * q + 2)).toNat 0 (fun _ => 0) (ua A (133 + q) (A (133 + q) + 1)))).1, LI M1, lg) ∧
        RT M1 b (if sIs A q scope ≠ -1 then ((sIs A q scope, [], A) : FR) else if q ∈ way then (-2, way ++ [q], A) else if A 206 = 60 then (-4, way ++ [q], A) else makS (way ++ [q]) q (sHome A q scope) (A (133 + q) + 1) (gatS (fun x C => fetS d (way ++ [q]) x (sHome A q scope) C) q (A (1 + 11 * q + 2)).toNat 0 (fun _ => 0) (ua A (133 + q) (A (133 + q) + 1)))).2.2 ∧
        CRr M M1 b m wf way (if sIs A q scope ≠ -1 then ((sIs A q scope, [], A) : FR) else if q ∈ way then (-2, way ++ [q], A) else if A 206 = 60 then (-4, way ++ [q], A) else makS (way ++ [q]) q (sHome A q scope) (A (133 + q) + 1) (gatS (fun x C => fetS d (way ++ [q]) x (sHome A q scope) C) q (A (1 + 11 * q + 2)).toNat 0 (fun _ => 0) (ua A (133 + q) (A (133 + q) + 1)))).2.1 (if sIs A q scope ≠ -1 then ((sIs A q scope, [], A) : FR) else if q ∈ way then (-2, way ++ [q], A) else if A 206 = 60 then (-4, way ++ [q], A) else makS (way ++ [q]) q (sHome A q scope) (A (133 + q) + 1) (gatS (fun x C => fetS d (way ++ [q]) x (sHome A q scope) C) q (A (1 + 11 * q + 2)).toNat 0 (fun _ => 0) (ua A (133 + q) (A (133 + q) + 1)))).1 := by
      intro s0 hs0 es
      unfold pk_X1_fetch_56
      simp (disch := omega) only [zt_lit, zt_neg, zt_eq]
      by_cases q1 : s0 = -1
      · rw [if_pos q1, if_neg (show ¬ (sIs A q scope ≠ -1) from fun h => h (es ▸ q1))]
        obtain ⟨M1, k1, k2, k3⟩ := hmake
        exact ⟨M1, by rw [k1]; rfl, k2, k3⟩
      · rw [if_neg q1, if_pos (show sIs A q scope ≠ -1 from fun h => q1 (es ▸ h)), es]
        exact ⟨M, rfl, hT, Fm.refl _ _ _, fun _ _ _ => rfl, fun _ _ _ => rfl, fun _ => rfl, fun h => absurd h (by simp only; omega)⟩
    have e34 : pk_X1_fetch_34 F pf b p m (zt q) (zt (A (1 + 11 * q + 8))) (zt (sHome A q scope)) (LI M) lg = pk_X1_fetch_56 F pf b p m (zt q) (zt (sHome A q scope)) (zt (sIs A q scope)) (LI M) lg := by
      unfold pk_X1_fetch_34
      simp (disch := omega) only [zt_lit, zt_neg, zt_eq, hfind, ob_z]
      by_cases h2 : A (1 + 11 * q + 8) = 2
      · rw [if_pos h2, show sIs A q scope = -1 from if_pos h2]
      · rw [if_neg h2, show sIs A q scope = _ from if_neg h2]
    have hfin := e56 (sIs A q scope) (by omega) rfl
    rw [← e34] at hfin
    by_cases h0 : A (1 + 11 * q + 8) = 0
    · rw [if_pos h0]
      have eh : sHome A q scope = 0 := if_pos h0
      rw [eh] at hfin ⊢
      exact hfin
    · rw [if_neg h0]
      have eh : sHome A q scope = scope := if_neg h0
      rw [eh] at hfin ⊢
      exact hfin
end CR
