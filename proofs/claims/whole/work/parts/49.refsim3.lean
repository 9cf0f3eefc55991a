/-! The pile: asking. -/
theorem opM_at {M : ZM} {n p s : Int} (hn : 0 ≤ n) : opM M n p s 1 = ua (M 1) (133 + p) (M 1 (133 + p) + 1) ∧ opM M n p s 0 26 = n + 1 ∧ opM M n p s 9 n = p ∧ opM M n p s 10 n = s ∧ opM M n p s 11 n = 0 ∧ opM M n p s 12 n = M 1 (133 + p) + 1 ∧ (∀ i, 0 ≤ i → i < 4 → opM M n p s 13 (4 * n + i) = 0) ∧ Sm M (opM M n p s) n := by
  unfold opM
  refine ⟨?_, ?_, ?_, ?_, ?_, ?_, ?_, ?_, ?_, ?_, ?_⟩
  · funext e
    simp (disch := omega) only [uM_ne]
    rw [uM_row, sR_eq]
  · rw [uM_eq]
  · simp (disch := omega) only [uM_ne, uM_eq]
  · simp (disch := omega) only [uM_ne, uM_eq]
  · simp (disch := omega) only [uM_ne, uM_eq]
  · simp (disch := omega) only [uM_ne, uM_eq]
  · intro i a b
    have : i = 0 ∨ i = 1 ∨ i = 2 ∨ i = 3 := by omega
    rcases this with rfl | rfl | rfl | rfl
    · simp (disch := omega) only [uM_ne, uM_nei, uM_eq]
    · simp (disch := omega) only [uM_ne, uM_nei, uM_eq]
    · simp (disch := omega) only [uM_ne, uM_nei, uM_eq]
    · simp (disch := omega) only [uM_ne, uM_nei, uM_eq]
  · intro e he
    rw [uM_nei he]
    simp (disch := omega) only [uM_ne]
  · intro j a b
    funext e
    simp (disch := omega) only [uM_ne]
  · intro j i a b c d
    have : j = 9 ∨ j = 10 ∨ j = 11 ∨ j = 12 := by omega
    rcases this with rfl | rfl | rfl | rfl
    · simp (disch := omega) only [uM_ne, uM_nei]
    · simp (disch := omega) only [uM_ne, uM_nei]
    · simp (disch := omega) only [uM_ne, uM_nei]
    · simp (disch := omega) only [uM_ne, uM_nei]
  · intro i a b
    simp (disch := omega) only [uM_ne, uM_nei]
theorem sR_sm {M : ZM} {A : Int → Int} {n : Int} : Sm M (sR M 1 A) n :=
  ⟨fun e _ => by rw [sR_ne (by omega)], fun j a b => sR_ne (by omega), fun j i a b _ _ => by rw [sR_ne (by omega)], fun i _ _ => by rw [sR_ne (by omega)]⟩
theorem mkM_at {M : ZM} {n : Int} : mkM M n 1 = addT (M 1) (M 9 n) (M 10 n) (fun k => M 13 (4 * n + k)) ∧ mkM M n 0 26 = n ∧ ∀ m, Sm M (mkM M n) m := by
  unfold mkM
  refine ⟨?_, ?_, fun m => ⟨?_, ?_, ?_, ?_⟩⟩
  · funext e
    rw [uM_ne (by omega), sR_eq]
  · rw [uM_eq]; omega
  · intro e he
    rw [uM_nei he, sR_ne (by omega)]
  · intro j a b
    funext e
    rw [uM_ne (by omega), sR_ne (by omega)]
  · intro j i a b _ _
    rw [uM_ne (by omega), sR_ne (by omega)]
  · intro i _ _
    rw [uM_ne (by omega), sR_ne (by omega)]
theorem x_fet {w : Int64} {F : Nat} {B : Int} (hF : 100 < F) (hB : B ≤ 1000000000) : ∀ d : Nat, FetSim F w B d
  | 0 => by
    intro M n sn f asked scope hPI hnd _ _ _ _ _
    have := nodup_le 12 (seg (M 9) n 0) hPI.2.2.2.1 (fun x hx => by
      rw [seg_mem] at hx
      obtain ⟨i, c1, c2, rfl⟩ := hx
      have h1 := hPI.2.2.2.2.1 i c1 (by omega)
      have h2 := hPI.1.1.1
      omega)
    rw [seg_len] at this
    omega
  | d + 1 => by
    have hsim := x_fet (w := w) (F := F) (B := B) hF hB d
    intro M n sn f asked scope hPI hnd hsn ha1 ha2 hs1 hs2
    obtain ⟨hFI, h26, h29, hnod, hr9, hr14⟩ := hPI
    obtain ⟨hP, hS, hT, hM⟩ := hFI
    have hc := hP.1
    have hm := hT.1
    have hp : 0 ≤ sPart (M 1) asked scope ∧ sPart (M 1) asked scope < M 1 0 := sSt_rng hS hc.2 ⟨ha1, ha2⟩ (scope + 1).toNat (by omega)
    have hop := x_opens (w := w) (F := F) (M := M) (asked := asked) (scope := scope) (n := n) (sn := sn) (f := f) hF (by omega) hsn hP hS hT ⟨ha1, ha2⟩ ⟨hs1, hs2⟩ h26 h29 (fun i a b => by have := hr9 i a b; omega) (fun j a b => by have := hr14 j a b; exact ⟨by omega, this.2⟩)
    unfold fetS
    generalize sPart (M 1) asked scope = p at *
    have hhome : 0 ≤ sHome (M 1) p scope ∧ sHome (M 1) p scope ≤ 4 := by unfold sHome; split <;> omega
    by_cases q1 : sIs (M 1) p scope ≠ -1
    · rw [if_pos q1] at hop ⊢
      have hir := sIs_rng (A := M 1) (p := p) (scope := scope) hm.1
      refine ⟨fun _ => ⟨0, M, by simp only; omega, fun K => ?_, rfl, h26, Sm.refl _ _⟩, fun q => absurd q (by simp only; omega)⟩
      rw [hop]
      rfl
    · rw [if_neg q1] at hop ⊢
      by_cases q2 : p ∈ seg (M 9) n 0
      · rw [if_pos q2] at hop ⊢
        refine ⟨fun q => absurd q (by simp only; omega), fun _ => ⟨1, sR M 1 (whyW (M 1) (-2) (seg f sn 0 ++ (seg (M 9) n 0 ++ [p]))), by simp only; omega, fun K => ?_, ?_, ?_⟩⟩
        · rw [hop, pcI_z]
          exact x_lpn (Or.inl rfl)
        · rw [sR_eq]
        · exact sR_sm
      · rw [if_neg q2] at hop ⊢
        by_cases q3 : M 1 206 = 60
        · rw [if_pos q3] at hop ⊢
          refine ⟨fun q => absurd q (by simp only; omega), fun _ => ⟨1, sR M 1 (whyW (M 1) (-4) (seg f sn 0 ++ (seg (M 9) n 0 ++ [p]))), by simp only; omega, fun K => ?_, ?_, ?_⟩⟩
          · rw [hop, pcI_z]
            exact x_lpn (Or.inr (Or.inr rfl))
          · rw [sR_eq]
          · exact sR_sm
        · rw [if_neg q3] at hop ⊢
          obtain ⟨o1, o26, o9, o10, o11, o12, o13, oS⟩ := opM_at (M := M) (n := (n : Int)) (p := p) (s := sHome (M 1) p scope) (by omega)
          generalize opM M (n : Int) p (sHome (M 1) p scope) = M1 at *
          have hn11 : n < 12 := by
            apply Classical.byContradiction
            intro hh
            exact q2 (full_mem hc.2 hnod (fun x hx => by
              rw [seg_mem] at hx
              obtain ⟨i, c1, c2, rfl⟩ := hx
              exact hr9 i c1 (by omega)) (by rw [seg_len]; omega) hp)
          have hx1 : Ext (M 1) (ua (M 1) (133 + p) (M 1 (133 + p) + 1)) := ua_ext (by omega)
          have hway : seg (M1 9) (n + 1) 0 = seg (M 9) n 0 ++ [p] := by
            rw [seg_snoc, seg_cong (f := M1 9) (g := M 9) n 0 (fun j c1 c2 => oS.2.2.1 9 j (by omega) (by omega) c1 (by omega)), show (0 : Int) + n = n by omega, o9]
          have hwl : (seg (M 9) n 0).length = n := seg_len _ _ _
          have hndw : (seg (M 9) n 0 ++ [p]).Nodup := by
            rw [List.nodup_append]
            exact ⟨hnod, by simp, fun a ha b hb => by
              rw [List.mem_singleton] at hb
              subst hb
              exact fun e => q2 (e ▸ ha)⟩
          have h61 : ua (M 1) (133 + p) (M 1 (133 + p) + 1) 206 = M 1 206 := ua_ne (by omega)
          have hFI1 : FI B (ua (M 1) (133 + p) (M 1 (133 + p) + 1)) (n + 1) := ⟨hx1.wfP hP, hx1.wfS hS, ua_wfT hT (by omega), fun i a b => by
            rw [h61]
            have := hM i a b
            by_cases e : i = p
            · subst e; rw [ua_eq]; omega
            · rw [ua_ne (by omega)]; omega⟩
          have hc1 : M1 1 0 = M 1 0 := by rw [o1]; exact hx1.1 0 (by omega)
          have hPI1 : PI B M1 (n + 1) sn f := by
            refine ⟨by rw [o1]; exact hFI1, by rw [o26]; omega, by rw [oS.1 29 (by omega)]; exact h29, by rw [hway]; exact hndw, fun i b1 b2 => ?_, fun j b1 b2 => ?_⟩
            · rw [hc1]
              by_cases e : i = n
              · subst e; rw [o9]; exact hp
              · rw [oS.2.2.1 9 i (by omega) (by omega) b1 (by omega)]; exact hr9 i b1 (by omega)
            · rw [oS.2.1 14 (by omega) (by omega)]
              obtain ⟨c1, c2⟩ := hr14 j b1 b2
              have e := hx1.2.2 (M 14 j) 0 c1.1 c1.2 (by omega) (by omega)
              rw [Int.add_zero] at e
              rw [o1, e, h61]
              exact ⟨c1, c2⟩
          have hwp := hP.2 p hp.1 hp.2
          have hmany := hwp.2.1
          have hgok := gatS_ok (c := M 1 0) (B := B) (n := n + 1) (p := p) (rec := fun q C => fetS d (seg (M 9) n 0 ++ [p]) q (sHome (M 1) p scope) C) (by
            have := fetS_ok (B := B) d (seg (M 9) n 0 ++ [p]) (M 1 0) (sHome (M 1) p scope) (by rw [List.length_append, hwl, List.length_singleton]; omega) hndw (fun x hx => by
              rcases List.mem_append.mp hx with h | h
              · rw [seg_mem] at h
                obtain ⟨i, c1, c2, rfl⟩ := h
                exact hr9 i c1 (by omega)
              · rw [List.mem_singleton] at h; subst h; exact hp) hc.2 hhome
            rw [List.length_append, hwl, List.length_singleton] at this
            exact this) hp (M 1 (1 + 11 * p + 2)).toNat 0 (fun _ => 0) _ hFI1 (by rw [hx1.1 0 (by omega)]) (by rw [hx1.1 _ (by omega)]; omega) (by omega) (fun i _ _ => ⟨Int.le_refl _, by rw [h61]; omega⟩)
          have hg := x_gat (w := w) (F := F) (B := B) (d := d) hF hsim (n := n) (sn := sn) (f := f) (p := p) (s := sHome (M 1) p scope) (turn := M 1 (133 + p) + 1) (way := seg (M 9) n 0 ++ [p]) (by omega) hsn hhome (M 1 (1 + 11 * p + 2)).toNat 0 (fun _ => 0) M1 F hPI1 hway o9 o10 o11 o12 o13 (by rw [o1, hx1.1 _ (by omega)]; omega) (by omega) (by omega)
          rw [o1] at hg
          obtain ⟨g1, g2, g3⟩ := hgok
          obtain ⟨s1, s2⟩ := hg
          rw [h61] at s1 s2
          generalize gatS (fun q C => fetS d (seg (M 9) n 0 ++ [p]) q (sHome (M 1) p scope) C) p (M 1 (1 + 11 * p + 2)).toNat 0 (fun _ => 0) (ua (M 1) (133 + p) (M 1 (133 + p) + 1)) = g at *
          have hopen : ∀ K, pcI (p_X11_opens F (zt asked) (zt scope) (LI M) w) (lpA F (K + 1)) = fixN (fun _ _ => none) (pb_X11_asks_72 F (lpA F K) (zt n)) F (LI M1) w := fun K => by
            rw [hop, pcI_z]
            exact x_lpo (by omega) o26
          unfold makS
          by_cases q4 : g.1 < 0
          · rw [if_pos q4]
            refine ⟨fun q => absurd q (by simp only; omega), fun _ => ?_⟩
            obtain ⟨cnt, M2, b1, b2, b3, b4⟩ := s2 q4
            exact ⟨cnt + 1, M2, by simp only; omega, fun K => (hopen (K + cnt)).trans (b2 K), b3, (oS.less (by omega)).trans b4⟩
          · rw [if_neg q4]
            obtain ⟨g4, g5⟩ := g2 (by omega)
            obtain ⟨cnt, M2, b1, b2, b3, b26, bS, b9, b10, b12, b13⟩ := s1 (by omega)
            have hm2 := g4.2.2.1.1
            have hx2 : Ext (M 1) g.2.2.2 := hx1.trans g1
            have hseg2 : seg (M2 9) (n + 1) 0 = seg (M 9) n 0 ++ [p] := by
              rw [← hway, seg_snoc, seg_snoc, seg_cong (f := M2 9) (g := M1 9) n 0 (fun j c1 c2 => bS.2.2.1 9 j (by omega) (by omega) c1 (by omega)), show (0 : Int) + n = n by omega, b9, o9]
            have hn1 : (((n + 1 : Nat) : Int) - 1) = n := by omega
            have hmk := x_makes (w := w) (F := F) (M := M2) (n := n + 1) (sn := sn) (f := f) hF (by omega) (by omega) hsn (by rw [b3]; exact g4.1) (by rw [b3]; exact g4.2.2.1) (by rw [b26]; omega) (by rw [bS.1 29 (by omega), oS.1 29 (by omega)]; exact h29)
              (by rw [hn1, b9, b3, hx2.1 0 (by omega)]; exact hp) (by rw [hn1, b12]; have := hM p (by omega) (by omega); omega) (fun j c1 c2 => by
                rw [bS.2.1 14 (by omega) (by omega), oS.2.1 14 (by omega) (by omega)]
                obtain ⟨d1, d2⟩ := hr14 j c1 c2
                have e := hx2.2.2 (M 14 j) 0 d1.1 d1.2 (by omega) (by omega)
                rw [Int.add_zero] at e
                rw [b3, e]
                exact ⟨by omega, d2⟩)
            rw [hn1, b9, b12, b3, hseg2] at hmk
            by_cases q5 : 0 < g.2.2.2 (1 + 11 * p + 9) ∧ M 1 (133 + p) + 1 = g.2.2.2 (1 + 11 * p + 9)
            · rw [if_pos q5] at hmk ⊢
              refine ⟨fun q => absurd q (by simp only; omega), fun _ => ⟨cnt + 2, sR M2 1 (whyW g.2.2.2 (-3) (seg f sn 0 ++ (seg (M 9) n 0 ++ [p]))), by simp only; omega, fun K => ?_, ?_, ?_⟩⟩
              · rw [show K + (cnt + 2) = (K + 1 + cnt) + 1 by omega, hopen, b2, hmk, pcI_z]
                exact x_lpn (Or.inr (Or.inl rfl))
              · rw [sR_eq]
              · exact ((oS.less (by omega)).trans (bS.less (by omega))).trans sR_sm
            · rw [if_neg q5] at hmk ⊢
              by_cases q6 : g.2.2.2 206 = 60
              · rw [if_pos q6] at hmk ⊢
                refine ⟨fun q => absurd q (by simp only; omega), fun _ => ⟨cnt + 2, sR M2 1 (whyW g.2.2.2 (-4) (seg f sn 0 ++ (seg (M 9) n 0 ++ [p]))), by simp only; omega, fun K => ?_, ?_, ?_⟩⟩
                · rw [show K + (cnt + 2) = (K + 1 + cnt) + 1 by omega, hopen, b2, hmk, pcI_z]
                  exact x_lpn (Or.inr (Or.inr rfl))
                · rw [sR_eq]
                · exact ((oS.less (by omega)).trans (bS.less (by omega))).trans sR_sm
              · rw [if_neg q6] at hmk ⊢
                obtain ⟨k1, k2, k3⟩ := mkM_at (M := M2) (n := (n : Int))
                have ha6 := (addT_at (A := g.2.2.2) (p := p) (s := sHome (M 1) p scope) (h := g.2.2.1) hm2.1).1
                refine ⟨fun _ => ⟨cnt + 1, mkM M2 n, by simp only; omega, fun K => ?_, ?_, k2, (oS.trans bS).trans (k3 _)⟩, fun q => absurd q (by simp only; omega)⟩
                · rw [show K + (cnt + 1) = (K + cnt) + 1 by omega, hopen, b2, hmk, pcI_z]
                · rw [k1, b3, b9, b10]
                  exact addT_cong b13
