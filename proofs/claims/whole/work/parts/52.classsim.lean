/-! The class asks as the recursion says. -/
abbrev CT5 : Type := Nat → Int32 → Int32 → (Nat → Nat → Int32) → (Nat → Nat → Int64) → Option (Int32 × (Nat → Nat → Int32) × (Nat → Nat → Int64))
def cf (F b p D : Nat) : CT5 := fixN (fun _ _ _ _ _ => none) (fun pf => pg_X1_fetch F pf b p) D
def CRr (M M1 : ZM) (b m : Nat) (wf : Int) (way why : List Int) (r1 : Int) : Prop := Fm M M1 b m ∧ (∀ i, 0 ≤ i → i < wf + way.length → M1 (m + 1) i = M (m + 1) i) ∧ (∀ i : Int, 0 ≤ i → i < 4 * (way.length : Int) → M1 (m + 2) i = M (m + 2) i) ∧ (0 ≤ r1 → M1 m 3 = M m 3) ∧ (r1 < 0 → M1 m 3 = wf + why.length ∧ seg (M1 (m + 1)) why.length wf = why)
def ClsSim (b p m : Nat) (lg : Nat → Nat → Int64) (B : Int) (cfn : CT5) (d : Nat) : Prop := ∀ (M : ZM) (A : Int → Int) (way : List Int) (wf asked scope : Int), RP M p A → RS M b A → RT M b A → FI B A way.length → way.length + d = 13 → way.Nodup → (∀ x ∈ way, 0 ≤ x ∧ x < A 0) → M m 4 = wf → 0 ≤ wf → wf ≤ 60 → M m 3 = wf + way.length → seg (M (m + 1)) way.length wf = way → 0 ≤ asked → asked < A 0 → 0 ≤ scope → scope ≤ 4 →
  ∃ M1 : ZM, cfn m (zt asked) (zt scope) (LI M) lg = some (zt (fetS d way asked scope A).1, LI M1, lg) ∧ RT M1 b (fetS d way asked scope A).2.2 ∧ CRr M M1 b m wf way (fetS d way asked scope A).2.1 (fetS d way asked scope A).1
section CR
variable {F : Nat} {lg : Nat → Nat → Int64} {b p m : Nat}
theorem adM_out {M : ZM} {q s base : Int} {j : Nat} (h : j < b + 3 ∨ b + 9 ≤ j) : adM M b m q s base j = M j := by
  unfold adM
  funext e
  simp (disch := omega) only [uM_ne]
theorem adM_rt {M : ZM} {A : Int → Int} {q s base : Int} {h : Int → Int} (hs : Sp b p m) (hR : RT M b A) (hm : 0 ≤ A 206 ∧ A 206 < 60) (hg : ∀ k, 0 ≤ k → k < 4 → M (m + 2) (base + k) = h k - 1) : RT (adM M b m q s base) b (addT A q s h) := by
  obtain ⟨s1, s2, s3⟩ := hs
  obtain ⟨a1, a2, a3, a4, a5, a6⟩ := addT_at (A := A) (p := q) (s := s) (h := h) hm.1
  refine ⟨fun i c1 c2 => ?_, ?_, fun t c1 c2 => ?_⟩
  · rw [adM_out (by omega), addT_out (by omega) (by omega)]
    exact hR.1 i c1 c2
  · unfold adM
    rw [uM_eq, a1, hR.2.1]
  · have g0 := hg 0 (by omega) (by omega)
    have g1 := hg 1 (by omega) (by omega)
    have g2 := hg 2 (by omega) (by omega)
    have g3 := hg 3 (by omega) (by omega)
    unfold adM
    rw [hR.2.1, g0, g1, g2, g3]
    by_cases e : t = A 206
    · subst e
      rw [a2, a3, a4, a5]
      refine ⟨?_, ?_, ?_, ?_, fun k d1 d2 => ?_⟩
      · simp (disch := omega) only [uM_ne, uM_eq]
      · simp (disch := omega) only [uM_ne, uM_eq]
      · simp (disch := omega) only [uM_ne, uM_eq]
      · simp (disch := omega) only [uM_ne, uM_eq]
      · rw [a6 k d1 d2]
        have : k = 0 ∨ k = 1 ∨ k = 2 ∨ k = 3 := by omega
        rcases this with rfl | rfl | rfl | rfl
        · simp (disch := omega) only [uM_ne, uM_nei, uM_eq]
        · simp (disch := omega) only [uM_ne, uM_nei, uM_eq]
        · simp (disch := omega) only [uM_ne, uM_nei, uM_eq]
        · simp (disch := omega) only [uM_ne, uM_nei, uM_eq]
    · have hx := addT_ext (A := A) (p := q) (s := s) (h := h) hm
      have e0 := hx.2.2 t 0 c1 (by omega) (by omega) (by omega)
      rw [Int.add_zero] at e0
      rw [e0, hx.2.2 t 1 c1 (by omega) (by omega) (by omega), hx.2.2 t 2 c1 (by omega) (by omega) (by omega), hx.2.2 t 3 c1 (by omega) (by omega) (by omega)]
      obtain ⟨r1, r2, r3, r4, r5⟩ := hR.2.2 t c1 (by omega)
      refine ⟨?_, ?_, ?_, ?_, fun k d1 d2 => ?_⟩
      · simp (disch := omega) only [uM_ne, uM_nei, r1]
      · simp (disch := omega) only [uM_ne, uM_nei, r2]
      · simp (disch := omega) only [uM_ne, uM_nei, r3]
      · simp (disch := omega) only [uM_ne, uM_nei, r4]
      · rw [hx.2.2 t (4 + k) c1 (by omega) (by omega) (by omega), ← r5 k d1 d2]
        simp (disch := omega) only [uM_ne, uM_nei]
theorem y_gat0 {pf : CT5} {q base : Int} {v2 : Int32} (hq : 0 ≤ q ∧ q < 12) (hb : 0 ≤ base ∧ base + 4 ≤ 48) (hs : Sp b p m) : ∀ (c : Nat) (k : Int) (M : ZM) (G : Nat), k + c = 4 → 0 ≤ M (p + 6) q ∧ M (p + 6) q ≤ k → c < G →
    ∃ M1 : ZM, fixN (fun _ _ _ => none) (pb_X1_gather_12 F pf b p m (zt q) v2 (zt base)) G (zt k) (LI M) lg = some (zt (-1), LI M1, lg) ∧ (∀ j, j ≠ m + 2 → M1 j = M j) ∧ (∀ i, (i < base + k ∨ base + 4 ≤ i) → M1 (m + 2) i = M (m + 2) i) ∧ ∀ i, k ≤ i → i < 4 → M1 (m + 2) (base + i) = -1
  | c, k, M, 0, _, _, h => by omega
  | 0, k, M, G + 1, hk, hm, _ => by
    refine ⟨M, ?_, fun _ _ => rfl, fun _ _ => rfl, fun i a c => by omega⟩
    rw [fix_succ]
    generalize fixN (fun _ _ _ => none) (pb_X1_gather_12 F pf b p m (zt q) v2 (zt base)) G = r
    unfold pb_X1_gather_12
    simp (disch := omega) only [zt_lit, zt_le, zt_neg]
    rw [if_pos (by omega)]
  | c + 1, k, M, G + 1, hk, hm, hG => by
    obtain ⟨s1, s2, s3⟩ := hs
    obtain ⟨M1, i1, i2, i3, i4⟩ := y_gat0 (pf := pf) (q := q) (base := base) (v2 := v2) hq hb ⟨s1, s2, s3⟩ c (k + 1) (uM M (m + 2) (base + k) (-1)) G (by omega) (by rw [uM_ne (by omega)]; omega) (by omega)
    refine ⟨M1, ?_, fun j hj => by rw [i2 j hj]; funext e; rw [uM_ne hj], fun i hi => by rw [i3 i (by omega), uM_nei (by omega)], fun i a c => ?_⟩
    · rw [fix_succ]
      generalize fixN (fun _ _ _ => none) (pb_X1_gather_12 F pf b p m (zt q) v2 (zt base)) G = r at i1 ⊢
      unfold pb_X1_gather_12 pk_X1_gather_71
      simp (disch := omega) only [zt_lit, zt_le, zt_neg, mI_z, ob_z, zt_add, mS_z]
      rw [if_neg (by omega), if_pos (by omega)]
      exact i1
    · by_cases e : i = k
      · subst e
        rw [i3 _ (by omega), uM_eq]
      · exact i4 i (by omega) c
theorem y_gat {B : Int} {d : Nat} {pf : CT5} {c q s wf : Int} {n : Nat} {way : List Int} (hsim : ClsSim b p m lg B pf d) (hs : Sp b p m) (hl : way.length = n + 1) (hd : n + 1 + d = 13) (hnod : way.Nodup) (hr : ∀ x ∈ way, 0 ≤ x ∧ x < c) (hn : n < 12) (hwf : 0 ≤ wf ∧ wf ≤ 60) (hq : 0 ≤ q ∧ q < c) (hc : c ≤ 12) (hsc : 0 ≤ s ∧ s ≤ 4) :
    ∀ (j : Nat) (k : Int) (h C : Int → Int) (M : ZM) (G : Nat), RP M p C → RS M b C → RT M b C → FI B C (n + 1) → C 0 = c → M m 4 = wf → M m 3 = wf + n + 1 → seg (M (m + 1)) (n + 1) wf = way → C (1 + 11 * q + 2) = k + j → 0 ≤ k → (∀ i, k ≤ i → i < 4 → h i = 0) → (∀ i, 0 ≤ i → i < k → M (m + 2) (4 * n + i) = h i - 1) → 4 - k < G →
    ∃ M1 : ZM, fixN (fun _ _ _ => none) (pb_X1_gather_12 F pf b p m (zt q) (zt s) (zt (4 * n))) G (zt k) (LI M) lg = some (zt (if (gatS (fun x C => fetS d way x s C) q j k h C).1 < 0 then (gatS (fun x C => fetS d way x s C) q j k h C).1 else -1), LI M1, lg) ∧ RT M1 b (gatS (fun x C => fetS d way x s C) q j k h C).2.2.2 ∧ Fm M M1 b m ∧ (∀ i, 0 ≤ i → i < wf + n + 1 → M1 (m + 1) i = M (m + 1) i) ∧ (∀ i : Int, 0 ≤ i → i < 4 * (n : Int) → M1 (m + 2) i = M (m + 2) i) ∧
      (0 ≤ (gatS (fun x C => fetS d way x s C) q j k h C).1 → M1 m 3 = M m 3 ∧ ∀ i, 0 ≤ i → i < 4 → M1 (m + 2) (4 * n + i) = (gatS (fun x C => fetS d way x s C) q j k h C).2.2.1 i - 1) ∧
      ((gatS (fun x C => fetS d way x s C) q j k h C).1 < 0 → M1 m 3 = wf + (gatS (fun x C => fetS d way x s C) q j k h C).2.1.length ∧ seg (M1 (m + 1)) (gatS (fun x C => fetS d way x s C) q j k h C).2.1.length wf = (gatS (fun x C => fetS d way x s C) q j k h C).2.1)
  | 0, k, h, C, M, G, hP, hS, hT, hF, h0, h4, h3, hw, hk, hk0, hh, hg, hG => by
    obtain ⟨s1, s2, s3⟩ := hs
    have hmany := (hF.1.2 q hq.1 (by omega)).2.1
    have hm6 : M (p + 6) q = C (1 + 11 * q + 2) := (hP.2 q hq.1 (by omega)).2.2.2.2.2.1
    obtain ⟨M1, e1, e2, e3, e4⟩ := y_gat0 (F := F) (lg := lg) (b := b) (p := p) (m := m) (pf := pf) (q := q) (base := 4 * n) (v2 := zt s) (by omega) (by omega) ⟨s1, s2, s3⟩ (4 - k).toNat k M G (by omega) (by omega) (by omega)
    refine ⟨M1, ?_, hT.ext (fun j a c => e2 j (by omega)), ⟨fun j a c => e2 j (by omega), fun e he => by rw [e2 m (by omega)]⟩, fun i a c => by rw [e2 _ (by omega)], fun i a c => e3 i (by omega), fun _ => ⟨by rw [e2 m (by omega)], fun i a c => ?_⟩, fun q => absurd q (by simp only [gatS]; omega)⟩
    · rw [e1]
      rfl
    · show _ = h i - 1
      by_cases e : i < k
      · rw [e3 _ (by omega)]; exact hg i a e
      · rw [e4 i (by omega) c, hh i (by omega) c]; rfl
  | j + 1, k, h, C, M, 0, hP, hS, hT, hF, h0, h4, h3, hw, hk, hk0, hh, hg, hG => by
    have hmany := (hF.1.2 q hq.1 (by omega)).2.1
    omega
  | j + 1, k, h, C, M, G + 1, hP, hS, hT, hF, h0, h4, h3, hw, hk, hk0, hh, hg, hG => by
    obtain ⟨s1, s2, s3⟩ := hs
    have hwp := hF.1.2 q hq.1 (by omega)
    have hmany := hwp.2.1
    have hlz := hwp.2.2.2.1
    have hpp := hP.2 q hq.1 (by omega)
    have hm6 : M (p + 6) q = C (1 + 11 * q + 2) := hpp.2.2.2.2.2.1
    have hm7 : M (p + 7) q = C (1 + 11 * q + 7) := hpp.2.2.2.2.2.2.1
    have hm8 : M (p + 8) (q * 4 + k) = C (1 + 11 * q + (3 + k)) := hpp.2.2.2.2.2.2.2 k hk0 (by omega)
    rw [fix_succ]
    unfold gatS
    by_cases q1 : lz (C (1 + 11 * q + 7)) k = true
    · rw [if_pos q1]
      have hm : ∀ j, j ≠ m + 2 → uM M (m + 2) (4 * (n : Int) + k) (-1) j = M j := fun j hj => by funext e; rw [uM_ne hj]
      obtain ⟨M1, i1, i2, i3, i4, i5, i6, i7⟩ := y_gat hsim ⟨s1, s2, s3⟩ hl hd hnod hr hn hwf hq hc hsc j (k + 1) h C (uM M (m + 2) (4 * n + k) (-1)) G (hP.ext hF.1 (fun _ _ => rfl) (fun j a c => hm j (by omega))) (hS.ext (fun _ _ _ => rfl) (fun j a c => hm j (by omega))) (hT.ext (fun j a c => hm j (by omega))) hF h0 (by rw [hm m (by omega)]; exact h4) (by rw [hm m (by omega)]; exact h3) (by rw [hm _ (by omega)]; exact hw) (by omega) (by omega) (fun i a c => hh i (by omega) c) (fun i a c => by
          by_cases e : i = k
          · subst e; rw [uM_eq, hh i (by omega) (by omega)]; rfl
          · rw [uM_nei (by omega)]; exact hg i a (by omega)) (by omega)
      refine ⟨M1, ?_, i2, Fm.trans ⟨fun j a c => hm j (by omega), fun e he => by rw [hm m (by omega)]⟩ i3, fun i a c => by rw [i4 i a c, hm _ (by omega)], fun i a c => by rw [i5 i a c, uM_nei (by omega)], fun z => ?_, i7⟩
      · generalize fixN (fun _ _ _ => none) (pb_X1_gather_12 F pf b p m (zt q) (zt s) (zt (4 * (n : Int)))) G = r at i1 ⊢
        unfold pb_X1_gather_12 pk_X1_gather_71
        have he := y_isEager (F := F) (lg := lg) (M := M) (p := p) (i := q) (k := k) (by omega) (by omega) (by rw [hm7]; exact hlz)
        rw [hm7, if_pos q1] at he
        simp (disch := omega) only [zt_lit, zt_le, zt_eq, zt_neg, mI_z, ob_z, zt_add, mS_z, he, hm6]
        rw [if_neg (by omega), if_neg (by omega), if_pos trivial]
        exact i1
      · have := i6 z
        rw [hm m (by omega)] at this
        exact this
    · rw [if_neg q1]
      have hnd := hwp.2.2.1 k hk0 (by omega)
      have hok := fetS_ok (B := B) d way c s (by omega) hnod hr hc hsc
      rw [hl] at hok
      obtain ⟨r1, r2, r3⟩ := hok (C (1 + 11 * q + (3 + k))) C h0 hF hnd.1 (by omega)
      obtain ⟨M1, f1, f2, f3⟩ := hsim M C way wf (C (1 + 11 * q + (3 + k))) s hP hS hT (by rw [hl]; exact hF) (by omega) hnod (by rw [h0]; exact hr) h4 hwf.1 hwf.2 (by rw [h3, hl]; omega) (by rw [hl]; exact hw) hnd.1 hnd.2 hsc.1 hsc.2
      simp only at r1 r2 r3 ⊢
      obtain ⟨c1, c2, c3, c4, c5⟩ := f3
      rw [hl] at c2 c3
      generalize fetS d way (C (1 + 11 * q + (3 + k))) s C = r at *
      have he := y_isEager (F := F) (lg := lg) (M := M) (p := p) (i := q) (k := k) (by omega) (by omega) (by rw [hm7]; exact hlz)
      rw [hm7, if_neg q1] at he
      by_cases q2 : r.1 < 0
      · rw [if_pos q2]
        refine ⟨M1, ?_, f2, c1, fun i a c => c2 i a (by omega), fun i a c => c3 i a (by omega), fun z => absurd z (by simp only; omega), fun _ => c5 q2⟩
        generalize fixN (fun _ _ _ => none) (pb_X1_gather_12 F pf b p m (zt q) (zt s) (zt (4 * (n : Int)))) G = r'
        have hr3 := (r3 q2).1
        unfold pb_X1_gather_12
        simp (disch := omega) only [zt_lit, zt_le, zt_eq, mI_z, ob_z, zt_add, zt_mul, he, hm6, hm8, f1, hcI_z]
        rw [if_neg (by omega), if_neg (by omega), if_neg (by omega), if_neg (by omega), if_pos q2]
      · rw [if_neg q2]
        obtain ⟨r4, r5⟩ := r2 (by omega)
        have hm2 := r5.2.2.1.1
        have hm : ∀ j, j ≠ m + 2 → uM M1 (m + 2) (4 * (n : Int) + k) r.1 j = M1 j := fun j hj => by funext e; rw [uM_ne hj]
        have hP1 : RP M1 p r.2.2 := hP.ext hF.1 (fun e he => r1.1 e (by omega)) (fun j a c => c1.1 j (by omega) (by omega))
        have hS1 : RS M1 b r.2.2 := hS.ext (fun e h1 h2 => r1.1 e (by omega)) (fun j a c => c1.1 j (by omega) (by omega))
        obtain ⟨M2, i1, i2, i3, i4, i5, i6, i7⟩ := y_gat hsim ⟨s1, s2, s3⟩ hl hd hnod hr hn hwf hq hc hsc j (k + 1) (ua h k (r.1 + 1)) r.2.2 (uM M1 (m + 2) (4 * n + k) r.1) G (hP1.ext r5.1 (fun _ _ => rfl) (fun j a c => hm j (by omega))) (hS1.ext (fun _ _ _ => rfl) (fun j a c => hm j (by omega))) (f2.ext (fun j a c => hm j (by omega))) r5 ((r1.1 0 (by omega)).trans h0) (by rw [hm m (by omega), c1.2 4 (by omega)]; exact h4) (by rw [hm m (by omega), c4 (by omega)]; exact h3) (by
            rw [hm _ (by omega), ← hw]
            exact seg_cong _ _ (fun i a c => c2 i (by omega) (by omega))) (by rw [r1.1 _ (by omega)]; omega) (by omega) (fun i a c => by rw [ua_ne (by omega)]; exact hh i (by omega) c) (fun i a c => by
            by_cases e : i = k
            · subst e; rw [uM_eq, ua_eq]; omega
            · rw [uM_nei (by omega), ua_ne e, c3 _ (by omega) (by omega)]; exact hg i a (by omega)) (by omega)
        refine ⟨M2, ?_, i2, (c1.trans ⟨fun j a c => hm j (by omega), fun e he => by rw [hm m (by omega)]⟩).trans i3, fun i a c => by rw [i4 i a c, hm _ (by omega), c2 i a (by omega)], fun i a c => by rw [i5 i a c, uM_nei (by omega), c3 i a (by omega)], fun z => ?_, i7⟩
        · generalize fixN (fun _ _ _ => none) (pb_X1_gather_12 F pf b p m (zt q) (zt s) (zt (4 * (n : Int)))) G = r' at i1 ⊢
          unfold pb_X1_gather_12
          simp (disch := omega) only [zt_lit, zt_le, zt_eq, mI_z, ob_z, zt_add, zt_mul, he, hm6, hm8, f1, hcI_z]
          rw [if_neg (by omega), if_neg (by omega), if_neg (by omega), if_pos (by omega)]
          unfold pk_X1_gather_71
          simp (disch := omega) only [zt_lit, zt_add, mS_z, ob_z]
          exact i1
        · have := i6 z
          rw [hm m (by omega), c4 (by omega)] at this
          exact this
end CR
