/-! The class reckons as the recursion. -/
abbrev CT4 : Type := Nat → Int32 → (Nat → Nat → Int32) → (Nat → Nat → Int64) → Option (Int32 × (Nat → Nat → Int32) × (Nat → Nat → Int64))
def cr (F b p D : Nat) : CT4 := fixN (fun _ _ _ _ => none) (fun pf => pg_X1_reckon F pf b p) D
def ClsRec (b p m : Nat) (B : Int) (crn : CT4) (d : Nat) : Prop := ∀ (M : ZM) (lg : Nat → Nat → Int64) (A : Int → Int) (sums prs : List Int) (t : Int), RP M p A → RS M b A → RT M b A → FI B A 0 → sums.length + d = 61 → prs.length = sums.length → sums.Nodup → (∀ x ∈ sums, 0 ≤ x ∧ x < A 206) → M m 3 = sums.length → seg (M (m + 1)) sums.length 0 = prs → BitsOK (lg m 5) sums → 0 ≤ t → t < A 206 →
  ∃ (M1 : ZM) (lg1 : Nat → Nat → Int64), crn m (zt t) (LI M) lg = some (zt (recS d sums prs t A).1, LI M1, lg1) ∧ RT M1 b (recS d sums prs t A).2.2 ∧ FmR M M1 b m ∧ LgR lg lg1 m ∧ (¬ (recS d sums prs t A).1 < 0 → M1 m 3 = sums.length ∧ (∀ i, 0 ≤ i → i < (sums.length : Int) → M1 (m + 1) i = M (m + 1) i) ∧ BitsOK (lg1 m 5) sums) ∧ ((recS d sums prs t A).1 < 0 → M1 m 3 = (recS d sums prs t A).2.1.length ∧ seg (M1 (m + 1)) (recS d sums prs t A).2.1.length 0 = (recS d sums prs t A).2.1)
theorem seg_app (f : Int → Int) : ∀ (n : Nat) (k : Nat) (i : Int), seg f (n + k) i = seg f n i ++ seg f k (i + n)
  | 0, k, i => by simp [seg]
  | n + 1, k, i => by
    rw [show n + 1 + k = (n + k) + 1 by omega, seg, seg_app f n k (i + 1), seg, List.cons_append, show i + 1 + (n : Int) = i + ((n + 1 : Nat) : Int) by omega]
theorem RP.extR {M M1 : ZM} {b m p : Nat} {A A1 : Int → Int} (h : RP M p A) (hw : wfP A) (hx : ExtR A A1) (hf : FmR M M1 b m) (hs : Sp b p m) : RP M1 p A1 := by
  obtain ⟨s1, s2, s3⟩ := hs
  exact h.ext hw (fun e he => hx.1 e (by omega)) (fun j a c => hf.1 j (by omega) (by omega))
theorem RS.extR {M M1 : ZM} {b m p : Nat} {A A1 : Int → Int} (h : RS M b A) (hx : ExtR A A1) (hf : FmR M M1 b m) (hs : Sp b p m) : RS M1 b A1 := by
  obtain ⟨s1, s2, s3⟩ := hs
  exact h.ext (fun e h1 h2 => hx.1 e (by omega)) (fun j a c => hf.1 j (by omega) (by omega))
section CR
variable {F : Nat} {b p m : Nat}
theorem y_recL {B : Int} {d : Nat} {pf : CT4} {sums pre : List Int} {t q N : Int} {bit : Int64} (hF : 100 < F) (hB : B ≤ 1000000000) (hs : Sp b p m) (hsim : ClsRec b p m B pf d) (hl : sums.length + d = 61) (hpl : pre.length = sums.length) (hnod : sums.Nodup) (hr : ∀ x ∈ sums, 0 ≤ x ∧ x < N) (ht : 0 ≤ t ∧ t < N) :
    ∀ (n : Nat) (k v : Int) (C : Int → Int) (M : ZM) (lg : Nat → Nat → Int64) (G : Nat), RP M p C → RS M b C → RT M b C → FI B C 0 → N ≤ C 206 → q = C (207 + 8 * t) → C (1 + 11 * q) ≠ 0 → 0 ≤ k → C (1 + 11 * q + 2) = k + n → M m 3 = sums.length → seg (M (m + 1)) sums.length 0 = pre → BitsOK (lg m 5) sums → n < G →
    (∀ i, 0 ≤ i → i < k → 0 < C (207 + 8 * t + (4 + i)) ∧ C (207 + 8 * (C (207 + 8 * t + (4 + i)) - 1) + 2) = 1) →
    (¬ (recL (fun u C => recS d sums pre u C) pre t q n k C).1 < 0 → ∃ (M1 : ZM) (lg1 : Nat → Nat → Int64), fixN (fun _ _ _ _ => none) (pb_X1_reckon_138 F pf b p m (zt t) bit (zt (C (1 + 11 * q))) (zt (C (1 + 11 * q + 2)))) G (zt v) (zt k) (LI M) lg = pk_X1_reckon_205 F pf b p m (zt t) bit (zt (vfS (recL (fun u C => recS d sums pre u C) pre t q n k C).2.2 t (C (1 + 11 * q)) n k v)) (LI M1) lg1 ∧ RT M1 b (recL (fun u C => recS d sums pre u C) pre t q n k C).2.2 ∧ FmR M M1 b m ∧ LgR lg lg1 m ∧ M1 m 3 = sums.length ∧ (∀ i, 0 ≤ i → i < (sums.length : Int) → M1 (m + 1) i = M (m + 1) i) ∧ BitsOK (lg1 m 5) sums) ∧
    ((recL (fun u C => recS d sums pre u C) pre t q n k C).1 < 0 → ∃ (M1 : ZM) (lg1 : Nat → Nat → Int64), fixN (fun _ _ _ _ => none) (pb_X1_reckon_138 F pf b p m (zt t) bit (zt (C (1 + 11 * q))) (zt (C (1 + 11 * q + 2)))) G (zt v) (zt k) (LI M) lg = some (zt (recL (fun u C => recS d sums pre u C) pre t q n k C).1, LI M1, lg1) ∧ RT M1 b (recL (fun u C => recS d sums pre u C) pre t q n k C).2.2 ∧ FmR M M1 b m ∧ LgR lg lg1 m ∧ M1 m 3 = (recL (fun u C => recS d sums pre u C) pre t q n k C).2.1.length ∧ seg (M1 (m + 1)) (recL (fun u C => recS d sums pre u C) pre t q n k C).2.1.length 0 = (recL (fun u C => recS d sums pre u C) pre t q n k C).2.1) := by
  intro n
  induction n with
  | zero =>
    intro k v C M lg G hP hS hT hFI hN hq hact hk hmany h3 hseg hbits hG hd
    have hm := hFI.2.2.1.1
    obtain ⟨w1, -⟩ := hFI.2.2.1.2 t ht.1 (by omega)
    rw [← hq] at w1
    have hmn := (hFI.1.2 q w1.1 w1.2).2.1
    refine ⟨fun _ => ⟨M, lg, ?_, hT, FmR.refl _ _ _, LgR.refl _ _, h3, fun _ _ _ => rfl, hbits⟩, fun h => absurd h (by simp only [recL]; omega)⟩
    obtain ⟨g, rfl⟩ : ∃ g, G = g + 1 := ⟨G - 1, by omega⟩
    rw [fix_succ]
    generalize fixN (fun _ _ _ _ => none) (pb_X1_reckon_138 F pf b p m (zt t) bit (zt (C (1 + 11 * q))) (zt (C (1 + 11 * q + 2)))) g = r
    unfold pb_X1_reckon_138
    rw [if_pos (by rw [zt_le (by omega) (by omega) (by omega) (by omega)]; omega)]
    rfl
  | succ n ih =>
    intro k v C M lg G hP hS hT hFI hN hq hact hk hmany h3 hseg hbits hG hd
    have hm := hFI.2.2.1.1
    have hc := hFI.1.1
    obtain ⟨w1, w2, w3, w4⟩ := hFI.2.2.1.2 t ht.1 (by omega)
    rw [← hq] at w1
    obtain ⟨p1, hmn, p3, -⟩ := hFI.1.2 q w1.1 w1.2
    have hlen : sums.length ≤ 60 := nodup_le 60 sums hnod (fun x hx => by have := hr x hx; omega)
    have hd1 : 0 < d := by omega
    obtain ⟨M1, a1, a2, a3, a4, a5, a6⟩ := y_needOf (F := F) (lg := lg) (B := B) (b := b) (p := p) (m := m) (M := M) (C := C) (t := t) (k := k) (q := q) (n := sums.length) hF hB hs hP hS hT hFI (by omega) hq (by omega) h3 hlen
    obtain ⟨e1, e2, e3, e4⟩ := nedS_ok (B := B) (A := C) (t := t) (p := q) (k := k) hFI (by omega) hq (by omega)
    have hrec := recS_ok (B := B) d sums pre (C 206) hl hpl hnod (fun x hx => by have := hr x hx; omega) (by omega)
    obtain ⟨g, rfl⟩ : ∃ g, G = g + 1 := ⟨G - 1, by omega⟩
    have hstep : fixN (fun _ _ _ _ => none) (pb_X1_reckon_138 F pf b p m (zt t) bit (zt (C (1 + 11 * q))) (zt (C (1 + 11 * q + 2)))) (g + 1) (zt v) (zt k) (LI M) lg = hcI (p_X1_needOf F b p m (zt t) (zt k) (LI M) lg) (fun (x21 : Int32) (sg19 : Nat → Nat → Int32) (lg20 : Nat → Nat → Int64) =>
        if 0 ≤ x21 then
        (hcI (pf m x21 sg19 lg20) (fun (x24 : Int32) (sg22 : Nat → Nat → Int32) (lg23 : Nat → Nat → Int64) =>
        pk_X1_reckon_170 F pf b p m (fixN (fun _ _ _ _ => none) (pb_X1_reckon_138 F pf b p m (zt t) bit (zt (C (1 + 11 * q))) (zt (C (1 + 11 * q + 2)))) g) (zt t) bit (zt v) (zt (C (1 + 11 * q))) (zt (C (1 + 11 * q + 2))) (zt k) x21 x24 sg22 lg23))
        else (pk_X1_reckon_170 F pf b p m (fixN (fun _ _ _ _ => none) (pb_X1_reckon_138 F pf b p m (zt t) bit (zt (C (1 + 11 * q))) (zt (C (1 + 11 * q + 2)))) g) (zt t) bit (zt v) (zt (C (1 + 11 * q))) (zt (C (1 + 11 * q + 2))) (zt k) x21 x21 sg19 lg20)) := by
      rw [fix_succ]
      generalize fixN (fun _ _ _ _ => none) (pb_X1_reckon_138 F pf b p m (zt t) bit (zt (C (1 + 11 * q))) (zt (C (1 + 11 * q + 2)))) g = r
      unfold pb_X1_reckon_138
      rw [if_neg (by rw [zt_le (by omega) (by omega) (by omega) (by omega)]; omega)]
    rw [hstep, a1, hcI_z]
    clear hstep a1
    generalize hrr : fixN (fun _ _ _ _ => none) (pb_X1_reckon_138 F pf b p m (zt t) bit (zt (C (1 + 11 * q))) (zt (C (1 + 11 * q + 2)))) g = rr
    unfold recL
    generalize nedS t q k C = e at *
    by_cases q1 : e.1 < 0
    · have hv := e3 q1
      rw [if_pos q1]
      have hz : ¬ (0 : Int32) ≤ zt e.1 := by rw [show (0 : Int32) = zt 0 from rfl, zt_le (by omega) (by omega) (by omega) (by omega)]; omega
      obtain ⟨b1, b2⟩ := a6 q1
      refine ⟨fun h => absurd q1 h, fun _ => ⟨M1, lg, ?_, a2, a3, LgR.refl _ _, ?_, ?_⟩⟩
      · rw [if_neg hz]
        unfold pk_X1_reckon_170
        rw [if_neg hz]
      · simp only [List.length_append]
        omega
      · simp only [List.length_append]
        rw [hpl, seg_app, seg_cong (g := M (m + 1)) sums.length 0 (fun j c1 c2 => a4 j c1 (by omega)), hseg, show (0 : Int) + sums.length = sums.length by omega, b2]
    · rw [if_neg q1]
      obtain ⟨f1, f2, f3, f4⟩ := e2 q1
      have hl1 := e1.2.1
      have hm1 := f4.2.2.1.1
      have hz : (0 : Int32) ≤ zt e.1 := by rw [show (0 : Int32) = zt 0 from rfl, zt_le (by omega) (by omega) (by omega) (by omega)]; omega
      rw [if_pos hz]
      have hP1 := hP.extR hFI.1 e1 a3 hs
      have hS1 := hS.extR e1 a3 hs
      obtain ⟨r1, r2, r3⟩ := hrec e.1 e.2.2 (by omega) f4 f1.1 f1.2
      simp only at r1 r2 r3
      have hseg1 : seg (M1 (m + 1)) sums.length 0 = pre := by rw [seg_cong (g := M (m + 1)) sums.length 0 (fun j c1 c2 => a4 j c1 (by omega))]; exact hseg
      obtain ⟨M2, lg2, b1, b2, b3, b4, b5, b6⟩ := hsim M1 lg e.2.2 sums pre e.1 hP1 hS1 a2 f4 hl hpl hnod (fun x hx => by have := hr x hx; omega) (a5 q1) hseg1 hbits f1.1 f1.2
      rw [b1, hcI_z]
      generalize recS d sums pre e.1 e.2.2 = r at *
      unfold pk_X1_reckon_170
      by_cases q2 : r.1 < 0
      · have hv := (r3 q2).1
        have hz2 : ¬ (0 : Int32) ≤ zt r.1 := by rw [show (0 : Int32) = zt 0 from rfl, zt_le (by omega) (by omega) (by omega) (by omega)]; omega
        rw [if_pos q2, if_neg hz2]
        obtain ⟨c1, c2⟩ := b6 q2
        exact ⟨fun h => absurd q2 h, fun _ => ⟨M2, lg2, rfl, b2, a3.trans b3, b4, c1, c2⟩⟩
      · obtain ⟨g1, g2, g3⟩ := r2 q2
        have hz2 : (0 : Int32) ≤ zt r.1 := by rw [show (0 : Int32) = zt 0 from rfl, zt_le (by omega) (by omega) (by omega) (by omega)]; omega
        rw [if_neg q2, if_pos hz2]
        obtain ⟨c1, c2, c3⟩ := b5 q2
        have hl2 := r1.2.1
        have hm2 := g3.2.2.1.1
        have hx := e1.trans r1
        have hval : M2 (b + 3 + 4) e.1 = r.2.2 (207 + 8 * e.1 + 3) := (b2.2.2 e.1 f1.1 (by omega)).2.2.2.1
        rw [mI_z (by omega) (by omega) (by omega), ob_z, hval, y_apply (by omega), ob_z, show zt k + 1 = zt (k + 1) from by simp only [zt_lit, zt_add]]
        have hq2 : q = r.2.2 (207 + 8 * t) := by rw [(hx.2.2 t ht.1 (by omega)).1]; exact hq
        have hact2 : r.2.2 (1 + 11 * q) = C (1 + 11 * q) := hx.1 _ (by omega)
        have hmny2 : r.2.2 (1 + 11 * q + 2) = C (1 + 11 * q + 2) := hx.1 _ (by omega)
        have hkeep : ∀ i, 0 ≤ i → i < 4 → 0 < e.2.2 (207 + 8 * t + (4 + i)) → r.2.2 (207 + 8 * t + (4 + i)) = e.2.2 (207 + 8 * t + (4 + i)) := fun i a c h => (r1.2.2 t ht.1 (by omega)).2.2.2 i a c (by omega)
        have hd2 : ∀ i, 0 ≤ i → i < k + 1 → 0 < r.2.2 (207 + 8 * t + (4 + i)) ∧ r.2.2 (207 + 8 * (r.2.2 (207 + 8 * t + (4 + i)) - 1) + 2) = 1 := fun i a c => by
          by_cases ei : i = k
          · subst ei
            rw [hkeep i a (by omega) (by omega), f2]
            exact ⟨by omega, by rw [show e.1 + 1 - 1 = e.1 by omega]; exact g2⟩
          · obtain ⟨d1, d2⟩ := hd i a (by omega)
            have m1 := (e1.2.2 t ht.1 (by omega)).2.2.2 i a (by omega) (by omega)
            rw [hkeep i a (by omega) (by omega), m1]
            have hb := w4 i a (by omega)
            exact ⟨d1, ((hx.2.2 (C (207 + 8 * t + (4 + i)) - 1) (by omega) (by omega)).2.2.1 d2).1⟩
        have hI := ih (k + 1) (ap (C (1 + 11 * q)) v (r.2.2 (207 + 8 * e.1 + 3))) r.2.2 M2 lg2 g (hP1.extR f4.1 r1 b3 hs) (hS1.extR r1 b3 hs) b2 g3 (by omega) hq2 (by rw [hact2]; exact hact) (by omega) (by omega) c1 (by rw [seg_cong (g := M1 (m + 1)) sums.length 0 (fun j d1 d2 => c2 j d1 (by omega))]; exact hseg1) c3 (by omega) hd2
        rw [hact2, hmny2, hrr] at hI
        obtain ⟨i1, i2⟩ := hI
        have hokL := recL_ok (B := B) (N := C 206) (t := t) (p := q) (pre := pre) hrec (by omega) (by omega) n (k + 1) r.2.2 g3 (by omega) hq2 (by omega) (by omega) hd2
        obtain ⟨o1, o2, o3⟩ := hokL
        have hk1 := hd2 k hk (by omega)
        have hkk : r.2.2 (207 + 8 * t + (4 + k)) = e.1 + 1 := by rw [hkeep k hk (by omega) (by omega), f2]
        generalize recL (fun u C => recS d sums pre u C) pre t q n (k + 1) r.2.2 = R at *
        have hRk : R.2.2 (207 + 8 * t + (4 + k)) = e.1 + 1 := by rw [(o1.2.2 t ht.1 (by omega)).2.2.2 k hk (by omega) (by omega)]; exact hkk
        have hRv : R.2.2 (207 + 8 * e.1 + 3) = r.2.2 (207 + 8 * e.1 + 3) := ((o1.2.2 e.1 f1.1 (by omega)).2.2.1 g2).2
        refine ⟨fun h => ?_, fun h => ?_⟩
        · obtain ⟨M3, lg3, d1, d2, d3, d4, d5, d6, d7⟩ := i1 h
          refine ⟨M3, lg3, ?_, d2, (a3.trans b3).trans d3, b4.trans d4, d5, fun i x1 x2 => by rw [d6 i x1 x2, c2 i x1 x2, a4 i x1 x2], d7⟩
          rw [d1, show vfS R.2.2 t (C (1 + 11 * q)) (n + 1) k v = vfS R.2.2 t (C (1 + 11 * q)) n (k + 1) (ap (C (1 + 11 * q)) v (R.2.2 (207 + 8 * (R.2.2 (207 + 8 * t + (4 + k)) - 1) + 3))) from rfl, hRk, show e.1 + 1 - 1 = e.1 by omega, hRv]
        · obtain ⟨M3, lg3, d1, d2, d3, d4, d5, d6⟩ := i2 h
          exact ⟨M3, lg3, d1, d2, (a3.trans b3).trans d3, b4.trans d4, d5, d6⟩
theorem y_rec {B : Int} (hF : 100 < F) (hB : B ≤ 1000000000) (hs : Sp b p m) (x : Nat) : ∀ d : Nat, ClsRec b p m B (cr F b p (d + x)) d
  | 0 => by
    intro M lg A sums prs t _ _ _ hFI hl _ hnod hr
    have := nodup_le 60 sums hnod (fun y hy => by have h1 := hr y hy; have h2 := hFI.2.2.1.1; omega)
    omega
  | d + 1 => by
    have hsim := y_rec (B := B) hF hB hs x d
    intro M lg A sums prs t hP hS hT hFI hl hpl hnod hr h3 hseg hbits ht1 ht2
    obtain ⟨s1, s2, s3⟩ := id hs
    rw [show d + 1 + x = (d + x) + 1 by omega]
    show ∃ (M1 : ZM) (lg1 : Nat → Nat → Int64), pg_X1_reckon F (cr F b p (d + x)) b p m (zt t) (LI M) lg = _ ∧ _
    generalize cr F b p (d + x) = pf at hsim ⊢
    have hc := hFI.1.1
    have hm := hFI.2.2.1.1
    obtain ⟨w1, w2, w3, w4⟩ := hFI.2.2.1.2 t ht1 ht2
    obtain ⟨p1, hmn, p3, -⟩ := hFI.1.2 _ w1.1 w1.2
    obtain ⟨t1, t2, t3, t4, t5⟩ := hT.2.2 t ht1 ht2
    have hcnt := hT.2.1
    have hlen : sums.length ≤ 60 := nodup_le 60 sums hnod (fun x hx => by have := hr x hx; omega)
    unfold pg_X1_reckon
    rw [y_hold7 (by omega) (by omega), ob_z]
    simp (disch := omega) only [zt_lit, zt_neg, zt_eq, mI_z, ob_z, t1, t3, gnm_z]
    rw [if_neg (show ¬ ((1 : Int) = 0) by omega)]
    have hself : (recS (d + 1) sums prs t A) = (if A (207 + 8 * t + 2) = 1 then (1, [], A) else if t ∈ sums then (-2, prs ++ [A (207 + 8 * t)], A) else if (recL (fun u C => recS d (sums ++ [t]) (prs ++ [A (207 + 8 * t)]) u C) (prs ++ [A (207 + 8 * t)]) t (A (207 + 8 * t)) (askd A (A (207 + 8 * t))).toNat 0 A).1 < 0 then recL (fun u C => recS d (sums ++ [t]) (prs ++ [A (207 + 8 * t)]) u C) (prs ++ [A (207 + 8 * t)]) t (A (207 + 8 * t)) (askd A (A (207 + 8 * t))).toNat 0 A
      else (1, [], vaS (recL (fun u C => recS d (sums ++ [t]) (prs ++ [A (207 + 8 * t)]) u C) (prs ++ [A (207 + 8 * t)]) t (A (207 + 8 * t)) (askd A (A (207 + 8 * t))).toNat 0 A).2.2 t)) := rfl
    rw [hself]
    by_cases q1 : A (207 + 8 * t + 2) = 1
    · rw [if_pos q1, if_neg (by omega)]
      exact ⟨M, lg, rfl, hT, FmR.refl _ _ _, LgR.refl _ _, fun _ => ⟨h3, fun _ _ _ => rfl, hbits⟩, fun h => absurd h (by simp only; omega)⟩
    · rw [if_neg q1, if_pos (show A (207 + 8 * t + 2) = 0 by omega)]
      obtain ⟨u1, u2, u3, u4, u5, u6⟩ := puM_at (M := M) (b := b) (p := p) (m := m) (x := A (207 + 8 * t)) (wf := 0) (n := sums.length) (by omega) (by omega) hs
      rw [hseg] at u2
      have hrefuse : t ∈ sums → ∃ (M1 : ZM) (lg1 : Nat → Nat → Int64), hcI (p_X1_refuse F b p m (zt (A (207 + 8 * t))) (zt (-2)) (LI M) lg) (fun (x7 : Int32) (sg5 : Nat → Nat → Int32) (lg6 : Nat → Nat → Int64) => some (x7, sg5, lg6)) = some (zt (-2), LI M1, lg1) ∧ RT M1 b A ∧ FmR M M1 b m ∧ LgR lg lg1 m ∧ (M1 m 3 = ((prs ++ [A (207 + 8 * t)]).length : Int) ∧ seg (M1 (m + 1)) (prs ++ [A (207 + 8 * t)]).length 0 = prs ++ [A (207 + 8 * t)]) := fun _ => by
        have hl2 : (prs ++ [A (207 + 8 * t)]).length = sums.length + 1 := by simp [hpl]
        refine ⟨puM M m (A (207 + 8 * t)), lg, ?_, hT.ext (fun j a c => u6 j (by omega)), u5.toR, LgR.refl _ _, by rw [u1, hl2]; omega, by rw [hl2]; exact u2⟩
        rw [y_refuse (by omega)]
        rfl
      rw [LI_3, h3]
      simp (disch := omega) only [zt_le]
      by_cases q0 : (60 : Int) ≤ sums.length
      · have hmem : t ∈ sums := full_memN (N := 60) hnod (fun x hx => by have := hr x hx; omega) (by omega) (by omega)
        obtain ⟨M1, lg1, z1, z2, z3, z4, z5⟩ := hrefuse hmem
        rw [if_pos q0, if_pos hmem]
        exact ⟨M1, lg1, z1, z2, z3, z4, fun h => absurd h (by simp only; omega), fun _ => z5⟩
      · rw [if_neg q0]
        have htest := BitsOK.test hbits (t := t) (by omega)
        by_cases q2 : t ∈ sums
        · obtain ⟨M1, lg1, z1, z2, z3, z4, z5⟩ := hrefuse q2
          rw [if_pos q2]
          have hnt : ¬ (lg_cmp (lg m 5 &&& lbit t) (0 : Int64)) = 0 := fun h => htest.mp h q2
          refine ⟨M1, lg1, ?_, z2, z3, z4, fun h => absurd h (by simp only; omega), fun _ => z5⟩
          exact (if_neg hnt).trans z1
        · rw [if_neg q2]
          have hnt : (lg_cmp (lg m 5 &&& lbit t) (0 : Int64)) = 0 := htest.mpr q2
          obtain ⟨-, -, -, -, -, v6, -, -⟩ := hP.2 _ w1.1 w1.2
          obtain ⟨v1, v2, -⟩ := hP.2 _ w1.1 w1.2
          have hgoal : ∀ X : Option (Int32 × (Nat → Nat → Int32) × (Nat → Nat → Int64)), X = hcU (p_X1_push F b p m (zt (A (207 + 8 * t))) (LI M) lg) (fun (sg8 : Nat → Nat → Int32) (lg9 : Nat → Nat → Int64) =>
              Option.bind (mI sg8 (p + 2) 12 (zt (A (207 + 8 * t)))) (fun (x11 : Int32) =>
              Option.bind (mI sg8 (p + 1) 12 (zt (A (207 + 8 * t)))) (fun (x12 : Int32) =>
              if x12 = zt 0 then
              (pk_X1_reckon_133 F pf b p m (zt t) (lbit t) x11 x12 (zt 0) sg8 (up3 lg9 m 5 ((lg9 m 5) ||| lbit t)))
              else (Option.bind (mI sg8 (p + 6) 12 (zt (A (207 + 8 * t)))) (fun (x13 : Int32) =>
              pk_X1_reckon_133 F pf b p m (zt t) (lbit t) x11 x12 x13 sg8 (up3 lg9 m 5 ((lg9 m 5) ||| lbit t))))))) → X = pk_X1_reckon_133 F pf b p m (zt t) (lbit t) (zt (A (1 + 11 * A (207 + 8 * t) + 1))) (zt (A (1 + 11 * A (207 + 8 * t)))) (zt (askd A (A (207 + 8 * t)))) (LI (puM M m (A (207 + 8 * t)))) (up3 lg m 5 (lg m 5 ||| lbit t)) := by
            intro X hX
            rw [hX, y_push (by omega), hcU_z, mI_z (by omega) (by omega) (by omega), ob_z, mI_z (by omega) (by omega) (by omega), ob_z, u6 (p + 2) (by omega), u6 (p + 1) (by omega), v1, v2]
            unfold askd
            by_cases qa : A (1 + 11 * A (207 + 8 * t)) = 0
            · rw [if_pos qa, qa, if_pos rfl]
            · have hza : ¬ zt (A (1 + 11 * A (207 + 8 * t))) = zt 0 := by rw [zt_eq (by omega) (by omega) (by omega) (by omega)]; exact qa
              rw [if_neg qa, if_neg hza, mI_z (by omega) (by omega) (by omega), ob_z, u6 (p + 6) (by omega), v6]
          have hlb : (1 : Int64) <<< ((Int32.toInt64 (zt t)) &&& 63) = lbit t := rfl
          have hnt2 : (lg_cmp (lg m 5 &&& lbit t) (0 : Int64)) = zt 0 := hnt
          rw [hlb, if_pos hnt2]
          rw [hgoal _ rfl]
          have hl2 : (sums ++ [t]).length + d = 61 := by rw [List.length_append, List.length_singleton]; omega
          have hls : (sums ++ [t]).length = sums.length + 1 := by rw [List.length_append, List.length_singleton]
          have hp2 : (prs ++ [A (207 + 8 * t)]).length = (sums ++ [t]).length := by rw [List.length_append, List.length_append, List.length_singleton, List.length_singleton]; omega
          have hr2 : ∀ y ∈ sums ++ [t], 0 ≤ y ∧ y < A 206 := fun y hy => by
            rcases List.mem_append.mp hy with h | h
            · exact hr y h
            · rw [List.mem_singleton] at h; subst h; omega
          have hndw := nodup_snoc hnod q2
          have hP1 : RP (puM M m (A (207 + 8 * t))) p A := hP.ext hFI.1 (fun _ _ => rfl) (fun j a c => u6 j (by omega))
          have hS1 : RS (puM M m (A (207 + 8 * t))) b A := hS.ext (fun _ _ _ => rfl) (fun j a c => u6 j (by omega))
          have hT1 : RT (puM M m (A (207 + 8 * t))) b A := hT.ext (fun j a c => u6 j (by omega))
          have hbits1 : BitsOK (up3 lg m 5 (lg m 5 ||| lbit t) m 5) (sums ++ [t]) := by rw [up3_eq]; exact hbits.push (by omega)
          have hask : 0 ≤ askd A (A (207 + 8 * t)) ∧ askd A (A (207 + 8 * t)) ≤ A (1 + 11 * A (207 + 8 * t) + 2) := by
            unfold askd
            split <;> omega
          have hrec := recS_ok (B := B) d (sums ++ [t]) (prs ++ [A (207 + 8 * t)]) (A 206) hl2 hp2 hndw hr2 (by omega)
          have hokL := recL_ok (B := B) (N := A 206) (t := t) (p := A (207 + 8 * t)) (pre := prs ++ [A (207 + 8 * t)]) hrec (by omega) ⟨ht1, ht2⟩ (askd A (A (207 + 8 * t))).toNat 0 A hFI (Int.le_refl _) rfl (by omega) (by omega) (fun i a c => by omega)
          -- the loop over the needs
          have hloop : (¬ (recL (fun u C => recS d (sums ++ [t]) (prs ++ [A (207 + 8 * t)]) u C) (prs ++ [A (207 + 8 * t)]) t (A (207 + 8 * t)) (askd A (A (207 + 8 * t))).toNat 0 A).1 < 0 → ∃ (M1 : ZM) (lg1 : Nat → Nat → Int64), pk_X1_reckon_133 F pf b p m (zt t) (lbit t) (zt (A (1 + 11 * A (207 + 8 * t) + 1))) (zt (A (1 + 11 * A (207 + 8 * t)))) (zt (askd A (A (207 + 8 * t)))) (LI (puM M m (A (207 + 8 * t)))) (up3 lg m 5 (lg m 5 ||| lbit t)) = pk_X1_reckon_205 F pf b p m (zt t) (lbit t) (zt (vfS (recL (fun u C => recS d (sums ++ [t]) (prs ++ [A (207 + 8 * t)]) u C) (prs ++ [A (207 + 8 * t)]) t (A (207 + 8 * t)) (askd A (A (207 + 8 * t))).toNat 0 A).2.2 t (A (1 + 11 * A (207 + 8 * t))) (askd A (A (207 + 8 * t))).toNat 0 (A (1 + 11 * A (207 + 8 * t) + 1)))) (LI M1) lg1 ∧ RT M1 b (recL (fun u C => recS d (sums ++ [t]) (prs ++ [A (207 + 8 * t)]) u C) (prs ++ [A (207 + 8 * t)]) t (A (207 + 8 * t)) (askd A (A (207 + 8 * t))).toNat 0 A).2.2 ∧ FmR (puM M m (A (207 + 8 * t))) M1 b m ∧ LgR (up3 lg m 5 (lg m 5 ||| lbit t)) lg1 m ∧ M1 m 3 = ((sums ++ [t]).length : Int) ∧ (∀ i, 0 ≤ i → i < ((sums ++ [t]).length : Int) → M1 (m + 1) i = puM M m (A (207 + 8 * t)) (m + 1) i) ∧ BitsOK (lg1 m 5) (sums ++ [t])) ∧
              ((recL (fun u C => recS d (sums ++ [t]) (prs ++ [A (207 + 8 * t)]) u C) (prs ++ [A (207 + 8 * t)]) t (A (207 + 8 * t)) (askd A (A (207 + 8 * t))).toNat 0 A).1 < 0 → ∃ (M1 : ZM) (lg1 : Nat → Nat → Int64), pk_X1_reckon_133 F pf b p m (zt t) (lbit t) (zt (A (1 + 11 * A (207 + 8 * t) + 1))) (zt (A (1 + 11 * A (207 + 8 * t)))) (zt (askd A (A (207 + 8 * t)))) (LI (puM M m (A (207 + 8 * t)))) (up3 lg m 5 (lg m 5 ||| lbit t)) = some (zt (recL (fun u C => recS d (sums ++ [t]) (prs ++ [A (207 + 8 * t)]) u C) (prs ++ [A (207 + 8 * t)]) t (A (207 + 8 * t)) (askd A (A (207 + 8 * t))).toNat 0 A).1, LI M1, lg1) ∧ RT M1 b (recL (fun u C => recS d (sums ++ [t]) (prs ++ [A (207 + 8 * t)]) u C) (prs ++ [A (207 + 8 * t)]) t (A (207 + 8 * t)) (askd A (A (207 + 8 * t))).toNat 0 A).2.2 ∧ FmR (puM M m (A (207 + 8 * t))) M1 b m ∧ LgR (up3 lg m 5 (lg m 5 ||| lbit t)) lg1 m ∧ M1 m 3 = ((recL (fun u C => recS d (sums ++ [t]) (prs ++ [A (207 + 8 * t)]) u C) (prs ++ [A (207 + 8 * t)]) t (A (207 + 8 * t)) (askd A (A (207 + 8 * t))).toNat 0 A).2.1.length : Int) ∧ seg (M1 (m + 1)) (recL (fun u C => recS d (sums ++ [t]) (prs ++ [A (207 + 8 * t)]) u C) (prs ++ [A (207 + 8 * t)]) t (A (207 + 8 * t)) (askd A (A (207 + 8 * t))).toNat 0 A).2.1.length 0 = (recL (fun u C => recS d (sums ++ [t]) (prs ++ [A (207 + 8 * t)]) u C) (prs ++ [A (207 + 8 * t)]) t (A (207 + 8 * t)) (askd A (A (207 + 8 * t))).toNat 0 A).2.1) := by
            unfold pk_X1_reckon_133
            rw [show (0 : Int32) = zt 0 from rfl]
            by_cases qa : A (1 + 11 * A (207 + 8 * t)) = 0
            · have e0 : askd A (A (207 + 8 * t)) = 0 := if_pos qa
              rw [e0]
              refine ⟨fun _ => ⟨puM M m (A (207 + 8 * t)), up3 lg m 5 (lg m 5 ||| lbit t), ?_, hT1, FmR.refl _ _ _, LgR.refl _ _, by rw [u1, hls]; omega, fun _ _ _ => rfl, hbits1⟩, fun h => absurd h (by simp only [recL, Int.toNat_zero]; omega)⟩
              obtain ⟨g, hg⟩ : ∃ g, F = g + 1 := ⟨F - 1, by omega⟩
              have hone : ∀ G, fixN (fun _ _ _ _ => none) (pb_X1_reckon_138 F pf b p m (zt t) (lbit t) (zt (A (1 + 11 * A (207 + 8 * t)))) (zt 0)) (G + 1) (zt (A (1 + 11 * A (207 + 8 * t) + 1))) (zt 0) (LI (puM M m (A (207 + 8 * t)))) (up3 lg m 5 (lg m 5 ||| lbit t)) = pk_X1_reckon_205 F pf b p m (zt t) (lbit t) (zt (A (1 + 11 * A (207 + 8 * t) + 1))) (LI (puM M m (A (207 + 8 * t)))) (up3 lg m 5 (lg m 5 ||| lbit t)) := fun G => by
                rw [fix_succ]
                generalize fixN (fun _ _ _ _ => none) (pb_X1_reckon_138 F pf b p m (zt t) (lbit t) (zt (A (1 + 11 * A (207 + 8 * t)))) (zt 0)) G = r
                unfold pb_X1_reckon_138
                rw [if_pos (by rw [zt_le (by omega) (by omega) (by omega) (by omega)]; omega)]
              have := hone g
              rw [← hg] at this
              exact this
            · have e0 : askd A (A (207 + 8 * t)) = A (1 + 11 * A (207 + 8 * t) + 2) := if_neg qa
              rw [e0]
              have := y_recL (F := F) (B := B) (d := d) (pf := pf) (bit := lbit t) (q := A (207 + 8 * t)) (N := A 206) hF hB hs hsim hl2 hp2 hndw hr2 ⟨ht1, ht2⟩ (A (1 + 11 * A (207 + 8 * t) + 2)).toNat 0 (A (1 + 11 * A (207 + 8 * t) + 1)) A (puM M m (A (207 + 8 * t))) (up3 lg m 5 (lg m 5 ||| lbit t)) F hP1 hS1 hT1 hFI (Int.le_refl _) rfl qa (by omega) (by omega) (by rw [u1, hls]; omega) (by rw [hls]; exact u2) hbits1 (by omega) (fun i a c => by omega)
              exact this
          have hx5 : FmR M (puM M m (A (207 + 8 * t))) b m := u5.toR
          have hlx : LgR lg (up3 lg m 5 (lg m 5 ||| lbit t)) m := up3_lgr _ _ _
          obtain ⟨l1, l2, l3⟩ := hokL
          obtain ⟨i1, i2⟩ := hloop
          generalize hRL : recL (fun u C => recS d (sums ++ [t]) (prs ++ [A (207 + 8 * t)]) u C) (prs ++ [A (207 + 8 * t)]) t (A (207 + 8 * t)) (askd A (A (207 + 8 * t))).toNat 0 A = r at *
          by_cases q3 : r.1 < 0
          · rw [if_pos q3]
            obtain ⟨M1, lg1, a1, a2, a3, a4, a5, a6⟩ := i2 q3
            exact ⟨M1, lg1, a1, a2, hx5.trans a3, hlx.trans a4, fun h => absurd q3 h, fun _ => ⟨a5, a6⟩⟩
          · rw [if_neg q3]
            obtain ⟨M1, lg1, a1, a2, a3, a4, a5, a6, a7⟩ := i1 q3
            obtain ⟨m1, m2, m3⟩ := l2 q3
            clear i1 i2 l2 l3
            have hm2 := m2.2.2.1.1
            have hl6 := l1.2.1
            have hp3 : ∀ j, j ≠ m → uM M1 m 3 (M1 m 3 - 1) j = M1 j := fun j hj => by funext e; rw [uM_ne hj]
            have hT3 : RT (uM M1 m 3 (M1 m 3 - 1)) b r.2.2 := a2.ext (fun j a c => hp3 j (by omega))
            rw [a1]
            unfold pk_X1_reckon_205
            rw [y_pop (by omega), hcU_z, gnm_z, y_setValue hT3 (by omega) hm2.2, hcU_z]
            refine ⟨_, _, rfl, ?_, ?_, ?_, fun _ => ⟨?_, ?_, ?_⟩, fun h => absurd h (by simp only; omega)⟩
            · have hv := RT.val (t := t) (v := vfS r.2.2 t (A (1 + 11 * A (207 + 8 * t))) (askd A (A (207 + 8 * t))).toNat 0 (A (1 + 11 * A (207 + 8 * t) + 1))) hT3 (by omega) hm2.2
              show RT _ b (vaS r.2.2 t)
              unfold vaS
              have e1 : r.2.2 (207 + 8 * t) = A (207 + 8 * t) := (l1.2.2 t ht1 ht2).1
              have e2 : r.2.2 (1 + 11 * A (207 + 8 * t)) = A (1 + 11 * A (207 + 8 * t)) := l1.1 _ (by omega)
              have e3 : r.2.2 (1 + 11 * A (207 + 8 * t) + 1) = A (1 + 11 * A (207 + 8 * t) + 1) := l1.1 _ (by omega)
              have e4 : r.2.2 (1 + 11 * A (207 + 8 * t) + 2) = A (1 + 11 * A (207 + 8 * t) + 2) := l1.1 _ (by omega)
              have e5 : askd r.2.2 (A (207 + 8 * t)) = askd A (A (207 + 8 * t)) := by unfold askd; rw [e2, e4]
              rw [e1, e2, e3, e5]
              exact hv
            · refine (hx5.trans a3).trans ⟨fun j c1 c2 => by funext e; rw [uM_ne (by omega), uM_ne (by omega), uM_ne (by omega)], fun e c1 c2 => by rw [uM_ne (by omega), uM_ne (by omega), uM_nei c1]⟩
            · exact (hlx.trans a4).trans (up3_lgr _ _ _)
            · rw [uM_ne (by omega), uM_ne (by omega), uM_eq, a5, hls]; omega
            · intro i c1 c2
              rw [uM_ne (by omega), uM_ne (by omega), uM_ne (by omega), a6 i c1 (by omega)]
              exact u3 i (by omega)
            · rw [up3_eq]
              exact a7.pop (by omega) q2
end CR
