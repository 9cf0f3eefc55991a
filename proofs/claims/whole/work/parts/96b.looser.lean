/-! The class's looser. -/
theorem srt_uni : ∀ (l1 l2 : List Int), srtL l1 → srtL l2 → (∀ t, t ∈ l1 ↔ t ∈ l2) → l1 = l2 := by
  intro l1
  induction l1 with
  | nil =>
    intro l2 _ _ h
    cases l2 with
    | nil => rfl
    | cons b l => exact absurd ((h b).mpr List.mem_cons_self) (by simp)
  | cons a l1 ih =>
    intro l2 g1 g2 h
    cases l2 with
    | nil => exact absurd ((h a).mp List.mem_cons_self) (by simp)
    | cons b l2 =>
      have hab : a = b := by
        have h1 := (h a).mp List.mem_cons_self
        have h2 := (h b).mpr List.mem_cons_self
        rcases List.mem_cons.mp h1 with e1 | e1
        · exact e1
        · rcases List.mem_cons.mp h2 with e2 | e2
          · exact e2.symm
          · have := g2.1 a e1; have := g1.1 b e2; omega
      subst hab
      rw [ih l2 g1.2 g2.2 (fun t => by
        have ht := h t
        rw [List.mem_cons, List.mem_cons] at ht
        constructor
        · intro g
          have : t ≠ a := by have := g1.1 t g; omega
          exact (ht.mp (Or.inr g)).elim (fun e => absurd e this) id
        · intro g
          have : t ≠ a := by have := g2.1 t g; omega
          exact (ht.mpr (Or.inr g)).elim (fun e => absurd e this) id)]
theorem ltL_asym : ∀ (xs ys : List Int), ltL xs ys → ltL ys xs → False
  | [], _, h, _ => by cases h
  | a :: xs, [], h, _ => by cases h
  | a :: xs, b :: ys, h, g => by
    rcases h with h | ⟨h1, h2⟩
    · rcases g with g | ⟨g1, g2⟩
      · omega
      · omega
    · rcases g with g | ⟨g1, g2⟩
      · omega
      · exact ltL_asym xs ys h2 g2
theorem LooS.uni {Q : Int → Int} {xs ys : List Int} (h : LooS Q xs) (h1 : LooS Q ys) : xs = ys := by
  rcases h.2 ys h1.1 with g | ⟨g1, g2⟩
  · rcases h1.2 xs h.1 with k | ⟨k1, k2⟩ <;> omega
  · rcases h1.2 xs h.1 with k | ⟨k1, k2⟩
    · omega
    · rcases g2 with g2 | g2
      · exact g2
      · rcases k2 with k2 | k2
        · exact k2.symm
        · exact absurd (ltL_asym _ _ g2 k2) id
theorem LzA.uni {Q : Int → Int} {k a b : Int} (h : LzA Q k a) (h1 : LzA Q k b) : a = b := by
  rcases h with ⟨e, n⟩ | ⟨xs, x1, x2⟩
  · rcases h1 with ⟨e1, n1⟩ | ⟨ys, y1, y2⟩
    · omega
    · exact absurd y1.1 (n ys)
  · rcases h1 with ⟨e1, n1⟩ | ⟨ys, y1, y2⟩
    · exact absurd x1.1 (n1 xs)
    · rw [x2, y2, x1.uni y1]
theorem cnM_0 : cnM 0 = 0 := by
  have key : ∀ n : Nat, cnB (btL 0) n = 0 := by
    intro n
    induction n with
    | zero => rfl
    | succ n ih => unfold cnB; rw [ih, btL_0]; rfl
  exact key 48
section LZ
variable {F : Nat} {lg : Nat → Nat → Int64} {M : ZM} {p a : Nat} {Q : Int → Int}
def FrL (a : Nat) (M M1 : ZM) (lg lg1 : Nat → Nat → Int64) : Prop := (∀ j, j ≠ a → M1 j = M j) ∧ (∀ e, e ≠ 8 → e ≠ 6 → M1 a e = M a e) ∧ ∀ j k, (j ≠ a ∨ k ≠ 7) → lg1 j k = lg j k
theorem FrP.toL {M1 : ZM} {lg1 : Nat → Nat → Int64} (h : FrP a M M1 lg lg1) : FrL a M M1 lg lg1 := ⟨h.1, fun e a _ => h.2.1 e a, h.2.2⟩
theorem FrL.trans {M1 M2 : ZM} {lg1 lg2 : Nat → Nat → Int64} (h : FrL a M M1 lg lg1) (h1 : FrL a M1 M2 lg1 lg2) : FrL a M M2 lg lg2 := ⟨fun j a => (h1.1 j a).trans (h.1 j a), fun e a b => (h1.2.1 e a b).trans (h.2.1 e a b), fun j k a => (h1.2.2 j k a).trans (h.2.2 j k a)⟩
theorem FrL.u6 {v : Int} : FrL a M (uM M a 6 v) lg lg := ⟨fun j hj => by funext e; exact uM_ne hj, fun e _ he => uM_nei he, fun _ _ _ => rfl⟩
theorem y_ff12 (hF : 20 < F) (hP : wfP Q) (hs : p + 9 ≤ a ∨ a + 4 ≤ p) : ∀ (n m : Nat) (M : ZM) (lg : Nat → Nat → Int64) (K : Nat), m + n = 4 → RP M p Q → M a 8 = 0 → (∀ Y, EgM Q Y → okM Q Y → m ≤ cnM Y) → n < K →
    ∃ M1 lg1, fixN (fun _ _ _ => none) (pb_X5_findFewest_12 F p a) K (zt m) (LI M) lg = some (LI M1, lg1) ∧ FrL a M M1 lg lg1 ∧ LooC Q (M1 a 6) (lg1 a 7) := by
  intro n
  induction n with
  | zero =>
    intro m M lg K h1 hR h8 hN hK
    obtain ⟨g, rfl⟩ : ∃ g, K = g + 1 := ⟨K - 1, by omega⟩
    have hm : m = 4 := by omega
    subst hm
    rw [fix_succ]
    unfold pb_X5_findFewest_12
    rw [if_pos (show (3 : Int32) < zt ((4 : Nat) : Int) by decide), show (-2 : Int32) = zt (-2) from rfl, up2_6, gnm_z]
    refine ⟨_, lg, rfl, FrL.u6, Or.inl ⟨uM_eq _ _ _ _, fun ys hy => ?_⟩⟩
    obtain ⟨y1, y2, y3, y4⟩ := hy
    have hyr : ∀ s ∈ ys, 0 ≤ s ∧ s < 48 := fun s hs => ⟨(y2 s hs).1, ((y2 s hs).lt hP).2.2⟩
    have hbit := mkL_bit ys hyr
    have hc1 := hN (mkL ys) (fun s a b hb => y2 s ((hbit s a).mp hb)) ((okM_okX hP (fun s a _ => hbit s a)).mpr y4)
    have hc2 : cnM (mkL ys) ≤ ys.length := by
      have e : cnM (mkL ys) ≤ cnB (fun p => decide (p ∈ ys)) 48 := cnB_mono 48 (fun i i0 i1 hb => by rw [decide_eq_true_eq]; exact (hbit i i0).mp hb)
      exact Nat.le_trans e (cnB_list 48 ys)
    omega
  | succ n ih =>
    intro m M lg K h1 hR h8 hN hK
    obtain ⟨g, rfl⟩ : ∃ g, K = g + 1 := ⟨K - 1, by omega⟩
    rw [fix_succ]
    generalize hr : fixN (fun _ _ _ => none) (pb_X5_findFewest_12 F p a) g = r
    unfold pb_X5_findFewest_12
    have hE0 : EgM Q 0 := fun s _ _ hb => by rw [btL_0] at hb; cases hb
    obtain ⟨M2, lg2, C, a1, a2, a3, a4, a5⟩ := y_loosen (F := F) (a := a) hF hP hs m 5 (by omega) (by omega) 0 0 (zt 0) M lg hR (Or.inl h8) hE0 SndC_0
    have a1' : p_X5_loosen F p a 0 0 (zt 0) (zt m) (LI M) lg = some (LI M2, lg2) := a1
    have hR2 : RP M2 p Q := hR.frP (fun j g1 g2 => a2.1 j (by omega))
    have hcomp : ∀ X, EgM Q X → okM Q X → cnM X ≤ m → ∃ Y, C Y ∧ SubL Y X := fun X e1 e2 e3 => a5 X ⟨e2, e1, fun s _ _ hb => (by rw [btL_0] at hb; cases hb), by rw [cnM_0]; omega, fun s _ _ hb _ => (by rw [btL_0] at hb; cases hb)⟩
    rw [if_neg (show ¬ ((3 : Int32) < zt m) by rw [show (3 : Int32) = zt 3 from rfl, zt_lt (by omega) (by omega) (by omega) (by omega)]; omega), show (0 : Int32) = zt 0 from rfl, a1', hcU_z, show LI M2 a 8 = zt (M2 a 8) from rfl]
    rw [h8] at a3
    obtain ⟨b1, b2, b3⟩ := a3
    rcases b1 with b0 | b0
    · rw [b0, if_pos rfl, ← hr]
      have hno := (b2 b0).2
      obtain ⟨M3, lg3, c1, c2, c3⟩ := ih (m + 1) M2 lg2 g (by omega) hR2 b0 (fun Y y1 y2 => by
        have := hN Y y1 y2
        apply Classical.byContradiction
        intro q
        obtain ⟨Z, z1, -⟩ := hcomp Y y1 y2 (by omega)
        exact hno Z z1) (by omega)
      refine ⟨M3, lg3, ?_, a2.toL.trans c2, c3⟩
      rw [show (1 : Int32) = zt 1 from rfl, zt_add]
      exact c1
    · obtain ⟨c1, c2, c3⟩ := b3 b0
      have hC : C (lg2 a 7) := by
        rcases c1 with ⟨c1, -⟩ | c1
        · omega
        · exact c1
      obtain ⟨s1, s2, s3, s4⟩ := a4 _ hC
      rw [cnM_0] at s4
      have hlo := loos_of_mask hP (m := m) (X := lg2 a 7) (by omega) s1 s2 (by omega) hN (fun Y y1 y2 y3 => by
        obtain ⟨Z, z1, z2⟩ := hcomp Y y1 y2 y3
        obtain ⟨w1, w2, w3, w4⟩ := a4 Z z1
        have hz := hN Z w2 w1
        have : Z = Y := w2.ext hP y1 (z2.eqb (by omega))
        rw [← this]
        exact c3 Z z1)
      rw [b0, if_neg (show ¬ (zt 1 = zt 0) by decide), up2_6, gnm_z]
      refine ⟨_, lg2, rfl, a2.toL.trans FrL.u6, Or.inr ⟨blM (lg2 a 7), hlo.1, ?_, fun s s0 s1 => ?_⟩⟩
      · rw [uM_eq, hlo.2]
      · rw [blM_mem]; exact ⟨fun g => ⟨⟨s0, s1⟩, g⟩, fun g => g.2⟩
theorem y_findFewest (hF : 20 < F) (hP : wfP Q) (hs : p + 9 ≤ a ∨ a + 4 ≤ p) (hR : RP M p Q) : ∃ M1 lg1, p_X5_findFewest F p a (LI M) lg = some (LI M1, lg1) ∧ FrL a M M1 lg lg1 ∧ LooC Q (M1 a 6) (lg1 a 7) := by
  unfold p_X5_findFewest
  rw [show (0 : Int32) = zt 0 from rfl, show up2 (LI M) a 8 (zt 0) = LI (uM M a 8 0) from up2_z M a 8 0, gnm_z, gnm_z]
  obtain ⟨M1, lg1, a1, a2, a3⟩ := y_ff12 (F := F) (a := a) hF hP hs 4 0 (uM M a 8 0) (up3 lg a 7 0) F rfl (hR.frP (fun j g1 g2 => by funext e; exact uM_ne (by omega))) (uM_eq _ _ _ _) (fun Y _ _ => by omega) (by omega)
  refine ⟨M1, lg1, a1, ?_, a3⟩
  have h0 : FrL a M (uM M a 8 0) lg (up3 lg a 7 0) := by
    refine ⟨fun j hj => by funext e; exact uM_ne hj, fun e he _ => uM_nei he, fun j k hjk => ?_⟩
    unfold up3 vp_updL
    by_cases q : j = a
    · rw [if_pos q, q]
      have : k ≠ 7 := by omega
      simp [this]
    · rw [if_neg q]
  exact h0.trans a2
theorem y_la36 {k : Int} (hk : -2147483648 ≤ k ∧ k < 2147483648) : ∀ (n : Nat) (s bf : Int) (K : Nat), s + n = 48 → 0 ≤ s → 0 ≤ bf → bf ≤ s → n < K → fixN (fun _ _ => none) (pb_X5_loosenedAt_36 F p a (zt k) (LI M) lg) K (zt bf) (zt s) = some (zt (if bf ≤ k then (((seg (fun i => i) n s).filter (btL (lg a 7)))[(k - bf).toNat]?).getD (-1) else -1), LI M, lg) := by
  intro n
  induction n with
  | zero =>
    intro s bf K h1 h2 h3 h4 hK
    obtain ⟨g, rfl⟩ : ∃ g, K = g + 1 := ⟨K - 1, by omega⟩
    rw [fix_succ]
    unfold pb_X5_loosenedAt_36
    rw [show (48 : Int32) = zt 48 from rfl, if_pos (zle_pos (by omega) (by omega) (by omega))]
    simp [seg]
    rfl
  | succ n ih =>
    intro s bf K h1 h2 h3 h4 hK
    obtain ⟨g, rfl⟩ : ∃ g, K = g + 1 := ⟨K - 1, by omega⟩
    rw [fix_succ]
    generalize hr : fixN (fun _ _ => none) (pb_X5_loosenedAt_36 F p a (zt k) (LI M) lg) g = r
    unfold pb_X5_loosenedAt_36
    rw [show (48 : Int32) = zt 48 from rfl, if_neg (zle_neg (by omega) (by omega) (by omega)), lbit_fold, show (1 : Int32) = zt 1 from rfl, zt_add, zt_add, seg, List.filter_cons, ← hr]
    by_cases q : btL (lg a 7) s = false
    · rw [if_pos ((btL_test (by omega)).mpr q), if_neg (show ¬ (btL (lg a 7) s = true) by rw [q]; simp), ih (s + 1) bf g (by omega) (by omega) h3 (by omega) (by omega)]
    · have q' : btL (lg a 7) s = true := by simpa using q
      have hz : (zt bf = zt k) = (bf = k) := zt_eq (by omega) (by omega) hk.1 hk.2
      rw [if_neg (fun e => q ((btL_test (by omega)).mp e)), if_pos q']
      by_cases q2 : bf = k
      · rw [if_pos (by rw [hz]; exact q2), if_pos (by omega), show (k - bf).toNat = 0 by omega]
        rfl
      · rw [if_neg (by rw [hz]; exact q2), ih (s + 1) (bf + 1) g (by omega) (by omega) (by omega) (by omega) (by omega)]
        by_cases q3 : bf ≤ k
        · rw [if_pos q3, if_pos (by omega), show (k - bf).toNat = (k - (bf + 1)).toNat + 1 by omega, List.getElem?_cons_succ]
        · rw [if_neg q3, if_neg (by omega)]
theorem LI_6 (M : ZM) (j : Nat) : LI M j 6 = zt (M j 6) := rfl
theorem y_la13 {k : Int} (hF : 60 < F) (hP : wfP Q) (hk : -2147483648 ≤ k ∧ k < 2147483648) (hL : LooC Q (M a 6) (lg a 7)) : ∃ ans, pk_X5_loosenedAt_13 F p a (zt k) (LI M) lg = some (zt ans, LI M, lg) ∧ LzA Q k ans := by
  unfold pk_X5_loosenedAt_13
  rw [LI_6]
  rcases hL with ⟨e, n⟩ | ⟨xs, x1, x2, x3⟩
  · rw [e, if_pos (show zt (-2) = -2 from rfl)]
    exact ⟨-2, rfl, Or.inl ⟨rfl, n⟩⟩
  · refine ⟨pickS xs k, ?_, Or.inr ⟨xs, x1, rfl⟩⟩
    have hl3 := x1.1.2.2.1
    have hxs : xs = blM (lg a 7) := srt_uni _ _ x1.1.1 (blM_srt _) (fun t => by
      rw [blM_mem]
      constructor
      · intro g
        have ht := x1.1.2.1 t g
        have hPs : 0 ≤ t ∧ t < 48 := ⟨ht.1, (ht.lt hP).2.2⟩
        exact ⟨hPs, (x3 t hPs.1 hPs.2).mpr g⟩
      · rintro ⟨a, b⟩
        exact (x3 t a.1 a.2).mp b)
    rw [x2, if_neg (show ¬ (zt (xs.length : Int) = -2) by rw [show (-2 : Int32) = zt (-2) from rfl, zt_eq (by omega) (by omega) (by omega) (by omega)]; omega)]
    unfold pickS
    have hz : (zt k = -1) = (k = -1) := by
      rw [show (-1 : Int32) = zt (-1) from rfl]
      exact zt_eq hk.1 hk.2 (by omega) (by omega)
    by_cases c1 : k = -1
    · rw [if_pos (by rw [hz]; exact c1), if_pos c1]
    · rw [if_neg (by rw [hz]; exact c1), if_neg c1, show (0 : Int32) = zt 0 from rfl, y_la36 hk 48 0 0 F (by omega) (by omega) (by omega) (by omega) (by omega)]
      have e : (seg (fun i => i) 48 0).filter (btL (lg a 7)) = xs := hxs.symm
      rw [e, Int.sub_zero]
      by_cases c2 : 0 ≤ k
      · rw [if_pos c2]
        by_cases c3 : k < xs.length
        · rw [if_pos ⟨c2, c3⟩]
        · rw [if_neg (fun g => c3 g.2), List.getElem?_eq_none (by omega)]
          rfl
      · rw [if_neg c2, if_neg (fun g => c2 g.1)]
theorem y_loosenedAt {k : Int} (hF : 60 < F) (hP : wfP Q) (hs : p + 9 ≤ a ∨ a + 4 ≤ p) (hR : RP M p Q) (hk : -2147483648 ≤ k ∧ k < 2147483648) (hL : M a 6 = -3 ∨ LooC Q (M a 6) (lg a 7)) : ∃ ans M1 lg1, p_X5_loosenedAt F p a (zt k) (LI M) lg = some (zt ans, LI M1, lg1) ∧ LzA Q k ans ∧ FrL a M M1 lg lg1 ∧ LooC Q (M1 a 6) (lg1 a 7) := by
  unfold p_X5_loosenedAt
  rw [LI_6]
  by_cases q : zt (M a 6) = (-3 : Int32)
  · rw [if_pos q]
    obtain ⟨M1, lg1, a1, a2, a3⟩ := y_findFewest (F := F) (lg := lg) (a := a) (by omega) hP hs hR
    obtain ⟨ans, b1, b2⟩ := y_la13 (F := F) (p := p) hF hP hk a3
    rw [a1, hcU_z, b1]
    exact ⟨ans, M1, lg1, rfl, b2, a2, a3⟩
  · rw [if_neg q]
    have hL2 : LooC Q (M a 6) (lg a 7) := by
      rcases hL with e | e
      · rw [e] at q; exact absurd rfl q
      · exact e
    obtain ⟨ans, b1, b2⟩ := y_la13 (F := F) (p := p) hF hP hk hL2
    exact ⟨ans, M, lg, b1, b2, ⟨fun _ _ => rfl, fun _ _ _ => rfl, fun _ _ _ => rfl⟩, hL2⟩
end LZ
section VL
variable {B : Int} {x : Nat} {K : HK} {pr : HP} {pt : Nat → Nat} {rr : HP} {n : Nat} {M : ZM} {lg : Nat → Nat → Int64} {A T : Int → Int} {U : List (Int → Int)} {I : IMG} {F : Nat}
theorem v_looser {k : Int} (hF : 1000 < F) (hk : -2147483648 ≤ k ∧ k < 2147483648) (h : CI B x K pr pt rr n M lg A T U I) : ∃ ans, LzA A k ans ∧ StC B x M lg A T U I ans (f_X10_looser F x (zt k) n (hp K pr pt rr (LI M) lg)) := by
  have hs := h.1
  have hA := h.2.1.2.1.1
  obtain ⟨pt1, M1, a1, a2, a3, a4⟩ := v_study hF h
  have hs1 := a2.1
  have hR : RP M1 (pt1 (x + 48)) A := by rw [a3.2]; exact a2.2.1.1.1
  have hpa := hs1.ptsAt hs1.2.2.1.2
  obtain ⟨p1, p2, p3, p4, p5, p6⟩ := a3.1
  obtain ⟨ans, M2, lg2, b1, b2, b3, b4⟩ := y_loosenedAt (F := F) (lg := lg) (a := x + 48) (by omega) hA (by omega) hR hk p6
  unfold f_X10_looser
  rw [v_gR hs.o10 rfl hs.r5, v_gR hs.o10 rfl hs.r1, v_gP hs.b0.k0 rfl, v_cvU hs.plan.k0 a1, v_gR hs1.o10 rfl hs1.r5, v_cvI hs1.plan.k0 (r_eI (e_X5_loosenedAt hs1.plan) b1)]
  have hM : ∀ j, j ≠ x + 48 → M2 j = M1 j := b3.1
  have hPl : PlS M2 lg2 (x + 48) A := by
    refine ⟨by rw [b3.2.1 1 (by omega) (by omega)]; exact p1, fun i y hy => by rw [hM _ (by omega)]; exact p2 i y hy, fun q q0 q1 => by rw [hM _ (by omega)]; exact p3 q q0 q1, by rw [b3.2.1 4 (by omega) (by omega)]; exact p4, fun i y hy => by rw [hM _ (by omega)]; exact p5 i y hy, Or.inr b4⟩
  refine ⟨ans, b2, _, _, _, _, _, _, _, rfl, a2.setPl hs1 (fun _ _ => rfl) (fun j hj => hM j (by omega)) ⟨A, hR.frP (fun j g1 g2 => hM j (by omega)), hA, hPl⟩, a4.trans ⟨fun j g1 g2 => hM j (by omega), by funext e; exact b3.2.2 _ _ (by omega)⟩⟩
end VL
