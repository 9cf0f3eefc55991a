/-! The class lays its loop. -/
section LP
variable {F : Nat} {lg : Nat → Nat → Int64} {M : ZM} {p a : Nat} {Q : Int → Int} {L : Int64} {z : Int32}
theorem y_leastStuck {cn : Int32} (hF : 20 < F) (hP : wfP Q) (hR : RP M p Q) : p_X5_leastStuck F p a cn (LI M) lg = some (zt (lsS (bt cn) (Q 0).toNat 0)) := by
  have hc := hP.1
  have key : ∀ (n : Nat) (i : Int) (K : Nat), i + n = Q 0 → 0 ≤ i → n < K → fixN (fun _ => none) (pb_X5_leastStuck_2 F p a cn (LI M) lg) K (zt i) = some (zt (lsS (bt cn) n i)) := by
    intro n
    induction n with
    | zero =>
      intro i K h1 h2 hK
      obtain ⟨g, rfl⟩ : ∃ g, K = g + 1 := ⟨K - 1, by omega⟩
      rw [fix_succ]
      unfold pb_X5_leastStuck_2 lsS
      rw [LI_0, hR.1, if_pos (zle_pos (by omega) (by omega) (by omega))]
      rfl
    | succ n ih =>
      intro i K h1 h2 hK
      obtain ⟨g, rfl⟩ : ∃ g, K = g + 1 := ⟨K - 1, by omega⟩
      rw [fix_succ]
      generalize hr : fixN (fun _ => none) (pb_X5_leastStuck_2 F p a cn (LI M) lg) g = r
      unfold pb_X5_leastStuck_2 lsS
      rw [LI_0, hR.1, if_neg (zle_neg (by omega) (by omega) (by omega))]
      simp only [zt_lit, zt_add, ib_fold]
      rw [← hr, ih (i + 1) g (by omega) (by omega) (by omega)]
      by_cases q : bt cn i = false
      · rw [if_pos ((bt_test (by omega)).mpr q), if_pos q]
      · rw [if_neg (fun e => q ((bt_test (by omega)).mp e)), if_neg q]
  unfold p_X5_leastStuck
  rw [show (0 : Int32) = zt 0 from rfl]
  exact key (Q 0).toNat 0 F (by omega) (by omega) (by omega)
theorem y_stuckSlot {cn : Int32} {i : Int} (hF : 20 < F) (hP : wfP Q) (hR : RP M p Q) (hi : 0 ≤ i ∧ i < Q 0) : p_X5_stuckSlot F p a (zt i) cn L (LI M) lg = some (zt (stS Q (eL Q (zt 0) L) (bt cn) i)) := by
  have hc := hP.1
  have hm := hP.mn hi
  obtain ⟨-, -, -, -, -, r6, r7, r8⟩ := hR.2 i hi.1 hi.2
  have hl := (hP.2 i hi.1 hi.2).2.2.2.1
  have key : ∀ (n : Nat) (k : Int) (K : Nat), k + n = pMany Q i → 0 ≤ k → n < K → fixN (fun _ => none) (pb_X5_stuckSlot_3 F p a (zt i) cn L (LI M) lg) K (zt k) = some (zt (stK Q (eL Q (zt 0) L) (bt cn) i n k)) := by
    intro n
    induction n with
    | zero =>
      intro k K h1 h2 hK
      obtain ⟨g, rfl⟩ : ∃ g, K = g + 1 := ⟨K - 1, by omega⟩
      rw [fix_succ]
      unfold pb_X5_stuckSlot_3 stK
      rw [mI_z (by omega) (by omega) (by omega), ob_z, r6, if_pos (zle_pos (by unfold pMany at *; omega) (by unfold pMany at *; omega) (by omega))]
      rfl
    | succ n ih =>
      intro k K h1 h2 hK
      obtain ⟨g, rfl⟩ : ∃ g, K = g + 1 := ⟨K - 1, by omega⟩
      rw [fix_succ]
      generalize hr : fixN (fun _ => none) (pb_X5_stuckSlot_3 F p a (zt i) cn L (LI M) lg) g = r
      have h8 := r8 k h2 (by unfold pMany at h1; omega)
      have hnd : Q (1 + 11 * i + (3 + k)) = pNd Q i k := rfl
      have hrg := hP.nd hi (k := k) (by omega)
      unfold pb_X5_stuckSlot_3 stK
      rw [mI_z (by omega) (by omega) (by omega), ob_z, r6, if_neg (zle_neg (by unfold pMany at *; omega) (by unfold pMany at *; omega) (by omega)), gnm_z, show (4 : Int32) = zt 4 from rfl, zt_mul, zt_add, y_isEager (by omega) (by omega) (by rw [r7]; exact hl), ob_z, r7, lbit_fold]
      have s53 : pk_X5_stuckSlot_53 F p a r (zt i) cn L (zt k) (zt (i * 4 + k)) (LI M) lg = r (zt (k + 1)) := by
        unfold pk_X5_stuckSlot_53 pk_X5_stuckSlot_54
        rw [if_pos rfl, show (1 : Int32) = zt 1 from rfl, zt_add]
      have s54 : pk_X5_stuckSlot_54 F p a r (zt i) cn L (zt k) (zt (i * 4 + k)) (1 : Int32) (LI M) lg = if bt cn (pNd Q i k) = false then some (zt (4 * i + k)) else r (zt (k + 1)) := by
        unfold pk_X5_stuckSlot_54
        rw [if_neg (show ¬ ((1 : Int32) = 0) by decide), mI_z (by omega) (by omega) (by omega), ob_z, h8, hnd]
        simp only [zt_lit, zt_add, ib_fold]
        by_cases q : bt cn (pNd Q i k) = false
        · rw [if_pos ((bt_test (by omega)).mpr q), if_pos q, show i * 4 + k = 4 * i + k by omega]
        · rw [if_neg (fun e => q ((bt_test (by omega)).mp e)), if_neg q]
      rw [s53, s54]
      have hih := ih (k + 1) g (by omega) (by omega) (by omega)
      rw [hr] at hih
      rw [hih]
      have hd : decide (zt 0 ≠ (0 : Int32)) = false := by decide
      unfold eL
      rw [hd, Bool.false_or]
      unfold pEg
      by_cases q : lz (Q (1 + 11 * i + 7)) k = true
      · rw [if_pos q, if_pos (show zt 0 = 0 from rfl), if_neg (by rw [q]; simp)]
      · have q2 : lz (Q (1 + 11 * i + 7)) k = false := by simpa using q
        rw [if_neg q, if_neg (show ¬ (zt 1 = 0) by decide), q2]
        by_cases q3 : btL L (4 * i + k) = false
        · rw [if_pos ((btL_test (by omega)).mpr (by rw [show i * 4 + k = 4 * i + k by omega]; exact q3)), q3]
          by_cases q4 : bt cn (pNd Q i k) = false
          · rw [if_pos q4, if_pos ⟨rfl, q4⟩]
          · rw [if_neg q4, if_neg (fun e => q4 e.2)]
        · rw [if_neg (fun e => q3 (by rw [show 4 * i + k = i * 4 + k by omega]; exact (btL_test (by omega)).mp e)), if_neg (fun e => q3 (by simpa using e.1))]
  unfold p_X5_stuckSlot stS
  rw [show (0 : Int32) = zt 0 from rfl]
  exact key (pMany Q i).toNat 0 F (by omega) (by omega) (by omega)
theorem y_behind {i k : Int} (hP : wfP Q) (hR : RP M p Q) (hi : 0 ≤ i ∧ i < Q 0) (hk : 0 ≤ k ∧ k < pMany Q i) : p_X5_behind F p a (zt (4 * i + k)) (LI M) lg = some (zt (pNd Q i k)) := by
  have hc := hP.1
  have hm := hP.mn hi
  obtain ⟨-, -, -, -, -, r6, r7, r8⟩ := hR.2 i hi.1 hi.2
  have h8 := r8 k hk.1 hk.2
  unfold p_X5_behind
  simp (disch := omega) only [zt_lit, zt_neg, zt_lt, zt_le, mI_z, ob_z]
  rw [if_neg (by omega), if_neg (by omega), show 4 * i + k = i * 4 + k by omega, h8]
  rfl
theorem y_behind0 : p_X5_behind F p a (zt (-1)) (LI M) lg = some (zt (-1)) := by
  unfold p_X5_behind
  rw [if_pos (show zt (-1) < 0 by decide)]
  rfl
/-- bits that are just what can start -/
def CnB (Q : Int → Int) (L : Int64) (cn : Int32) : Prop := IsC Q (eL Q (zt 0) L) (bt cn)
theorem y_next {cn : Int32} {i : Int} (hF : 20 < F) (hP : wfP Q) (hR : RP M p Q) (hI : CnB Q L cn) (hi : 0 ≤ i ∧ i < Q 0) (hs : bt cn i = false) : ∃ k, (0 ≤ k ∧ k < pMany Q i) ∧ p_X5_stuckSlot F p a (zt i) cn L (LI M) lg = some (zt (4 * i + k)) ∧ p_X5_behind F p a (zt (4 * i + k)) (LI M) lg = some (zt (nxS Q (eL Q (zt 0) L) (bt cn) i)) ∧ eL Q (zt 0) L i k = true ∧ pNd Q i k = nxS Q (eL Q (zt 0) L) (bt cn) i ∧ ((0 ≤ nxS Q (eL Q (zt 0) L) (bt cn) i ∧ nxS Q (eL Q (zt 0) L) (bt cn) i < Q 0) ∧ bt cn (nxS Q (eL Q (zt 0) L) (bt cn) i) = false) ∧ stS Q (eL Q (zt 0) L) (bt cn) i = 4 * i + k := by
  obtain ⟨k, k1, k2, k3, k4, k5, k6⟩ := stuck hP hI hi hs
  refine ⟨k, k1, ?_, ?_, k3, k5.symm, ?_, k2⟩
  · rw [y_stuckSlot hF hP hR hi, k2]
  · rw [y_behind hP hR hi k1, k5]
  · rw [k5]; exact ⟨k6, k4⟩
theorem y_loopEntry {cn : Int32} (hF : 20 < F) (hP : wfP Q) (hR : RP M p Q) (hI : CnB Q L cn) : p_X5_loopEntry F p a cn L (LI M) lg = some (zt (if lsS (bt cn) (Q 0).toNat 0 = -1 then -1 else entS (nxS Q (eL Q (zt 0) L) (bt cn)) 13 [] (lsS (bt cn) (Q 0).toNat 0))) := by
  have hc := hP.1
  unfold p_X5_loopEntry
  rw [y_leastStuck hF hP hR, ob_z]
  have key : ∀ (n : Nat) (met : List Int) (q : Int) (seen : Int32) (K : Nat), met.length + n = 13 → met.Nodup → (∀ y ∈ met, 0 ≤ y ∧ y < Q 0) → (0 ≤ q ∧ q < Q 0) → bt cn q = false → (∀ j, 0 ≤ j → j < 32 → (bt seen j = true ↔ j ∈ met)) → n < K → fixN (fun _ _ _ => none) (pb_X5_loopEntry_13 F p a cn L (LI M) lg) K (zt q) seen (zt met.length) = some (zt (entS (nxS Q (eL Q (zt 0) L) (bt cn)) n met q)) := by
    intro n
    induction n with
    | zero =>
      intro met q seen K h1 h2 h3
      have := nodup_le 12 met h2 (fun y hy => by have := h3 y hy; omega)
      omega
    | succ n ih =>
      intro met q seen K h1 h2 h3 h4 h5 h6 hK
      obtain ⟨g, rfl⟩ : ∃ g, K = g + 1 := ⟨K - 1, by omega⟩
      rw [fix_succ]
      generalize hr : fixN (fun _ _ _ => none) (pb_X5_loopEntry_13 F p a cn L (LI M) lg) g = r
      have hlen := nodup_le (Q 0).toNat met h2 (fun y hy => by have := h3 y hy; omega)
      obtain ⟨k, k1, k2, k3, k4, k5, k6, k7⟩ := y_next (F := F) (lg := lg) (a := a) hF hP hR hI h4 h5
      unfold pb_X5_loopEntry_13 entS
      rw [LI_0, hR.1, if_neg (show ¬ (zt (Q 0) < zt met.length) by rw [zt_lt (by omega) (by omega) (by omega) (by omega)]; omega), if_neg (show ¬ (zt q = -1) by rw [show (-1 : Int32) = zt (-1) from rfl, zt_eq (by omega) (by omega) (by omega) (by omega)]; omega)]
      simp only [zt_lit, zt_add, ib_fold, gnm_z]
      have hbq := h6 q h4.1 (by omega)
      by_cases e : q ∈ met
      · rw [if_neg (fun g => by rw [(bt_test (by omega)).mp g] at hbq; exact absurd (hbq.mpr e) (by simp)), if_pos e]
      · have hb0 : bt seen q = false := by
          cases g : bt seen q with
          | false => rfl
          | true => exact absurd (hbq.mp g) e
        rw [if_pos ((bt_test (by omega)).mpr hb0), if_neg e, k2, ob_z, k3, ob_z, ← hr]
        have := ih (q :: met) (nxS Q (eL Q (zt 0) L) (bt cn) q) (seen ||| ib q) g (by simp; omega) (List.nodup_cons.mpr ⟨e, h2⟩) (fun y hy => by
          rcases List.mem_cons.mp hy with rfl | hy
          · exact h4
          · exact h3 y hy) k6.1 k6.2 (fun j j0 j1 => by
          rw [bt_or _ (by omega) j0, Bool.or_eq_true, decide_eq_true_eq, List.mem_cons, h6 j j0 j1]
          constructor
          · rintro (g | g)
            · exact Or.inr g
            · exact Or.inl g.symm
          · rintro (g | g)
            · exact Or.inr g.symm
            · exact Or.inl g) (by omega)
        rw [show ((q :: met).length : Int) = (met.length : Int) + 1 by simp] at this
        exact this
  rcases lsS_spec (can := bt cn) (Q 0).toNat 0 (by omega) with ⟨b1, b2⟩ | ⟨b1, b2⟩
  · rw [b1, if_pos rfl]
    obtain ⟨g, rfl⟩ : ∃ g, F = g + 1 := ⟨F - 1, by omega⟩
    rw [fix_succ]
    unfold pb_X5_loopEntry_13
    rw [LI_0, hR.1, show (0 : Int32) = zt 0 from rfl, if_neg (show ¬ (zt (Q 0) < zt 0) by rw [zt_lt (by omega) (by omega) (by omega) (by omega)]; omega), if_pos (show zt (-1) = -1 from rfl)]
    rfl
  · rw [if_neg (by omega), show (0 : Int32) = zt 0 from rfl]
    exact key 13 [] _ (zt 0) F rfl List.nodup_nil (fun y hy => by cases hy) (by omega) b2 (fun j _ _ => by rw [bt_0]; simp) (by omega)
def LpM (M : ZM) (a : Nat) (l : List Int) : Prop := M a 4 = l.length ∧ ∀ (i : Nat) (y : Int), l[i]? = some y → M (a + 3) i = y
theorem up2_4 (M : ZM) (j : Nat) (v : Int) : up2 (LI M) j 4 (zt v) = LI (uM M j 4 v) := up2_z M j 4 v
theorem y_fl24 {cn : Int32} {f : Int} (hF : 20 < F) (hP : wfP Q) (hs : p + 9 ≤ a ∨ a + 4 ≤ p) (hI : CnB Q 0 cn) (hf : 0 ≤ f ∧ f < Q 0) : ∀ (n : Nat) (t q : Int) (l : List Int) (M : ZM) (K : Nat), t + n = Q 0 → l.length = t → (0 ≤ q ∧ q < Q 0) → bt cn q = false → RP M p Q → LpM M a l → n < K →
    ∃ M1, fixN (fun _ _ _ _ => none) (pb_X5_findLoop_24 F p a cn (zt f)) K (zt q) (zt t) (LI M) lg = some (LI M1, lg) ∧ LpM M1 a (l ++ lpS (nxS Q (pEg Q) (bt cn)) f n q) ∧ (∀ e, e ≠ 4 → M1 a e = M a e) ∧ ∀ j, j ≠ a → j ≠ a + 3 → M1 j = M j := by
  have hc := hP.1
  intro n
  induction n with
  | zero =>
    intro t q l M K h1 h2 h3 h4 hR hL hK
    obtain ⟨g, rfl⟩ : ∃ g, K = g + 1 := ⟨K - 1, by omega⟩
    rw [fix_succ, lpS, List.append_nil]
    refine ⟨M, ?_, hL, fun _ _ => rfl, fun _ _ _ => rfl⟩
    unfold pb_X5_findLoop_24
    rw [LI_0, hR.1, if_pos (zle_pos (by omega) (by omega) (by omega))]
  | succ n ih =>
    intro t q l M K h1 h2 h3 h4 hR hL hK
    obtain ⟨g, rfl⟩ : ∃ g, K = g + 1 := ⟨K - 1, by omega⟩
    rw [fix_succ, lpS]
    generalize hr : fixN (fun _ _ _ _ => none) (pb_X5_findLoop_24 F p a cn (zt f)) g = r
    unfold pb_X5_findLoop_24
    rw [LI_0, hR.1, if_neg (zle_neg (by omega) (by omega) (by omega)), if_neg (show ¬ (zt q = -1) by rw [show (-1 : Int32) = zt (-1) from rfl, zt_eq (by omega) (by omega) (by omega) (by omega)]; omega), LI_4, hL.1, h2, mS_z (by omega) (by omega) (by omega), ob_z, LI_4, uM_ne (by omega), hL.1, h2, show (1 : Int32) = zt 1 from rfl, zt_add, up2_4, gnm_z]
    have hM2 : ∀ j, j ≠ a → j ≠ a + 3 → uM (uM M (a + 3) t q) a 4 (t + 1) j = M j := fun j j1 j2 => by funext e; rw [uM_ne j1, uM_ne j2]
    have hA2 : ∀ e, e ≠ 4 → uM (uM M (a + 3) t q) a 4 (t + 1) a e = M a e := fun e he => by rw [uM_nei he, uM_ne (by omega)]
    have hL2 : LpM (uM (uM M (a + 3) t q) a 4 (t + 1)) a (l ++ [q]) := by
      refine ⟨by rw [uM_eq]; simp; omega, fun i y hy => ?_⟩
      rw [uM_ne (by omega)]
      rcases snoc_at hy with hy | ⟨h5, h6⟩
      · have := at_ltG hy
        rw [uM_nei (by omega)]; exact hL.2 i y hy
      · rw [uM_eqi (by omega)]; exact h6
    generalize uM (uM M (a + 3) t q) a 4 (t + 1) = M2 at *
    have hR2 : RP M2 p Q := hR.frP (fun j g1 g2 => hM2 j (by omega) (by omega))
    obtain ⟨k, k1, k2, k3, k4, k5, k6, k7⟩ := y_next (F := F) (lg := lg) (a := a) hF hP hR2 hI h3 h4
    rw [eL_0] at k3 k5 k6
    rw [k2, ob_z, k3, ob_z]
    have hz : (zt (nxS Q (pEg Q) (bt cn) q) = zt f) = (nxS Q (pEg Q) (bt cn) q = f) := zt_eq (by omega) (by omega) (by omega) (by omega)
    by_cases e : nxS Q (pEg Q) (bt cn) q = f
    · rw [if_pos (by rw [hz]; exact e), if_pos e]
      exact ⟨M2, rfl, hL2, hA2, hM2⟩
    · rw [if_neg (by rw [hz]; exact e), if_neg e, ← hr]
      obtain ⟨M1, a1, a2, a3, a4⟩ := ih (t + 1) (nxS Q (pEg Q) (bt cn) q) (l ++ [q]) M2 g (by omega) (by simp; omega) k6.1 k6.2 hR2 hL2 (by omega)
      rw [List.append_assoc] at a2
      exact ⟨M1, a1, a2, fun e he => by rw [a3 e he, hA2 e he], fun j j1 j2 => by rw [a4 j j1 j2, hM2 j j1 j2]⟩
theorem IsC.lp {E : Int → Int → Bool} {can : Int → Bool} (hP : wfP Q) (hI : IsC Q E can) (h0 : lsS can (Q 0).toNat 0 ≠ -1) : ((0 ≤ entS (nxS Q E can) 13 [] (lsS can (Q 0).toNat 0) ∧ entS (nxS Q E can) 13 [] (lsS can (Q 0).toNat 0) < Q 0) ∧ can (entS (nxS Q E can) 13 [] (lsS can (Q 0).toNat 0)) = false) ∧ (∀ n, (Q 0).toNat ≤ n → lpS (nxS Q E can) (entS (nxS Q E can) 13 [] (lsS can (Q 0).toNat 0)) n (entS (nxS Q E can) 13 [] (lsS can (Q 0).toNat 0)) = loopG Q E can) ∧ (loopG Q E can).length ≤ (Q 0).toNat := by
  have hc := hP.1
  rcases lsS_spec (can := can) (Q 0).toNat 0 (by omega) with ⟨b1, b2⟩ | ⟨b1, b2⟩
  · exact absurd b1 h0
  · obtain ⟨s1, d, d1, d2, d3⟩ := entS_ok (nx := nxS Q E can) (c := Q 0) (St := fun q => (0 ≤ q ∧ q < Q 0) ∧ can q = false) hc (fun q hq => by
      obtain ⟨k, k1, k2, k3, k4, k5, k6⟩ := stuck hP hI hq.1 hq.2
      exact ⟨hq.1, by rw [k5]; exact k6, by rw [k5]; exact k4⟩) 13 [] (lsS can (Q 0).toNat 0) rfl List.nodup_nil (fun y hy => by cases hy) trivial ⟨by omega, b2⟩
    have hst := lpS_stab (nx := nxS Q E can) d _ d1 d3
    unfold loopG
    rw [if_neg h0]
    refine ⟨s1, fun n hn => ?_, ?_⟩
    · rw [(hst n (by omega)).1, (hst 13 (by omega)).1]
    · rw [(hst 13 (by omega)).1]
      have := (hst 13 (by omega)).2
      omega
theorem loopG_cong {E : Int → Int → Bool} {can can1 : Int → Bool} (hP : wfP Q) (h : ∀ q, 0 ≤ q → q < Q 0 → can1 q = can q) (hI : IsC Q E can) : loopG Q E can1 = loopG Q E can := by
  have hc := hP.1
  have hI1 : IsC Q E can1 := fun q q0 q1 => by rw [h q q0 q1]; exact hI q q0 q1
  have e1 : ∀ (n : Nat) (i : Int), 0 ≤ i → i + n ≤ Q 0 → lsS can1 n i = lsS can n i := by
    intro n
    induction n with
    | zero => intro i _ _; rfl
    | succ n ih =>
      intro i h0 h1
      unfold lsS
      rw [h i h0 (by omega), ih (i + 1) (by omega) (by omega)]
  have enx : ∀ q, (0 ≤ q ∧ q < Q 0) → nxS Q E can1 q = nxS Q E can q := by
    intro q hq
    have hm := hP.mn hq
    have e2 : ∀ (n : Nat) (k : Int), 0 ≤ k → k + n ≤ pMany Q q → stK Q E can1 q n k = stK Q E can q n k := by
      intro n
      induction n with
      | zero => intro k _ _; rfl
      | succ n ih =>
        intro k h0 h1
        have hr := hP.nd hq (k := k) (by omega)
        unfold stK
        rw [h _ hr.1 hr.2, ih (k + 1) (by omega) (by omega)]
    unfold nxS stS
    rw [e2 _ 0 (by omega) (by omega)]
  have est : ∀ q, ((0 ≤ q ∧ q < Q 0) ∧ can q = false) → (0 ≤ nxS Q E can q ∧ nxS Q E can q < Q 0) ∧ can (nxS Q E can q) = false := fun q hq => by
    obtain ⟨k, k1, k2, k3, k4, k5, k6⟩ := stuck hP hI hq.1 hq.2
    exact ⟨by rw [k5]; exact k6, by rw [k5]; exact k4⟩
  have e3 : ∀ (n : Nat) (met : List Int) (q : Int), ((0 ≤ q ∧ q < Q 0) ∧ can q = false) → entS (nxS Q E can1) n met q = entS (nxS Q E can) n met q := by
    intro n
    induction n with
    | zero => intro met q _; rfl
    | succ n ih =>
      intro met q hq
      unfold entS
      rw [enx q hq.1, ih _ _ (est q hq)]
  have e4 : ∀ (n : Nat) (f q : Int), ((0 ≤ q ∧ q < Q 0) ∧ can q = false) → lpS (nxS Q E can1) f n q = lpS (nxS Q E can) f n q := by
    intro n
    induction n with
    | zero => intro f q _; rfl
    | succ n ih =>
      intro f q hq
      unfold lpS
      rw [enx q hq.1, ih f _ (est q hq)]
  unfold loopG
  rw [e1 _ 0 (by omega) (by omega)]
  by_cases q : lsS can (Q 0).toNat 0 = -1
  · rw [if_pos q, if_pos q]
  · rw [if_neg q, if_neg q]
    rcases lsS_spec (can := can) (Q 0).toNat 0 (by omega) with ⟨b1, b2⟩ | ⟨b1, b2⟩
    · exact absurd b1 q
    · rw [e3 13 [] _ ⟨by omega, b2⟩]
      exact e4 13 _ _ (hI.lp hP q).1
theorem canF_IsC (hP : wfP Q) : IsC Q (pEg Q) (canF Q) := fun _ q0 q1 => canF_iff hP ⟨q0, q1⟩
theorem SndC_0 {E : Int → Int → Bool} : SndC Q E (zt 0) := ⟨fun j _ _ hb => (by rw [bt_0] at hb; cases hb), fun j _ _ hb => (by rw [bt_0] at hb; cases hb)⟩
theorem y_findLoop (hF : 1000 < F) (hP : wfP Q) (hR : RP M p Q) (hs : p + 9 ≤ a ∨ a + 4 ≤ p) : ∃ M1, p_X5_findLoop F p a (LI M) lg = some (LI M1, lg) ∧ LpM M1 a (loopF Q) ∧ (∀ e, e ≠ 4 → M1 a e = M a e) ∧ ∀ j, j ≠ a → j ≠ a + 3 → M1 j = M j := by
  have hc := hP.1
  unfold p_X5_findLoop
  rw [show (0 : Int32) = zt 0 from rfl, up2_4, gnm_z]
  have hM2 : ∀ j, j ≠ a → uM M a 4 0 j = M j := fun j j1 => by funext e; exact uM_ne j1
  have hR2 : RP (uM M a 4 0) p Q := hR.frP (fun j g1 g2 => hM2 j (by omega))
  obtain ⟨v, a1, a2, a3⟩ := y_startable (F := F) (lg := lg) (a := a) (L := 0) (K0 := zt 0) (by omega) hP hR2 SndC_0
  have hI : CnB Q 0 v := a3
  have hI0 : IsC Q (pEg Q) (bt v) := by rw [← eL_0]; exact hI
  have hcn : ∀ q, 0 ≤ q → q < Q 0 → bt v q = canF Q q := fun q q0 q1 => by
    have h1 := hI0 q q0 q1
    have h2 := canF_IsC hP q q0 q1
    cases e1 : bt v q with
    | true => exact (h2.mpr (h1.mp e1)).symm
    | false =>
      cases e2 : canF Q q with
      | false => rfl
      | true => rw [h1.mpr (h2.mp e2)] at e1; cases e1
  have hG : loopG Q (pEg Q) (bt v) = loopF Q := loopG_cong hP hcn (canF_IsC hP)
  rw [a1, ob_z, y_loopEntry (by omega) hP hR2 hI, ob_z, eL_0]
  by_cases q : lsS (bt v) (Q 0).toNat 0 = -1
  · rw [if_pos q]
    have hnil : loopF Q = [] := by
      rw [← hG]
      unfold loopG
      rw [if_pos q]
    rw [hnil]
    refine ⟨uM M a 4 0, ?_, ⟨by rw [uM_eq]; rfl, fun i y hy => (by cases hy)⟩, fun e he => uM_nei he, fun j j1 _ => hM2 j j1⟩
    obtain ⟨g, rfl⟩ : ∃ g, F = g + 1 := ⟨F - 1, by omega⟩
    rw [fix_succ]
    unfold pb_X5_findLoop_24
    rw [if_pos (show zt (-1) = -1 from rfl)]
    split <;> rfl
  · rw [if_neg q]
    obtain ⟨l1, l2, l3⟩ := hI0.lp hP q
    obtain ⟨M1, b1, b2, b3, b4⟩ := y_fl24 (F := F) (lg := lg) (a := a) (p := p) (by omega) hP hs hI l1.1 (Q 0).toNat 0 _ [] (uM M a 4 0) F (by omega) rfl l1.1 l1.2 hR2 ⟨by rw [uM_eq]; rfl, fun i y hy => (by cases hy)⟩ (by omega)
    rw [List.nil_append, l2 _ (Nat.le_refl _), hG] at b2
    exact ⟨M1, b1, b2, fun e he => by rw [b3 e he, uM_nei he], fun j j1 j2 => by rw [b4 j j1 j2, hM2 j j1]⟩
end LP
