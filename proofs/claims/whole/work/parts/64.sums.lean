/-! Sums over rows; the small readers of reference and class. -/
def sumS (f : Int → Int) : Nat → Int → Int
  | 0, _ => 0
  | n + 1, i => f i + sumS f n (i + 1)
theorem sumS_cong {f g : Int → Int} : ∀ (n : Nat) (i : Int), (∀ j, i ≤ j → j < i + n → f j = g j) → sumS f n i = sumS g n i
  | 0, _, _ => rfl
  | n + 1, i, h => by
    rw [sumS, sumS, h i (by omega) (by omega), sumS_cong n (i + 1) (fun j h1 h2 => h j (by omega) (by omega))]
theorem sum_loop {z : Int32 → Int32 → Option Int32} {b : (Int32 → Int32 → Option Int32) → Int32 → Int32 → Option Int32} {f : Int → Int} {N : Int} {F : Nat} (hN : 0 ≤ N) (hF : N < F) (h0 : ∀ r a, b r (zt a) (zt N) = some (zt a)) (h1 : ∀ r a t, 0 ≤ t → t < N → b r (zt a) (zt t) = r (zt (a + f t)) (zt (t + 1))) : fixN z b F (zt 0) (zt 0) = some (zt (sumS f N.toNat 0)) := by
  have key : ∀ (n : Nat) (t a : Int) (K : Nat), 0 ≤ t → t + n = N → n < K → fixN z b K (zt a) (zt t) = some (zt (a + sumS f n t)) := by
    intro n
    induction n with
    | zero =>
      intro t a K g0 g1 hK
      obtain ⟨g, rfl⟩ : ∃ g, K = g + 1 := ⟨K - 1, by omega⟩
      rw [fix_succ, show t = N by omega, h0, sumS, Int.add_zero]
    | succ n ih =>
      intro t a K g0 g1 hK
      obtain ⟨g, rfl⟩ : ∃ g, K = g + 1 := ⟨K - 1, by omega⟩
      rw [fix_succ, h1 _ _ _ g0 (by omega), ih (t + 1) (a + f t) g (by omega) (by omega) (by omega), sumS, Int.add_assoc]
  rw [key N.toNat 0 0 F (by omega) (by omega) (by omega), Int.zero_add]
def vaN (A : Int → Int) : Int := sumS (fun t => A (207 + 8 * t + 2)) (A 206).toNat 0
def mdN (A : Int → Int) : Int := sumS (fun i => A (133 + i)) 12 0
def stN (A : Int → Int) : Int := sumS (fun i => if A (146 + i) ≤ 0 then 0 else 1) 60 0
def toN (A : Int → Int) (p : Int) : Int := sumS (fun t => if A (207 + 8 * t) = p then 1 else 0) (A 206).toNat 0
def hsN (A : Int → Int) (t : Int) : Int := sumS (fun k => if A (207 + 8 * t + (4 + k)) ≤ 0 then 0 else 1) 4 0
section SU
variable {w : Int64} {F : Nat} {M : ZM}
theorem x_valueMany (hF : 70 < F) (hT : wfT (M 1)) : p_X11_valueMany F (LI M) w = some (zt (vaN (M 1))) := by
  have hm := hT.1
  unfold p_X11_valueMany
  rw [show (0 : Int32) = zt 0 from rfl]
  refine sum_loop (N := M 1 206) (by omega) (by omega) (fun r a => ?_) (fun r a t g0 g1 => ?_)
  · unfold pb_X11_valueMany_4
    simp (disch := omega) only [zt_lit, mI_z, ob_z, zt_le]
    rw [if_pos (by omega)]
  · unfold pb_X11_valueMany_4
    simp (disch := omega) only [zt_lit, mI_z, ob_z, zt_le, x_its, zt_add, gnm_z]
    rw [if_neg (by omega)]
theorem x_madeMany (hF : 70 < F) : p_X11_madeMany F (LI M) w = some (zt (mdN (M 1))) := by
  unfold p_X11_madeMany
  rw [show (0 : Int32) = zt 0 from rfl]
  refine sum_loop (N := 12) (by omega) (by omega) (fun r a => ?_) (fun r a t g0 g1 => ?_)
  · unfold pb_X11_madeMany_4
    simp (disch := omega) only [zt_lit, zt_le]
    rw [if_pos (by omega)]
  · unfold pb_X11_madeMany_4
    simp (disch := omega) only [zt_lit, mI_z, ob_z, zt_le, zt_add, gnm_z]
    rw [if_neg (by omega)]
theorem x_standMany (hF : 70 < F) (hS : wfS (M 1)) (hc : M 1 0 ≤ 12) : p_X11_standMany F (LI M) w = some (zt (stN (M 1))) := by
  unfold p_X11_standMany
  rw [show (0 : Int32) = zt 0 from rfl]
  refine sum_loop (N := 60) (by omega) (by omega) (fun r a => ?_) (fun r a t g0 g1 => ?_)
  · unfold pb_X11_standMany_4
    simp (disch := omega) only [zt_lit, zt_le]
    rw [if_pos (by omega)]
  · have hb := hS.2 (t / 12) (t % 12) (by omega) (by omega) (by omega) (by omega)
    rw [show 146 + 12 * (t / 12) + t % 12 = 146 + t by omega] at hb
    unfold pb_X11_standMany_4
    simp (disch := omega) only [zt_lit, mI_z, ob_z, zt_le, zt_add, gnm_z]
    rw [if_neg (by omega)]
    by_cases q : M 1 (146 + t) ≤ 0
    · rw [if_pos q, if_pos q]
    · rw [if_neg q, if_neg q]
theorem x_thingsOf {p : Int} (hF : 70 < F) (hT : wfT (M 1)) (hc : M 1 0 ≤ 12) (hp : 0 ≤ p ∧ p < 12) : p_X11_thingsOf F (zt p) (LI M) w = some (zt (toN (M 1) p)) := by
  have hm := hT.1
  unfold p_X11_thingsOf
  rw [show (0 : Int32) = zt 0 from rfl]
  refine sum_loop (N := M 1 206) (by omega) (by omega) (fun r a => ?_) (fun r a t g0 g1 => ?_)
  · unfold pb_X11_thingsOf_4
    simp (disch := omega) only [zt_lit, mI_z, ob_z, zt_le]
    rw [if_pos (by omega)]
  · have hb := (hT.2 t g0 g1).1
    unfold pb_X11_thingsOf_4
    simp (disch := omega) only [zt_lit, mI_z, ob_z, zt_le, x_its, zt_add, gnm_z, Int.add_zero, zt_eq]
    rw [if_neg (by omega)]
    by_cases q : M 1 (207 + 8 * t) = p
    · rw [if_pos q, if_pos q]
    · rw [if_neg q, if_neg q, Int.add_zero]
theorem x_hasMany {t : Int} (hF : 70 < F) (hT : wfT (M 1)) (ht : 0 ≤ t ∧ t < M 1 206) : p_X11_hasMany F (zt t) (LI M) w = some (zt (hsN (M 1) t)) := by
  have hm := hT.1
  unfold p_X11_hasMany
  rw [show (0 : Int32) = zt 0 from rfl]
  refine sum_loop (N := 4) (by omega) (by omega) (fun r a => ?_) (fun r a k g0 g1 => ?_)
  · unfold pb_X11_hasMany_4
    simp (disch := omega) only [zt_lit, zt_le]
    rw [if_pos (by omega)]
  · have hb := (hT.2 t ht.1 ht.2).2.2.2 k g0 g1
    unfold pb_X11_hasMany_4
    simp (disch := omega) only [zt_lit, mI_z, ob_z, zt_le, x_its, zt_add, gnm_z]
    rw [if_neg (by omega)]
    by_cases q : M 1 (207 + 8 * t + (4 + k)) ≤ 0
    · rw [if_pos q, if_pos q]
    · rw [if_neg q, if_neg q]
end SU
section SC
variable {F : Nat} {lg : Nat → Nat → Int64} {M : ZM} {b p : Nat} {A : Int → Int}
theorem y_countValued (hF : 70 < F) (hT : wfT A) (hR : RT M b A) : p_X7_countValued F (b + 3) (LI M) lg = some (zt (vaN A)) := by
  have hm := hT.1
  unfold p_X7_countValued vaN
  rw [show (0 : Int32) = zt 0 from rfl]
  refine sum_loop (N := A 206) (by omega) (by omega) (fun r a => ?_) (fun r a t g0 g1 => ?_)
  · unfold pb_X7_countValued_4
    simp (disch := omega) only [zt_lit, LI_0, hR.2.1, zt_le]
    rw [if_pos (by omega)]
  · have hb := (hT.2 t g0 g1).2.2.1
    obtain ⟨-, -, r3, -⟩ := hR.2.2 t g0 g1
    unfold pb_X7_countValued_4
    simp (disch := omega) only [zt_lit, LI_0, hR.2.1, mI_z, ob_z, r3, zt_le, zt_add, zt_eq]
    rw [if_neg (by omega)]
    by_cases q : A (207 + 8 * t + 2) = 0
    · rw [if_pos q, q, Int.add_zero]
    · rw [if_neg q, show A (207 + 8 * t + 2) = 1 by omega]
theorem y_countMade (hF : 70 < F) (hR : RT M b A) : p_X0_countMade F p b (LI M) lg = some (zt (mdN A)) := by
  unfold p_X0_countMade mdN
  rw [gnm_z, show (0 : Int32) = zt 0 from rfl, zt_ofNat]
  refine sum_loop (N := 12) (by omega) (by omega) (fun r a => ?_) (fun r a t g0 g1 => ?_)
  · unfold pb_X0_countMade_13
    simp (disch := omega) only [zt_lit, zt_le]
    rw [if_pos (by omega)]
  · unfold pb_X0_countMade_13
    simp (disch := omega) only [zt_lit, mI_z, ob_z, zt_le, zt_add, gnm_z, hR.1 t g0 g1]
    rw [if_neg (by omega)]
theorem y_countStandIns (hF : 70 < F) (hS : wfS A) (hc : A 0 ≤ 12) (hR : RS M b A) : p_X0_countStandIns F p b (LI M) lg = some (zt (stN A)) := by
  unfold p_X0_countStandIns stN
  rw [gnm_z, show (0 : Int32) = zt 0 from rfl, zt_ofNat]
  refine sum_loop (N := 60) (by omega) (by omega) (fun r a => ?_) (fun r a t g0 g1 => ?_)
  · unfold pb_X0_countStandIns_13
    simp (disch := omega) only [zt_lit, zt_le]
    rw [if_pos (by omega)]
  · have hb := hS.2 (t / 12) (t % 12) (by omega) (by omega) (by omega) (by omega)
    have hr := hR.2 (t / 12) (t % 12) (by omega) (by omega) (by omega) (by omega)
    rw [show 146 + 12 * (t / 12) + t % 12 = 146 + t by omega] at hb hr
    rw [show t / 12 * 12 + t % 12 = t by omega] at hr
    unfold pb_X0_countStandIns_13
    simp (disch := omega) only [zt_lit, zt_neg, mI_z, ob_z, zt_le, zt_add, hr, zt_eq]
    rw [if_neg (by omega)]
    by_cases q : A (146 + t) ≤ 0
    · rw [if_pos (by omega), if_pos q, Int.add_zero]
    · rw [if_neg (by omega), if_neg q]
theorem y_countOf {i : Int} (hF : 70 < F) (hT : wfT A) (hc : A 0 ≤ 12) (hi : 0 ≤ i ∧ i < 12) (hR : RT M b A) : p_X7_countOf F (b + 3) (zt i) (LI M) lg = some (zt (toN A i)) := by
  have hm := hT.1
  unfold p_X7_countOf toN
  rw [show (0 : Int32) = zt 0 from rfl]
  refine sum_loop (N := A 206) (by omega) (by omega) (fun r a => ?_) (fun r a t g0 g1 => ?_)
  · unfold pb_X7_countOf_4
    simp (disch := omega) only [zt_lit, LI_0, hR.2.1, zt_le]
    rw [if_pos (by omega)]
  · have hb := (hT.2 t g0 g1).1
    obtain ⟨r1, -⟩ := hR.2.2 t g0 g1
    unfold pb_X7_countOf_4
    simp (disch := omega) only [zt_lit, LI_0, hR.2.1, mI_z, ob_z, r1, zt_le, zt_add, zt_eq]
    rw [if_neg (by omega)]
    by_cases q : A (207 + 8 * t) = i
    · rw [if_pos q, if_pos q]
    · rw [if_neg q, if_neg q, Int.add_zero]
theorem y_ownedG {t k : Int} (ht : -2147483648 ≤ t ∧ t < 2147483648) (hk : -2147483648 ≤ k ∧ k < 2147483648) (hT : wfT A) (hR : RT M b A) : p_X7_ownedAt F (b + 3) (zt t) (zt k) (LI M) lg = some (zt (if (0 ≤ t ∧ t < A 206) ∧ 0 ≤ k ∧ k < 4 then A (207 + 8 * t + (4 + k)) - 1 else -1)) := by
  have hm := hT.1
  unfold p_X7_ownedAt
  rw [y_holds7 ht (by rw [hR.2.1]; exact hm), ob_z, hR.2.1]
  by_cases q : 0 ≤ t ∧ t < A 206
  · rw [if_pos q]
    simp (disch := omega) only [zt_lit, zt_neg, zt_eq, zt_lt]
    rw [if_neg (by omega)]
    by_cases q1 : k < 0
    · rw [if_pos q1, if_neg (by omega)]
    · rw [if_neg q1]
      by_cases q2 : k < 4
      · rw [if_pos q2, if_pos ⟨q, by omega, q2⟩]
        simp (disch := omega) only [zt_mul, zt_add, mI_z, ob_z]
        rw [(hR.2.2 t q.1 q.2).2.2.2.2 k (by omega) q2]
      · rw [if_neg q2, if_neg (by omega)]
  · rw [if_neg q, if_pos (show zt 0 = 0 from rfl), if_neg (fun h => q h.1)]
    rfl
theorem y_countOwned {t : Int} (hF : 70 < F) (hT : wfT A) (ht : 0 ≤ t ∧ t < A 206) (hR : RT M b A) : p_X7_countOwned F (b + 3) (zt t) (LI M) lg = some (zt (hsN A t)) := by
  have hm := hT.1
  unfold p_X7_countOwned hsN
  rw [show (0 : Int32) = zt 0 from rfl]
  refine sum_loop (N := 4) (by omega) (by omega) (fun r a => ?_) (fun r a k g0 g1 => ?_)
  · unfold pb_X7_countOwned_4
    simp (disch := omega) only [zt_lit, zt_le]
    rw [if_pos (by omega)]
  · have hb := (hT.2 t ht.1 ht.2).2.2.2 k g0 g1
    unfold pb_X7_countOwned_4
    have ho := y_ownedG (F := F) (lg := lg) (A := A) (M := M) (b := b) (t := t) (k := k) (by omega) (by omega) hT hR
    rw [if_pos ⟨ht, g0, g1⟩] at ho
    rw [ho]
    simp (disch := omega) only [zt_lit, zt_neg, ob_z, zt_le, zt_add, zt_eq]
    rw [if_neg (by omega)]
    by_cases q : A (207 + 8 * t + (4 + k)) ≤ 0
    · rw [if_pos (by omega), if_pos q, Int.add_zero]
    · rw [if_neg (by omega), if_neg q]
theorem y_whyAt {k : Int} (hk : -2147483648 ≤ k ∧ k < 2147483648) (hc : 0 ≤ A 809 ∧ A 809 ≤ 73) (hR : RW M b A) : p_X9_whyAt F (b + 10) (zt k) (LI M) lg = some (zt (if 0 ≤ k ∧ k < A 809 then A (811 + k) else -1)) := by
  unfold p_X9_whyAt
  simp (disch := omega) only [zt_lit, zt_neg, LI_1, hR.2.1, zt_lt, zt_le]
  by_cases q1 : k < 0
  · rw [if_pos q1, if_neg (by omega)]
  · rw [if_neg q1]
    by_cases q2 : A 809 ≤ k
    · rw [if_pos q2, if_neg (by omega)]
    · rw [if_neg q2, if_pos (by omega)]
      simp (disch := omega) only [mI_z, ob_z]
      rw [hR.2.2.1 k (by omega) (by omega)]
theorem y_endedAt {k : Int} (hk : -2147483648 ≤ k ∧ k < 2147483648) (hc : 0 ≤ A 687 ∧ A 687 ≤ 60) (hR : RW M b A) : p_X9_endedAt F (b + 10) (zt k) (LI M) lg = some (zt (if 0 ≤ k ∧ k < A 687 then A (688 + k) else -1)) := by
  unfold p_X9_endedAt
  simp (disch := omega) only [zt_lit, zt_neg, LI_3, hR.2.2.2.1, zt_lt, zt_le]
  by_cases q1 : k < 0
  · rw [if_pos q1, if_neg (by omega)]
  · rw [if_neg q1]
    by_cases q2 : A 687 ≤ k
    · rw [if_pos q2, if_neg (by omega)]
    · rw [if_neg q2, if_pos (by omega)]
      simp (disch := omega) only [mI_z, ob_z]
      rw [hR.2.2.2.2 k (by omega) (by omega)]
theorem y_needG {i k : Int} (hi : -2147483648 ≤ i ∧ i < 2147483648) (hk : -2147483648 ≤ k ∧ k < 2147483648) (hP : wfP A) (hR : RP M p A) : p_X3_needAt F p (zt i) (zt k) (LI M) lg = some (zt (if (0 ≤ i ∧ i < A 0) ∧ 0 ≤ k ∧ k < A (1 + 11 * i + 2) then A (1 + 11 * i + (3 + k)) else -1)) := by
  have hc := hP.1
  unfold p_X3_needAt
  rw [y_holds3 hi (by rw [hR.1]; exact hc), ob_z, hR.1]
  by_cases q : 0 ≤ i ∧ i < A 0
  · obtain ⟨-, h2, -⟩ := hP.2 i q.1 q.2
    obtain ⟨-, -, -, -, -, r6, -, r8⟩ := hR.2 i q.1 q.2
    rw [if_pos q]
    simp (disch := omega) only [zt_lit, zt_neg, zt_eq, zt_lt, mI_z, ob_z, r6]
    rw [if_neg (by omega)]
    by_cases q1 : k < 0
    · rw [if_pos q1, if_neg (by omega)]
    · rw [if_neg q1]
      by_cases q2 : k < A (1 + 11 * i + 2)
      · rw [if_pos q2, if_pos ⟨q, by omega, q2⟩]
        simp (disch := omega) only [zt_mul, zt_add, mI_z, ob_z]
        rw [r8 k (by omega) q2]
      · rw [if_neg q2, if_neg (by omega)]
  · rw [if_neg q, if_pos (show zt 0 = 0 from rfl), if_neg (fun h => q h.1)]
    rfl
end SC
