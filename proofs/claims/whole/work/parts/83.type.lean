/-! Typing: both append the same bytes. -/
def by8 (v : Int64) (i : Int) : Int32 := Int8.toInt32 (Int32.toInt8 (Int64.toInt32 (v >>> ((Int32.toInt64 (zt (56 - 8 * i))) &&& 63))))
def byz (v : Int64) (i : Int) : Int := (by8 v i).toInt
theorem by8_z (v : Int64) (i : Int) : by8 v i = zt (byz v i) := (zt_as _).symm
theorem byz_rng (v : Int64) (i : Int) : -128 ≤ byz v i ∧ byz v i ≤ 127 := by
  unfold byz by8
  rw [Int8.toInt_toInt32]
  have h1 := Int8.toInt_lt (Int32.toInt8 (Int64.toInt32 (v >>> ((Int32.toInt64 (zt (56 - 8 * i))) &&& 63))))
  have h2 := Int8.le_toInt (Int32.toInt8 (Int64.toInt32 (v >>> ((Int32.toInt64 (zt (56 - 8 * i))) &&& 63))))
  omega
theorem sh_ref : ∀ i : Nat, i < 8 → (((Int32.toInt64 (zt (56 - 8 * (i : Int)))) &&& 63).toBitVec.smod 64).toNat = 56 - 8 * i := by decide
theorem sh_cls : ∀ i : Nat, i < 8 → (((Int64.toUInt64 (Int32.toInt64 (zt (56 - 8 * (i : Int))))) &&& Int64.toUInt64 63).toBitVec % 64).toNat = 56 - 8 * i := by decide
theorem lo8 (y : Int64) (j : Nat) (h : j < 8) : (Int32.toInt8 (Int64.toInt32 y)).toBitVec.getLsbD j = y.toBitVec.getLsbD j := by
  rw [Int32.toBitVec_toInt8, Int64.toBitVec_toInt32, BitVec.getLsbD_signExtend, BitVec.getLsbD_signExtend]
  have h1 : j < 32 := by omega
  have h2 : j < 64 := by omega
  simp only [h, h1, h2, decide_true, Bool.true_and, if_true]
theorem sr_bit (v : Int64) {i j : Nat} (hi : i < 8) (hj : j < 8) : (v >>> ((Int32.toInt64 (zt (56 - 8 * (i : Int)))) &&& 63)).toBitVec.getLsbD j = v.toBitVec.getLsbD (56 - 8 * i + j) := by
  rw [Int64.toBitVec_shiftRight, BitVec.sshiftRight', sh_ref i hi, BitVec.getLsbD_sshiftRight]
  have h1 : ¬ (64 ≤ j) := by omega
  have h2 : 56 - 8 * i + j < 64 := by omega
  simp only [h1, h2, decide_false, Bool.not_false, Bool.true_and, if_true]
theorem ur_bit (v : Int64) {i j : Nat} (hi : i < 8) (hj : j < 8) : (((Int64.toUInt64 v) >>> ((Int64.toUInt64 (Int32.toInt64 (zt (56 - 8 * (i : Int))))) &&& Int64.toUInt64 63)).toInt64).toBitVec.getLsbD j = v.toBitVec.getLsbD (56 - 8 * i + j) := by
  rw [UInt64.toBitVec_toInt64, UInt64.toBitVec_shiftRight, BitVec.ushiftRight_eq', sh_cls i hi, BitVec.getLsbD_ushiftRight, Int64.toBitVec_toUInt64]
theorem i8_ext {a b : Int8} (h : ∀ j, j < 8 → a.toBitVec.getLsbD j = b.toBitVec.getLsbD j) : a = b := Int8.toBitVec.inj (BitVec.eq_of_getLsbD_eq h)
theorem by_cls (v : Int64) {i : Int} (hi : 0 ≤ i ∧ i < 8) : Int8.toInt32 (Int32.toInt8 (Int64.toInt32 (((Int64.toUInt64 v) >>> ((Int64.toUInt64 (Int32.toInt64 (zt (56 - 8 * i)))) &&& Int64.toUInt64 63)).toInt64))) = by8 v i := by
  unfold by8
  congr 1
  refine i8_ext (fun j hj => ?_)
  rw [lo8 _ _ hj, lo8 _ _ hj]
  obtain ⟨k, rfl⟩ : ∃ k : Nat, i = (k : Int) := ⟨i.toNat, by omega⟩
  rw [sr_bit v (by omega) hj, ur_bit v (by omega) hj]
theorem m255 : ∀ j : Nat, j < 64 → (255 : Int64).toBitVec.getLsbD j = decide (j < 8) := by decide
theorem by_zero (v : Int64) {i : Int} : (lg_cmp ((v >>> ((Int32.toInt64 (zt (56 - 8 * i))) &&& 63)) &&& (255 : Int64)) (0 : Int64)) = 0 ↔ byz v i = 0 := by
  rw [lg_cmp_eq]
  unfold byz by8
  rw [Int8.toInt_toInt32]
  generalize v >>> ((Int32.toInt64 (zt (56 - 8 * i))) &&& 63) = y
  have e0 : (Int32.toInt8 (Int64.toInt32 y)).toInt = 0 ↔ Int32.toInt8 (Int64.toInt32 y) = 0 := by
    rw [← Int8.toInt_inj]
    exact Iff.rfl
  rw [e0]
  constructor
  · intro h
    refine i8_ext (fun j hj => ?_)
    rw [lo8 _ _ hj]
    have := congrArg (fun z : Int64 => z.toBitVec.getLsbD j) h
    simp only [Int64.toBitVec_and, BitVec.getLsbD_and, m255 j (by omega), hj, decide_true, Bool.and_true] at this
    rw [this]
    simp
  · intro h
    refine Int64.toBitVec.inj (BitVec.eq_of_getLsbD_eq (fun j hj => ?_))
    rw [Int64.toBitVec_and, BitVec.getLsbD_and, m255 j hj]
    by_cases q : j < 8
    · have := congrArg (fun z : Int8 => z.toBitVec.getLsbD j) h
      simp only [lo8 _ _ q] at this
      rw [this]
      simp
    · simp [q]
def nzB (v : Int64) : Nat → Int → Int
  | 0, i => i
  | m + 1, i => if byz v i = 0 then i else nzB v m (i + 1)
theorem nzB_rng (v : Int64) : ∀ (m : Nat) (i : Int), i ≤ nzB v m i ∧ nzB v m i ≤ i + m
  | 0, i => by unfold nzB; omega
  | m + 1, i => by
    have := nzB_rng v m (i + 1)
    unfold nzB
    split <;> omega
def tyT (T : Int → Int) (s N : Int) (v : Int64) : Int → Int := fun e => if s ≤ e ∧ e < s + N then byz v (e - s) else T e
theorem tyT_rng {T : Int → Int} {s N : Int} {v : Int64} (h : ∀ e, -128 ≤ T e ∧ T e ≤ 127) : ∀ e, -128 ≤ tyT T s N v e ∧ tyT T s N v e ≤ 127 := by
  intro e
  unfold tyT
  split
  · exact byz_rng _ _
  · exact h e
section TY
variable {w : Int64} {F : Nat} {v : Int64}
theorem x_ty7 {sg : Nat → Nat → Int32} : ∀ (m : Nat) (i : Int) (K : Nat), i + m = 8 → 0 ≤ i → m < K → fixN (fun _ => none) (pb_X11_type_7 F v sg w) K (zt i) = pk_X11_type_37 F v (zt (nzB v m i)) sg w := by
  intro m
  induction m with
  | zero =>
    intro i K h1 h2 hK
    obtain ⟨g, rfl⟩ : ∃ g, K = g + 1 := ⟨K - 1, by omega⟩
    rw [fix_succ]
    unfold pb_X11_type_7 nzB
    simp (disch := omega) only [zt_lit, zt_le]
    rw [if_pos (by omega)]
  | succ m ih =>
    intro i K h1 h2 hK
    obtain ⟨g, rfl⟩ : ∃ g, K = g + 1 := ⟨K - 1, by omega⟩
    rw [fix_succ]
    generalize hr : fixN (fun _ => none) (pb_X11_type_7 F v sg w) g = r
    unfold pb_X11_type_7 nzB
    rw [show (8 : Int32) = zt 8 from rfl, show (56 : Int32) = zt 56 from rfl, zt_mul, zt_sub, show (1 : Int32) = zt 1 from rfl, zt_add, if_neg (show ¬ (zt 8 ≤ zt i) by rw [zt_le (by omega) (by omega) (by omega) (by omega)]; omega)]
    by_cases q : byz v i = 0
    · rw [if_pos ((by_zero v).mpr q), if_pos q]
    · rw [if_neg (fun e => q ((by_zero v).mp e)), if_neg q, ← hr, ih (i + 1) g (by omega) (by omega) (by omega)]
theorem LI_891 {R : ZM} : mI (LI R) 1 4470 (zt 891) = some (zt (R 1 891)) := mI_z (by omega) (by omega) (by omega)
theorem x_ty58 {s N : Int} (hs : 0 ≤ s) (hN : 0 ≤ N ∧ N ≤ 8) (hsN : s + N ≤ 600) : ∀ (c : Nat) (k : Int) (R : ZM) (K : Nat), k + c = N → 0 ≤ k → R 1 891 = s + k → c < K →
    ∃ R1, fixN (fun _ _ _ => none) (pb_X11_type_58 F v (zt N)) K (zt k) (LI R) w = some (zt (s + N), LI R1, w) ∧ R1 1 = ua (R 1) 891 (s + N) ∧ (∀ e, R1 2 e = if s + k ≤ e ∧ e < s + N then byz v (e - s) else R 2 e) ∧ ∀ j, j ≠ 1 → j ≠ 2 → R1 j = R j := by
  intro c
  induction c with
  | zero =>
    intro k R K hk hk0 h8 hK
    obtain ⟨g, rfl⟩ : ∃ g, K = g + 1 := ⟨K - 1, by omega⟩
    rw [fix_succ]
    refine ⟨R, ?_, ?_, fun e => ?_, fun _ _ _ => rfl⟩
    · unfold pb_X11_type_58 pk_X11_type_107
      simp (disch := omega) only [zt_lit, zt_le, LI_891, ob_z, h8]
      rw [if_pos (by omega), show s + k = s + N by omega]
    · funext e
      unfold ua
      by_cases q : e = 891
      · rw [if_pos q, q, h8]; omega
      · rw [if_neg q]
    · rw [if_neg (by omega)]
  | succ c ih =>
    intro k R K hk hk0 h8 hK
    obtain ⟨g, rfl⟩ : ∃ g, K = g + 1 := ⟨K - 1, by omega⟩
    rw [fix_succ]
    generalize hr : fixN (fun _ _ _ => none) (pb_X11_type_58 F v (zt N)) g = r
    have hb := byz_rng v k
    have e8 : Int8.toInt32 (Int32.toInt8 (Int64.toInt32 (v >>> ((Int32.toInt64 (zt (56 - 8 * k))) &&& 63)))) = zt (byz v k) := by8_z v k
    unfold pb_X11_type_58
    simp (disch := omega) only [zt_lit, zt_le, LI_891, ob_z, h8, zt_mul, zt_sub, e8, zt_add]
    rw [if_neg (by omega), nar_by hb]
    simp (disch := omega) only [mS_z, ob_z, LI_891]
    have e1 : uM R 2 (s + k) (byz v k) 1 = R 1 := by funext e; exact uM_ne (by omega)
    rw [e1, h8, zt_add]
    simp (disch := omega) only [mS_z, ob_z]
    rw [← hr]
    obtain ⟨R1, a1, a2, a3, a4⟩ := ih (k + 1) (uM (uM R 2 (s + k) (byz v k)) 1 891 (s + k + 1)) g (by omega) (by omega) (by rw [uM_eq]; omega) (by omega)
    refine ⟨R1, a1, ?_, fun e => ?_, fun j j1 j2 => ?_⟩
    · rw [a2]
      funext e
      unfold ua
      by_cases q : e = 891
      · rw [if_pos q, if_pos q]
      · rw [if_neg q, if_neg q, uM_nei q, uM_ne (by omega)]
    · rw [a3 e]
      by_cases q : e = s + k
      · subst q
        rw [if_neg (by omega), if_pos (by omega), uM_ne (by omega), uM_eq]
        congr 1
        omega
      · rw [uM_ne (by omega), uM_nei q]
        by_cases q2 : s + k ≤ e ∧ e < s + N
        · rw [if_pos q2, if_pos (by omega)]
        · rw [if_neg q2, if_neg (by omega)]
    · rw [a4 j j1 j2]
      funext e
      rw [uM_ne j1, uM_ne j2]
theorem x_type {R : ZM} {U : List (Int → Int)} {I : IMG} (hF : 1000 < F) (hT : TxR (R 1) (R 2)) (hU : RU R U) (hI : II R I) :
    (600 < R 1 891 + nzB v 8 0 → p_X11_type F v (LI R) w = some (zt (-1), LI (R0 R), w)) ∧
    (R 1 891 + nzB v 8 0 ≤ 600 → ∃ R1, p_X11_type F v (LI R) w = some (zt (R 1 891 + nzB v 8 0), LI R1, w) ∧ R1 1 = ua (R 1) 891 (R 1 891 + nzB v 8 0) ∧ R1 2 = tyT (R 2) (R 1 891) (nzB v 8 0) v ∧ RU R1 U ∧ II R1 I) := by
  have hn := nzB_rng v 8 0
  have hl := hT.1
  have e1 : R0 R 1 = R 1 := R0_row (by omega)
  unfold p_X11_type
  rw [show (0 : Int32) = zt 0 from rfl, R0_z, gnm_z, x_ty7 8 0 F (by omega) (by omega) (by omega)]
  unfold pk_X11_type_37
  simp (disch := omega) only [zt_lit, LI_891, ob_z, e1, zt_add, zt_le]
  refine ⟨fun h => by rw [if_neg (by omega)]; rfl, fun h => ?_⟩
  rw [if_pos h]
  obtain ⟨R1, a1, a2, a3, a4⟩ := x_ty58 (w := w) (F := F) (v := v) (s := R 1 891) (N := nzB v 8 0) (by omega) (by omega) h (nzB v 8 0).toNat 0 (R0 R) F (by omega) (by omega) (by rw [e1]; omega) (by omega)
  have e2 : R0 R 2 = R 2 := R0_row (by omega)
  have h2 : R1 2 = tyT (R 2) (R 1 891) (nzB v 8 0) v := by
    funext e
    rw [a3 e, e2, Int.add_zero]
    rfl
  refine ⟨R1, a1, by rw [a2, e1], h2, (hU.frame (R0_fru R)).frame ⟨a4 4 (by omega) (by omega), by rw [a4 0 (by omega) (by omega)]⟩, fun k hk => ?_⟩
  obtain ⟨i1, i2⟩ := hI k hk
  rw [a4 3 (by omega) (by omega), R0_row (by omega)]
  refine ⟨i1, fun C S hq => ?_⟩
  obtain ⟨j1, j2, j3⟩ := i2 C S hq
  refine ⟨j1, fun e g1 g2 => ?_, fun e g1 g2 => ?_⟩
  · rw [a2, ua_ne (by omega), e1]; exact j2 e g1 g2
  · rw [h2]
    unfold tyT
    rw [if_neg (by omega)]
    exact j3 e g1 g2
end TY
section TC
variable {B : Int} {x : Nat} {K : HK} {pr : HP} {pt : Nat → Nat} {rr : HP} {n : Nat} {M : ZM} {lg : Nat → Nat → Int64} {A T : Int → Int} {U : List (Int → Int)} {I : IMG} {F : Nat} {v : Int64}
theorem y_byteOf {sg : Nat → Nat → Int32} {i : Int} (hi : 0 ≤ i ∧ i < 8) : p_X2_byteOf F v (zt i) sg lg = some (zt (byz v i)) := by
  unfold p_X2_byteOf
  rw [show (8 : Int32) = zt 8 from rfl, show (56 : Int32) = zt 56 from rfl, zt_mul, zt_sub, by_cls v hi, by8_z]
  unfold rP
  rw [if_pos (nar_by (byz_rng v i))]
theorem y_ap2 {sg : Nat → Nat → Int32} {a : Nat} : ∀ (m : Nat) (i : Int) (K : Nat), i + m = 8 → 0 ≤ i → m < K → fixN (fun _ => none) (pb_X2_append_2 F a v sg lg) K (zt i) = pk_X2_append_22 F a v (zt (nzB v m i)) sg lg := by
  intro m
  induction m with
  | zero =>
    intro i K h1 h2 hK
    obtain ⟨g, rfl⟩ : ∃ g, K = g + 1 := ⟨K - 1, by omega⟩
    rw [fix_succ]
    unfold pb_X2_append_2 nzB
    simp (disch := omega) only [zt_lit, zt_le]
    rw [if_pos (by omega)]
  | succ m ih =>
    intro i K h1 h2 hK
    obtain ⟨g, rfl⟩ : ∃ g, K = g + 1 := ⟨K - 1, by omega⟩
    rw [fix_succ]
    generalize hr : fixN (fun _ => none) (pb_X2_append_2 F a v sg lg) g = r
    have hb := byz_rng v i
    unfold pb_X2_append_2 nzB
    rw [y_byteOf (by omega), ob_z]
    simp (disch := omega) only [zt_lit, zt_le, zt_add, zt_eq]
    rw [if_neg (by omega)]
    by_cases q : byz v i = 0
    · rw [if_pos q, if_pos q]
    · rw [if_neg q, if_neg q, ← hr, ih (i + 1) g (by omega) (by omega) (by omega)]
theorem y_ap39 {a : Nat} {s N : Int} (hs : 0 ≤ s) (hN : 0 ≤ N ∧ N ≤ 8) (hsN : s + N ≤ 600) : ∀ (c : Nat) (k : Int) (M : ZM) (K : Nat), k + c = N → 0 ≤ k → M a 1 = s → c < K →
    ∃ M1, fixN (fun _ _ _ => none) (pb_X2_append_39 F a v (zt N)) K (zt k) (LI M) lg = some (zt (s + N), LI M1, lg) ∧ (∀ e, M1 a e = if e = 1 then s + N else M a e) ∧ (∀ e, M1 (a + 1) e = if s + k ≤ e ∧ e < s + N then byz v (e - s) else M (a + 1) e) ∧ ∀ j, j ≠ a → j ≠ a + 1 → M1 j = M j := by
  intro c
  induction c with
  | zero =>
    intro k M K hk hk0 h8 hK
    obtain ⟨g, rfl⟩ : ∃ g, K = g + 1 := ⟨K - 1, by omega⟩
    rw [fix_succ]
    refine ⟨uM M a 1 (s + N), ?_, fun e => ?_, fun e => ?_, fun j j1 j2 => by funext e; exact uM_ne j1⟩
    · unfold pb_X2_append_39 pk_X2_append_69
      simp (disch := omega) only [zt_le]
      rw [if_pos (by omega), LI_1, h8, zt_add, up2_1, gnm_z, LI_1, uM_eq]
    · by_cases q : e = 1
      · rw [if_pos q, q, uM_eq]
      · rw [if_neg q, uM_nei q]
    · rw [if_neg (by omega), uM_ne (by omega)]
  | succ c ih =>
    intro k M K hk hk0 h8 hK
    obtain ⟨g, rfl⟩ : ∃ g, K = g + 1 := ⟨K - 1, by omega⟩
    rw [fix_succ]
    generalize hr : fixN (fun _ _ _ => none) (pb_X2_append_39 F a v (zt N)) g = r
    have hb := byz_rng v k
    unfold pb_X2_append_39
    rw [y_byteOf (by omega), ob_z, nar_by hb, LI_1, h8]
    simp (disch := omega) only [zt_lit, zt_le, zt_add, mS_z, ob_z]
    rw [if_neg (by omega), ← hr]
    obtain ⟨M1, a1, a2, a3, a4⟩ := ih (k + 1) (uM M (a + 1) (s + k) (byz v k)) g (by omega) (by omega) (by rw [uM_ne (by omega)]; exact h8) (by omega)
    refine ⟨M1, a1, fun e => ?_, fun e => ?_, fun j j1 j2 => ?_⟩
    · rw [a2 e, uM_ne (by omega)]
    · rw [a3 e]
      by_cases q : e = s + k
      · subst q
        rw [if_neg (by omega), if_pos (by omega), uM_eq]
        congr 1
        omega
      · rw [uM_nei q]
        by_cases q2 : s + k ≤ e ∧ e < s + N
        · rw [if_pos q2, if_pos (by omega)]
        · rw [if_neg q2, if_neg (by omega)]
    · rw [a4 j j1 j2]
      funext e
      rw [uM_ne j2]
theorem v_type (hF : 1000 < F) (h : CI B x K pr pt rr n M lg A T U I) : (600 < A 891 + nzB v 8 0 → StC B x M lg A T U I (-1) (f_X10_type F x v n (hp K pr pt rr (LI M) lg))) ∧ (A 891 + nzB v 8 0 ≤ 600 → StC B x M lg (ua A 891 (A 891 + nzB v 8 0)) (tyT T (A 891) (nzB v 8 0) v) U I (A 891 + nzB v 8 0) (f_X10_type F x v n (hp K pr pt rr (LI M) lg))) := by
  have hs := h.1
  have hn := nzB_rng v 8 0
  obtain ⟨p1, p2, p3, p4⟩ := h.2.2.1.1
  obtain ⟨hl, hT⟩ := h.2.2.1.2
  unfold f_X10_type
  rw [v_gR hs.o10 rfl hs.r0]
  have key : p_X2_append F (x + 1) v (LI M) lg = pk_X2_append_22 F (x + 1) v (zt (nzB v 8 0)) (LI M) lg := by
    unfold p_X2_append
    exact y_ap2 8 0 F (by omega) (by omega) (by omega)
  refine ⟨fun e => ?_, fun e => ?_⟩
  · have k2 : p_X2_append F (x + 1) v (LI M) lg = some (zt (-1), LI M, lg) := by
      rw [key]
      unfold pk_X2_append_22
      rw [LI_1, p1]
      simp (disch := omega) only [zt_lit, zt_add, zt_le]
      rw [if_neg (by omega)]
      rfl
    rw [v_cvI hs.pap.k0 (r_eI (e_X2_append hs.pap) k2)]
    exact h.same rfl
  · obtain ⟨M1, a1, a2, a3, a4⟩ := y_ap39 (F := F) (lg := lg) (v := v) (a := x + 1) (s := A 891) (N := nzB v 8 0) (by omega) (by omega) e (nzB v 8 0).toNat 0 M F (by omega) (by omega) p1 (by omega)
    have k2 : p_X2_append F (x + 1) v (LI M) lg = some (zt (A 891 + nzB v 8 0), LI M1, lg) := by
      rw [key]
      unfold pk_X2_append_22
      rw [LI_1, p1]
      simp (disch := omega) only [zt_lit, zt_add, zt_le]
      rw [if_pos e]
      exact a1
    rw [v_cvI hs.pap.k0 (r_eI (e_X2_append hs.pap) k2)]
    refine ⟨_, _, _, _, _, _, _, rfl, h.setP (fun j j1 j2 => a4 j j1 (by omega)) (fun y y1 y2 => ua_ne (by omega)) ⟨?_, ?_, ?_, fun y y1 y2 => ?_⟩ ⟨by rw [ua_eq]; omega, tyT_rng hT⟩, fun j g1 g2 => a4 j (by omega) (by omega), rfl⟩
    · rw [a2, if_pos rfl, ua_eq]
    · rw [a2, if_neg (by omega), ua_ne (by omega)]; exact p2
    · rw [a2, if_neg (by omega), ua_ne (by omega)]; exact p3
    · rw [ua_eq] at y2
      rw [a3 y]
      unfold tyT
      rw [Int.add_zero]
      by_cases q : A 891 ≤ y ∧ y < A 891 + nzB v 8 0
      · rw [if_pos q, if_pos q]
      · rw [if_neg q, if_neg q]; exact p4 y y1 (by omega)
end TC
