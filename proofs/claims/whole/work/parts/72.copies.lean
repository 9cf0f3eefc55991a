/-! The class's boards and papers: filled, reset, copied. -/
section CP
variable {F : Nat} {K : HK} {pr rr : HP} {pt : Nat → Nat} {M : ZM} {lg : Nat → Nat → Int64} {n b c p : Nat} {A : Int → Int} {X : Type}
theorem r_eU {r : Option (Nat × GH)} {o : Option ((Nat → Nat → Int32) × (Nat → Nat → Int64))} {s1 : Nat → Nat → Int32} {l1 : Nat → Nat → Int64} (h : r = Option.map (fun z => (n, hp K pr pt rr z.1 z.2)) o) (ho : o = some (s1, l1)) : r = some (n, hp K pr pt rr s1 l1) := by
  rw [h, ho]
  rfl
theorem r_eI {r : Option (Int32 × Nat × GH)} {o : Option (Int32 × (Nat → Nat → Int32) × (Nat → Nat → Int64))} {a : Int32} {s1 : Nat → Nat → Int32} {l1 : Nat → Nat → Int64} (h : r = Option.map (fun z => (z.1, n, hp K pr pt rr z.2.1 z.2.2)) o) (ho : o = some (a, s1, l1)) : r = some (a, n, hp K pr pt rr s1 l1) := by
  rw [h, ho]
  rfl
theorem v_aC {t N0 N1 a0 a : Nat} {sp dp k : Int32} {sg s1 : Nat → Nat → Int32} {Kk : GH → Option X} (hk0 : K a0 = some (.inl (t, N0))) (hk : K a = some (.inl (t, N1))) (ht : t ≤ 2) (hm : mC sg t N0 N1 a0 sp a dp k = some s1) : Option.bind (aC (hp K pr pt rr sg lg) t a0 sp a dp k) Kk = Kk (hp K pr pt rr s1 lg) := by
  have := c_aC (Z := X) (Y := X) (fin := fun z => z) (Kk := Kk) (K1 := fun s1 => Kk (hp K pr pt rr s1 lg)) (rr := rr) (pr := pr) (pt := pt) (sg := sg) (lg := lg) (sp := sp) (dp := dp) (k := k) hk0 hk ht (fun s1 => (q_mid _).symm)
  rw [this, hm]
  exact q_mid _
theorem v_aL {t N q : Nat} {sg : Nat → Nat → Int32} {Kk : Int32 → Option X} (hk : K q = some (.inl (t, N))) (ht : t ≤ 2) : Option.bind (aL (hp K pr pt rr sg lg) q) Kk = Kk (Int32.ofNat N) := c_aL hk ht rfl
theorem y_fill {N a : Nat} {v : Int} (hN : N < 1000) (hF : 1000 < F) : ∃ M1, p_J7_fill_53178 F N a (zt v) (LI M) lg = some (LI M1, lg) ∧ (∀ e, 0 ≤ e → e < (N : Int) → M1 a e = v) ∧ ∀ j, j ≠ a → M1 j = M j := by
  have key : ∀ (m : Nat) (k : Int) (M : ZM) (G : Nat), k + m = N → 0 ≤ k → m < G →
      ∃ M1, fixN (fun _ _ _ => none) (pb_J7_fill_53178_5 F N a (zt v) (zt N)) G (zt k) (LI M) lg = some (LI M1, lg) ∧ (∀ e, k ≤ e → e < (N : Int) → M1 a e = v) ∧ (∀ e, e < k → M1 a e = M a e) ∧ ∀ j, j ≠ a → M1 j = M j := by
    intro m
    induction m with
    | zero =>
      intro k M G hk hk0 hG
      obtain ⟨g, rfl⟩ : ∃ g, G = g + 1 := ⟨G - 1, by omega⟩
      rw [fix_succ]
      refine ⟨M, ?_, fun e a b => by omega, fun _ _ => rfl, fun _ _ => rfl⟩
      unfold pb_J7_fill_53178_5
      simp (disch := omega) only [zt_le]
      rw [if_pos (by omega)]
    | succ m ih =>
      intro k M G hk hk0 hG
      obtain ⟨g, rfl⟩ : ∃ g, G = g + 1 := ⟨G - 1, by omega⟩
      rw [fix_succ]
      generalize hr : fixN (fun _ _ _ => none) (pb_J7_fill_53178_5 F N a (zt v) (zt N)) g = r
      unfold pb_J7_fill_53178_5
      simp (disch := omega) only [zt_lit, zt_le, zt_add, mS_z, ob_z]
      rw [if_neg (by omega), ← hr]
      obtain ⟨M1, a1, a2, a3, a4⟩ := ih (k + 1) (uM M a k v) g (by omega) (by omega) (by omega)
      refine ⟨M1, a1, fun e b1 b2 => ?_, fun e he => ?_, fun j hj => ?_⟩
      · by_cases q : e = k
        · subst q; rw [a3 _ (by omega), uM_eq]
        · exact a2 e (by omega) b2
      · rw [a3 e (by omega), uM_nei (by omega)]
      · rw [a4 j hj]; funext e; exact uM_ne hj
  obtain ⟨M1, a1, a2, a3, a4⟩ := key N 0 M F (by omega) (by omega) (by omega)
  refine ⟨M1, ?_, a2, a4⟩
  unfold p_J7_fill_53178
  rw [gnm_z, zt_ofNat, show (0 : Int32) = zt 0 from rfl]
  exact a1
theorem fits_z {x : Int} (h : 0 ≤ x ∧ x ≤ 1) : fits (g_ty 2) (.int (zt x)) = true := by
  rcases (show x = 0 ∨ x = 1 by omega) with rfl | rfl <;> rfl
theorem fits_b {x : Int} (h : -128 ≤ x ∧ x ≤ 127) : fits (g_ty 1) (.int (zt x)) = true := by
  have h1 : ∀ n : Nat, n < 256 → fits (g_ty 1) (.int (zt ((n : Int) - 128))) = true := by decide +kernel
  have := h1 (x + 128).toNat (by omega)
  rw [show (((x + 128).toNat : Nat) : Int) - 128 = x by omega] at this
  exact this
theorem cpM_row (M : ZM) (a0 a : Nat) (k : Int) {e : Int} (h : ¬ (0 ≤ e ∧ e < k)) : cpM M a0 a k a e = M a e := if_neg (fun q => h q.2)
theorem up2_0 (M : ZM) (j : Nat) (v : Int) : up2 (LI M) j 0 (zt v) = LI (uM M j 0 v) := up2_z M j 0 v
theorem up2_1 (M : ZM) (j : Nat) (v : Int) : up2 (LI M) j 1 (zt v) = LI (uM M j 1 v) := up2_z M j 1 v
theorem up2_2 (M : ZM) (j : Nat) (v : Int) : up2 (LI M) j 2 (zt v) = LI (uM M j 2 v) := up2_z M j 2 v
theorem up2_3 (M : ZM) (j : Nat) (v : Int) : up2 (LI M) j 3 (zt v) = LI (uM M j 3 v) := up2_z M j 3 v
theorem LI_2 (M : ZM) (j : Nat) : LI M j 2 = zt (M j 2) := rfl
theorem y_cp7 (hT : wfT A) (hR : RT M c A) (hd : b + 13 ≤ c ∨ c + 13 ≤ b) : ∃ M1, p_X7_copyFrom F (b + 3) (c + 3) (LI M) lg = some (LI M1, lg) ∧ (M1 (b + 3) 0 = A 206 ∧ ∀ t, 0 ≤ t → t < A 206 → M1 (b + 3 + 1) t = A (207 + 8 * t) ∧ M1 (b + 3 + 2) t = A (207 + 8 * t + 1) ∧ M1 (b + 3 + 3) t = A (207 + 8 * t + 2) ∧ M1 (b + 3 + 4) t = A (207 + 8 * t + 3) ∧ ∀ k, 0 ≤ k → k < 4 → M1 (b + 3 + 5) (t * 4 + k) = A (207 + 8 * t + (4 + k)) - 1) ∧ ∀ j, (j < b + 3 ∨ b + 9 ≤ j) → M1 j = M j := by
  have hm := hT.1
  obtain ⟨-, h0, h1⟩ := hR
  unfold p_X7_copyFrom
  rw [LI_0, h0, up2_0, gnm_z]
  have s0 : ∀ j, j ≠ b + 3 → uM M (b + 3) 0 (A 206) j = M j := fun j hj => by funext e; exact uM_ne hj
  have z0 : ∀ M2 : ZM, M2 (b + 3) 0 = A 206 → LI M2 (b + 3) 0 = zt (A 206) := fun M2 h => by rw [LI_0, h]
  rw [z0 _ (uM_eq _ _ _ _), show (0 : Int32) = zt 0 from rfl, mC_z (by omega) (by omega) (by omega) (by omega) (fun i _ _ => fits_i _), ob_z]
  rw [z0 _ (by rw [cpM_ne (by omega)]; exact uM_eq _ _ _ _), mC_z (by omega) (by omega) (by omega) (by omega) (fun i _ _ => fits_i _), ob_z]
  rw [z0 _ (by rw [cpM_ne (by omega), cpM_ne (by omega)]; exact uM_eq _ _ _ _), mC_z (by omega) (by omega) (by omega) (by omega) (fun i g0 g1 => by
    rw [cpM_ne (by omega), cpM_ne (by omega), s0 _ (by omega), (h1 i g0 g1).2.2.1]
    exact fits_z (hT.2 i g0 g1).2.2.1), ob_z]
  rw [z0 _ (by rw [cpM_ne (by omega), cpM_ne (by omega), cpM_ne (by omega)]; exact uM_eq _ _ _ _), mC_z (by omega) (by omega) (by omega) (by omega) (fun i _ _ => fits_i _), ob_z]
  rw [z0 _ (by rw [cpM_ne (by omega), cpM_ne (by omega), cpM_ne (by omega), cpM_ne (by omega)]; exact uM_eq _ _ _ _), show (4 : Int32) = zt 4 from rfl, zt_mul, mC_z (by omega) (by omega) (by omega) (by omega) (fun i _ _ => fits_i _), ob_z]
  refine ⟨_, rfl, ⟨?_, fun t g0 g1 => ?_⟩, fun j hj => ?_⟩
  · rw [cpM_ne (by omega), cpM_ne (by omega), cpM_ne (by omega), cpM_ne (by omega), cpM_ne (by omega), uM_eq]
  · obtain ⟨t1, t2, t3, t4, t5⟩ := h1 t g0 g1
    refine ⟨?_, ?_, ?_, ?_, fun k k0 k1 => ?_⟩
    · rw [cpM_ne (by omega), cpM_ne (by omega), cpM_ne (by omega), cpM_ne (by omega), cpM_in ⟨g0, g1⟩, s0 _ (by omega), t1]
    · rw [cpM_ne (by omega), cpM_ne (by omega), cpM_ne (by omega), cpM_in ⟨g0, g1⟩, cpM_ne (by omega), s0 _ (by omega), t2]
    · rw [cpM_ne (by omega), cpM_ne (by omega), cpM_in ⟨g0, g1⟩, cpM_ne (by omega), cpM_ne (by omega), s0 _ (by omega), t3]
    · rw [cpM_ne (by omega), cpM_in ⟨g0, g1⟩, cpM_ne (by omega), cpM_ne (by omega), cpM_ne (by omega), s0 _ (by omega), t4]
    · rw [cpM_in (by omega), cpM_ne (by omega), cpM_ne (by omega), cpM_ne (by omega), cpM_ne (by omega), s0 _ (by omega), t5 k k0 k1]
  · rw [cpM_ne (by omega), cpM_ne (by omega), cpM_ne (by omega), cpM_ne (by omega), cpM_ne (by omega), s0 _ (by omega)]
theorem y_cp9 (hW : WT A) (hR : RW M c A) (hd : b + 13 ≤ c ∨ c + 13 ≤ b) : ∃ M1, p_X9_copyFrom F (b + 10) (c + 10) (LI M) lg = some (LI M1, lg) ∧ RW M1 b A ∧ ∀ j, (j < b + 10 ∨ b + 13 ≤ j) → M1 j = M j := by
  have h9 := hW.1
  have h7 := hW.2
  obtain ⟨r1, r2, r3, r4, r5⟩ := hR
  have s0 : ∀ (M2 : ZM) (j : Nat) (e v : Int), j ≠ b + 10 → uM M2 (b + 10) e v j = M2 j := fun M2 j e v hj => by funext e; exact uM_ne hj
  unfold p_X9_copyFrom
  rw [LI_0, r1, up2_0, gnm_z, LI_1, s0 _ _ _ _ (by omega), r2, up2_1, gnm_z, LI_1, uM_eq, show (0 : Int32) = zt 0 from rfl, mC_z (by omega) (by omega) (by omega) (by omega) (fun i _ _ => fits_i _), ob_z]
  rw [LI_3, cpM_ne (by omega), s0 _ _ _ _ (by omega), s0 _ _ _ _ (by omega), r4, up2_3, gnm_z, LI_3, uM_eq, mC_z (by omega) (by omega) (by omega) (by omega) (fun i _ _ => fits_i _), ob_z]
  refine ⟨_, rfl, ⟨?_, ?_, fun i g0 g1 => ?_, ?_, fun i g0 g1 => ?_⟩, fun j hj => ?_⟩
  · rw [cpM_ne (by omega), uM_nei (by omega), cpM_ne (by omega), uM_nei (by omega), uM_eq]
  · rw [cpM_ne (by omega), uM_nei (by omega), cpM_ne (by omega), uM_eq]
  · rw [cpM_ne (by omega), s0 _ _ _ _ (by omega), cpM_in ⟨g0, g1⟩, s0 _ _ _ _ (by omega), s0 _ _ _ _ (by omega), r3 i g0 g1]
  · rw [cpM_ne (by omega), uM_eq]
  · rw [cpM_in ⟨g0, g1⟩, s0 _ _ _ _ (by omega), cpM_ne (by omega), s0 _ _ _ _ (by omega), s0 _ _ _ _ (by omega), r5 i g0 g1]
  · rw [cpM_ne (by omega), s0 _ _ _ _ (by omega), cpM_ne (by omega), s0 _ _ _ _ (by omega), s0 _ _ _ _ (by omega)]
theorem hu0 : ∀ i, (hFT.getD 0 [])[i]? = some 3 → i = 0 := by
  intro i h
  have hl := (List.getElem?_eq_some_iff.mp h).1
  have h2 : ∀ i : Nat, i < 6 → (hFT.getD 0 [])[i]? = some 3 → i = 0 := by decide
  exact h2 i hl h
theorem hu5 : ∀ i, (hFT.getD 5 [])[i]? = some 3 → i = 0 := by
  intro i h
  have hl := (List.getElem?_eq_some_iff.mp h).1
  have h2 : ∀ i : Nat, i < 9 → (hFT.getD 5 [])[i]? = some 3 → i = 0 := by decide
  exact h2 i hl h
theorem OkBoard.ptne {q : Nat} (h : OkBoard K pr pt b p) (hq : q ≠ b) {a : Nat} : OkBoard K pr (upt pt q a) b p := ⟨h.1, by rw [upt_ne (Ne.symm hq)]; exact h.2.1, h.2.2⟩
theorem OkBoard.ptset (h : OkBoard K pr pt b p) {a : Nat} (ha : OkParts K pr a) : OkBoard K pr (upt pt b a) b a := ⟨h.1, upt_eq _ _ _, ha, h.2.2.2⟩
end CP
