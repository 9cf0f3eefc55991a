/-! The class's maker: small steps. -/
def Sp (b p m : Nat) : Prop := (m + 3 ≤ b ∨ b + 13 ≤ m) ∧ (p + 9 ≤ b ∨ b + 13 ≤ p) ∧ (p + 9 ≤ m ∨ m + 3 ≤ p)
def Fm (M M1 : ZM) (b m : Nat) : Prop := (∀ j, (j < b + 2 ∨ b + 9 ≤ j) → (j < m ∨ m + 3 ≤ j) → M1 j = M j) ∧ ∀ e, e ≠ 3 → M1 m e = M m e
theorem Fm.refl (M : ZM) (b m : Nat) : Fm M M b m := ⟨fun _ _ _ => rfl, fun _ _ => rfl⟩
theorem Fm.trans {M M1 M2 : ZM} {b m : Nat} (h : Fm M M1 b m) (h1 : Fm M1 M2 b m) : Fm M M2 b m := ⟨fun j a c => (h1.1 j a c).trans (h.1 j a c), fun e he => (h1.2 e he).trans (h.2 e he)⟩
theorem RP.ext {M M1 : ZM} {p : Nat} {A A1 : Int → Int} (h : RP M p A) (hw : wfP A) (he : ∀ e, e < 133 → A1 e = A e) (hm : ∀ j, p ≤ j → j < p + 9 → M1 j = M j) : RP M1 p A1 := by
  have hc := hw.1
  refine ⟨by rw [hm p (by omega) (by omega), he 0 (by omega)]; exact h.1, fun i a b => ?_⟩
  rw [he 0 (by omega)] at b
  obtain ⟨h1, h2, h3, h4, h5, h6, h7, h8⟩ := h.2 i a b
  rw [hm (p + 1) (by omega) (by omega), hm (p + 2) (by omega) (by omega), hm (p + 3) (by omega) (by omega), hm (p + 4) (by omega) (by omega), hm (p + 5) (by omega) (by omega), hm (p + 6) (by omega) (by omega), hm (p + 7) (by omega) (by omega), hm (p + 8) (by omega) (by omega), he (1 + 11 * i) (by omega), he (1 + 11 * i + 1) (by omega), he (1 + 11 * i + 8) (by omega), he (1 + 11 * i + 9) (by omega), he (1 + 11 * i + 10) (by omega), he (1 + 11 * i + 2) (by omega), he (1 + 11 * i + 7) (by omega)]
  refine ⟨h1, h2, h3, h4, h5, h6, h7, fun k q1 q2 => ?_⟩
  have := (hw.2 i a b).2.1
  rw [he _ (by omega)]
  exact h8 k q1 q2
theorem RS.ext {M M1 : ZM} {b : Nat} {A A1 : Int → Int} (h : RS M b A) (he : ∀ e, 145 ≤ e → e < 206 → A1 e = A e) (hm : ∀ j, b ≤ j → j < b + 2 → M1 j = M j) : RS M1 b A1 :=
  ⟨by rw [hm b (by omega) (by omega), he 145 (by omega) (by omega)]; exact h.1, fun s i a b c d => by rw [hm _ (by omega) (by omega), he _ (by omega) (by omega)]; exact h.2 s i a b c d⟩
theorem RT.ext {M M1 : ZM} {b : Nat} {A : Int → Int} (h : RT M b A) (hm : ∀ j, b + 2 ≤ j → j < b + 9 → M1 j = M j) : RT M1 b A := by
  refine ⟨fun i a c => by rw [hm _ (by omega) (by omega)]; exact h.1 i a c, by rw [hm _ (by omega) (by omega)]; exact h.2.1, fun t a c => ?_⟩
  rw [hm (b + 3 + 1) (by omega) (by omega), hm (b + 3 + 2) (by omega) (by omega), hm (b + 3 + 3) (by omega) (by omega), hm (b + 3 + 4) (by omega) (by omega), hm (b + 3 + 5) (by omega) (by omega)]
  exact h.2.2 t a c
theorem zt_ofNat (n : Nat) : Int32.ofNat n = zt (n : Int) := (Int32.ofInt_eq_ofNat (n := n)).symm
section CR
variable {F : Nat} {lg : Nat → Nat → Int64} {M : ZM} {b p m : Nat} {A : Int → Int}
theorem y_isOnWay {x wf : Int} {n : Nat} (hF : 80 < F) (hx : 0 ≤ x ∧ x < 12) (h4 : M m 4 = wf) (h3 : M m 3 = wf + n) (hw : 0 ≤ wf ∧ wf ≤ 60) (hn : n ≤ 12) (hr : ∀ y ∈ seg (M (m + 1)) n wf, 0 ≤ y ∧ y < 12) : p_X1_isOnWay F b p m (zt x) (LI M) lg = some (zt (if x ∈ seg (M (m + 1)) n wf then 1 else 0)) := by
  unfold p_X1_isOnWay
  rw [LI_4, h4, gnm_z]
  refine (fix_ind (fun k (r : Int32 → Option Int32) => ∀ (c : Nat) (i : Int), wf ≤ i → i + c = wf + n → (∀ y ∈ seg (M (m + 1)) c i, 0 ≤ y ∧ y < 12) → c < k → r (zt i) = some (zt (if x ∈ seg (M (m + 1)) c i then 1 else 0))) ?_ ?_ F) n wf (by omega) (by omega) hr (by omega)
  · intro c i _ _ _ h; omega
  · intro k r ih c i hi hc hr hk
    unfold pb_X1_isOnWay_5
    rw [LI_3, h3]
    cases c with
    | zero =>
      simp (disch := omega) only [zt_lit, zt_le, rP_z0, seg, List.not_mem_nil, if_false]
      rw [if_pos (by omega)]
    | succ c =>
      have hb := hr (M (m + 1) i) List.mem_cons_self
      simp (disch := omega) only [zt_lit, zt_le, mI_z, ob_z, zt_eq, zt_add, rP_z0, rP_z1, seg, List.mem_cons]
      rw [if_neg (by omega), ih c (i + 1) (by omega) (by omega) (fun y hy => hr y (List.mem_cons_of_mem _ hy)) (by omega)]
      by_cases q2 : M (m + 1) i = x
      · rw [if_pos q2, if_pos (Or.inl q2.symm)]
      · rw [if_neg q2]
        have e : (x = M (m + 1) i ∨ x ∈ seg (M (m + 1)) c (i + 1)) ↔ x ∈ seg (M (m + 1)) c (i + 1) := ⟨fun h => h.resolve_left (fun q => q2 q.symm), Or.inr⟩
        simp only [e]
def puM (M : ZM) (m : Nat) (x : Int) : ZM := uM (uM M (m + 1) (M m 3) x) m 3 (M m 3 + 1)
theorem y_push {x : Int} (h : 0 ≤ M m 3 ∧ M m 3 < 73) : p_X1_push F b p m (zt x) (LI M) lg = some (LI (puM M m x), lg) := by
  unfold p_X1_push
  simp (disch := omega) only [zt_ofNat, LI_3, zt_le, zt_lit, mS_z, ob_z, uM_ne, zt_add, gnm_z, up2_z]
  rw [if_neg (by omega)]
  rfl
theorem y_refuse {x k : Int} (h : 0 ≤ M m 3 ∧ M m 3 < 73) : p_X1_refuse F b p m (zt x) (zt k) (LI M) lg = some (zt k, LI (puM M m x), lg) := by
  unfold p_X1_refuse
  rw [y_push h]
  rfl
theorem y_pop (h : 0 < M m 3 ∧ M m 3 ≤ 73) : p_X1_pop F b p m (LI M) lg = some (LI (uM M m 3 (M m 3 - 1)), lg) := by
  unfold p_X1_pop
  simp (disch := omega) only [LI_3, zt_le, zt_lit, zt_sub, gnm_z, up2_z]
  rw [if_neg (by omega)]
  rfl
theorem puM_at {x wf : Int} {n : Nat} (h3 : M m 3 = wf + n) (hwf : 0 ≤ wf) (hs : Sp b p m) : puM M m x m 3 = wf + n + 1 ∧ seg (puM M m x (m + 1)) (n + 1) wf = seg (M (m + 1)) n wf ++ [x] ∧ (∀ i, i < wf + n → puM M m x (m + 1) i = M (m + 1) i) ∧ puM M m x (m + 2) = M (m + 2) ∧ Fm M (puM M m x) b m ∧ (∀ j, (j < m ∨ m + 2 ≤ j) → puM M m x j = M j) := by
  obtain ⟨s1, s2, s3⟩ := hs
  unfold puM
  have e1 : ∀ i, i ≠ wf + n → uM (uM M (m + 1) (M m 3) x) m 3 (M m 3 + 1) (m + 1) i = M (m + 1) i := fun i hi => by rw [uM_ne (by omega), uM_nei (by omega)]
  refine ⟨by rw [uM_eq, h3], ?_, fun i hi => e1 i (by omega), by funext e; rw [uM_ne (by omega), uM_ne (by omega)], ⟨fun j a c => by funext e; rw [uM_ne (by omega), uM_ne (by omega)], fun e he => by rw [uM_nei he, uM_ne (by omega)]⟩, fun j a => by funext e; rw [uM_ne (by omega), uM_ne (by omega)]⟩
  rw [seg_snoc, seg_cong (g := M (m + 1)) n wf (fun j a c => e1 j (by omega)), uM_ne (by omega), uM_eqi (by omega)]
def adM (M : ZM) (b m : Nat) (q s base : Int) : ZM :=
  uM (uM (uM (uM (uM (uM (uM (uM (uM M (b + 3 + 1) (M (b + 3) 0) q) (b + 3 + 2) (M (b + 3) 0) s) (b + 3 + 3) (M (b + 3) 0) 0) (b + 3 + 4) (M (b + 3) 0) 0) (b + 3 + 5) (M (b + 3) 0 * 4 + 0) (M (m + 2) (base + 0))) (b + 3 + 5) (M (b + 3) 0 * 4 + 1) (M (m + 2) (base + 1))) (b + 3 + 5) (M (b + 3) 0 * 4 + 2) (M (m + 2) (base + 2))) (b + 3 + 5) (M (b + 3) 0 * 4 + 3) (M (m + 2) (base + 3))) (b + 3) 0 (M (b + 3) 0 + 1)
theorem nar_b0 : vp_nar .boolean (zt 0) = zt 0 := rfl
theorem nar_b1 : vp_nar .boolean (zt 1) = zt 1 := rfl
theorem y_adl {t base k : Int} {r : Int32 → (Nat → Nat → Int32) → (Nat → Nat → Int64) → Option (Int32 × (Nat → Nat → Int32) × (Nat → Nat → Int64))} (hb : 0 ≤ base ∧ base + 4 ≤ 48) (ht : 0 ≤ t ∧ t < 60) (hk : 0 ≤ k ∧ k < 4) : pb_X7_add_53 F 48 (b + 3) (m + 2) (zt base) (zt t) r (zt k) (LI M) lg = r (zt (k + 1)) (LI (uM M (b + 3 + 5) (t * 4 + k) (M (m + 2) (base + k)))) lg := by
  unfold pb_X7_add_53
  simp (disch := omega) only [zt_ofNat, zt_lit, zt_le, zt_lt, zt_add]
  rw [if_neg (by omega), if_neg (by omega), if_neg (by omega)]
  unfold pk_X7_add_79
  simp (disch := omega) only [zt_lit, zt_eq, zt_add, zt_mul, mI_z, mS_z, ob_z]
  rw [if_neg (by omega)]
theorem y_ade {t base : Int} {r : Int32 → (Nat → Nat → Int32) → (Nat → Nat → Int64) → Option (Int32 × (Nat → Nat → Int32) × (Nat → Nat → Int64))} : pb_X7_add_53 F 48 (b + 3) (m + 2) (zt base) (zt t) r (zt 4) (LI M) lg = some (zt t, LI (uM M (b + 3) 0 (M (b + 3) 0 + 1)), lg) := by
  unfold pb_X7_add_53 pk_X7_add_115
  simp (disch := omega) only [zt_lit, zt_le, zt_add, LI_0, gnm_z, up2_z]
  rw [if_pos (by omega)]
  rfl
theorem y_add {q s base : Int} (hF : 5 < F) (hs : Sp b p m) (hm : 0 ≤ M (b + 3) 0 ∧ M (b + 3) 0 < 60) (hb : 0 ≤ base ∧ base + 4 ≤ 48) : p_X7_add F 48 (b + 3) (zt q) (zt s) (m + 2) (zt base) (LI M) lg = some (zt (M (b + 3) 0), LI (adM M b m q s base), lg) := by
  obtain ⟨s1, s2, s3⟩ := hs
  have hloop : ∀ (G : Nat) (N : ZM), 5 < G → fixN (fun _ _ _ => none) (pb_X7_add_53 F 48 (b + 3) (m + 2) (zt base) (zt (M (b + 3) 0))) G (zt 0) (LI N) lg = some (zt (M (b + 3) 0), LI (uM (uM (uM (uM (uM N (b + 3 + 5) (M (b + 3) 0 * 4 + 0) (N (m + 2) (base + 0))) (b + 3 + 5) (M (b + 3) 0 * 4 + 1) (N (m + 2) (base + 1))) (b + 3 + 5) (M (b + 3) 0 * 4 + 2) (N (m + 2) (base + 2))) (b + 3 + 5) (M (b + 3) 0 * 4 + 3) (N (m + 2) (base + 3))) (b + 3) 0 (N (b + 3) 0 + 1)), lg) := by
    intro G N hG
    obtain ⟨g, rfl⟩ : ∃ g, G = g + 5 := ⟨G - 5, by omega⟩
    rw [fix_succ, y_adl hb hm (by omega), fix_succ, y_adl hb hm (by omega), fix_succ, y_adl hb hm (by omega), fix_succ, y_adl hb hm (by omega), fix_succ, show (0 : Int) + 1 + 1 + 1 + 1 = 4 from rfl, y_ade]
    simp (disch := omega) only [uM_ne]
    rfl
  unfold p_X7_add
  simp (disch := omega) only [LI_0, zt_lit, zt_lt, nar_b0, gnm_z, mS_z, ob_z]
  rw [if_pos (by omega), hloop F _ (by omega)]
  simp (disch := omega) only [uM_ne]
  rfl
end CR
