/-! The heap at the law's loop: how it comes to be. -/
section SZ
variable {X : Type} {K : HK} {pr : HP} {pt : Nat → Nat} {rr : HP} {sg : Nat → Nat → Int32} {lg : Nat → Nat → Int64} {M : ZM} {q ci k n F : Nat}
/-- a new array of references -/
theorem v_newQ {t N a : Nat} (ht : t = 4 ∨ t = 5) : gset (hp K pr pt rr (LI M) lg) a (.inl (t, N, .inr (.inr (.inr (.inr (fun _ => none)))))) = hp (xK K a [.inl (t, N)]) pr pt (xP rr a 1 (fun _ _ => none)) (LI M) lg := by
  funext j
  unfold gset
  by_cases e : j = a
  · subst e
    rw [if_pos rfl, h_arrR (show xK K j [.inl (t, N)] j = some (.inl (t, N)) from xK_in (d := 0) (by simp)) ht]
    have : xP rr j 1 (fun _ _ => none) j = fun _ => none := by funext k; exact xP_in (d := 0) (by omega)
    rw [this]
  · rw [if_neg e]
    exact (hp_cong (xK_out (by simp only [List.length_cons, List.length_nil]; omega)) rfl rfl (xP_out (by omega)) rfl rfl).symm
/-- a new object without anything in it -/
theorem v_newO {a : Nat} : gset (hp K pr pt rr (LI M) lg) a (.inr (10, df_X10)) = hp (xK K a [.inr 10]) (xP pr a 1 (fun _ _ => none)) pt rr (LI M) lg := by
  funext j
  unfold gset
  by_cases e : j = a
  · subst e
    rw [if_pos rfl, h_obj (show xK K j [.inr 10] j = some (.inr 10) from xK_in (d := 0) (by simp))]
    have : xP pr j 1 (fun _ _ => none) j = fun _ => none := by funext k; exact xP_in (d := 0) (by omega)
    show _ = some (Sum.inr (10, [va_rf (xP pr j 1 (fun _ _ => none) j 0), va_rf (xP pr j 1 (fun _ _ => none) j 1), va_rf (xP pr j 1 (fun _ _ => none) j 2), va_rf (xP pr j 1 (fun _ _ => none) j 3), va_rf (xP pr j 1 (fun _ _ => none) j 4), va_rf (xP pr j 1 (fun _ _ => none) j 5), va_rf (xP pr j 1 (fun _ _ => none) j 6), va_rf (xP pr j 1 (fun _ _ => none) j 7), va_rf (xP pr j 1 (fun _ _ => none) j 8)]))
    rw [this]
    rfl
  · rw [if_neg e]
    exact (hp_cong (xK_out (by simp only [List.length_cons, List.length_nil]; omega)) (xP_out (by omega)) rfl rfl rfl rfl).symm
set_option maxRecDepth 100000 in
/-- a new maker -/
theorem kc_X1 {G : GH} {a p : Nat} (hne : p < a) (hR : gR G p 0 4 = some (p + 3)) : f_X1_init F a p (a + 1) (gset G a (.inr (1, df_X1))) = some (a + 3, blk G a (mk_C a p)) := by
  have e0 : gset G a (.inr (1, df_X1)) = gset (blk G (a + 1) []) a (.inr (1, df_X1)) := by rw [blk_nil]
  have q1 : ∀ (l : List AC) (o : AC), gR (gset (blk G (a + 1) l) a o) p 0 4 = some (p + 3) := fun l o => by
    rw [gR_new (by omega)]
    unfold gR at hR ⊢
    rw [blk_out (by omega)]
    exact hR
  unfold f_X1_init
  rw [e0, k_new (by rfl) (by omega) (by exact Nat.le_of_ble_eq_true rfl), k_put (by exact Nat.le_of_ble_eq_true rfl), k_put (by exact Nat.le_of_ble_eq_true rfl), k_put (by exact Nat.le_of_ble_eq_true rfl), k_new (by rfl) (by omega) (by exact Nat.le_of_ble_eq_true rfl), k_put (by exact Nat.le_of_ble_eq_true rfl), q1, ob_z, k_put (by exact Nat.le_of_ble_eq_true rfl), blk_hd]
  rfl
/-- a new board, in memory -/
theorem v_newB0 {a p : Nat} (hF : 1000 < F) : ∃ M1, f_X0_init F a p (a + 1) (gset (hp K pr pt rr (LI M) lg) a (.inr (0, df_X0))) = some (a + 13, hp (xK K a bo_K) (xP pr a 13 (bo_P a)) (upt pt a p) (xP rr a 13 (fun _ _ => none)) (LI M1) (xL lg a 13)) ∧ (∀ e, 0 ≤ e → e < 60 → M1 (a + 1) e = -1) ∧ (∀ d e, d < 13 → d ≠ 1 → M1 (a + d) e = 0) ∧ ∀ j, (j < a ∨ a + 13 ≤ j) → M1 j = M j := by
  obtain ⟨M2, a1, a2, a3⟩ := y_fill (F := F) (lg := xL lg a 13) (M := xM M a 13 (fun _ _ => 0)) (N := 60) (a := a + 1) (v := -1) (by decide) hF
  refine ⟨M2, ?_, fun e e0 e1 => a2 e e0 e1, fun d e hd h1 => ?_, fun j hj => ?_⟩
  · rw [kc_X0, bo_blk, show (-1 : Int32) = zt (-1) from rfl, v_csU (r_eU (e_J7_fill_53178 (show xK K a bo_K (a + 1) = some (.inl (0, 60)) from xK_in (d := 1) (by decide))) a1)]
  · rw [a3 (a + d) (by omega), xM_in hd]
  · rw [a3 j (by omega), xM_out (by omega)]
end SZ
