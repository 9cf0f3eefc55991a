/-! The heap ahead of the law's loop. -/
def KF (x : Nat) : HK := xK (xK (KK x) (x + 52) mo_K) (x + 73) [.inl (3, 1)]
def PF (x : Nat) : HP := xP (PP x) (x + 52) 21 (mo_P (x + 52))
def SF (x : Nat) (M : ZM) (lg : Nat → Nat → Int64) (pt : Nat → Nat) : Prop := (pt (x + 16) = x + 7 ∧ pt (x + 32) = x + 7 ∧ pt (x + 48) = x + 7) ∧ (M (x + 1) 1 = 0 ∧ M (x + 1) 2 = 0 ∧ M (x + 1) 3 = -1) ∧ (M (x + 3) 1 = 0 ∧ M (x + 3) 2 = 0) ∧ (∀ d e, d < 9 → M (x + 7 + d) e = 0) ∧ (∀ e, 0 ≤ e → e < 60 → M (x + 16 + 1) e = -1) ∧ (∀ d e, d < 13 → d ≠ 1 → M (x + 16 + d) e = 0) ∧ (∀ d e, d < 4 → M (x + 48 + d) e = pl_M d e) ∧ (∀ d e, d < 21 → M (x + 52 + d) e = if d = 1 ∧ e = 893 then -1 else 0) ∧ lg (x + 52) 12 = 0
section S3
variable {F x L : Nat} {xs : Nat → Int32} {K : HK} {pr : HP} {pt : Nat → Nat} {rr : HP} {M : ZM} {lg : Nat → Nat → Int64}
theorem v_newL {a : Nat} : gset (hp K pr pt rr (LI M) lg) a (.inl (3, 1, .inr (.inl (fun _ => 0)))) = hp (xK K a [.inl (3, 1)]) pr pt rr (LI M) (xL lg a 1) := by
  funext j
  unfold gset
  by_cases e : j = a
  · subst e
    rw [if_pos rfl, h_arrJ (show xK K j [.inl (3, 1)] j = some (.inl (3, 1)) from xK_in (d := 0) (by simp))]
    have : xL lg j 1 j = fun _ => 0 := by
      funext k
      exact if_pos ⟨Nat.le_refl _, by omega⟩
    rw [this]
  · rw [if_neg e]
    exact (hp_cong (xK_out (by simp only [List.length_cons, List.length_nil]; omega)) rfl rfl rfl rfl (xL_out (by omega))).symm
theorem v_aSz {X : Type} {q t N : Nat} {i v : Int} {Kk : GH → Option X} (hk : K q = some (.inl (t, N))) (ht : t ≤ 2) (hi : 0 ≤ i ∧ i < (N : Int)) (hi2 : i < 2147483648) : Option.bind (aS (hp K pr pt rr (LI M) lg) q t (zt i) (zt v)) Kk = Kk (hp K pr pt rr (LI (uM M q i v)) lg) := by
  have := c_aS (Z := X) (Y := X) (fin := fun z => z) (Kk := Kk) (K1 := fun s1 => Kk (hp K pr pt rr s1 lg)) (pr := pr) (pt := pt) (rr := rr) (sg := LI M) (lg := lg) (i := zt i) (x := zt v) hk ht (fun s1 => (q_mid _).symm)
  rw [this, mS_z hi.1 hi.2 hi2, ob_z]
  exact q_mid _
set_option maxRecDepth 100000 in
theorem st_all (hF : 1000 < F) : ∃ M lg pt, f_L_law F L xs x (fun _ => none) = fixN (fun _ _ _ => none) (b_L_law_23 F L xs x (x + 52) (x + 73)) 520 (0 : Int32) (x + 74) (hp (KF x) (PF x) pt (fun _ _ => none) (LI M) lg) ∧ SF x M lg pt := by
  obtain ⟨rr, M, lg, pt, a1, a2, a3, a4, a5, a6, a7, a8, a9⟩ := st_heap (F := F) (x := x) hF
  subst a3
  refine ⟨uM (xM M (x + 52) 21 (fun _ _ => 0)) (x + 53) 893 (-1), xL (xL lg (x + 52) 21) (x + 73) 1, pt, ?_, ?_⟩
  · unfold f_L_law
    rw [v_csU a1, kc_X11, mo_blk, v_gR (show xK (KK x) (x + 52) mo_K (x + 52) = some (.inr 11) from xK_in (d := 0) (by decide)) rfl (show xP (PP x) (x + 52) 21 (mo_P (x + 52)) (x + 52) 1 = some (x + 53) from xP_in (d := 0) (by decide))]
    rw [show (893 : Int32) = zt 893 from rfl, show (-1 : Int32) = zt (-1) from rfl, v_aSz (show xK (KK x) (x + 52) mo_K (x + 53) = some (.inl (0, 4470)) from xK_in (d := 1) (by decide)) (by omega) (by omega) (by omega)]
    show fixN (fun _ _ _ => none) (b_L_law_23 F L xs x (x + 52) (x + 52 + 21)) 520 (0 : Int32) (x + 52 + 21 + 1) (gset _ (x + 52 + 21) _) = _
    rw [v_newL, xP_nn]
    rfl
  · have lo : ∀ j, j < x + 52 → uM (xM M (x + 52) 21 (fun _ _ => 0)) (x + 53) 893 (-1) j = M j := fun j hj => by funext e; rw [uM_ne (by omega), xM_out (by omega)]
    refine ⟨a2, ?_, ?_, fun d e hd => ?_, fun e e0 e1 => ?_, fun d e hd h1 => ?_, fun d e hd => ?_, fun d e hd => ?_, ?_⟩
    · rw [lo _ (by omega)]; exact a4
    · rw [lo _ (by omega)]; exact a5
    · rw [lo _ (by omega)]; exact a6 d e hd
    · rw [lo _ (by omega)]; exact a7 e e0 e1
    · rw [lo _ (by omega)]; exact a8 d e hd h1
    · rw [lo _ (by omega)]; exact a9 d e hd
    · by_cases q : d = 1 ∧ e = 893
      · rw [if_pos q, q.1, q.2]; exact uM_eq _ _ _ _
      · rw [if_neg q]
        by_cases qd : d = 1
        · rw [uM_nei (fun g => q ⟨qd, g⟩)]; exact congrFun (xM_in (f := fun _ _ => 0) hd) e
        · rw [uM_ne (by omega)]; exact congrFun (xM_in (f := fun _ _ => 0) hd) e
    · rw [xL_out (by omega)]
      exact if_pos ⟨Nat.le_refl _, by omega⟩
end S3
