/-! The class's object as it is made. -/
def KK1 (x : Nat) : HK := xK (xK (xK (xK (xK (xK (fun _ => none) x [.inr 10]) (x + 1) pa_K) (x + 3) ps_K) (x + 5) [.inl (4, 3)]) (x + 6) [.inl (5, 3)]) (x + 7) pt_K
def KK (x : Nat) : HK := xK (xK (xK (xK (xK (KK1 x) (x + 16) bo_K) (x + 29) mk_K) (x + 32) bo_K) (x + 45) mk_K) (x + 48) pl_K
def PP1 (x : Nat) : HP := xP (upr (upr (upr (xP (upr (xP (xP (fun _ _ => none) x 1 (fun _ _ => none)) (x + 1) 2 (pa_P (x + 1))) x 0 (x + 1)) (x + 3) 2 (ps_P (x + 3))) x 6 (x + 3)) x 7 (x + 5)) x 8 (x + 6)) (x + 7) 9 (pt_P (x + 7))
def PP (x : Nat) : HP := upr (xP (upr (xP (upr (xP (upr (xP (upr (xP (PP1 x) (x + 16) 13 (bo_P (x + 16))) x 1 (x + 16)) (x + 29) 3 (mk_P (x + 29) (x + 16))) x 2 (x + 29)) (x + 32) 13 (bo_P (x + 32))) x 3 (x + 32)) (x + 45) 3 (mk_P (x + 45) (x + 32))) x 4 (x + 45)) (x + 48) 4 (pl_P (x + 48))) x 5 (x + 48)
section S1
variable {Y : Type} {F x : Nat}
theorem stepB {K : HK} {pr : HP} {pt : Nat → Nat} {rr : HP} {M : ZM} {lg : Nat → Nat → Int64} {a p : Nat} {Kk : Nat → GH → Option Y} {P : Option Y → Prop} (hF : 1000 < F) (k : ∀ M1 : ZM, (∀ e, 0 ≤ e → e < 60 → M1 (a + 1) e = -1) → (∀ d e, d < 13 → d ≠ 1 → M1 (a + d) e = 0) → (∀ j, (j < a ∨ a + 13 ≤ j) → M1 j = M j) → P (Kk (a + 13) (hp (xK K a bo_K) (xP pr a 13 (bo_P a)) (upt pt a p) (xP rr a 13 (fun _ _ => none)) (LI M1) (xL lg a 13)))) : P (csU (f_X0_init F a p (a + 1) (gset (hp K pr pt rr (LI M) lg) a (.inr (0, df_X0)))) Kk) := by
  obtain ⟨M1, b1, b2, b3, b4⟩ := v_newB0 (F := F) (K := K) (pr := pr) (pt := pt) (rr := rr) (M := M) (lg := lg) (a := a) (p := p) hF
  rw [v_csU b1]
  exact k M1 b2 b3 b4
theorem kk1_x : KK1 x x = some (.inr 10) := by
  unfold KK1
  rw [xK_out (by left; omega), xK_out (by left; omega), xK_out (by left; omega), xK_out (by left; omega), xK_out (by left; omega)]
  exact xK_in (d := 0) (by simp)
def SG (x : Nat) (o : Option (Nat × GH)) : Prop := ∃ rr M lg pt, o = some (x + 52, hp (KK x) (PP x) pt rr (LI M) lg) ∧ (pt (x + 16) = x + 7 ∧ pt (x + 32) = x + 7 ∧ pt (x + 48) = x + 7) ∧ rr = (fun _ _ => none) ∧ (M (x + 1) 1 = 0 ∧ M (x + 1) 2 = 0 ∧ M (x + 1) 3 = -1) ∧ (M (x + 3) 1 = 0 ∧ M (x + 3) 2 = 0) ∧ (∀ d e, d < 9 → M (x + 7 + d) e = 0) ∧ (∀ e, 0 ≤ e → e < 60 → M (x + 16 + 1) e = -1) ∧ (∀ d e, d < 13 → d ≠ 1 → M (x + 16 + d) e = 0) ∧ ∀ d e, d < 4 → M (x + 48 + d) e = pl_M d e
theorem xP_nn {a L : Nat} : xP (fun _ _ => none) a L (fun _ _ => none) = (fun _ _ => none) := by
  funext q k
  unfold xP
  split <;> rfl
end S1
