/-! The kinds of the first cells, off a table. -/
theorem xK_sh {K1 K0 : HK} {x a : Nat} {l : List ((Nat × Nat) ⊕ Nat)} (h : ∀ q, K1 q = if x ≤ q then K0 (q - x) else none) : ∀ q, xK K1 (x + a) l q = if x ≤ q then xK K0 (0 + a) l (q - x) else none := by
  intro q
  unfold xK
  by_cases e : x + a ≤ q ∧ q < x + a + l.length
  · rw [if_pos e, if_pos (by omega), if_pos (by omega), show q - (x + a) = q - x - (0 + a) by omega]
  · rw [if_neg e, h q]
    by_cases e1 : x ≤ q
    · rw [if_pos e1, if_pos e1, if_neg (by omega)]
    · rw [if_neg e1, if_neg e1]
theorem KF_rel (x : Nat) : ∀ q, KF x q = if x ≤ q then KF 0 (q - x) else none := by
  unfold KF KK KK1
  refine xK_sh (xK_sh (xK_sh (xK_sh (xK_sh (xK_sh (xK_sh (xK_sh (xK_sh (xK_sh (xK_sh (xK_sh (fun q => ?_))))))))))))
  have := xK_sh (K1 := fun _ => none) (K0 := fun _ => none) (x := x) (a := 0) (l := [.inr 10]) (fun q => by split <;> rfl) q
  exact this
theorem KF_at (x d : Nat) : KF x (x + d) = KF 0 d := by
  rw [KF_rel, if_pos (by omega), show x + d - x = d by omega]
theorem KF_tab : ∀ d : Nat, d < 74 → (KF 0 d = some (.inr 0) → d = 16 ∨ d = 32) ∧ (KF 0 d = some (.inr 2) → d = 1) ∧ (KF 0 d = some (.inr 3) → d = 7) := by decide
theorem KF_end (x q : Nat) (h : x + 74 ≤ q) : KF x q = none := by
  unfold KF KK KK1
  have l1 : pa_K.length = 2 := rfl
  have l2 : ps_K.length = 2 := rfl
  have l3 : pt_K.length = 9 := rfl
  have l4 : bo_K.length = 13 := rfl
  have l5 : mk_K.length = 3 := rfl
  have l6 : pl_K.length = 4 := rfl
  have l7 : mo_K.length = 21 := rfl
  repeat rw [xK_out (by right; first | omega | (simp only [List.length_cons, List.length_nil]; omega))]
