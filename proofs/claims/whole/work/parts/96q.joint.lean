/-! One memory for the class and the reference. -/
def Jn (x : Nat) (M : ZM) (lg : Nat → Nat → Int64) (R : ZM) (w : Int64) : Prop := (∀ j, j ≤ 20 → M (x + 52 + j) = R j) ∧ lg (x + 52) 12 = w
theorem mo_ty : ∀ d, d < 21 → 1 ≤ d → (mo_K[d]? = some (.inl (mty d, mlen d)) ∧ mty d ≤ 2) := by decide
section JN
variable {B : Int} {x mo n : Nat} {K : HK} {pr : HP} {pt : Nat → Nat} {rr : HP} {M M1 R : ZM} {w : Int64} {lg lg1 : Nat → Nat → Int64} {A T : Int → Int} {U : List (Int → Int)} {I : IMG}
set_option maxRecDepth 100000 in
theorem hp_mput (h : OkRef K pr mo) (hM : ∀ j, j ≤ 20 → M1 (mo + j) = R j) (hl : lg1 mo 12 = w) (ho : ∀ j, (j < mo ∨ mo + 21 ≤ j) → M1 j = M j) (hlo : ∀ j, j ≠ mo → lg1 j = lg j) : mput (hp K pr pt rr (LI M) lg) mo (LI R) w = hp K pr pt rr (LI M1) lg1 := by
  funext q
  have k0 : K mo = some (.inr 11) := h.1 0 (by decide)
  unfold mput
  by_cases e : q = mo
  · rw [if_pos e, e, h_obj k0]
    have l0 : ∀ k, LI M1 mo k = LI R 0 k := fun k => by
      have := hM 0 (by omega)
      show zt (M1 mo k) = zt (R 0 k)
      rw [show M1 mo = R 0 from this]
    have p := fun (k : Nat) (hk : k < 37) (j : Nat) => h.2 k hk j
    have hh : hfs pr pt (LI M1) lg1 mo (hFT.getD 11 []) 0 = [.int (LI M1 mo 0), va_rf (pr mo 1), va_rf (pr mo 2), va_rf (pr mo 3), va_rf (pr mo 4), .int (LI M1 mo 5), .int (LI M1 mo 6), .int (LI M1 mo 7), .int (LI M1 mo 8), .int (LI M1 mo 9), .int (LI M1 mo 10), .int (LI M1 mo 11), .long (lg1 mo 12), .int (LI M1 mo 13), .int (LI M1 mo 14), .int (LI M1 mo 15), va_rf (pr mo 16), va_rf (pr mo 17), va_rf (pr mo 18), .int (LI M1 mo 19), va_rf (pr mo 20), va_rf (pr mo 21), va_rf (pr mo 22), va_rf (pr mo 23), va_rf (pr mo 24), va_rf (pr mo 25), .int (LI M1 mo 26), va_rf (pr mo 27), va_rf (pr mo 28), .int (LI M1 mo 29), va_rf (pr mo 30), va_rf (pr mo 31), .int (LI M1 mo 32), va_rf (pr mo 33), va_rf (pr mo 34), .int (LI M1 mo 35), va_rf (pr mo 36)] := rfl
    rw [hh, l0, l0, l0, l0, l0, l0, l0, l0, l0, l0, l0, l0, l0, l0, l0, l0, hl, p 1 (by decide) _ rfl rfl, p 2 (by decide) _ rfl rfl, p 3 (by decide) _ rfl rfl, p 4 (by decide) _ rfl rfl, p 16 (by decide) _ rfl rfl, p 17 (by decide) _ rfl rfl, p 18 (by decide) _ rfl rfl, p 20 (by decide) _ rfl rfl, p 21 (by decide) _ rfl rfl, p 22 (by decide) _ rfl rfl, p 23 (by decide) _ rfl rfl, p 24 (by decide) _ rfl rfl, p 25 (by decide) _ rfl rfl, p 27 (by decide) _ rfl rfl, p 28 (by decide) _ rfl rfl, p 30 (by decide) _ rfl rfl, p 31 (by decide) _ rfl rfl, p 33 (by decide) _ rfl rfl, p 34 (by decide) _ rfl rfl, p 36 (by decide) _ rfl rfl]
    rfl
  · rw [if_neg e]
    by_cases e1 : mo < q ∧ q ≤ mo + 20
    · rw [if_pos e1]
      obtain ⟨d, rfl⟩ : ∃ d, q = mo + d := ⟨q - mo, by omega⟩
      obtain ⟨t1, t2⟩ := mo_ty d (by omega) (by omega)
      have hk : K (mo + d) = some (.inl (mty d, mlen d)) := (h.1 d (show d < 21 by omega)).trans t1
      rw [show mo + d - mo = d by omega, h_arr hk t2]
      have : LI M1 (mo + d) = LI R d := by
        funext k
        show zt (M1 (mo + d) k) = zt (R d k)
        rw [hM d (by omega)]
      rw [this]
    · rw [if_neg e1]
      have e2 : LI M1 q = LI M q := by
        funext k
        show zt (M1 q k) = zt (M q k)
        rw [ho q (by omega)]
      exact (hp_cong rfl rfl rfl rfl e2 (hlo q e)).symm
theorem ref_put (h : OkRef K pr (x + 52)) (hj : Jn x M lg R w) : hp K pr pt rr (LI M) lg = mput (hp K pr pt rr (LI M) lg) (x + 52) (LI R) w := (hp_mput h hj.1 hj.2 (fun _ _ => rfl) (fun _ _ => rfl)).symm
theorem ref_back (h : OkRef K pr (x + 52)) : ∃ M1 lg1, mput (hp K pr pt rr (LI M) lg) (x + 52) (LI R) w = hp K pr pt rr (LI M1) lg1 ∧ Jn x M1 lg1 R w ∧ (∀ j, (j < x + 52 ∨ x + 73 ≤ j) → M1 j = M j) ∧ lg1 (x + 48) = lg (x + 48) := by
  have a1 : ∀ j, j ≤ 20 → (fun j => if x + 52 ≤ j ∧ j < x + 73 then R (j - (x + 52)) else M j : ZM) (x + 52 + j) = R j := fun j hj => by
    show (if x + 52 ≤ x + 52 + j ∧ x + 52 + j < x + 73 then R (x + 52 + j - (x + 52)) else M (x + 52 + j)) = R j
    rw [if_pos (by omega), show x + 52 + j - (x + 52) = j by omega]
  have a2 : (fun j k => if j = x + 52 ∧ k = 12 then w else lg j k : Nat → Nat → Int64) (x + 52) 12 = w := if_pos ⟨rfl, rfl⟩
  have a3 : ∀ j, (j < x + 52 ∨ x + 73 ≤ j) → (fun j => if x + 52 ≤ j ∧ j < x + 73 then R (j - (x + 52)) else M j : ZM) j = M j := fun j hj => if_neg (by omega)
  have a4 : ∀ j, j ≠ x + 52 → (fun j k => if j = x + 52 ∧ k = 12 then w else lg j k : Nat → Nat → Int64) j = lg j := fun j hj => by
    funext k
    exact if_neg (fun g => hj g.1)
  exact ⟨_, _, hp_mput h a1 a2 (fun j hj => a3 j (by omega)) a4, ⟨a1, a2⟩, a3, a4 _ (by omega)⟩
/-- the class's call leaves the reference where it was -/
theorem Jn.rest (h : Jn x M lg R w) (hr : Rest x M M1 lg lg1) : Jn x M1 lg1 R w := ⟨fun j hj => by rw [hr.1 _ (by omega) (by omega)]; exact h.1 j hj, by rw [hr.2]; exact h.2⟩
/-- the reference's call leaves the class where it was -/
theorem CI.ref (h : CI B x K pr pt rr n M lg A T U I) (hM : ∀ j, (j < x + 52 ∨ x + 73 ≤ j) → M1 j = M j) (hl : lg1 (x + 48) = lg (x + 48)) : CI B x K pr pt rr n M1 lg1 A T U I := h.fr (fun j _ h2 => hM j h2) hl
end JN
