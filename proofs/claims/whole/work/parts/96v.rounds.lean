/-! All rounds of the law. -/
section LR
variable {x F L : Nat} {xs : Nat → Int32}
theorem sc_z {e : Int} (h0 : 0 ≤ e) (h1 : e < (L : Int)) (hL : L ≤ 1536) : scI L xs (zt e) = some (zt (xs e.toNat).toInt) := by
  have hc : (zt e).toNatClampNeg = e.toNat := by
    unfold Int32.toNatClampNeg
    rw [zt_toInt (by omega) (by omega)]
  have hn : ¬ (zt e < 0) := by
    rw [show (0 : Int32) = zt 0 from rfl, zt_lt (by omega) (by omega) (by omega) (by omega)]
    omega
  unfold scI
  rw [hc, if_neg (fun g => g.elim hn (fun q => by omega))]
  show _ = some (Int32.ofInt _)
  rw [Int32.ofInt_toInt]
theorem law_loop (hF : 7000 < F) (hL : L ≤ 1536) : ∀ (d i n : Nat) (G : GH) (Kf : Nat), 513 ≤ i + d → i ≤ 513 → d < Kf → LwE i x n G → Ok1 (fixN (fun _ _ _ => none) (b_L_law_23 F L xs x (x + 52) (x + 73)) Kf (zt (3 * (i : Int))) n G) := by
  intro d
  have stop : ∀ (i n : Nat) (G : GH) (rec : Int32 → Nat → GH → Option (Int32 × Nat × GH)), i ≤ 513 → (L : Int) - 3 < 3 * (i : Int) → Ok1 (b_L_law_23 F L xs x (x + 52) (x + 73) rec (zt (3 * (i : Int))) n G) := by
    intro i n G rec hi hlt
    unfold b_L_law_23
    rw [zt_ofNat, show (3 : Int32) = zt 3 from rfl, zt_sub, if_pos (by rw [zt_lt (by omega) (by omega) (by omega) (by omega)]; exact hlt)]
    exact ⟨_, _, rfl⟩
  induction d with
  | zero =>
    intro i n G Kf h1 h2 hK h
    obtain ⟨g, rfl⟩ : ∃ g, Kf = g + 1 := ⟨Kf - 1, by omega⟩
    rw [fix_succ]
    exact stop i n G _ h2 (by omega)
  | succ d ih =>
    intro i n G Kf h1 h2 hK h
    obtain ⟨g, rfl⟩ : ∃ g, Kf = g + 1 := ⟨Kf - 1, by omega⟩
    rw [fix_succ]
    by_cases q : (L : Int) - 3 < 3 * (i : Int)
    · exact stop i n G _ h2 q
    · obtain ⟨K, pr, pt, rr, M, lg, R, w, U, I, rfl, hw⟩ := h
      have e1 : zt (3 * (i : Int)) + 1 = zt (3 * (i : Int) + 1) := zt_add _ 1
      have e2 : zt (3 * (i : Int)) + 2 = zt (3 * (i : Int) + 2) := zt_add _ 2
      have e3 : zt (3 * (i : Int)) + 3 = zt (3 * ((i + 1 : Nat) : Int)) := by
        rw [show (3 : Int32) = zt 3 from rfl, zt_add, show 3 * (i : Int) + 3 = 3 * ((i + 1 : Nat) : Int) by omega]
      refine law_round hF (by omega) hw ⟨_, sc_z (by omega) (by omega) hL⟩ (by rw [e1]; exact sc_z (by omega) (by omega) hL) (by rw [e2]; exact sc_z (by omega) (by omega) hL) ⟨Int32.le_toInt _, Int32.toInt_lt _⟩ ⟨Int32.le_toInt _, Int32.toInt_lt _⟩ (fun n2 G2 h2' => ?_)
      rw [e3]
      exact ih (i + 1) n2 G2 g (by omega) (by omega) (by omega) h2'
end LR
