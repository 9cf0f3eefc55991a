/-! The reference's row read as integers; asking as a recursion (the spec), and the reference's readers. -/
def lz (L k : Int) : Bool := decide (((zt L >>> (zt k &&& zt 31)) &&& zt 1) = zt 1)
def sSt (A : Int → Int) (p : Int) : Nat → Int
  | 0 => p
  | n + 1 => if A (146 + 12 * (n : Int) + p) ≤ 0 then sSt A p n else A (146 + 12 * (n : Int) + p) - 1
def sFd (A : Int → Int) (p s : Int) : Nat → Int → Int
  | 0, _ => -1
  | n + 1, t => if A (207 + 8 * t) = p ∧ A (207 + 8 * t + 1) = s then t else sFd A p s n (t + 1)
def wfPart (A : Int → Int) (p : Int) : Prop :=
  (0 ≤ A (1 + 11 * p) ∧ A (1 + 11 * p) ≤ 5) ∧ (0 ≤ A (1 + 11 * p + 2) ∧ A (1 + 11 * p + 2) ≤ 4) ∧ (∀ k, 0 ≤ k → k < A (1 + 11 * p + 2) → 0 ≤ A (1 + 11 * p + (3 + k)) ∧ A (1 + 11 * p + (3 + k)) < A 0) ∧ (0 ≤ A (1 + 11 * p + 7) ∧ A (1 + 11 * p + 7) < 16) ∧ (0 ≤ A (1 + 11 * p + 8) ∧ A (1 + 11 * p + 8) ≤ 2) ∧ (0 ≤ A (1 + 11 * p + 9) ∧ A (1 + 11 * p + 9) ≤ 9) ∧ (0 ≤ A (1 + 11 * p + 10) ∧ A (1 + 11 * p + 10) ≤ 1)
def wfP (A : Int → Int) : Prop := (0 ≤ A 0 ∧ A 0 ≤ 12) ∧ ∀ p, 0 ≤ p → p < A 0 → wfPart A p
def wfS (A : Int → Int) : Prop := (0 ≤ A 145 ∧ A 145 ≤ 4) ∧ ∀ s p, 0 ≤ s → s ≤ 4 → 0 ≤ p → p < 12 → 0 ≤ A (146 + 12 * s + p) ∧ A (146 + 12 * s + p) ≤ A 0
def wfThing (A : Int → Int) (t : Int) : Prop :=
  (0 ≤ A (207 + 8 * t) ∧ A (207 + 8 * t) < A 0) ∧ (0 ≤ A (207 + 8 * t + 1) ∧ A (207 + 8 * t + 1) ≤ 4) ∧ (0 ≤ A (207 + 8 * t + 2) ∧ A (207 + 8 * t + 2) ≤ 1) ∧ ∀ k, 0 ≤ k → k < 4 → 0 ≤ A (207 + 8 * t + (4 + k)) ∧ A (207 + 8 * t + (4 + k)) ≤ A 206
def wfT (A : Int → Int) : Prop := (0 ≤ A 206 ∧ A 206 ≤ 60) ∧ ∀ t, 0 ≤ t → t < A 206 → wfThing A t
def wfM (B : Int) (A : Int → Int) : Prop := ∀ p, 0 ≤ p → p < 12 → 0 ≤ A (133 + p) ∧ A (133 + p) ≤ B
section RR
variable {M : ZM} {w : Int64} {F : Nat}
theorem x_of {p k : Int} (hp : 0 ≤ p ∧ p < 12) (hk : 0 ≤ k ∧ k ≤ 10) : p_X11_of F (zt p) (zt k) (LI M) w = some (zt (M 1 (1 + 11 * p + k))) := by
  unfold p_X11_of
  simp (disch := omega) only [zt_lit, zt_add, zt_mul, mI_z, ob_z]
theorem x_its {t k : Int} (ht : 0 ≤ t ∧ t < 60) (hk : 0 ≤ k ∧ k ≤ 7) : p_X11_its F (zt t) (zt k) (LI M) w = some (zt (M 1 (207 + 8 * t + k))) := by
  unfold p_X11_its
  simp (disch := omega) only [zt_lit, zt_add, zt_mul, mI_z, ob_z]
theorem x_itIs {t k v : Int} (ht : 0 ≤ t ∧ t < 60) (hk : 0 ≤ k ∧ k ≤ 7) : p_X11_itIs F (zt t) (zt k) (zt v) (LI M) w = some (LI (uM M 1 (207 + 8 * t + k) v), w) := by
  unfold p_X11_itIs
  simp (disch := omega) only [zt_lit, zt_add, zt_mul, mS_z, ob_z]
theorem x_in {v a c : Int} (h1 : -2147483648 ≤ v ∧ v < 2147483648) (h2 : -2147483648 ≤ a ∧ a < 2147483648) (h3 : -2147483648 ≤ c ∧ c < 2147483648) : p_X11_in F (zt v) (zt a) (zt c) = some (zt (if a ≤ v ∧ v ≤ c then 1 else 0)) := by
  unfold p_X11_in
  simp (disch := omega) only [zt_lit, zt_lt, rP_z0, rP_z1]
  by_cases q1 : v < a
  · rw [if_pos q1, if_neg (by omega)]
  · rw [if_neg q1]
    by_cases q2 : c < v
    · rw [if_pos q2, if_neg (by omega)]
    · rw [if_neg q2, if_pos (by omega)]
theorem rP_zi {c : Prop} {dc : Decidable c} : rP .boolean (zt (@ite _ c dc 1 0)) = some (zt (@ite _ c dc 1 0)) := by
  by_cases h : c
  · rw [if_pos h]; rfl
  · rw [if_neg h]; rfl
theorem x_isPart {p : Int} (h1 : -2147483648 ≤ p ∧ p < 2147483648) (hc : 0 ≤ M 1 0 ∧ M 1 0 ≤ 12) : p_X11_isPart F (zt p) (LI M) w = some (zt (if 0 ≤ p ∧ p ≤ M 1 0 - 1 then 1 else 0)) := by
  unfold p_X11_isPart
  simp (disch := omega) only [zt_lit, zt_sub, mI_z, ob_z, x_in, rP_zi]
theorem x_isThing {p : Int} (h1 : -2147483648 ≤ p ∧ p < 2147483648) (hc : 0 ≤ M 1 206 ∧ M 1 206 ≤ 60) : p_X11_isThing F (zt p) (LI M) w = some (zt (if 0 ≤ p ∧ p ≤ M 1 206 - 1 then 1 else 0)) := by
  unfold p_X11_isThing
  simp (disch := omega) only [zt_lit, zt_sub, mI_z, ob_z, x_in, rP_zi]
theorem x_isLazy {p k : Int} (hp : 0 ≤ p ∧ p < 12) : p_X11_isLazy F (zt p) (zt k) (LI M) w = some (zt (if lz (M 1 (1 + 11 * p + 7)) k = true then 1 else 0)) := by
  unfold p_X11_isLazy
  simp (disch := omega) only [zt_lit, x_of, ob_z, rP_z0, rP_z1, lz, decide_eq_true_eq]
  split <;> rfl
theorem x_standsFor {p s : Int} (hF : 8 < F) (hp : 0 ≤ p ∧ p < 12) (hs : -1 ≤ s ∧ s ≤ 4) (hw : wfS (M 1)) (hc : M 1 0 ≤ 12) : p_X11_standsFor F (zt p) (zt s) (LI M) w = some (zt (sSt (M 1) p (s + 1).toNat)) := by
  unfold p_X11_standsFor
  have es : zt s = zt ((((s + 1).toNat : Nat) : Int) - 1) := congrArg zt (by omega)
  rw [es]
  refine (fix_ind (fun k (r : Int32 → Option Int32) => ∀ n : Nat, n ≤ 5 → n < k → r (zt ((n : Int) - 1)) = some (zt (sSt (M 1) p n))) ?_ ?_ F) (s + 1).toNat (by omega) (by omega)
  · intro n _ h; omega
  · intro k r ih n hn hk
    unfold pb_X11_standsFor_2
    cases n with
    | zero =>
      simp (disch := omega) only [zt_lit, zt_lt, sSt]
      rfl
    | succ n =>
      have hb := hw.2 n p (by omega) (by omega) hp.1 hp.2
      simp (disch := omega) only [zt_lit, zt_neg, zt_add, zt_mul, zt_lt, zt_le, mI_z, ob_z, sSt, pk_X11_standsFor_24, zt_sub, show (((n + 1 : Nat) : Int) - 1) = (n : Int) by omega]
      rw [if_neg (by omega), show (n : Int) + -1 = (n : Int) - 1 by omega, ih n (by omega) (by omega)]
      split <;> rfl
theorem x_thingOf {p s : Int} (hF : 61 < F) (hp : 0 ≤ p ∧ p < 12) (hs : 0 ≤ s ∧ s ≤ 4) (hw : wfT (M 1)) (hc : M 1 0 ≤ 12) : p_X11_thingOf F (zt p) (zt s) (LI M) w = some (zt (sFd (M 1) p s (M 1 206).toNat 0)) := by
  unfold p_X11_thingOf
  have hm := hw.1
  refine (fix_ind (fun k (r : Int32 → Option Int32) => ∀ (n : Nat) (t : Int), 0 ≤ t → (n : Int) = M 1 206 - t → n < k → r (zt t) = some (zt (sFd (M 1) p s n t))) ?_ ?_ F) (M 1 206).toNat 0 (by omega) (by omega) (by omega)
  · intro n t _ _ h; omega
  · intro k r ih n t ht hn hk
    unfold pb_X11_thingOf_2
    cases n with
    | zero =>
      simp (disch := omega) only [zt_lit, zt_neg, zt_le, mI_z, ob_z, sFd]
      rw [if_pos (by omega)]
    | succ n =>
      have hb := hw.2 t ht (by omega)
      obtain ⟨h1, h2, -⟩ := hb
      simp (disch := omega) only [zt_lit, zt_add, zt_le, zt_eq, mI_z, ob_z, x_its, Int.add_zero, sFd]
      rw [if_neg (by omega), ih n (t + 1) (by omega) (by omega) (by omega)]
      by_cases q1 : M 1 (207 + 8 * t) = p
      · by_cases q2 : M 1 (207 + 8 * t + 1) = s
        · simp [q1, q2]
        · simp [q1, q2]
      · simp [q1]
end RR
