/-! The reference's pile does what the recursion says. -/
abbrev RT3 : Type := Int32 → (Nat → Nat → Int32) → Int64 → Option (Int32 × (Nat → Nat → Int32) × Int64)
def lpA (F K : Nat) : RT3 := fixN (fun _ _ _ => none) (pb_X11_asks_12 F) K
section RR
variable {w : Int64} {F : Nat}
theorem x_lp0 {M : ZM} {v : Int32} {K : Nat} (h : M 0 26 = 0) : lpA F (K + 1) v (LI M) w = some (v, LI M, w) := by
  unfold lpA
  rw [fix_succ]
  unfold pb_X11_asks_12
  have hl : LI M 0 26 = zt 0 := by rw [← h]; rfl
  rw [hl, if_pos (by decide)]
theorem x_lpn {M : ZM} {x : Int} {K : Nat} (hx : x = -2 ∨ x = -3 ∨ x = -4) : lpA F (K + 1) (zt x) (LI M) w = some (zt x, LI M, w) := by
  unfold lpA
  rw [fix_succ]
  unfold pb_X11_asks_12
  simp (disch := omega) only [zt_lit, zt_neg, zt_eq, zt_lt]
  split
  · rfl
  · rw [if_neg (by omega), if_pos (by omega)]
theorem x_lpo {M : ZM} {n : Int} {K : Nat} (hn : 0 ≤ n ∧ n ≤ 12) (h : M 0 26 = n + 1) : lpA F (K + 1) (zt (-9)) (LI M) w = fixN (fun _ _ => none) (pb_X11_asks_72 F (lpA F K) (zt n)) F (LI M) w := by
  have hl : LI M 0 26 = zt (n + 1) := by rw [← h]; rfl
  show pb_X11_asks_12 F (lpA F K) (zt (-9)) (LI M) w = _
  generalize lpA F K = r
  unfold pb_X11_asks_12 pk_X11_asks_29
  simp (disch := omega) only [hl, zt_lit, zt_neg, zt_eq, zt_lt, zt_le, zt_sub, gnm_z]
  rw [if_neg (by omega), if_pos trivial, if_pos (by omega), show n + 1 - 1 = n by omega]
theorem x_lpg {M : ZM} {n k x : Int} {K : Nat} (hn : 0 ≤ n ∧ n ≤ 12) (h : M 0 26 = n + 1) (hx : 0 ≤ x ∧ x < 60) (hk : M 11 n = k) (hk2 : 0 ≤ k ∧ k < 4) : lpA F (K + 1) (zt x) (LI M) w = fixN (fun _ _ => none) (pb_X11_asks_72 F (lpA F K) (zt n)) F (LI (uM (uM M 13 (4 * n + k) (x + 1)) 11 n (k + 1))) w := by
  have hl : LI M 0 26 = zt (n + 1) := by rw [← h]; rfl
  show pb_X11_asks_12 F (lpA F K) (zt x) (LI M) w = _
  generalize lpA F K = r
  unfold pb_X11_asks_12 pk_X11_asks_29
  simp (disch := omega) only [hl, zt_lit, zt_neg, zt_eq, zt_lt, zt_le, zt_sub, gnm_z]
  rw [if_neg (by omega), if_neg (by omega), if_neg (by omega), if_neg (by omega), show n + 1 - 1 = n by omega]
  simp (disch := omega) only [mI_z, mS_z, ob_z, zt_mul, zt_add, hk, uM_ne]
theorem x_in0 {M : ZM} {n p k : Int} {G : Nat} {r : RT3} (hG : 0 < G) (hn : 0 ≤ n ∧ n ≤ 12) (hp : 0 ≤ p ∧ p < 12) (h9 : M 9 n = p) (h11 : M 11 n = k) (hk : 0 ≤ k ∧ k ≤ 4) (hm : 0 ≤ M 1 (1 + 11 * p + 2) ∧ M 1 (1 + 11 * p + 2) ≤ 4) (h : M 1 (1 + 11 * p + 2) ≤ k) : fixN (fun _ _ => none) (pb_X11_asks_72 F r (zt n)) G (LI M) w = pcI (p_X11_makes F (LI M) w) r := by
  obtain ⟨g, rfl⟩ : ∃ g, G = g + 1 := ⟨G - 1, by omega⟩
  rw [fix_succ]
  generalize fixN (fun _ _ => none) (pb_X11_asks_72 F r (zt n)) g = q
  unfold pb_X11_asks_72 pk_X11_asks_129
  simp (disch := omega) only [zt_lit, mI_z, ob_z, h9, h11, x_of, zt_le]
  rw [if_pos h, if_pos h]
theorem x_in1 {M : ZM} {n p s k : Int} {G : Nat} {r : RT3} (hG : 0 < G) (hn : 0 ≤ n ∧ n ≤ 12) (hp : 0 ≤ p ∧ p < 12) (h9 : M 9 n = p) (h10 : M 10 n = s) (h11 : M 11 n = k) (hk : 0 ≤ k ∧ k ≤ 4) (hm : 0 ≤ M 1 (1 + 11 * p + 2) ∧ M 1 (1 + 11 * p + 2) ≤ 4) (h : k < M 1 (1 + 11 * p + 2)) (hz : ¬ lz (M 1 (1 + 11 * p + 7)) k = true) : fixN (fun _ _ => none) (pb_X11_asks_72 F r (zt n)) G (LI M) w = pcI (p_X11_opens F (zt (M 1 (1 + 11 * p + (3 + k)))) (zt s) (LI M) w) r := by
  obtain ⟨g, rfl⟩ : ∃ g, G = g + 1 := ⟨G - 1, by omega⟩
  rw [fix_succ]
  generalize fixN (fun _ _ => none) (pb_X11_asks_72 F r (zt n)) g = q
  unfold pb_X11_asks_72 pk_X11_asks_129
  simp (disch := omega) only [zt_lit, mI_z, ob_z, h9, h10, h11, x_of, zt_le, x_isLazy, if_neg hz, zt_add]
  rw [if_neg (by omega), if_pos trivial, if_neg (by omega)]
theorem x_in2 {M : ZM} {n p k : Int} {g : Nat} {r : RT3} (hn : 0 ≤ n ∧ n ≤ 12) (hp : 0 ≤ p ∧ p < 12) (h9 : M 9 n = p) (h11 : M 11 n = k) (hk : 0 ≤ k ∧ k ≤ 4) (hm : 0 ≤ M 1 (1 + 11 * p + 2) ∧ M 1 (1 + 11 * p + 2) ≤ 4) (h : k < M 1 (1 + 11 * p + 2)) (hz : lz (M 1 (1 + 11 * p + 7)) k = true) : fixN (fun _ _ => none) (pb_X11_asks_72 F r (zt n)) (g + 1) (LI M) w = fixN (fun _ _ => none) (pb_X11_asks_72 F r (zt n)) g (LI (uM M 11 n (k + 1))) w := by
  rw [fix_succ]
  generalize fixN (fun _ _ => none) (pb_X11_asks_72 F r (zt n)) g = q
  unfold pb_X11_asks_72
  simp (disch := omega) only [zt_lit, mI_z, mS_z, ob_z, h9, h11, x_of, zt_le, x_isLazy, if_pos hz, zt_add]
  rw [if_neg (by omega), if_neg (by decide)]
end RR
def PI (B : Int) (M : ZM) (n sn : Nat) (f : Int → Int) : Prop := FI B (M 1) n ∧ M 0 26 = n ∧ M 0 29 = sn ∧ (seg (M 9) n 0).Nodup ∧ (∀ i, 0 ≤ i → i < (n : Int) → 0 ≤ M 9 i ∧ M 9 i < M 1 0) ∧ (∀ j, 0 ≤ j → j < (sn : Int) → (0 ≤ M 14 j ∧ M 14 j < M 1 206) ∧ M 1 (207 + 8 * M 14 j) = f j)
def Sm (M M1 : ZM) (n : Int) : Prop := (∀ e, e ≠ 26 → M1 0 e = M 0 e) ∧ (∀ j, 2 ≤ j → (j < 9 ∨ 13 < j) → M1 j = M j) ∧ (∀ j i, 9 ≤ j → j ≤ 12 → 0 ≤ i → i < n → M1 j i = M j i) ∧ (∀ i, 0 ≤ i → i < 4 * n → M1 13 i = M 13 i)
theorem Sm.refl (M : ZM) (n : Int) : Sm M M n := ⟨fun _ _ => rfl, fun _ _ _ => rfl, fun _ _ _ _ _ _ => rfl, fun _ _ _ => rfl⟩
theorem Sm.trans {M M1 M2 : ZM} {n : Int} (h : Sm M M1 n) (h1 : Sm M1 M2 n) : Sm M M2 n :=
  ⟨fun e he => (h1.1 e he).trans (h.1 e he), fun j a b => (h1.2.1 j a b).trans (h.2.1 j a b), fun j i a b c d => (h1.2.2.1 j i a b c d).trans (h.2.2.1 j i a b c d), fun i a b => (h1.2.2.2 i a b).trans (h.2.2.2 i a b)⟩
theorem Sm.less {M M1 : ZM} {n m : Int} (h : Sm M M1 n) (hm : m ≤ n) : Sm M M1 m :=
  ⟨h.1, h.2.1, fun j i a b c d => h.2.2.1 j i a b c (by omega), fun i a b => h.2.2.2 i a (by omega)⟩
def FetSim (F : Nat) (w : Int64) (B : Int) (d : Nat) : Prop := ∀ (M : ZM) (n sn : Nat) (f : Int → Int) (asked scope : Int), PI B M n sn f → n + d = 13 → sn ≤ 60 → 0 ≤ asked → asked < M 1 0 → 0 ≤ scope → scope ≤ 4 →
  (0 ≤ (fetS d (seg (M 9) n 0) asked scope (M 1)).1 → ∃ (k : Nat) (M1 : ZM), (k : Int) ≤ 5 * ((fetS d (seg (M 9) n 0) asked scope (M 1)).2.2 206 - M 1 206) ∧ (∀ K, pcI (p_X11_opens F (zt asked) (zt scope) (LI M) w) (lpA F (K + k)) = lpA F K (zt (fetS d (seg (M 9) n 0) asked scope (M 1)).1) (LI M1) w) ∧ M1 1 = (fetS d (seg (M 9) n 0) asked scope (M 1)).2.2 ∧ M1 0 26 = n ∧ Sm M M1 n) ∧
  ((fetS d (seg (M 9) n 0) asked scope (M 1)).1 < 0 → ∃ (k : Nat) (M1 : ZM), (k : Int) ≤ 5 * ((fetS d (seg (M 9) n 0) asked scope (M 1)).2.2 206 - M 1 206) + 5 * d + 1 ∧ (∀ K, pcI (p_X11_opens F (zt asked) (zt scope) (LI M) w) (lpA F (K + k)) = some (zt (fetS d (seg (M 9) n 0) asked scope (M 1)).1, LI M1, w)) ∧ M1 1 = whyW (fetS d (seg (M 9) n 0) asked scope (M 1)).2.2 (fetS d (seg (M 9) n 0) asked scope (M 1)).1 (seg f sn 0 ++ (fetS d (seg (M 9) n 0) asked scope (M 1)).2.1) ∧ Sm M M1 0)
theorem PI.next {B : Int} {M M1 : ZM} {n sn : Nat} {f : Int → Int} (h : PI B M n sn f) (hx : Ext (M 1) (M1 1)) (hF : FI B (M1 1) n) (h26 : M1 0 26 = n) (hs : Sm M M1 n) : PI B M1 n sn f := by
  obtain ⟨a1, a2, a3, a4, a5, a6⟩ := h
  refine ⟨hF, h26, by rw [hs.1 29 (by omega)]; exact a3, ?_, fun i b1 b2 => ?_, fun j b1 b2 => ?_⟩
  · rw [seg_cong (f := M1 9) (g := M 9) n 0 (fun j c1 c2 => hs.2.2.1 9 j (by omega) (by omega) c1 (by omega))]
    exact a4
  · rw [hs.2.2.1 9 i (by omega) (by omega) b1 b2, hx.1 0 (by omega)]
    exact a5 i b1 b2
  · rw [hs.2.1 14 (by omega) (by omega)]
    obtain ⟨c1, c2⟩ := a6 j b1 b2
    have e := hx.2.2 (M 14 j) 0 c1.1 c1.2 (by omega) (by omega)
    rw [Int.add_zero] at e
    rw [e]
    have := hx.2.1
    exact ⟨by omega, c2⟩
