/-! Tokens: both cut the text alike. -/
def isBl (c : Int) : Bool := decide (c = 32) || decide (c = 10)
def isLt (c : Int) : Bool := decide (97 ≤ c) && decide (c ≤ 122)
def isDg (c : Int) : Bool := decide (48 ≤ c) && decide (c ≤ 57)
def runF (P : Int → Bool) (T : Int → Int) (N : Int) : Nat → Int → Int
  | 0, r => r
  | n + 1, r => if r < N ∧ P (T r) = true then runF P T N n (r + 1) else r
theorem runF_spec {P : Int → Bool} {T : Int → Int} {N : Int} : ∀ (n : Nat) (r : Int), N - r ≤ n → (r ≤ runF P T N n r ∧ (r ≤ N → runF P T N n r ≤ N)) ∧ (∀ i, r ≤ i → i < runF P T N n r → P (T i) = true) ∧ (runF P T N n r < N → P (T (runF P T N n r)) = false)
  | 0, r, h => by
    unfold runF
    exact ⟨⟨Int.le_refl _, id⟩, fun i a b => by omega, fun g => by omega⟩
  | n + 1, r, h => by
    unfold runF
    by_cases q : r < N ∧ P (T r) = true
    · rw [if_pos q]
      obtain ⟨h1, h2, h3⟩ := runF_spec (P := P) (T := T) (N := N) n (r + 1) (by omega)
      refine ⟨⟨by omega, fun _ => h1.2 (by omega)⟩, fun i a b => ?_, h3⟩
      by_cases e : i = r
      · rw [e]; exact q.2
      · exact h2 i (by omega) b
    · rw [if_neg q]
      refine ⟨⟨Int.le_refl _, id⟩, fun i a b => by omega, fun g => ?_⟩
      cases e : P (T r) with
      | false => rfl
      | true => exact absurd ⟨g, e⟩ q
theorem runF_stop {P : Int → Bool} {T : Int → Int} {N r : Int} (n : Nat) (h : ¬ (r < N ∧ P (T r) = true)) : runF P T N n r = r := by
  cases n with
  | zero => rfl
  | succ n => rw [runF, if_neg h]
theorem runF_stab {P : Int → Bool} {T : Int → Int} {N : Int} : ∀ (n m : Nat) (r : Int), N - r ≤ n → N - r ≤ m → runF P T N n r = runF P T N m r
  | 0, m, r, h, _ => by
    rw [runF_stop m (fun g => by omega)]
    rfl
  | n + 1, 0, r, _, h => by
    rw [runF_stop (n + 1) (fun g => by omega)]
    rfl
  | n + 1, m + 1, r, h, h1 => by
    rw [runF, runF]
    by_cases q : r < N ∧ P (T r) = true
    · rw [if_pos q, if_pos q]
      exact runF_stab n m (r + 1) (by omega) (by omega)
    · rw [if_neg q, if_neg q]
def nvF (T : Int → Int) (b : Int) : Nat → Int
  | 0 => 0
  | n + 1 => nvF T b n * 10 + (T (b + n) - 48)
def tkB (T : Int → Int) (N r : Int) : Int := runF isBl T N 600 r
def tkE (T : Int → Int) (N r : Int) : Int := if N ≤ tkB T N r then tkB T N r else if isLt (T (tkB T N r)) = true then runF isLt T N 600 (tkB T N r) else if isDg (T (tkB T N r)) = true then runF isDg T N 600 (tkB T N r) else tkB T N r + 1
def tkK (T : Int → Int) (N r : Int) : Int := if N ≤ tkB T N r then 0 else if isLt (T (tkB T N r)) = true then 1 else if isDg (T (tkB T N r)) = true then (if tkE T N r - tkB T N r ≤ 3 then 2 else 5) else if T (tkB T N r) = 59 then 3 else if T (tkB T N r) = 45 then 4 else 5
def tkV (T : Int → Int) (N r : Int) : Int := nvF T (tkB T N r) (tkE T N r - tkB T N r).toNat
/-! where a token lies -/
section TS
variable {T : Int → Int} {N r : Int}
theorem tk_rng (hr : 0 ≤ r ∧ r ≤ N) (hN : N ≤ 600) : (r ≤ tkB T N r ∧ tkB T N r ≤ N) ∧ (tkB T N r ≤ tkE T N r ∧ tkE T N r ≤ N) ∧ (tkK T N r ≠ 0 → tkB T N r < tkE T N r) ∧ (0 ≤ tkK T N r ∧ tkK T N r ≤ 5) ∧ (tkK T N r = 0 → tkB T N r = N ∧ tkE T N r = N) := by
  obtain ⟨h1, h2, h3⟩ := runF_spec (P := isBl) (T := T) (N := N) 600 r (by omega)
  have hb : tkB T N r = runF isBl T N 600 r := rfl
  rw [← hb] at h1 h2 h3
  have e1 := h1.2 hr.2
  unfold tkE tkK
  by_cases q : N ≤ tkB T N r
  · rw [if_pos q, if_pos q]
    exact ⟨⟨h1.1, e1⟩, ⟨Int.le_refl _, e1⟩, fun g => absurd rfl g, by omega, fun _ => by omega⟩
  · rw [if_neg q, if_neg q]
    by_cases q1 : isLt (T (tkB T N r)) = true
    · obtain ⟨g1, g2, g3⟩ := runF_spec (P := isLt) (T := T) (N := N) 600 (tkB T N r) (by omega)
      have g4 := g1.2 e1
      rw [if_pos q1, if_pos q1]
      refine ⟨⟨h1.1, e1⟩, ⟨g1.1, g4⟩, fun _ => ?_, by omega, fun g => by omega⟩
      apply Classical.byContradiction
      intro g
      have e2 : runF isLt T N 600 (tkB T N r) = tkB T N r := by omega
      have := g3 (by omega)
      rw [e2, q1] at this
      cases this
    · rw [if_neg q1, if_neg q1]
      by_cases q2 : isDg (T (tkB T N r)) = true
      · obtain ⟨g1, g2, g3⟩ := runF_spec (P := isDg) (T := T) (N := N) 600 (tkB T N r) (by omega)
        have g4 := g1.2 e1
        rw [if_pos q2, if_pos q2]
        refine ⟨⟨h1.1, e1⟩, ⟨g1.1, g4⟩, fun _ => ?_, by split <;> omega, fun g => by split at g <;> omega⟩
        apply Classical.byContradiction
        intro g
        have e2 : runF isDg T N 600 (tkB T N r) = tkB T N r := by omega
        have := g3 (by omega)
        rw [e2, q2] at this
        cases this
      · rw [if_neg q2, if_neg q2]
        refine ⟨⟨h1.1, e1⟩, by omega, fun _ => by omega, ?_, fun g => ?_⟩
        · split
          · omega
          · split <;> omega
        · split at g
          · omega
          · split at g <;> omega
/-- behind a number there is no digit -/
theorem tk_num (hr : 0 ≤ r ∧ r ≤ N) (hN : N ≤ 600) (hk : tkK T N r = 2) : tkE T N r < N → isDg (T (tkE T N r)) = false := by
  have hrg := tk_rng (T := T) hr hN
  intro hlt
  unfold tkK at hk
  by_cases q : N ≤ tkB T N r
  · rw [if_pos q] at hk; omega
  · rw [if_neg q] at hk
    by_cases q1 : isLt (T (tkB T N r)) = true
    · rw [if_pos q1] at hk; omega
    · rw [if_neg q1] at hk
      by_cases q2 : isDg (T (tkB T N r)) = true
      · have e : tkE T N r = runF isDg T N 600 (tkB T N r) := by unfold tkE; rw [if_neg q, if_neg q1, if_pos q2]
        rw [e] at hlt ⊢
        exact (runF_spec (P := isDg) (T := T) (N := N) 600 (tkB T N r) (by omega)).2.2 hlt
      · rw [if_neg q2] at hk
        split at hk
        · omega
        · split at hk <;> omega
/-- a number begins with a digit -/
theorem tk_dg (hk : tkK T N r = 2) : isDg (T (tkB T N r)) = true := by
  unfold tkK at hk
  by_cases q : N ≤ tkB T N r
  · rw [if_pos q] at hk; omega
  · rw [if_neg q] at hk
    by_cases q1 : isLt (T (tkB T N r)) = true
    · rw [if_pos q1] at hk; omega
    · rw [if_neg q1] at hk
      by_cases q2 : isDg (T (tkB T N r)) = true
      · exact q2
      · rw [if_neg q2] at hk
        split at hk
        · omega
        · split at hk <;> omega
theorem dg_bl {c : Int} (h : isDg c = true) : isBl c = false := by
  unfold isDg at h
  unfold isBl
  simp at h ⊢
  omega
theorem nv_rng (hr : 0 ≤ r ∧ r ≤ N) (hN : N ≤ 600) (hk : tkK T N r = 2) : 0 ≤ tkV T N r ∧ tkV T N r ≤ 999 := by
  have hrg := tk_rng (T := T) hr hN
  have hdg := tk_dg hk
  have hE : tkE T N r - tkB T N r ≤ 3 ∧ tkE T N r = runF isDg T N 600 (tkB T N r) := by
    unfold tkK at hk
    by_cases q : N ≤ tkB T N r
    · rw [if_pos q] at hk; omega
    · rw [if_neg q] at hk
      by_cases q1 : isLt (T (tkB T N r)) = true
      · rw [if_pos q1] at hk; omega
      · rw [if_neg q1, if_pos hdg] at hk
        refine ⟨by split at hk <;> omega, ?_⟩
        unfold tkE
        rw [if_neg q, if_neg q1, if_pos hdg]
  have hall := (runF_spec (P := isDg) (T := T) (N := N) 600 (tkB T N r) (by omega)).2.1
  rw [← hE.2] at hall
  have hd : ∀ i, tkB T N r ≤ i → i < tkE T N r → 48 ≤ T i ∧ T i ≤ 57 := fun i a b => by
    have := hall i a b
    unfold isDg at this
    simpa using this
  have key : ∀ n : Nat, (n : Int) ≤ tkE T N r - tkB T N r → (n = 0 → nvF T (tkB T N r) n = 0) ∧ 0 ≤ nvF T (tkB T N r) n ∧ (n ≤ 1 → nvF T (tkB T N r) n ≤ 9) ∧ (n ≤ 2 → nvF T (tkB T N r) n ≤ 99) ∧ (n ≤ 3 → nvF T (tkB T N r) n ≤ 999) := by
    intro n
    induction n with
    | zero => intro _; unfold nvF; exact ⟨fun _ => rfl, Int.le_refl _, fun _ => by omega, fun _ => by omega, fun _ => by omega⟩
    | succ n ih =>
      intro hn
      obtain ⟨i1, i2, i3, i4, i5⟩ := ih (by omega)
      have hc := hd (tkB T N r + n) (by omega) (by omega)
      unfold nvF
      refine ⟨fun g => by omega, by omega, fun g => ?_, fun g => ?_, fun g => ?_⟩
      · have := i1 (by omega); omega
      · have := i3 (by omega); omega
      · have := i4 (by omega); omega
  obtain ⟨k1, k2, k3, k4, k5⟩ := key (tkE T N r - tkB T N r).toNat (by omega)
  exact ⟨k2, k5 (by omega)⟩
end TS
section TC1
variable {F : Nat} {lg : Nat → Nat → Int64} {M : ZM} {t pb : Nat} {T : Int → Int} {N : Int}
theorem up2_5 (M : ZM) (j : Nat) (v : Int) : up2 (LI M) j 5 (zt v) = LI (uM M j 5 v) := up2_z M j 5 v
theorem up2_7 (M : ZM) (j : Nat) (v : Int) : up2 (LI M) j 7 (zt v) = LI (uM M j 7 v) := up2_z M j 7 v
theorem y_cutWord (htp : t ≠ pb) (hN : 0 ≤ N ∧ N ≤ 600) (hT : ∀ e, -128 ≤ T e ∧ T e ≤ 127) : ∀ (n : Nat) (r : Int) (M : ZM) (K : Nat), N - r ≤ n → 0 ≤ r → r ≤ N → M t 1 = N → M t 4 = r → (∀ e, 0 ≤ e → e < N → M pb e = T e) → n < K →
    ∃ M1, fixN (fun _ _ => none) (pb_X8_cutWord_0 F pb t) K (LI M) lg = some (LI M1, lg) ∧ M1 t 4 = runF isLt T N n r ∧ M1 t 2 = 1 ∧ (∀ e, e ≠ 2 → e ≠ 4 → M1 t e = M t e) ∧ ∀ j, j ≠ t → M1 j = M j := by
  intro n
  induction n with
  | zero =>
    intro r M K h1 h2 h3 g1 g4 gp hK
    obtain ⟨g, rfl⟩ : ∃ g, K = g + 1 := ⟨K - 1, by omega⟩
    rw [fix_succ]
    refine ⟨uM M t 2 1, ?_, ?_, uM_eq _ _ _ _, fun e a _ => uM_nei a, fun j hj => by funext e; exact uM_ne hj⟩
    · unfold pb_X8_cutWord_0
      rw [LI_1, LI_4, g1, g4, if_pos (zle_pos (by omega) (by omega) (by omega)), show (1 : Int32) = zt 1 from rfl, up2_2, gnm_z]
    · rw [uM_nei (by omega), g4]; rfl
  | succ n ih =>
    intro r M K h1 h2 h3 g1 g4 gp hK
    obtain ⟨g, rfl⟩ : ∃ g, K = g + 1 := ⟨K - 1, by omega⟩
    rw [fix_succ]
    generalize hr : fixN (fun _ _ => none) (pb_X8_cutWord_0 F pb t) g = rr
    have stop : ¬ (r < N ∧ isLt (T r) = true) → pb_X8_cutWord_0 F pb t rr (LI M) lg = some (LI (uM M t 2 1), lg) → ∃ M1, pb_X8_cutWord_0 F pb t rr (LI M) lg = some (LI M1, lg) ∧ M1 t 4 = runF isLt T N (n + 1) r ∧ M1 t 2 = 1 ∧ (∀ e, e ≠ 2 → e ≠ 4 → M1 t e = M t e) ∧ ∀ j, j ≠ t → M1 j = M j := fun hs he => ⟨uM M t 2 1, he, by rw [uM_nei (by omega), g4, runF, if_neg hs], uM_eq _ _ _ _, fun e a _ => uM_nei a, fun j hj => by funext e; exact uM_ne hj⟩
    by_cases q : N ≤ r
    · refine stop (fun e => by omega) ?_
      unfold pb_X8_cutWord_0
      rw [LI_1, LI_4, g1, g4, if_pos (zle_pos (by omega) (by omega) (by omega)), show (1 : Int32) = zt 1 from rfl, up2_2, gnm_z]
    · have hTr := hT r
      have hpr := gp r h2 (by omega)
      by_cases q2 : isLt (T r) = true
      · have hl : 97 ≤ T r ∧ T r ≤ 122 := by unfold isLt at q2; simpa using q2
        rw [runF, if_pos ⟨by omega, q2⟩]
        unfold pb_X8_cutWord_0
        rw [LI_1, LI_4, g1, g4, if_neg (zle_neg (by omega) (by omega) (by omega)), mI_z (by omega) (by omega) (by omega), ob_z, hpr]
        simp (disch := omega) only [zt_lit, zt_lt, ob_z, zt_add]
        rw [if_neg (by omega), if_neg (by omega), up2_4, gnm_z, ← hr]
        obtain ⟨M1, a1, a2, a3, a4, a5⟩ := ih (r + 1) (uM M t 4 (r + 1)) g (by omega) (by omega) (by omega) (by rw [uM_nei (by omega)]; exact g1) (uM_eq _ _ _ _) (fun e e0 e1 => by rw [uM_ne (by omega)]; exact gp e e0 e1) (by omega)
        exact ⟨M1, a1, a2, a3, fun e e2 e4 => by rw [a4 e e2 e4, uM_nei e4], fun j hj => by rw [a5 j hj]; funext e; exact uM_ne hj⟩
      · refine stop (fun e => q2 e.2) ?_
        unfold pb_X8_cutWord_0
        rw [LI_1, LI_4, g1, g4, if_neg (zle_neg (by omega) (by omega) (by omega)), mI_z (by omega) (by omega) (by omega), ob_z, hpr]
        simp (disch := omega) only [zt_lit, zt_lt, ob_z, up2_2, gnm_z]
        have hl : T r < 97 ∨ 122 < T r := by
          unfold isLt at q2
          simp at q2
          omega
        by_cases q3 : T r < 97
        · rw [if_pos q3]
        · rw [if_neg q3, if_pos (by omega)]
theorem y_cutNum {b : Int} (htp : t ≠ pb) (hN : 0 ≤ N ∧ N ≤ 600) (hT : ∀ e, -128 ≤ T e ∧ T e ≤ 127) (hb : 0 ≤ b) : ∀ (n : Nat) (r : Int) (M : ZM) (K : Nat), N - r ≤ n → b ≤ r → r ≤ N → M t 1 = N → M t 3 = b → M t 4 = r → M t 5 = nvF T b (r - b).toNat → (∀ e, 0 ≤ e → e < N → M pb e = T e) → n < K →
    ∃ M1, fixN (fun _ _ => none) (pb_X8_cutNumber_5 F pb t) K (LI M) lg = some (LI M1, lg) ∧ M1 t 4 = runF isDg T N n r ∧ M1 t 2 = (if runF isDg T N n r - b ≤ 3 then 2 else 5) ∧ M1 t 5 = nvF T b (runF isDg T N n r - b).toNat ∧ (∀ e, e ≠ 2 → e ≠ 4 → e ≠ 5 → M1 t e = M t e) ∧ ∀ j, j ≠ t → M1 j = M j := by
  have k81 : ∀ (M : ZM) (r : Int), b ≤ r → r ≤ N → M t 3 = b → M t 4 = r → pk_X8_cutNumber_81 F pb t (LI M) lg = some (LI (uM M t 2 (if r - b ≤ 3 then 2 else 5)), lg) := by
    intro M r h1 h2 g3 g4
    unfold pk_X8_cutNumber_81
    rw [LI_3, LI_4, g3, g4, zt_sub]
    simp (disch := omega) only [zt_lit, zt_lt, up2_2, gnm_z]
    by_cases q : r - b ≤ 3
    · rw [if_neg (by omega), if_pos q]
    · rw [if_pos (by omega), if_neg q]
  intro n
  induction n with
  | zero =>
    intro r M K h1 h2 h3 g1 g3 g4 g5 gp hK
    obtain ⟨g, rfl⟩ : ∃ g, K = g + 1 := ⟨K - 1, by omega⟩
    rw [fix_succ]
    refine ⟨_, ?_, ?_, uM_eq _ _ _ _, ?_, fun e a _ _ => uM_nei a, fun j hj => by funext e; exact uM_ne hj⟩
    · unfold pb_X8_cutNumber_5
      rw [LI_1, LI_4, g1, g4, if_pos (zle_pos (by omega) (by omega) (by omega)), k81 M r h2 h3 g3 g4]
      rfl
    · rw [uM_nei (by omega), g4]; rfl
    · rw [uM_nei (by omega), g5]; rfl
  | succ n ih =>
    intro r M K h1 h2 h3 g1 g3 g4 g5 gp hK
    obtain ⟨g, rfl⟩ : ∃ g, K = g + 1 := ⟨K - 1, by omega⟩
    rw [fix_succ]
    generalize hr : fixN (fun _ _ => none) (pb_X8_cutNumber_5 F pb t) g = rr
    have stop : ¬ (r < N ∧ isDg (T r) = true) → pb_X8_cutNumber_5 F pb t rr (LI M) lg = some (LI (uM M t 2 (if r - b ≤ 3 then 2 else 5)), lg) → ∃ M1, pb_X8_cutNumber_5 F pb t rr (LI M) lg = some (LI M1, lg) ∧ M1 t 4 = runF isDg T N (n + 1) r ∧ M1 t 2 = (if runF isDg T N (n + 1) r - b ≤ 3 then 2 else 5) ∧ M1 t 5 = nvF T b (runF isDg T N (n + 1) r - b).toNat ∧ (∀ e, e ≠ 2 → e ≠ 4 → e ≠ 5 → M1 t e = M t e) ∧ ∀ j, j ≠ t → M1 j = M j := fun hs he => by
      have er : runF isDg T N (n + 1) r = r := by rw [runF, if_neg hs]
      rw [er]
      exact ⟨_, he, by rw [uM_nei (by omega), g4], uM_eq _ _ _ _, by rw [uM_nei (by omega), g5], fun e a _ _ => uM_nei a, fun j hj => by funext e; exact uM_ne hj⟩
    by_cases q : N ≤ r
    · refine stop (fun e => by omega) ?_
      unfold pb_X8_cutNumber_5
      rw [LI_1, LI_4, g1, g4, if_pos (zle_pos (by omega) (by omega) (by omega)), k81 M r h2 h3 g3 g4]
    · have hTr := hT r
      have hpr := gp r (by omega) (by omega)
      by_cases q2 : isDg (T r) = true
      · have hl : 48 ≤ T r ∧ T r ≤ 57 := by unfold isDg at q2; simpa using q2
        rw [runF, if_pos ⟨by omega, q2⟩]
        unfold pb_X8_cutNumber_5
        rw [LI_1, LI_4, g1, g4, if_neg (zle_neg (by omega) (by omega) (by omega)), mI_z (by omega) (by omega) (by omega), ob_z, hpr]
        simp (disch := omega) only [zt_lit, zt_lt, ob_z]
        rw [if_neg (by omega), if_neg (by omega), LI_5, g5, zt_mul, zt_sub, zt_add, up2_5, gnm_z, LI_4, uM_nei (by omega), g4, zt_add, up2_4, gnm_z, ← hr]
        have ev : nvF T b (r - b).toNat * 10 + (T r - 48) = nvF T b (r + 1 - b).toNat := by
          rw [show (r + 1 - b).toNat = (r - b).toNat + 1 by omega, nvF, show b + ((r - b).toNat : Int) = r by omega]
        obtain ⟨M1, a1, a2, a3, a4, a5, a6⟩ := ih (r + 1) (uM (uM M t 5 (nvF T b (r - b).toNat * 10 + (T r - 48))) t 4 (r + 1)) g (by omega) (by omega) (by omega) (by rw [uM_nei (by omega), uM_nei (by omega)]; exact g1) (by rw [uM_nei (by omega), uM_nei (by omega)]; exact g3) (uM_eq _ _ _ _) (by rw [uM_nei (by omega), uM_eq]; exact ev) (fun e e0 e1 => by rw [uM_ne (by omega), uM_ne (by omega)]; exact gp e e0 e1) (by omega)
        exact ⟨M1, a1, a2, a3, a4, fun e e2 e4 e5 => by rw [a5 e e2 e4 e5, uM_nei e4, uM_nei e5], fun j hj => by rw [a6 j hj]; funext e; rw [uM_ne hj, uM_ne hj]⟩
      · refine stop (fun e => q2 e.2) ?_
        unfold pb_X8_cutNumber_5
        rw [LI_1, LI_4, g1, g4, if_neg (zle_neg (by omega) (by omega) (by omega)), mI_z (by omega) (by omega) (by omega), ob_z, hpr, k81 M r h2 h3 g3 g4]
        simp (disch := omega) only [zt_lit, zt_lt, ob_z]
        have hl : T r < 48 ∨ 57 < T r := by
          unfold isDg at q2
          simp at q2
          omega
        by_cases q3 : T r < 48
        · rw [if_pos q3]
        · rw [if_neg q3, if_pos (by omega)]
/-- the class's token at t is the one from r on -/
def TokC (M : ZM) (t : Nat) (T : Int → Int) (N r : Int) : Prop := M t 1 = N ∧ M t 2 = tkK T N r ∧ M t 3 = tkB T N r ∧ M t 4 = tkE T N r ∧ (tkK T N r = 2 → M t 5 = tkV T N r)
theorem y_advance {r : Int} (hF : 700 < F) (htp : t ≠ pb) (hN : 0 ≤ N ∧ N ≤ 600) (hT : ∀ e, -128 ≤ T e ∧ T e ≤ 127) (hr : 0 ≤ r ∧ r ≤ N) (g1 : M t 1 = N) (g4 : M t 4 = r) (gp : ∀ e, 0 ≤ e → e < N → M pb e = T e) : ∃ M1, p_X8_advance F pb t (LI M) lg = some (LI M1, lg) ∧ TokC M1 t T N r ∧ ∀ j, j ≠ t → M1 j = M j := by
  -- behind the blanks
  have k60 : ∀ (M : ZM), M t 1 = N → M t 3 = tkB T N r → (∀ e, 0 ≤ e → e < N → M pb e = T e) → ∃ M1, pk_X8_advance_60 F pb t (LI M) lg = some (LI M1, lg) ∧ TokC M1 t T N r ∧ ∀ j, j ≠ t → M1 j = M j := by
    intro M g1 g3 gp
    have hrg := tk_rng (T := T) hr hN.2
    have hb := hrg.1
    unfold pk_X8_advance_60
    rw [LI_3, g3, up2_4, gnm_z, LI_3, uM_nei (by omega), g3, LI_1, uM_nei (by omega), g1]
    have h1 : uM M t 4 (tkB T N r) t 1 = N := by rw [uM_nei (by omega)]; exact g1
    have h3 : uM M t 4 (tkB T N r) t 3 = tkB T N r := by rw [uM_nei (by omega)]; exact g3
    have h4 : uM M t 4 (tkB T N r) t 4 = tkB T N r := uM_eq _ _ _ _
    have hp4 : ∀ e, 0 ≤ e → e < N → uM M t 4 (tkB T N r) pb e = T e := fun e a b => by rw [uM_ne (Ne.symm htp)]; exact gp e a b
    have hj4 : ∀ j, j ≠ t → uM M t 4 (tkB T N r) j = M j := fun j hj => by funext e; exact uM_ne hj
    generalize uM M t 4 (tkB T N r) = M2 at *
    have hz : (zt (tkB T N r) < zt N) = (tkB T N r < N) := zt_lt (by omega) (by omega) (by omega) (by omega)
    by_cases q : N ≤ tkB T N r
    · have eK : tkK T N r = 0 := by unfold tkK; rw [if_pos q]
      have eE : tkE T N r = tkB T N r := by unfold tkE; rw [if_pos q]
      rw [if_neg (by rw [hz]; omega), show (0 : Int32) = zt 0 from rfl, up2_2, gnm_z]
      refine ⟨_, rfl, ⟨by rw [uM_nei (by omega)]; exact h1, by rw [uM_eq, eK], by rw [uM_nei (by omega)]; exact h3, by rw [uM_nei (by omega), eE]; exact h4, fun g => by omega⟩, fun j hj => by rw [← hj4 j hj]; funext e; exact uM_ne hj⟩
    · rw [if_pos (by rw [hz]; omega), mI_z (by omega) (by omega) (by omega), ob_z, ob_z, hp4 _ (by omega) (by omega)]
      have hTr := hT (tkB T N r)
      -- no letter
      have k122 : isLt (T (tkB T N r)) = false → ∃ M1, pk_X8_advance_122 F pb t (LI M2) lg = some (LI M1, lg) ∧ TokC M1 t T N r ∧ ∀ j, j ≠ t → M1 j = M j := by
        intro q1
        have q1' : ¬ (isLt (T (tkB T N r)) = true) := by rw [q1]; simp
        unfold pk_X8_advance_122
        rw [LI_3, h3, mI_z (by omega) (by omega) (by omega), ob_z, ob_z, hp4 _ (by omega) (by omega)]
        simp (disch := omega) only [zt_lit, zt_lt]
        by_cases q2 : isDg (T (tkB T N r)) = true
        · have hl : 48 ≤ T (tkB T N r) ∧ T (tkB T N r) ≤ 57 := by unfold isDg at q2; simpa using q2
          rw [if_neg (by omega), if_neg (by omega)]
          unfold p_X8_cutNumber
          rw [show (0 : Int32) = zt 0 from rfl, up2_5, gnm_z]
          obtain ⟨M1, a1, a2, a3, a4, a5, a6⟩ := y_cutNum (F := F) (lg := lg) (b := tkB T N r) htp hN hT (by omega) 600 (tkB T N r) (uM M2 t 5 0) F (by omega) (Int.le_refl _) (by omega) (by rw [uM_nei (by omega)]; exact h1) (by rw [uM_nei (by omega)]; exact h3) (by rw [uM_nei (by omega)]; exact h4) (by rw [uM_eq, Int.sub_self]; rfl) (fun e e0 e1 => by rw [uM_ne (Ne.symm htp)]; exact hp4 e e0 e1) (by omega)
          have eE : tkE T N r = runF isDg T N 600 (tkB T N r) := by unfold tkE; rw [if_neg q, if_neg q1', if_pos q2]
          have eK : tkK T N r = if tkE T N r - tkB T N r ≤ 3 then 2 else 5 := by unfold tkK; rw [if_neg q, if_neg q1', if_pos q2]
          rw [← eE] at a2 a3 a4
          rw [a1, hcU_z]
          refine ⟨M1, rfl, ⟨by rw [a5 1 (by omega) (by omega) (by omega), uM_nei (by omega)]; exact h1, by rw [a3, eK], by rw [a5 3 (by omega) (by omega) (by omega), uM_nei (by omega)]; exact h3, a2, fun _ => a4⟩, fun j hj => by rw [a6 j hj, ← hj4 j hj]; funext e; exact uM_ne hj⟩
        · have hl : T (tkB T N r) < 48 ∨ 57 < T (tkB T N r) := by
            unfold isDg at q2
            simp at q2
            omega
          have eE : tkE T N r = tkB T N r + 1 := by unfold tkE; rw [if_neg q, if_neg q1', if_neg q2]
          have k157 : pk_X8_advance_157 F pb t (LI M2) lg = some (LI (uM (uM M2 t 4 (tkB T N r + 1)) t 2 (tkK T N r)), lg) := by
            unfold pk_X8_advance_157
            rw [LI_3, h3, show (1 : Int32) = zt 1 from rfl, zt_add, up2_4, gnm_z, LI_3, uM_nei (by omega), h3, mI_z (by omega) (by omega) (by omega), ob_z, ob_z, uM_ne (Ne.symm htp), hp4 _ (by omega) (by omega)]
            simp (disch := omega) only [zt_lit, zt_eq, up2_2, gnm_z]
            unfold tkK
            rw [if_neg q, if_neg q1', if_neg q2]
            by_cases q3 : T (tkB T N r) = 59
            · rw [if_pos q3, if_pos q3]
            · rw [if_neg q3, if_neg q3]
              by_cases q4 : T (tkB T N r) = 45
              · rw [if_pos q4, if_pos q4]
              · rw [if_neg q4, if_neg q4]
          have hfin : ∃ M1, some (LI (uM (uM M2 t 4 (tkB T N r + 1)) t 2 (tkK T N r)), lg) = some (LI M1, lg) ∧ TokC M1 t T N r ∧ ∀ j, j ≠ t → M1 j = M j := by
            refine ⟨_, rfl, ⟨by rw [uM_nei (by omega), uM_nei (by omega)]; exact h1, uM_eq _ _ _ _, by rw [uM_nei (by omega), uM_nei (by omega)]; exact h3, by rw [uM_nei (by omega), uM_eq, eE], fun g => absurd (tk_dg g) q2⟩, fun j hj => by rw [← hj4 j hj]; funext e; rw [uM_ne hj, uM_ne hj]⟩
          rw [k157]
          by_cases q5 : T (tkB T N r) < 48
          · rw [if_pos q5]; exact hfin
          · rw [if_neg q5, if_pos (by omega)]; exact hfin
      simp (disch := omega) only [zt_lit, zt_lt]
      by_cases q1 : isLt (T (tkB T N r)) = true
      · have hl : 97 ≤ T (tkB T N r) ∧ T (tkB T N r) ≤ 122 := by unfold isLt at q1; simpa using q1
        rw [if_neg (by omega), if_neg (by omega)]
        unfold p_X8_cutWord
        obtain ⟨M1, a1, a2, a3, a4, a5⟩ := y_cutWord (F := F) (lg := lg) htp hN hT 600 (tkB T N r) M2 F (by omega) (by omega) (by omega) h1 h4 hp4 (by omega)
        have eE : tkE T N r = runF isLt T N 600 (tkB T N r) := by unfold tkE; rw [if_neg q, if_pos q1]
        have eK : tkK T N r = 1 := by unfold tkK; rw [if_neg q, if_pos q1]
        rw [a1, hcU_z]
        exact ⟨M1, rfl, ⟨by rw [a4 1 (by omega) (by omega)]; exact h1, by rw [a3, eK], by rw [a4 3 (by omega) (by omega)]; exact h3, by rw [a2, eE], fun g => by omega⟩, fun j hj => by rw [a5 j hj, hj4 j hj]⟩
      · have hl : T (tkB T N r) < 97 ∨ 122 < T (tkB T N r) := by
          unfold isLt at q1
          simp at q1
          omega
        have q1' : isLt (T (tkB T N r)) = false := by simpa using q1
        by_cases q5 : T (tkB T N r) < 97
        · rw [if_pos q5]; exact k122 q1'
        · rw [if_neg q5, if_pos (by omega)]; exact k122 q1'
  have key : ∀ (n : Nat) (s : Int) (M : ZM) (K : Nat), N - s ≤ n → 0 ≤ s → s ≤ N → runF isBl T N n s = tkB T N r → M t 1 = N → M t 3 = s → (∀ e, 0 ≤ e → e < N → M pb e = T e) → n < K → ∃ M1, fixN (fun _ _ => none) (pb_X8_advance_8 F pb t) K (LI M) lg = some (LI M1, lg) ∧ TokC M1 t T N r ∧ ∀ j, j ≠ t → M1 j = M j := by
    intro n
    induction n with
    | zero =>
      intro s M K h1 h2 h3 h4 g1 g3 gp hK
      obtain ⟨g, rfl⟩ : ∃ g, K = g + 1 := ⟨K - 1, by omega⟩
      rw [fix_succ]
      unfold pb_X8_advance_8
      rw [LI_1, LI_3, g1, g3, if_pos (zle_pos (by omega) (by omega) (by omega))]
      have e : s = tkB T N r := h4
      exact k60 M g1 (by rw [g3, e]) gp
    | succ n ih =>
      intro s M K h1 h2 h3 h4 g1 g3 gp hK
      obtain ⟨g, rfl⟩ : ∃ g, K = g + 1 := ⟨K - 1, by omega⟩
      rw [fix_succ]
      generalize hr : fixN (fun _ _ => none) (pb_X8_advance_8 F pb t) g = rr
      unfold pb_X8_advance_8
      rw [LI_1, LI_3, g1, g3]
      rw [runF] at h4
      by_cases q : N ≤ s
      · rw [if_neg (fun e => by omega)] at h4
        rw [if_pos (zle_pos (by omega) (by omega) (by omega))]
        exact k60 M g1 (by rw [g3, h4]) gp
      · have hTr := hT s
        rw [if_neg (zle_neg (by omega) (by omega) (by omega)), mI_z (by omega) (by omega) (by omega), ob_z, ob_z, gp s h2 (by omega)]
        simp (disch := omega) only [zt_lit, zt_eq]
        by_cases q2 : isBl (T s) = true
        · rw [if_pos ⟨by omega, q2⟩] at h4
          have k47 : ∃ M1, pk_X8_advance_47 F pb t rr (LI M) lg = some (LI M1, lg) ∧ TokC M1 t T N r ∧ ∀ j, j ≠ t → M1 j = M j := by
            unfold pk_X8_advance_47
            rw [LI_3, g3, show (1 : Int32) = zt 1 from rfl, zt_add, up2_3, gnm_z, ← hr]
            obtain ⟨M1, a1, a2, a3⟩ := ih (s + 1) (uM M t 3 (s + 1)) g (by omega) (by omega) (by omega) h4 (by rw [uM_nei (by omega)]; exact g1) (uM_eq _ _ _ _) (fun e e0 e1 => by rw [uM_ne (Ne.symm htp)]; exact gp e e0 e1) (by omega)
            exact ⟨M1, a1, a2, fun j hj => by rw [a3 j hj]; funext e; exact uM_ne hj⟩
          by_cases q3 : T s = 32
          · rw [if_pos q3]; exact k47
          · have : T s = 10 := by unfold isBl at q2; simp at q2; omega
            rw [if_neg q3, if_pos this]; exact k47
        · rw [if_neg (fun e => q2 e.2)] at h4
          have hn : T s ≠ 32 ∧ T s ≠ 10 := by unfold isBl at q2; simp at q2; exact q2
          rw [if_neg hn.1, if_neg hn.2]
          exact k60 M g1 (by rw [g3, h4]) gp
  unfold p_X8_advance
  rw [LI_4, g4, up2_3, gnm_z]
  obtain ⟨M1, a1, a2, a3⟩ := key 600 r (uM M t 3 r) F (by omega) hr.1 hr.2 rfl (by rw [uM_nei (by omega)]; exact g1) (uM_eq _ _ _ _) (fun e e0 e1 => by rw [uM_ne (Ne.symm htp)]; exact gp e e0 e1) (by omega)
  exact ⟨M1, a1, a2, fun j hj => by rw [a3 j hj]; funext e; exact uM_ne hj⟩
end TC1
