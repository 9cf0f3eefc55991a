/-! Tokens of the reference; words. -/
def u8 (c : Int) : Int := if c < 0 then c + 256 else c
theorem b255n : ∀ n : Nat, n < 256 → zt ((n : Int) - 128) &&& zt 255 = zt (u8 ((n : Int) - 128)) := by decide +kernel
theorem b255 {c : Int} (h : -128 ≤ c ∧ c ≤ 127) : zt c &&& zt 255 = zt (u8 c) := by
  have := b255n (c + 128).toNat (by omega)
  rw [show (((c + 128).toNat : Nat) : Int) - 128 = c by omega] at this
  exact this
theorem u8_rng {c : Int} (h : -128 ≤ c ∧ c ≤ 127) : 0 ≤ u8 c ∧ u8 c ≤ 255 := by unfold u8; split <;> omega
theorem u8_is {c v : Int} (h : -128 ≤ c ∧ c ≤ 127) (hv : 0 ≤ v ∧ v ≤ 127) : u8 c = v ↔ c = v := by unfold u8; split <;> omega
theorem u8_lt {c lo hi : Int} (h : -128 ≤ c ∧ c ≤ 127) (hv : 0 ≤ lo ∧ hi ≤ 127) : (lo ≤ u8 c ∧ u8 c ≤ hi) ↔ (lo ≤ c ∧ c ≤ hi) := by unfold u8; split <;> omega
def srt (k : Int) : Int := if k = 0 then 0 else if k = 1 then 2 else if k = 2 then 3 else if k = 5 then 1 else 4
def wvW (T : Int → Int) (b : Int) : Nat → Int64
  | 0 => 0
  | n + 1 => (wvW T b n <<< ((Int32.toInt64 (8 : Int32)) &&& 63)) ||| (Int32.toInt64 (zt (T (b + n))))
def wdV (T : Int → Int) (b e : Int) : Int64 := if e - b ≤ 8 then wvW T b (e - b).toNat else 0
def TokR (R : ZM) (w : Int64) (T : Int → Int) (N r : Int) : Prop := R 0 7 = N ∧ R 0 8 = tkB T N r ∧ R 0 6 = tkE T N r ∧ R 0 9 = srt (tkK T N r) ∧ (tkK T N r = 3 → R 0 10 = 59) ∧ (tkK T N r = 4 → R 0 10 = 45) ∧ (tkK T N r = 2 → R 0 11 = tkV T N r) ∧ (tkK T N r = 1 → w = wdV T (tkB T N r) (tkE T N r))
/-- only the token's own fields changed -/
def FrT (R R1 : ZM) : Prop := (∀ j, j ≠ 0 → R1 j = R j) ∧ ∀ e, e ≠ 6 → e ≠ 8 → e ≠ 9 → e ≠ 10 → e ≠ 11 → R1 0 e = R 0 e
section RT1
variable {w : Int64} {F : Nat} {R : ZM} {T : Int → Int} {N : Int}
theorem LI_7 (M : ZM) (j : Nat) : LI M j 7 = zt (M j 7) := rfl
theorem LI_8 (M : ZM) (j : Nat) : LI M j 8 = zt (M j 8) := rfl
theorem LI_9 (M : ZM) (j : Nat) : LI M j 9 = zt (M j 9) := rfl
theorem LI_10 (M : ZM) (j : Nat) : LI M j 10 = zt (M j 10) := rfl
theorem LI_11 (M : ZM) (j : Nat) : LI M j 11 = zt (M j 11) := rfl
theorem up2_8 (M : ZM) (j : Nat) (v : Int) : up2 (LI M) j 8 (zt v) = LI (uM M j 8 v) := up2_z M j 8 v
theorem up2_9 (M : ZM) (j : Nat) (v : Int) : up2 (LI M) j 9 (zt v) = LI (uM M j 9 v) := up2_z M j 9 v
theorem up2_10 (M : ZM) (j : Nat) (v : Int) : up2 (LI M) j 10 (zt v) = LI (uM M j 10 v) := up2_z M j 10 v
theorem up2_11 (M : ZM) (j : Nat) (v : Int) : up2 (LI M) j 11 (zt v) = LI (uM M j 11 v) := up2_z M j 11 v
theorem x_see {r : Int} (hN : 0 ≤ N ∧ N ≤ 600) (hT : ∀ e, -128 ≤ T e ∧ T e ≤ 127) (hr : 0 ≤ r ∧ r ≤ N) (g7 : R 0 7 = N) (g6 : R 0 6 = r) (gt : ∀ e, 0 ≤ e → e < N → R 2 e = T e) : p_X11_see F (LI R) w = some (zt (if r < N then u8 (T r) else -1)) := by
  unfold p_X11_see
  rw [LI_7, LI_6, g7, g6]
  by_cases q : r < N
  · rw [if_neg (zle_neg (by omega) (by omega) (by omega)), if_pos q, mI_z (by omega) (by omega) (by omega), ob_z, gt r hr.1 q, show (255 : Int32) = zt 255 from rfl, b255 (hT r)]
  · rw [if_pos (zle_pos (by omega) (by omega) (by omega)), if_neg q]
    rfl
theorem x_tw79 {b : Int} (hN : 0 ≤ N ∧ N ≤ 600) (hT : ∀ e, -128 ≤ T e ∧ T e ≤ 127) (hb : 0 ≤ b) : ∀ (n : Nat) (r : Int) (R : ZM) (w : Int64) (K : Nat), N - r ≤ n → b ≤ r → r ≤ N → R 0 7 = N → R 0 6 = r → w = wvW T b (r - b).toNat → (∀ e, 0 ≤ e → e < N → R 2 e = T e) → n < K →
    ∃ R1, fixN (fun _ _ _ => none) (pb_X11_token_79 F) K (zt (r - b)) (LI R) w = some (LI R1, wdV T b (runF isLt T N n r)) ∧ R1 0 6 = runF isLt T N n r ∧ R1 0 9 = 2 ∧ (∀ e, e ≠ 6 → e ≠ 9 → R1 0 e = R 0 e) ∧ ∀ j, j ≠ 0 → R1 j = R j := by
  have k126 : ∀ (R : ZM) (w : Int64) (r : Int), b ≤ r → r ≤ N → w = wvW T b (r - b).toNat → pk_X11_token_126 F (zt (r - b)) (LI R) w = some (LI (uM R 0 9 2), wdV T b r) := by
    intro R w r h1 h2 hw
    unfold pk_X11_token_126 wdV
    simp (disch := omega) only [zt_lit, zt_le, up2_9, gnm_z]
    by_cases q : r - b ≤ 8
    · rw [if_pos q, if_pos q, hw]
    · rw [if_neg q, if_neg q]
  intro n
  induction n with
  | zero =>
    intro r R w K h1 h2 h3 g7 g6 hw gt hK
    obtain ⟨g, rfl⟩ : ∃ g, K = g + 1 := ⟨K - 1, by omega⟩
    rw [fix_succ]
    refine ⟨uM R 0 9 2, ?_, by rw [uM_nei (by omega), g6]; rfl, uM_eq _ _ _ _, fun e _ a => uM_nei a, fun j hj => by funext e; exact uM_ne hj⟩
    unfold pb_X11_token_79
    rw [x_see hN hT (by omega) g7 g6 gt, ob_z, if_neg (by omega), show (97 : Int32) = zt 97 from rfl, show (122 : Int32) = zt 122 from rfl, x_in (by omega) (by omega) (by omega), ob_z, if_neg (show ¬ ((97 : Int) ≤ -1 ∧ (-1 : Int) ≤ 122) by omega), if_pos zz0, k126 R w r h2 h3 hw]
    rfl
  | succ n ih =>
    intro r R w K h1 h2 h3 g7 g6 hw gt hK
    obtain ⟨g, rfl⟩ : ∃ g, K = g + 1 := ⟨K - 1, by omega⟩
    rw [fix_succ]
    generalize hr : fixN (fun _ _ _ => none) (pb_X11_token_79 F) g = rr
    have hTr := hT r
    have hu := u8_rng hTr
    unfold pb_X11_token_79
    rw [x_see hN hT (by omega) g7 g6 gt, ob_z, show (97 : Int32) = zt 97 from rfl, show (122 : Int32) = zt 122 from rfl, x_in (by split <;> omega) (by omega) (by omega), ob_z, ob_z]
    by_cases q : r < N ∧ isLt (T r) = true
    · have hl : 97 ≤ T r ∧ T r ≤ 122 := by have := q.2; unfold isLt at this; simpa using this
      have hu2 : u8 (T r) = T r := by unfold u8; rw [if_neg (by omega)]
      rw [runF, if_pos q, if_pos q.1, hu2, if_pos hl, if_neg zz1, gnm_z, LI_6, g6, show (1 : Int32) = zt 1 from rfl, zt_add, up2_6, gnm_z, zt_add, ← hr]
      have hw2 : (w <<< ((Int32.toInt64 (8 : Int32)) &&& 63)) ||| (Int32.toInt64 (zt (T r))) = wvW T b (r + 1 - b).toNat := by
        rw [show (r + 1 - b).toNat = (r - b).toNat + 1 by omega, wvW, hw, show b + ((r - b).toNat : Int) = r by omega]
      obtain ⟨R1, a1, a2, a3, a4, a5⟩ := ih (r + 1) (uM R 0 6 (r + 1)) _ g (by omega) (by omega) (by omega) (by rw [uM_nei (by omega)]; exact g7) (uM_eq _ _ _ _) hw2 (fun e e0 e1 => by rw [uM_ne (by omega)]; exact gt e e0 e1) (by omega)
      rw [show r + 1 - b = r - b + 1 by omega] at a1
      exact ⟨R1, a1, a2, a3, fun e e6 e9 => by rw [a4 e e6 e9, uM_nei e6], fun j hj => by rw [a5 j hj]; funext e; exact uM_ne hj⟩
    · rw [runF, if_neg q]
      have hno : ¬ (97 ≤ (if r < N then u8 (T r) else -1) ∧ (if r < N then u8 (T r) else -1) ≤ 122) := by
        by_cases q1 : r < N
        · rw [if_pos q1]
          intro g
          have := (u8_lt hTr (lo := 97) (hi := 122) (by omega)).mp g
          exact q ⟨q1, by unfold isLt; simp; omega⟩
        · rw [if_neg q1]; omega
      rw [if_neg hno, if_pos zz0, k126 R w r h2 h3 hw]
      exact ⟨_, rfl, by rw [uM_nei (by omega), g6], uM_eq _ _ _ _, fun e _ a => uM_nei a, fun j hj => by funext e; exact uM_ne hj⟩
theorem x_tw168 {b : Int} (hN : 0 ≤ N ∧ N ≤ 600) (hT : ∀ e, -128 ≤ T e ∧ T e ≤ 127) (hb : 0 ≤ b) : ∀ (n : Nat) (r : Int) (R : ZM) (K : Nat), N - r ≤ n → b ≤ r → r ≤ N → R 0 7 = N → R 0 6 = r → (r - b ≤ 3 → R 0 11 = nvF T b (r - b).toNat) → (∀ e, 0 ≤ e → e < N → R 2 e = T e) → n < K →
    ∃ R1, fixN (fun _ _ _ => none) (pb_X11_token_168 F) K (zt (r - b)) (LI R) w = some (LI R1, w) ∧ R1 0 6 = runF isDg T N n r ∧ R1 0 9 = (if runF isDg T N n r - b ≤ 3 then 3 else 1) ∧ (runF isDg T N n r - b ≤ 3 → R1 0 11 = nvF T b (runF isDg T N n r - b).toNat) ∧ (∀ e, e ≠ 6 → e ≠ 9 → e ≠ 11 → R1 0 e = R 0 e) ∧ ∀ j, j ≠ 0 → R1 j = R j := by
  have k229 : ∀ (R : ZM) (r : Int), b ≤ r → r ≤ N → pk_X11_token_229 F (zt (r - b)) (LI R) w = some (LI (uM R 0 9 (if r - b ≤ 3 then 3 else 1)), w) := by
    intro R r h1 h2
    unfold pk_X11_token_229
    simp (disch := omega) only [zt_lit, zt_le, up2_9, gnm_z]
    by_cases q : r - b ≤ 3
    · rw [if_pos q, if_pos q]
    · rw [if_neg q, if_neg q]
  intro n
  induction n with
  | zero =>
    intro r R K h1 h2 h3 g7 g6 hv gt hK
    obtain ⟨g, rfl⟩ : ∃ g, K = g + 1 := ⟨K - 1, by omega⟩
    rw [fix_succ]
    refine ⟨_, ?_, by rw [uM_nei (by omega), g6]; rfl, uM_eq _ _ _ _, fun g => by rw [uM_nei (by omega)]; exact hv g, fun e _ a _ => uM_nei a, fun j hj => by funext e; exact uM_ne hj⟩
    unfold pb_X11_token_168
    rw [x_see hN hT (by omega) g7 g6 gt, ob_z, if_neg (by omega), show (48 : Int32) = zt 48 from rfl, show (57 : Int32) = zt 57 from rfl, x_in (by omega) (by omega) (by omega), ob_z, if_neg (show ¬ ((48 : Int) ≤ -1 ∧ (-1 : Int) ≤ 57) by omega), if_pos zz0, k229 R r h2 h3]
    rfl
  | succ n ih =>
    intro r R K h1 h2 h3 g7 g6 hv gt hK
    obtain ⟨g, rfl⟩ : ∃ g, K = g + 1 := ⟨K - 1, by omega⟩
    rw [fix_succ]
    generalize hr : fixN (fun _ _ _ => none) (pb_X11_token_168 F) g = rr
    have hTr := hT r
    have hu := u8_rng hTr
    unfold pb_X11_token_168
    rw [x_see hN hT (by omega) g7 g6 gt, ob_z, ob_z, show (48 : Int32) = zt 48 from rfl, show (57 : Int32) = zt 57 from rfl, x_in (by split <;> omega) (by omega) (by omega), ob_z]
    by_cases q : r < N ∧ isDg (T r) = true
    · have hl : 48 ≤ T r ∧ T r ≤ 57 := by have := q.2; unfold isDg at this; simpa using this
      have hu2 : u8 (T r) = T r := by unfold u8; rw [if_neg (by omega)]
      rw [runF, if_pos q, if_pos q.1, hu2, if_pos hl, if_neg zz1]
      have k210 : ∀ v : Int, (r + 1 - b ≤ 3 → v = nvF T b (r + 1 - b).toNat) → ∃ R1, pk_X11_token_210 F rr (zt (r - b)) (zt v) (LI R) w = some (LI R1, w) ∧ R1 0 6 = runF isDg T N n (r + 1) ∧ R1 0 9 = (if runF isDg T N n (r + 1) - b ≤ 3 then 3 else 1) ∧ (runF isDg T N n (r + 1) - b ≤ 3 → R1 0 11 = nvF T b (runF isDg T N n (r + 1) - b).toNat) ∧ (∀ e, e ≠ 6 → e ≠ 9 → e ≠ 11 → R1 0 e = R 0 e) ∧ ∀ j, j ≠ 0 → R1 j = R j := by
        intro v hv2
        unfold pk_X11_token_210
        rw [up2_11, gnm_z, LI_6, uM_nei (by omega), g6, show (1 : Int32) = zt 1 from rfl, zt_add, up2_6, gnm_z, zt_add, ← hr]
        obtain ⟨R1, a1, a2, a3, a4, a5, a6⟩ := ih (r + 1) (uM (uM R 0 11 v) 0 6 (r + 1)) g (by omega) (by omega) (by omega) (by rw [uM_nei (by omega), uM_nei (by omega)]; exact g7) (uM_eq _ _ _ _) (fun g => by rw [uM_nei (by omega), uM_eq]; exact hv2 g) (fun e e0 e1 => by rw [uM_ne (by omega), uM_ne (by omega)]; exact gt e e0 e1) (by omega)
        rw [show r + 1 - b = r - b + 1 by omega] at a1
        exact ⟨R1, a1, a2, a3, a4, fun e e6 e9 e11 => by rw [a5 e e6 e9 e11, uM_nei e6, uM_nei e11], fun j hj => by rw [a6 j hj]; funext e; rw [uM_ne hj, uM_ne hj]⟩
      have hz : ((3 : Int32) ≤ zt (r - b)) = (3 ≤ r - b) := by
        rw [show (3 : Int32) = zt 3 from rfl]
        exact zt_le (by omega) (by omega) (by omega) (by omega)
      by_cases q3 : 3 ≤ r - b
      · rw [if_pos (by rw [hz]; exact q3), LI_11]
        exact k210 _ (fun g => by omega)
      · rw [if_neg (by rw [hz]; exact q3), LI_11, hv (by omega), show (10 : Int32) = zt 10 from rfl, zt_mul, zt_add, zt_sub]
        refine k210 _ (fun g => ?_)
        rw [show (r + 1 - b).toNat = (r - b).toNat + 1 by omega, nvF, show b + ((r - b).toNat : Int) = r by omega]
        omega
    · rw [runF, if_neg q]
      have hno : ¬ (48 ≤ (if r < N then u8 (T r) else -1) ∧ (if r < N then u8 (T r) else -1) ≤ 57) := by
        by_cases q1 : r < N
        · rw [if_pos q1]
          intro g
          have := (u8_lt hTr (lo := 48) (hi := 57) (by omega)).mp g
          exact q ⟨q1, by unfold isDg; simp; omega⟩
        · rw [if_neg q1]; omega
      rw [if_neg hno, if_pos zz0, k229 R r h2 h3]
      exact ⟨_, rfl, by rw [uM_nei (by omega), g6], uM_eq _ _ _ _, fun g => by rw [uM_nei (by omega)]; exact hv g, fun e _ a _ => uM_nei a, fun j hj => by funext e; exact uM_ne hj⟩
theorem x_token {r : Int} (hF : 700 < F) (hN : 0 ≤ N ∧ N ≤ 600) (hT : ∀ e, -128 ≤ T e ∧ T e ≤ 127) (hr : 0 ≤ r ∧ r ≤ N) (g7 : R 0 7 = N) (g6 : R 0 6 = r) (gt : ∀ e, 0 ≤ e → e < N → R 2 e = T e) : ∃ R1 w1, p_X11_token F (LI R) w = some (LI R1, w1) ∧ TokR R1 w1 T N r ∧ FrT R R1 := by
  have k31 : ∀ (R : ZM), R 0 7 = N → R 0 6 = tkB T N r → (∀ e, 0 ≤ e → e < N → R 2 e = T e) → ∃ R1 w1, pk_X11_token_31 F (LI R) w = some (LI R1, w1) ∧ TokR R1 w1 T N r ∧ FrT R R1 := by
    intro R g7 g6 gt
    have hrg := tk_rng (T := T) hr hN.2
    have hb := hrg.1
    have hTb := hT (tkB T N r)
    have hu := u8_rng hTb
    unfold pk_X11_token_31
    rw [LI_6, g6, up2_8, gnm_z, x_see (r := tkB T N r) hN hT (by omega) (by rw [uM_nei (by omega)]; exact g7) (by rw [uM_nei (by omega)]; exact g6) (fun e e0 e1 => by rw [uM_ne (by omega)]; exact gt e e0 e1), ob_z, gnm_z, show (0 : Int32) = zt 0 from rfl, up2_10, gnm_z]
    have h7 : uM (uM R 0 8 (tkB T N r)) 0 10 0 0 7 = N := by rw [uM_nei (by omega), uM_nei (by omega)]; exact g7
    have h6 : uM (uM R 0 8 (tkB T N r)) 0 10 0 0 6 = tkB T N r := by rw [uM_nei (by omega), uM_nei (by omega)]; exact g6
    have h8 : uM (uM R 0 8 (tkB T N r)) 0 10 0 0 8 = tkB T N r := by rw [uM_nei (by omega), uM_eq]
    have ht : ∀ e, 0 ≤ e → e < N → uM (uM R 0 8 (tkB T N r)) 0 10 0 2 e = T e := fun e e0 e1 => by rw [uM_ne (by omega), uM_ne (by omega)]; exact gt e e0 e1
    have hj : ∀ j, j ≠ 0 → uM (uM R 0 8 (tkB T N r)) 0 10 0 j = R j := fun j hj => by funext e; rw [uM_ne hj, uM_ne hj]
    have he : ∀ e, e ≠ 8 → e ≠ 10 → uM (uM R 0 8 (tkB T N r)) 0 10 0 0 e = R 0 e := fun e a c => by rw [uM_nei c, uM_nei a]
    generalize uM (uM R 0 8 (tkB T N r)) 0 10 0 = R2 at *
    by_cases q : N ≤ tkB T N r
    · have eK : tkK T N r = 0 := by unfold tkK; rw [if_pos q]
      have eE : tkE T N r = tkB T N r := by unfold tkE; rw [if_pos q]
      rw [if_neg (show ¬ (tkB T N r < N) by omega), if_neg (show ¬ (zt 0 ≤ zt (-1)) by decide), up2_9, gnm_z]
      refine ⟨_, _, rfl, ⟨by rw [uM_nei (by omega)]; exact h7, by rw [uM_nei (by omega)]; exact h8, by rw [uM_nei (by omega), eE]; exact h6, by rw [uM_eq, eK]; rfl, fun g => by omega, fun g => by omega, fun g => by omega, fun g => by omega⟩, fun j hj0 => by rw [← hj j hj0]; funext e; exact uM_ne hj0, fun e e6 e8 e9 e10 e11 => by rw [uM_nei e9, he e e8 e10]⟩
    · rw [if_pos (show tkB T N r < N by omega), if_pos (zle_pos hu.1 (by omega) (by omega)), show (97 : Int32) = zt 97 from rfl, show (122 : Int32) = zt 122 from rfl, x_in (by omega) (by omega) (by omega), ob_z]
      have hlt := u8_lt hTb (lo := 97) (hi := 122) (by omega)
      have hdg := u8_lt hTb (lo := 48) (hi := 57) (by omega)
      by_cases q1 : isLt (T (tkB T N r)) = true
      · have hl : 97 ≤ T (tkB T N r) ∧ T (tkB T N r) ≤ 122 := by unfold isLt at q1; simpa using q1
        have eE : tkE T N r = runF isLt T N 600 (tkB T N r) := by unfold tkE; rw [if_neg q, if_pos q1]
        have eK : tkK T N r = 1 := by unfold tkK; rw [if_neg q, if_pos q1]
        rw [if_pos (hlt.mpr hl), if_neg (show ¬ (zt 1 = zt 0) by decide)]
        obtain ⟨R1, a1, a2, a3, a4, a5⟩ := x_tw79 (F := F) (b := tkB T N r) hN hT (by omega) 600 (tkB T N r) R2 0 F (by omega) (Int.le_refl _) (by omega) h7 h6 (by rw [Int.sub_self]; rfl) ht (by omega)
        rw [Int.sub_self] at a1
        rw [← eE] at a1 a2
        refine ⟨R1, _, a1, ⟨by rw [a4 7 (by omega) (by omega)]; exact h7, by rw [a4 8 (by omega) (by omega)]; exact h8, a2, by rw [a3, eK]; rfl, fun g => by omega, fun g => by omega, fun g => by omega, fun _ => rfl⟩, fun j hj0 => by rw [a5 j hj0, hj j hj0], fun e e6 e8 e9 e10 e11 => by rw [a4 e e6 e9, he e e8 e10]⟩
      · have hnl : ¬ (97 ≤ T (tkB T N r) ∧ T (tkB T N r) ≤ 122) := fun g => q1 (by unfold isLt; simp; omega)
        rw [if_neg (fun g => hnl (hlt.mp g)), if_pos rfl, show (48 : Int32) = zt 48 from rfl, show (57 : Int32) = zt 57 from rfl, x_in (by omega) (by omega) (by omega), ob_z]
        by_cases q2 : isDg (T (tkB T N r)) = true
        · have hl : 48 ≤ T (tkB T N r) ∧ T (tkB T N r) ≤ 57 := by unfold isDg at q2; simpa using q2
          have eE : tkE T N r = runF isDg T N 600 (tkB T N r) := by unfold tkE; rw [if_neg q, if_neg q1, if_pos q2]
          have eK : tkK T N r = if tkE T N r - tkB T N r ≤ 3 then 2 else 5 := by unfold tkK; rw [if_neg q, if_neg q1, if_pos q2]
          rw [if_pos (hdg.mpr hl), if_neg (show ¬ (zt 1 = zt 0) by decide), up2_11, gnm_z]
          obtain ⟨R1, a1, a2, a3, a4, a5, a6⟩ := x_tw168 (F := F) (w := 0) (b := tkB T N r) hN hT (by omega) 600 (tkB T N r) (uM R2 0 11 0) F (by omega) (Int.le_refl _) (by omega) (by rw [uM_nei (by omega)]; exact h7) (by rw [uM_nei (by omega)]; exact h6) (fun _ => by rw [uM_eq, Int.sub_self]; rfl) (fun e e0 e1 => by rw [uM_ne (by omega)]; exact ht e e0 e1) (by omega)
          rw [Int.sub_self] at a1
          rw [← eE] at a2 a3 a4
          refine ⟨R1, _, a1, ⟨by rw [a5 7 (by omega) (by omega) (by omega), uM_nei (by omega)]; exact h7, by rw [a5 8 (by omega) (by omega) (by omega), uM_nei (by omega)]; exact h8, a2, ?_, fun g => ?_, fun g => ?_, fun g => ?_, fun g => ?_⟩, fun j hj0 => by rw [a6 j hj0, ← hj j hj0]; funext e; exact uM_ne hj0, fun e e6 e8 e9 e10 e11 => by rw [a5 e e6 e9 e11, uM_nei e11, he e e8 e10]⟩
          · rw [a3, eK]
            by_cases q3 : tkE T N r - tkB T N r ≤ 3
            · rw [if_pos q3, if_pos q3]; rfl
            · rw [if_neg q3, if_neg q3]; rfl
          · rw [eK] at g; split at g <;> omega
          · rw [eK] at g; split at g <;> omega
          · exact a4 (by rw [eK] at g; split at g <;> omega)
          · rw [eK] at g; split at g <;> omega
        · have hnd : ¬ (48 ≤ T (tkB T N r) ∧ T (tkB T N r) ≤ 57) := fun g => q2 (by unfold isDg; simp; omega)
          have eE : tkE T N r = tkB T N r + 1 := by unfold tkE; rw [if_neg q, if_neg q1, if_neg q2]
          have eK : tkK T N r = if T (tkB T N r) = 59 then 3 else if T (tkB T N r) = 45 then 4 else 5 := by unfold tkK; rw [if_neg q, if_neg q1, if_neg q2]
          rw [if_neg (fun g => hnd (hdg.mp g)), if_pos rfl, LI_6, h6, show (1 : Int32) = zt 1 from rfl, zt_add, up2_6, gnm_z, up2_10, gnm_z]
          simp (disch := omega) only [zt_lit, zt_eq, up2_9, gnm_z]
          have h59 := u8_is hTb (v := 59) (by omega)
          have h45 := u8_is hTb (v := 45) (by omega)
          have fin : ∀ s : Int, s = srt (tkK T N r) → TokR (uM (uM (uM R2 0 6 (tkB T N r + 1)) 0 10 (u8 (T (tkB T N r)))) 0 9 s) 0 T N r ∧ FrT R (uM (uM (uM R2 0 6 (tkB T N r + 1)) 0 10 (u8 (T (tkB T N r)))) 0 9 s) := by
            intro s hs
            refine ⟨⟨by rw [uM_nei (by omega), uM_nei (by omega), uM_nei (by omega)]; exact h7, by rw [uM_nei (by omega), uM_nei (by omega), uM_nei (by omega)]; exact h8, by rw [uM_nei (by omega), uM_nei (by omega), uM_eq, eE], by rw [uM_eq]; exact hs, fun g => ?_, fun g => ?_, fun g => absurd (tk_dg g) q2, fun g => ?_⟩, fun j hj0 => by rw [← hj j hj0]; funext e; rw [uM_ne hj0, uM_ne hj0, uM_ne hj0], fun e e6 e8 e9 e10 e11 => by rw [uM_nei e9, uM_nei e10, uM_nei e6, he e e8 e10]⟩
            · rw [uM_nei (by omega), uM_eq]
              rw [eK] at g
              by_cases q5 : T (tkB T N r) = 59
              · exact h59.mpr q5
              · rw [if_neg q5] at g; split at g <;> omega
            · rw [uM_nei (by omega), uM_eq]
              rw [eK] at g
              by_cases q5 : T (tkB T N r) = 59
              · rw [if_pos q5] at g; omega
              · rw [if_neg q5] at g
                by_cases q6 : T (tkB T N r) = 45
                · exact h45.mpr q6
                · rw [if_neg q6] at g; omega
            · rw [eK] at g
              split at g
              · omega
              · split at g <;> omega
          by_cases q5 : T (tkB T N r) = 59
          · rw [if_pos (h59.mpr q5)]
            exact ⟨_, _, rfl, fin 4 (by rw [eK, if_pos q5]; rfl)⟩
          · rw [if_neg (fun g => q5 (h59.mp g))]
            by_cases q6 : T (tkB T N r) = 45
            · rw [if_pos (h45.mpr q6)]
              exact ⟨_, _, rfl, fin 4 (by rw [eK, if_neg q5, if_pos q6]; rfl)⟩
            · rw [if_neg (fun g => q6 (h45.mp g))]
              exact ⟨_, _, rfl, fin 1 (by rw [eK, if_neg q5, if_neg q6]; rfl)⟩
  have key : ∀ (n : Nat) (s : Int) (R : ZM) (K : Nat), N - s ≤ n → 0 ≤ s → s ≤ N → runF isBl T N n s = tkB T N r → R 0 7 = N → R 0 6 = s → (∀ e, 0 ≤ e → e < N → R 2 e = T e) → n < K → ∃ R1 w1, fixN (fun _ _ => none) (pb_X11_token_0 F) K (LI R) w = some (LI R1, w1) ∧ TokR R1 w1 T N r ∧ FrT R R1 := by
    intro n
    induction n with
    | zero =>
      intro s R K h1 h2 h3 h4 g7 g6 gt hK
      obtain ⟨g, rfl⟩ : ∃ g, K = g + 1 := ⟨K - 1, by omega⟩
      rw [fix_succ]
      unfold pb_X11_token_0
      rw [x_see hN hT (by omega) g7 g6 gt, ob_z, ob_z, if_neg (show ¬ (s < N) by omega), if_neg (by decide), if_neg (by decide)]
      exact k31 R g7 (by rw [g6]; exact h4) gt
    | succ n ih =>
      intro s R K h1 h2 h3 h4 g7 g6 gt hK
      obtain ⟨g, rfl⟩ : ∃ g, K = g + 1 := ⟨K - 1, by omega⟩
      rw [fix_succ]
      generalize hr : fixN (fun _ _ => none) (pb_X11_token_0 F) g = rr
      have hTs := hT s
      have hu := u8_rng hTs
      unfold pb_X11_token_0
      rw [x_see hN hT (by omega) g7 g6 gt, ob_z, ob_z]
      rw [runF] at h4
      by_cases q : s < N
      · rw [if_pos q]
        simp (disch := omega) only [zt_lit, zt_eq]
        by_cases q2 : isBl (T s) = true
        · rw [if_pos ⟨q, q2⟩] at h4
          have k18 : ∃ R1 w1, pk_X11_token_18 F rr (LI R) w = some (LI R1, w1) ∧ TokR R1 w1 T N r ∧ FrT R R1 := by
            unfold pk_X11_token_18
            rw [LI_6, g6, show (1 : Int32) = zt 1 from rfl, zt_add, up2_6, gnm_z, ← hr]
            obtain ⟨R1, w1, a1, a2, a3⟩ := ih (s + 1) (uM R 0 6 (s + 1)) g (by omega) (by omega) (by omega) h4 (by rw [uM_nei (by omega)]; exact g7) (uM_eq _ _ _ _) (fun e e0 e1 => by rw [uM_ne (by omega)]; exact gt e e0 e1) (by omega)
            exact ⟨R1, w1, a1, a2, fun j hj => by rw [a3.1 j hj]; funext e; exact uM_ne hj, fun e e6 e8 e9 e10 e11 => by rw [a3.2 e e6 e8 e9 e10 e11, uM_nei e6]⟩
          by_cases q3 : T s = 10
          · rw [if_pos ((u8_is hTs (by omega)).mpr q3)]; exact k18
          · have : T s = 32 := by unfold isBl at q2; simp at q2; omega
            rw [if_neg (fun g => q3 ((u8_is hTs (by omega)).mp g)), if_pos ((u8_is hTs (by omega)).mpr this)]; exact k18
        · rw [if_neg (fun e => q2 e.2)] at h4
          have hn : T s ≠ 32 ∧ T s ≠ 10 := by unfold isBl at q2; simp at q2; exact q2
          rw [if_neg (fun g => hn.2 ((u8_is hTs (by omega)).mp g)), if_neg (fun g => hn.1 ((u8_is hTs (by omega)).mp g))]
          exact k31 R g7 (by rw [g6]; exact h4) gt
      · rw [if_neg (fun e => q e.1)] at h4
        rw [if_neg q, if_neg (by decide), if_neg (by decide)]
        exact k31 R g7 (by rw [g6]; exact h4) gt
  unfold p_X11_token
  exact key 600 r R F (by omega) hr.1 hr.2 rfl g7 g6 gt (by omega)
end RT1
