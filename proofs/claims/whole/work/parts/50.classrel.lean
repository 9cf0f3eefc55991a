/-! The reference asks; the class's board as the row, and its readers. -/
def asA (l : List Int) (r : FR) : Int → Int := if r.1 < 0 then whyW r.2.2 r.1 (l ++ r.2.1) else r.2.2
theorem x_asks {w : Int64} {F : Nat} {B : Int} (hF : 500 < F) (hB : B ≤ 1000000000) {M : ZM} {sn : Nat} {f : Int → Int} {part scope : Int} (hFI : FI B (M 1) 0) (h29 : M 0 29 = sn) (hsn : sn ≤ 60) (hr14 : ∀ j, 0 ≤ j → j < (sn : Int) → (0 ≤ M 14 j ∧ M 14 j < M 1 206) ∧ M 1 (207 + 8 * M 14 j) = f j) (hp : 0 ≤ part ∧ part < M 1 0) (hs : 0 ≤ scope ∧ scope ≤ 4) :
    ∃ M1 : ZM, p_X11_asks F (zt part) (zt scope) (LI M) w = some (zt (fetS 13 [] part scope (M 1)).1, LI M1, w) ∧ M1 1 = asA (seg f sn 0) (fetS 13 [] part scope (M 1)) ∧ Sm M M1 0 := by
  have hS0 : Sm M (uM M 0 26 0) 0 := ⟨fun e he => uM_nei he, fun j a b => by funext e; exact uM_ne (by omega), fun j i a b c d => by omega, fun i a b => by omega⟩
  have e1 : uM M 0 26 0 1 = M 1 := by funext e; exact uM_ne (by omega)
  have hPI : PI B (uM M 0 26 0) 0 sn f := ⟨by rw [e1]; exact hFI, uM_eq _ _ _ _, by rw [uM_nei (by omega)]; exact h29, by simp [seg], fun i a b => by omega, fun j a b => by rw [uM_ne (by omega), e1]; exact hr14 j a b⟩
  have hok := fetS_ok (B := B) 13 [] (M 1 0) scope rfl (by simp) (fun x hx => by cases hx) hFI.1.1.2 hs part (M 1) rfl hFI hp.1 hp.2
  obtain ⟨f1, f2⟩ := x_fet (w := w) (F := F) (B := B) (by omega) hB 13 (uM M 0 26 0) 0 sn f part scope hPI rfl hsn hp.1 (by rw [e1]; exact hp.2) hs.1 hs.2
  rw [show seg (uM M 0 26 0 9) 0 0 = [] from rfl, e1] at f1 f2
  simp only at hok
  unfold p_X11_asks
  simp only [zt_lit, up2_z, gnm_z]
  show ∃ M1 : ZM, pcI (p_X11_opens F (zt part) (zt scope) (LI (uM M 0 26 0)) w) (lpA F F) = _ ∧ _
  have hm := hFI.2.2.1.1
  unfold asA
  generalize fetS 13 [] part scope (M 1) = r at *
  by_cases q : r.1 < 0
  · obtain ⟨k, M1, b1, b2, b3, b4⟩ := f2 q
    have hm2 := (hok.2.2 q).2.2.2.2.1.1
    refine ⟨M1, ?_, by rw [if_pos q]; exact b3, hS0.trans b4⟩
    have := b2 (F - k)
    rw [show F - k + k = F by omega] at this
    exact this
  · obtain ⟨k, M1, b1, b2, b3, b4, b5⟩ := f1 (by omega)
    have hm2 := (hok.2.1 (by omega)).2.2.2.1.1
    refine ⟨M1, ?_, by rw [if_neg q]; exact b3, hS0.trans b5⟩
    have := b2 (F - k)
    rw [show F - k + k = F by omega] at this
    rw [this]
    obtain ⟨g, hg⟩ : ∃ g, F - k = g + 1 := ⟨F - k - 1, by omega⟩
    rw [hg]
    exact x_lp0 b4
/-- the parts at p are the row's -/
def RP (M : ZM) (p : Nat) (A : Int → Int) : Prop := M p 0 = A 0 ∧ ∀ i, 0 ≤ i → i < A 0 → M (p + 1) i = A (1 + 11 * i) ∧ M (p + 2) i = A (1 + 11 * i + 1) ∧ M (p + 3) i = A (1 + 11 * i + 8) ∧ M (p + 4) i = A (1 + 11 * i + 9) ∧ M (p + 5) i = A (1 + 11 * i + 10) ∧ M (p + 6) i = A (1 + 11 * i + 2) ∧ M (p + 7) i = A (1 + 11 * i + 7) ∧ ∀ k, 0 ≤ k → k < A (1 + 11 * i + 2) → M (p + 8) (i * 4 + k) = A (1 + 11 * i + (3 + k))
/-- depth and stand-ins at b are the row's -/
def RS (M : ZM) (b : Nat) (A : Int → Int) : Prop := M b 1 = A 145 ∧ ∀ s i, 0 ≤ s → s ≤ 4 → 0 ≤ i → i < 12 → M (b + 1) (s * 12 + i) = A (146 + 12 * s + i) - 1
/-- how often parts were made, and the things, at b, are the row's -/
def RT (M : ZM) (b : Nat) (A : Int → Int) : Prop := (∀ i, 0 ≤ i → i < 12 → M (b + 2) i = A (133 + i)) ∧ M (b + 3) 0 = A 206 ∧ ∀ t, 0 ≤ t → t < A 206 → M (b + 3 + 1) t = A (207 + 8 * t) ∧ M (b + 3 + 2) t = A (207 + 8 * t + 1) ∧ M (b + 3 + 3) t = A (207 + 8 * t + 2) ∧ M (b + 3 + 4) t = A (207 + 8 * t + 3) ∧ ∀ k, 0 ≤ k → k < 4 → M (b + 3 + 5) (t * 4 + k) = A (207 + 8 * t + (4 + k)) - 1
/-- what is told at b is the row's -/
def RW (M : ZM) (b : Nat) (A : Int → Int) : Prop := M (b + 10) 0 = A 810 ∧ M (b + 10) 1 = A 809 ∧ (∀ i, 0 ≤ i → i < A 809 → M (b + 10 + 1) i = A (811 + i)) ∧ M (b + 10) 3 = A 687 ∧ ∀ i, 0 ≤ i → i < A 687 → M (b + 10 + 2) i = A (688 + i)
section CR
variable {F : Nat} {lg : Nat → Nat → Int64} {M : ZM} {b p : Nat} {A : Int → Int}
theorem hcI_z {X : Type} (a : Int32) (sg : Nat → Nat → Int32) (lg : Nat → Nat → Int64) (K : Int32 → (Nat → Nat → Int32) → (Nat → Nat → Int64) → Option X) : hcI (some (a, sg, lg)) K = K a sg lg := rfl
theorem hcU_z {X : Type} (sg : Nat → Nat → Int32) (lg : Nat → Nat → Int64) (K : (Nat → Nat → Int32) → (Nat → Nat → Int64) → Option X) : hcU (some (sg, lg)) K = K sg lg := rfl
theorem LI_0 (M : ZM) (j : Nat) : LI M j 0 = zt (M j 0) := rfl
theorem LI_1 (M : ZM) (j : Nat) : LI M j 1 = zt (M j 1) := rfl
theorem LI_3 (M : ZM) (j : Nat) : LI M j 3 = zt (M j 3) := rfl
theorem LI_4 (M : ZM) (j : Nat) : LI M j 4 = zt (M j 4) := rfl
theorem y_holds7 {t : Int} (ht : -2147483648 ≤ t ∧ t < 2147483648) (hm : 0 ≤ M b 0 ∧ M b 0 ≤ 60) : p_X7_holds F b (zt t) (LI M) lg = some (zt (if 0 ≤ t ∧ t < M b 0 then 1 else 0)) := by
  unfold p_X7_holds
  simp (disch := omega) only [LI_0, zt_lit, zt_lt, zt_le, rP_z0, rP_z1]
  by_cases q1 : t < 0
  · rw [if_pos q1, if_neg (by omega)]
  · rw [if_neg q1]
    by_cases q2 : M b 0 ≤ t
    · rw [if_pos q2, if_neg (by omega)]
    · rw [if_neg q2, if_pos (by omega)]
theorem y_holds3 {t : Int} (ht : -2147483648 ≤ t ∧ t < 2147483648) (hm : 0 ≤ M p 0 ∧ M p 0 ≤ 12) : p_X3_holds F p (zt t) (LI M) lg = some (zt (if 0 ≤ t ∧ t < M p 0 then 1 else 0)) := by
  unfold p_X3_holds
  simp (disch := omega) only [LI_0, zt_lit, zt_lt, zt_le, rP_z0, rP_z1]
  by_cases q1 : t < 0
  · rw [if_pos q1, if_neg (by omega)]
  · rw [if_neg q1]
    by_cases q2 : M p 0 ≤ t
    · rw [if_pos q2, if_neg (by omega)]
    · rw [if_neg q2, if_pos (by omega)]
theorem y_isFull {b : Nat} (hm : 0 ≤ M b 0 ∧ M b 0 ≤ 60) : p_X7_isFull F b (LI M) lg = some (zt (if M b 0 = 60 then 1 else 0)) := by
  unfold p_X7_isFull
  simp (disch := omega) only [LI_0, zt_lit, zt_lt, rP_z0, rP_z1]
  by_cases q1 : M b 0 < 60
  · rw [if_pos q1, if_neg (by omega)]
  · rw [if_neg q1, if_pos (by omega)]
theorem y_resolve {i s : Int} (hF : 8 < F) (hi : 0 ≤ i ∧ i < 12) (hs : -1 ≤ s ∧ s ≤ 4) (hw : wfS A) (hc : A 0 ≤ 12) (hR : RS M b A) : p_X0_resolve F p b (zt i) (zt s) (LI M) lg = some (zt (sSt A i (s + 1).toNat)) := by
  unfold p_X0_resolve
  have es : zt s = zt ((((s + 1).toNat : Nat) : Int) - 1) := congrArg zt (by omega)
  rw [es]
  refine (fix_ind (fun k (r : Int32 → Option Int32) => ∀ n : Nat, n ≤ 5 → n < k → r (zt ((n : Int) - 1)) = some (zt (sSt A i n))) ?_ ?_ F) (s + 1).toNat (by omega) (by omega)
  · intro n _ h; omega
  · intro k r ih n hn hk
    unfold pb_X0_resolve_2 p_X0_standInAt
    cases n with
    | zero =>
      simp (disch := omega) only [zt_lit, zt_lt, sSt]
      rfl
    | succ n =>
      have hb := hw.2 n i (by omega) (by omega) hi.1 hi.2
      have hr := hR.2 n i (by omega) (by omega) hi.1 hi.2
      simp (disch := omega) only [zt_lit, zt_neg, zt_add, zt_mul, zt_lt, zt_eq, mI_z, ob_z, sSt, hr, show (((n + 1 : Nat) : Int) - 1) = (n : Int) by omega]
      rw [if_neg (by omega), show (n : Int) + -1 = (n : Int) - 1 by omega, ih n (by omega) (by omega)]
      by_cases q : A (146 + 12 * (n : Int) + i) ≤ 0
      · rw [if_pos q, if_pos (by omega)]
      · rw [if_neg q, if_neg (by omega)]
theorem y_find {i s : Int} (hF : 61 < F) (hi : 0 ≤ i ∧ i < 12) (hs : 0 ≤ s ∧ s ≤ 4) (hw : wfT A) (hc : A 0 ≤ 12) (hR : RT M b A) : p_X7_find F (b + 3) (zt i) (zt s) (LI M) lg = some (zt (sFd A i s (A 206).toNat 0)) := by
  unfold p_X7_find
  have hm := hw.1
  refine (fix_ind (fun k (r : Int32 → Option Int32) => ∀ (n : Nat) (t : Int), 0 ≤ t → (n : Int) = A 206 - t → n < k → r (zt t) = some (zt (sFd A i s n t))) ?_ ?_ F) (A 206).toNat 0 (by omega) (by omega) (by omega)
  · intro n t _ _ h; omega
  · intro k r ih n t ht hn hk
    unfold pb_X7_find_2
    cases n with
    | zero =>
      simp (disch := omega) only [zt_lit, zt_neg, zt_le, LI_0, hR.2.1, sFd]
      rw [if_pos (by omega)]
    | succ n =>
      obtain ⟨h1, h2, -⟩ := hw.2 t ht (by omega)
      obtain ⟨r1, r2, -⟩ := hR.2.2 t ht (by omega)
      simp (disch := omega) only [zt_lit, zt_add, zt_le, zt_eq, mI_z, ob_z, LI_0, hR.2.1, r1, r2, sFd]
      rw [if_neg (by omega), ih n (t + 1) (by omega) (by omega) (by omega)]
      by_cases q1 : A (207 + 8 * t) = i
      · by_cases q2 : A (207 + 8 * t + 1) = s
        · simp [q1, q2]
        · simp [q1, q2]
      · simp [q1]
theorem lz_eager : ∀ L : Nat, L < 16 → ∀ k : Nat, k < 4 → ((zt L &&& (zt 1 <<< (zt k &&& zt 31))) = zt 0 ↔ lz L k = false) := by decide +kernel
theorem y_isEager {i k : Int} (hi : 0 ≤ i ∧ i < 12) (hk : 0 ≤ k ∧ k < 4) (hl : 0 ≤ M (p + 7) i ∧ M (p + 7) i < 16) : p_X3_isEager F p (zt i) (zt k) (LI M) lg = some (zt (if lz (M (p + 7) i) k = true then 0 else 1)) := by
  unfold p_X3_isEager
  simp (disch := omega) only [zt_lit, mI_z, ob_z, rP_z0, rP_z1]
  have h := lz_eager (M (p + 7) i).toNat (by omega) k.toNat (by omega)
  rw [show (((M (p + 7) i).toNat : Nat) : Int) = M (p + 7) i by omega, show ((k.toNat : Nat) : Int) = k by omega] at h
  by_cases q : lz (M (p + 7) i) k = true
  · rw [if_neg (fun e => by rw [h.mp e] at q; cases q), if_pos q]
  · rw [if_pos (h.mpr (by simpa using q)), if_neg q]
end CR
