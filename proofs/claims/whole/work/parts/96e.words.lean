/-! Words: both know them alike. -/
def wcon : List Int64 := [1885434484, 1786082164, 6382692, 7173484, 7168376, 7170414, 7566690, 1936744814, 474147546227, 1818327673, 108243466677107, 6447460, 422775452260, 495589486693, 1700881256]
def wlen (k : Nat) : Nat := g_len.getD k 0
def wby (k i : Nat) : Int := ((g_byt.getD k []).getD i 0).toInt
def wdP (T : Int → Int) (N r : Int) (k : Nat) : Bool := decide (tkK T N r = 1) && (decide (tkE T N r - tkB T N r = wlen k) && allK (fun i => decide (T (tkB T N r + i) = wby k i.toNat)) (wlen k) 0)
theorem w_len : ∀ k : Nat, k < 15 → (p_J0_length_8abf5 0 k = some (zt (wlen k)) ∧ 3 ≤ wlen k ∧ wlen k ≤ 6) := by decide +kernel
theorem w_chr : ∀ k : Nat, k < 15 → ∀ i : Nat, i < wlen k → (p_J0_charAt_5068e 0 k (zt i) = some (zt (wby k i)) ∧ 97 ≤ wby k i ∧ wby k i ≤ 122) := by decide +kernel
theorem wlF (F k : Nat) : p_J0_length_8abf5 F k = p_J0_length_8abf5 0 k := rfl
theorem wcF (F k : Nat) (i : Int32) : p_J0_charAt_5068e F k i = p_J0_charAt_5068e 0 k i := rfl
theorem cvS_z {X : Type} {k : Nat} {v : Int32} {Kk : Int32 → Option X} (hk : k < 15) : cvS k (some v) Kk = Kk v := by
  unfold cvS
  rw [if_pos (by omega)]
  rfl
theorem y_isWord {F : Nat} {lg : Nat → Nat → Int64} {M : ZM} {t pb k : Nat} {T : Int → Int} {N r : Int} (hF : 20 < F) (hk : k < 15) (hN : 0 ≤ N ∧ N ≤ 600) (hT : ∀ e, -128 ≤ T e ∧ T e ≤ 127) (hr : 0 ≤ r ∧ r ≤ N) (ht : TokC M t T N r) (gp : ∀ e, 0 ≤ e → e < N → M pb e = T e) : p_X8_isWord F pb t k (LI M) lg = some (zt (if wdP T N r k = true then 1 else 0)) := by
  have hrg := tk_rng (T := T) hr hN.2
  obtain ⟨t1, t2, t3, t4, t5⟩ := ht
  obtain ⟨wl, wl1, wl2⟩ := w_len k hk
  unfold p_X8_isWord wdP
  rw [LI_2, t2, LI_4, t4, LI_3, t3, wlF, wl, cvS_z hk, zt_sub]
  simp (disch := omega) only [zt_lit, zt_eq]
  by_cases q : tkK T N r = 1
  · rw [if_pos q, show decide (tkK T N r = 1) = true from decide_eq_true q, Bool.true_and]
    by_cases q2 : tkE T N r - tkB T N r = wlen k
    · rw [if_pos q2, show decide (tkE T N r - tkB T N r = (wlen k : Int)) = true from decide_eq_true q2, Bool.true_and]
      have key : ∀ (n : Nat) (i : Int) (K : Nat), i + n = wlen k → 0 ≤ i → n < K → fixN (fun _ => none) (pb_X8_isWord_28 F pb t k (LI M) lg) K (zt i) = some (zt (if allK (fun i => decide (T (tkB T N r + i) = wby k i.toNat)) n i = true then 1 else 0)) := by
        intro n
        induction n with
        | zero =>
          intro i K h1 h2 hK
          obtain ⟨g, rfl⟩ : ∃ g, K = g + 1 := ⟨K - 1, by omega⟩
          rw [fix_succ]
          unfold pb_X8_isWord_28 allK
          rw [wlF, wl, cvS_z hk, if_pos (zle_pos (by omega) (by omega) (by omega)), if_pos rfl]
          rfl
        | succ n ih =>
          intro i K h1 h2 hK
          obtain ⟨g, rfl⟩ : ∃ g, K = g + 1 := ⟨K - 1, by omega⟩
          rw [fix_succ]
          generalize hr : fixN (fun _ => none) (pb_X8_isWord_28 F pb t k (LI M) lg) g = rr
          obtain ⟨c1, c2, c3⟩ := w_chr k hk i.toNat (by omega)
          rw [show ((i.toNat : Nat) : Int) = i by omega] at c1
          have hTi := hT (tkB T N r + i)
          unfold pb_X8_isWord_28
          rw [wlF, wl, cvS_z hk, if_neg (zle_neg (by omega) (by omega) (by omega)), LI_3, t3, zt_add, mI_z (by omega) (by omega) (by omega), ob_z, gp _ (by omega) (by omega), wcF, c1, cvS_z hk, show (1 : Int32) = zt 1 from rfl, zt_add, ← hr, ih (i + 1) g (by omega) (by omega) (by omega)]
          rw [show allK (fun i => decide (T (tkB T N r + i) = wby k i.toNat)) (n + 1) i = (decide (T (tkB T N r + i) = wby k i.toNat) && allK (fun i => decide (T (tkB T N r + i) = wby k i.toNat)) n (i + 1)) from rfl]
          have hz : (zt (T (tkB T N r + i)) = zt (wby k i.toNat)) = (T (tkB T N r + i) = wby k i.toNat) := zt_eq (by omega) (by omega) (by omega) (by omega)
          by_cases q3 : T (tkB T N r + i) = wby k i.toNat
          · rw [if_pos (by rw [hz]; exact q3), show decide (T (tkB T N r + i) = wby k i.toNat) = true from decide_eq_true q3, Bool.true_and]
          · rw [if_neg (by rw [hz]; exact q3), show decide (T (tkB T N r + i) = wby k i.toNat) = false from decide_eq_false q3, Bool.false_and, if_neg (by simp)]
            rfl
      exact key (wlen k) 0 F (by omega) (by omega) (by omega)
    · rw [if_neg q2, show decide (tkE T N r - tkB T N r = (wlen k : Int)) = false from decide_eq_false q2, Bool.false_and, if_neg (by simp)]
      rfl
  · rw [if_neg q, show decide (tkK T N r = 1) = false from decide_eq_false q, Bool.false_and, if_neg (by simp)]
    rfl
def wvN (f : Nat → Nat) : Nat → Nat
  | 0 => 0
  | n + 1 => wvN f n * 256 + f n
theorem wvN_inj {f g : Nat → Nat} : ∀ (n m : Nat), (∀ i, i < n → 0 < f i ∧ f i < 256) → (∀ i, i < m → 0 < g i ∧ g i < 256) → wvN f n = wvN g m → n = m ∧ ∀ i, i < n → f i = g i
  | 0, 0, _, _, _ => ⟨rfl, fun i h => by omega⟩
  | 0, m + 1, _, hg, h => by
    have := hg m (by omega)
    unfold wvN at h
    omega
  | n + 1, 0, hf, _, h => by
    have := hf n (by omega)
    unfold wvN at h
    omega
  | n + 1, m + 1, hf, hg, h => by
    have h1 := hf n (by omega)
    have h2 := hg m (by omega)
    rw [wvN, wvN] at h
    obtain ⟨e, he⟩ := wvN_inj n m (fun i hi => hf i (by omega)) (fun i hi => hg i (by omega)) (by omega)
    subst e
    refine ⟨rfl, fun i hi => ?_⟩
    by_cases q : i = n
    · subst q; omega
    · exact he i (by omega)
theorem wvN_lt {f : Nat → Nat} : ∀ n : Nat, (∀ i, i < n → f i < 256) → wvN f n < 256 ^ n
  | 0, _ => by unfold wvN; omega
  | n + 1, h => by
    have h1 := wvN_lt n (fun i hi => h i (by omega))
    have h2 := h n (by omega)
    rw [wvN, Nat.pow_succ]
    omega
theorem c_n64 : ∀ c : Nat, c < 256 → (Int32.toInt64 (zt (c : Int))).toBitVec.toNat = c := by decide +kernel
theorem sh8 : ((Int32.toInt64 (8 : Int32)) &&& (63 : Int64)).toBitVec.smod 64 = 8#64 := by decide
theorem w_step {w : Int64} {c : Nat} (hw : w.toBitVec.toNat < 2 ^ 56) (hc : c < 256) : ((w <<< ((Int32.toInt64 (8 : Int32)) &&& 63)) ||| (Int32.toInt64 (zt (c : Int)))).toBitVec.toNat = w.toBitVec.toNat * 256 + c := by
  have e8 : ((Int32.toInt64 (8 : Int32)) &&& (63 : Int64)).toBitVec.smod (64 : BitVec 64) = 8#64 := sh8
  rw [Int64.toBitVec_or, Int64.toBitVec_shiftLeft, BitVec.toNat_or, c_n64 c hc, BitVec.shiftLeft_eq']
  rw [show (((Int32.toInt64 (8 : Int32)) &&& (63 : Int64)).toBitVec.smod (64 : BitVec 64)).toNat = 8 from by rw [e8]; rfl]
  rw [BitVec.toNat_shiftLeft, Nat.mod_eq_of_lt (by rw [Nat.shiftLeft_eq]; omega), ← Nat.shiftLeft_add_eq_or_of_lt (by omega), Nat.shiftLeft_eq]
theorem wvW_nat {T : Int → Int} {b : Int} : ∀ n : Nat, n ≤ 8 → (∀ i : Int, b ≤ i → i < b + n → 97 ≤ T i ∧ T i ≤ 122) → (wvW T b n).toBitVec.toNat = wvN (fun i => (T (b + i)).toNat) n
  | 0, _, _ => rfl
  | n + 1, hn, h => by
    have ih := wvW_nat (T := T) (b := b) n (by omega) (fun i a c => h i a (by omega))
    have hl := h (b + n) (by omega) (by omega)
    have hlt : wvN (fun i => (T (b + i)).toNat) n < 256 ^ n := wvN_lt n (fun i hi => by have := h (b + i) (by omega) (by omega); omega)
    have hpow : 256 ^ n ≤ 256 ^ 7 := Nat.pow_le_pow_right (by omega) (by omega)
    rw [wvW, wvN, ← ih]
    have e : zt (T (b + n)) = zt (((T (b + n)).toNat : Nat) : Int) := by rw [show (((T (b + n)).toNat : Nat) : Int) = T (b + n) by omega]
    rw [e]
    exact w_step (by rw [ih]; have : (256 : Nat) ^ 7 = 2 ^ 56 := by decide
                     omega) (by omega)
theorem wcon_nat : ∀ k : Nat, k < 15 → (wcon.getD k 0).toBitVec.toNat = wvN (fun i => (wby k i).toNat) (wlen k) := by decide +kernel
section RW1
variable {w : Int64} {F : Nat} {R : ZM} {T : Int → Int} {N r : Int}
theorem x_wd {k : Nat} {c : Int64} (hk : k < 15) (hc : wcon.getD k 0 = c) (hN : 0 ≤ N ∧ N ≤ 600) (hr : 0 ≤ r ∧ r ≤ N) (ht : TokR R w T N r) (hK : tkK T N r = 1) : (lg_cmp w c = 0) ↔ wdP T N r k = true := by
  have hrg := tk_rng (T := T) hr hN.2
  obtain ⟨wl, wl1, wl2⟩ := w_len k hk
  have hw := ht.2.2.2.2.2.2.2 hK
  have hbk : ¬ (N ≤ tkB T N r) ∧ isLt (T (tkB T N r)) = true := by
    unfold tkK at hK
    by_cases q : N ≤ tkB T N r
    · rw [if_pos q] at hK; omega
    · rw [if_neg q] at hK
      by_cases q1 : isLt (T (tkB T N r)) = true
      · exact ⟨q, q1⟩
      · rw [if_neg q1] at hK
        split at hK
        · split at hK <;> omega
        · split at hK
          · omega
          · split at hK <;> omega
  have eE : tkE T N r = runF isLt T N 600 (tkB T N r) := by unfold tkE; rw [if_neg hbk.1, if_pos hbk.2]
  have hall : ∀ i, tkB T N r ≤ i → i < tkE T N r → 97 ≤ T i ∧ T i ≤ 122 := fun i a d => by
    rw [eE] at d
    have := (runF_spec (P := isLt) (T := T) (N := N) 600 (tkB T N r) (by omega)).2.1 i a d
    unfold isLt at this
    simpa using this
  rw [lg_cmp_eq, hw, ← hc]
  unfold wdP
  rw [show decide (tkK T N r = 1) = true from decide_eq_true hK, Bool.true_and, Bool.and_eq_true, decide_eq_true_eq, allK_iff]
  unfold wdV
  by_cases q : tkE T N r - tkB T N r ≤ 8
  · rw [if_pos q]
    have hn1 := wvW_nat (T := T) (b := tkB T N r) (tkE T N r - tkB T N r).toNat (by omega) (fun i a d => hall i a (by omega))
    have hn2 := wcon_nat k hk
    constructor
    · intro h
      have he := congrArg (fun z : Int64 => z.toBitVec.toNat) h
      simp only [hn1, hn2] at he
      obtain ⟨e1, e2⟩ := wvN_inj _ _ (fun i hi => by have := hall (tkB T N r + i) (by omega) (by omega); omega) (fun i hi => by have := w_chr k hk i hi; omega) he
      refine ⟨by omega, fun i a d => ?_⟩
      have := e2 i.toNat (by omega)
      have h1 := hall (tkB T N r + i) (by omega) (by omega)
      have h2 := w_chr k hk i.toNat (by omega)
      rw [show tkB T N r + ((i.toNat : Nat) : Int) = tkB T N r + i by omega] at this
      rw [decide_eq_true_eq]
      omega
    · rintro ⟨h1, h2⟩
      refine Int64.toBitVec.inj (BitVec.eq_of_toNat_eq ?_)
      rw [hn1, hn2, show (tkE T N r - tkB T N r).toNat = wlen k by omega]
      have hc2 : ∀ n : Nat, n ≤ wlen k → wvN (fun i => (T (tkB T N r + i)).toNat) n = wvN (fun i => (wby k i).toNat) n := by
        intro n
        induction n with
        | zero => intro _; rfl
        | succ n ih =>
          intro hn
          have := h2 n (by omega) (by omega)
          rw [decide_eq_true_eq] at this
          rw [wvN, wvN, ih (by omega), this]
          rfl
      exact hc2 _ (Nat.le_refl _)
  · rw [if_neg q]
    constructor
    · intro h
      exfalso
      have he := congrArg (fun z : Int64 => z.toBitVec.toNat) h
      simp only [wcon_nat k hk] at he
      have hz : (0 : Int64).toBitVec.toNat = wvN (fun _ => 1) 0 := rfl
      rw [hz] at he
      have := (wvN_inj _ _ (fun i hi => by omega) (fun i hi => by have := w_chr k hk i hi; omega) he).1
      omega
    · rintro ⟨h1, h2⟩
      omega
theorem srt_2 : srt (tkK T N r) = 2 ↔ tkK T N r = 1 := by
  unfold srt
  split
  · omega
  · split
    · omega
    · split
      · omega
      · split <;> omega
theorem srt_3 : srt (tkK T N r) = 3 ↔ tkK T N r = 2 := by
  unfold srt
  split
  · omega
  · split
    · omega
    · split
      · omega
      · split <;> omega
theorem srt_rng : 0 ≤ srt (tkK T N r) ∧ srt (tkK T N r) ≤ 4 := by
  unfold srt
  split
  · omega
  · split
    · omega
    · split
      · omega
      · split <;> omega
theorem srt_0 : srt (tkK T N r) = 0 ↔ tkK T N r = 0 := by
  unfold srt
  split
  · omega
  · split
    · omega
    · split
      · omega
      · split <;> omega
theorem wd_k {k : Nat} (h : wdP T N r k = true) : tkK T N r = 1 := by
  unfold wdP at h
  rw [Bool.and_eq_true, decide_eq_true_eq] at h
  exact h.1
theorem x_isWord {k : Nat} {c : Int64} (hk : k < 15) (hc : wcon.getD k 0 = c) (hN : 0 ≤ N ∧ N ≤ 600) (hr : 0 ≤ r ∧ r ≤ N) (ht : TokR R w T N r) : p_X11_isWord F c (LI R) w = some (zt (if wdP T N r k = true then 1 else 0)) := by
  have hs := srt_rng (T := T) (N := N) (r := r)
  unfold p_X11_isWord
  rw [LI_9, ht.2.2.2.1]
  have hz : (zt (srt (tkK T N r)) = 2) = (tkK T N r = 1) := by
    rw [show (2 : Int32) = zt 2 from rfl, zt_eq (by omega) (by omega) (by omega) (by omega)]
    exact propext srt_2
  by_cases q : tkK T N r = 1
  · rw [if_pos (by rw [hz]; exact q)]
    have h := x_wd hk hc hN hr ht q
    by_cases q2 : wdP T N r k = true
    · rw [if_pos (h.mpr q2), if_pos q2]; rfl
    · rw [if_neg (fun g => q2 (h.mp g)), if_neg q2]; rfl
  · rw [if_neg (by rw [hz]; exact q), if_neg (fun g => q (wd_k g))]; rfl
theorem x_isSign {c : Int} (hc : (c = 59 ∧ True) ∨ c = 45) (ht : TokR R w T N r) (hT : ∀ e, -128 ≤ T e ∧ T e ≤ 127) (hr : 0 ≤ r ∧ r ≤ N) (hN : N ≤ 600) : p_X11_isSign F (zt c) (LI R) w = some (zt (if tkK T N r = (if c = 59 then 3 else 4) then 1 else 0)) := by
  have hs := srt_rng (T := T) (N := N) (r := r)
  have hrg := (tk_rng (T := T) hr hN).2.2.2.1
  unfold p_X11_isSign
  rw [LI_9, ht.2.2.2.1, LI_10]
  have hz : (zt (srt (tkK T N r)) = 4) = (tkK T N r = 3 ∨ tkK T N r = 4) := by
    rw [show (4 : Int32) = zt 4 from rfl, zt_eq (by omega) (by omega) (by omega) (by omega)]
    apply propext
    unfold srt
    split
    · omega
    · split
      · omega
      · split
        · omega
        · split <;> omega
  by_cases q : tkK T N r = 3 ∨ tkK T N r = 4
  · rw [if_pos (by rw [hz]; exact q)]
    rcases q with q | q
    · rw [ht.2.2.2.2.1 q, q]
      rcases hc with ⟨rfl, -⟩ | rfl
      · rfl
      · rfl
    · rw [ht.2.2.2.2.2.1 q, q]
      rcases hc with ⟨rfl, -⟩ | rfl
      · rfl
      · rfl
  · rw [if_neg (by rw [hz]; exact q), if_neg (fun g => q (by split at g <;> omega))]
    rfl
end RW1
