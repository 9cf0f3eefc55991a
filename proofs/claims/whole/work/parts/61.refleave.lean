/-! A scope is left: what it comes to, and the reference's way. -/
def rk (A : Int → Int) (S : Int) : Nat → Int
  | 0 => 0
  | n + 1 => rk A S n + (if A (207 + 8 * (n : Int) + 1) = S then 0 else 1)
theorem rk_le (A : Int → Int) (S : Int) : ∀ n : Nat, 0 ≤ rk A S n ∧ rk A S n ≤ n
  | 0 => ⟨Int.le_refl _, Int.le_refl _⟩
  | n + 1 => by
    have := rk_le A S n
    unfold rk
    split <;> omega
theorem rk_mono (A : Int → Int) (S : Int) (n : Nat) : ∀ k : Nat, rk A S n ≤ rk A S (n + k)
  | 0 => Int.le_refl _
  | k + 1 => by
    have := rk_mono A S n k
    show _ ≤ rk A S (n + k) + _
    split <;> omega
theorem rk_lt {A : Int → Int} {S : Int} {n k : Nat} (h : n < k) (hs : A (207 + 8 * (n : Int) + 1) ≠ S) : rk A S n < rk A S k := by
  have h1 := rk_mono A S (n + 1) (k - (n + 1))
  rw [show n + 1 + (k - (n + 1)) = k by omega] at h1
  have h2 : rk A S (n + 1) = rk A S n + 1 := by show _ + (if _ then _ else _) = _; rw [if_neg hs]
  omega
theorem rk_surj {A : Int → Int} {S : Int} : ∀ (n : Nat) (j : Int), 0 ≤ j → j < rk A S n → ∃ t : Nat, t < n ∧ A (207 + 8 * (t : Int) + 1) ≠ S ∧ rk A S t = j
  | 0, j, h0, h1 => by
    have : rk A S 0 = 0 := rfl
    omega
  | n + 1, j, h0, h1 => by
    by_cases q : j < rk A S n
    · obtain ⟨t, a, b, c⟩ := rk_surj n j h0 q
      exact ⟨t, by omega, b, c⟩
    · by_cases e : A (207 + 8 * (n : Int) + 1) = S
      · have : rk A S (n + 1) = rk A S n + 0 := by show _ + (if _ then _ else _) = _; rw [if_pos e]
        omega
      · have : rk A S (n + 1) = rk A S n + 1 := by show _ + (if _ then _ else _) = _; rw [if_neg e]
        exact ⟨n, by omega, e, by omega⟩
def plc (A : Int → Int) (S u : Int) : Int := if A (207 + 8 * u + 1) = S then 0 else rk A S u.toNat + 1
theorem plc_rng {A : Int → Int} {S u : Int} {m : Nat} (h : 0 ≤ u ∧ u < (m : Int)) : 0 ≤ plc A S u ∧ plc A S u ≤ rk A S m := by
  unfold plc
  have h1 := rk_le A S u.toNat
  have h2 := rk_le A S m
  by_cases q : A (207 + 8 * u + 1) = S
  · rw [if_pos q]; omega
  · rw [if_neg q]
    have h3 := rk_lt (A := A) (S := S) (n := u.toNat) (k := m) (by omega) (by rw [show ((u.toNat : Nat) : Int) = u by omega]; exact q)
    omega
def elS (A : Int → Int) (S : Int) : Nat → List Int
  | 0 => []
  | n + 1 => (if A (207 + 8 * (n : Int) + 1) = S then [A (207 + 8 * (n : Int))] else []) ++ elS A S n
theorem elS_len (A : Int → Int) (S : Int) : ∀ n : Nat, (elS A S n).length ≤ n
  | 0 => Nat.le_refl _
  | n + 1 => by
    have := elS_len A S n
    unfold elS
    rw [List.length_append]
    split
    · rw [List.length_singleton]; omega
    · rw [List.length_nil]; omega
theorem elS_rng {A : Int → Int} {S : Int} : ∀ n : Nat, (∀ t, 0 ≤ t → t < (n : Int) → 0 ≤ A (207 + 8 * t) ∧ A (207 + 8 * t) < A 0) → ∀ x ∈ elS A S n, 0 ≤ x ∧ x < A 0
  | 0, _, x, hx => by cases hx
  | n + 1, h, x, hx => by
    unfold elS at hx
    rcases List.mem_append.mp hx with h1 | h1
    · split at h1
      · rw [List.mem_singleton] at h1
        subst h1
        exact h n (by omega) (by omega)
      · cases h1
    · exact elS_rng n (fun t a b => h t a (by omega)) x h1
def bd (A : Int → Int) (p : Int) : Bool := decide (A (1 + 11 * p + 10) = 1)
def Ends (A : Int → Int) (l : List Int) (C : Int → Int) : Prop := C 687 = l.length ∧ (∀ (i : Nat) (x : Int), l[i]? = some x → C (688 + i) = x) ∧ C 748 = (l.filter (bd A)).length ∧ (∀ (i : Nat) (x : Int), (l.filter (bd A))[i]? = some x → C (749 + i) = x) ∧ ∀ e, e < 687 ∨ 809 ≤ e → C e = A e
theorem snoc_at {l : List Int} {x y : Int} {i : Nat} (h : (l ++ [x])[i]? = some y) : l[i]? = some y ∨ (i = l.length ∧ x = y) := by
  by_cases q : i < l.length
  · rw [List.getElem?_append_left q] at h
    exact Or.inl h
  · rw [List.getElem?_append_right (by omega)] at h
    by_cases e : i = l.length
    · subst e
      simp at h
      exact Or.inr ⟨rfl, h⟩
    · rw [List.getElem?_eq_none (by simp; omega)] at h
      cases h
theorem at_lt {l : List Int} {y : Int} {i : Nat} (h : l[i]? = some y) : i < l.length := (List.getElem?_eq_some_iff.mp h).1
section RR
variable {w : Int64} {F : Nat}
theorem x_ends {M : ZM} {A : Int → Int} {l : List Int} {t p : Int} (hE : Ends A l (M 1)) (hl : l.length < 60) (ht : 0 ≤ t ∧ t < 60) (hp : A (207 + 8 * t) = p) (hp2 : 0 ≤ p ∧ p < 12) (hb : 0 ≤ A (1 + 11 * p + 10) ∧ A (1 + 11 * p + 10) ≤ 1) :
    ∃ C, p_X11_ends F (zt t) (LI M) w = some (LI (sR M 1 C), w) ∧ Ends A (l ++ [p]) C := by
  obtain ⟨h1, h2, h3, h4, h5⟩ := hE
  have hfl : (l.filter (bd A)).length ≤ l.length := List.length_filter_le _ _
  have hits : M 1 (207 + 8 * t) = p := by rw [h5 _ (by omega)]; exact hp
  have hbad : M 1 (1 + 11 * p + 10) = A (1 + 11 * p + 10) := h5 _ (by omega)
  unfold p_X11_ends
  simp (disch := omega) only [zt_lit, x_its, ob_z, Int.add_zero, hits, mI_z, mS_z, zt_add, h1, h3, uM_nei, uM_eq, x_of, hbad, zt_eq]
  have hfil : (l ++ [p]).filter (bd A) = l.filter (bd A) ++ (if A (1 + 11 * p + 10) = 1 then [p] else []) := by
    rw [List.filter_append]
    by_cases q : A (1 + 11 * p + 10) = 1
    · rw [if_pos q, List.filter_cons_of_pos (by unfold bd; rw [decide_eq_true_eq]; exact q)]; rfl
    · rw [if_neg q, List.filter_cons_of_neg (by unfold bd; rw [decide_eq_true_eq]; exact q)]; rfl
  by_cases q : A (1 + 11 * p + 10) = 1
  · rw [if_pos q]
    refine ⟨ua (ua (ua (ua (M 1) (688 + l.length) p) 687 (l.length + 1)) (749 + (l.filter (bd A)).length) p) 748 ((l.filter (bd A)).length + 1), ?_, ?_, fun i x hi => ?_, ?_, fun i x hi => ?_, fun e he => ?_⟩
    · rw [uM_row M, uM_sR, uM_sR, uM_sR]
    · rw [ua_ne (by omega), ua_ne (by omega), ua_eq, List.length_append, List.length_singleton]; omega
    · rcases snoc_at hi with h | ⟨h, h'⟩
      · have := at_lt h
        rw [ua_ne (by omega), ua_ne (by omega), ua_ne (by omega), ua_ne (by omega)]; exact h2 i x h
      · subst h
        rw [ua_ne (by omega), ua_ne (by omega), ua_ne (by omega), ua_eqi (by omega)]; exact h'
    · rw [ua_eq, hfil, if_pos q, List.length_append, List.length_singleton]; omega
    · rw [hfil, if_pos q] at hi
      rcases snoc_at hi with h | ⟨h, h'⟩
      · have := at_lt h
        rw [ua_ne (by omega), ua_ne (by omega), ua_ne (by omega), ua_ne (by omega)]; exact h4 i x h
      · subst h
        rw [ua_ne (by omega), ua_eqi (by omega)]; exact h'
    · rw [ua_ne (by omega), ua_ne (by omega), ua_ne (by omega), ua_ne (by omega)]; exact h5 e he
  · rw [if_neg q]
    refine ⟨ua (ua (M 1) (688 + l.length) p) 687 (l.length + 1), ?_, ?_, fun i x hi => ?_, ?_, fun i x hi => ?_, fun e he => ?_⟩
    · rw [uM_row M, uM_sR]
    · rw [ua_eq, List.length_append, List.length_singleton]; omega
    · rcases snoc_at hi with h | ⟨h, h'⟩
      · have := at_lt h
        rw [ua_ne (by omega), ua_ne (by omega)]; exact h2 i x h
      · subst h
        rw [ua_ne (by omega), ua_eqi (by omega)]; exact h'
    · rw [ua_ne (by omega), ua_ne (by omega), hfil, if_neg q, List.append_nil]; exact h3
    · rw [hfil, if_neg q, List.append_nil] at hi
      have := at_lt hi
      rw [ua_ne (by omega), ua_ne (by omega)]; exact h4 i x hi
    · rw [ua_ne (by omega), ua_ne (by omega)]; exact h5 e he
/-- the walk over the things, the latest first -/
theorem x_lv47 {M0 : ZM} {A : Int → Int} {S : Int} (hS : 0 ≤ S ∧ S ≤ 4) (hP : wfP A) (hT : wfT A) :
    ∀ (n : Nat) (l : List Int) (M : ZM) (K : Nat), (n : Int) ≤ A 206 → l.length + n ≤ 60 → Ends A l (M 1) → (∀ j, j ≠ 1 → M j = M0 j) → n < K →
    ∃ M1, fixN (fun _ _ _ => none) (pb_X11_leave_47 F (zt S)) K (zt ((n : Int) - 1)) (LI M) w = pk_X11_leave_72 F (zt S) (LI M1) w ∧ Ends A (l ++ elS A S n) (M1 1) ∧ ∀ j, j ≠ 1 → M1 j = M0 j := by
  intro n
  induction n with
  | zero =>
    intro l M K _ _ hE hM hK
    obtain ⟨g, rfl⟩ : ∃ g, K = g + 1 := ⟨K - 1, by omega⟩
    rw [fix_succ]
    refine ⟨M, ?_, by rw [show elS A S 0 = [] from rfl, List.append_nil]; exact hE, hM⟩
    unfold pb_X11_leave_47
    simp (disch := omega) only [zt_lit, zt_lt]
    rw [if_pos (by omega)]
  | succ n ih =>
    intro l M K hn hl hE hM hK
    have hm := hT.1
    have hc := hP.1
    obtain ⟨w1, w2, -⟩ := hT.2 n (by omega) (by omega)
    have hb := (hP.2 _ w1.1 w1.2).2.2.2.2.2.2
    obtain ⟨g, rfl⟩ : ∃ g, K = g + 1 := ⟨K - 1, by omega⟩
    rw [fix_succ]
    generalize hr : fixN (fun _ _ _ => none) (pb_X11_leave_47 F (zt S)) g = r
    have e1 : M 1 (207 + 8 * (n : Int) + 1) = A (207 + 8 * (n : Int) + 1) := hE.2.2.2.2 _ (by omega)
    unfold pb_X11_leave_47
    simp (disch := omega) only [zt_lit, zt_neg, zt_lt, show (((n + 1 : Nat) : Int) - 1) = (n : Int) by omega, x_its, ob_z, e1, zt_eq, zt_add]
    rw [if_neg (by omega), show (n : Int) + -1 = (n : Int) - 1 by omega]
    unfold elS
    by_cases q : A (207 + 8 * (n : Int) + 1) = S
    · obtain ⟨C, c1, c2⟩ := x_ends (w := w) (F := F) (M := M) (t := (n : Int)) (p := A (207 + 8 * (n : Int))) hE (by omega) (by omega) rfl (by omega) hb
      rw [if_pos q, if_pos q, c1, pcU_z, ← hr, ← List.append_assoc]
      exact ih (l ++ [A (207 + 8 * (n : Int))]) (sR M 1 C) g (by omega) (by rw [List.length_append, List.length_singleton]; omega) (by rw [sR_eq]; exact c2) (fun j hj => by rw [sR_ne hj]; exact hM j hj) (by omega)
    · rw [if_neg q, if_neg q, ← hr, List.nil_append]
      exact ih l M g (by omega) (by omega) hE hM (by omega)
/-- eight fields go over -/
theorem x_cu54 {p4 : Int32 → Int32 → (Nat → Nat → Int32) → Int64 → Option ((Nat → Nat → Int32) × Int64)} {S n t : Int} (ht : 0 ≤ t ∧ t < 60) (hn : 0 ≤ n ∧ n ≤ t) :
    ∀ (c : Nat) (k : Int) (M : ZM) (K : Nat), k + c = 8 → 0 ≤ k → c < K →
    ∃ M1, fixN (fun _ _ _ => none) (pb_X11_comesUp_54 F p4 (zt S) (zt n) (zt t) (zt 1)) K (zt k) (LI M) w = pk_X11_comesUp_86 F p4 (zt S) (zt n) (zt t) (zt 1) (LI M1) w ∧ (∀ i, k ≤ i → i < 8 → M1 1 (207 + 8 * n + i) = M 1 (207 + 8 * t + i)) ∧ (∀ e, e < 207 + 8 * n + k ∨ 207 + 8 * n + 8 ≤ e → M1 1 e = M 1 e) ∧ ∀ j, j ≠ 1 → M1 j = M j := by
  intro c
  induction c with
  | zero =>
    intro k M K hk hk0 hK
    obtain ⟨g, rfl⟩ : ∃ g, K = g + 1 := ⟨K - 1, by omega⟩
    rw [fix_succ]
    refine ⟨M, ?_, fun i a b => by omega, fun _ _ => rfl, fun _ _ => rfl⟩
    unfold pb_X11_comesUp_54
    simp (disch := omega) only [zt_lit, zt_le]
    rw [if_pos (by omega)]
  | succ c ih =>
    intro k M K hk hk0 hK
    obtain ⟨g, rfl⟩ : ∃ g, K = g + 1 := ⟨K - 1, by omega⟩
    rw [fix_succ]
    generalize hr : fixN (fun _ _ _ => none) (pb_X11_comesUp_54 F p4 (zt S) (zt n) (zt t) (zt 1)) g = r
    unfold pb_X11_comesUp_54
    simp (disch := omega) only [zt_lit, zt_le, zt_eq, x_its, ob_z, x_itIs, pcU_z, zt_add]
    rw [if_neg (by omega), if_neg (by omega), ← hr]
    obtain ⟨M1, a1, a2, a3, a4⟩ := ih (k + 1) (uM M 1 (207 + 8 * n + k) (M 1 (207 + 8 * t + k))) g (by omega) (by omega) (by omega)
    refine ⟨M1, a1, fun i b1 b2 => ?_, fun e he => ?_, fun j hj => ?_⟩
    · by_cases e : i = k
      · subst e; rw [a3 _ (by omega), uM_eq]
      · rw [a2 i (by omega) b2, uM_nei (by omega)]
    · rw [a3 e (by omega), uM_nei (by omega)]
    · rw [a4 j hj]; funext e; exact uM_ne hj
def CUI (A : Int → Int) (S : Int) (M0 M : ZM) (t : Int) : Prop := (∀ e, e < 207 ∨ 687 ≤ e → M 1 e = A e) ∧ (∀ u k, t ≤ u → u < A 206 → 0 ≤ k → k < 8 → M 1 (207 + 8 * u + k) = A (207 + 8 * u + k)) ∧ (∀ u : Nat, (u : Int) < t → A (207 + 8 * (u : Int) + 1) ≠ S → ∀ k, 0 ≤ k → k < 8 → M 1 (207 + 8 * rk A S u + k) = A (207 + 8 * (u : Int) + k)) ∧ (∀ u, 0 ≤ u → u < t → M 16 u = plc A S u) ∧ ∀ j, j ≠ 1 → j ≠ 16 → M j = M0 j
theorem x_cu4 {M0 : ZM} {A : Int → Int} {S : Int} (hF : 10 < F) (hS : 0 ≤ S ∧ S ≤ 4) (hT : wfT A) :
    ∀ (c t : Nat) (M : ZM) (K : Nat), (t : Int) + c = A 206 → CUI A S M0 M t → c < K →
    ∃ M1, fixN (fun _ _ _ _ => none) (pb_X11_comesUp_4 F (zt S)) K (zt (rk A S t)) (zt t) (LI M) w = pk_X11_comesUp_105 F (zt (rk A S (t + c))) (LI M1) w ∧ CUI A S M0 M1 (A 206) := by
  intro c
  induction c with
  | zero =>
    intro t M K ht hI hK
    have hm := hT.1
    obtain ⟨g, rfl⟩ : ∃ g, K = g + 1 := ⟨K - 1, by omega⟩
    rw [fix_succ]
    have e6 : M 1 206 = A 206 := hI.1 206 (by omega)
    refine ⟨M, ?_, by rw [show A 206 = (t : Int) by omega]; exact hI⟩
    unfold pb_X11_comesUp_4
    simp (disch := omega) only [zt_lit, mI_z, ob_z, e6, zt_le]
    rw [if_pos (by omega)]
    rfl
  | succ c ih =>
    intro t M K ht hI hK
    have hm := hT.1
    obtain ⟨h1, h2, h3, h4, h5⟩ := id hI
    obtain ⟨w1, w2, -⟩ := hT.2 t (by omega) (by omega)
    obtain ⟨g, rfl⟩ : ∃ g, K = g + 1 := ⟨K - 1, by omega⟩
    rw [fix_succ]
    generalize hr : fixN (fun _ _ _ _ => none) (pb_X11_comesUp_4 F (zt S)) g = r
    have e6 : M 1 206 = A 206 := hI.1 206 (by omega)
    have e1 : M 1 (207 + 8 * (t : Int) + 1) = A (207 + 8 * (t : Int) + 1) := h2 t 1 (by omega) (by omega) (by omega) (by omega)
    have hrk := rk_le A S t
    unfold pb_X11_comesUp_4
    simp (disch := omega) only [zt_lit, mI_z, ob_z, e6, zt_le, x_its, e1, zt_eq]
    rw [if_neg (by omega)]
    have ec : t + (c + 1) = (t + 1) + c := by omega
    rw [ec]
    by_cases q : A (207 + 8 * (t : Int) + 1) = S
    · have hrs : rk A S (t + 1) = rk A S t := by show _ + (if _ then _ else _) = _; rw [if_pos q]; omega
      rw [if_pos q]
      unfold pk_X11_comesUp_31 pk_X11_comesUp_50
      rw [if_pos (show zt 0 = 0 from rfl), show (0 : Int32) = zt 0 from rfl, mS_z (by omega) (by omega) (by omega), ob_z]
      obtain ⟨g2, hg2⟩ : ∃ g2, F = g2 + 1 := ⟨F - 1, by omega⟩
      have hone : ∀ G, fixN (fun _ _ _ => none) (pb_X11_comesUp_54 F r (zt S) (zt (rk A S t)) (zt t) (zt 0)) (G + 1) (zt 0) (LI (uM M 16 t 0)) w = r (zt (rk A S t)) (zt ((t : Int) + 1)) (LI (uM M 16 t 0)) w := fun G => by
        rw [fix_succ]
        generalize fixN (fun _ _ _ => none) (pb_X11_comesUp_54 F r (zt S) (zt (rk A S t)) (zt t) (zt 0)) G = r2
        unfold pb_X11_comesUp_54 pk_X11_comesUp_86
        simp (disch := omega) only [zt_lit, zt_le, zt_add, gnm_z, Int.add_zero]
        rw [if_neg (by omega), if_pos trivial, if_pos trivial]
      have := hone g2
      rw [← hg2] at this
      rw [this, ← hr, ← hrs]
      have hI2 : CUI A S M0 (uM M 16 t 0) ((t + 1 : Nat) : Int) := by
        have u1 : uM M 16 t 0 1 = M 1 := by funext e; exact uM_ne (by omega)
        refine ⟨fun e he => by rw [u1]; exact h1 e he, fun u k a b c d => by rw [u1]; exact h2 u k (by omega) b c d, fun u a b k c d => ?_, fun u a b => ?_, fun j a b => by rw [← h5 j a b]; funext e; exact uM_ne b⟩
        · by_cases e : u = t
          · subst e; exact absurd q b
          · rw [u1]; exact h3 u (by omega) b k c d
        · by_cases e : u = t
          · subst e; rw [uM_eq]; unfold plc; rw [if_pos q]
          · rw [uM_nei e]; exact h4 u a (by omega)
      exact ih (t + 1) (uM M 16 t 0) g (by omega) hI2 (by omega)
    · have hrs : rk A S (t + 1) = rk A S t + 1 := by show _ + (if _ then _ else _) = _; rw [if_neg q]
      rw [if_neg q]
      unfold pk_X11_comesUp_31 pk_X11_comesUp_50
      rw [if_neg (by decide), show (1 : Int32) = zt 1 from rfl, zt_add, mS_z (by omega) (by omega) (by omega), ob_z]
      obtain ⟨M1, a1, a2, a3, a4⟩ := x_cu54 (w := w) (F := F) (p4 := r) (S := S) (n := rk A S t) (t := (t : Int)) (by omega) (by omega) 8 0 (uM M 16 t (rk A S t + 1)) F (by omega) (by omega) (by omega)
      have u1 : uM M 16 t (rk A S t + 1) 1 = M 1 := by funext e; exact uM_ne (by omega)
      rw [show (0 : Int32) = zt 0 from rfl, a1]
      unfold pk_X11_comesUp_86
      simp (disch := omega) only [zt_lit, zt_eq, zt_add, gnm_z]
      rw [if_neg (by omega), ← hrs, ← hr]
      rw [u1] at a2 a3
      have hI2 : CUI A S M0 M1 ((t + 1 : Nat) : Int) := by
        refine ⟨fun e he => by rw [a3 e (by omega)]; exact h1 e he, fun u k a b c d => by rw [a3 _ (by omega)]; exact h2 u k (by omega) b c d, fun u a b k c d => ?_, fun u a b => ?_, fun j a b => by rw [a4 j a, ← h5 j a b]; funext e; exact uM_ne b⟩
        · by_cases e : u = t
          · subst e
            rw [a2 k c d]; exact h2 u k (by omega) (by omega) c d
          · have := rk_lt (A := A) (S := S) (n := u) (k := t) (by omega) b
            rw [a3 _ (by omega)]; exact h3 u (by omega) b k c d
        · rw [a4 16 (by omega)]
          by_cases e : u = t
          · subst e
            rw [uM_eq]; unfold plc; rw [if_neg q, Int.toNat_natCast]
          · rw [uM_nei e]; exact h4 u a (by omega)
      exact ih (t + 1) M1 g (by omega) hI2 (by omega)
/-- the needs' things are known by their new numbers -/
def mp (M : ZM) (x : Int) : Int := if x = 0 then 0 else M 16 (x - 1)
theorem x_cu124 {p116 : Int32 → (Nat → Nat → Int32) → Int64 → Option ((Nat → Nat → Int32) × Int64)} {n t : Int} (ht : 0 ≤ t ∧ t < 60) :
    ∀ (c : Nat) (k : Int) (M : ZM) (K : Nat), k + c = 4 → 0 ≤ k → (∀ i, k ≤ i → i < 4 → 0 ≤ M 1 (207 + 8 * t + (4 + i)) ∧ M 1 (207 + 8 * t + (4 + i)) ≤ 60) → c < K →
    ∃ M1, fixN (fun _ _ _ => none) (pb_X11_comesUp_124 F p116 (zt n) (zt t)) K (zt k) (LI M) w = p116 (zt (t + 1)) (LI M1) w ∧ (∀ i, k ≤ i → i < 4 → M1 1 (207 + 8 * t + (4 + i)) = mp M (M 1 (207 + 8 * t + (4 + i)))) ∧ (∀ e, e < 207 + 8 * t + (4 + k) ∨ 207 + 8 * t + 8 ≤ e → M1 1 e = M 1 e) ∧ ∀ j, j ≠ 1 → M1 j = M j := by
  intro c
  induction c with
  | zero =>
    intro k M K hk hk0 _ hK
    obtain ⟨g, rfl⟩ : ∃ g, K = g + 1 := ⟨K - 1, by omega⟩
    rw [fix_succ]
    refine ⟨M, ?_, fun i a b => by omega, fun _ _ => rfl, fun _ _ => rfl⟩
    unfold pb_X11_comesUp_124
    simp (disch := omega) only [zt_lit, zt_le, zt_add]
    rw [if_pos (by omega)]
  | succ c ih =>
    intro k M K hk hk0 hr2 hK
    obtain ⟨g, rfl⟩ : ∃ g, K = g + 1 := ⟨K - 1, by omega⟩
    rw [fix_succ]
    generalize hr : fixN (fun _ _ _ => none) (pb_X11_comesUp_124 F p116 (zt n) (zt t)) g = r
    have hb := hr2 k (by omega) (by omega)
    have hgo : ∀ v : Int, v = mp M (M 1 (207 + 8 * t + (4 + k))) → ∃ M1, r (zt (k + 1)) (LI (uM M 1 (207 + 8 * t + (4 + k)) v)) w = p116 (zt (t + 1)) (LI M1) w ∧ (∀ i, k ≤ i → i < 4 → M1 1 (207 + 8 * t + (4 + i)) = mp M (M 1 (207 + 8 * t + (4 + i)))) ∧ (∀ e, e < 207 + 8 * t + (4 + k) ∨ 207 + 8 * t + 8 ≤ e → M1 1 e = M 1 e) ∧ ∀ j, j ≠ 1 → M1 j = M j := by
      intro v hv
      rw [← hr]
      obtain ⟨M1, a1, a2, a3, a4⟩ := ih (k + 1) (uM M 1 (207 + 8 * t + (4 + k)) v) g (by omega) (by omega) (fun i b1 b2 => by rw [uM_nei (by omega)]; exact hr2 i (by omega) b2) (by omega)
      have hmp : ∀ x, mp (uM M 1 (207 + 8 * t + (4 + k)) v) x = mp M x := fun x => by unfold mp; rw [uM_ne (by omega)]
      refine ⟨M1, a1, fun i b1 b2 => ?_, fun e he => ?_, fun j hj => ?_⟩
      · by_cases e : i = k
        · subst e; rw [a3 _ (by omega), uM_eq, hv]
        · rw [a2 i (by omega) b2, hmp, uM_nei (by omega)]
      · rw [a3 e (by omega), uM_nei (by omega)]
      · rw [a4 j hj]; funext e; exact uM_ne hj
    unfold pb_X11_comesUp_124
    simp (disch := omega) only [zt_lit, zt_le, zt_add, x_its, ob_z, zt_eq]
    rw [if_neg (by omega)]
    by_cases q : M 1 (207 + 8 * t + (4 + k)) = 0
    · rw [if_pos q, x_itIs (by omega) (by omega), pcU_z]
      exact hgo 0 (by unfold mp; rw [if_pos q])
    · rw [if_neg q]
      simp (disch := omega) only [zt_sub, mI_z, ob_z, x_itIs, pcU_z]
      exact hgo _ (by unfold mp; rw [if_neg q])
theorem x_cu116 {n : Int} (hF : 6 < F) (hn : 0 ≤ n ∧ n ≤ 60) :
    ∀ (c : Nat) (t : Int) (M : ZM) (K : Nat), t + c = n → 0 ≤ t → (∀ u i, t ≤ u → u < n → 0 ≤ i → i < 4 → 0 ≤ M 1 (207 + 8 * u + (4 + i)) ∧ M 1 (207 + 8 * u + (4 + i)) ≤ 60) → c < K →
    ∃ M1, fixN (fun _ _ _ => none) (pb_X11_comesUp_116 F (zt n)) K (zt t) (LI M) w = some (LI M1, w) ∧ (∀ u i, t ≤ u → u < n → 0 ≤ i → i < 4 → M1 1 (207 + 8 * u + (4 + i)) = mp M (M 1 (207 + 8 * u + (4 + i)))) ∧ (∀ u i, t ≤ u → u < n → 0 ≤ i → i < 4 → M1 1 (207 + 8 * u + i) = M 1 (207 + 8 * u + i)) ∧ (∀ e, e < 207 + 8 * t ∨ 207 + 8 * n ≤ e → M1 1 e = M 1 e) ∧ ∀ j, j ≠ 1 → M1 j = M j := by
  intro c
  induction c with
  | zero =>
    intro t M K ht ht0 _ hK
    obtain ⟨g, rfl⟩ : ∃ g, K = g + 1 := ⟨K - 1, by omega⟩
    rw [fix_succ]
    refine ⟨M, ?_, fun u i a b => by omega, fun u i a b => by omega, fun _ _ => rfl, fun _ _ => rfl⟩
    unfold pb_X11_comesUp_116
    simp (disch := omega) only [zt_le]
    rw [if_pos (by omega)]
  | succ c ih =>
    intro t M K ht ht0 hr2 hK
    obtain ⟨g, rfl⟩ : ∃ g, K = g + 1 := ⟨K - 1, by omega⟩
    rw [fix_succ]
    generalize hr : fixN (fun _ _ _ => none) (pb_X11_comesUp_116 F (zt n)) g = r
    unfold pb_X11_comesUp_116
    simp (disch := omega) only [zt_le]
    rw [if_neg (by omega)]
    obtain ⟨M1, a1, a2, a3, a4⟩ := x_cu124 (w := w) (F := F) (p116 := r) (n := n) (t := t) (by omega) 4 0 M F (by omega) (by omega) (fun i b1 b2 => hr2 t i (by omega) (by omega) b1 b2) (by omega)
    rw [show (0 : Int32) = zt 0 from rfl, a1, ← hr]
    obtain ⟨M2, b1, b2, b3, b4, b5⟩ := ih (t + 1) M1 g (by omega) (by omega) (fun u i c1 c2 c3 c4 => by rw [a3 _ (by omega)]; exact hr2 u i (by omega) c2 c3 c4) (by omega)
    have hmp : ∀ x, mp M1 x = mp M x := fun x => by unfold mp; rw [a4 16 (by omega)]
    refine ⟨M2, b1, fun u i c1 c2 c3 c4 => ?_, fun u i c1 c2 c3 c4 => ?_, fun e he => ?_, fun j hj => by rw [b5 j hj, a4 j hj]⟩
    · by_cases e : u = t
      · subst e; rw [b4 _ (by omega), a2 i c3 c4]
      · rw [b2 u i (by omega) c2 c3 c4, hmp, a3 _ (by omega)]
    · by_cases e : u = t
      · subst e; rw [b4 _ (by omega), a3 _ (by omega)]
      · rw [b3 u i (by omega) c2 c3 c4, a3 _ (by omega)]
    · rw [b4 e (by omega), a3 e (by omega)]
/-- others come up -/
theorem x_comesUp {M : ZM} {S : Int} (hF : 100 < F) (hS : 0 ≤ S ∧ S ≤ 4) (hT : wfT (M 1)) :
    ∃ M1, p_X11_comesUp F (zt S) (LI M) w = some (LI M1, w) ∧ (∀ e, e < 206 ∨ 687 ≤ e → M1 1 e = M 1 e) ∧ M1 1 206 = rk (M 1) S (M 1 206).toNat ∧ (∀ u : Nat, (u : Int) < M 1 206 → M 1 (207 + 8 * (u : Int) + 1) ≠ S → (∀ i, 0 ≤ i → i < 4 → M1 1 (207 + 8 * rk (M 1) S u + i) = M 1 (207 + 8 * (u : Int) + i)) ∧ ∀ i, 0 ≤ i → i < 4 → M1 1 (207 + 8 * rk (M 1) S u + (4 + i)) = if M 1 (207 + 8 * (u : Int) + (4 + i)) = 0 then 0 else plc (M 1) S (M 1 (207 + 8 * (u : Int) + (4 + i)) - 1)) ∧ ∀ j, j ≠ 1 → j ≠ 16 → M1 j = M j := by
  have hm := hT.1
  unfold p_X11_comesUp
  obtain ⟨M1, a1, a2, a3, a4, a5, a6⟩ := x_cu4 (w := w) (F := F) (M0 := M) (A := M 1) (S := S) (by omega) hS hT (M 1 206).toNat 0 M F (by omega) ⟨fun _ _ => rfl, fun _ _ _ _ _ _ => rfl, fun u h => by omega, fun u a b => by omega, fun _ _ _ => rfl⟩ (by omega)
  rw [Nat.zero_add] at a1
  rw [show (0 : Int32) = zt (rk (M 1) S 0) from rfl]
  have hz : zt (rk (M 1) S 0) = zt ((0 : Nat) : Int) := rfl
  have hrk := rk_le (M 1) S (M 1 206).toNat
  refine Exists.imp (fun M2 h => h) ?_
  have hx : fixN (fun _ _ _ _ => none) (pb_X11_comesUp_4 F (zt S)) F (zt (rk (M 1) S 0)) (zt (rk (M 1) S 0)) (LI M) w = pk_X11_comesUp_105 F (zt (rk (M 1) S (M 1 206).toNat)) (LI M1) w := a1
  rw [hx]
  unfold pk_X11_comesUp_105
  simp (disch := omega) only [zt_lit, mS_z, ob_z]
  have hu6 : ∀ e, e ≠ 206 → uM M1 1 206 (rk (M 1) S (M 1 206).toNat) 1 e = M1 1 e := fun e he => uM_nei he
  have hhas : ∀ u i, 0 ≤ u → u < rk (M 1) S (M 1 206).toNat → 0 ≤ i → i < 4 → 0 ≤ M1 1 (207 + 8 * u + (4 + i)) ∧ M1 1 (207 + 8 * u + (4 + i)) ≤ M 1 206 := fun u i c1 c2 c3 c4 => by
    obtain ⟨t, d1, d2, d3⟩ := rk_surj (A := M 1) (S := S) (M 1 206).toNat u c1 c2
    rw [← d3, a4 t (by omega) d2 (4 + i) (by omega) (by omega)]
    exact (hT.2 t (by omega) (by omega)).2.2.2 i c3 c4
  obtain ⟨M2, b1, b2, b3, b4, b5⟩ := x_cu116 (w := w) (F := F) (n := rk (M 1) S (M 1 206).toNat) (by omega) (by omega) (rk (M 1) S (M 1 206).toNat).toNat 0 (uM M1 1 206 (rk (M 1) S (M 1 206).toNat)) F (by omega) (by omega) (fun u i c1 c2 c3 c4 => by rw [hu6 _ (by omega)]; have := hhas u i c1 c2 c3 c4; omega) (by omega)
  refine ⟨M2, b1, fun e he => by rw [b4 e (by omega), hu6 e (by omega)]; exact a2 e (by omega), by rw [b4 206 (by omega), uM_eq], fun u h1 h2 => ?_, fun j h1 h2 => by rw [b5 j h1, ← a6 j h1 h2]; funext e; exact uM_ne h1⟩
  have hru := rk_le (M 1) S u
  have hrl := rk_lt (A := M 1) (S := S) (n := u) (k := (M 1 206).toNat) (by omega) h2
  refine ⟨fun i c1 c2 => by rw [b3 _ i (by omega) (by omega) c1 c2, hu6 _ (by omega)]; exact a4 u (by omega) h2 i c1 (by omega), fun i c1 c2 => ?_⟩
  have hw := (hT.2 u (by omega) (by omega)).2.2.2 i c1 c2
  rw [b2 _ i (by omega) (by omega) c1 c2, hu6 _ (by omega), a4 u (by omega) h2 (4 + i) (by omega) (by omega)]
  unfold mp
  by_cases q : M 1 (207 + 8 * (u : Int) + (4 + i)) = 0
  · rw [if_pos q, if_pos q]
  · rw [if_neg q, if_neg q, uM_ne (by omega)]
    exact a5 _ (by omega) (by omega)
end RR
