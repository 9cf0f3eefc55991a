/-! More calls of the law. -/
section ST2
variable {B B1 : Int} {i x n F : Nat} {K : HK} {pr : HP} {pt : Nat → Nat} {rr : HP} {M R R1 : ZM} {w w1 : Int64} {lg : Nat → Nat → Int64} {A T A1 T1 : Int → Int} {U U1 : List (Int → Int)} {I I1 : IMG} {ans : Int} {rc : Option (Int32 × Nat × GH)}
theorem StC.tx (h : StC B x M lg A T U I ans rc) : ∀ e, -128 ≤ T e ∧ T e ≤ 127 := by
  obtain ⟨K1, pr1, pt1, rr1, n1, M1, lg1, c1, c2, c3⟩ := h
  exact c2.2.2.1.2.2
theorem bt_leave (hF : 7000 < F) (h : Lw i x n K pr pt rr M lg R w U I) : Bt i x (f_X10_leave F x n (hp K pr pt rr (LI M) lg)) (fun n G => f_X11_leave F (x + 52) n G) := by
  obtain ⟨Mk, a1, a2, a3, a4⟩ := x_keeps (F := F) (w := w) hF (h.2.2.1.frame (R0_fru R))
  have r1 : Mk 1 = R 1 := by rw [a3 1 (by omega) (by omega), R0_row (by omega)]
  obtain ⟨R1, b1, b2, b3⟩ := x_leaveK (F := F) (w := w) (M0 := R) (M := Mk) (B := 100 * (i : Int)) (by omega) (by rw [r1]; exact h.fi) a1
  rw [r1] at b1 b2
  rw [R0_row (show 1 ≠ 0 by omega)] at a2
  refine btU h (by omega) (v_leave (F := F) (by omega) h.1 b2) (fun _ _ => e_X11_leave) b1 (fun e _ _ => rfl) (a2.frame ⟨b3 4 (by omega) (by omega), by rw [b3 0 (by omega) (by omega)]⟩) ⟨?_, ?_, fun e e0 _ => b2.1 e (by omega)⟩
  · rw [b3 2 (by omega) (by omega), a3 2 (by omega) (by omega), R0_row (by omega)]
  · rw [b3 3 (by omega) (by omega), a3 3 (by omega) (by omega), R0_row (by omega)]
theorem bt_undo (hF : 7000 < F) (h : Lw i x n K pr pt rr M lg R w U I) : Bt i x (f_X10_undo F x n (hp K pr pt rr (LI M) lg)) (fun n G => f_X11_undo F (x + 52) n G) := by
  rcases List.eq_nil_or_concat U with e | ⟨V, C, e⟩
  · subst e
    exact bt0 h (v_undo0 h.1) (fun _ _ => e_X11_undo) (x_undo0 h.2.2.1.1)
  · rw [List.concat_eq_append] at e
    subst e
    obtain ⟨R1, a1, a2, a3, a4, a5, a6⟩ := x_undo1 (F := F) (w := w) (by omega) h.2.2.1
    refine btU h (by omega) (v_undo1 h.1) (fun _ _ => e_X11_undo) a1 (fun e e0 e1 => ?_) a2 ⟨a5 2 (by omega) (by omega), a5 3 (by omega) (by omega), fun e e0 _ => a4 e (Or.inr (by omega))⟩
    by_cases q : e < 891
    · rw [a3 e e0 q, if_pos q]
    · rw [a4 e (Or.inr (by omega)), if_neg q]
theorem bt_type {v : Int64} (hF : 7000 < F) (h : Lw i x n K pr pt rr M lg R w U I) : Bt i x (f_X10_type F x v n (hp K pr pt rr (LI M) lg)) (fun n G => f_X11_type F (x + 52) v n G) := by
  have u := v_type (F := F) (v := v) (by omega) h.1
  have e := x_type (F := F) (w := w) (v := v) (by omega) h.1.2.2.1.2 h.2.2.1 h.2.2.2
  by_cases c : R 1 891 + nzB v 8 0 ≤ 600
  · obtain ⟨R1, a1, a2, a3, a4, a5⟩ := e.2 c
    have hc := u.2 c
    exact btC h (by omega) hc (fun _ _ => e_X11_type) a1 (fun e _ _ => by rw [a2]) (fun e _ _ => by rw [a3]) (by rw [a3]; exact hc.tx) a4 a5
  · exact bt0 h (u.1 (by omega)) (fun _ _ => e_X11_type) (e.1 (by omega))
theorem bt_read (hF : 7000 < F) (h : Lw i x n K pr pt rr M lg R w U I) : Bt i x (f_X10_read F x n (hp K pr pt rr (LI M) lg)) (fun n G => f_X11_read F (x + 52) n G) := by
  obtain ⟨an, R1, w1, U1, a1, a2, a3, a4, a5, a6⟩ := v_read (F := F) (w := w) (R := R) (by omega) (by omega) h.1
  refine btC h (by omega) a2 (fun _ _ => e_X11_read) a1 (fun _ _ _ => rfl) (fun _ _ _ => rfl) a2.tx ?_ (h.2.2.2.frame ⟨a3.1, a3.2.1, fun e e0 _ => a4 e e0⟩)
  rcases a5 with ⟨e1, e2⟩ | ⟨e1, e2⟩
  · rw [e1]; exact h.2.2.1.frame ⟨a3.2.2, e2⟩
  · rw [e1]
    exact ⟨by rw [e2]; rfl, by simp, fun j C hj => by simp at hj⟩
theorem bt_would {p k : Int} (hF : 7000 < F) (hB : (i : Int) ≤ 1000) (hp0 : -2147483648 ≤ p ∧ p < 2147483648) (hk : -2147483648 ≤ k ∧ k < 2147483648) (h : Lw i x n K pr pt rr M lg R w U I) : Bt i x (f_X10_would F x (zt p) (zt k) n (hp K pr pt rr (LI M) lg)) (fun n G => f_X11_would F (x + 52) (zt p) (zt k) n G) := by
  obtain ⟨R1, a1, a2, a3, a4⟩ := x_would (F := F) (w := w) (R := R) hF (by omega) hp0 hk h.fi h.2.2.1
  have hc := v_would (F := F) (p := p) (k := k) (by omega) (by omega) hp0 hk (h.1.congA (A1 := cp4 (R 1)) (T1 := R 2) (fun e e0 e1 => cp4_lo (by omega)) (fun _ _ _ => rfl) h.1.2.2.1.2.2)
  exact btU h (by omega) hc (fun _ _ => e_X11_would) a1 (fun e e0 e1 => by rw [a2 e e0 e1, cp4_lo (by omega)]) a3 a4
theorem bt_worth {p : Int} (hF : 7000 < F) (hB : (i : Int) ≤ 1000) (hp0 : -2147483648 ≤ p ∧ p < 2147483648) (h : Lw i x n K pr pt rr M lg R w U I) : Bt i x (f_X10_worth F x (zt p) n (hp K pr pt rr (LI M) lg)) (fun n G => f_X11_worth F (x + 52) (zt p) n G) := by
  obtain ⟨R1, a1, a2, a3, a4⟩ := x_worth (F := F) (w := w) (R := R) hF (by omega) hp0 h.fi h.1.2.1.2.2.1 h.2.2.1
  have hc := v_worth (F := F) (p := p) (by omega) (by omega) hp0 (h.1.congA (A1 := cp4 (R 1)) (T1 := R 2) (fun e e0 e1 => cp4_lo (by omega)) (fun _ _ _ => rfl) h.1.2.2.1.2.2)
  exact btU h (by omega) hc (fun _ _ => e_X11_worth) a1 (fun e e0 e1 => by rw [a2 e e0 e1, cp4_lo (by omega)]) a3 a4
theorem bt_image {k : Int} (hF : 7000 < F) (hk : -2147483648 ≤ k ∧ k < 2147483648) (h : Lw i x n K pr pt rr M lg R w U I) : Bt i x (f_X10_image F x (zt k) n (hp K pr pt rr (LI M) lg)) (fun n G => f_X11_image F (x + 52) (zt k) n G) := by
  have u := v_image (F := F) (by omega) hk h.1
  have e := x_image (F := F) (w := w) (by omega) hk h.1.2.2.1.2.2 h.2.2.1 h.2.2.2
  by_cases c : 0 ≤ k ∧ k < 3
  · obtain ⟨R1, a1, a2, a3, a4, a5, a6⟩ := e.2 c
    exact btC h (by omega) (u.2 c) (fun _ _ => e_X11_image) a1 a2 a3 a4 a5 a6
  · exact bt0 h (u.1 c) (fun _ _ => e_X11_image) (e.1 c)
theorem bt_again {k : Int} (hF : 7000 < F) (hk : -2147483648 ≤ k ∧ k < 2147483648) (h : Lw i x n K pr pt rr M lg R w U I) : Bt i x (f_X10_again F x (zt k) n (hp K pr pt rr (LI M) lg)) (fun n G => f_X11_again F (x + 52) (zt k) n G) := by
  have u := v_again (F := F) hk h.1
  have e := x_again (F := F) (w := w) (by omega) hk h.1.2.2.1.2.2 h.2.2.1 h.2.2.2
  by_cases c : (0 ≤ k ∧ k < 3) ∧ I k.toNat ≠ none
  · cases hI : I k.toNat with
    | none => exact absurd hI c.2
    | some q =>
      obtain ⟨C, S⟩ := q
      obtain ⟨R1, a1, a2, a3, a4, a5, a6⟩ := e.2 C S c.1 hI
      exact btC h (by omega) (u.2 C S c.1 hI) (fun _ _ => e_X11_again) a1 a2 a3 a4 a5 a6
  · exact bt0 h (u.1 c) (fun _ _ => e_X11_again) (e.1 c)
theorem bt_fault {k : Int32} (h : Lw i x n K pr pt rr M lg R w U I) : ∃ a : Int, f_X10_fault F x k (hp K pr pt rr (LI M) lg) = some (zt a) ∧ Bt i x (some (zt a, n, hp K pr pt rr (LI M) lg)) (fun n G => f_X11_fault F (x + 52) k n G) :=
  ⟨_, v_fault h.1, bt0 h (h.1.same rfl) (fun _ _ => e_X11_fault) x_fault⟩
theorem bt_count {k : Int} (hF : 7000 < F) (hk : -2147483648 ≤ k ∧ k < 2147483648) (h : Lw i x n K pr pt rr M lg R w U I) : ∃ a : Int, f_X10_count F x (zt k) (hp K pr pt rr (LI M) lg) = some (zt a) ∧ Bt i x (some (zt a, n, hp K pr pt rr (LI M) lg)) (fun n G => f_X11_count F (x + 52) (zt k) n G) :=
  ⟨_, v_count (by omega) hk h.1, bt0 h (h.1.same rfl) (fun _ _ => e_X11_count) (by rw [x_count (by omega) hk h.fi, h.2.2.1.1])⟩
theorem bt_need {p k : Int} (hp0 : -2147483648 ≤ p ∧ p < 2147483648) (hk : -2147483648 ≤ k ∧ k < 2147483648) (h : Lw i x n K pr pt rr M lg R w U I) : ∃ a : Int, f_X10_need F x (zt p) (zt k) (hp K pr pt rr (LI M) lg) = some (zt a) ∧ Bt i x (some (zt a, n, hp K pr pt rr (LI M) lg)) (fun n G => f_X11_need F (x + 52) (zt p) (zt k) n G) :=
  ⟨_, v_need hp0 hk h.1, bt0 h (h.1.same rfl) (fun _ _ => e_X11_need) (x_need hp0 hk h.fi)⟩
theorem bt_has {p k : Int} (hp0 : -2147483648 ≤ p ∧ p < 2147483648) (hk : -2147483648 ≤ k ∧ k < 2147483648) (h : Lw i x n K pr pt rr M lg R w U I) : ∃ a : Int, f_X10_has F x (zt p) (zt k) (hp K pr pt rr (LI M) lg) = some (zt a) ∧ Bt i x (some (zt a, n, hp K pr pt rr (LI M) lg)) (fun n G => f_X11_has F (x + 52) (zt p) (zt k) n G) :=
  ⟨_, v_has hp0 hk h.1, bt0 h (h.1.same rfl) (fun _ _ => e_X11_has) (x_has hp0 hk h.fi)⟩
theorem bt_stands {p k : Int} (hF : 7000 < F) (hp0 : -2147483648 ≤ p ∧ p < 2147483648) (hk : -2147483648 ≤ k ∧ k < 2147483648) (h : Lw i x n K pr pt rr M lg R w U I) : ∃ a : Int, f_X10_stands F x (zt p) (zt k) (hp K pr pt rr (LI M) lg) = some (zt a) ∧ Bt i x (some (zt a, n, hp K pr pt rr (LI M) lg)) (fun n G => f_X11_stands F (x + 52) (zt p) (zt k) n G) :=
  ⟨_, v_stands (by omega) hp0 hk h.1, bt0 h (h.1.same rfl) (fun _ _ => e_X11_stands) (x_stands (by omega) hp0 hk h.fi)⟩
theorem bt_why {k : Int} (hk : -2147483648 ≤ k ∧ k < 2147483648) (h : Lw i x n K pr pt rr M lg R w U I) : ∃ a : Int, f_X10_why F x (zt k) (hp K pr pt rr (LI M) lg) = some (zt a) ∧ Bt i x (some (zt a, n, hp K pr pt rr (LI M) lg)) (fun n G => f_X11_why F (x + 52) (zt k) n G) :=
  ⟨_, v_why hk h.1, bt0 h (h.1.same rfl) (fun _ _ => e_X11_why) (x_why hk h.1.2.1.2.2.1)⟩
theorem bt_ended {k : Int} {bb : Int32} (hF : 7000 < F) (hk : -2147483648 ≤ k ∧ k < 2147483648) (h : Lw i x n K pr pt rr M lg R w U I) : ∃ a : Int, f_X10_ended F x (zt k) bb (hp K pr pt rr (LI M) lg) = some (zt a) ∧ Bt i x (some (zt a, n, hp K pr pt rr (LI M) lg)) (fun n G => f_X11_ended F (x + 52) (zt k) bb n G) :=
  ⟨_, v_ended (by omega) hk h.1, bt0 h (h.1.same rfl) (fun _ _ => e_X11_ended) (x_ended hk h.1.2.1.2.2.1 h.1.2.1.2.2.2)⟩
end ST2
