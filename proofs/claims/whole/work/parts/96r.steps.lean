/-! One call of the law: class and reference answer alike, and the relation holds again. -/
def Lw (i x n : Nat) (K : HK) (pr : HP) (pt : Nat → Nat) (rr : HP) (M : ZM) (lg : Nat → Nat → Int64) (R : ZM) (w : Int64) (U : List (Int → Int)) (I : IMG) : Prop := CI (100 * (i : Int)) x K pr pt rr n M lg (R 1) (R 2) U I ∧ Jn x M lg R w ∧ RU R U ∧ II R I
def LwE (i x n : Nat) (G : GH) : Prop := ∃ K pr pt rr M lg R w U I, G = hp K pr pt rr (LI M) lg ∧ Lw i x n K pr pt rr M lg R w U I
def Bt (i x : Nat) (rc : Option (Int32 × Nat × GH)) (f : Nat → GH → Option (Int32 × Nat × GH)) : Prop := ∃ a n1 G1 n2 G2, rc = some (a, n1, G1) ∧ (∃ fs, G1 (x + 52) = some (.inr (11, fs))) ∧ f n1 G1 = some (a, n2, G2) ∧ LwE (i + 1) x n2 G2
section ST
variable {B B1 : Int} {i x n F : Nat} {K : HK} {pr : HP} {pt : Nat → Nat} {rr : HP} {M R R1 : ZM} {w w1 : Int64} {lg : Nat → Nat → Int64} {A T A1 T1 : Int → Int} {U U1 : List (Int → Int)} {I I1 : IMG} {ans : Int} {rc : Option (Int32 × Nat × GH)} {f : Nat → GH → Option (Int32 × Nat × GH)} {o : Option (Int32 × (Nat → Nat → Int32) × Int64)}
theorem StC.upB (h : StC B x M lg A T U I ans rc) (hB : B ≤ B1) : StC B1 x M lg A T U I ans rc := by
  obtain ⟨K1, pr1, pt1, rr1, n1, M1, lg1, c1, c2, c3⟩ := h
  exact ⟨K1, pr1, pt1, rr1, n1, M1, lg1, c1, c2.upB hB, c3⟩
theorem btC (h : Lw i x n K pr pt rr M lg R w U I) (hB : B ≤ 100 * (i : Int) + 100) (hc : StC B x M lg A1 T1 U1 I1 ans rc) (hf : ∀ (G0 : GH) (n : Nat), f n (mput G0 (x + 52) (LI R) w) = Option.map (fun z => (z.1, n, mput G0 (x + 52) z.2.1 z.2.2)) o) (ho : o = some (zt ans, LI R1, w1)) (hA : ∀ e, 0 ≤ e → e < 894 → R1 1 e = A1 e) (hT : ∀ e, 0 ≤ e → e < 600 → R1 2 e = T1 e) (hb : ∀ e, -128 ≤ R1 2 e ∧ R1 2 e ≤ 127) (hU : RU R1 U1) (hI : II R1 I1) : Bt i x rc f := by
  obtain ⟨K1, pr1, pt1, rr1, n1, M1, lg1, c1, c2, c3⟩ := hc
  have hj := h.2.1.rest c3
  have hok : OkRef K1 pr1 (x + 52) := c2.1.2.2.2.1
  obtain ⟨M2, lg2, b1, b2, b3, b4⟩ := ref_back (pt := pt1) (rr := rr1) (M := M1) (R := R1) (w := w1) (lg := lg1) hok
  refine ⟨zt ans, n1, _, n1, hp K1 pr1 pt1 rr1 (LI M2) lg2, c1, ⟨_, h_obj (hok.1 0 (by decide))⟩, ?_, K1, pr1, pt1, rr1, M2, lg2, R1, w1, U1, I1, rfl, ((c2.congA hA hT hb).ref b3 b4).upB (by omega), b2, hU, hI⟩
  rw [ref_put hok hj, hf, ho, ← b1]
  rfl
/-- nothing changed but the reference's flag -/
theorem bt0 (h : Lw i x n K pr pt rr M lg R w U I) (hc : StC (100 * (i : Int)) x M lg (R 1) (R 2) U I ans rc) (hf : ∀ (G0 : GH) (n : Nat), f n (mput G0 (x + 52) (LI R) w) = Option.map (fun z => (z.1, n, mput G0 (x + 52) z.2.1 z.2.2)) o) (ho : o = some (zt ans, LI (R0 R), w)) : Bt i x rc f :=
  btC h (by omega) hc hf ho (fun e _ _ => by rw [R0_row (by omega)]) (fun e _ _ => by rw [R0_row (by omega)]) (by rw [R0_row (by omega)]; exact h.1.2.2.1.2.2) (h.2.2.1.frame (R0_fru R)) (h.2.2.2.frame (R0_fr R))
/-- nothing changed but the reference's plan -/
theorem btQ (h : Lw i x n K pr pt rr M lg R w U I) (hc : StC (100 * (i : Int)) x M lg (R 1) (R 2) U I ans rc) (hf : ∀ (G0 : GH) (n : Nat), f n (mput G0 (x + 52) (LI R) w) = Option.map (fun z => (z.1, n, mput G0 (x + 52) z.2.1 z.2.2)) o) (ho : o = some (zt ans, LI R1, w)) (hq : FrQ R R1) : Bt i x rc f :=
  btC h (by omega) hc hf ho (fun e _ _ => by rw [hq.1 1 (by omega) (by omega)]) (fun e _ _ => by rw [hq.1 2 (by omega) (by omega)]) (by rw [hq.1 2 (by omega) (by omega)]; exact h.1.2.2.1.2.2) (h.2.2.1.frame hq.fru) (h.2.2.2.frame hq.fr)
/-- the row changed -/
theorem btU (h : Lw i x n K pr pt rr M lg R w U I) (hB : B ≤ 100 * (i : Int) + 100) (hc : StC B x M lg A1 (R 2) U1 I ans rc) (hf : ∀ (G0 : GH) (n : Nat), f n (mput G0 (x + 52) (LI R) w) = Option.map (fun z => (z.1, n, mput G0 (x + 52) z.2.1 z.2.2)) o) (ho : o = some (zt ans, LI R1, w)) (hA : ∀ e, 0 ≤ e → e < 894 → R1 1 e = A1 e) (hU : RU R1 U1) (hr : Fr R R1) : Bt i x rc f :=
  btC h hB hc hf ho hA (fun e _ _ => by rw [hr.1]) (by rw [hr.1]; exact h.1.2.2.1.2.2) hU (h.2.2.2.frame hr)
theorem Lw.fi (h : Lw i x n K pr pt rr M lg R w U I) : FI (100 * (i : Int)) (R 1) 0 := h.1.2.1.2.1
theorem bt_enter (hF : 7000 < F) (h : Lw i x n K pr pt rr M lg R w U I) : Bt i x (f_X10_enter F x n (hp K pr pt rr (LI M) lg)) (fun n G => f_X11_enter F (x + 52) n G) := by
  have v := v_enter (F := F) (by omega) h.1
  have e := x_enter (F := F) (w := w) hF h.fi h.2.2.1
  by_cases q : R 1 145 = 4
  · exact bt0 h (v.1 q) (fun _ _ => e_X11_enter) (e.1 q)
  · obtain ⟨R1, a1, a2, a3, a4⟩ := e.2 q
    exact btU h (by omega) (v.2 q) (fun _ _ => e_X11_enter) a1 (fun e _ _ => by rw [a2]) a3 a4
theorem bt_stand {p q : Int} (hF : 7000 < F) (hp0 : -2147483648 ≤ p ∧ p < 2147483648) (hq : -2147483648 ≤ q ∧ q < 2147483648) (h : Lw i x n K pr pt rr M lg R w U I) : Bt i x (f_X10_stand F x (zt p) (zt q) n (hp K pr pt rr (LI M) lg)) (fun n G => f_X11_stand F (x + 52) (zt p) (zt q) n G) := by
  have v := v_stand (F := F) (by omega) hp0 hq h.1
  have e := x_stand (F := F) (w := w) hF hp0 hq h.fi h.2.2.1
  by_cases c : ((0 ≤ p ∧ p < R 1 0) ∧ (0 ≤ q ∧ q < R 1 0) ∧ R 1 (146 + 12 * R 1 145 + p) ≠ (if p = q then 0 else q + 1))
  · obtain ⟨R1, a1, a2, a3, a4⟩ := e.2 c
    exact btU h (by omega) (v.2 c) (fun _ _ => e_X11_stand) a1 (fun e _ _ => by rw [a2]) a3 a4
  · exact bt0 h (v.1 c) (fun _ _ => e_X11_stand) (e.1 c)
theorem bt_ask {p : Int} (hF : 7000 < F) (hB : (i : Int) ≤ 1000) (hp0 : -2147483648 ≤ p ∧ p < 2147483648) (h : Lw i x n K pr pt rr M lg R w U I) : Bt i x (f_X10_ask F x (zt p) n (hp K pr pt rr (LI M) lg)) (fun n G => f_X11_ask F (x + 52) (zt p) n G) := by
  have v := v_ask (F := F) (by omega) (by omega) hp0 h.1
  have e := x_ask (F := F) (w := w) hF (by omega) hp0 h.fi h.2.2.1
  by_cases c : 0 ≤ p ∧ p < R 1 0
  · obtain ⟨R1, a1, a2, a3, a4⟩ := e.2 c
    exact btU h (by omega) (v.2 c) (fun _ _ => e_X11_ask) a1 (fun e _ _ => by rw [a2]) a3 a4
  · exact bt0 h (v.1 c) (fun _ _ => e_X11_ask) (e.1 c)
theorem bt_value {t : Int} (hF : 7000 < F) (hB : (i : Int) ≤ 1000) (hp0 : -2147483648 ≤ t ∧ t < 2147483648) (h : Lw i x n K pr pt rr M lg R w U I) : Bt i x (f_X10_value F x (zt t) n (hp K pr pt rr (LI M) lg)) (fun n G => f_X11_value F (x + 52) (zt t) n G) := by
  have v := v_value (F := F) (by omega) (by omega) hp0 h.1
  have e := x_value (F := F) (w := w) hF (by omega) hp0 h.fi h.2.2.1
  by_cases c : 0 ≤ t ∧ t < R 1 206
  · obtain ⟨R1, a1, a2, a3, a4⟩ := e.2 c
    exact btU h (by omega) (v.2 c) (fun _ _ => e_X11_value) a1 (fun e _ _ => by rw [a2]) a3 a4
  · exact bt0 h (v.1 c) (fun _ _ => e_X11_value) (e.1 c)
theorem bt_start {k : Int} (hF : 7000 < F) (hk : -2147483648 ≤ k ∧ k < 2147483648) (h : Lw i x n K pr pt rr M lg R w U I) : Bt i x (f_X10_start F x (zt k) n (hp K pr pt rr (LI M) lg)) (fun n G => f_X11_start F (x + 52) (zt k) n G) := by
  obtain ⟨R1, a1, a2⟩ := x_start (F := F) (w := w) (R := R) (by omega) hk h.fi.1
  exact btQ h (v_start (by omega) hk h.1) (fun _ _ => e_X11_start) a1 a2
theorem bt_loop {k : Int} (hF : 7000 < F) (hk : -2147483648 ≤ k ∧ k < 2147483648) (h : Lw i x n K pr pt rr M lg R w U I) : Bt i x (f_X10_loop F x (zt k) n (hp K pr pt rr (LI M) lg)) (fun n G => f_X11_loop F (x + 52) (zt k) n G) := by
  obtain ⟨R1, a1, a2⟩ := x_loop (F := F) (w := w) (R := R) (by omega) hk h.fi.1
  exact btQ h (v_loop (by omega) hk h.1) (fun _ _ => e_X11_loop) a1 a2
theorem bt_wave {k : Int} (hF : 7000 < F) (hk : -2147483648 ≤ k ∧ k < 2147483648) (h : Lw i x n K pr pt rr M lg R w U I) : Bt i x (f_X10_wave F x (zt k) n (hp K pr pt rr (LI M) lg)) (fun n G => f_X11_wave F (x + 52) (zt k) n G) := by
  obtain ⟨R1, a1, a2⟩ := x_wave (F := F) (w := w) (R := R) (by omega) hk h.fi.1
  exact btQ h (v_wave (by omega) hk h.1) (fun _ _ => e_X11_wave) a1 a2
theorem bt_deep (hF : 7000 < F) (h : Lw i x n K pr pt rr M lg R w U I) : Bt i x (f_X10_deep F x n (hp K pr pt rr (LI M) lg)) (fun n G => f_X11_deep F (x + 52) n G) := by
  obtain ⟨R1, a1, a2⟩ := x_deep (F := F) (w := w) (R := R) (by omega) h.fi.1
  exact btQ h (v_deep (by omega) h.1) (fun _ _ => e_X11_deep) a1 a2
theorem bt_looser {k : Int} (hF : 7000 < F) (hk : -2147483648 ≤ k ∧ k < 2147483648) (h : Lw i x n K pr pt rr M lg R w U I) : Bt i x (f_X10_looser F x (zt k) n (hp K pr pt rr (LI M) lg)) (fun n G => f_X11_looser F (x + 52) (zt k) n G) := by
  obtain ⟨an, R1, a1, a2, a3⟩ := x_looser (F := F) (w := w) (R := R) (by omega) hk h.fi.1
  obtain ⟨an1, b1, b2⟩ := v_looser (F := F) (by omega) hk h.1
  have e := b1.uni a2
  subst e
  exact btQ h b2 (fun _ _ => e_X11_looser) a1 a3
theorem bt_needs {p : Int} {z : Int32} (hF : 7000 < F) (hk : -2147483648 ≤ p ∧ p < 2147483648) (h : Lw i x n K pr pt rr M lg R w U I) : Bt i x (f_X10_needs F x (zt p) z n (hp K pr pt rr (LI M) lg)) (fun n G => f_X11_needs F (x + 52) (zt p) z n G) := by
  have v := v_needs (F := F) (z := z) (by omega) hk h.1
  have e := x_needs (F := F) (w := w) (R := R) (z := z) (by omega) hk h.fi.1
  by_cases c : 0 ≤ p ∧ p < R 1 0
  · obtain ⟨u, b1, b2⟩ := v.2 c
    obtain ⟨u1, d1, d2⟩ := e.2 c
    have eu := b1.uni h.fi.1.1.2 d1
    subst eu
    exact bt0 h b2 (fun _ _ => e_X11_needs) (by rw [d2]; show _ = some (Int32.ofInt u.toInt, _, _); rw [Int32.ofInt_toInt])
  · exact bt0 h (v.1 c) (fun _ _ => e_X11_needs) (e.1 c)
theorem bt_lost {p : Int} (hF : 7000 < F) (hk : -2147483648 ≤ p ∧ p < 2147483648) (h : Lw i x n K pr pt rr M lg R w U I) : Bt i x (f_X10_lost F x (zt p) n (hp K pr pt rr (LI M) lg)) (fun n G => f_X11_lost F (x + 52) (zt p) n G) := by
  have v := v_lost (F := F) (by omega) hk h.1
  have e := x_lost (F := F) (w := w) (R := R) (by omega) hk h.fi.1
  by_cases c : 0 ≤ p ∧ p < R 1 0
  · obtain ⟨u, b1, b2⟩ := v.2 c
    obtain ⟨u1, d1, d2⟩ := e.2 c
    have eu := b1.uni h.fi.1.1.2 d1
    subst eu
    exact bt0 h b2 (fun _ _ => e_X11_lost) (by rw [d2]; show _ = some (Int32.ofInt u.toInt, _, _); rw [Int32.ofInt_toInt])
  · exact bt0 h (v.1 c) (fun _ _ => e_X11_lost) (e.1 c)
end ST
