/-! The class's calls over memory: acts. -/
def StC (B : Int) (x : Nat) (M : ZM) (lg : Nat → Nat → Int64) (A T : Int → Int) (U : List (Int → Int)) (I : IMG) (ans : Int) (r : Option (Int32 × Nat × GH)) : Prop := ∃ K1 pr1 pt1 rr1 n1 M1 lg1, r = some (zt ans, n1, hp K1 pr1 pt1 rr1 (LI M1) lg1) ∧ CI B x K1 pr1 pt1 rr1 n1 M1 lg1 A T U I ∧ Rest x M M1 lg lg1
section RC
variable {B : Int} {A A1 : Int → Int}
theorem wfP.cg (h : wfP A) (he : ∀ e, 0 ≤ e → e < 133 → A1 e = A e) : wfP A1 := by
  have hc := h.1
  have h0 := he 0 (by omega) (by omega)
  refine ⟨by omega, fun p a b => ?_⟩
  obtain ⟨w1, w2, w3, w4, w5, w6, w7⟩ := h.2 p a (by omega)
  unfold wfPart
  rw [he _ (by omega) (by omega), he (1 + 11 * p + 2) (by omega) (by omega), he (1 + 11 * p + 7) (by omega) (by omega), he (1 + 11 * p + 8) (by omega) (by omega), he (1 + 11 * p + 9) (by omega) (by omega), he (1 + 11 * p + 10) (by omega) (by omega), h0]
  exact ⟨w1, w2, fun k c d => by rw [he _ (by omega) (by omega)]; exact w3 k c d, w4, w5, w6, w7⟩
theorem wfT.cg (h : wfT A) (h0 : A1 0 = A 0) (he : ∀ e, 206 ≤ e → e < 687 → A1 e = A e) : wfT A1 := by
  have hm := h.1
  have h6 := he 206 (by omega) (by omega)
  refine ⟨by omega, fun t a b => ?_⟩
  obtain ⟨w1, w2, w3, w4⟩ := h.2 t a (by omega)
  unfold wfThing
  rw [he _ (by omega) (by omega), he (207 + 8 * t + 1) (by omega) (by omega), he (207 + 8 * t + 2) (by omega) (by omega), h0, h6]
  exact ⟨w1, w2, w3, fun k c d => by rw [he _ (by omega) (by omega)]; exact w4 k c d⟩
theorem GR.stand (h : GR B A) (he : ∀ e, (0 ≤ e ∧ e < 145) ∨ 206 ≤ e → A1 e = A e) (hS : wfS A1) : GR B A1 := by
  obtain ⟨⟨f1, f2, f3, f4⟩, g2, g3⟩ := h
  have h6 := he 206 (by omega)
  refine ⟨⟨f1.cg (fun e a c => he e (by omega)), hS, f3.cg (he 0 (by omega)) (fun e a c => he e (by omega)), fun p a c => ?_⟩, ?_, g3.cong g2.2 f1.1 (fun e a => he e (by omega))⟩
  · rw [he _ (by omega), h6]; exact f4 p a c
  · unfold WT
    rw [he 809 (by omega), he 687 (by omega)]
    exact g2
theorem RT.extS {M : ZM} {b : Nat} (h : RT M b A) (hm : A 206 ≤ 60) (he : ∀ e, (133 ≤ e ∧ e < 145) ∨ (206 ≤ e ∧ e < 687) → A1 e = A e) : RT M b A1 := by
  obtain ⟨h1, h2, h3⟩ := h
  have h6 := he 206 (by omega)
  refine ⟨fun i a c => by rw [he _ (by omega)]; exact h1 i a c, by rw [h6]; exact h2, fun t a c => ?_⟩
  rw [h6] at c
  obtain ⟨t1, t2, t3, t4, t5⟩ := h3 t a c
  rw [he _ (by omega), he (207 + 8 * t + 1) (by omega), he (207 + 8 * t + 2) (by omega), he (207 + 8 * t + 3) (by omega)]
  exact ⟨t1, t2, t3, t4, fun k d f => by rw [he _ (by omega)]; exact t5 k d f⟩
theorem leave_wf (h : GR B A) (hL : LvS A A1) : GR (B + 60) A1 := by
  obtain ⟨⟨f1, f2, f3, f4⟩, g2, g3⟩ := h
  obtain ⟨l1, l2, l3, l4, l5, l6, l7, l8, l9⟩ := hL
  have hS := f2.1
  have hm := f3.1
  have h0 := l1 0 (by omega)
  have hrk := rk_le A (A 145) (A 206).toNat
  have hel := elS_len A (A 145) (A 206).toNat
  have hrng := elS_rng (A := A) (S := A 145) (A 206).toNat (fun t a c => (f3.2 t a (by omega)).1)
  have hed : edL A1 = elS A (A 145) (A 206).toNat := by
    unfold edL
    rw [l6]
    apply List.ext_getElem?
    intro i
    rcases Nat.lt_or_ge i (elS A (A 145) (A 206).toNat).length with g | g
    · rw [seg_at _ _ _ _ (by omega), List.getElem?_eq_getElem g]
      have := l7 i _ (List.getElem?_eq_getElem g)
      rw [← this]
      congr 2
      omega
    · rw [List.getElem?_eq_none (by rw [seg_len]; omega), List.getElem?_eq_none g]
  have hfl : (edL A1).filter (bd A1) = (elS A (A 145) (A 206).toNat).filter (bd A) := by
    rw [hed]
    refine filter_cong _ (fun y hy => ?_)
    have := hrng y hy
    have hc := f1.1
    unfold bd
    rw [l1 _ (by omega)]
  refine ⟨⟨f1.cg (fun e a c => l1 e (by omega)), ⟨?_, fun s p a c d e => ?_⟩, ⟨by omega, fun t a c => ?_⟩, fun p a c => ?_⟩, ⟨?_, ?_⟩, fun i a c => ?_, ?_, ?_⟩
  · rw [l2]; split <;> omega
  · rw [l3 s p a c d e, h0]
    split
    · have := f1.1; omega
    · exact f2.2 s p a c d e
  · rw [l4] at c
    obtain ⟨u, u1, u2, u3⟩ := rk_surj (A := A) (S := A 145) (A 206).toNat t a c
    obtain ⟨v1, v2⟩ := l5 u (by omega) u2
    obtain ⟨w1, w2, w3, w4⟩ := f3.2 u (by omega) (by omega)
    rw [u3] at v1 v2
    have e0 := v1 0 (by omega) (by omega)
    have e1 := v1 1 (by omega) (by omega)
    have e2 := v1 2 (by omega) (by omega)
    rw [Int.add_zero, Int.add_zero] at e0
    unfold wfThing
    rw [e0, e1, e2, h0, l4]
    refine ⟨w1, w2, w3, fun k k0 k1 => ?_⟩
    rw [v2 k k0 k1]
    by_cases q : A (207 + 8 * (u : Int) + (4 + k)) = 0
    · rw [if_pos q]; omega
    · rw [if_neg q]
      have := w4 k k0 k1
      exact plc_rng (m := (A 206).toNat) (by omega)
  · rw [l1 _ (by omega)]
    have := f4 p a c
    omega
  · rw [l1 809 (by omega)]; exact g2.1
  · rw [l6]; omega
  · rw [l6] at c
    have hx : (elS A (A 145) (A 206).toNat)[i.toNat]? = some (elS A (A 145) (A 206).toNat)[i.toNat] := List.getElem?_eq_getElem (by omega)
    have h7 := l7 i.toNat _ hx
    rw [show (688 : Int) + (i.toNat : Int) = 688 + i by omega] at h7
    rw [h7, h0]
    exact hrng _ (List.mem_of_getElem? hx)
  · rw [hfl]; exact l8
  · rw [hfl]; exact l9
theorem ask_out2 {part : Int} (hA : FI B A 0) (hp : 0 ≤ part ∧ part < A 0) {e : Int} (he : 891 ≤ e) : asA [] (fetS 13 [] part (A 145) A) e = A e := by
  have hok := fetS_ok (B := B) 13 [] (A 0) (A 145) rfl (by simp) (fun x hx => by cases hx) hA.1.1.2 hA.2.1.1 part A rfl hA hp.1 hp.2
  simp only at hok
  unfold asA
  generalize fetS 13 [] part (A 145) A = r at *
  by_cases q : r.1 < 0
  · obtain ⟨o1, o2, o3⟩ := hok.2.2 q
    rw [if_pos q]
    unfold whyW
    have h9 : ua (ua r.2.2 809 0) 810 r.1 809 = 0 := by rw [ua_ne (by omega), ua_eq]
    have hlen : ([] ++ r.2.1).length = r.2.1.length := rfl
    rw [wl_out (by omega) (by omega), ua_ne (by omega), ua_ne (by omega), hok.1.1 e (by omega)]
  · rw [if_neg q, hok.1.1 e (by omega)]
theorem value_out2 {t : Int} (hA : FI B A 0) (ht : 0 ≤ t ∧ t < A 206) {e : Int} (he : 891 ≤ e) : reA (recS 61 [] [] t A) e = A e := by
  have hok := recS_ok (B := B) 61 [] [] 0 rfl rfl (by simp) (fun x hx => by cases hx) (by omega) t A (by omega) hA ht.1 ht.2
  simp only at hok
  unfold reA
  generalize recS 61 [] [] t A = r at *
  by_cases q : r.1 < 0
  · obtain ⟨o1, o2, o3⟩ := hok.2.2 q
    rw [if_pos q]
    unfold whyW
    have h9 : ua (ua r.2.2 809 0) 810 r.1 809 = 0 := by rw [ua_ne (by omega), ua_eq]
    rw [wl_out (by omega) (by omega), ua_ne (by omega), ua_ne (by omega), hok.1.1 e (by omega)]
  · rw [if_neg q, hok.1.1 e (by omega)]
end RC
section CA
variable {B : Int} {x : Nat} {K : HK} {pr : HP} {pt : Nat → Nat} {rr : HP} {n : Nat} {M : ZM} {lg : Nat → Nat → Int64} {A T : Int → Int} {U : List (Int → Int)} {I : IMG} {F : Nat}
theorem HS.o10 (h : HS K pr pt rr n x) : K x = some (.inr 10) := h.1.1
theorem HS.r0 (h : HS K pr pt rr n x) : pr x 0 = some (x + 1) := h.1.2.1
theorem HS.r1 (h : HS K pr pt rr n x) : pr x 1 = some (x + 16) := h.1.2.2.1
theorem HS.r2 (h : HS K pr pt rr n x) : pr x 2 = some (x + 29) := h.1.2.2.2.1
theorem HS.r3 (h : HS K pr pt rr n x) : pr x 3 = some (x + 32) := h.1.2.2.2.2.1
theorem HS.r4 (h : HS K pr pt rr n x) : pr x 4 = some (x + 45) := h.1.2.2.2.2.2.1
theorem HS.r5 (h : HS K pr pt rr n x) : pr x 5 = some (x + 48) := h.1.2.2.2.2.2.2.1
theorem HS.r6 (h : HS K pr pt rr n x) : pr x 6 = some (x + 3) := h.1.2.2.2.2.2.2.2.1
theorem HS.r7 (h : HS K pr pt rr n x) : pr x 7 = some (x + 5) := h.1.2.2.2.2.2.2.2.2.1
theorem HS.r8 (h : HS K pr pt rr n x) : pr x 8 = some (x + 6) := h.1.2.2.2.2.2.2.2.2.2.1
theorem HS.k3 (h : HS K pr pt rr n x) : K (x + 3) = some (.inr 4) := h.1.2.2.2.2.2.2.2.2.2.2.1
theorem HS.k5 (h : HS K pr pt rr n x) : K (x + 5) = some (.inl (4, 3)) := h.1.2.2.2.2.2.2.2.2.2.2.2.2.2.1
theorem HS.k6 (h : HS K pr pt rr n x) : K (x + 6) = some (.inl (5, 3)) := h.1.2.2.2.2.2.2.2.2.2.2.2.2.2.2.1
theorem HS.k73 (h : HS K pr pt rr n x) : K (x + 73) = some (.inl (3, 1)) := h.1.2.2.2.2.2.2.2.2.2.2.2.2.2.2.2
theorem HS.sp0 (h : HS K pr pt rr n x) : Sp (x + 16) (pt (x + 16)) (x + 29) := by
  have := h.ptsAt h.b0.o0
  have := bo_pt h.b0 h.b0.o0
  unfold Sp
  omega
theorem HS.sp1 (h : HS K pr pt rr n x) : Sp (x + 32) (pt (x + 32)) (x + 45) := by
  have := h.ptsAt h.b1.o0
  have := bo_pt h.b1 h.b1.o0
  unfold Sp
  omega
theorem GR.rng (h : GR B A) : 0 ≤ A 0 ∧ A 0 ≤ 12 ∧ 0 ≤ A 145 ∧ A 145 ≤ 4 ∧ 0 ≤ A 206 ∧ A 206 ≤ 60 := ⟨h.1.1.1.1, h.1.1.1.2, h.1.2.1.1.1, h.1.2.1.1.2, h.1.2.2.1.1.1, h.1.2.2.1.1.2⟩
theorem CI.same (h : CI B x K pr pt rr n M lg A T U I) {a : Int} {r : Option (Int32 × Nat × GH)} (hr : r = some (zt a, n, hp K pr pt rr (LI M) lg)) : StC B x M lg A T U I a r := ⟨_, _, _, _, _, _, _, hr, h, Rest.refl _ _ _⟩
theorem v_enter (hF : 1000 < F) (h : CI B x K pr pt rr n M lg A T U I) : (A 145 = 4 → StC B x M lg A T U I (-1) (f_X10_enter F x n (hp K pr pt rr (LI M) lg))) ∧ (A 145 ≠ 4 → StC B x M lg (ua A 145 (A 145 + 1)) T (puU U A) I (A 145 + 1) (f_X10_enter F x n (hp K pr pt rr (LI M) lg))) := by
  have hs := h.1
  have hg := h.2.1.2.rng
  unfold f_X10_enter
  rw [v_gR hs.o10 rfl hs.r1, v_gI hs.b0.k0 rfl, LI_1, h.2.1.1.2.1.1]
  simp (disch := omega) only [zt_lit, zt_lt]
  refine ⟨fun e => ?_, fun e => ?_⟩
  · rw [if_neg (by omega)]; exact h.same rfl
  · rw [if_pos (by omega), v_gR hs.o10 rfl hs.r6, v_gR hs.o10 rfl hs.r1]
    obtain ⟨K1, pr1, pt1, rr1, n1, M1, lg1, a1, a2, a3⟩ := v_keep hF h
    have hs1 := a2.1
    obtain ⟨q1, q2, q3, q4⟩ := a2.2.1.1
    rw [v_cvU hs.k3 a1, v_gR hs1.o10 rfl hs1.r1, v_gI hs1.b0.k0 rfl, LI_1, q2.1, zt_add, v_pI hs1.b0.k0 rfl, up2_1, v_gR hs1.o10 rfl hs1.r1, v_gI hs1.b0.k0 rfl, LI_1, uM_eq]
    have hM : ∀ j, j ≠ x + 16 → uM M1 (x + 16) 1 (A 145 + 1) j = M1 j := fun j hj => by funext e; exact uM_ne hj
    have hd := bo_pt hs1.b0 hs1.b0.o0
    have hG := a2.2.1.2
    have hua : ∀ e, e ≠ 145 → ua A 145 (A 145 + 1) e = A e := fun e he => ua_ne he
    refine ⟨K1, pr1, pt1, rr1, n1, _, lg1, rfl, a2.setB (Int.le_refl _) hs1 (fun _ _ => rfl) (fun j g1 g2 => hM j (by omega)) rfl ⟨?_, ⟨?_, fun s i g0 g1 g2 g3 => ?_⟩, ?_, ?_⟩ ?_ (fun e e1 e2 => hua e (by omega)), a3.trans ⟨fun j g1 g2 => hM j (by omega), rfl⟩⟩
    · exact q1.ext hG.1.1 (fun e he => hua e (by omega)) (fun j g1 g2 => hM j (by omega))
    · rw [uM_eq, ua_eq]
    · rw [hM _ (by omega), hua _ (by omega)]; exact q2.2 s i g0 g1 g2 g3
    · exact (q3.ext (fun j g1 g2 => hM j (by omega))).extS (by omega) (fun e he => hua e (by omega))
    · exact q4.ext (fun e he => hua e (by omega)) (fun j g1 g2 => hM j (by omega)) hG.2.1.1.1 hG.2.1.2.1
    · refine hG.stand (fun e he => hua e (by omega)) ⟨by rw [ua_eq]; omega, fun s p a c d f => ?_⟩
      rw [hua _ (by omega), hua 0 (by omega)]
      exact hG.1.2.1.2 s p a c d f
theorem v_leave (hF : 1000 < F) (h : CI B x K pr pt rr n M lg A T U I) {A1 : Int → Int} (hL : LvS A A1) : StC (B + 60) x M lg A1 T (puU U A) I (elS A (A 145) (A 206).toNat).length (f_X10_leave F x n (hp K pr pt rr (LI M) lg)) := by
  have hs := h.1
  unfold f_X10_leave
  rw [v_gR hs.o10 rfl hs.r6, v_gR hs.o10 rfl hs.r1]
  obtain ⟨K1, pr1, pt1, rr1, n1, M1, lg1, a1, a2, a3⟩ := v_keep hF h
  have hs1 := a2.1
  have hG := a2.2.1.2
  have hd := bo_pt hs1.b0 hs1.b0.o0
  obtain ⟨M2, b1, b2, b3⟩ := y_leave (F := F) (lg := lg1) (B := B) (by omega) a2.2.1.1 hG.1 hG.2.1 (by omega)
  rw [v_cvU hs.k3 a1, v_gR hs1.o10 rfl hs1.r1, v_cvI hs1.b0.k0 (r_eI (e_X0_leaveScope hs1.b0) b1)]
  refine ⟨K1, pr1, pt1, rr1, n1, M2, lg1, rfl, a2.setB (by omega) hs1 (fun _ _ => rfl) (fun j g1 g2 => b3 j (by omega)) rfl (b2 A1 hL) (leave_wf hG hL) (fun e e1 e2 => hL.1 e (by omega)), a3.trans ⟨fun j g1 g2 => b3 j (by omega), rfl⟩⟩
theorem v_ask {p : Int} (hF : 1000 < F) (hB : B ≤ 1000000000) (hp0 : -2147483648 ≤ p ∧ p < 2147483648) (h : CI B x K pr pt rr n M lg A T U I) : (¬ (0 ≤ p ∧ p < A 0) → StC B x M lg A T U I (-1) (f_X10_ask F x (zt p) n (hp K pr pt rr (LI M) lg))) ∧ ((0 ≤ p ∧ p < A 0) → StC (B + 13) x M lg (asA [] (askA A p)) T (puU U A) I (askA A p).1 (f_X10_ask F x (zt p) n (hp K pr pt rr (LI M) lg))) := by
  have hs := h.1
  have hg := h.2.1.2.rng
  have h0 : M (pt (x + 16)) 0 = A 0 := h.2.1.1.1.1
  unfold f_X10_ask
  rw [v_gR hs.o10 rfl hs.r1, v_gP hs.b0.k0 rfl, v_cvP hs.b0.o0.k0 ((e_X3_holds hs.b0.o0).trans (y_holds3 hp0 (by omega))), h0]
  refine ⟨fun e => ?_, fun e => ?_⟩
  · rw [if_neg e, if_pos (by decide)]; exact h.same rfl
  · rw [if_pos e, if_neg (by decide), v_gR hs.o10 rfl hs.r6, v_gR hs.o10 rfl hs.r1]
    obtain ⟨K1, pr1, pt1, rr1, n1, M1, lg1, a1, a2, a3⟩ := v_keep hF h
    have hs1 := a2.1
    have hG := a2.2.1.2
    obtain ⟨M2, lg2, b1, b2, b3, b4⟩ := y_askFor (F := F) (lg := lg1) (B := B) (by omega) hB hs1.sp0 a2.2.1.1 hG.1 hG.2.1 e
    rw [v_cvU hs.k3 a1, v_gR hs1.o10 rfl hs1.r2, v_cvI hs1.m0.k0 (r_eI (e_X1_askFor hs1.m0) b1)]
    obtain ⟨w1, w2, w3, w4, w5, w6, w7⟩ := ask_wf hG.1 hG.2.1 e
    refine ⟨K1, pr1, pt1, rr1, n1, M2, lg2, rfl, a2.setB (by omega) hs1 (fun _ _ => rfl) (fun j g1 g2 => b3 j (by omega) (by omega)) (by funext k; exact b4 _ _ (by omega)) b2 ⟨w1, w2, hG.2.2.cong hG.2.1.2 hG.1.1.1 (fun y hy => w3 y (by omega))⟩ (fun y y1 y2 => ask_out2 hG.1 e y1), a3.trans ⟨fun j g1 g2 => b3 j (by omega) (by omega), by funext k; exact b4 _ _ (by omega)⟩⟩
end CA
