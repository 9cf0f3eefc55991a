/-! read: both answer alike, and what they leave is alike. -/
section RE
variable {B : Int} {x : Nat} {K : HK} {pr : HP} {pt : Nat → Nat} {rr : HP} {n : Nat} {M R : ZM} {w : Int64} {lg : Nat → Nat → Int64} {U : List (Int → Int)} {I : IMG} {F : Nat}
theorem bs_id {α : Type} (o : Option α) : Option.bind o some = o := by cases o <;> rfl
theorem v_read (hF : 1000 < F) (hB : 0 ≤ B) (h : CI B x K pr pt rr n M lg (R 1) (R 2) U I) : ∃ ans R1 w1 U1, p_X11_read F (LI R) w = some (zt ans, LI R1, w1) ∧ StC B x M lg (R1 1) (R1 2) U1 I ans (f_X10_read F x n (hp K pr pt rr (LI M) lg)) ∧ (R1 2 = R 2 ∧ R1 3 = R 3 ∧ R1 4 = R 4) ∧ (∀ e, 894 ≤ e → R1 1 e = R 1 e) ∧ ((U1 = U ∧ R1 0 5 = R 0 5) ∨ (U1 = [] ∧ R1 0 5 = 0)) ∧ (-1 ≤ ans ∧ ans ≤ 12) := by
  have hs := h.1
  have hn := hs.n0
  have hpp := h.2.2.1.1
  have htx := h.2.2.1.2
  have hN : 0 ≤ R 1 891 ∧ R 1 891 ≤ 600 := htx.1
  -- the reference as far as its empty table
  obtain ⟨Rz, z1, z2, z3⟩ := x_zero (F := F) (w := w) 891 0 (uM (uM (uM R 0 0 0) 0 7 (R 1 891)) 1 891 0) F (by omega) (by omega) (by omega) (fun e e0 e1 => by omega)
  have hrf : p_X11_read F (LI R) w = pk_X11_read_48 F (LI Rz) w := by
    rw [← z1]
    unfold p_X11_read
    rw [show (0 : Int32) = zt 0 from rfl, up2_0, gnm_z, show (891 : Int32) = zt 891 from rfl, mI_z (by omega) (by omega) (by omega), ob_z, uM_ne (by omega), up2_7, gnm_z, mS_z (by omega) (by omega) (by omega), ob_z]
  have rz2 : Rz 2 = R 2 := by rw [z3 2 (by omega)]; funext e; rw [uM_ne (by omega), uM_ne (by omega), uM_ne (by omega)]
  have rz3 : Rz 3 = R 3 := by rw [z3 3 (by omega)]; funext e; rw [uM_ne (by omega), uM_ne (by omega), uM_ne (by omega)]
  have rz4 : Rz 4 = R 4 := by rw [z3 4 (by omega)]; funext e; rw [uM_ne (by omega), uM_ne (by omega), uM_ne (by omega)]
  have rz7 : Rz 0 7 = R 1 891 := by rw [z3 0 (by omega), uM_ne (by omega), uM_eq]
  have rz05 : Rz 0 5 = R 0 5 := by rw [z3 0 (by omega), uM_ne (by omega), uM_nei (by omega), uM_nei (by omega)]
  have rz1 : ∀ e, e ≠ 891 → Rz 1 e = R 1 e := fun e he => by rw [z3 1 (by omega), uM_nei he, uM_ne (by omega), uM_ne (by omega)]
  have rz891 : Rz 1 891 = 0 := by rw [z3 1 (by omega), uM_eq]
  -- the new reader
  have hgR : gR (hp K pr pt rr (LI M) lg) (x + 1) 2 0 = some (x + 1 + 1) := by
    have := v_gR (Kk := some) (pt := pt) (rr := rr) (sg := LI M) (lg := lg) hs.pap.k0 (show (hFT.getD 2 [])[0]? = some 2 from rfl) hs.pap.p0
    rwa [bs_id] at this
  have hgI : gI (hp K pr pt rr (LI M) lg) (x + 1) 2 1 = some (zt (R 1 891)) := by
    have := v_gI (Kk := some) (pr := pr) (pt := pt) (rr := rr) (sg := LI M) (lg := lg) hs.pap.k0 (show (hFT.getD 2 [])[1]? = some 0 from rfl)
    rw [bs_id, LI_1, hpp.1] at this
    exact this
  have hro : OkReader (xK K n rd_K) (xP pr n 12 (rd_P n (x + 1 + 1))) n (x + 1 + 1) := rd_ok (by omega) hs.pap.k1
  have hs1 : HS (xK K n rd_K) (xP pr n 12 (rd_P n (x + 1 + 1))) pt (xP rr n 12 (fun _ _ => none)) (n + 12) x := hs.newR
  obtain ⟨M2, f1, f2, f3⟩ := y_fill (F := F) (lg := xL lg n 12) (M := xM M n 12 (rd_M (R 1 891))) (N := 12) (a := n + 10) (v := -1) (by decide) hF
  have hin : f_X6_init F n (x + 1) (n + 1) (gset (hp K pr pt rr (LI M) lg) n (.inr (6, df_X6))) = some (n + 12, hp (xK K n rd_K) (xP pr n 12 (rd_P n (x + 1 + 1))) pt (xP rr n 12 (fun _ _ => none)) (LI M2) (xL lg n 12)) := by
    rw [kc_X6 (by omega) hgR hgI, rd_blk, show (-1 : Int32) = zt (-1) from rfl, v_csU (r_eU (e_J7_fill_53178 hro.2.2.2.2.2.2) f1)]
  have lo : ∀ j, j < n → M2 j = M j := fun j hj => by rw [f3 j (by omega), xM_out (by omega)]
  have ni : ∀ d e, d < 12 → d ≠ 10 → M2 (n + d) e = rd_M (R 1 891) d e := fun d e hd h10 => by rw [f3 (n + d) (by omega), xM_in hd]
  have ni0 : ∀ d e, d < 12 → d ≠ 10 → ¬ (d = 0 ∧ e = 7) → ¬ (d = 11 ∧ e = 1) → M2 (n + d) e = 0 := fun d e hd h10 h1 h2 => by rw [ni d e hd h10]; unfold rd_M; rw [if_neg h1, if_neg h2]
  obtain ⟨M3, R1, w1, ans, c1, c2, c3, c4⟩ := read_ok (F := F) (lg := xL lg n 12) (w := w) (M := M2) (R := Rz) (a := n) (pb := x + 1 + 1) (T := R 2) (N := R 1 891) hF hN htx.2 (by omega) (fun e e0 e1 => by rw [lo _ (by omega)]; exact hpp.2.2.2 e e0 e1) (fun e _ _ => by rw [rz2]) (ni0 0 3 (by omega) (by omega) (by omega) (by omega)) (ni0 0 6 (by omega) (by omega) (by omega) (by omega)) (by have := ni 0 7 (by omega) (by omega); rw [show rd_M (R 1 891) 0 7 = -1 from rfl] at this; exact this) (fun d i d1 d2 _ _ => by rw [Nat.add_assoc]; exact ni0 (1 + d) i (by omega) (by omega) (by omega) (by omega)) (fun v v0 v1 => f2 v v0 (by omega)) (by have := ni 11 1 (by omega) (by omega); rw [show rd_M (R 1 891) 11 1 = R 1 891 from rfl] at this; exact this) (ni0 11 4 (by omega) (by omega) (by omega) (by omega)) rz7 z2
  obtain ⟨s1, ⟨s2, s3⟩, ⟨s4, s5⟩, s6, s7, s8, s9⟩ := c4
  have lo3 : ∀ j, j < n → M3 j = M j := fun j hj => by rw [c3 j (by omega), lo j hj]
  have ci1 : CI B x (xK K n rd_K) (xP pr n 12 (rd_P n (x + 1 + 1))) pt (xP rr n 12 (fun _ _ => none)) (n + 12) M3 (xL lg n 12) (R 1) (R 2) U I := h.ext hs1 (fun _ _ => rfl) lo3 (fun k a ha => by rw [xP_out (by omega)]; exact ha) (xP_out (by omega)) (xP_out (by omega)) (xL_out (by omega))
  -- the paper is emptied
  have hcl : p_X2_clear F (x + 1) (zt (M3 n 6)) (zt (M3 n 7)) (LI M3) (xL lg n 12) = some (LI (uM (uM (uM M3 (x + 1) 1 0) (x + 1) 2 (M3 n 6)) (x + 1) 3 (M3 n 7)), xL lg n 12) := by
    unfold p_X2_clear
    rw [show (0 : Int32) = zt 0 from rfl, up2_1, gnm_z, up2_2, gnm_z, up2_3, gnm_z]
  have m4 : ∀ j, j ≠ x + 1 → uM (uM (uM M3 (x + 1) 1 0) (x + 1) 2 (M3 n 6)) (x + 1) 3 (M3 n 7) j = M3 j := fun j hj => by funext e; rw [uM_ne hj, uM_ne hj, uM_ne hj]
  have p1 : uM (uM (uM M3 (x + 1) 1 0) (x + 1) 2 (M3 n 6)) (x + 1) 3 (M3 n 7) (x + 1) 1 = 0 := by rw [uM_nei (by omega), uM_nei (by omega), uM_eq]
  have p2 : uM (uM (uM M3 (x + 1) 1 0) (x + 1) 2 (M3 n 6)) (x + 1) 3 (M3 n 7) (x + 1) 2 = M3 n 6 := by rw [uM_nei (by omega), uM_eq]
  have p3 : uM (uM (uM M3 (x + 1) 1 0) (x + 1) 2 (M3 n 6)) (x + 1) 3 (M3 n 7) (x + 1) 3 = M3 n 7 := uM_eq _ _ _ _
  have r12 : R1 2 = R 2 := by rw [s1 2 (by omega) (by omega) (by omega) (by omega) (by omega) (by omega)]; exact rz2
  have r891 : R1 1 891 = 0 := by rw [s6 891 (Or.inl rfl)]; exact rz891
  unfold f_X10_read
  rw [gR_new (by omega), v_gR hs.o10 rfl hs.r0, v_csU hin, v_cvU hro.k0 (r_eU (e_X6_readAll hro) c1), v_gR hs1.o10 rfl hs1.r0, v_gI hro.k0 rfl, LI_6, v_gI hro.k0 rfl, LI_7, v_cvU hs1.pap.k0 (r_eU (e_X2_clear hs1.pap) hcl), v_gI hro.k0 rfl, LI_6]
  generalize uM (uM (uM M3 (x + 1) 1 0) (x + 1) 2 (M3 n 6)) (x + 1) 3 (M3 n 7) = M4 at m4 p1 p2 p3 ⊢
  have ifn : ∀ e : Int, 891 ≤ e → (fun e : Int => if e < 891 then R 1 e else R1 1 e) e = R1 1 e := fun e he => if_neg (by omega)
  have ci2 : CI B x (xK K n rd_K) (xP pr n 12 (rd_P n (x + 1 + 1))) pt (xP rr n 12 (fun _ _ => none)) (n + 12) M4 (xL lg n 12) (fun e => if e < 891 then R 1 e else R1 1 e) (R1 2) U I := by
    refine ci1.setP (fun j j1 _ => m4 j j1) (fun e _ e1 => if_pos e1) ⟨?_, ?_, ?_, fun e e0 e1 => ?_⟩ ⟨?_, ?_⟩
    · exact p1.trans ((ifn 891 (by omega)).trans r891).symm
    · exact p2.trans ((ifn 892 (by omega)).trans s4).symm
    · exact p3.trans ((ifn 893 (by omega)).trans s5).symm
    · have e2 := (ifn 891 (by omega)).trans r891
      exact absurd (Int.lt_of_lt_of_le e1 (Int.le_of_eq e2)) (by omega)
    · have e2 := (ifn 891 (by omega)).trans r891
      exact ⟨Int.le_of_eq e2.symm, Int.le_trans (Int.le_of_eq e2) (by omega)⟩
    · rw [r12]; exact htx.2
  have fr : (R1 2 = R 2 ∧ R1 3 = R 3 ∧ R1 4 = R 4) ∧ ∀ e, 894 ≤ e → R1 1 e = R 1 e := ⟨⟨r12, by rw [s1 3 (by omega) (by omega) (by omega) (by omega) (by omega) (by omega)]; exact rz3, by rw [s1 4 (by omega) (by omega) (by omega) (by omega) (by omega) (by omega)]; exact rz4⟩, fun e he => by rw [s6 e (Or.inr he)]; exact rz1 e (by omega)⟩
  have rest4 : Rest x M M4 lg (xL lg n 12) := ⟨fun j j0 j1 => by rw [m4 j (by omega), lo3 j (by omega)], xL_out (by omega)⟩
  have e6 : M4 n 6 = M3 n 6 := by rw [m4 n (by omega)]
  rw [e6]
  by_cases q : M3 n 6 = 0
  · obtain ⟨t1, t2, t3, t4, t5⟩ := s8 q
    rw [if_pos (by rw [q]; rfl), v_gR hs1.o10 rfl hs1.r1, v_gR hro.k0 rfl hro.p1]
    obtain ⟨M5, a1, a2, a3⟩ := v_reset (F := F) (n := n + 12) (rr := xP rr n 12 (fun _ _ => none)) (lg := xL lg n 12) (M := M4) (A := R1 1) hF hs1.b0 hro.o1 (t3.frP (fun j j0 j1 => m4 j (by omega))) t4 t5
    rw [v_cvU hs1.b0.k0 a1]
    have ci3 : CI B x (xK K n rd_K) (xP pr n 12 (rd_P n (x + 1 + 1))) (upt pt (x + 16) (n + 1)) (xP rr n 12 (fun _ _ => none)) (n + 12) M5 (xL lg n 12) (R1 1) (R1 2) U I := ci2.setB (Int.le_refl _) (hs1.ptset hro.o1) (fun b hb => upt_ne hb) (fun j j0 j1 => a3 j (by omega)) rfl (by rw [upt_eq]; exact a2) (GR.fresh hB t4 t5) (fun e e0 e1 => (if_neg (by omega)).symm)
    have hs3 := ci3.1
    rw [v_gR hs3.o10 rfl hs3.r6]
    obtain ⟨M6, d1, d2, d3⟩ := v_clear (F := F) ci3
    rw [v_cvU hs3.k3 d1, v_gR hs3.o10 rfl hs3.r1, v_gP hs3.b0.k0 rfl, v_gI hs3.b0.o0.k0 rfl, LI_0, d2.2.1.1.1.1, ← t1]
    have hc := t4.1
    exact ⟨ans, R1, w1, [], by rw [hrf]; exact c2, ⟨_, _, _, _, _, _, _, rfl, d2, rest4.trans (Rest.trans ⟨fun j j0 j1 => a3 j (by omega), rfl⟩ d3)⟩, fr.1, fr.2, Or.inr ⟨rfl, t2⟩, by omega⟩
  · obtain ⟨t1, t2, t3⟩ := s7 q
    rw [if_neg (by rw [show (0 : Int32) = zt 0 from rfl, zt_eq (by omega) (by omega) (by omega) (by omega)]; exact q)]
    have ci3 : CI B x (xK K n rd_K) (xP pr n 12 (rd_P n (x + 1 + 1))) pt (xP rr n 12 (fun _ _ => none)) (n + 12) M4 (xL lg n 12) (R1 1) (R1 2) U I := ci2.congA (fun e e0 e1 => by
        by_cases qe : e < 891
        · rw [if_pos qe, t3 e qe, rz1 e (by omega)]
        · rw [if_neg qe]) (fun _ _ _ => rfl) (by rw [r12]; exact htx.2)
    refine ⟨ans, R1, w1, U, by rw [hrf]; exact c2, ⟨_, _, _, _, _, _, _, by rw [t1]; rfl, ci3, rest4⟩, fr.1, fr.2, Or.inl ⟨rfl, by rw [t2, rz05]⟩, by omega⟩
end RE
