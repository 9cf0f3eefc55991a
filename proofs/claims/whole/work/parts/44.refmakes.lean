/-! The reference makes; asking as a recursion. -/
theorem x_mkl {w : Int64} {F : Nat} {M : ZM} {top t : Int} {v3 : Int32} {G : Nat} (hG : 5 < G) (ht : 0 ≤ top ∧ top ≤ 11) (h3 : v3 = zt t) (h4 : 0 ≤ t ∧ t < 60) (h26 : M 0 26 = top + 1) : fixN (fun _ _ _ => none) (pb_X11_makes_126 F (zt top) v3) G (zt 0) (LI M) w = some (v3, LI (uM (uM (uM (uM (uM M 1 (207 + 8 * t + (4 + 0)) (M 13 (4 * top + 0))) 1 (207 + 8 * t + (4 + 1)) (M 13 (4 * top + 1))) 1 (207 + 8 * t + (4 + 2)) (M 13 (4 * top + 2))) 1 (207 + 8 * t + (4 + 3)) (M 13 (4 * top + 3))) 0 26 (top + 1 - 1)), w) := by
  subst h3
  obtain ⟨g, rfl⟩ : ∃ g, G = g + 5 := ⟨G - 5, by omega⟩
  have hl : ∀ N : ZM, LI N 0 26 = zt (N 0 26) := fun N => rfl
  simp (disch := omega) only [fix_succ, pb_X11_makes_126, pk_X11_makes_158, zt_lit, zt_le, hl, uM_ne, h26, zt_mul, zt_add, zt_sub, mI_z, x_itIs, ob_z, pcU_z, gnm_z, up2_z]
  rfl
/-- what is open last is made -/
def mkM (M : ZM) (top : Int) : ZM := uM (sR M 1 (addT (M 1) (M 9 top) (M 10 top) (fun k => M 13 (4 * top + k)))) 0 26 (top + 1 - 1)
theorem x_makes {w : Int64} {F : Nat} {M : ZM} {n sn : Nat} {f : Int → Int} (hF : 100 < F) (hn0 : 0 < n) (hn : n ≤ 12) (hsn : sn ≤ 60) (hP : wfP (M 1)) (hT : wfT (M 1)) (h26 : M 0 26 = n) (h29 : M 0 29 = sn)
    (h9 : 0 ≤ M 9 ((n : Int) - 1) ∧ M 9 ((n : Int) - 1) < M 1 0) (h12 : 0 ≤ M 12 ((n : Int) - 1) ∧ M 12 ((n : Int) - 1) < 2147483648) (hf : ∀ j, 0 ≤ j → j < (sn : Int) → (0 ≤ M 14 j ∧ M 14 j < 60) ∧ M 1 (207 + 8 * M 14 j) = f j) :
    p_X11_makes F (LI M) w =
      if 0 < M 1 (1 + 11 * M 9 ((n : Int) - 1) + 9) ∧ M 12 ((n : Int) - 1) = M 1 (1 + 11 * M 9 ((n : Int) - 1) + 9) then some (zt (-3), LI (sR M 1 (whyW (M 1) (-3) (seg f sn 0 ++ seg (M 9) n 0))), w)
      else if M 1 206 = 60 then some (zt (-4), LI (sR M 1 (whyW (M 1) (-4) (seg f sn 0 ++ seg (M 9) n 0))), w)
      else some (zt (M 1 206), LI (mkM M ((n : Int) - 1)), w) := by
  have hc := hP.1
  have hm := hT.1
  have hbr := (hP.2 _ h9.1 h9.2).2.2.2.2.2.1
  have e2 : ∀ kind : Int, p_X11_tellsWhy F (zt kind) (zt (-1)) (LI M) w = some (zt kind, LI (sR M 1 (whyW (M 1) kind (seg f sn 0 ++ seg (M 9) n 0))), w) := fun kind => by
    rw [x_tellsWhy (n := n) (sn := sn) (f := f) (by omega) (by omega) hn hsn h26 h29 hf, show lsl (-1) = [] from rfl, List.append_nil]
  have hl : ∀ N : ZM, LI N 0 26 = zt (N 0 26) := fun N => rfl
  have e48 : pk_X11_makes_48 F (zt ((n : Int) - 1)) (zt (M 9 ((n : Int) - 1))) (LI M) w = if M 1 206 = 60 then some (zt (-4), LI (sR M 1 (whyW (M 1) (-4) (seg f sn 0 ++ seg (M 9) n 0))), w)
      else some (zt (M 1 206), LI (mkM M ((n : Int) - 1)), w) := by
    unfold pk_X11_makes_48
    simp (disch := omega) only [zt_lit, zt_neg, zt_eq, ob_z, mI_z, e2, pcI_z]
    by_cases q3 : M 1 206 = 60
    · rw [if_pos q3, if_pos q3]
    · rw [if_neg q3, if_neg q3]
      simp (disch := omega) only [zt_add, mS_z, x_itIs, mI_z, ob_z, pcU_z, uM_ne]
      rw [x_mkl (t := M 1 206) (by omega) (by omega) rfl (by omega) (by simp (disch := omega) only [uM_ne, h26]; omega)]
      simp (disch := omega) only [uM_ne, uM_row M, uM_sR, Int.add_zero, sR_ne, mkM, addT]
  unfold p_X11_makes
  simp (disch := omega) only [hl, h26, zt_lit, zt_sub, gnm_z, mI_z, ob_z, x_of, zt_le, zt_eq, zt_neg, e2, pcI_z, e48]
  generalize M 1 (1 + 11 * M 9 ((n : Int) - 1) + 9) = br at *
  generalize M 12 ((n : Int) - 1) = mm at *
  by_cases q1 : br ≤ 0
  · rw [if_pos q1, if_neg (show ¬ (0 < br ∧ mm = br) by omega)]
  · rw [if_neg q1]
    by_cases q2 : mm = br
    · rw [if_pos q2, if_pos (show 0 < br ∧ mm = br from ⟨by omega, q2⟩)]
    · rw [if_neg q2, if_neg (show ¬ (0 < br ∧ mm = br) from fun h => q2 h.2)]
