section S2
variable {F x : Nat}
theorem st_one {G1 : GH} {K : HK} {pr : HP} {pt : Nat → Nat} {rr : HP} {sg : Nat → Nat → Int32} {lg : Nat → Nat → Int64} {b : Nat} (hk : K b = some (.inr 0)) (hp4 : pr b 4 = some (b + 3)) : gR (hp K pr pt rr sg lg) b 0 4 = some (b + 3) := by
  have := v_gR (Kk := some) (pt := pt) (rr := rr) (sg := sg) (lg := lg) hk (show (hFT.getD 0 [])[4]? = some 2 from rfl) hp4
  rwa [bs_id] at this
set_option maxRecDepth 100000 in
set_option maxHeartbeats 1000000 in
theorem st_heap (hF : 1000 < F) : SG x (f_X10_init F x (x + 1) (gset (fun _ => none) x (.inr (10, df_X10)))) := by
  have e0 : (fun _ => none : GH) = hp (fun _ => none) (fun _ _ => none) (fun _ => 0) (fun _ _ => none) (LI (fun _ _ => 0)) (fun _ _ => 0) := rfl
  unfold f_X10_init
  rw [e0, v_newO, v_csU kc_X2, pa_blk, v_pR (by repeat rw [xK_out (by left; omega)]
                                                exact xK_in (d := 0) (by simp)) rfl]
  rw [v_csU kc_X4, ps_blk, v_pR (by repeat rw [xK_out (by left; omega)]
                                    exact xK_in (d := 0) (by simp)) rfl]
  rw [v_newQ (Or.inl rfl), v_pR (by repeat rw [xK_out (by left; omega)]
                                    exact xK_in (d := 0) (by simp)) rfl]
  rw [v_newQ (Or.inr rfl), v_pR (by repeat rw [xK_out (by left; omega)]
                                    exact xK_in (d := 0) (by simp)) rfl]
  rw [v_csU kc_X3, pt_blk]
  refine stepB hF (fun M1 m1 m2 m3 => ?_)
  rw [v_pR (by repeat rw [xK_out (by left; omega)]
               exact xK_in (d := 0) (by simp)) rfl]
  rw [gR_new (by omega), v_gR (by repeat rw [xK_out (by left; omega)]
                                  exact xK_in (d := 0) (by simp)) rfl (upr_eq _ _ _ _)]
  rw [v_csU (kc_X1 (by omega) (st_one (G1 := fun _ => none) (xK_in (d := 0) (by decide)) (by rw [upr_ne (by omega)]; exact xP_in (d := 0) (by decide)))), mk_blk]
  rw [v_pR (by repeat rw [xK_out (by left; omega)]
               exact xK_in (d := 0) (by simp)) rfl]
  refine stepB hF (fun M2 o1 o2 o3 => ?_)
  rw [v_pR (by repeat rw [xK_out (by left; omega)]
               exact xK_in (d := 0) (by simp)) rfl]
  rw [gR_new (by omega), v_gR (by repeat rw [xK_out (by left; omega)]
                                  exact xK_in (d := 0) (by simp)) rfl (upr_eq _ _ _ _)]
  rw [v_csU (kc_X1 (by omega) (st_one (G1 := fun _ => none) (xK_in (d := 0) (by decide)) (by rw [upr_ne (by omega)]; exact xP_in (d := 0) (by decide)))), mk_blk]
  rw [v_pR (by repeat rw [xK_out (by left; omega)]
               exact xK_in (d := 0) (by simp)) rfl]
  rw [v_csU kc_X5, pl_blk]
  rw [v_pR (by repeat rw [xK_out (by left; omega)]
               exact xK_in (d := 0) (by simp)) rfl]
  refine ⟨_, _, _, _, rfl, ⟨?_, ?_, ?_⟩, ?_, ⟨?_, ?_, ?_⟩, ⟨?_, ?_⟩, fun d e hd => ?_, fun e e0 e1 => ?_, fun d e hd h1 => ?_, fun d e hd => ?_⟩
  · rw [upt_ne (by omega), upt_ne (by omega)]; exact upt_eq _ _ _
  · rw [upt_ne (by omega)]; exact upt_eq _ _ _
  · exact upt_eq _ _ _
  · simp only [xP_nn]
  · rw [xM_out (by omega), xM_out (by omega), o3 _ (by omega), xM_out (by omega), m3 _ (by omega), xM_out (by omega), xM_out (by omega)]; exact congrFun (xM_in (d := 0) (f := pa_M) (by decide)) 1
  · rw [xM_out (by omega), xM_out (by omega), o3 _ (by omega), xM_out (by omega), m3 _ (by omega), xM_out (by omega), xM_out (by omega)]; exact congrFun (xM_in (d := 0) (f := pa_M) (by decide)) 2
  · rw [xM_out (by omega), xM_out (by omega), o3 _ (by omega), xM_out (by omega), m3 _ (by omega), xM_out (by omega), xM_out (by omega)]; exact congrFun (xM_in (d := 0) (f := pa_M) (by decide)) 3
  · rw [xM_out (by omega), xM_out (by omega), o3 _ (by omega), xM_out (by omega), m3 _ (by omega), xM_out (by omega)]; exact congrFun (xM_in (d := 0) (f := fun _ _ => 0) (by decide)) 1
  · rw [xM_out (by omega), xM_out (by omega), o3 _ (by omega), xM_out (by omega), m3 _ (by omega), xM_out (by omega)]; exact congrFun (xM_in (d := 0) (f := fun _ _ => 0) (by decide)) 2
  · rw [xM_out (by omega), xM_out (by omega), o3 _ (by omega), xM_out (by omega), m3 _ (by omega)]; exact congrFun (xM_in (f := fun _ _ => 0) hd) e
  · rw [xM_out (by omega), xM_out (by omega), o3 _ (by omega), xM_out (by omega)]; exact m1 e e0 e1
  · rw [xM_out (by omega), xM_out (by omega), o3 _ (by omega), xM_out (by omega)]; exact m2 d e hd h1
  · exact congrFun (xM_in (f := pl_M) hd) e
end S2
