/-! X8_cutWord -/
def pb_X8_cutWord_0 (F : Nat)  (pb : Nat) (v0 : Nat)   (prec0 : (Nat → Nat → Int32) → (Nat → Nat → Int64) → Option ((Nat → Nat → Int32) × (Nat → Nat → Int64))) : (Nat → Nat → Int32) → (Nat → Nat → Int64) → Option ((Nat → Nat → Int32) × (Nat → Nat → Int64)) := fun  sg lg =>
  if (sg v0 1) ≤ (sg v0 4) then
  (gnm (up2 sg v0 2 (1 : Int32)) (fun (sg1 : Nat → Nat → Int32) =>
  some (sg1, lg)))
  else (Option.bind (mI sg pb 600 (sg v0 4)) (fun (x2 : Int32) =>
  if x2 < (97 : Int32) then
  (gnm (up2 sg v0 2 (1 : Int32)) (fun (sg3 : Nat → Nat → Int32) =>
  some (sg3, lg)))
  else (Option.bind (mI sg pb 600 (sg v0 4)) (fun (x4 : Int32) =>
  if (122 : Int32) < x4 then
  (gnm (up2 sg v0 2 (1 : Int32)) (fun (sg5 : Nat → Nat → Int32) =>
  some (sg5, lg)))
  else (gnm (up2 sg v0 4 ((sg v0 4) + (1 : Int32))) (fun (sg6 : Nat → Nat → Int32) =>
  prec0  sg6 lg))))))
def p_X8_cutWord (F : Nat)  (pb : Nat) (v0 : Nat) (sg : Nat → Nat → Int32) (lg : Nat → Nat → Int64) : Option ((Nat → Nat → Int32) × (Nat → Nat → Int64)) :=
  fixN (fun _ _ => none) (pb_X8_cutWord_0 F  pb v0  ) F  sg lg
set_option maxRecDepth 100000 in
set_option maxHeartbeats 4000000 in
theorem el_X8_cutWord_0 {F : Nat} {K : HK} {pr : HP} {pt : Nat → Nat} {rr : HP} {n : Nat} {pb : Nat}  {v0 : Nat}  (hv0 : OkTokens K pr v0 pb)    : ∀ (k : Nat)  (sg : Nat → Nat → Int32) (lg : Nat → Nat → Int64), fixN ((fun _ _ => none) : Nat → GH → Option (Nat × GH)) (b_X8_cutWord_0 F   v0) k  n (hp K pr pt rr sg lg) = Option.map (fun z => (n, hp K pr pt rr z.1 z.2)) (fixN ((fun _ _ => none) : (Nat → Nat → Int32) → (Nat → Nat → Int64) → Option ((Nat → Nat → Int32) × (Nat → Nat → Int64))) (pb_X8_cutWord_0 F  pb v0  ) k  sg lg) := by
  intro k
  refine fixN_ind2 (P := fun (r : Nat → GH → Option (Nat × GH)) (r1 : (Nat → Nat → Int32) → (Nat → Nat → Int64) → Option ((Nat → Nat → Int32) × (Nat → Nat → Int64))) => ∀  (sg : Nat → Nat → Int32) (lg : Nat → Nat → Int64), r  n (hp K pr pt rr sg lg) = Option.map (fun z => (n, hp K pr pt rr z.1 z.2)) (r1  sg lg)) ?_ ?_ k
  · intro  sg lg
    rfl
  · intro rec0 prec0 hrec0  sg lg
    unfold b_X8_cutWord_0 pb_X8_cutWord_0
    refine c_gI (hv0).k0 rfl ?_
    refine c_gI (hv0).k0 rfl ?_
    refine q_ite ?_ ?_
    · refine c_pI (hv0).k0 rfl (fun sg1 => ?_)
      rfl
    · refine c_gR (hv0).k0 rfl (hv0).p0 ?_
      refine c_gI (hv0).k0 rfl ?_
      refine c_aI (hv0).kd (by decide) (fun x2 => ?_)
      refine q_ite ?_ ?_
      · refine c_pI (hv0).k0 rfl (fun sg3 => ?_)
        rfl
      · refine c_gR (hv0).k0 rfl (hv0).p0 ?_
        refine c_gI (hv0).k0 rfl ?_
        refine c_aI (hv0).kd (by decide) (fun x4 => ?_)
        refine q_ite ?_ ?_
        · refine c_pI (hv0).k0 rfl (fun sg5 => ?_)
          rfl
        · refine c_gI (hv0).k0 rfl ?_
          refine c_pI (hv0).k0 rfl (fun sg6 => ?_)
          exact hrec0  _ _
set_option maxRecDepth 100000 in
set_option maxHeartbeats 4000000 in
theorem e_X8_cutWord {F : Nat} {K : HK} {pr : HP} {pt : Nat → Nat} {rr : HP} {n : Nat} {pb : Nat}  {v0 : Nat} (hv0 : OkTokens K pr v0 pb)  {sg : Nat → Nat → Int32} {lg : Nat → Nat → Int64} : f_X8_cutWord F  v0 n (hp K pr pt rr sg lg) = Option.map (fun z => (n, hp K pr pt rr z.1 z.2)) (p_X8_cutWord F  pb v0 sg lg) := by
  unfold f_X8_cutWord p_X8_cutWord
  exact el_X8_cutWord_0 hv0   _ _ _
/-! X8_cutNumber -/
def pk_X8_cutNumber_81 (F : Nat)  (pb : Nat) (v0 : Nat)    (sg : Nat → Nat → Int32) (lg : Nat → Nat → Int64) : Option ((Nat → Nat → Int32) × (Nat → Nat → Int64)) :=
  if (3 : Int32) < ((sg v0 4) - (sg v0 3)) then
  (gnm (up2 sg v0 2 (5 : Int32)) (fun (sg2 : Nat → Nat → Int32) =>
  some (sg2, lg)))
  else (gnm (up2 sg v0 2 (2 : Int32)) (fun (sg3 : Nat → Nat → Int32) =>
  some (sg3, lg)))
def pb_X8_cutNumber_5 (F : Nat)  (pb : Nat) (v0 : Nat)   (prec5 : (Nat → Nat → Int32) → (Nat → Nat → Int64) → Option ((Nat → Nat → Int32) × (Nat → Nat → Int64))) : (Nat → Nat → Int32) → (Nat → Nat → Int64) → Option ((Nat → Nat → Int32) × (Nat → Nat → Int64)) := fun  sg lg =>
  if (sg v0 1) ≤ (sg v0 4) then
  (pk_X8_cutNumber_81 F  pb v0  sg lg)
  else (Option.bind (mI sg pb 600 (sg v0 4)) (fun (x4 : Int32) =>
  if x4 < (48 : Int32) then
  (pk_X8_cutNumber_81 F  pb v0  sg lg)
  else (Option.bind (mI sg pb 600 (sg v0 4)) (fun (x5 : Int32) =>
  if (57 : Int32) < x5 then
  (pk_X8_cutNumber_81 F  pb v0  sg lg)
  else (Option.bind (mI sg pb 600 (sg v0 4)) (fun (x6 : Int32) =>
  gnm (up2 sg v0 5 (((sg v0 5) * (10 : Int32)) + (x6 - (48 : Int32)))) (fun (sg7 : Nat → Nat → Int32) =>
  gnm (up2 sg7 v0 4 ((sg7 v0 4) + (1 : Int32))) (fun (sg8 : Nat → Nat → Int32) =>
  prec5  sg8 lg))))))))
def p_X8_cutNumber (F : Nat)  (pb : Nat) (v0 : Nat) (sg : Nat → Nat → Int32) (lg : Nat → Nat → Int64) : Option ((Nat → Nat → Int32) × (Nat → Nat → Int64)) :=
  gnm (up2 sg v0 5 (0 : Int32)) (fun (sg1 : Nat → Nat → Int32) =>
  fixN (fun _ _ => none) (pb_X8_cutNumber_5 F  pb v0  ) F  sg1 lg)
set_option maxRecDepth 100000 in
set_option maxHeartbeats 4000000 in
theorem ec_X8_cutNumber_81 {F : Nat} {K : HK} {pr : HP} {pt : Nat → Nat} {rr : HP} {n : Nat} {pb : Nat}  {v0 : Nat}  (hv0 : OkTokens K pr v0 pb)     {sg : Nat → Nat → Int32} {lg : Nat → Nat → Int64} : k_X8_cutNumber_81 F   v0  n (hp K pr pt rr sg lg) = Option.map (fun z => (n, hp K pr pt rr z.1 z.2)) (pk_X8_cutNumber_81 F  pb v0    sg lg) := by
  unfold k_X8_cutNumber_81 pk_X8_cutNumber_81
  refine c_gI (hv0).k0 rfl ?_
  refine c_gI (hv0).k0 rfl ?_
  refine q_ite ?_ ?_
  · refine c_pI (hv0).k0 rfl (fun sg2 => ?_)
    rfl
  · refine c_pI (hv0).k0 rfl (fun sg3 => ?_)
    rfl
set_option maxRecDepth 100000 in
set_option maxHeartbeats 4000000 in
theorem el_X8_cutNumber_5 {F : Nat} {K : HK} {pr : HP} {pt : Nat → Nat} {rr : HP} {n : Nat} {pb : Nat}  {v0 : Nat}  (hv0 : OkTokens K pr v0 pb)    : ∀ (k : Nat)  (sg : Nat → Nat → Int32) (lg : Nat → Nat → Int64), fixN ((fun _ _ => none) : Nat → GH → Option (Nat × GH)) (b_X8_cutNumber_5 F   v0) k  n (hp K pr pt rr sg lg) = Option.map (fun z => (n, hp K pr pt rr z.1 z.2)) (fixN ((fun _ _ => none) : (Nat → Nat → Int32) → (Nat → Nat → Int64) → Option ((Nat → Nat → Int32) × (Nat → Nat → Int64))) (pb_X8_cutNumber_5 F  pb v0  ) k  sg lg) := by
  intro k
  refine fixN_ind2 (P := fun (r : Nat → GH → Option (Nat × GH)) (r1 : (Nat → Nat → Int32) → (Nat → Nat → Int64) → Option ((Nat → Nat → Int32) × (Nat → Nat → Int64))) => ∀  (sg : Nat → Nat → Int32) (lg : Nat → Nat → Int64), r  n (hp K pr pt rr sg lg) = Option.map (fun z => (n, hp K pr pt rr z.1 z.2)) (r1  sg lg)) ?_ ?_ k
  · intro  sg lg
    rfl
  · intro rec5 prec5 hrec5  sg lg
    unfold b_X8_cutNumber_5 pb_X8_cutNumber_5
    refine c_gI (hv0).k0 rfl ?_
    refine c_gI (hv0).k0 rfl ?_
    refine q_ite ?_ ?_
    · exact ec_X8_cutNumber_81 hv0  
    · refine c_gR (hv0).k0 rfl (hv0).p0 ?_
      refine c_gI (hv0).k0 rfl ?_
      refine c_aI (hv0).kd (by decide) (fun x4 => ?_)
      refine q_ite ?_ ?_
      · exact ec_X8_cutNumber_81 hv0  
      · refine c_gR (hv0).k0 rfl (hv0).p0 ?_
        refine c_gI (hv0).k0 rfl ?_
        refine c_aI (hv0).kd (by decide) (fun x5 => ?_)
        refine q_ite ?_ ?_
        · exact ec_X8_cutNumber_81 hv0  
        · refine c_gI (hv0).k0 rfl ?_
          refine c_gR (hv0).k0 rfl (hv0).p0 ?_
          refine c_gI (hv0).k0 rfl ?_
          refine c_aI (hv0).kd (by decide) (fun x6 => ?_)
          refine c_pI (hv0).k0 rfl (fun sg7 => ?_)
          refine c_gI (hv0).k0 rfl ?_
          refine c_pI (hv0).k0 rfl (fun sg8 => ?_)
          exact hrec5  _ _
set_option maxRecDepth 100000 in
set_option maxHeartbeats 4000000 in
theorem e_X8_cutNumber {F : Nat} {K : HK} {pr : HP} {pt : Nat → Nat} {rr : HP} {n : Nat} {pb : Nat}  {v0 : Nat} (hv0 : OkTokens K pr v0 pb)  {sg : Nat → Nat → Int32} {lg : Nat → Nat → Int64} : f_X8_cutNumber F  v0 n (hp K pr pt rr sg lg) = Option.map (fun z => (n, hp K pr pt rr z.1 z.2)) (p_X8_cutNumber F  pb v0 sg lg) := by
  unfold f_X8_cutNumber p_X8_cutNumber
  refine c_pI (hv0).k0 rfl (fun sg1 => ?_)
  exact el_X8_cutNumber_5 hv0   _ _ _
/-! X8_advance -/
def pk_X8_advance_157 (F : Nat)  (pb : Nat) (v0 : Nat)    (sg : Nat → Nat → Int32) (lg : Nat → Nat → Int64) : Option ((Nat → Nat → Int32) × (Nat → Nat → Int64)) :=
  gnm (up2 sg v0 4 ((sg v0 3) + (1 : Int32))) (fun (sg5 : Nat → Nat → Int32) =>
  Option.bind (mI sg5 pb 600 (sg5 v0 3)) (fun (x6 : Int32) =>
  if x6 = (59 : Int32) then
  (gnm (up2 sg5 v0 2 (3 : Int32)) (fun (sg10 : Nat → Nat → Int32) =>
  some (sg10, lg)))
  else (Option.bind (mI sg5 pb 600 (sg5 v0 3)) (fun (x7 : Int32) =>
  if x7 = (45 : Int32) then
  (gnm (up2 sg5 v0 2 (4 : Int32)) (fun (sg9 : Nat → Nat → Int32) =>
  some (sg9, lg)))
  else (gnm (up2 sg5 v0 2 (5 : Int32)) (fun (sg8 : Nat → Nat → Int32) =>
  some (sg8, lg)))))))
def pk_X8_advance_122 (F : Nat)  (pb : Nat) (v0 : Nat)    (sg : Nat → Nat → Int32) (lg : Nat → Nat → Int64) : Option ((Nat → Nat → Int32) × (Nat → Nat → Int64)) :=
  Option.bind (mI sg pb 600 (sg v0 3)) (fun (x4 : Int32) =>
  if x4 < (48 : Int32) then
  (pk_X8_advance_157 F  pb v0  sg lg)
  else (Option.bind (mI sg pb 600 (sg v0 3)) (fun (x11 : Int32) =>
  if (57 : Int32) < x11 then
  (pk_X8_advance_157 F  pb v0  sg lg)
  else (hcU (p_X8_cutNumber F pb v0 sg lg) (fun (sg12 : Nat → Nat → Int32) (lg13 : Nat → Nat → Int64) =>
  some (sg12, lg13))))))
def pk_X8_advance_60 (F : Nat)  (pb : Nat) (v0 : Nat)    (sg : Nat → Nat → Int32) (lg : Nat → Nat → Int64) : Option ((Nat → Nat → Int32) × (Nat → Nat → Int64)) :=
  gnm (up2 sg v0 4 (sg v0 3)) (fun (sg2 : Nat → Nat → Int32) =>
  if (sg2 v0 3) < (sg2 v0 1) then
  (Option.bind (mI sg2 pb 600 (sg2 v0 3)) (fun (x3 : Int32) =>
  if x3 < (97 : Int32) then
  (pk_X8_advance_122 F  pb v0  sg2 lg)
  else (Option.bind (mI sg2 pb 600 (sg2 v0 3)) (fun (x14 : Int32) =>
  if (122 : Int32) < x14 then
  (pk_X8_advance_122 F  pb v0  sg2 lg)
  else (hcU (p_X8_cutWord F pb v0 sg2 lg) (fun (sg15 : Nat → Nat → Int32) (lg16 : Nat → Nat → Int64) =>
  some (sg15, lg16)))))))
  else (gnm (up2 sg2 v0 2 (0 : Int32)) (fun (sg17 : Nat → Nat → Int32) =>
  some (sg17, lg))))
def pk_X8_advance_47 (F : Nat)  (pb : Nat) (v0 : Nat) (prec8 : (Nat → Nat → Int32) → (Nat → Nat → Int64) → Option ((Nat → Nat → Int32) × (Nat → Nat → Int64)))   (sg : Nat → Nat → Int32) (lg : Nat → Nat → Int64) : Option ((Nat → Nat → Int32) × (Nat → Nat → Int64)) :=
  gnm (up2 sg v0 3 ((sg v0 3) + (1 : Int32))) (fun (sg19 : Nat → Nat → Int32) =>
  prec8  sg19 lg)
def pb_X8_advance_8 (F : Nat)  (pb : Nat) (v0 : Nat)   (prec8 : (Nat → Nat → Int32) → (Nat → Nat → Int64) → Option ((Nat → Nat → Int32) × (Nat → Nat → Int64))) : (Nat → Nat → Int32) → (Nat → Nat → Int64) → Option ((Nat → Nat → Int32) × (Nat → Nat → Int64)) := fun  sg lg =>
  if (sg v0 1) ≤ (sg v0 3) then
  (pk_X8_advance_60 F  pb v0  sg lg)
  else (Option.bind (mI sg pb 600 (sg v0 3)) (fun (x18 : Int32) =>
  if x18 = (32 : Int32) then
  (pk_X8_advance_47 F  pb v0 prec8 sg lg)
  else (Option.bind (mI sg pb 600 (sg v0 3)) (fun (x20 : Int32) =>
  if x20 = (10 : Int32) then
  (pk_X8_advance_47 F  pb v0 prec8 sg lg)
  else (pk_X8_advance_60 F  pb v0  sg lg)))))
def p_X8_advance (F : Nat)  (pb : Nat) (v0 : Nat) (sg : Nat → Nat → Int32) (lg : Nat → Nat → Int64) : Option ((Nat → Nat → Int32) × (Nat → Nat → Int64)) :=
  gnm (up2 sg v0 3 (sg v0 4)) (fun (sg1 : Nat → Nat → Int32) =>
  fixN (fun _ _ => none) (pb_X8_advance_8 F  pb v0  ) F  sg1 lg)
set_option maxRecDepth 100000 in
set_option maxHeartbeats 4000000 in
theorem ec_X8_advance_157 {F : Nat} {K : HK} {pr : HP} {pt : Nat → Nat} {rr : HP} {n : Nat} {pb : Nat}  {v0 : Nat}  (hv0 : OkTokens K pr v0 pb)     {sg : Nat → Nat → Int32} {lg : Nat → Nat → Int64} : k_X8_advance_157 F   v0  n (hp K pr pt rr sg lg) = Option.map (fun z => (n, hp K pr pt rr z.1 z.2)) (pk_X8_advance_157 F  pb v0    sg lg) := by
  unfold k_X8_advance_157 pk_X8_advance_157
  refine c_gI (hv0).k0 rfl ?_
  refine c_pI (hv0).k0 rfl (fun sg5 => ?_)
  refine c_gR (hv0).k0 rfl (hv0).p0 ?_
  refine c_gI (hv0).k0 rfl ?_
  refine c_aI (hv0).kd (by decide) (fun x6 => ?_)
  refine q_ite ?_ ?_
  · refine c_pI (hv0).k0 rfl (fun sg10 => ?_)
    rfl
  · refine c_gR (hv0).k0 rfl (hv0).p0 ?_
    refine c_gI (hv0).k0 rfl ?_
    refine c_aI (hv0).kd (by decide) (fun x7 => ?_)
    refine q_ite ?_ ?_
    · refine c_pI (hv0).k0 rfl (fun sg9 => ?_)
      rfl
    · refine c_pI (hv0).k0 rfl (fun sg8 => ?_)
      rfl
set_option maxRecDepth 100000 in
set_option maxHeartbeats 4000000 in
theorem ec_X8_advance_122 {F : Nat} {K : HK} {pr : HP} {pt : Nat → Nat} {rr : HP} {n : Nat} {pb : Nat}  {v0 : Nat}  (hv0 : OkTokens K pr v0 pb)     {sg : Nat → Nat → Int32} {lg : Nat → Nat → Int64} : k_X8_advance_122 F   v0  n (hp K pr pt rr sg lg) = Option.map (fun z => (n, hp K pr pt rr z.1 z.2)) (pk_X8_advance_122 F  pb v0    sg lg) := by
  unfold k_X8_advance_122 pk_X8_advance_122
  refine c_gR (hv0).k0 rfl (hv0).p0 ?_
  refine c_gI (hv0).k0 rfl ?_
  refine c_aI (hv0).kd (by decide) (fun x4 => ?_)
  refine q_ite ?_ ?_
  · exact ec_X8_advance_157 hv0  
  · refine c_gR (hv0).k0 rfl (hv0).p0 ?_
    refine c_gI (hv0).k0 rfl ?_
    refine c_aI (hv0).kd (by decide) (fun x11 => ?_)
    refine q_ite ?_ ?_
    · exact ec_X8_advance_157 hv0  
    · refine c_cvU (hv0).k0 (e_X8_cutNumber (hv0)) (fun sg12 lg13 => ?_)
      rfl
set_option maxRecDepth 100000 in
set_option maxHeartbeats 4000000 in
theorem ec_X8_advance_60 {F : Nat} {K : HK} {pr : HP} {pt : Nat → Nat} {rr : HP} {n : Nat} {pb : Nat}  {v0 : Nat}  (hv0 : OkTokens K pr v0 pb)     {sg : Nat → Nat → Int32} {lg : Nat → Nat → Int64} : k_X8_advance_60 F   v0  n (hp K pr pt rr sg lg) = Option.map (fun z => (n, hp K pr pt rr z.1 z.2)) (pk_X8_advance_60 F  pb v0    sg lg) := by
  unfold k_X8_advance_60 pk_X8_advance_60
  refine c_gI (hv0).k0 rfl ?_
  refine c_pI (hv0).k0 rfl (fun sg2 => ?_)
  refine c_gI (hv0).k0 rfl ?_
  refine c_gI (hv0).k0 rfl ?_
  refine q_ite ?_ ?_
  · refine c_gR (hv0).k0 rfl (hv0).p0 ?_
    refine c_gI (hv0).k0 rfl ?_
    refine c_aI (hv0).kd (by decide) (fun x3 => ?_)
    refine q_ite ?_ ?_
    · exact ec_X8_advance_122 hv0  
    · refine c_gR (hv0).k0 rfl (hv0).p0 ?_
      refine c_gI (hv0).k0 rfl ?_
      refine c_aI (hv0).kd (by decide) (fun x14 => ?_)
      refine q_ite ?_ ?_
      · exact ec_X8_advance_122 hv0  
      · refine c_cvU (hv0).k0 (e_X8_cutWord (hv0)) (fun sg15 lg16 => ?_)
        rfl
  · refine c_pI (hv0).k0 rfl (fun sg17 => ?_)
    rfl
set_option maxRecDepth 100000 in
set_option maxHeartbeats 4000000 in
theorem ec_X8_advance_47 {F : Nat} {K : HK} {pr : HP} {pt : Nat → Nat} {rr : HP} {n : Nat} {pb : Nat}  {v0 : Nat} {rec8 : Nat → GH → Option (Nat × GH)} {prec8 : (Nat → Nat → Int32) → (Nat → Nat → Int64) → Option ((Nat → Nat → Int32) × (Nat → Nat → Int64))} (hv0 : OkTokens K pr v0 pb)  (hrec8 : ∀  (sg : Nat → Nat → Int32) (lg : Nat → Nat → Int64), rec8  n (hp K pr pt rr sg lg) = Option.map (fun z => (n, hp K pr pt rr z.1 z.2)) (prec8  sg lg))   {sg : Nat → Nat → Int32} {lg : Nat → Nat → Int64} : k_X8_advance_47 F  rec8 v0  n (hp K pr pt rr sg lg) = Option.map (fun z => (n, hp K pr pt rr z.1 z.2)) (pk_X8_advance_47 F  pb v0 prec8   sg lg) := by
  unfold k_X8_advance_47 pk_X8_advance_47
  refine c_gI (hv0).k0 rfl ?_
  refine c_pI (hv0).k0 rfl (fun sg19 => ?_)
  exact hrec8  _ _
set_option maxRecDepth 100000 in
set_option maxHeartbeats 4000000 in
theorem el_X8_advance_8 {F : Nat} {K : HK} {pr : HP} {pt : Nat → Nat} {rr : HP} {n : Nat} {pb : Nat}  {v0 : Nat}  (hv0 : OkTokens K pr v0 pb)    : ∀ (k : Nat)  (sg : Nat → Nat → Int32) (lg : Nat → Nat → Int64), fixN ((fun _ _ => none) : Nat → GH → Option (Nat × GH)) (b_X8_advance_8 F   v0) k  n (hp K pr pt rr sg lg) = Option.map (fun z => (n, hp K pr pt rr z.1 z.2)) (fixN ((fun _ _ => none) : (Nat → Nat → Int32) → (Nat → Nat → Int64) → Option ((Nat → Nat → Int32) × (Nat → Nat → Int64))) (pb_X8_advance_8 F  pb v0  ) k  sg lg) := by
  intro k
  refine fixN_ind2 (P := fun (r : Nat → GH → Option (Nat × GH)) (r1 : (Nat → Nat → Int32) → (Nat → Nat → Int64) → Option ((Nat → Nat → Int32) × (Nat → Nat → Int64))) => ∀  (sg : Nat → Nat → Int32) (lg : Nat → Nat → Int64), r  n (hp K pr pt rr sg lg) = Option.map (fun z => (n, hp K pr pt rr z.1 z.2)) (r1  sg lg)) ?_ ?_ k
  · intro  sg lg
    rfl
  · intro rec8 prec8 hrec8  sg lg
    unfold b_X8_advance_8 pb_X8_advance_8
    refine c_gI (hv0).k0 rfl ?_
    refine c_gI (hv0).k0 rfl ?_
    refine q_ite ?_ ?_
    · exact ec_X8_advance_60 hv0  
    · refine c_gR (hv0).k0 rfl (hv0).p0 ?_
      refine c_gI (hv0).k0 rfl ?_
      refine c_aI (hv0).kd (by decide) (fun x18 => ?_)
      refine q_ite ?_ ?_
      · exact ec_X8_advance_47 hv0  hrec8
      · refine c_gR (hv0).k0 rfl (hv0).p0 ?_
        refine c_gI (hv0).k0 rfl ?_
        refine c_aI (hv0).kd (by decide) (fun x20 => ?_)
        refine q_ite ?_ ?_
        · exact ec_X8_advance_47 hv0  hrec8
        · exact ec_X8_advance_60 hv0  
set_option maxRecDepth 100000 in
set_option maxHeartbeats 4000000 in
theorem e_X8_advance {F : Nat} {K : HK} {pr : HP} {pt : Nat → Nat} {rr : HP} {n : Nat} {pb : Nat}  {v0 : Nat} (hv0 : OkTokens K pr v0 pb)  {sg : Nat → Nat → Int32} {lg : Nat → Nat → Int64} : f_X8_advance F  v0 n (hp K pr pt rr sg lg) = Option.map (fun z => (n, hp K pr pt rr z.1 z.2)) (p_X8_advance F  pb v0 sg lg) := by
  unfold f_X8_advance p_X8_advance
  refine c_gI (hv0).k0 rfl ?_
  refine c_pI (hv0).k0 rfl (fun sg1 => ?_)
  exact el_X8_advance_8 hv0   _ _ _
/-! J0_coder_7d493 -/
def p_J0_coder_7d493 (F : Nat) (v0 : Nat) : Option (Int32) :=
  if (1 : Int32) = 0 then
  (rP .byte (1 : Int32))
  else (Option.bind (sC v0) (fun (x1 : Int32) =>
  rP .byte x1))
set_option maxRecDepth 100000 in
set_option maxHeartbeats 4000000 in
theorem e_J0_coder_7d493 {F : Nat} {G : GH} {v0 : Nat} : f_J0_coder_7d493 F v0 G = p_J0_coder_7d493 F v0 := by
  refine Eq.trans ?_ (q_mid _)
  unfold f_J0_coder_7d493 p_J0_coder_7d493
  refine q_ite ?_ ?_
  · exact q_id
  · refine q_bd rfl (fun x1 => ?_)
    exact q_id
/-! J0_length_8abf5 -/
def p_J0_length_8abf5 (F : Nat) (v0 : Nat) : Option (Int32) :=
  Option.bind (sV v0) (fun (x1 : Nat) =>
  Option.bind (sL x1) (fun (x2 : Int32) =>
  cvS v0 (p_J0_coder_7d493 F  v0) (fun (x3 : Int32) =>
  some (x2 >>> (x3 &&& 31)))))
set_option maxRecDepth 100000 in
set_option maxHeartbeats 4000000 in
theorem e_J0_length_8abf5 {F : Nat} {G : GH} {v0 : Nat} : f_J0_length_8abf5 F v0 G = p_J0_length_8abf5 F v0 := by
  refine Eq.trans ?_ (q_mid _)
  unfold f_J0_length_8abf5 p_J0_length_8abf5
  refine c_bdN rfl (fun x1 => ?_)
  refine q_bd rfl (fun x2 => ?_)
  refine c_cvS (e_J0_coder_7d493 ) (fun x3 => ?_)
  rfl
/-! J0_isLatin1_aae02 -/
def p_J0_isLatin1_aae02 (F : Nat) (v0 : Nat) : Option (Int32) :=
  if (1 : Int32) = 0 then
  (rP .boolean (0 : Int32))
  else (Option.bind (sC v0) (fun (x1 : Int32) =>
  if x1 = 0 then
  (rP .boolean (1 : Int32))
  else (rP .boolean (0 : Int32))))
set_option maxRecDepth 100000 in
set_option maxHeartbeats 4000000 in
theorem e_J0_isLatin1_aae02 {F : Nat} {G : GH} {v0 : Nat} : f_J0_isLatin1_aae02 F v0 G = p_J0_isLatin1_aae02 F v0 := by
  refine Eq.trans ?_ (q_mid _)
  unfold f_J0_isLatin1_aae02 p_J0_isLatin1_aae02
  refine q_ite ?_ ?_
  · exact q_id
  · refine q_bd rfl (fun x1 => ?_)
    refine q_ite ?_ ?_
    · exact q_id
    · exact q_id
/-! J3_checkIndex_8e157 -/
def p_J3_checkIndex_8e157 (F : Nat) (v0 : Int32) (v1 : Int32) : Option (Int32) :=
  if v0 < 0 then
  (none)
  else (if v0 < v1 then
  (some v0)
  else (none))
set_option maxRecDepth 100000 in
set_option maxHeartbeats 4000000 in
theorem e_J3_checkIndex_8e157 {F : Nat} {G : GH} {v0 : Int32} {v1 : Int32} : f_J3_checkIndex_8e157 F v0 v1 G = p_J3_checkIndex_8e157 F v0 v1 := by
  refine Eq.trans ?_ (q_mid _)
  unfold f_J3_checkIndex_8e157 p_J3_checkIndex_8e157
  refine q_ite ?_ ?_
  · rfl
  · refine q_ite ?_ ?_
    · rfl
    · rfl
/-! J0_checkIndex_df160 -/
def p_J0_checkIndex_df160 (F : Nat) (v0 : Int32) (v1 : Int32) : Option (Unit) :=
  Option.bind (p_J3_checkIndex_8e157 F  v0 v1) (fun (x1 : Int32) =>
  some ())
set_option maxRecDepth 100000 in
set_option maxHeartbeats 4000000 in
theorem e_J0_checkIndex_df160 {F : Nat} {G : GH} {v0 : Int32} {v1 : Int32} : f_J0_checkIndex_df160 F v0 v1 G = p_J0_checkIndex_df160 F v0 v1 := by
  refine Eq.trans ?_ (q_mid _)
  unfold f_J0_checkIndex_df160 p_J0_checkIndex_df160
  refine q_bd (e_J3_checkIndex_8e157 ) (fun x1 => ?_)
  rfl
/-! J1_charAt_3b067 -/
def p_J1_charAt_3b067 (F : Nat) (v0 : Nat) (v1 : Int32) : Option (Int32) :=
  Option.bind (sL v0) (fun (x1 : Int32) =>
  Option.bind (p_J0_checkIndex_df160 F  v1 x1) (fun (x2 : Unit) =>
  Option.bind (sB v0 v1) (fun (x3 : Int32) =>
  rP .char (UInt32.toInt32 ((Int32.toUInt32 (x3 &&& (255 : Int32))) % 65536)))))
set_option maxRecDepth 100000 in
set_option maxHeartbeats 4000000 in
theorem e_J1_charAt_3b067 {F : Nat} {G : GH} {v0 : Nat} {v1 : Int32} : f_J1_charAt_3b067 F v0 v1 G = p_J1_charAt_3b067 F v0 v1 := by
  refine Eq.trans ?_ (q_mid _)
  unfold f_J1_charAt_3b067 p_J1_charAt_3b067
  refine q_bd rfl (fun x1 => ?_)
  refine c_bdU (e_J0_checkIndex_df160 ) (fun x2 => ?_)
  refine q_bd rfl (fun x3 => ?_)
  exact q_id
/-! J0_charAt_5068e -/
def p_J0_charAt_5068e (F : Nat) (v0 : Nat) (v1 : Int32) : Option (Int32) :=
  cvS v0 (p_J0_isLatin1_aae02 F  v0) (fun (x1 : Int32) =>
  if x1 = 0 then
  (none)
  else (Option.bind (sV v0) (fun (x2 : Nat) =>
  Option.bind (p_J1_charAt_3b067 F  x2 v1) (fun (x3 : Int32) =>
  rP .char x3))))
set_option maxRecDepth 100000 in
set_option maxHeartbeats 4000000 in
theorem e_J0_charAt_5068e {F : Nat} {G : GH} {v0 : Nat} {v1 : Int32} : f_J0_charAt_5068e F v0 v1 G = p_J0_charAt_5068e F v0 v1 := by
  refine Eq.trans ?_ (q_mid _)
  unfold f_J0_charAt_5068e p_J0_charAt_5068e
  refine c_cvS (e_J0_isLatin1_aae02 ) (fun x1 => ?_)
  refine q_ite ?_ ?_
  · rfl
  · refine c_bdN rfl (fun x2 => ?_)
    refine q_bd (e_J1_charAt_3b067 ) (fun x3 => ?_)
    exact q_id
/-! X8_isWord -/
def pb_X8_isWord_28 (F : Nat)  (pb : Nat) (v0 : Nat)  (v1 : Nat) (sg : Nat → Nat → Int32) (lg : Nat → Nat → Int64) (prec28 : Int32 → Option (Int32)) : Int32 → Option (Int32) := fun v2 =>
  cvS v1 (p_J0_length_8abf5 F  v1) (fun (x2 : Int32) =>
  if x2 ≤ v2 then
  (rP .boolean (1 : Int32))
  else (Option.bind (mI sg pb 600 ((sg v0 3) + v2)) (fun (x3 : Int32) =>
  cvS v1 (p_J0_charAt_5068e F  v1 v2) (fun (x4 : Int32) =>
  if x3 = x4 then
  (prec28 (v2 + 1))
  else (rP .boolean (0 : Int32))))))
def p_X8_isWord (F : Nat)  (pb : Nat) (v0 : Nat) (v1 : Nat) (sg : Nat → Nat → Int32) (lg : Nat → Nat → Int64) : Option (Int32) :=
  if (sg v0 2) = (1 : Int32) then
  (cvS v1 (p_J0_length_8abf5 F  v1) (fun (x1 : Int32) =>
  if ((sg v0 4) - (sg v0 3)) = x1 then
  (fixN (fun _ => none) (pb_X8_isWord_28 F  pb v0  v1 sg lg) F (0 : Int32))
  else (rP .boolean (0 : Int32))))
  else (rP .boolean (0 : Int32))
set_option maxRecDepth 100000 in
set_option maxHeartbeats 4000000 in
theorem el_X8_isWord_28 {F : Nat} {K : HK} {pr : HP} {pt : Nat → Nat} {rr : HP} {pb : Nat}  {v0 : Nat}  (hv0 : OkTokens K pr v0 pb)   {v1 : Nat} {sg : Nat → Nat → Int32} {lg : Nat → Nat → Int64} : ∀ (k : Nat) (v2 : Int32), fixN ((fun _ => none) : Int32 → Option (Int32)) (b_X8_isWord_28 F   v0 v1 (hp K pr pt rr sg lg)) k v2 = Option.map (fun z => z) (fixN ((fun _ => none) : Int32 → Option (Int32)) (pb_X8_isWord_28 F  pb v0  v1 sg lg) k v2) := by
  intro k
  refine fixN_ind2 (P := fun (r : Int32 → Option (Int32)) (r1 : Int32 → Option (Int32)) => ∀ (v2 : Int32), r v2 = Option.map (fun z => z) (r1 v2)) ?_ ?_ k
  · intro v2
    rfl
  · intro rec28 prec28 hrec28 v2
    unfold b_X8_isWord_28 pb_X8_isWord_28
    refine c_cvS (e_J0_length_8abf5 ) (fun x2 => ?_)
    refine q_ite ?_ ?_
    · exact q_id
    · refine c_gR (hv0).k0 rfl (hv0).p0 ?_
      refine c_gI (hv0).k0 rfl ?_
      refine c_aI (hv0).kd (by decide) (fun x3 => ?_)
      refine c_cvS (e_J0_charAt_5068e ) (fun x4 => ?_)
      refine q_ite ?_ ?_
      · exact hrec28 _
      · exact q_id
set_option maxRecDepth 100000 in
set_option maxHeartbeats 4000000 in
theorem e_X8_isWord {F : Nat} {K : HK} {pr : HP} {pt : Nat → Nat} {rr : HP} {pb : Nat}  {v0 : Nat} {v1 : Nat} (hv0 : OkTokens K pr v0 pb)  {sg : Nat → Nat → Int32} {lg : Nat → Nat → Int64} : f_X8_isWord F  v0 v1 (hp K pr pt rr sg lg) = p_X8_isWord F  pb v0 v1 sg lg := by
  refine Eq.trans ?_ (q_mid _)
  unfold f_X8_isWord p_X8_isWord
  refine c_gI (hv0).k0 rfl ?_
  refine q_ite ?_ ?_
  · refine c_gI (hv0).k0 rfl ?_
    refine c_gI (hv0).k0 rfl ?_
    refine c_cvS (e_J0_length_8abf5 ) (fun x1 => ?_)
    refine q_ite ?_ ?_
    · exact el_X8_isWord_28 hv0   _ _
    · exact q_id
  · exact q_id
/-! X8_take -/
def p_X8_take (F : Nat)  (pb : Nat) (v0 : Nat) (v1 : Int32) (sg : Nat → Nat → Int32) (lg : Nat → Nat → Int64) : Option (Int32 × (Nat → Nat → Int32) × (Nat → Nat → Int64)) :=
  if (sg v0 2) = v1 then
  (hcU (p_X8_advance F pb v0 sg lg) (fun (sg1 : Nat → Nat → Int32) (lg2 : Nat → Nat → Int64) =>
  hN .boolean (1 : Int32) sg1 lg2))
  else (hN .boolean (0 : Int32) sg lg)
set_option maxRecDepth 100000 in
set_option maxHeartbeats 4000000 in
theorem e_X8_take {F : Nat} {K : HK} {pr : HP} {pt : Nat → Nat} {rr : HP} {n : Nat} {pb : Nat}  {v0 : Nat} {v1 : Int32} (hv0 : OkTokens K pr v0 pb)  {sg : Nat → Nat → Int32} {lg : Nat → Nat → Int64} : f_X8_take F  v0 v1 n (hp K pr pt rr sg lg) = Option.map (fun z => (z.1, n, hp K pr pt rr z.2.1 z.2.2)) (p_X8_take F  pb v0 v1 sg lg) := by
  unfold f_X8_take p_X8_take
  refine c_gI (hv0).k0 rfl ?_
  refine q_ite ?_ ?_
  · refine c_cvU (hv0).k0 (e_X8_advance (hv0)) (fun sg1 lg2 => ?_)
    exact c_rN
  · exact c_rN
/-! X8_takeWord -/
def p_X8_takeWord (F : Nat)  (pb : Nat) (v0 : Nat) (v1 : Nat) (sg : Nat → Nat → Int32) (lg : Nat → Nat → Int64) : Option (Int32 × (Nat → Nat → Int32) × (Nat → Nat → Int64)) :=
  Option.bind (p_X8_isWord F pb v0 v1 sg lg) (fun (x1 : Int32) =>
  if x1 = 0 then
  (hN .boolean (0 : Int32) sg lg)
  else (hcU (p_X8_advance F pb v0 sg lg) (fun (sg2 : Nat → Nat → Int32) (lg3 : Nat → Nat → Int64) =>
  hN .boolean (1 : Int32) sg2 lg3)))
set_option maxRecDepth 100000 in
set_option maxHeartbeats 4000000 in
theorem e_X8_takeWord {F : Nat} {K : HK} {pr : HP} {pt : Nat → Nat} {rr : HP} {n : Nat} {pb : Nat}  {v0 : Nat} {v1 : Nat} (hv0 : OkTokens K pr v0 pb)  {sg : Nat → Nat → Int32} {lg : Nat → Nat → Int64} : f_X8_takeWord F  v0 v1 n (hp K pr pt rr sg lg) = Option.map (fun z => (z.1, n, hp K pr pt rr z.2.1 z.2.2)) (p_X8_takeWord F  pb v0 v1 sg lg) := by
  unfold f_X8_takeWord p_X8_takeWord
  refine c_cvP (hv0).k0 (e_X8_isWord (hv0)) (fun x1 => ?_)
  refine q_ite ?_ ?_
  · exact c_rN
  · refine c_cvU (hv0).k0 (e_X8_advance (hv0)) (fun sg2 lg3 => ?_)
    exact c_rN
/-! X6_note -/
def pk_X6_note_31 (F : Nat)  (pb : Nat) (v0 : Nat)  (v1 : Int32) (v2 : Int32)  (sg : Nat → Nat → Int32) (lg : Nat → Nat → Int64) : Option ((Nat → Nat → Int32) × (Nat → Nat → Int64)) :=
  gnm (up2 sg v0 6 v1) (fun (sg1 : Nat → Nat → Int32) =>
  gnm (up2 sg1 v0 7 v2) (fun (sg2 : Nat → Nat → Int32) =>
  some (sg2, lg)))
def p_X6_note (F : Nat)  (pb : Nat) (v0 : Nat) (v1 : Int32) (v2 : Int32) (sg : Nat → Nat → Int32) (lg : Nat → Nat → Int64) : Option ((Nat → Nat → Int32) × (Nat → Nat → Int64)) :=
  if (sg v0 6) = 0 then
  (pk_X6_note_31 F  pb v0  v1 v2 sg lg)
  else (if v2 < (sg v0 7) then
  (pk_X6_note_31 F  pb v0  v1 v2 sg lg)
  else (if v2 = (sg v0 7) then
  (if (sg v0 6) ≤ v1 then
  (some (sg, lg))
  else (pk_X6_note_31 F  pb v0  v1 v2 sg lg))
  else (some (sg, lg))))
set_option maxRecDepth 100000 in
set_option maxHeartbeats 4000000 in
theorem ec_X6_note_31 {F : Nat} {K : HK} {pr : HP} {pt : Nat → Nat} {rr : HP} {n : Nat} {pb : Nat}  {v0 : Nat}  (hv0 : OkReader K pr v0 pb)   {v1 : Int32} {v2 : Int32}  {sg : Nat → Nat → Int32} {lg : Nat → Nat → Int64} : k_X6_note_31 F   v0 v1 v2  n (hp K pr pt rr sg lg) = Option.map (fun z => (n, hp K pr pt rr z.1 z.2)) (pk_X6_note_31 F  pb v0  v1 v2  sg lg) := by
  unfold k_X6_note_31 pk_X6_note_31
  refine c_pI (hv0).k0 rfl (fun sg1 => ?_)
  refine c_pI (hv0).k0 rfl (fun sg2 => ?_)
  rfl
set_option maxRecDepth 100000 in
set_option maxHeartbeats 4000000 in
theorem e_X6_note {F : Nat} {K : HK} {pr : HP} {pt : Nat → Nat} {rr : HP} {n : Nat} {pb : Nat}  {v0 : Nat} {v1 : Int32} {v2 : Int32} (hv0 : OkReader K pr v0 pb)  {sg : Nat → Nat → Int32} {lg : Nat → Nat → Int64} : f_X6_note F  v0 v1 v2 n (hp K pr pt rr sg lg) = Option.map (fun z => (n, hp K pr pt rr z.1 z.2)) (p_X6_note F  pb v0 v1 v2 sg lg) := by
  unfold f_X6_note p_X6_note
  refine c_gI (hv0).k0 rfl ?_
  refine q_ite ?_ ?_
  · exact ec_X6_note_31 hv0  
  · refine c_gI (hv0).k0 rfl ?_
    refine q_ite ?_ ?_
    · exact ec_X6_note_31 hv0  
    · refine c_gI (hv0).k0 rfl ?_
      refine q_ite ?_ ?_
      · refine c_gI (hv0).k0 rfl ?_
        refine q_ite ?_ ?_
        · rfl
        · exact ec_X6_note_31 hv0  
      · rfl
/-! X6_actOfToken -/
def p_X6_actOfToken (F : Nat)  (pb : Nat) (v0 : Nat) (sg : Nat → Nat → Int32) (lg : Nat → Nat → Int64) : Option (Int32) :=
  Option.bind (p_X8_isWord F pb (v0 + 11) (1) sg lg) (fun (x1 : Int32) =>
  if x1 = 0 then
  (Option.bind (p_X8_isWord F pb (v0 + 11) (2) sg lg) (fun (x2 : Int32) =>
  if x2 = 0 then
  (Option.bind (p_X8_isWord F pb (v0 + 11) (3) sg lg) (fun (x3 : Int32) =>
  if x3 = 0 then
  (Option.bind (p_X8_isWord F pb (v0 + 11) (4) sg lg) (fun (x4 : Int32) =>
  if x4 = 0 then
  (Option.bind (p_X8_isWord F pb (v0 + 11) (5) sg lg) (fun (x5 : Int32) =>
  if x5 = 0 then
  (Option.bind (p_X8_isWord F pb (v0 + 11) (6) sg lg) (fun (x6 : Int32) =>
  if x6 = 0 then
  (some (-1 : Int32))
  else (some (5 : Int32))))
  else (some (4 : Int32))))
  else (some (3 : Int32))))
  else (some (2 : Int32))))
  else (some (1 : Int32))))
  else (some (0 : Int32)))
set_option maxRecDepth 100000 in
set_option maxHeartbeats 4000000 in
theorem e_X6_actOfToken {F : Nat} {K : HK} {pr : HP} {pt : Nat → Nat} {rr : HP} {pb : Nat}  {v0 : Nat} (hv0 : OkReader K pr v0 pb)  {sg : Nat → Nat → Int32} {lg : Nat → Nat → Int64} : f_X6_actOfToken F  v0 (hp K pr pt rr sg lg) = p_X6_actOfToken F  pb v0 sg lg := by
  refine Eq.trans ?_ (q_mid _)
  unfold f_X6_actOfToken p_X6_actOfToken
  refine c_gR (hv0).k0 rfl (hv0).p0 ?_
  refine c_cvP ((hv0).o0).k0 (e_X8_isWord ((hv0).o0)) (fun x1 => ?_)
  refine q_ite ?_ ?_
  · refine c_gR (hv0).k0 rfl (hv0).p0 ?_
    refine c_cvP ((hv0).o0).k0 (e_X8_isWord ((hv0).o0)) (fun x2 => ?_)
    refine q_ite ?_ ?_
    · refine c_gR (hv0).k0 rfl (hv0).p0 ?_
      refine c_cvP ((hv0).o0).k0 (e_X8_isWord ((hv0).o0)) (fun x3 => ?_)
      refine q_ite ?_ ?_
      · refine c_gR (hv0).k0 rfl (hv0).p0 ?_
        refine c_cvP ((hv0).o0).k0 (e_X8_isWord ((hv0).o0)) (fun x4 => ?_)
        refine q_ite ?_ ?_
        · refine c_gR (hv0).k0 rfl (hv0).p0 ?_
          refine c_cvP ((hv0).o0).k0 (e_X8_isWord ((hv0).o0)) (fun x5 => ?_)
          refine q_ite ?_ ?_
          · refine c_gR (hv0).k0 rfl (hv0).p0 ?_
            refine c_cvP ((hv0).o0).k0 (e_X8_isWord ((hv0).o0)) (fun x6 => ?_)
            refine q_ite ?_ ?_
            · rfl
            · rfl
          · rfl
        · rfl
      · rfl
    · rfl
  · rfl
/-! X6_readAct -/
def p_X6_readAct (F : Nat)  (pb : Nat) (v0 : Nat) (sg : Nat → Nat → Int32) (lg : Nat → Nat → Int64) : Option (Int32 × (Nat → Nat → Int32) × (Nat → Nat → Int64)) :=
  Option.bind (p_X6_actOfToken F pb v0 sg lg) (fun (x1 : Int32) =>
  if x1 = (-1 : Int32) then
  (hN .boolean (0 : Int32) sg lg)
  else (Option.bind (mS sg (v0 + 1 + 1) 12 (sg v0 4) x1) (fun (sg2 : Nat → Nat → Int32) =>
  hcU (p_X8_advance F pb (v0 + 11) sg2 lg) (fun (sg3 : Nat → Nat → Int32) (lg4 : Nat → Nat → Int64) =>
  hN .boolean (1 : Int32) sg3 lg4))))
set_option maxRecDepth 100000 in
set_option maxHeartbeats 4000000 in
theorem e_X6_readAct {F : Nat} {K : HK} {pr : HP} {pt : Nat → Nat} {rr : HP} {n : Nat} {pb : Nat}  {v0 : Nat} (hv0 : OkReader K pr v0 pb)  {sg : Nat → Nat → Int32} {lg : Nat → Nat → Int64} : f_X6_readAct F  v0 n (hp K pr pt rr sg lg) = Option.map (fun z => (z.1, n, hp K pr pt rr z.2.1 z.2.2)) (p_X6_readAct F  pb v0 sg lg) := by
  unfold f_X6_readAct p_X6_readAct
  refine c_cvP (hv0).k0 (e_X6_actOfToken (hv0)) (fun x1 => ?_)
  refine q_ite ?_ ?_
  · exact c_rN
  · refine c_gR (hv0).k0 rfl (hv0).p1 ?_
    refine c_gR ((hv0).o1).k0 rfl ((hv0).o1).p1 ?_
    refine c_gI (hv0).k0 rfl ?_
    refine c_aS ((hv0).o1).k1 (by decide) (fun sg2 => ?_)
    refine c_gR (hv0).k0 rfl (hv0).p0 ?_
    refine c_cvU ((hv0).o0).k0 (e_X8_advance ((hv0).o0)) (fun sg3 lg4 => ?_)
    exact c_rN
/-! X6_readNumber -/
def p_X6_readNumber (F : Nat)  (pb : Nat) (v0 : Nat) (sg : Nat → Nat → Int32) (lg : Nat → Nat → Int64) : Option (Int32 × (Nat → Nat → Int32) × (Nat → Nat → Int64)) :=
  hcI (p_X8_take F pb (v0 + 11) (4 : Int32) sg lg) (fun (x3 : Int32) (sg1 : Nat → Nat → Int32) (lg2 : Nat → Nat → Int64) =>
  if (sg1 (v0 + 11) 2) = (2 : Int32) then
  (if x3 = 0 then
  (Option.bind (mS sg1 (v0 + 1 + 2) 12 (sg1 v0 4) (sg1 (v0 + 11) 5)) (fun (sg4 : Nat → Nat → Int32) =>
  hcU (p_X8_advance F pb (v0 + 11) sg4 lg2) (fun (sg5 : Nat → Nat → Int32) (lg6 : Nat → Nat → Int64) =>
  hN .boolean (1 : Int32) sg5 lg6)))
  else (Option.bind (mS sg1 (v0 + 1 + 2) 12 (sg1 v0 4) (-(sg1 (v0 + 11) 5))) (fun (sg7 : Nat → Nat → Int32) =>
  hcU (p_X8_advance F pb (v0 + 11) sg7 lg2) (fun (sg8 : Nat → Nat → Int32) (lg9 : Nat → Nat → Int64) =>
  hN .boolean (1 : Int32) sg8 lg9))))
  else (hN .boolean (0 : Int32) sg1 lg2))
set_option maxRecDepth 100000 in
set_option maxHeartbeats 4000000 in
theorem e_X6_readNumber {F : Nat} {K : HK} {pr : HP} {pt : Nat → Nat} {rr : HP} {n : Nat} {pb : Nat}  {v0 : Nat} (hv0 : OkReader K pr v0 pb)  {sg : Nat → Nat → Int32} {lg : Nat → Nat → Int64} : f_X6_readNumber F  v0 n (hp K pr pt rr sg lg) = Option.map (fun z => (z.1, n, hp K pr pt rr z.2.1 z.2.2)) (p_X6_readNumber F  pb v0 sg lg) := by
  unfold f_X6_readNumber p_X6_readNumber
  refine c_gR (hv0).k0 rfl (hv0).p0 ?_
  refine c_cvI ((hv0).o0).k0 (e_X8_take ((hv0).o0)) (fun x3 sg1 lg2 => ?_)
  refine c_gR (hv0).k0 rfl (hv0).p0 ?_
  refine c_gI ((hv0).o0).k0 rfl ?_
  refine q_ite ?_ ?_
  · refine c_gR (hv0).k0 rfl (hv0).p1 ?_
    refine c_gR ((hv0).o1).k0 rfl ((hv0).o1).p2 ?_
    refine c_gI (hv0).k0 rfl ?_
    refine q_ite ?_ ?_
    · refine c_gR (hv0).k0 rfl (hv0).p0 ?_
      refine c_gI ((hv0).o0).k0 rfl ?_
      refine c_aS ((hv0).o1).k2 (by decide) (fun sg4 => ?_)
      refine c_gR (hv0).k0 rfl (hv0).p0 ?_
      refine c_cvU ((hv0).o0).k0 (e_X8_advance ((hv0).o0)) (fun sg5 lg6 => ?_)
      exact c_rN
    · refine c_gR (hv0).k0 rfl (hv0).p0 ?_
      refine c_gI ((hv0).o0).k0 rfl ?_
      refine c_aS ((hv0).o1).k2 (by decide) (fun sg7 => ?_)
      refine c_gR (hv0).k0 rfl (hv0).p0 ?_
      refine c_cvU ((hv0).o0).k0 (e_X8_advance ((hv0).o0)) (fun sg8 lg9 => ?_)
      exact c_rN
  · exact c_rN
/-! X6_readSpan -/
def pk_X6_readSpan_49 (F : Nat)  (pb : Nat) (v0 : Nat)   (s0 : Int32) (sg : Nat → Nat → Int32) (lg : Nat → Nat → Int64) : Option (Int32 × (Nat → Nat → Int32) × (Nat → Nat → Int64)) :=
  if s0 = (-1 : Int32) then
  (hN .boolean (0 : Int32) sg lg)
  else (Option.bind (mS sg (v0 + 1 + 3) 12 (sg v0 4) s0) (fun (sg4 : Nat → Nat → Int32) =>
  hcU (p_X8_advance F pb (v0 + 11) sg4 lg) (fun (sg5 : Nat → Nat → Int32) (lg6 : Nat → Nat → Int64) =>
  hN .boolean (1 : Int32) sg5 lg6)))
def p_X6_readSpan (F : Nat)  (pb : Nat) (v0 : Nat) (sg : Nat → Nat → Int32) (lg : Nat → Nat → Int64) : Option (Int32 × (Nat → Nat → Int32) × (Nat → Nat → Int64)) :=
  Option.bind (p_X8_isWord F pb (v0 + 11) (12) sg lg) (fun (x1 : Int32) =>
  if x1 = 0 then
  (Option.bind (p_X8_isWord F pb (v0 + 11) (13) sg lg) (fun (x2 : Int32) =>
  if x2 = 0 then
  (Option.bind (p_X8_isWord F pb (v0 + 11) (14) sg lg) (fun (x3 : Int32) =>
  if x3 = 0 then
  (pk_X6_readSpan_49 F  pb v0  (-1 : Int32) sg lg)
  else (pk_X6_readSpan_49 F  pb v0  (2 : Int32) sg lg)))
  else (pk_X6_readSpan_49 F  pb v0  (1 : Int32) sg lg)))
  else (pk_X6_readSpan_49 F  pb v0  (0 : Int32) sg lg))
set_option maxRecDepth 100000 in
set_option maxHeartbeats 4000000 in
theorem ec_X6_readSpan_49 {F : Nat} {K : HK} {pr : HP} {pt : Nat → Nat} {rr : HP} {n : Nat} {pb : Nat}  {v0 : Nat}  (hv0 : OkReader K pr v0 pb)    {s0 : Int32} {sg : Nat → Nat → Int32} {lg : Nat → Nat → Int64} : k_X6_readSpan_49 F   v0 s0 n (hp K pr pt rr sg lg) = Option.map (fun z => (z.1, n, hp K pr pt rr z.2.1 z.2.2)) (pk_X6_readSpan_49 F  pb v0   s0 sg lg) := by
  unfold k_X6_readSpan_49 pk_X6_readSpan_49
  refine q_ite ?_ ?_
  · exact c_rN
  · refine c_gR (hv0).k0 rfl (hv0).p1 ?_
    refine c_gR ((hv0).o1).k0 rfl ((hv0).o1).p3 ?_
    refine c_gI (hv0).k0 rfl ?_
    refine c_aS ((hv0).o1).k3 (by decide) (fun sg4 => ?_)
    refine c_gR (hv0).k0 rfl (hv0).p0 ?_
    refine c_cvU ((hv0).o0).k0 (e_X8_advance ((hv0).o0)) (fun sg5 lg6 => ?_)
    exact c_rN
set_option maxRecDepth 100000 in
set_option maxHeartbeats 4000000 in
theorem e_X6_readSpan {F : Nat} {K : HK} {pr : HP} {pt : Nat → Nat} {rr : HP} {n : Nat} {pb : Nat}  {v0 : Nat} (hv0 : OkReader K pr v0 pb)  {sg : Nat → Nat → Int32} {lg : Nat → Nat → Int64} : f_X6_readSpan F  v0 n (hp K pr pt rr sg lg) = Option.map (fun z => (z.1, n, hp K pr pt rr z.2.1 z.2.2)) (p_X6_readSpan F  pb v0 sg lg) := by
  unfold f_X6_readSpan p_X6_readSpan
  refine c_gR (hv0).k0 rfl (hv0).p0 ?_
  refine c_cvP ((hv0).o0).k0 (e_X8_isWord ((hv0).o0)) (fun x1 => ?_)
  refine q_ite ?_ ?_
  · refine c_gR (hv0).k0 rfl (hv0).p0 ?_
    refine c_cvP ((hv0).o0).k0 (e_X8_isWord ((hv0).o0)) (fun x2 => ?_)
    refine q_ite ?_ ?_
    · refine c_gR (hv0).k0 rfl (hv0).p0 ?_
      refine c_cvP ((hv0).o0).k0 (e_X8_isWord ((hv0).o0)) (fun x3 => ?_)
      refine q_ite ?_ ?_
      · exact ec_X6_readSpan_49 hv0  
      · exact ec_X6_readSpan_49 hv0  
    · exact ec_X6_readSpan_49 hv0  
  · exact ec_X6_readSpan_49 hv0  
/-! X6_addNeed -/
def pk_X6_addNeed_92 (F : Nat)  (pb : Nat) (v0 : Nat)    (sg : Nat → Nat → Int32) (lg : Nat → Nat → Int64) : Option ((Nat → Nat → Int32) × (Nat → Nat → Int64)) :=
  gnm (up2 sg v0 5 ((sg v0 5) + (1 : Int32))) (fun (sg6 : Nat → Nat → Int32) =>
  some (sg6, lg))
def pk_X6_addNeed_56 (F : Nat)  (pb : Nat) (v0 : Nat)  (v1 : Int32) (v2 : Int32)  (sg : Nat → Nat → Int32) (lg : Nat → Nat → Int64) : Option ((Nat → Nat → Int32) × (Nat → Nat → Int64)) :=
  if (sg v0 5) < (4 : Int32) then
  (hcU (p_X3_addNeed F  (v0 + 1) (sg v0 4) v2 v1 sg lg) (fun (sg4 : Nat → Nat → Int32) (lg5 : Nat → Nat → Int64) =>
  pk_X6_addNeed_92 F  pb v0  sg4 lg5))
  else (hcU (p_X6_note F pb v0 (3 : Int32) (sg (v0 + 11) 3) sg lg) (fun (sg7 : Nat → Nat → Int32) (lg8 : Nat → Nat → Int64) =>
  pk_X6_addNeed_92 F  pb v0  sg7 lg8))
def pk_X6_addNeed_18 (F : Nat)  (pb : Nat) (v0 : Nat)  (v1 : Int32) (v2 : Int32)  (sg : Nat → Nat → Int32) (lg : Nat → Nat → Int64) : Option ((Nat → Nat → Int32) × (Nat → Nat → Int64)) :=
  hcU (p_X6_note F pb v0 (2 : Int32) (sg (v0 + 11) 3) sg lg) (fun (sg2 : Nat → Nat → Int32) (lg3 : Nat → Nat → Int64) =>
  pk_X6_addNeed_56 F  pb v0  v1 v2 sg2 lg3)
def p_X6_addNeed (F : Nat)  (pb : Nat) (v0 : Nat) (v1 : Int32) (sg : Nat → Nat → Int32) (lg : Nat → Nat → Int64) : Option ((Nat → Nat → Int32) × (Nat → Nat → Int64)) :=
  gnm (sg (v0 + 11) 5) (fun (y1 : Int32) =>
  if y1 < 0 then
  (pk_X6_addNeed_18 F  pb v0  v1 y1 sg lg)
  else (if y1 < (12 : Int32) then
  (Option.bind (mI sg (v0 + 10) 12 y1) (fun (x9 : Int32) =>
  if x9 = (-1 : Int32) then
  (Option.bind (mS sg (v0 + 10) 12 y1 (sg (v0 + 11) 3)) (fun (sg10 : Nat → Nat → Int32) =>
  pk_X6_addNeed_56 F  pb v0  v1 y1 sg10 lg))
  else (pk_X6_addNeed_56 F  pb v0  v1 y1 sg lg)))
  else (pk_X6_addNeed_18 F  pb v0  v1 y1 sg lg)))
set_option maxRecDepth 100000 in
set_option maxHeartbeats 4000000 in
theorem ec_X6_addNeed_92 {F : Nat} {K : HK} {pr : HP} {pt : Nat → Nat} {rr : HP} {n : Nat} {pb : Nat}  {v0 : Nat}  (hv0 : OkReader K pr v0 pb)     {sg : Nat → Nat → Int32} {lg : Nat → Nat → Int64} : k_X6_addNeed_92 F   v0  n (hp K pr pt rr sg lg) = Option.map (fun z => (n, hp K pr pt rr z.1 z.2)) (pk_X6_addNeed_92 F  pb v0    sg lg) := by
  unfold k_X6_addNeed_92 pk_X6_addNeed_92
  refine c_gI (hv0).k0 rfl ?_
  refine c_pI (hv0).k0 rfl (fun sg6 => ?_)
  rfl
set_option maxRecDepth 100000 in
set_option maxHeartbeats 4000000 in
theorem ec_X6_addNeed_56 {F : Nat} {K : HK} {pr : HP} {pt : Nat → Nat} {rr : HP} {n : Nat} {pb : Nat}  {v0 : Nat}  (hv0 : OkReader K pr v0 pb)   {v1 : Int32} {v2 : Int32}  {sg : Nat → Nat → Int32} {lg : Nat → Nat → Int64} : k_X6_addNeed_56 F   v0 v1 v2  n (hp K pr pt rr sg lg) = Option.map (fun z => (n, hp K pr pt rr z.1 z.2)) (pk_X6_addNeed_56 F  pb v0  v1 v2  sg lg) := by
  unfold k_X6_addNeed_56 pk_X6_addNeed_56
  refine c_gI (hv0).k0 rfl ?_
  refine q_ite ?_ ?_
  · refine c_gR (hv0).k0 rfl (hv0).p1 ?_
    refine c_gI (hv0).k0 rfl ?_
    refine c_cvU ((hv0).o1).k0 (e_X3_addNeed ((hv0).o1)) (fun sg4 lg5 => ?_)
    exact ec_X6_addNeed_92 hv0  
  · refine c_gR (hv0).k0 rfl (hv0).p0 ?_
    refine c_gI ((hv0).o0).k0 rfl ?_
    refine c_cvU (hv0).k0 (e_X6_note (hv0)) (fun sg7 lg8 => ?_)
    exact ec_X6_addNeed_92 hv0  
set_option maxRecDepth 100000 in
set_option maxHeartbeats 4000000 in
theorem ec_X6_addNeed_18 {F : Nat} {K : HK} {pr : HP} {pt : Nat → Nat} {rr : HP} {n : Nat} {pb : Nat}  {v0 : Nat}  (hv0 : OkReader K pr v0 pb)   {v1 : Int32} {v2 : Int32}  {sg : Nat → Nat → Int32} {lg : Nat → Nat → Int64} : k_X6_addNeed_18 F   v0 v1 v2  n (hp K pr pt rr sg lg) = Option.map (fun z => (n, hp K pr pt rr z.1 z.2)) (pk_X6_addNeed_18 F  pb v0  v1 v2  sg lg) := by
  unfold k_X6_addNeed_18 pk_X6_addNeed_18
  refine c_gR (hv0).k0 rfl (hv0).p0 ?_
  refine c_gI ((hv0).o0).k0 rfl ?_
  refine c_cvU (hv0).k0 (e_X6_note (hv0)) (fun sg2 lg3 => ?_)
  exact ec_X6_addNeed_56 hv0  
set_option maxRecDepth 100000 in
set_option maxHeartbeats 4000000 in
theorem e_X6_addNeed {F : Nat} {K : HK} {pr : HP} {pt : Nat → Nat} {rr : HP} {n : Nat} {pb : Nat}  {v0 : Nat} {v1 : Int32} (hv0 : OkReader K pr v0 pb)  {sg : Nat → Nat → Int32} {lg : Nat → Nat → Int64} : f_X6_addNeed F  v0 v1 n (hp K pr pt rr sg lg) = Option.map (fun z => (n, hp K pr pt rr z.1 z.2)) (p_X6_addNeed F  pb v0 v1 sg lg) := by
  unfold f_X6_addNeed p_X6_addNeed
  refine c_gR (hv0).k0 rfl (hv0).p0 ?_
  refine c_gI ((hv0).o0).k0 rfl ?_
  refine c_nr ?_
  refine q_ite ?_ ?_
  · exact ec_X6_addNeed_18 hv0  
  · refine q_ite ?_ ?_
    · refine c_gR (hv0).k0 rfl (hv0).p2 ?_
      refine c_aI (hv0).k10 (by decide) (fun x9 => ?_)
      refine q_ite ?_ ?_
      · refine c_gR (hv0).k0 rfl (hv0).p2 ?_
        refine c_gR (hv0).k0 rfl (hv0).p0 ?_
        refine c_gI ((hv0).o0).k0 rfl ?_
        refine c_aS (hv0).k10 (by decide) (fun sg10 => ?_)
        exact ec_X6_addNeed_56 hv0  
      · exact ec_X6_addNeed_56 hv0  
    · exact ec_X6_addNeed_18 hv0  
/-! X6_readNeeds -/
def pb_X6_readNeeds_15 (F : Nat)  (pb : Nat) (v0 : Nat)  (v1 : Int32) (prec15 : Int32 → (Nat → Nat → Int32) → (Nat → Nat → Int64) → Option (Int32 × (Nat → Nat → Int32) × (Nat → Nat → Int64))) : Int32 → (Nat → Nat → Int32) → (Nat → Nat → Int64) → Option (Int32 × (Nat → Nat → Int32) × (Nat → Nat → Int64)) := fun v2 sg lg =>
  if (600 : Int32) ≤ v2 then
  (hN .boolean (1 : Int32) sg lg)
  else (if (sg (v0 + 11) 2) = (2 : Int32) then
  (hcU (p_X6_addNeed F pb v0 v1 sg lg) (fun (sg1 : Nat → Nat → Int32) (lg2 : Nat → Nat → Int64) =>
  hcU (p_X8_advance F pb (v0 + 11) sg1 lg2) (fun (sg3 : Nat → Nat → Int32) (lg4 : Nat → Nat → Int64) =>
  prec15 (v2 + 1) sg3 lg4)))
  else (hN .boolean (1 : Int32) sg lg))
def p_X6_readNeeds (F : Nat)  (pb : Nat) (v0 : Nat) (v1 : Int32) (sg : Nat → Nat → Int32) (lg : Nat → Nat → Int64) : Option (Int32 × (Nat → Nat → Int32) × (Nat → Nat → Int64)) :=
  if (sg (v0 + 11) 2) = (2 : Int32) then
  (fixN (fun _ _ _ => none) (pb_X6_readNeeds_15 F  pb v0  v1) F (0 : Int32) sg lg)
  else (hN .boolean (0 : Int32) sg lg)
set_option maxRecDepth 100000 in
set_option maxHeartbeats 4000000 in
theorem el_X6_readNeeds_15 {F : Nat} {K : HK} {pr : HP} {pt : Nat → Nat} {rr : HP} {n : Nat} {pb : Nat}  {v0 : Nat}  (hv0 : OkReader K pr v0 pb)   {v1 : Int32} : ∀ (k : Nat) (v2 : Int32) (sg : Nat → Nat → Int32) (lg : Nat → Nat → Int64), fixN ((fun _ _ _ => none) : Int32 → Nat → GH → Option (Int32 × Nat × GH)) (b_X6_readNeeds_15 F   v0 v1) k v2 n (hp K pr pt rr sg lg) = Option.map (fun z => (z.1, n, hp K pr pt rr z.2.1 z.2.2)) (fixN ((fun _ _ _ => none) : Int32 → (Nat → Nat → Int32) → (Nat → Nat → Int64) → Option (Int32 × (Nat → Nat → Int32) × (Nat → Nat → Int64))) (pb_X6_readNeeds_15 F  pb v0  v1) k v2 sg lg) := by
  intro k
  refine fixN_ind2 (P := fun (r : Int32 → Nat → GH → Option (Int32 × Nat × GH)) (r1 : Int32 → (Nat → Nat → Int32) → (Nat → Nat → Int64) → Option (Int32 × (Nat → Nat → Int32) × (Nat → Nat → Int64))) => ∀ (v2 : Int32) (sg : Nat → Nat → Int32) (lg : Nat → Nat → Int64), r v2 n (hp K pr pt rr sg lg) = Option.map (fun z => (z.1, n, hp K pr pt rr z.2.1 z.2.2)) (r1 v2 sg lg)) ?_ ?_ k
  · intro v2 sg lg
    rfl
  · intro rec15 prec15 hrec15 v2 sg lg
    unfold b_X6_readNeeds_15 pb_X6_readNeeds_15
    refine q_ite ?_ ?_
    · exact c_rN
    · refine c_gR (hv0).k0 rfl (hv0).p0 ?_
      refine c_gI ((hv0).o0).k0 rfl ?_
      refine q_ite ?_ ?_
      · refine c_cvU (hv0).k0 (e_X6_addNeed (hv0)) (fun sg1 lg2 => ?_)
        refine c_gR (hv0).k0 rfl (hv0).p0 ?_
        refine c_cvU ((hv0).o0).k0 (e_X8_advance ((hv0).o0)) (fun sg3 lg4 => ?_)
        exact hrec15 _ _ _
      · exact c_rN
set_option maxRecDepth 100000 in
set_option maxHeartbeats 4000000 in
theorem e_X6_readNeeds {F : Nat} {K : HK} {pr : HP} {pt : Nat → Nat} {rr : HP} {n : Nat} {pb : Nat}  {v0 : Nat} {v1 : Int32} (hv0 : OkReader K pr v0 pb)  {sg : Nat → Nat → Int32} {lg : Nat → Nat → Int64} : f_X6_readNeeds F  v0 v1 n (hp K pr pt rr sg lg) = Option.map (fun z => (z.1, n, hp K pr pt rr z.2.1 z.2.2)) (p_X6_readNeeds F  pb v0 v1 sg lg) := by
  unfold f_X6_readNeeds p_X6_readNeeds
  refine c_gR (hv0).k0 rfl (hv0).p0 ?_
  refine c_gI ((hv0).o0).k0 rfl ?_
  refine q_ite ?_ ?_
  · exact el_X6_readNeeds_15 hv0   _ _ _ _
  · exact c_rN
/-! X6_readBreaks -/
def pk_X6_readBreaks_37 (F : Nat)  (pb : Nat) (v0 : Nat)    (sg : Nat → Nat → Int32) (lg : Nat → Nat → Int64) : Option (Int32 × (Nat → Nat → Int32) × (Nat → Nat → Int64)) :=
  Option.bind (mS sg (v0 + 1 + 4) 12 (sg v0 4) (sg (v0 + 11) 5)) (fun (sg1 : Nat → Nat → Int32) =>
  hcU (p_X8_advance F pb (v0 + 11) sg1 lg) (fun (sg2 : Nat → Nat → Int32) (lg3 : Nat → Nat → Int64) =>
  hN .boolean (1 : Int32) sg2 lg3))
def p_X6_readBreaks (F : Nat)  (pb : Nat) (v0 : Nat) (sg : Nat → Nat → Int32) (lg : Nat → Nat → Int64) : Option (Int32 × (Nat → Nat → Int32) × (Nat → Nat → Int64)) :=
  if (sg (v0 + 11) 2) = (2 : Int32) then
  (if (sg (v0 + 11) 5) ≤ (9 : Int32) then
  (pk_X6_readBreaks_37 F  pb v0  sg lg)
  else (hcU (p_X6_note F pb v0 (2 : Int32) (sg (v0 + 11) 3) sg lg) (fun (sg4 : Nat → Nat → Int32) (lg5 : Nat → Nat → Int64) =>
  pk_X6_readBreaks_37 F  pb v0  sg4 lg5)))
  else (hN .boolean (0 : Int32) sg lg)
set_option maxRecDepth 100000 in
set_option maxHeartbeats 4000000 in
theorem ec_X6_readBreaks_37 {F : Nat} {K : HK} {pr : HP} {pt : Nat → Nat} {rr : HP} {n : Nat} {pb : Nat}  {v0 : Nat}  (hv0 : OkReader K pr v0 pb)     {sg : Nat → Nat → Int32} {lg : Nat → Nat → Int64} : k_X6_readBreaks_37 F   v0  n (hp K pr pt rr sg lg) = Option.map (fun z => (z.1, n, hp K pr pt rr z.2.1 z.2.2)) (pk_X6_readBreaks_37 F  pb v0    sg lg) := by
  unfold k_X6_readBreaks_37 pk_X6_readBreaks_37
  refine c_gR (hv0).k0 rfl (hv0).p1 ?_
  refine c_gR ((hv0).o1).k0 rfl ((hv0).o1).p4 ?_
  refine c_gI (hv0).k0 rfl ?_
  refine c_gR (hv0).k0 rfl (hv0).p0 ?_
  refine c_gI ((hv0).o0).k0 rfl ?_
  refine c_aS ((hv0).o1).k4 (by decide) (fun sg1 => ?_)
  refine c_gR (hv0).k0 rfl (hv0).p0 ?_
  refine c_cvU ((hv0).o0).k0 (e_X8_advance ((hv0).o0)) (fun sg2 lg3 => ?_)
  exact c_rN
set_option maxRecDepth 100000 in
set_option maxHeartbeats 4000000 in
theorem e_X6_readBreaks {F : Nat} {K : HK} {pr : HP} {pt : Nat → Nat} {rr : HP} {n : Nat} {pb : Nat}  {v0 : Nat} (hv0 : OkReader K pr v0 pb)  {sg : Nat → Nat → Int32} {lg : Nat → Nat → Int64} : f_X6_readBreaks F  v0 n (hp K pr pt rr sg lg) = Option.map (fun z => (z.1, n, hp K pr pt rr z.2.1 z.2.2)) (p_X6_readBreaks F  pb v0 sg lg) := by
  unfold f_X6_readBreaks p_X6_readBreaks
  refine c_gR (hv0).k0 rfl (hv0).p0 ?_
  refine c_gI ((hv0).o0).k0 rfl ?_
  refine q_ite ?_ ?_
  · refine c_gR (hv0).k0 rfl (hv0).p0 ?_
    refine c_gI ((hv0).o0).k0 rfl ?_
    refine q_ite ?_ ?_
    · exact ec_X6_readBreaks_37 hv0  
    · refine c_gR (hv0).k0 rfl (hv0).p0 ?_
      refine c_gI ((hv0).o0).k0 rfl ?_
      refine c_cvU (hv0).k0 (e_X6_note (hv0)) (fun sg4 lg5 => ?_)
      exact ec_X6_readBreaks_37 hv0  
  · exact c_rN
/-! X6_readClause -/
def p_X6_readClause (F : Nat)  (pb : Nat) (v0 : Nat) (sg : Nat → Nat → Int32) (lg : Nat → Nat → Int64) : Option (Int32 × (Nat → Nat → Int32) × (Nat → Nat → Int64)) :=
  hcI (p_X8_takeWord F pb (v0 + 11) (7) sg lg) (fun (x3 : Int32) (sg1 : Nat → Nat → Int32) (lg2 : Nat → Nat → Int64) =>
  if x3 = 0 then
  (hcI (p_X8_takeWord F pb (v0 + 11) (8) sg1 lg2) (fun (x6 : Int32) (sg4 : Nat → Nat → Int32) (lg5 : Nat → Nat → Int64) =>
  if x6 = 0 then
  (hcI (p_X8_takeWord F pb (v0 + 11) (9) sg4 lg5) (fun (x9 : Int32) (sg7 : Nat → Nat → Int32) (lg8 : Nat → Nat → Int64) =>
  if x9 = 0 then
  (hcI (p_X8_takeWord F pb (v0 + 11) (10) sg7 lg8) (fun (x12 : Int32) (sg10 : Nat → Nat → Int32) (lg11 : Nat → Nat → Int64) =>
  if x12 = 0 then
  (hcI (p_X8_takeWord F pb (v0 + 11) (11) sg10 lg11) (fun (x15 : Int32) (sg13 : Nat → Nat → Int32) (lg14 : Nat → Nat → Int64) =>
  if x15 = 0 then
  (hN .boolean (0 : Int32) sg13 lg14)
  else (Option.bind (mS sg13 (v0 + 1 + 5) 12 (sg13 v0 4) (vp_nar .boolean (1 : Int32))) (fun (sg16 : Nat → Nat → Int32) =>
  hN .boolean (1 : Int32) sg16 lg14))))
  else (hcI (p_X6_readBreaks F pb v0 sg10 lg11) (fun (x19 : Int32) (sg17 : Nat → Nat → Int32) (lg18 : Nat → Nat → Int64) =>
  hN .boolean x19 sg17 lg18))))
  else (hcI (p_X6_readNeeds F pb v0 (1 : Int32) sg7 lg8) (fun (x22 : Int32) (sg20 : Nat → Nat → Int32) (lg21 : Nat → Nat → Int64) =>
  hN .boolean x22 sg20 lg21))))
  else (hcI (p_X6_readNeeds F pb v0 (0 : Int32) sg4 lg5) (fun (x25 : Int32) (sg23 : Nat → Nat → Int32) (lg24 : Nat → Nat → Int64) =>
  hN .boolean x25 sg23 lg24))))
  else (hcI (p_X6_readSpan F pb v0 sg1 lg2) (fun (x28 : Int32) (sg26 : Nat → Nat → Int32) (lg27 : Nat → Nat → Int64) =>
  hN .boolean x28 sg26 lg27)))
set_option maxRecDepth 100000 in
set_option maxHeartbeats 4000000 in
theorem e_X6_readClause {F : Nat} {K : HK} {pr : HP} {pt : Nat → Nat} {rr : HP} {n : Nat} {pb : Nat}  {v0 : Nat} (hv0 : OkReader K pr v0 pb)  {sg : Nat → Nat → Int32} {lg : Nat → Nat → Int64} : f_X6_readClause F  v0 n (hp K pr pt rr sg lg) = Option.map (fun z => (z.1, n, hp K pr pt rr z.2.1 z.2.2)) (p_X6_readClause F  pb v0 sg lg) := by
  unfold f_X6_readClause p_X6_readClause
  refine c_gR (hv0).k0 rfl (hv0).p0 ?_
  refine c_cvI ((hv0).o0).k0 (e_X8_takeWord ((hv0).o0)) (fun x3 sg1 lg2 => ?_)
  refine q_ite ?_ ?_
  · refine c_gR (hv0).k0 rfl (hv0).p0 ?_
    refine c_cvI ((hv0).o0).k0 (e_X8_takeWord ((hv0).o0)) (fun x6 sg4 lg5 => ?_)
    refine q_ite ?_ ?_
    · refine c_gR (hv0).k0 rfl (hv0).p0 ?_
      refine c_cvI ((hv0).o0).k0 (e_X8_takeWord ((hv0).o0)) (fun x9 sg7 lg8 => ?_)
      refine q_ite ?_ ?_
      · refine c_gR (hv0).k0 rfl (hv0).p0 ?_
        refine c_cvI ((hv0).o0).k0 (e_X8_takeWord ((hv0).o0)) (fun x12 sg10 lg11 => ?_)
        refine q_ite ?_ ?_
        · refine c_gR (hv0).k0 rfl (hv0).p0 ?_
          refine c_cvI ((hv0).o0).k0 (e_X8_takeWord ((hv0).o0)) (fun x15 sg13 lg14 => ?_)
          refine q_ite ?_ ?_
          · exact c_rN
          · refine c_gR (hv0).k0 rfl (hv0).p1 ?_
            refine c_gR ((hv0).o1).k0 rfl ((hv0).o1).p5 ?_
            refine c_gI (hv0).k0 rfl ?_
            refine c_aS ((hv0).o1).k5 (by decide) (fun sg16 => ?_)
            exact c_rN
        · refine c_cvI (hv0).k0 (e_X6_readBreaks (hv0)) (fun x19 sg17 lg18 => ?_)
          exact c_rN
      · refine c_cvI (hv0).k0 (e_X6_readNeeds (hv0)) (fun x22 sg20 lg21 => ?_)
        exact c_rN
    · refine c_cvI (hv0).k0 (e_X6_readNeeds (hv0)) (fun x25 sg23 lg24 => ?_)
      exact c_rN
  · refine c_cvI (hv0).k0 (e_X6_readSpan (hv0)) (fun x28 sg26 lg27 => ?_)
    exact c_rN
/-! X6_readPart -/
def pb_X6_readPart_83 (F : Nat)  (pb : Nat) (v0 : Nat)   (prec83 : Int32 → (Nat → Nat → Int32) → (Nat → Nat → Int64) → Option (Int32 × (Nat → Nat → Int32) × (Nat → Nat → Int64))) : Int32 → (Nat → Nat → Int32) → (Nat → Nat → Int64) → Option (Int32 × (Nat → Nat → Int32) × (Nat → Nat → Int64)) := fun v2 sg lg =>
  if (600 : Int32) ≤ v2 then
  (hN .boolean (0 : Int32) sg lg)
  else (hcI (p_X8_take F pb (v0 + 11) (3 : Int32) sg lg) (fun (x16 : Int32) (sg14 : Nat → Nat → Int32) (lg15 : Nat → Nat → Int64) =>
  if x16 = 0 then
  (hcI (p_X6_readClause F pb v0 sg14 lg15) (fun (x19 : Int32) (sg17 : Nat → Nat → Int32) (lg18 : Nat → Nat → Int64) =>
  if x19 = 0 then
  (hN .boolean (0 : Int32) sg17 lg18)
  else (prec83 (v2 + 1) sg17 lg18)))
  else (hN .boolean (1 : Int32) sg14 lg15)))
def pk_X6_readPart_37 (F : Nat)  (pb : Nat) (v0 : Nat)    (sg : Nat → Nat → Int32) (lg : Nat → Nat → Int64) : Option (Int32 × (Nat → Nat → Int32) × (Nat → Nat → Int64)) :=
  gnm (up2 sg v0 4 (if (11 : Int32) < (sg v0 3) then (11 : Int32) else (sg v0 3))) (fun (sg5 : Nat → Nat → Int32) =>
  gnm (up2 sg5 v0 3 ((sg5 v0 3) + (1 : Int32))) (fun (sg6 : Nat → Nat → Int32) =>
  gnm (up2 sg6 v0 5 (0 : Int32)) (fun (sg7 : Nat → Nat → Int32) =>
  hcI (p_X6_readAct F pb v0 sg7 lg) (fun (x10 : Int32) (sg8 : Nat → Nat → Int32) (lg9 : Nat → Nat → Int64) =>
  if x10 = 0 then
  (hN .boolean (0 : Int32) sg8 lg9)
  else (hcI (p_X6_readNumber F pb v0 sg8 lg9) (fun (x13 : Int32) (sg11 : Nat → Nat → Int32) (lg12 : Nat → Nat → Int64) =>
  if x13 = 0 then
  (hN .boolean (0 : Int32) sg11 lg12)
  else (fixN (fun _ _ _ => none) (pb_X6_readPart_83 F  pb v0  ) F (0 : Int32) sg11 lg12)))))))
def p_X6_readPart (F : Nat)  (pb : Nat) (v0 : Nat) (sg : Nat → Nat → Int32) (lg : Nat → Nat → Int64) : Option (Int32 × (Nat → Nat → Int32) × (Nat → Nat → Int64)) :=
  gnm (sg (v0 + 11) 3) (fun (y1 : Int32) =>
  hcI (p_X8_takeWord F pb (v0 + 11) (0) sg lg) (fun (x4 : Int32) (sg2 : Nat → Nat → Int32) (lg3 : Nat → Nat → Int64) =>
  if x4 = 0 then
  (hN .boolean (0 : Int32) sg2 lg3)
  else (if (sg2 v0 3) < (12 : Int32) then
  (pk_X6_readPart_37 F  pb v0  sg2 lg3)
  else (hcU (p_X6_note F pb v0 (4 : Int32) y1 sg2 lg3) (fun (sg20 : Nat → Nat → Int32) (lg21 : Nat → Nat → Int64) =>
  pk_X6_readPart_37 F  pb v0  sg20 lg21)))))
set_option maxRecDepth 100000 in
set_option maxHeartbeats 4000000 in
theorem el_X6_readPart_83 {F : Nat} {K : HK} {pr : HP} {pt : Nat → Nat} {rr : HP} {n : Nat} {pb : Nat}  {v0 : Nat}  (hv0 : OkReader K pr v0 pb)    : ∀ (k : Nat) (v2 : Int32) (sg : Nat → Nat → Int32) (lg : Nat → Nat → Int64), fixN ((fun _ _ _ => none) : Int32 → Nat → GH → Option (Int32 × Nat × GH)) (b_X6_readPart_83 F   v0) k v2 n (hp K pr pt rr sg lg) = Option.map (fun z => (z.1, n, hp K pr pt rr z.2.1 z.2.2)) (fixN ((fun _ _ _ => none) : Int32 → (Nat → Nat → Int32) → (Nat → Nat → Int64) → Option (Int32 × (Nat → Nat → Int32) × (Nat → Nat → Int64))) (pb_X6_readPart_83 F  pb v0  ) k v2 sg lg) := by
  intro k
  refine fixN_ind2 (P := fun (r : Int32 → Nat → GH → Option (Int32 × Nat × GH)) (r1 : Int32 → (Nat → Nat → Int32) → (Nat → Nat → Int64) → Option (Int32 × (Nat → Nat → Int32) × (Nat → Nat → Int64))) => ∀ (v2 : Int32) (sg : Nat → Nat → Int32) (lg : Nat → Nat → Int64), r v2 n (hp K pr pt rr sg lg) = Option.map (fun z => (z.1, n, hp K pr pt rr z.2.1 z.2.2)) (r1 v2 sg lg)) ?_ ?_ k
  · intro v2 sg lg
    rfl
  · intro rec83 prec83 hrec83 v2 sg lg
    unfold b_X6_readPart_83 pb_X6_readPart_83
    refine q_ite ?_ ?_
    · exact c_rN
    · refine c_gR (hv0).k0 rfl (hv0).p0 ?_
      refine c_cvI ((hv0).o0).k0 (e_X8_take ((hv0).o0)) (fun x16 sg14 lg15 => ?_)
      refine q_ite ?_ ?_
      · refine c_cvI (hv0).k0 (e_X6_readClause (hv0)) (fun x19 sg17 lg18 => ?_)
        refine q_ite ?_ ?_
        · exact c_rN
        · exact hrec83 _ _ _
      · exact c_rN
set_option maxRecDepth 100000 in
set_option maxHeartbeats 4000000 in
theorem ec_X6_readPart_37 {F : Nat} {K : HK} {pr : HP} {pt : Nat → Nat} {rr : HP} {n : Nat} {pb : Nat}  {v0 : Nat}  (hv0 : OkReader K pr v0 pb)     {sg : Nat → Nat → Int32} {lg : Nat → Nat → Int64} : k_X6_readPart_37 F   v0  n (hp K pr pt rr sg lg) = Option.map (fun z => (z.1, n, hp K pr pt rr z.2.1 z.2.2)) (pk_X6_readPart_37 F  pb v0    sg lg) := by
  unfold k_X6_readPart_37 pk_X6_readPart_37
  refine c_gI (hv0).k0 rfl ?_
  refine c_pI (hv0).k0 rfl (fun sg5 => ?_)
  refine c_gI (hv0).k0 rfl ?_
  refine c_pI (hv0).k0 rfl (fun sg6 => ?_)
  refine c_pI (hv0).k0 rfl (fun sg7 => ?_)
  refine c_cvI (hv0).k0 (e_X6_readAct (hv0)) (fun x10 sg8 lg9 => ?_)
  refine q_ite ?_ ?_
  · exact c_rN
  · refine c_cvI (hv0).k0 (e_X6_readNumber (hv0)) (fun x13 sg11 lg12 => ?_)
    refine q_ite ?_ ?_
    · exact c_rN
    · exact el_X6_readPart_83 hv0   _ _ _ _
set_option maxRecDepth 100000 in
set_option maxHeartbeats 4000000 in
theorem e_X6_readPart {F : Nat} {K : HK} {pr : HP} {pt : Nat → Nat} {rr : HP} {n : Nat} {pb : Nat}  {v0 : Nat} (hv0 : OkReader K pr v0 pb)  {sg : Nat → Nat → Int32} {lg : Nat → Nat → Int64} : f_X6_readPart F  v0 n (hp K pr pt rr sg lg) = Option.map (fun z => (z.1, n, hp K pr pt rr z.2.1 z.2.2)) (p_X6_readPart F  pb v0 sg lg) := by
  unfold f_X6_readPart p_X6_readPart
  refine c_gR (hv0).k0 rfl (hv0).p0 ?_
  refine c_gI ((hv0).o0).k0 rfl ?_
  refine c_nr ?_
  refine c_gR (hv0).k0 rfl (hv0).p0 ?_
  refine c_cvI ((hv0).o0).k0 (e_X8_takeWord ((hv0).o0)) (fun x4 sg2 lg3 => ?_)
  refine q_ite ?_ ?_
  · exact c_rN
  · refine c_gI (hv0).k0 rfl ?_
    refine q_ite ?_ ?_
    · exact ec_X6_readPart_37 hv0  
    · refine c_cvU (hv0).k0 (e_X6_note (hv0)) (fun sg20 lg21 => ?_)
      exact ec_X6_readPart_37 hv0  
/-! X6_noteStrangeNeeds -/
def pb_X6_noteStrangeNeeds_5 (F : Nat)  (pb : Nat) (v0 : Nat)   (prec5 : Int32 → (Nat → Nat → Int32) → (Nat → Nat → Int64) → Option ((Nat → Nat → Int32) × (Nat → Nat → Int64))) : Int32 → (Nat → Nat → Int32) → (Nat → Nat → Int64) → Option ((Nat → Nat → Int32) × (Nat → Nat → Int64)) := fun v1 sg lg =>
  if (12 : Int32) ≤ v1 then
  (some (sg, lg))
  else (Option.bind (mI sg (v0 + 10) 12 v1) (fun (x2 : Int32) =>
  if x2 = (-1 : Int32) then
  (prec5 (v1 + 1) sg lg)
  else (Option.bind (mI sg (v0 + 10) 12 v1) (fun (x3 : Int32) =>
  hcU (p_X6_note F pb v0 (5 : Int32) x3 sg lg) (fun (sg4 : Nat → Nat → Int32) (lg5 : Nat → Nat → Int64) =>
  prec5 (v1 + 1) sg4 lg5)))))
def p_X6_noteStrangeNeeds (F : Nat)  (pb : Nat) (v0 : Nat) (sg : Nat → Nat → Int32) (lg : Nat → Nat → Int64) : Option ((Nat → Nat → Int32) × (Nat → Nat → Int64)) :=
  gnm (sg v0 3) (fun (y1 : Int32) =>
  fixN (fun _ _ _ => none) (pb_X6_noteStrangeNeeds_5 F  pb v0  ) F y1 sg lg)
set_option maxRecDepth 100000 in
set_option maxHeartbeats 4000000 in
theorem el_X6_noteStrangeNeeds_5 {F : Nat} {K : HK} {pr : HP} {pt : Nat → Nat} {rr : HP} {n : Nat} {pb : Nat}  {v0 : Nat}  (hv0 : OkReader K pr v0 pb)    : ∀ (k : Nat) (v1 : Int32) (sg : Nat → Nat → Int32) (lg : Nat → Nat → Int64), fixN ((fun _ _ _ => none) : Int32 → Nat → GH → Option (Nat × GH)) (b_X6_noteStrangeNeeds_5 F   v0) k v1 n (hp K pr pt rr sg lg) = Option.map (fun z => (n, hp K pr pt rr z.1 z.2)) (fixN ((fun _ _ _ => none) : Int32 → (Nat → Nat → Int32) → (Nat → Nat → Int64) → Option ((Nat → Nat → Int32) × (Nat → Nat → Int64))) (pb_X6_noteStrangeNeeds_5 F  pb v0  ) k v1 sg lg) := by
  intro k
  refine fixN_ind2 (P := fun (r : Int32 → Nat → GH → Option (Nat × GH)) (r1 : Int32 → (Nat → Nat → Int32) → (Nat → Nat → Int64) → Option ((Nat → Nat → Int32) × (Nat → Nat → Int64))) => ∀ (v1 : Int32) (sg : Nat → Nat → Int32) (lg : Nat → Nat → Int64), r v1 n (hp K pr pt rr sg lg) = Option.map (fun z => (n, hp K pr pt rr z.1 z.2)) (r1 v1 sg lg)) ?_ ?_ k
  · intro v1 sg lg
    rfl
  · intro rec5 prec5 hrec5 v1 sg lg
    unfold b_X6_noteStrangeNeeds_5 pb_X6_noteStrangeNeeds_5
    refine q_ite ?_ ?_
    · rfl
    · refine c_gR (hv0).k0 rfl (hv0).p2 ?_
      refine c_aI (hv0).k10 (by decide) (fun x2 => ?_)
      refine q_ite ?_ ?_
      · exact hrec5 _ _ _
      · refine c_gR (hv0).k0 rfl (hv0).p2 ?_
        refine c_aI (hv0).k10 (by decide) (fun x3 => ?_)
        refine c_cvU (hv0).k0 (e_X6_note (hv0)) (fun sg4 lg5 => ?_)
        exact hrec5 _ _ _
set_option maxRecDepth 100000 in
set_option maxHeartbeats 4000000 in
theorem e_X6_noteStrangeNeeds {F : Nat} {K : HK} {pr : HP} {pt : Nat → Nat} {rr : HP} {n : Nat} {pb : Nat}  {v0 : Nat} (hv0 : OkReader K pr v0 pb)  {sg : Nat → Nat → Int32} {lg : Nat → Nat → Int64} : f_X6_noteStrangeNeeds F  v0 n (hp K pr pt rr sg lg) = Option.map (fun z => (n, hp K pr pt rr z.1 z.2)) (p_X6_noteStrangeNeeds F  pb v0 sg lg) := by
  unfold f_X6_noteStrangeNeeds p_X6_noteStrangeNeeds
  refine c_gI (hv0).k0 rfl ?_
  refine c_nr ?_
  exact el_X6_noteStrangeNeeds_5 hv0   _ _ _ _
/-! X6_readAll -/
def pk_X6_readAll_56 (F : Nat)  (pb : Nat) (v0 : Nat)    (sg : Nat → Nat → Int32) (lg : Nat → Nat → Int64) : Option ((Nat → Nat → Int32) × (Nat → Nat → Int64)) :=
  hcU (p_X6_noteStrangeNeeds F pb v0 sg lg) (fun (sg3 : Nat → Nat → Int32) (lg4 : Nat → Nat → Int64) =>
  if (sg3 v0 6) = 0 then
  (gnm (up2 sg3 (v0 + 1) 0 (if (12 : Int32) < (sg3 v0 3) then (12 : Int32) else (sg3 v0 3))) (fun (sg5 : Nat → Nat → Int32) =>
  some (sg5, lg4)))
  else (some (sg3, lg4)))
def pk_X6_readAll_33 (F : Nat)  (pb : Nat) (v0 : Nat)    (sg : Nat → Nat → Int32) (lg : Nat → Nat → Int64) : Option ((Nat → Nat → Int32) × (Nat → Nat → Int64)) :=
  gnm (up2 sg v0 6 (1 : Int32)) (fun (sg9 : Nat → Nat → Int32) =>
  gnm (up2 sg9 v0 7 (sg9 (v0 + 11) 3)) (fun (sg10 : Nat → Nat → Int32) =>
  some (sg10, lg)))
def pb_X6_readAll_9 (F : Nat)  (pb : Nat) (v0 : Nat)   (prec9 : Int32 → (Nat → Nat → Int32) → (Nat → Nat → Int64) → Option ((Nat → Nat → Int32) × (Nat → Nat → Int64))) : Int32 → (Nat → Nat → Int32) → (Nat → Nat → Int64) → Option ((Nat → Nat → Int32) × (Nat → Nat → Int64)) := fun v1 sg lg =>
  if (600 : Int32) ≤ v1 then
  (pk_X6_readAll_56 F  pb v0  sg lg)
  else (if (sg (v0 + 11) 2) = 0 then
  (pk_X6_readAll_56 F  pb v0  sg lg)
  else (hcI (p_X6_readPart F pb v0 sg lg) (fun (x8 : Int32) (sg6 : Nat → Nat → Int32) (lg7 : Nat → Nat → Int64) =>
  if x8 = 0 then
  (pk_X6_readAll_33 F  pb v0  sg6 lg7)
  else (prec9 (v1 + 1) sg6 lg7))))
def p_X6_readAll (F : Nat)  (pb : Nat) (v0 : Nat) (sg : Nat → Nat → Int32) (lg : Nat → Nat → Int64) : Option ((Nat → Nat → Int32) × (Nat → Nat → Int64)) :=
  hcU (p_X8_advance F pb (v0 + 11) sg lg) (fun (sg1 : Nat → Nat → Int32) (lg2 : Nat → Nat → Int64) =>
  fixN (fun _ _ _ => none) (pb_X6_readAll_9 F  pb v0  ) F (0 : Int32) sg1 lg2)
set_option maxRecDepth 100000 in
set_option maxHeartbeats 4000000 in
theorem ec_X6_readAll_56 {F : Nat} {K : HK} {pr : HP} {pt : Nat → Nat} {rr : HP} {n : Nat} {pb : Nat}  {v0 : Nat}  (hv0 : OkReader K pr v0 pb)     {sg : Nat → Nat → Int32} {lg : Nat → Nat → Int64} : k_X6_readAll_56 F   v0  n (hp K pr pt rr sg lg) = Option.map (fun z => (n, hp K pr pt rr z.1 z.2)) (pk_X6_readAll_56 F  pb v0    sg lg) := by
  unfold k_X6_readAll_56 pk_X6_readAll_56
  refine c_cvU (hv0).k0 (e_X6_noteStrangeNeeds (hv0)) (fun sg3 lg4 => ?_)
  refine c_gI (hv0).k0 rfl ?_
  refine q_ite ?_ ?_
  · refine c_gR (hv0).k0 rfl (hv0).p1 ?_
    refine c_gI (hv0).k0 rfl ?_
    refine c_pI ((hv0).o1).k0 rfl (fun sg5 => ?_)
    rfl
  · rfl
set_option maxRecDepth 100000 in
set_option maxHeartbeats 4000000 in
theorem ec_X6_readAll_33 {F : Nat} {K : HK} {pr : HP} {pt : Nat → Nat} {rr : HP} {n : Nat} {pb : Nat}  {v0 : Nat}  (hv0 : OkReader K pr v0 pb)     {sg : Nat → Nat → Int32} {lg : Nat → Nat → Int64} : k_X6_readAll_33 F   v0  n (hp K pr pt rr sg lg) = Option.map (fun z => (n, hp K pr pt rr z.1 z.2)) (pk_X6_readAll_33 F  pb v0    sg lg) := by
  unfold k_X6_readAll_33 pk_X6_readAll_33
  refine c_pI (hv0).k0 rfl (fun sg9 => ?_)
  refine c_gR (hv0).k0 rfl (hv0).p0 ?_
  refine c_gI ((hv0).o0).k0 rfl ?_
  refine c_pI (hv0).k0 rfl (fun sg10 => ?_)
  rfl
set_option maxRecDepth 100000 in
set_option maxHeartbeats 4000000 in
theorem el_X6_readAll_9 {F : Nat} {K : HK} {pr : HP} {pt : Nat → Nat} {rr : HP} {n : Nat} {pb : Nat}  {v0 : Nat}  (hv0 : OkReader K pr v0 pb)    : ∀ (k : Nat) (v1 : Int32) (sg : Nat → Nat → Int32) (lg : Nat → Nat → Int64), fixN ((fun _ _ _ => none) : Int32 → Nat → GH → Option (Nat × GH)) (b_X6_readAll_9 F   v0) k v1 n (hp K pr pt rr sg lg) = Option.map (fun z => (n, hp K pr pt rr z.1 z.2)) (fixN ((fun _ _ _ => none) : Int32 → (Nat → Nat → Int32) → (Nat → Nat → Int64) → Option ((Nat → Nat → Int32) × (Nat → Nat → Int64))) (pb_X6_readAll_9 F  pb v0  ) k v1 sg lg) := by
  intro k
  refine fixN_ind2 (P := fun (r : Int32 → Nat → GH → Option (Nat × GH)) (r1 : Int32 → (Nat → Nat → Int32) → (Nat → Nat → Int64) → Option ((Nat → Nat → Int32) × (Nat → Nat → Int64))) => ∀ (v1 : Int32) (sg : Nat → Nat → Int32) (lg : Nat → Nat → Int64), r v1 n (hp K pr pt rr sg lg) = Option.map (fun z => (n, hp K pr pt rr z.1 z.2)) (r1 v1 sg lg)) ?_ ?_ k
  · intro v1 sg lg
    rfl
  · intro rec9 prec9 hrec9 v1 sg lg
    unfold b_X6_readAll_9 pb_X6_readAll_9
    refine q_ite ?_ ?_
    · exact ec_X6_readAll_56 hv0  
    · refine c_gR (hv0).k0 rfl (hv0).p0 ?_
      refine c_gI ((hv0).o0).k0 rfl ?_
      refine q_ite ?_ ?_
      · exact ec_X6_readAll_56 hv0  
      · refine c_cvI (hv0).k0 (e_X6_readPart (hv0)) (fun x8 sg6 lg7 => ?_)
        refine q_ite ?_ ?_
        · exact ec_X6_readAll_33 hv0  
        · exact hrec9 _ _ _
set_option maxRecDepth 100000 in
set_option maxHeartbeats 4000000 in
theorem e_X6_readAll {F : Nat} {K : HK} {pr : HP} {pt : Nat → Nat} {rr : HP} {n : Nat} {pb : Nat}  {v0 : Nat} (hv0 : OkReader K pr v0 pb)  {sg : Nat → Nat → Int32} {lg : Nat → Nat → Int64} : f_X6_readAll F  v0 n (hp K pr pt rr sg lg) = Option.map (fun z => (n, hp K pr pt rr z.1 z.2)) (p_X6_readAll F  pb v0 sg lg) := by
  unfold f_X6_readAll p_X6_readAll
  refine c_gR (hv0).k0 rfl (hv0).p0 ?_
  refine c_cvU ((hv0).o0).k0 (e_X8_advance ((hv0).o0)) (fun sg1 lg2 => ?_)
  exact el_X6_readAll_9 hv0   _ _ _ _
