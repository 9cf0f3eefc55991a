/-! X1_begin -/
def p_X1_begin (F : Nat)  (b : Nat) (p : Nat) (v0 : Nat) (sg : Nat → Nat → Int32) (lg : Nat → Nat → Int64) : Option ((Nat → Nat → Int32) × (Nat → Nat → Int64)) :=
  gnm (up2 sg v0 3 (0 : Int32)) (fun (sg1 : Nat → Nat → Int32) =>
  gnm (up2 sg1 v0 4 (0 : Int32)) (fun (sg2 : Nat → Nat → Int32) =>
  gnm (up3 lg v0 5 (0 : Int64)) (fun (lg3 : Nat → Nat → Int64) =>
  some (sg2, lg3))))
set_option maxRecDepth 100000 in
set_option maxHeartbeats 4000000 in
theorem e_X1_begin {F : Nat} {K : HK} {pr : HP} {pt : Nat → Nat} {rr : HP} {n : Nat} {b : Nat} {p : Nat}  {v0 : Nat} (hv0 : OkMaker K pr pt v0 b p)  {sg : Nat → Nat → Int32} {lg : Nat → Nat → Int64} : f_X1_begin F  v0 n (hp K pr pt rr sg lg) = Option.map (fun z => (n, hp K pr pt rr z.1 z.2)) (p_X1_begin F  b p v0 sg lg) := by
  unfold f_X1_begin p_X1_begin
  refine c_pI (hv0).k0 rfl (fun sg1 => ?_)
  refine c_pI (hv0).k0 rfl (fun sg2 => ?_)
  refine c_pJ (hv0).k0 rfl (fun lg3 => ?_)
  rfl
/-! X1_isOnWay -/
def pb_X1_isOnWay_5 (F : Nat)  (b : Nat) (p : Nat) (v0 : Nat)  (v1 : Int32) (sg : Nat → Nat → Int32) (lg : Nat → Nat → Int64) (prec5 : Int32 → Option (Int32)) : Int32 → Option (Int32) := fun v2 =>
  if (sg v0 3) ≤ v2 then
  (rP .boolean (0 : Int32))
  else (Option.bind (mI sg (v0 + 1) 73 v2) (fun (x2 : Int32) =>
  if x2 = v1 then
  (rP .boolean (1 : Int32))
  else (prec5 (v2 + 1))))
def p_X1_isOnWay (F : Nat)  (b : Nat) (p : Nat) (v0 : Nat) (v1 : Int32) (sg : Nat → Nat → Int32) (lg : Nat → Nat → Int64) : Option (Int32) :=
  gnm (sg v0 4) (fun (y1 : Int32) =>
  fixN (fun _ => none) (pb_X1_isOnWay_5 F  b p v0  v1 sg lg) F y1)
set_option maxRecDepth 100000 in
set_option maxHeartbeats 4000000 in
theorem el_X1_isOnWay_5 {F : Nat} {K : HK} {pr : HP} {pt : Nat → Nat} {rr : HP} {b : Nat} {p : Nat}  {v0 : Nat}  (hv0 : OkMaker K pr pt v0 b p)   {v1 : Int32} {sg : Nat → Nat → Int32} {lg : Nat → Nat → Int64} : ∀ (k : Nat) (v2 : Int32), fixN ((fun _ => none) : Int32 → Option (Int32)) (b_X1_isOnWay_5 F   v0 v1 (hp K pr pt rr sg lg)) k v2 = Option.map (fun z => z) (fixN ((fun _ => none) : Int32 → Option (Int32)) (pb_X1_isOnWay_5 F  b p v0  v1 sg lg) k v2) := by
  intro k
  refine fixN_ind2 (P := fun (r : Int32 → Option (Int32)) (r1 : Int32 → Option (Int32)) => ∀ (v2 : Int32), r v2 = Option.map (fun z => z) (r1 v2)) ?_ ?_ k
  · intro v2
    rfl
  · intro rec5 prec5 hrec5 v2
    unfold b_X1_isOnWay_5 pb_X1_isOnWay_5
    refine c_gI (hv0).k0 rfl ?_
    refine q_ite ?_ ?_
    · exact q_id
    · refine c_gR (hv0).k0 rfl (hv0).p2 ?_
      refine c_aI (hv0).k1 (by decide) (fun x2 => ?_)
      refine q_ite ?_ ?_
      · exact q_id
      · exact hrec5 _
set_option maxRecDepth 100000 in
set_option maxHeartbeats 4000000 in
theorem e_X1_isOnWay {F : Nat} {K : HK} {pr : HP} {pt : Nat → Nat} {rr : HP} {b : Nat} {p : Nat}  {v0 : Nat} {v1 : Int32} (hv0 : OkMaker K pr pt v0 b p)  {sg : Nat → Nat → Int32} {lg : Nat → Nat → Int64} : f_X1_isOnWay F  v0 v1 (hp K pr pt rr sg lg) = p_X1_isOnWay F  b p v0 v1 sg lg := by
  refine Eq.trans ?_ (q_mid _)
  unfold f_X1_isOnWay p_X1_isOnWay
  refine c_gI (hv0).k0 rfl ?_
  refine c_nr ?_
  exact el_X1_isOnWay_5 hv0   _ _
/-! X1_push -/
def p_X1_push (F : Nat)  (b : Nat) (p : Nat) (v0 : Nat) (v1 : Int32) (sg : Nat → Nat → Int32) (lg : Nat → Nat → Int64) : Option ((Nat → Nat → Int32) × (Nat → Nat → Int64)) :=
  if (Int32.ofNat 73) ≤ (sg v0 3) then
  (some (sg, lg))
  else (Option.bind (mS sg (v0 + 1) 73 (sg v0 3) v1) (fun (sg1 : Nat → Nat → Int32) =>
  gnm (up2 sg1 v0 3 ((sg1 v0 3) + (1 : Int32))) (fun (sg2 : Nat → Nat → Int32) =>
  some (sg2, lg))))
set_option maxRecDepth 100000 in
set_option maxHeartbeats 4000000 in
theorem e_X1_push {F : Nat} {K : HK} {pr : HP} {pt : Nat → Nat} {rr : HP} {n : Nat} {b : Nat} {p : Nat}  {v0 : Nat} {v1 : Int32} (hv0 : OkMaker K pr pt v0 b p)  {sg : Nat → Nat → Int32} {lg : Nat → Nat → Int64} : f_X1_push F  v0 v1 n (hp K pr pt rr sg lg) = Option.map (fun z => (n, hp K pr pt rr z.1 z.2)) (p_X1_push F  b p v0 v1 sg lg) := by
  unfold f_X1_push p_X1_push
  refine c_gI (hv0).k0 rfl ?_
  refine c_gR (hv0).k0 rfl (hv0).p2 ?_
  refine c_aL (hv0).k1 (by decide) ?_
  refine q_ite ?_ ?_
  · rfl
  · refine c_gR (hv0).k0 rfl (hv0).p2 ?_
    refine c_gI (hv0).k0 rfl ?_
    refine c_aS (hv0).k1 (by decide) (fun sg1 => ?_)
    refine c_gI (hv0).k0 rfl ?_
    refine c_pI (hv0).k0 rfl (fun sg2 => ?_)
    rfl
/-! X1_refuse -/
def p_X1_refuse (F : Nat)  (b : Nat) (p : Nat) (v0 : Nat) (v1 : Int32) (v2 : Int32) (sg : Nat → Nat → Int32) (lg : Nat → Nat → Int64) : Option (Int32 × (Nat → Nat → Int32) × (Nat → Nat → Int64)) :=
  hcU (p_X1_push F b p v0 v1 sg lg) (fun (sg1 : Nat → Nat → Int32) (lg2 : Nat → Nat → Int64) =>
  some (v2, sg1, lg2))
set_option maxRecDepth 100000 in
set_option maxHeartbeats 4000000 in
theorem e_X1_refuse {F : Nat} {K : HK} {pr : HP} {pt : Nat → Nat} {rr : HP} {n : Nat} {b : Nat} {p : Nat}  {v0 : Nat} {v1 : Int32} {v2 : Int32} (hv0 : OkMaker K pr pt v0 b p)  {sg : Nat → Nat → Int32} {lg : Nat → Nat → Int64} : f_X1_refuse F  v0 v1 v2 n (hp K pr pt rr sg lg) = Option.map (fun z => (z.1, n, hp K pr pt rr z.2.1 z.2.2)) (p_X1_refuse F  b p v0 v1 v2 sg lg) := by
  unfold f_X1_refuse p_X1_refuse
  refine c_cvU (hv0).k0 (e_X1_push (hv0)) (fun sg1 lg2 => ?_)
  rfl
/-! X1_gather -/
def pk_X1_gather_71 (F : Nat) (pf_X1_fetch : Nat → Int32 → Int32 → (Nat → Nat → Int32) → (Nat → Nat → Int64) → Option (Int32 × (Nat → Nat → Int32) × (Nat → Nat → Int64))) (b : Nat) (p : Nat) (v0 : Nat) (prec12 : Int32 → (Nat → Nat → Int32) → (Nat → Nat → Int64) → Option (Int32 × (Nat → Nat → Int32) × (Nat → Nat → Int64))) (v1 : Int32) (v2 : Int32) (v3 : Int32) (v5 : Int32) (v6 : Int32)  (sg : Nat → Nat → Int32) (lg : Nat → Nat → Int64) : Option (Int32 × (Nat → Nat → Int32) × (Nat → Nat → Int64)) :=
  Option.bind (mS sg (v0 + 2) 48 (v3 + v5) v6) (fun (sg2 : Nat → Nat → Int32) =>
  prec12 (v5 + 1) sg2 lg)
def pb_X1_gather_12 (F : Nat) (pf_X1_fetch : Nat → Int32 → Int32 → (Nat → Nat → Int32) → (Nat → Nat → Int64) → Option (Int32 × (Nat → Nat → Int32) × (Nat → Nat → Int64))) (b : Nat) (p : Nat) (v0 : Nat)  (v1 : Int32) (v2 : Int32) (v3 : Int32) (prec12 : Int32 → (Nat → Nat → Int32) → (Nat → Nat → Int64) → Option (Int32 × (Nat → Nat → Int32) × (Nat → Nat → Int64))) : Int32 → (Nat → Nat → Int32) → (Nat → Nat → Int64) → Option (Int32 × (Nat → Nat → Int32) × (Nat → Nat → Int64)) := fun v5 sg lg =>
  if (4 : Int32) ≤ v5 then
  (some ((-1 : Int32), sg, lg))
  else (Option.bind (mI sg (p + 6) 12 v1) (fun (x1 : Int32) =>
  if x1 ≤ v5 then
  (pk_X1_gather_71 F pf_X1_fetch b p v0 prec12 v1 v2 v3 v5 (-1 : Int32) sg lg)
  else (Option.bind (p_X3_isEager F  p v1 v5 sg lg) (fun (x3 : Int32) =>
  if x3 = 0 then
  (pk_X1_gather_71 F pf_X1_fetch b p v0 prec12 v1 v2 v3 v5 (-1 : Int32) sg lg)
  else (Option.bind (mI sg (p + 8) 48 ((v1 * (4 : Int32)) + v5)) (fun (x4 : Int32) =>
  hcI (pf_X1_fetch v0 x4 v2 sg lg) (fun (x7 : Int32) (sg5 : Nat → Nat → Int32) (lg6 : Nat → Nat → Int64) =>
  if 0 ≤ x7 then
  (pk_X1_gather_71 F pf_X1_fetch b p v0 prec12 v1 v2 v3 v5 x7 sg5 lg6)
  else (some (x7, sg5, lg6)))))))))
def pg_X1_gather (F : Nat) (pf_X1_fetch : Nat → Int32 → Int32 → (Nat → Nat → Int32) → (Nat → Nat → Int64) → Option (Int32 × (Nat → Nat → Int32) × (Nat → Nat → Int64))) (b : Nat) (p : Nat) (v0 : Nat) (v1 : Int32) (v2 : Int32) (v3 : Int32) (sg : Nat → Nat → Int32) (lg : Nat → Nat → Int64) : Option (Int32 × (Nat → Nat → Int32) × (Nat → Nat → Int64)) :=
  fixN (fun _ _ _ => none) (pb_X1_gather_12 F pf_X1_fetch b p v0  v1 v2 v3) F (0 : Int32) sg lg
set_option maxRecDepth 100000 in
set_option maxHeartbeats 4000000 in
theorem ec_X1_gather_71 {F : Nat} {K : HK} {pr : HP} {pt : Nat → Nat} {rr : HP} {n : Nat} {b : Nat} {p : Nat} {rf_X1_fetch : Nat → Int32 → Int32 → Nat → GH → Option (Int32 × Nat × GH)} {pf_X1_fetch : Nat → Int32 → Int32 → (Nat → Nat → Int32) → (Nat → Nat → Int64) → Option (Int32 × (Nat → Nat → Int32) × (Nat → Nat → Int64))} {v0 : Nat} {rec12 : Int32 → Nat → GH → Option (Int32 × Nat × GH)} {prec12 : Int32 → (Nat → Nat → Int32) → (Nat → Nat → Int64) → Option (Int32 × (Nat → Nat → Int32) × (Nat → Nat → Int64))} (hv0 : OkMaker K pr pt v0 b p) (hg_X1_fetch : ∀ (u1 : Int32) (u2 : Int32) (sg : Nat → Nat → Int32) (lg : Nat → Nat → Int64), rf_X1_fetch v0 u1 u2 n (hp K pr pt rr sg lg) = Option.map (fun z => (z.1, n, hp K pr pt rr z.2.1 z.2.2)) (pf_X1_fetch v0 u1 u2 sg lg)) (hrec12 : ∀ (w5 : Int32) (sg : Nat → Nat → Int32) (lg : Nat → Nat → Int64), rec12 w5 n (hp K pr pt rr sg lg) = Option.map (fun z => (z.1, n, hp K pr pt rr z.2.1 z.2.2)) (prec12 w5 sg lg)) {v1 : Int32} {v2 : Int32} {v3 : Int32} {v5 : Int32} {v6 : Int32}  {sg : Nat → Nat → Int32} {lg : Nat → Nat → Int64} : k_X1_gather_71 F rf_X1_fetch rec12 v0 v1 v2 v3 p v5 v6  n (hp K pr pt rr sg lg) = Option.map (fun z => (z.1, n, hp K pr pt rr z.2.1 z.2.2)) (pk_X1_gather_71 F pf_X1_fetch b p v0 prec12 v1 v2 v3 v5 v6  sg lg) := by
  unfold k_X1_gather_71 pk_X1_gather_71
  refine c_gR (hv0).k0 rfl (hv0).p6 ?_
  refine c_aS (hv0).k2 (by decide) (fun sg2 => ?_)
  exact hrec12 _ _ _
set_option maxRecDepth 100000 in
set_option maxHeartbeats 4000000 in
theorem el_X1_gather_12 {F : Nat} {K : HK} {pr : HP} {pt : Nat → Nat} {rr : HP} {n : Nat} {b : Nat} {p : Nat} {rf_X1_fetch : Nat → Int32 → Int32 → Nat → GH → Option (Int32 × Nat × GH)} {pf_X1_fetch : Nat → Int32 → Int32 → (Nat → Nat → Int32) → (Nat → Nat → Int64) → Option (Int32 × (Nat → Nat → Int32) × (Nat → Nat → Int64))} {v0 : Nat}  (hv0 : OkMaker K pr pt v0 b p) (hg_X1_fetch : ∀ (u1 : Int32) (u2 : Int32) (sg : Nat → Nat → Int32) (lg : Nat → Nat → Int64), rf_X1_fetch v0 u1 u2 n (hp K pr pt rr sg lg) = Option.map (fun z => (z.1, n, hp K pr pt rr z.2.1 z.2.2)) (pf_X1_fetch v0 u1 u2 sg lg))  {v1 : Int32} {v2 : Int32} {v3 : Int32} : ∀ (k : Nat) (v5 : Int32) (sg : Nat → Nat → Int32) (lg : Nat → Nat → Int64), fixN ((fun _ _ _ => none) : Int32 → Nat → GH → Option (Int32 × Nat × GH)) (b_X1_gather_12 F rf_X1_fetch  v0 v1 v2 v3 p) k v5 n (hp K pr pt rr sg lg) = Option.map (fun z => (z.1, n, hp K pr pt rr z.2.1 z.2.2)) (fixN ((fun _ _ _ => none) : Int32 → (Nat → Nat → Int32) → (Nat → Nat → Int64) → Option (Int32 × (Nat → Nat → Int32) × (Nat → Nat → Int64))) (pb_X1_gather_12 F pf_X1_fetch b p v0  v1 v2 v3) k v5 sg lg) := by
  intro k
  refine fixN_ind2 (P := fun (r : Int32 → Nat → GH → Option (Int32 × Nat × GH)) (r1 : Int32 → (Nat → Nat → Int32) → (Nat → Nat → Int64) → Option (Int32 × (Nat → Nat → Int32) × (Nat → Nat → Int64))) => ∀ (v5 : Int32) (sg : Nat → Nat → Int32) (lg : Nat → Nat → Int64), r v5 n (hp K pr pt rr sg lg) = Option.map (fun z => (z.1, n, hp K pr pt rr z.2.1 z.2.2)) (r1 v5 sg lg)) ?_ ?_ k
  · intro v5 sg lg
    rfl
  · intro rec12 prec12 hrec12 v5 sg lg
    unfold b_X1_gather_12 pb_X1_gather_12
    refine q_ite ?_ ?_
    · rfl
    · refine c_gR (((hv0).o0).o0).k0 rfl (((hv0).o0).o0).p6 ?_
      refine c_aI (((hv0).o0).o0).k6 (by decide) (fun x1 => ?_)
      refine q_ite ?_ ?_
      · exact ec_X1_gather_71 hv0 hg_X1_fetch hrec12
      · refine c_cvP (((hv0).o0).o0).k0 (e_X3_isEager (((hv0).o0).o0)) (fun x3 => ?_)
        refine q_ite ?_ ?_
        · exact ec_X1_gather_71 hv0 hg_X1_fetch hrec12
        · refine c_gR (((hv0).o0).o0).k0 rfl (((hv0).o0).o0).p8 ?_
          refine c_aI (((hv0).o0).o0).k8 (by decide) (fun x4 => ?_)
          refine c_cvI (hv0).k0 (hg_X1_fetch _ _ _ _) (fun x7 sg5 lg6 => ?_)
          refine q_ite ?_ ?_
          · exact ec_X1_gather_71 hv0 hg_X1_fetch hrec12
          · rfl
set_option maxRecDepth 100000 in
set_option maxHeartbeats 4000000 in
theorem eg_X1_gather {F : Nat} {K : HK} {pr : HP} {pt : Nat → Nat} {rr : HP} {n : Nat} {b : Nat} {p : Nat} {rf_X1_fetch : Nat → Int32 → Int32 → Nat → GH → Option (Int32 × Nat × GH)} {pf_X1_fetch : Nat → Int32 → Int32 → (Nat → Nat → Int32) → (Nat → Nat → Int64) → Option (Int32 × (Nat → Nat → Int32) × (Nat → Nat → Int64))} {v0 : Nat} {v1 : Int32} {v2 : Int32} {v3 : Int32} (hv0 : OkMaker K pr pt v0 b p) (hg_X1_fetch : ∀ (u1 : Int32) (u2 : Int32) (sg : Nat → Nat → Int32) (lg : Nat → Nat → Int64), rf_X1_fetch v0 u1 u2 n (hp K pr pt rr sg lg) = Option.map (fun z => (z.1, n, hp K pr pt rr z.2.1 z.2.2)) (pf_X1_fetch v0 u1 u2 sg lg)) {sg : Nat → Nat → Int32} {lg : Nat → Nat → Int64} : g_X1_gather F rf_X1_fetch v0 v1 v2 v3 n (hp K pr pt rr sg lg) = Option.map (fun z => (z.1, n, hp K pr pt rr z.2.1 z.2.2)) (pg_X1_gather F pf_X1_fetch b p v0 v1 v2 v3 sg lg) := by
  unfold g_X1_gather pg_X1_gather
  refine c_gR (hv0).k0 rfl (hv0).p0 ?_
  refine c_gP ((hv0).o0).k0 rfl ((hv0).o0).p0 ?_
  exact el_X1_gather_12 hv0 hg_X1_fetch  _ _ _ _
/-! X1_pop -/
def p_X1_pop (F : Nat)  (b : Nat) (p : Nat) (v0 : Nat) (sg : Nat → Nat → Int32) (lg : Nat → Nat → Int64) : Option ((Nat → Nat → Int32) × (Nat → Nat → Int64)) :=
  if (sg v0 3) ≤ 0 then
  (some (sg, lg))
  else (gnm (up2 sg v0 3 ((sg v0 3) - (1 : Int32))) (fun (sg1 : Nat → Nat → Int32) =>
  some (sg1, lg)))
set_option maxRecDepth 100000 in
set_option maxHeartbeats 4000000 in
theorem e_X1_pop {F : Nat} {K : HK} {pr : HP} {pt : Nat → Nat} {rr : HP} {n : Nat} {b : Nat} {p : Nat}  {v0 : Nat} (hv0 : OkMaker K pr pt v0 b p)  {sg : Nat → Nat → Int32} {lg : Nat → Nat → Int64} : f_X1_pop F  v0 n (hp K pr pt rr sg lg) = Option.map (fun z => (n, hp K pr pt rr z.1 z.2)) (p_X1_pop F  b p v0 sg lg) := by
  unfold f_X1_pop p_X1_pop
  refine c_gI (hv0).k0 rfl ?_
  refine q_ite ?_ ?_
  · rfl
  · refine c_gI (hv0).k0 rfl ?_
    refine c_pI (hv0).k0 rfl (fun sg1 => ?_)
    rfl
/-! X1_make -/
def pg_X1_make (F : Nat) (pf_X1_fetch : Nat → Int32 → Int32 → (Nat → Nat → Int32) → (Nat → Nat → Int64) → Option (Int32 × (Nat → Nat → Int32) × (Nat → Nat → Int64))) (b : Nat) (p : Nat) (v0 : Nat) (v1 : Int32) (v2 : Int32) (sg : Nat → Nat → Int32) (lg : Nat → Nat → Int64) : Option (Int32 × (Nat → Nat → Int32) × (Nat → Nat → Int64)) :=
  gnm ((sg v0 3) - (sg v0 4)) (fun (y1 : Int32) =>
  if (12 : Int32) ≤ y1 then
  (hcI (p_X1_refuse F b p v0 v1 (-2 : Int32) sg lg) (fun (x4 : Int32) (sg2 : Nat → Nat → Int32) (lg3 : Nat → Nat → Int64) =>
  some (x4, sg2, lg3)))
  else (Option.bind (p_X1_isOnWay F b p v0 v1 sg lg) (fun (x5 : Int32) =>
  if x5 = 0 then
  (Option.bind (p_X7_isFull F  (b + 3) sg lg) (fun (x6 : Int32) =>
  if x6 = 0 then
  (Option.bind (mI sg (b + 2) 12 v1) (fun (x7 : Int32) =>
  Option.bind (mS sg (b + 2) 12 v1 (x7 + (1 : Int32))) (fun (sg8 : Nat → Nat → Int32) =>
  Option.bind (mI sg8 (b + 2) 12 v1) (fun (x9 : Int32) =>
  hcU (p_X1_push F b p v0 v1 sg8 lg) (fun (sg10 : Nat → Nat → Int32) (lg11 : Nat → Nat → Int64) =>
  hcI (pg_X1_gather F pf_X1_fetch b p v0 v1 v2 (y1 * (4 : Int32)) sg10 lg11) (fun (x14 : Int32) (sg12 : Nat → Nat → Int32) (lg13 : Nat → Nat → Int64) =>
  if (-1 : Int32) ≤ x14 then
  (Option.bind (mI sg12 (p + 4) 12 v1) (fun (x15 : Int32) =>
  if x9 = x15 then
  (some ((-3 : Int32), sg12, lg13))
  else (Option.bind (p_X7_isFull F  (b + 3) sg12 lg13) (fun (x16 : Int32) =>
  if x16 = 0 then
  (hcU (p_X1_pop F b p v0 sg12 lg13) (fun (sg17 : Nat → Nat → Int32) (lg18 : Nat → Nat → Int64) =>
  hcI (p_X7_add F (48) (b + 3) v1 v2 (v0 + 2) (y1 * (4 : Int32)) sg17 lg18) (fun (x21 : Int32) (sg19 : Nat → Nat → Int32) (lg20 : Nat → Nat → Int64) =>
  some (x21, sg19, lg20))))
  else (some ((-4 : Int32), sg12, lg13))))))
  else (some (x14, sg12, lg13))))))))
  else (hcI (p_X1_refuse F b p v0 v1 (-4 : Int32) sg lg) (fun (x24 : Int32) (sg22 : Nat → Nat → Int32) (lg23 : Nat → Nat → Int64) =>
  some (x24, sg22, lg23)))))
  else (hcI (p_X1_refuse F b p v0 v1 (-2 : Int32) sg lg) (fun (x27 : Int32) (sg25 : Nat → Nat → Int32) (lg26 : Nat → Nat → Int64) =>
  some (x27, sg25, lg26))))))
set_option maxRecDepth 100000 in
set_option maxHeartbeats 4000000 in
theorem eg_X1_make {F : Nat} {K : HK} {pr : HP} {pt : Nat → Nat} {rr : HP} {n : Nat} {b : Nat} {p : Nat} {rf_X1_fetch : Nat → Int32 → Int32 → Nat → GH → Option (Int32 × Nat × GH)} {pf_X1_fetch : Nat → Int32 → Int32 → (Nat → Nat → Int32) → (Nat → Nat → Int64) → Option (Int32 × (Nat → Nat → Int32) × (Nat → Nat → Int64))} {v0 : Nat} {v1 : Int32} {v2 : Int32} (hv0 : OkMaker K pr pt v0 b p) (hg_X1_fetch : ∀ (u1 : Int32) (u2 : Int32) (sg : Nat → Nat → Int32) (lg : Nat → Nat → Int64), rf_X1_fetch v0 u1 u2 n (hp K pr pt rr sg lg) = Option.map (fun z => (z.1, n, hp K pr pt rr z.2.1 z.2.2)) (pf_X1_fetch v0 u1 u2 sg lg)) {sg : Nat → Nat → Int32} {lg : Nat → Nat → Int64} : g_X1_make F rf_X1_fetch v0 v1 v2 n (hp K pr pt rr sg lg) = Option.map (fun z => (z.1, n, hp K pr pt rr z.2.1 z.2.2)) (pg_X1_make F pf_X1_fetch b p v0 v1 v2 sg lg) := by
  unfold g_X1_make pg_X1_make
  refine c_gI (hv0).k0 rfl ?_
  refine c_gI (hv0).k0 rfl ?_
  refine q_nm (fun y1 => ?_)
  refine q_ite ?_ ?_
  · refine c_cvI (hv0).k0 (e_X1_refuse (hv0)) (fun x4 sg2 lg3 => ?_)
    rfl
  · refine c_cvP (hv0).k0 (e_X1_isOnWay (hv0)) (fun x5 => ?_)
    refine q_ite ?_ ?_
    · refine c_gR (hv0).k0 rfl (hv0).p1 ?_
      refine c_cvP ((hv0).o1).k0 (e_X7_isFull ((hv0).o1)) (fun x6 => ?_)
      refine q_ite ?_ ?_
      · refine c_gR (hv0).k0 rfl (hv0).p0 ?_
        refine c_gR ((hv0).o0).k0 rfl ((hv0).o0).p3 ?_
        refine c_aI ((hv0).o0).k2 (by decide) (fun x7 => ?_)
        refine c_aS ((hv0).o0).k2 (by decide) (fun sg8 => ?_)
        refine c_gR (hv0).k0 rfl (hv0).p0 ?_
        refine c_gR ((hv0).o0).k0 rfl ((hv0).o0).p3 ?_
        refine c_aI ((hv0).o0).k2 (by decide) (fun x9 => ?_)
        refine c_cvU (hv0).k0 (e_X1_push (hv0)) (fun sg10 lg11 => ?_)
        refine c_cvI (hv0).k0 (eg_X1_gather (hv0) hg_X1_fetch) (fun x14 sg12 lg13 => ?_)
        refine q_ite ?_ ?_
        · refine c_gR (hv0).k0 rfl (hv0).p0 ?_
          refine c_gP ((hv0).o0).k0 rfl ((hv0).o0).p0 ?_
          refine c_gR (((hv0).o0).o0).k0 rfl (((hv0).o0).o0).p4 ?_
          refine c_aI (((hv0).o0).o0).k4 (by decide) (fun x15 => ?_)
          refine q_ite ?_ ?_
          · rfl
          · refine c_gR (hv0).k0 rfl (hv0).p1 ?_
            refine c_cvP ((hv0).o1).k0 (e_X7_isFull ((hv0).o1)) (fun x16 => ?_)
            refine q_ite ?_ ?_
            · refine c_cvU (hv0).k0 (e_X1_pop (hv0)) (fun sg17 lg18 => ?_)
              refine c_gR (hv0).k0 rfl (hv0).p1 ?_
              refine c_gR (hv0).k0 rfl (hv0).p6 ?_
              refine c_cvI ((hv0).o1).k0 (e_X7_add ((hv0).o1) ((hv0).k2)) (fun x21 sg19 lg20 => ?_)
              rfl
            · rfl
        · rfl
      · refine c_cvI (hv0).k0 (e_X1_refuse (hv0)) (fun x24 sg22 lg23 => ?_)
        rfl
    · refine c_cvI (hv0).k0 (e_X1_refuse (hv0)) (fun x27 sg25 lg26 => ?_)
      rfl
/-! X1_fetch -/
def pk_X1_fetch_56 (F : Nat) (pf_X1_fetch : Nat → Int32 → Int32 → (Nat → Nat → Int32) → (Nat → Nat → Int64) → Option (Int32 × (Nat → Nat → Int32) × (Nat → Nat → Int64))) (b : Nat) (p : Nat) (v0 : Nat)  (v3 : Int32) (v5 : Int32) (s0 : Int32) (sg : Nat → Nat → Int32) (lg : Nat → Nat → Int64) : Option (Int32 × (Nat → Nat → Int32) × (Nat → Nat → Int64)) :=
  if s0 = (-1 : Int32) then
  (hcI (pg_X1_make F pf_X1_fetch b p v0 v3 v5 sg lg) (fun (x6 : Int32) (sg4 : Nat → Nat → Int32) (lg5 : Nat → Nat → Int64) =>
  some (x6, sg4, lg5)))
  else (some (s0, sg, lg))
def pk_X1_fetch_34 (F : Nat) (pf_X1_fetch : Nat → Int32 → Int32 → (Nat → Nat → Int32) → (Nat → Nat → Int64) → Option (Int32 × (Nat → Nat → Int32) × (Nat → Nat → Int64))) (b : Nat) (p : Nat) (v0 : Nat)  (v3 : Int32) (v4 : Int32) (s0 : Int32) (sg : Nat → Nat → Int32) (lg : Nat → Nat → Int64) : Option (Int32 × (Nat → Nat → Int32) × (Nat → Nat → Int64)) :=
  if v4 = (2 : Int32) then
  (pk_X1_fetch_56 F pf_X1_fetch b p v0  v3 s0 (-1 : Int32) sg lg)
  else (Option.bind (p_X7_find F  (b + 3) v3 s0 sg lg) (fun (x3 : Int32) =>
  pk_X1_fetch_56 F pf_X1_fetch b p v0  v3 s0 x3 sg lg))
def pg_X1_fetch (F : Nat) (pf_X1_fetch : Nat → Int32 → Int32 → (Nat → Nat → Int32) → (Nat → Nat → Int64) → Option (Int32 × (Nat → Nat → Int32) × (Nat → Nat → Int64))) (b : Nat) (p : Nat) (v0 : Nat) (v1 : Int32) (v2 : Int32) (sg : Nat → Nat → Int32) (lg : Nat → Nat → Int64) : Option (Int32 × (Nat → Nat → Int32) × (Nat → Nat → Int64)) :=
  Option.bind (p_X0_resolve F p b v1 v2 sg lg) (fun (x1 : Int32) =>
  Option.bind (mI sg (p + 3) 12 x1) (fun (x2 : Int32) =>
  if x2 = 0 then
  (pk_X1_fetch_34 F pf_X1_fetch b p v0  x1 x2 (0 : Int32) sg lg)
  else (pk_X1_fetch_34 F pf_X1_fetch b p v0  x1 x2 v2 sg lg)))
set_option maxRecDepth 100000 in
set_option maxHeartbeats 4000000 in
theorem ec_X1_fetch_56 {F : Nat} {K : HK} {pr : HP} {pt : Nat → Nat} {rr : HP} {n : Nat} {b : Nat} {p : Nat} {rf_X1_fetch : Nat → Int32 → Int32 → Nat → GH → Option (Int32 × Nat × GH)} {pf_X1_fetch : Nat → Int32 → Int32 → (Nat → Nat → Int32) → (Nat → Nat → Int64) → Option (Int32 × (Nat → Nat → Int32) × (Nat → Nat → Int64))} {v0 : Nat}  (hv0 : OkMaker K pr pt v0 b p) (hg_X1_fetch : ∀ (u1 : Int32) (u2 : Int32) (sg : Nat → Nat → Int32) (lg : Nat → Nat → Int64), rf_X1_fetch v0 u1 u2 n (hp K pr pt rr sg lg) = Option.map (fun z => (z.1, n, hp K pr pt rr z.2.1 z.2.2)) (pf_X1_fetch v0 u1 u2 sg lg))  {v3 : Int32} {v5 : Int32} {s0 : Int32} {sg : Nat → Nat → Int32} {lg : Nat → Nat → Int64} : k_X1_fetch_56 F rf_X1_fetch  v0 v3 v5 s0 n (hp K pr pt rr sg lg) = Option.map (fun z => (z.1, n, hp K pr pt rr z.2.1 z.2.2)) (pk_X1_fetch_56 F pf_X1_fetch b p v0  v3 v5 s0 sg lg) := by
  unfold k_X1_fetch_56 pk_X1_fetch_56
  refine q_ite ?_ ?_
  · refine c_cvI (hv0).k0 (eg_X1_make (hv0) hg_X1_fetch) (fun x6 sg4 lg5 => ?_)
    rfl
  · rfl
set_option maxRecDepth 100000 in
set_option maxHeartbeats 4000000 in
theorem ec_X1_fetch_34 {F : Nat} {K : HK} {pr : HP} {pt : Nat → Nat} {rr : HP} {n : Nat} {b : Nat} {p : Nat} {rf_X1_fetch : Nat → Int32 → Int32 → Nat → GH → Option (Int32 × Nat × GH)} {pf_X1_fetch : Nat → Int32 → Int32 → (Nat → Nat → Int32) → (Nat → Nat → Int64) → Option (Int32 × (Nat → Nat → Int32) × (Nat → Nat → Int64))} {v0 : Nat}  (hv0 : OkMaker K pr pt v0 b p) (hg_X1_fetch : ∀ (u1 : Int32) (u2 : Int32) (sg : Nat → Nat → Int32) (lg : Nat → Nat → Int64), rf_X1_fetch v0 u1 u2 n (hp K pr pt rr sg lg) = Option.map (fun z => (z.1, n, hp K pr pt rr z.2.1 z.2.2)) (pf_X1_fetch v0 u1 u2 sg lg))  {v3 : Int32} {v4 : Int32} {s0 : Int32} {sg : Nat → Nat → Int32} {lg : Nat → Nat → Int64} : k_X1_fetch_34 F rf_X1_fetch  v0 v3 v4 s0 n (hp K pr pt rr sg lg) = Option.map (fun z => (z.1, n, hp K pr pt rr z.2.1 z.2.2)) (pk_X1_fetch_34 F pf_X1_fetch b p v0  v3 v4 s0 sg lg) := by
  unfold k_X1_fetch_34 pk_X1_fetch_34
  refine q_ite ?_ ?_
  · exact ec_X1_fetch_56 hv0 hg_X1_fetch 
  · refine c_gR (hv0).k0 rfl (hv0).p1 ?_
    refine c_cvP ((hv0).o1).k0 (e_X7_find ((hv0).o1)) (fun x3 => ?_)
    exact ec_X1_fetch_56 hv0 hg_X1_fetch 
set_option maxRecDepth 100000 in
set_option maxHeartbeats 4000000 in
theorem eg_X1_fetch {F : Nat} {K : HK} {pr : HP} {pt : Nat → Nat} {rr : HP} {n : Nat} {b : Nat} {p : Nat} {rf_X1_fetch : Nat → Int32 → Int32 → Nat → GH → Option (Int32 × Nat × GH)} {pf_X1_fetch : Nat → Int32 → Int32 → (Nat → Nat → Int32) → (Nat → Nat → Int64) → Option (Int32 × (Nat → Nat → Int32) × (Nat → Nat → Int64))} {v0 : Nat} {v1 : Int32} {v2 : Int32} (hv0 : OkMaker K pr pt v0 b p) (hg_X1_fetch : ∀ (u1 : Int32) (u2 : Int32) (sg : Nat → Nat → Int32) (lg : Nat → Nat → Int64), rf_X1_fetch v0 u1 u2 n (hp K pr pt rr sg lg) = Option.map (fun z => (z.1, n, hp K pr pt rr z.2.1 z.2.2)) (pf_X1_fetch v0 u1 u2 sg lg)) {sg : Nat → Nat → Int32} {lg : Nat → Nat → Int64} : g_X1_fetch F rf_X1_fetch v0 v1 v2 n (hp K pr pt rr sg lg) = Option.map (fun z => (z.1, n, hp K pr pt rr z.2.1 z.2.2)) (pg_X1_fetch F pf_X1_fetch b p v0 v1 v2 sg lg) := by
  unfold g_X1_fetch pg_X1_fetch
  refine c_gR (hv0).k0 rfl (hv0).p0 ?_
  refine c_cvP ((hv0).o0).k0 (e_X0_resolve ((hv0).o0)) (fun x1 => ?_)
  refine c_gR (hv0).k0 rfl (hv0).p0 ?_
  refine c_gP ((hv0).o0).k0 rfl ((hv0).o0).p0 ?_
  refine c_gR (((hv0).o0).o0).k0 rfl (((hv0).o0).o0).p3 ?_
  refine c_aI (((hv0).o0).o0).k3 (by decide) (fun x2 => ?_)
  refine q_ite ?_ ?_
  · exact ec_X1_fetch_34 hv0 hg_X1_fetch 
  · exact ec_X1_fetch_34 hv0 hg_X1_fetch 
def p_X1_fetch (F : Nat) (b : Nat) (p : Nat) : Nat → Int32 → Int32 → (Nat → Nat → Int32) → (Nat → Nat → Int64) → Option (Int32 × (Nat → Nat → Int32) × (Nat → Nat → Int64)) := fixN (fun _ _ _ _ _ => none) (fun pf => pg_X1_fetch F pf b p) 14
theorem e_X1_fetch {F : Nat} {K : HK} {pr : HP} {pt : Nat → Nat} {rr : HP} {n : Nat} {b : Nat} {p : Nat} {v0 : Nat} {v1 : Int32} {v2 : Int32} (hv0 : OkMaker K pr pt v0 b p) {sg : Nat → Nat → Int32} {lg : Nat → Nat → Int64} : f_X1_fetch F v0 v1 v2 n (hp K pr pt rr sg lg) = Option.map (fun z => (z.1, n, hp K pr pt rr z.2.1 z.2.2)) (p_X1_fetch F b p v0 v1 v2 sg lg) := by
  have key : ∀ (d : Nat) (v1 : Int32) (v2 : Int32) (sg : Nat → Nat → Int32) (lg : Nat → Nat → Int64), fixN ((fun _ _ _ _ _ => none) : Nat → Int32 → Int32 → Nat → GH → Option (Int32 × Nat × GH)) (fun rf => g_X1_fetch F rf) d v0 v1 v2 n (hp K pr pt rr sg lg) = Option.map (fun z => (z.1, n, hp K pr pt rr z.2.1 z.2.2)) (fixN ((fun _ _ _ _ _ => none) : Nat → Int32 → Int32 → (Nat → Nat → Int32) → (Nat → Nat → Int64) → Option (Int32 × (Nat → Nat → Int32) × (Nat → Nat → Int64))) (fun pf => pg_X1_fetch F pf b p) d v0 v1 v2 sg lg) := by
    intro d
    induction d with
    | zero => intro v1 v2 sg lg; rfl
    | succ d ih => intro v1 v2 sg lg; exact eg_X1_fetch hv0 ih
  exact key 14 _ _ _ _
/-! X1_tell -/
def p_X1_tell (F : Nat)  (b : Nat) (p : Nat) (v0 : Nat) (v1 : Int32) (sg : Nat → Nat → Int32) (lg : Nat → Nat → Int64) : Option (Int32 × (Nat → Nat → Int32) × (Nat → Nat → Int64)) :=
  if (-1 : Int32) ≤ v1 then
  (some (v1, sg, lg))
  else (hcU (p_X9_tellWhy F (73) (b + 10) v1 (v0 + 1) (sg v0 3) sg lg) (fun (sg1 : Nat → Nat → Int32) (lg2 : Nat → Nat → Int64) =>
  some (v1, sg1, lg2)))
set_option maxRecDepth 100000 in
set_option maxHeartbeats 4000000 in
theorem e_X1_tell {F : Nat} {K : HK} {pr : HP} {pt : Nat → Nat} {rr : HP} {n : Nat} {b : Nat} {p : Nat}  {v0 : Nat} {v1 : Int32} (hv0 : OkMaker K pr pt v0 b p)  {sg : Nat → Nat → Int32} {lg : Nat → Nat → Int64} : f_X1_tell F  v0 v1 n (hp K pr pt rr sg lg) = Option.map (fun z => (z.1, n, hp K pr pt rr z.2.1 z.2.2)) (p_X1_tell F  b p v0 v1 sg lg) := by
  unfold f_X1_tell p_X1_tell
  refine q_ite ?_ ?_
  · rfl
  · refine c_gR (hv0).k0 rfl (hv0).p0 ?_
    refine c_gR ((hv0).o0).k0 rfl ((hv0).o0).p5 ?_
    refine c_gR (hv0).k0 rfl (hv0).p2 ?_
    refine c_gI (hv0).k0 rfl ?_
    refine c_cvU (((hv0).o0).o5).k0 (e_X9_tellWhy (((hv0).o0).o5) ((hv0).k1)) (fun sg1 lg2 => ?_)
    rfl
/-! X1_askFor -/
def p_X1_askFor (F : Nat)  (b : Nat) (p : Nat) (v0 : Nat) (v1 : Int32) (sg : Nat → Nat → Int32) (lg : Nat → Nat → Int64) : Option (Int32 × (Nat → Nat → Int32) × (Nat → Nat → Int64)) :=
  hcU (p_X1_begin F b p v0 sg lg) (fun (sg1 : Nat → Nat → Int32) (lg2 : Nat → Nat → Int64) =>
  hcI (p_X1_fetch F b p v0 v1 (sg1 b 1) sg1 lg2) (fun (x5 : Int32) (sg3 : Nat → Nat → Int32) (lg4 : Nat → Nat → Int64) =>
  hcI (p_X1_tell F b p v0 x5 sg3 lg4) (fun (x8 : Int32) (sg6 : Nat → Nat → Int32) (lg7 : Nat → Nat → Int64) =>
  some (x8, sg6, lg7))))
set_option maxRecDepth 100000 in
set_option maxHeartbeats 4000000 in
theorem e_X1_askFor {F : Nat} {K : HK} {pr : HP} {pt : Nat → Nat} {rr : HP} {n : Nat} {b : Nat} {p : Nat}  {v0 : Nat} {v1 : Int32} (hv0 : OkMaker K pr pt v0 b p)  {sg : Nat → Nat → Int32} {lg : Nat → Nat → Int64} : f_X1_askFor F  v0 v1 n (hp K pr pt rr sg lg) = Option.map (fun z => (z.1, n, hp K pr pt rr z.2.1 z.2.2)) (p_X1_askFor F  b p v0 v1 sg lg) := by
  unfold f_X1_askFor p_X1_askFor
  refine c_cvU (hv0).k0 (e_X1_begin (hv0)) (fun sg1 lg2 => ?_)
  refine c_gR (hv0).k0 rfl (hv0).p0 ?_
  refine c_gI ((hv0).o0).k0 rfl ?_
  refine c_cvI (hv0).k0 (e_X1_fetch (hv0)) (fun x5 sg3 lg4 => ?_)
  refine c_cvI (hv0).k0 (e_X1_tell (hv0)) (fun x8 sg6 lg7 => ?_)
  rfl
/-! X1_needOf -/
def p_X1_needOf (F : Nat)  (b : Nat) (p : Nat) (v0 : Nat) (v1 : Int32) (v2 : Int32) (sg : Nat → Nat → Int32) (lg : Nat → Nat → Int64) : Option (Int32 × (Nat → Nat → Int32) × (Nat → Nat → Int64)) :=
  Option.bind (p_X7_ownedAt F  (b + 3) v1 v2 sg lg) (fun (x1 : Int32) =>
  if x1 = (-1 : Int32) then
  (gnm (up2 sg v0 4 (sg v0 3)) (fun (sg2 : Nat → Nat → Int32) =>
  Option.bind (mI sg2 (b + 3 + 1) 60 v1) (fun (x3 : Int32) =>
  Option.bind (p_X3_needAt F  p x3 v2 sg2 lg) (fun (x4 : Int32) =>
  Option.bind (mI sg2 (b + 3 + 2) 60 v1) (fun (x5 : Int32) =>
  hcI (p_X1_fetch F b p v0 x4 x5 sg2 lg) (fun (x8 : Int32) (sg6 : Nat → Nat → Int32) (lg7 : Nat → Nat → Int64) =>
  if x8 < 0 then
  (some (x8, sg6, lg7))
  else (hcU (p_X7_setOwned F  (b + 3) v1 v2 x8 sg6 lg7) (fun (sg9 : Nat → Nat → Int32) (lg10 : Nat → Nat → Int64) =>
  some (x8, sg9, lg10)))))))))
  else (some (x1, sg, lg)))
set_option maxRecDepth 100000 in
set_option maxHeartbeats 4000000 in
theorem e_X1_needOf {F : Nat} {K : HK} {pr : HP} {pt : Nat → Nat} {rr : HP} {n : Nat} {b : Nat} {p : Nat}  {v0 : Nat} {v1 : Int32} {v2 : Int32} (hv0 : OkMaker K pr pt v0 b p)  {sg : Nat → Nat → Int32} {lg : Nat → Nat → Int64} : f_X1_needOf F  v0 v1 v2 n (hp K pr pt rr sg lg) = Option.map (fun z => (z.1, n, hp K pr pt rr z.2.1 z.2.2)) (p_X1_needOf F  b p v0 v1 v2 sg lg) := by
  unfold f_X1_needOf p_X1_needOf
  refine c_gR (hv0).k0 rfl (hv0).p1 ?_
  refine c_cvP ((hv0).o1).k0 (e_X7_ownedAt ((hv0).o1)) (fun x1 => ?_)
  refine q_ite ?_ ?_
  · refine c_gI (hv0).k0 rfl ?_
    refine c_pI (hv0).k0 rfl (fun sg2 => ?_)
    refine c_gR (hv0).k0 rfl (hv0).p0 ?_
    refine c_gP ((hv0).o0).k0 rfl ((hv0).o0).p0 ?_
    refine c_gR (hv0).k0 rfl (hv0).p1 ?_
    refine c_gR ((hv0).o1).k0 rfl ((hv0).o1).p1 ?_
    refine c_aI ((hv0).o1).k1 (by decide) (fun x3 => ?_)
    refine c_cvP (((hv0).o0).o0).k0 (e_X3_needAt (((hv0).o0).o0)) (fun x4 => ?_)
    refine c_gR (hv0).k0 rfl (hv0).p1 ?_
    refine c_gR ((hv0).o1).k0 rfl ((hv0).o1).p2 ?_
    refine c_aI ((hv0).o1).k2 (by decide) (fun x5 => ?_)
    refine c_cvI (hv0).k0 (e_X1_fetch (hv0)) (fun x8 sg6 lg7 => ?_)
    refine q_ite ?_ ?_
    · rfl
    · refine c_gR (hv0).k0 rfl (hv0).p1 ?_
      refine c_cvU ((hv0).o1).k0 (e_X7_setOwned ((hv0).o1)) (fun sg9 lg10 => ?_)
      rfl
  · rfl
/-! X1_apply -/
def p_X1_apply (F : Nat)   (v0 : Int32) (v1 : Int32) (v2 : Int32) (sg : Nat → Nat → Int32) (lg : Nat → Nat → Int64) : Option (Int32) :=
  g_sw v0 [some (v1 + v2),
  some (v1 * v2),
  some (if v1 < v2 then v2 else v1),
  some (if v2 < v1 then v2 else v1),
  some (v1 - v2)] (some v1) 1
set_option maxRecDepth 100000 in
set_option maxHeartbeats 4000000 in
theorem e_X1_apply {F : Nat} {K : HK} {pr : HP} {pt : Nat → Nat} {rr : HP}   {v0 : Int32} {v1 : Int32} {v2 : Int32}   {sg : Nat → Nat → Int32} {lg : Nat → Nat → Int64} : f_X1_apply F  v0 v1 v2 (hp K pr pt rr sg lg) = p_X1_apply F   v0 v1 v2 sg lg := by
  refine Eq.trans ?_ (q_mid _)
  unfold f_X1_apply p_X1_apply
  refine q_swc ?_ (q_swc ?_ (q_swc ?_ (q_swc ?_ (q_swc ?_ (q_swn ?_)))))
  · rfl
  · rfl
  · rfl
  · rfl
  · rfl
  · rfl
/-! X1_reckon -/
def pk_X1_reckon_205 (F : Nat) (pf_X1_reckon : Nat → Int32 → (Nat → Nat → Int32) → (Nat → Nat → Int64) → Option (Int32 × (Nat → Nat → Int32) × (Nat → Nat → Int64))) (b : Nat) (p : Nat) (v0 : Nat)  (v1 : Int32) (v3 : Int64) (v5 : Int32)  (sg : Nat → Nat → Int32) (lg : Nat → Nat → Int64) : Option (Int32 × (Nat → Nat → Int32) × (Nat → Nat → Int64)) :=
  hcU (p_X1_pop F b p v0 sg lg) (fun (sg14 : Nat → Nat → Int32) (lg15 : Nat → Nat → Int64) =>
  gnm (up3 lg15 v0 5 ((lg15 v0 5) &&& (v3 ^^^ (-1 : Int64)))) (fun (lg16 : Nat → Nat → Int64) =>
  hcU (p_X7_setValue F  (b + 3) v1 v5 sg14 lg16) (fun (sg17 : Nat → Nat → Int32) (lg18 : Nat → Nat → Int64) =>
  some ((1 : Int32), sg17, lg18))))
def pk_X1_reckon_170 (F : Nat) (pf_X1_reckon : Nat → Int32 → (Nat → Nat → Int32) → (Nat → Nat → Int64) → Option (Int32 × (Nat → Nat → Int32) × (Nat → Nat → Int64))) (b : Nat) (p : Nat) (v0 : Nat) (prec138 : Int32 → Int32 → (Nat → Nat → Int32) → (Nat → Nat → Int64) → Option (Int32 × (Nat → Nat → Int32) × (Nat → Nat → Int64))) (v1 : Int32) (v3 : Int64) (v5 : Int32) (v6 : Int32) (v7 : Int32) (v8 : Int32) (v9 : Int32) (s0 : Int32) (sg : Nat → Nat → Int32) (lg : Nat → Nat → Int64) : Option (Int32 × (Nat → Nat → Int32) × (Nat → Nat → Int64)) :=
  if 0 ≤ s0 then
  (Option.bind (mI sg (b + 3 + 4) 60 v9) (fun (x25 : Int32) =>
  Option.bind (p_X1_apply F  v6 v5 x25 sg lg) (fun (x26 : Int32) =>
  prec138 x26 (v8 + 1) sg lg)))
  else (some (s0, sg, lg))
def pb_X1_reckon_138 (F : Nat) (pf_X1_reckon : Nat → Int32 → (Nat → Nat → Int32) → (Nat → Nat → Int64) → Option (Int32 × (Nat → Nat → Int32) × (Nat → Nat → Int64))) (b : Nat) (p : Nat) (v0 : Nat)  (v1 : Int32) (v3 : Int64) (v6 : Int32) (v7 : Int32) (prec138 : Int32 → Int32 → (Nat → Nat → Int32) → (Nat → Nat → Int64) → Option (Int32 × (Nat → Nat → Int32) × (Nat → Nat → Int64))) : Int32 → Int32 → (Nat → Nat → Int32) → (Nat → Nat → Int64) → Option (Int32 × (Nat → Nat → Int32) × (Nat → Nat → Int64)) := fun v5 v8 sg lg =>
  if v7 ≤ v8 then
  (pk_X1_reckon_205 F pf_X1_reckon b p v0  v1 v3 v5 sg lg)
  else (hcI (p_X1_needOf F b p v0 v1 v8 sg lg) (fun (x21 : Int32) (sg19 : Nat → Nat → Int32) (lg20 : Nat → Nat → Int64) =>
  if 0 ≤ x21 then
  (hcI (pf_X1_reckon v0 x21 sg19 lg20) (fun (x24 : Int32) (sg22 : Nat → Nat → Int32) (lg23 : Nat → Nat → Int64) =>
  pk_X1_reckon_170 F pf_X1_reckon b p v0 prec138 v1 v3 v5 v6 v7 v8 x21 x24 sg22 lg23))
  else (pk_X1_reckon_170 F pf_X1_reckon b p v0 prec138 v1 v3 v5 v6 v7 v8 x21 x21 sg19 lg20)))
def pk_X1_reckon_133 (F : Nat) (pf_X1_reckon : Nat → Int32 → (Nat → Nat → Int32) → (Nat → Nat → Int64) → Option (Int32 × (Nat → Nat → Int32) × (Nat → Nat → Int64))) (b : Nat) (p : Nat) (v0 : Nat)  (v1 : Int32) (v3 : Int64) (v5 : Int32) (v6 : Int32) (s0 : Int32) (sg : Nat → Nat → Int32) (lg : Nat → Nat → Int64) : Option (Int32 × (Nat → Nat → Int32) × (Nat → Nat → Int64)) :=
  fixN (fun _ _ _ _ => none) (pb_X1_reckon_138 F pf_X1_reckon b p v0  v1 v3 v6 s0) F v5 (0 : Int32) sg lg
def pg_X1_reckon (F : Nat) (pf_X1_reckon : Nat → Int32 → (Nat → Nat → Int32) → (Nat → Nat → Int64) → Option (Int32 × (Nat → Nat → Int32) × (Nat → Nat → Int64))) (b : Nat) (p : Nat) (v0 : Nat) (v1 : Int32) (sg : Nat → Nat → Int32) (lg : Nat → Nat → Int64) : Option (Int32 × (Nat → Nat → Int32) × (Nat → Nat → Int64)) :=
  Option.bind (p_X7_holds F  (b + 3) v1 sg lg) (fun (x1 : Int32) =>
  if x1 = 0 then
  (some ((-1 : Int32), sg, lg))
  else (Option.bind (mI sg (b + 3 + 3) 60 v1) (fun (x2 : Int32) =>
  if x2 = 0 then
  (Option.bind (mI sg (b + 3 + 1) 60 v1) (fun (x3 : Int32) =>
  gnm ((1 : Int64) <<< ((Int32.toInt64 v1) &&& 63)) (fun (y4 : Int64) =>
  if (60 : Int32) ≤ (sg v0 3) then
  (hcI (p_X1_refuse F b p v0 x3 (-2 : Int32) sg lg) (fun (x7 : Int32) (sg5 : Nat → Nat → Int32) (lg6 : Nat → Nat → Int64) =>
  some (x7, sg5, lg6)))
  else (if (lg_cmp ((lg v0 5) &&& y4) (0 : Int64)) = 0 then
  (hcU (p_X1_push F b p v0 x3 sg lg) (fun (sg8 : Nat → Nat → Int32) (lg9 : Nat → Nat → Int64) =>
  gnm (up3 lg9 v0 5 ((lg9 v0 5) ||| y4)) (fun (lg10 : Nat → Nat → Int64) =>
  Option.bind (mI sg8 (p + 2) 12 x3) (fun (x11 : Int32) =>
  Option.bind (mI sg8 (p + 1) 12 x3) (fun (x12 : Int32) =>
  if x12 = 0 then
  (pk_X1_reckon_133 F pf_X1_reckon b p v0  v1 y4 x11 x12 (0 : Int32) sg8 lg10)
  else (Option.bind (mI sg8 (p + 6) 12 x3) (fun (x13 : Int32) =>
  pk_X1_reckon_133 F pf_X1_reckon b p v0  v1 y4 x11 x12 x13 sg8 lg10)))))))
  else (hcI (p_X1_refuse F b p v0 x3 (-2 : Int32) sg lg) (fun (x29 : Int32) (sg27 : Nat → Nat → Int32) (lg28 : Nat → Nat → Int64) =>
  some (x29, sg27, lg28)))))))
  else (some ((1 : Int32), sg, lg)))))
set_option maxRecDepth 100000 in
set_option maxHeartbeats 4000000 in
theorem ec_X1_reckon_205 {F : Nat} {K : HK} {pr : HP} {pt : Nat → Nat} {rr : HP} {n : Nat} {b : Nat} {p : Nat} {rf_X1_reckon : Nat → Int32 → Nat → GH → Option (Int32 × Nat × GH)} {pf_X1_reckon : Nat → Int32 → (Nat → Nat → Int32) → (Nat → Nat → Int64) → Option (Int32 × (Nat → Nat → Int32) × (Nat → Nat → Int64))} {v0 : Nat}  (hv0 : OkMaker K pr pt v0 b p) (hg_X1_reckon : ∀ (u1 : Int32) (sg : Nat → Nat → Int32) (lg : Nat → Nat → Int64), rf_X1_reckon v0 u1 n (hp K pr pt rr sg lg) = Option.map (fun z => (z.1, n, hp K pr pt rr z.2.1 z.2.2)) (pf_X1_reckon v0 u1 sg lg))  {v1 : Int32} {v3 : Int64} {v5 : Int32}  {sg : Nat → Nat → Int32} {lg : Nat → Nat → Int64} : k_X1_reckon_205 F rf_X1_reckon  v0 v1 v3 v5  n (hp K pr pt rr sg lg) = Option.map (fun z => (z.1, n, hp K pr pt rr z.2.1 z.2.2)) (pk_X1_reckon_205 F pf_X1_reckon b p v0  v1 v3 v5  sg lg) := by
  unfold k_X1_reckon_205 pk_X1_reckon_205
  refine c_cvU (hv0).k0 (e_X1_pop (hv0)) (fun sg14 lg15 => ?_)
  refine c_gJ (hv0).k0 rfl ?_
  refine c_pJ (hv0).k0 rfl (fun lg16 => ?_)
  refine c_gR (hv0).k0 rfl (hv0).p1 ?_
  refine c_cvU ((hv0).o1).k0 (e_X7_setValue ((hv0).o1)) (fun sg17 lg18 => ?_)
  rfl
set_option maxRecDepth 100000 in
set_option maxHeartbeats 4000000 in
theorem ec_X1_reckon_170 {F : Nat} {K : HK} {pr : HP} {pt : Nat → Nat} {rr : HP} {n : Nat} {b : Nat} {p : Nat} {rf_X1_reckon : Nat → Int32 → Nat → GH → Option (Int32 × Nat × GH)} {pf_X1_reckon : Nat → Int32 → (Nat → Nat → Int32) → (Nat → Nat → Int64) → Option (Int32 × (Nat → Nat → Int32) × (Nat → Nat → Int64))} {v0 : Nat} {rec138 : Int32 → Int32 → Nat → GH → Option (Int32 × Nat × GH)} {prec138 : Int32 → Int32 → (Nat → Nat → Int32) → (Nat → Nat → Int64) → Option (Int32 × (Nat → Nat → Int32) × (Nat → Nat → Int64))} (hv0 : OkMaker K pr pt v0 b p) (hg_X1_reckon : ∀ (u1 : Int32) (sg : Nat → Nat → Int32) (lg : Nat → Nat → Int64), rf_X1_reckon v0 u1 n (hp K pr pt rr sg lg) = Option.map (fun z => (z.1, n, hp K pr pt rr z.2.1 z.2.2)) (pf_X1_reckon v0 u1 sg lg)) (hrec138 : ∀ (w5 : Int32) (w8 : Int32) (sg : Nat → Nat → Int32) (lg : Nat → Nat → Int64), rec138 w5 w8 n (hp K pr pt rr sg lg) = Option.map (fun z => (z.1, n, hp K pr pt rr z.2.1 z.2.2)) (prec138 w5 w8 sg lg)) {v1 : Int32} {v3 : Int64} {v5 : Int32} {v6 : Int32} {v7 : Int32} {v8 : Int32} {v9 : Int32} {s0 : Int32} {sg : Nat → Nat → Int32} {lg : Nat → Nat → Int64} : k_X1_reckon_170 F rf_X1_reckon rec138 v0 v1 v3 v5 v6 v7 v8 v9 s0 n (hp K pr pt rr sg lg) = Option.map (fun z => (z.1, n, hp K pr pt rr z.2.1 z.2.2)) (pk_X1_reckon_170 F pf_X1_reckon b p v0 prec138 v1 v3 v5 v6 v7 v8 v9 s0 sg lg) := by
  unfold k_X1_reckon_170 pk_X1_reckon_170
  refine q_ite ?_ ?_
  · refine c_gR (hv0).k0 rfl (hv0).p1 ?_
    refine c_gR ((hv0).o1).k0 rfl ((hv0).o1).p4 ?_
    refine c_aI ((hv0).o1).k4 (by decide) (fun x25 => ?_)
    refine q_bd (e_X1_apply ) (fun x26 => ?_)
    exact hrec138 _ _ _ _
  · rfl
set_option maxRecDepth 100000 in
set_option maxHeartbeats 4000000 in
theorem el_X1_reckon_138 {F : Nat} {K : HK} {pr : HP} {pt : Nat → Nat} {rr : HP} {n : Nat} {b : Nat} {p : Nat} {rf_X1_reckon : Nat → Int32 → Nat → GH → Option (Int32 × Nat × GH)} {pf_X1_reckon : Nat → Int32 → (Nat → Nat → Int32) → (Nat → Nat → Int64) → Option (Int32 × (Nat → Nat → Int32) × (Nat → Nat → Int64))} {v0 : Nat}  (hv0 : OkMaker K pr pt v0 b p) (hg_X1_reckon : ∀ (u1 : Int32) (sg : Nat → Nat → Int32) (lg : Nat → Nat → Int64), rf_X1_reckon v0 u1 n (hp K pr pt rr sg lg) = Option.map (fun z => (z.1, n, hp K pr pt rr z.2.1 z.2.2)) (pf_X1_reckon v0 u1 sg lg))  {v1 : Int32} {v3 : Int64} {v6 : Int32} {v7 : Int32} : ∀ (k : Nat) (v5 : Int32) (v8 : Int32) (sg : Nat → Nat → Int32) (lg : Nat → Nat → Int64), fixN ((fun _ _ _ _ => none) : Int32 → Int32 → Nat → GH → Option (Int32 × Nat × GH)) (b_X1_reckon_138 F rf_X1_reckon  v0 v1 v3 v6 v7) k v5 v8 n (hp K pr pt rr sg lg) = Option.map (fun z => (z.1, n, hp K pr pt rr z.2.1 z.2.2)) (fixN ((fun _ _ _ _ => none) : Int32 → Int32 → (Nat → Nat → Int32) → (Nat → Nat → Int64) → Option (Int32 × (Nat → Nat → Int32) × (Nat → Nat → Int64))) (pb_X1_reckon_138 F pf_X1_reckon b p v0  v1 v3 v6 v7) k v5 v8 sg lg) := by
  intro k
  refine fixN_ind2 (P := fun (r : Int32 → Int32 → Nat → GH → Option (Int32 × Nat × GH)) (r1 : Int32 → Int32 → (Nat → Nat → Int32) → (Nat → Nat → Int64) → Option (Int32 × (Nat → Nat → Int32) × (Nat → Nat → Int64))) => ∀ (v5 : Int32) (v8 : Int32) (sg : Nat → Nat → Int32) (lg : Nat → Nat → Int64), r v5 v8 n (hp K pr pt rr sg lg) = Option.map (fun z => (z.1, n, hp K pr pt rr z.2.1 z.2.2)) (r1 v5 v8 sg lg)) ?_ ?_ k
  · intro v5 v8 sg lg
    rfl
  · intro rec138 prec138 hrec138 v5 v8 sg lg
    unfold b_X1_reckon_138 pb_X1_reckon_138
    refine q_ite ?_ ?_
    · exact ec_X1_reckon_205 hv0 hg_X1_reckon 
    · refine c_cvI (hv0).k0 (e_X1_needOf (hv0)) (fun x21 sg19 lg20 => ?_)
      refine q_ite ?_ ?_
      · refine c_cvI (hv0).k0 (hg_X1_reckon _ _ _) (fun x24 sg22 lg23 => ?_)
        exact ec_X1_reckon_170 hv0 hg_X1_reckon hrec138
      · exact ec_X1_reckon_170 hv0 hg_X1_reckon hrec138
set_option maxRecDepth 100000 in
set_option maxHeartbeats 4000000 in
theorem ec_X1_reckon_133 {F : Nat} {K : HK} {pr : HP} {pt : Nat → Nat} {rr : HP} {n : Nat} {b : Nat} {p : Nat} {rf_X1_reckon : Nat → Int32 → Nat → GH → Option (Int32 × Nat × GH)} {pf_X1_reckon : Nat → Int32 → (Nat → Nat → Int32) → (Nat → Nat → Int64) → Option (Int32 × (Nat → Nat → Int32) × (Nat → Nat → Int64))} {v0 : Nat}  (hv0 : OkMaker K pr pt v0 b p) (hg_X1_reckon : ∀ (u1 : Int32) (sg : Nat → Nat → Int32) (lg : Nat → Nat → Int64), rf_X1_reckon v0 u1 n (hp K pr pt rr sg lg) = Option.map (fun z => (z.1, n, hp K pr pt rr z.2.1 z.2.2)) (pf_X1_reckon v0 u1 sg lg))  {v1 : Int32} {v3 : Int64} {v5 : Int32} {v6 : Int32} {s0 : Int32} {sg : Nat → Nat → Int32} {lg : Nat → Nat → Int64} : k_X1_reckon_133 F rf_X1_reckon  v0 v1 v3 v5 v6 s0 n (hp K pr pt rr sg lg) = Option.map (fun z => (z.1, n, hp K pr pt rr z.2.1 z.2.2)) (pk_X1_reckon_133 F pf_X1_reckon b p v0  v1 v3 v5 v6 s0 sg lg) := by
  unfold k_X1_reckon_133 pk_X1_reckon_133
  exact el_X1_reckon_138 hv0 hg_X1_reckon  _ _ _ _ _
set_option maxRecDepth 100000 in
set_option maxHeartbeats 4000000 in
theorem eg_X1_reckon {F : Nat} {K : HK} {pr : HP} {pt : Nat → Nat} {rr : HP} {n : Nat} {b : Nat} {p : Nat} {rf_X1_reckon : Nat → Int32 → Nat → GH → Option (Int32 × Nat × GH)} {pf_X1_reckon : Nat → Int32 → (Nat → Nat → Int32) → (Nat → Nat → Int64) → Option (Int32 × (Nat → Nat → Int32) × (Nat → Nat → Int64))} {v0 : Nat} {v1 : Int32} (hv0 : OkMaker K pr pt v0 b p) (hg_X1_reckon : ∀ (u1 : Int32) (sg : Nat → Nat → Int32) (lg : Nat → Nat → Int64), rf_X1_reckon v0 u1 n (hp K pr pt rr sg lg) = Option.map (fun z => (z.1, n, hp K pr pt rr z.2.1 z.2.2)) (pf_X1_reckon v0 u1 sg lg)) {sg : Nat → Nat → Int32} {lg : Nat → Nat → Int64} : g_X1_reckon F rf_X1_reckon v0 v1 n (hp K pr pt rr sg lg) = Option.map (fun z => (z.1, n, hp K pr pt rr z.2.1 z.2.2)) (pg_X1_reckon F pf_X1_reckon b p v0 v1 sg lg) := by
  unfold g_X1_reckon pg_X1_reckon
  refine c_gR (hv0).k0 rfl (hv0).p1 ?_
  refine c_cvP ((hv0).o1).k0 (e_X7_holds ((hv0).o1)) (fun x1 => ?_)
  refine q_ite ?_ ?_
  · rfl
  · refine c_gR (hv0).k0 rfl (hv0).p1 ?_
    refine c_gR ((hv0).o1).k0 rfl ((hv0).o1).p3 ?_
    refine c_aI ((hv0).o1).k3 (by decide) (fun x2 => ?_)
    refine q_ite ?_ ?_
    · refine c_gR (hv0).k0 rfl (hv0).p1 ?_
      refine c_gR ((hv0).o1).k0 rfl ((hv0).o1).p1 ?_
      refine c_aI ((hv0).o1).k1 (by decide) (fun x3 => ?_)
      refine q_nm (fun y4 => ?_)
      refine c_gI (hv0).k0 rfl ?_
      refine q_ite ?_ ?_
      · refine c_cvI (hv0).k0 (e_X1_refuse (hv0)) (fun x7 sg5 lg6 => ?_)
        rfl
      · refine c_gJ (hv0).k0 rfl ?_
        refine q_ite ?_ ?_
        · refine c_cvU (hv0).k0 (e_X1_push (hv0)) (fun sg8 lg9 => ?_)
          refine c_gJ (hv0).k0 rfl ?_
          refine c_pJ (hv0).k0 rfl (fun lg10 => ?_)
          refine c_gR (hv0).k0 rfl (hv0).p0 ?_
          refine c_gP ((hv0).o0).k0 rfl ((hv0).o0).p0 ?_
          refine c_gR (((hv0).o0).o0).k0 rfl (((hv0).o0).o0).p2 ?_
          refine c_aI (((hv0).o0).o0).k2 (by decide) (fun x11 => ?_)
          refine c_gR (hv0).k0 rfl (hv0).p0 ?_
          refine c_gP ((hv0).o0).k0 rfl ((hv0).o0).p0 ?_
          refine c_gR (((hv0).o0).o0).k0 rfl (((hv0).o0).o0).p1 ?_
          refine c_aI (((hv0).o0).o0).k1 (by decide) (fun x12 => ?_)
          refine q_ite ?_ ?_
          · exact ec_X1_reckon_133 hv0 hg_X1_reckon 
          · refine c_gR (hv0).k0 rfl (hv0).p0 ?_
            refine c_gP ((hv0).o0).k0 rfl ((hv0).o0).p0 ?_
            refine c_gR (((hv0).o0).o0).k0 rfl (((hv0).o0).o0).p6 ?_
            refine c_aI (((hv0).o0).o0).k6 (by decide) (fun x13 => ?_)
            exact ec_X1_reckon_133 hv0 hg_X1_reckon 
        · refine c_cvI (hv0).k0 (e_X1_refuse (hv0)) (fun x29 sg27 lg28 => ?_)
          rfl
    · rfl
def p_X1_reckon (F : Nat) (b : Nat) (p : Nat) : Nat → Int32 → (Nat → Nat → Int32) → (Nat → Nat → Int64) → Option (Int32 × (Nat → Nat → Int32) × (Nat → Nat → Int64)) := fixN (fun _ _ _ _ => none) (fun pf => pg_X1_reckon F pf b p) 62
theorem e_X1_reckon {F : Nat} {K : HK} {pr : HP} {pt : Nat → Nat} {rr : HP} {n : Nat} {b : Nat} {p : Nat} {v0 : Nat} {v1 : Int32} (hv0 : OkMaker K pr pt v0 b p) {sg : Nat → Nat → Int32} {lg : Nat → Nat → Int64} : f_X1_reckon F v0 v1 n (hp K pr pt rr sg lg) = Option.map (fun z => (z.1, n, hp K pr pt rr z.2.1 z.2.2)) (p_X1_reckon F b p v0 v1 sg lg) := by
  have key : ∀ (d : Nat) (v1 : Int32) (sg : Nat → Nat → Int32) (lg : Nat → Nat → Int64), fixN ((fun _ _ _ _ => none) : Nat → Int32 → Nat → GH → Option (Int32 × Nat × GH)) (fun rf => g_X1_reckon F rf) d v0 v1 n (hp K pr pt rr sg lg) = Option.map (fun z => (z.1, n, hp K pr pt rr z.2.1 z.2.2)) (fixN ((fun _ _ _ _ => none) : Nat → Int32 → (Nat → Nat → Int32) → (Nat → Nat → Int64) → Option (Int32 × (Nat → Nat → Int32) × (Nat → Nat → Int64))) (fun pf => pg_X1_reckon F pf b p) d v0 v1 sg lg) := by
    intro d
    induction d with
    | zero => intro v1 sg lg; rfl
    | succ d ih => intro v1 sg lg; exact eg_X1_reckon hv0 ih
  exact key 62 _ _ _
/-! X1_reckonFor -/
def p_X1_reckonFor (F : Nat)  (b : Nat) (p : Nat) (v0 : Nat) (v1 : Int32) (sg : Nat → Nat → Int32) (lg : Nat → Nat → Int64) : Option (Int32 × (Nat → Nat → Int32) × (Nat → Nat → Int64)) :=
  hcU (p_X1_begin F b p v0 sg lg) (fun (sg1 : Nat → Nat → Int32) (lg2 : Nat → Nat → Int64) =>
  hcI (p_X1_reckon F b p v0 v1 sg1 lg2) (fun (x5 : Int32) (sg3 : Nat → Nat → Int32) (lg4 : Nat → Nat → Int64) =>
  hcI (p_X1_tell F b p v0 x5 sg3 lg4) (fun (x8 : Int32) (sg6 : Nat → Nat → Int32) (lg7 : Nat → Nat → Int64) =>
  some (x8, sg6, lg7))))
set_option maxRecDepth 100000 in
set_option maxHeartbeats 4000000 in
theorem e_X1_reckonFor {F : Nat} {K : HK} {pr : HP} {pt : Nat → Nat} {rr : HP} {n : Nat} {b : Nat} {p : Nat}  {v0 : Nat} {v1 : Int32} (hv0 : OkMaker K pr pt v0 b p)  {sg : Nat → Nat → Int32} {lg : Nat → Nat → Int64} : f_X1_reckonFor F  v0 v1 n (hp K pr pt rr sg lg) = Option.map (fun z => (z.1, n, hp K pr pt rr z.2.1 z.2.2)) (p_X1_reckonFor F  b p v0 v1 sg lg) := by
  unfold f_X1_reckonFor p_X1_reckonFor
  refine c_cvU (hv0).k0 (e_X1_begin (hv0)) (fun sg1 lg2 => ?_)
  refine c_cvI (hv0).k0 (e_X1_reckon (hv0)) (fun x5 sg3 lg4 => ?_)
  refine c_cvI (hv0).k0 (e_X1_tell (hv0)) (fun x8 sg6 lg7 => ?_)
  rfl
