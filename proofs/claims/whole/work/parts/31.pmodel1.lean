/-! X11_thrown -/
def p_X11_thrown (F : Nat)  (sg : Nat → Nat → Int32) (w : Int64) : Option (Int32) :=
  some (sg 0 0)
set_option maxRecDepth 100000 in
set_option maxHeartbeats 4000000 in
theorem e_X11_thrown {F : Nat} {G0 : GH} {mo : Nat}  {sg : Nat → Nat → Int32} {w : Int64} : f_X11_thrown F mo  (mput G0 mo sg w) = p_X11_thrown F  sg w := by
  refine Eq.trans ?_ (q_mid _)
  unfold f_X11_thrown p_X11_thrown
  refine q_gI 0 rfl ?_
  rfl
/-! X11_in -/
def p_X11_in (F : Nat) (v0 : Int32) (v1 : Int32) (v2 : Int32) : Option (Int32) :=
  if v0 < v1 then
  (rP .boolean (0 : Int32))
  else (if v2 < v0 then
  (rP .boolean (0 : Int32))
  else (rP .boolean (1 : Int32)))
set_option maxRecDepth 100000 in
set_option maxHeartbeats 4000000 in
theorem e_X11_in {F : Nat} {G : GH} {v0 : Int32} {v1 : Int32} {v2 : Int32} : f_X11_in F v0 v1 v2 G = p_X11_in F v0 v1 v2 := by
  refine Eq.trans ?_ (q_mid _)
  unfold f_X11_in p_X11_in
  refine q_ite ?_ ?_
  · exact q_id
  · refine q_ite ?_ ?_
    · exact q_id
    · exact q_id
/-! X11_of -/
def p_X11_of (F : Nat) (v1 : Int32) (v2 : Int32) (sg : Nat → Nat → Int32) (w : Int64) : Option (Int32) :=
  Option.bind (mI sg 1 4470 (((1 : Int32) + ((11 : Int32) * v1)) + v2)) (fun (x1 : Int32) =>
  some x1)
set_option maxRecDepth 100000 in
set_option maxHeartbeats 4000000 in
theorem e_X11_of {F : Nat} {G0 : GH} {mo : Nat} {v1 : Int32} {v2 : Int32} {sg : Nat → Nat → Int32} {w : Int64} : f_X11_of F mo v1 v2 (mput G0 mo sg w) = p_X11_of F v1 v2 sg w := by
  refine Eq.trans ?_ (q_mid _)
  unfold f_X11_of p_X11_of
  refine q_gR 1 1 rfl ?_
  refine q_aI rfl rfl (by decide) (fun x1 => ?_)
  rfl
/-! X11_isLazy -/
def p_X11_isLazy (F : Nat) (v1 : Int32) (v2 : Int32) (sg : Nat → Nat → Int32) (w : Int64) : Option (Int32) :=
  Option.bind (p_X11_of F v1 (7 : Int32) sg w) (fun (x1 : Int32) =>
  if ((x1 >>> (v2 &&& 31)) &&& (1 : Int32)) = (1 : Int32) then
  (rP .boolean (1 : Int32))
  else (rP .boolean (0 : Int32)))
set_option maxRecDepth 100000 in
set_option maxHeartbeats 4000000 in
theorem e_X11_isLazy {F : Nat} {G0 : GH} {mo : Nat} {v1 : Int32} {v2 : Int32} {sg : Nat → Nat → Int32} {w : Int64} : f_X11_isLazy F mo v1 v2 (mput G0 mo sg w) = p_X11_isLazy F v1 v2 sg w := by
  refine Eq.trans ?_ (q_mid _)
  unfold f_X11_isLazy p_X11_isLazy
  refine q_cvP (e_X11_of) (fun x1 => ?_)
  refine q_ite ?_ ?_
  · exact q_id
  · exact q_id
/-! X11_isPart -/
def p_X11_isPart (F : Nat) (v1 : Int32) (sg : Nat → Nat → Int32) (w : Int64) : Option (Int32) :=
  Option.bind (mI sg 1 4470 (0 : Int32)) (fun (x1 : Int32) =>
  Option.bind (p_X11_in F v1 (0 : Int32) (x1 - (1 : Int32))) (fun (x2 : Int32) =>
  rP .boolean x2))
set_option maxRecDepth 100000 in
set_option maxHeartbeats 4000000 in
theorem e_X11_isPart {F : Nat} {G0 : GH} {mo : Nat} {v1 : Int32} {sg : Nat → Nat → Int32} {w : Int64} : f_X11_isPart F mo v1 (mput G0 mo sg w) = p_X11_isPart F v1 sg w := by
  refine Eq.trans ?_ (q_mid _)
  unfold f_X11_isPart p_X11_isPart
  refine q_gR 1 1 rfl ?_
  refine q_aI rfl rfl (by decide) (fun x1 => ?_)
  refine q_bd (e_X11_in) (fun x2 => ?_)
  exact q_id
/-! X11_its -/
def p_X11_its (F : Nat) (v1 : Int32) (v2 : Int32) (sg : Nat → Nat → Int32) (w : Int64) : Option (Int32) :=
  Option.bind (mI sg 1 4470 (((207 : Int32) + ((8 : Int32) * v1)) + v2)) (fun (x1 : Int32) =>
  some x1)
set_option maxRecDepth 100000 in
set_option maxHeartbeats 4000000 in
theorem e_X11_its {F : Nat} {G0 : GH} {mo : Nat} {v1 : Int32} {v2 : Int32} {sg : Nat → Nat → Int32} {w : Int64} : f_X11_its F mo v1 v2 (mput G0 mo sg w) = p_X11_its F v1 v2 sg w := by
  refine Eq.trans ?_ (q_mid _)
  unfold f_X11_its p_X11_its
  refine q_gR 1 1 rfl ?_
  refine q_aI rfl rfl (by decide) (fun x1 => ?_)
  rfl
/-! X11_itIs -/
def p_X11_itIs (F : Nat) (v1 : Int32) (v2 : Int32) (v3 : Int32) (sg : Nat → Nat → Int32) (w : Int64) : Option ((Nat → Nat → Int32) × Int64) :=
  Option.bind (mS sg 1 4470 (((207 : Int32) + ((8 : Int32) * v1)) + v2) v3) (fun (sg1 : Nat → Nat → Int32) =>
  some (sg1, w))
set_option maxRecDepth 100000 in
set_option maxHeartbeats 4000000 in
theorem e_X11_itIs {F : Nat} {G0 : GH} {mo n : Nat} {v1 : Int32} {v2 : Int32} {v3 : Int32} {sg : Nat → Nat → Int32} {w : Int64} : f_X11_itIs F mo v1 v2 v3 n (mput G0 mo sg w) = Option.map (fun z => (n, mput G0 mo z.1 z.2)) (p_X11_itIs F v1 v2 v3 sg w) := by
  unfold f_X11_itIs p_X11_itIs
  refine q_gR 1 1 rfl ?_
  refine q_aS rfl rfl (by decide) (fun sg1 => ?_)
  rfl
/-! X11_isThing -/
def p_X11_isThing (F : Nat) (v1 : Int32) (sg : Nat → Nat → Int32) (w : Int64) : Option (Int32) :=
  Option.bind (mI sg 1 4470 (206 : Int32)) (fun (x1 : Int32) =>
  Option.bind (p_X11_in F v1 (0 : Int32) (x1 - (1 : Int32))) (fun (x2 : Int32) =>
  rP .boolean x2))
set_option maxRecDepth 100000 in
set_option maxHeartbeats 4000000 in
theorem e_X11_isThing {F : Nat} {G0 : GH} {mo : Nat} {v1 : Int32} {sg : Nat → Nat → Int32} {w : Int64} : f_X11_isThing F mo v1 (mput G0 mo sg w) = p_X11_isThing F v1 sg w := by
  refine Eq.trans ?_ (q_mid _)
  unfold f_X11_isThing p_X11_isThing
  refine q_gR 1 1 rfl ?_
  refine q_aI rfl rfl (by decide) (fun x1 => ?_)
  refine q_bd (e_X11_in) (fun x2 => ?_)
  exact q_id
/-! X11_type -/
def pk_X11_type_107 (F : Nat)    (sg : Nat → Nat → Int32) (w : Int64) : Option (Int32 × (Nat → Nat → Int32) × Int64) :=
  Option.bind (mI sg 1 4470 (891 : Int32)) (fun (x3 : Int32) =>
  some (x3, sg, w))
def pb_X11_type_58 (F : Nat)  (v1 : Int64) (v3 : Int32) (prec58 : Int32 → (Nat → Nat → Int32) → Int64 → Option (Int32 × (Nat → Nat → Int32) × Int64)) : Int32 → (Nat → Nat → Int32) → Int64 → Option (Int32 × (Nat → Nat → Int32) × Int64) := fun v4 sg w =>
  if v3 ≤ v4 then
  (pk_X11_type_107 F  sg w)
  else (Option.bind (mI sg 1 4470 (891 : Int32)) (fun (x4 : Int32) =>
  Option.bind (mS sg 2 2400 x4 (vp_nar .byte (Int8.toInt32 (Int32.toInt8 (Int64.toInt32 (v1 >>> ((Int32.toInt64 ((56 : Int32) - ((8 : Int32) * v4))) &&& 63))))))) (fun (sg5 : Nat → Nat → Int32) =>
  Option.bind (mI sg5 1 4470 (891 : Int32)) (fun (x6 : Int32) =>
  Option.bind (mS sg5 1 4470 (891 : Int32) (x6 + (1 : Int32))) (fun (sg7 : Nat → Nat → Int32) =>
  prec58 (v4 + 1) sg7 w)))))
def pk_X11_type_37 (F : Nat)  (v1 : Int64) (v3 : Int32)  (sg : Nat → Nat → Int32) (w : Int64) : Option (Int32 × (Nat → Nat → Int32) × Int64) :=
  Option.bind (mI sg 1 4470 (891 : Int32)) (fun (x2 : Int32) =>
  if (x2 + v3) ≤ (600 : Int32) then
  (fixN (fun _ _ _ => none) (pb_X11_type_58 F  v1 v3) F (0 : Int32) sg w)
  else (some ((-1 : Int32), sg, w)))
def pb_X11_type_7 (F : Nat)  (v1 : Int64) (sg : Nat → Nat → Int32) (w : Int64) (prec7 : Int32 → Option (Int32 × (Nat → Nat → Int32) × Int64)) : Int32 → Option (Int32 × (Nat → Nat → Int32) × Int64) := fun v3 =>
  if (8 : Int32) ≤ v3 then
  (pk_X11_type_37 F  v1 v3 sg w)
  else (if (lg_cmp ((v1 >>> ((Int32.toInt64 ((56 : Int32) - ((8 : Int32) * v3))) &&& 63)) &&& (255 : Int64)) (0 : Int64)) = 0 then
  (pk_X11_type_37 F  v1 v3 sg w)
  else (prec7 (v3 + 1)))
def p_X11_type (F : Nat) (v1 : Int64) (sg : Nat → Nat → Int32) (w : Int64) : Option (Int32 × (Nat → Nat → Int32) × Int64) :=
  gnm (up2 sg 0 0 (0 : Int32)) (fun (sg1 : Nat → Nat → Int32) =>
  fixN (fun _ => none) (pb_X11_type_7 F  v1 sg1 w) F (0 : Int32))
set_option maxRecDepth 100000 in
set_option maxHeartbeats 4000000 in
theorem ec_X11_type_107 {F : Nat} {G0 : GH} {mo n : Nat}     {sg : Nat → Nat → Int32} {w : Int64} : k_X11_type_107 F  mo  n (mput G0 mo sg w) = Option.map (fun z => (z.1, n, mput G0 mo z.2.1 z.2.2)) (pk_X11_type_107 F    sg w) := by
  unfold k_X11_type_107 pk_X11_type_107
  refine q_gR 1 1 rfl ?_
  refine q_aI rfl rfl (by decide) (fun x3 => ?_)
  rfl
set_option maxRecDepth 100000 in
set_option maxHeartbeats 4000000 in
theorem el_X11_type_58 {F : Nat} {G0 : GH} {mo n : Nat}   {v1 : Int64} {v3 : Int32} : ∀ (K : Nat) (v4 : Int32) (sg : Nat → Nat → Int32) (w : Int64), fixN ((fun _ _ _ => none) : Int32 → Nat → GH → Option (Int32 × Nat × GH)) (b_X11_type_58 F  mo v1 v3) K v4 n (mput G0 mo sg w) = Option.map (fun z => (z.1, n, mput G0 mo z.2.1 z.2.2)) (fixN ((fun _ _ _ => none) : Int32 → (Nat → Nat → Int32) → Int64 → Option (Int32 × (Nat → Nat → Int32) × Int64)) (pb_X11_type_58 F  v1 v3) K v4 sg w) := by
  intro K
  refine fixN_ind2 (P := fun (r : Int32 → Nat → GH → Option (Int32 × Nat × GH)) (r1 : Int32 → (Nat → Nat → Int32) → Int64 → Option (Int32 × (Nat → Nat → Int32) × Int64)) => ∀ (v4 : Int32) (sg : Nat → Nat → Int32) (w : Int64), r v4 n (mput G0 mo sg w) = Option.map (fun z => (z.1, n, mput G0 mo z.2.1 z.2.2)) (r1 v4 sg w)) ?_ ?_ K
  · intro v4 sg w
    rfl
  · intro rec58 prec58 hrec58 v4 sg w
    unfold b_X11_type_58 pb_X11_type_58
    refine q_ite ?_ ?_
    · exact ec_X11_type_107 
    · refine q_gR 2 2 rfl ?_
      refine q_gR 1 1 rfl ?_
      refine q_aI rfl rfl (by decide) (fun x4 => ?_)
      refine q_aS rfl rfl (by decide) (fun sg5 => ?_)
      refine q_gR 1 1 rfl ?_
      refine q_aI rfl rfl (by decide) (fun x6 => ?_)
      refine q_aS rfl rfl (by decide) (fun sg7 => ?_)
      exact hrec58 _ _ _
set_option maxRecDepth 100000 in
set_option maxHeartbeats 4000000 in
theorem ec_X11_type_37 {F : Nat} {G0 : GH} {mo n : Nat}   {v1 : Int64} {v3 : Int32}  {sg : Nat → Nat → Int32} {w : Int64} : k_X11_type_37 F  mo v1 v3  n (mput G0 mo sg w) = Option.map (fun z => (z.1, n, mput G0 mo z.2.1 z.2.2)) (pk_X11_type_37 F  v1 v3  sg w) := by
  unfold k_X11_type_37 pk_X11_type_37
  refine q_gR 1 1 rfl ?_
  refine q_aI rfl rfl (by decide) (fun x2 => ?_)
  refine q_ite ?_ ?_
  · exact el_X11_type_58  _ _ _ _
  · rfl
set_option maxRecDepth 100000 in
set_option maxHeartbeats 4000000 in
theorem el_X11_type_7 {F : Nat} {G0 : GH} {mo n : Nat}   {v1 : Int64} {sg : Nat → Nat → Int32} {w : Int64} : ∀ (K : Nat) (v3 : Int32), fixN ((fun _ => none) : Int32 → Option (Int32 × Nat × GH)) (b_X11_type_7 F  mo v1 n (mput G0 mo sg w)) K v3 = Option.map (fun z => (z.1, n, mput G0 mo z.2.1 z.2.2)) (fixN ((fun _ => none) : Int32 → Option (Int32 × (Nat → Nat → Int32) × Int64)) (pb_X11_type_7 F  v1 sg w) K v3) := by
  intro K
  refine fixN_ind2 (P := fun (r : Int32 → Option (Int32 × Nat × GH)) (r1 : Int32 → Option (Int32 × (Nat → Nat → Int32) × Int64)) => ∀ (v3 : Int32), r v3 = Option.map (fun z => (z.1, n, mput G0 mo z.2.1 z.2.2)) (r1 v3)) ?_ ?_ K
  · intro v3
    rfl
  · intro rec7 prec7 hrec7 v3
    unfold b_X11_type_7 pb_X11_type_7
    refine q_ite ?_ ?_
    · exact ec_X11_type_37 
    · refine q_ite ?_ ?_
      · exact ec_X11_type_37 
      · exact hrec7 _
set_option maxRecDepth 100000 in
set_option maxHeartbeats 4000000 in
theorem e_X11_type {F : Nat} {G0 : GH} {mo n : Nat} {v1 : Int64} {sg : Nat → Nat → Int32} {w : Int64} : f_X11_type F mo v1 n (mput G0 mo sg w) = Option.map (fun z => (z.1, n, mput G0 mo z.2.1 z.2.2)) (p_X11_type F v1 sg w) := by
  unfold f_X11_type p_X11_type
  refine q_pI 0 (mp_0 _ _ _ _) (fun sg1 => ?_)
  exact el_X11_type_7  _ _
/-! X11_see -/
def p_X11_see (F : Nat)  (sg : Nat → Nat → Int32) (w : Int64) : Option (Int32) :=
  if (sg 0 7) ≤ (sg 0 6) then
  (some (-1 : Int32))
  else (Option.bind (mI sg 2 2400 (sg 0 6)) (fun (x1 : Int32) =>
  some (x1 &&& (255 : Int32))))
set_option maxRecDepth 100000 in
set_option maxHeartbeats 4000000 in
theorem e_X11_see {F : Nat} {G0 : GH} {mo : Nat}  {sg : Nat → Nat → Int32} {w : Int64} : f_X11_see F mo  (mput G0 mo sg w) = p_X11_see F  sg w := by
  refine Eq.trans ?_ (q_mid _)
  unfold f_X11_see p_X11_see
  refine q_gI 6 rfl ?_
  refine q_gI 7 rfl ?_
  refine q_ite ?_ ?_
  · rfl
  · refine q_gR 2 2 rfl ?_
    refine q_gI 6 rfl ?_
    refine q_aI rfl rfl (by decide) (fun x1 => ?_)
    rfl
/-! X11_token -/
def pk_X11_token_18 (F : Nat) (prec0 : (Nat → Nat → Int32) → Int64 → Option ((Nat → Nat → Int32) × Int64))   (sg : Nat → Nat → Int32) (w : Int64) : Option ((Nat → Nat → Int32) × Int64) :=
  gnm (up2 sg 0 6 ((sg 0 6) + (1 : Int32))) (fun (sg2 : Nat → Nat → Int32) =>
  prec0  sg2 w)
def pk_X11_token_229 (F : Nat)  (v2 : Int32)  (sg : Nat → Nat → Int32) (w : Int64) : Option ((Nat → Nat → Int32) × Int64) :=
  if v2 ≤ (3 : Int32) then
  (gnm (up2 sg 0 9 (3 : Int32)) (fun (sg18 : Nat → Nat → Int32) =>
  some (sg18, w)))
  else (gnm (up2 sg 0 9 (1 : Int32)) (fun (sg19 : Nat → Nat → Int32) =>
  some (sg19, w)))
def pk_X11_token_210 (F : Nat) (prec168 : Int32 → (Nat → Nat → Int32) → Int64 → Option ((Nat → Nat → Int32) × Int64)) (v2 : Int32) (s1 : Int32) (sg : Nat → Nat → Int32) (w : Int64) : Option ((Nat → Nat → Int32) × Int64) :=
  gnm (up2 sg 0 11 s1) (fun (sg20 : Nat → Nat → Int32) =>
  gnm (up2 sg20 0 6 ((sg20 0 6) + (1 : Int32))) (fun (sg21 : Nat → Nat → Int32) =>
  prec168 (v2 + 1) sg21 w))
def pb_X11_token_168 (F : Nat)   (prec168 : Int32 → (Nat → Nat → Int32) → Int64 → Option ((Nat → Nat → Int32) × Int64)) : Int32 → (Nat → Nat → Int32) → Int64 → Option ((Nat → Nat → Int32) × Int64) := fun v2 sg w =>
  Option.bind (p_X11_see F  sg w) (fun (x16 : Int32) =>
  Option.bind (p_X11_in F x16 (48 : Int32) (57 : Int32)) (fun (x17 : Int32) =>
  if x17 = 0 then
  (pk_X11_token_229 F  v2 sg w)
  else (if (3 : Int32) ≤ v2 then
  (pk_X11_token_210 F prec168 v2 (sg 0 11) sg w)
  else (Option.bind (p_X11_see F  sg w) (fun (x22 : Int32) =>
  pk_X11_token_210 F prec168 v2 ((((10 : Int32) * (sg 0 11)) + x22) - (48 : Int32)) sg w)))))
def pk_X11_token_126 (F : Nat)  (v2 : Int32)  (sg : Nat → Nat → Int32) (w : Int64) : Option ((Nat → Nat → Int32) × Int64) :=
  if v2 ≤ (8 : Int32) then
  (gnm (w) (fun (w25 : Int64) =>
  gnm (up2 sg 0 9 (2 : Int32)) (fun (sg26 : Nat → Nat → Int32) =>
  some (sg26, w25))))
  else (gnm ((0 : Int64)) (fun (w27 : Int64) =>
  gnm (up2 sg 0 9 (2 : Int32)) (fun (sg28 : Nat → Nat → Int32) =>
  some (sg28, w27))))
def pb_X11_token_79 (F : Nat)   (prec79 : Int32 → (Nat → Nat → Int32) → Int64 → Option ((Nat → Nat → Int32) × Int64)) : Int32 → (Nat → Nat → Int32) → Int64 → Option ((Nat → Nat → Int32) × Int64) := fun v2 sg w =>
  Option.bind (p_X11_see F  sg w) (fun (x23 : Int32) =>
  Option.bind (p_X11_in F x23 (97 : Int32) (122 : Int32)) (fun (x24 : Int32) =>
  if x24 = 0 then
  (pk_X11_token_126 F  v2 sg w)
  else (Option.bind (p_X11_see F  sg w) (fun (x29 : Int32) =>
  gnm ((w <<< ((Int32.toInt64 (8 : Int32)) &&& 63)) ||| (Int32.toInt64 x29)) (fun (w30 : Int64) =>
  gnm (up2 sg 0 6 ((sg 0 6) + (1 : Int32))) (fun (sg31 : Nat → Nat → Int32) =>
  prec79 (v2 + 1) sg31 w30))))))
def pk_X11_token_31 (F : Nat)    (sg : Nat → Nat → Int32) (w : Int64) : Option ((Nat → Nat → Int32) × Int64) :=
  gnm (up2 sg 0 8 (sg 0 6)) (fun (sg4 : Nat → Nat → Int32) =>
  Option.bind (p_X11_see F  sg4 w) (fun (x5 : Int32) =>
  gnm ((0 : Int64)) (fun (w6 : Int64) =>
  gnm (up2 sg4 0 10 (0 : Int32)) (fun (sg7 : Nat → Nat → Int32) =>
  if 0 ≤ x5 then
  (Option.bind (p_X11_in F x5 (97 : Int32) (122 : Int32)) (fun (x8 : Int32) =>
  if x8 = 0 then
  (Option.bind (p_X11_in F x5 (48 : Int32) (57 : Int32)) (fun (x9 : Int32) =>
  if x9 = 0 then
  (gnm (up2 sg7 0 6 ((sg7 0 6) + (1 : Int32))) (fun (sg10 : Nat → Nat → Int32) =>
  gnm (up2 sg10 0 10 x5) (fun (sg11 : Nat → Nat → Int32) =>
  if x5 = (59 : Int32) then
  (gnm (up2 sg11 0 9 (4 : Int32)) (fun (sg12 : Nat → Nat → Int32) =>
  some (sg12, w6)))
  else (if x5 = (45 : Int32) then
  (gnm (up2 sg11 0 9 (4 : Int32)) (fun (sg14 : Nat → Nat → Int32) =>
  some (sg14, w6)))
  else (gnm (up2 sg11 0 9 (1 : Int32)) (fun (sg13 : Nat → Nat → Int32) =>
  some (sg13, w6)))))))
  else (gnm (up2 sg7 0 11 (0 : Int32)) (fun (sg15 : Nat → Nat → Int32) =>
  fixN (fun _ _ _ => none) (pb_X11_token_168 F  ) F (0 : Int32) sg15 w6))))
  else (fixN (fun _ _ _ => none) (pb_X11_token_79 F  ) F (0 : Int32) sg7 w6)))
  else (gnm (up2 sg7 0 9 (0 : Int32)) (fun (sg32 : Nat → Nat → Int32) =>
  some (sg32, w6)))))))
def pb_X11_token_0 (F : Nat)   (prec0 : (Nat → Nat → Int32) → Int64 → Option ((Nat → Nat → Int32) × Int64)) : (Nat → Nat → Int32) → Int64 → Option ((Nat → Nat → Int32) × Int64) := fun  sg w =>
  Option.bind (p_X11_see F  sg w) (fun (x1 : Int32) =>
  if x1 = (10 : Int32) then
  (pk_X11_token_18 F prec0 sg w)
  else (Option.bind (p_X11_see F  sg w) (fun (x3 : Int32) =>
  if x3 = (32 : Int32) then
  (pk_X11_token_18 F prec0 sg w)
  else (pk_X11_token_31 F  sg w))))
def p_X11_token (F : Nat)  (sg : Nat → Nat → Int32) (w : Int64) : Option ((Nat → Nat → Int32) × Int64) :=
  fixN (fun _ _ => none) (pb_X11_token_0 F  ) F  sg w
set_option maxRecDepth 100000 in
set_option maxHeartbeats 4000000 in
theorem ec_X11_token_18 {F : Nat} {G0 : GH} {mo n : Nat} {rec0 : Nat → GH → Option (Nat × GH)} {prec0 : (Nat → Nat → Int32) → Int64 → Option ((Nat → Nat → Int32) × Int64)} (hrec0 : ∀  (sg : Nat → Nat → Int32) (w : Int64), rec0  n (mput G0 mo sg w) = Option.map (fun z => (n, mput G0 mo z.1 z.2)) (prec0  sg w))   {sg : Nat → Nat → Int32} {w : Int64} : k_X11_token_18 F rec0 mo  n (mput G0 mo sg w) = Option.map (fun z => (n, mput G0 mo z.1 z.2)) (pk_X11_token_18 F prec0   sg w) := by
  unfold k_X11_token_18 pk_X11_token_18
  refine q_gI 6 rfl ?_
  refine q_pI 6 (mp_6 _ _ _ _) (fun sg2 => ?_)
  exact hrec0  _ _
set_option maxRecDepth 100000 in
set_option maxHeartbeats 4000000 in
theorem ec_X11_token_229 {F : Nat} {G0 : GH} {mo n : Nat}   {v2 : Int32}  {sg : Nat → Nat → Int32} {w : Int64} : k_X11_token_229 F  mo v2  n (mput G0 mo sg w) = Option.map (fun z => (n, mput G0 mo z.1 z.2)) (pk_X11_token_229 F  v2  sg w) := by
  unfold k_X11_token_229 pk_X11_token_229
  refine q_ite ?_ ?_
  · refine q_pI 9 (mp_9 _ _ _ _) (fun sg18 => ?_)
    rfl
  · refine q_pI 9 (mp_9 _ _ _ _) (fun sg19 => ?_)
    rfl
set_option maxRecDepth 100000 in
set_option maxHeartbeats 4000000 in
theorem ec_X11_token_210 {F : Nat} {G0 : GH} {mo n : Nat} {rec168 : Int32 → Nat → GH → Option (Nat × GH)} {prec168 : Int32 → (Nat → Nat → Int32) → Int64 → Option ((Nat → Nat → Int32) × Int64)} (hrec168 : ∀ (w2 : Int32) (sg : Nat → Nat → Int32) (w : Int64), rec168 w2 n (mput G0 mo sg w) = Option.map (fun z => (n, mput G0 mo z.1 z.2)) (prec168 w2 sg w)) {v2 : Int32} {s1 : Int32} {sg : Nat → Nat → Int32} {w : Int64} : k_X11_token_210 F rec168 mo v2 mo s1 n (mput G0 mo sg w) = Option.map (fun z => (n, mput G0 mo z.1 z.2)) (pk_X11_token_210 F prec168 v2 s1 sg w) := by
  unfold k_X11_token_210 pk_X11_token_210
  refine q_pI 11 (mp_11 _ _ _ _) (fun sg20 => ?_)
  refine q_gI 6 rfl ?_
  refine q_pI 6 (mp_6 _ _ _ _) (fun sg21 => ?_)
  exact hrec168 _ _ _
set_option maxRecDepth 100000 in
set_option maxHeartbeats 4000000 in
theorem el_X11_token_168 {F : Nat} {G0 : GH} {mo n : Nat}    : ∀ (K : Nat) (v2 : Int32) (sg : Nat → Nat → Int32) (w : Int64), fixN ((fun _ _ _ => none) : Int32 → Nat → GH → Option (Nat × GH)) (b_X11_token_168 F  mo) K v2 n (mput G0 mo sg w) = Option.map (fun z => (n, mput G0 mo z.1 z.2)) (fixN ((fun _ _ _ => none) : Int32 → (Nat → Nat → Int32) → Int64 → Option ((Nat → Nat → Int32) × Int64)) (pb_X11_token_168 F  ) K v2 sg w) := by
  intro K
  refine fixN_ind2 (P := fun (r : Int32 → Nat → GH → Option (Nat × GH)) (r1 : Int32 → (Nat → Nat → Int32) → Int64 → Option ((Nat → Nat → Int32) × Int64)) => ∀ (v2 : Int32) (sg : Nat → Nat → Int32) (w : Int64), r v2 n (mput G0 mo sg w) = Option.map (fun z => (n, mput G0 mo z.1 z.2)) (r1 v2 sg w)) ?_ ?_ K
  · intro v2 sg w
    rfl
  · intro rec168 prec168 hrec168 v2 sg w
    unfold b_X11_token_168 pb_X11_token_168
    refine q_cvP (e_X11_see) (fun x16 => ?_)
    refine q_bd (e_X11_in) (fun x17 => ?_)
    refine q_ite ?_ ?_
    · exact ec_X11_token_229 
    · refine q_ite ?_ ?_
      · refine q_gI 11 rfl ?_
        exact ec_X11_token_210 hrec168
      · refine q_gI 11 rfl ?_
        refine q_cvP (e_X11_see) (fun x22 => ?_)
        exact ec_X11_token_210 hrec168
set_option maxRecDepth 100000 in
set_option maxHeartbeats 4000000 in
theorem ec_X11_token_126 {F : Nat} {G0 : GH} {mo n : Nat}   {v2 : Int32}  {sg : Nat → Nat → Int32} {w : Int64} : k_X11_token_126 F  mo v2  n (mput G0 mo sg w) = Option.map (fun z => (n, mput G0 mo z.1 z.2)) (pk_X11_token_126 F  v2  sg w) := by
  unfold k_X11_token_126 pk_X11_token_126
  refine q_ite ?_ ?_
  · refine q_gJ ?_
    refine q_pJ (fun w25 => ?_)
    refine q_pI 9 (mp_9 _ _ _ _) (fun sg26 => ?_)
    rfl
  · refine q_pJ (fun w27 => ?_)
    refine q_pI 9 (mp_9 _ _ _ _) (fun sg28 => ?_)
    rfl
set_option maxRecDepth 100000 in
set_option maxHeartbeats 4000000 in
theorem el_X11_token_79 {F : Nat} {G0 : GH} {mo n : Nat}    : ∀ (K : Nat) (v2 : Int32) (sg : Nat → Nat → Int32) (w : Int64), fixN ((fun _ _ _ => none) : Int32 → Nat → GH → Option (Nat × GH)) (b_X11_token_79 F  mo) K v2 n (mput G0 mo sg w) = Option.map (fun z => (n, mput G0 mo z.1 z.2)) (fixN ((fun _ _ _ => none) : Int32 → (Nat → Nat → Int32) → Int64 → Option ((Nat → Nat → Int32) × Int64)) (pb_X11_token_79 F  ) K v2 sg w) := by
  intro K
  refine fixN_ind2 (P := fun (r : Int32 → Nat → GH → Option (Nat × GH)) (r1 : Int32 → (Nat → Nat → Int32) → Int64 → Option ((Nat → Nat → Int32) × Int64)) => ∀ (v2 : Int32) (sg : Nat → Nat → Int32) (w : Int64), r v2 n (mput G0 mo sg w) = Option.map (fun z => (n, mput G0 mo z.1 z.2)) (r1 v2 sg w)) ?_ ?_ K
  · intro v2 sg w
    rfl
  · intro rec79 prec79 hrec79 v2 sg w
    unfold b_X11_token_79 pb_X11_token_79
    refine q_cvP (e_X11_see) (fun x23 => ?_)
    refine q_bd (e_X11_in) (fun x24 => ?_)
    refine q_ite ?_ ?_
    · exact ec_X11_token_126 
    · refine q_gJ ?_
      refine q_cvP (e_X11_see) (fun x29 => ?_)
      refine q_pJ (fun w30 => ?_)
      refine q_gI 6 rfl ?_
      refine q_pI 6 (mp_6 _ _ _ _) (fun sg31 => ?_)
      exact hrec79 _ _ _
set_option maxRecDepth 100000 in
set_option maxHeartbeats 4000000 in
theorem ec_X11_token_31 {F : Nat} {G0 : GH} {mo n : Nat}     {sg : Nat → Nat → Int32} {w : Int64} : k_X11_token_31 F  mo  n (mput G0 mo sg w) = Option.map (fun z => (n, mput G0 mo z.1 z.2)) (pk_X11_token_31 F    sg w) := by
  unfold k_X11_token_31 pk_X11_token_31
  refine q_gI 6 rfl ?_
  refine q_pI 8 (mp_8 _ _ _ _) (fun sg4 => ?_)
  refine q_cvP (e_X11_see) (fun x5 => ?_)
  refine q_pJ (fun w6 => ?_)
  refine q_pI 10 (mp_10 _ _ _ _) (fun sg7 => ?_)
  refine q_ite ?_ ?_
  · refine q_bd (e_X11_in) (fun x8 => ?_)
    refine q_ite ?_ ?_
    · refine q_bd (e_X11_in) (fun x9 => ?_)
      refine q_ite ?_ ?_
      · refine q_gI 6 rfl ?_
        refine q_pI 6 (mp_6 _ _ _ _) (fun sg10 => ?_)
        refine q_pI 10 (mp_10 _ _ _ _) (fun sg11 => ?_)
        refine q_ite ?_ ?_
        · refine q_pI 9 (mp_9 _ _ _ _) (fun sg12 => ?_)
          rfl
        · refine q_ite ?_ ?_
          · refine q_pI 9 (mp_9 _ _ _ _) (fun sg14 => ?_)
            rfl
          · refine q_pI 9 (mp_9 _ _ _ _) (fun sg13 => ?_)
            rfl
      · refine q_pI 11 (mp_11 _ _ _ _) (fun sg15 => ?_)
        exact el_X11_token_168  _ _ _ _
    · exact el_X11_token_79  _ _ _ _
  · refine q_pI 9 (mp_9 _ _ _ _) (fun sg32 => ?_)
    rfl
set_option maxRecDepth 100000 in
set_option maxHeartbeats 4000000 in
theorem el_X11_token_0 {F : Nat} {G0 : GH} {mo n : Nat}    : ∀ (K : Nat)  (sg : Nat → Nat → Int32) (w : Int64), fixN ((fun _ _ => none) : Nat → GH → Option (Nat × GH)) (b_X11_token_0 F  mo) K  n (mput G0 mo sg w) = Option.map (fun z => (n, mput G0 mo z.1 z.2)) (fixN ((fun _ _ => none) : (Nat → Nat → Int32) → Int64 → Option ((Nat → Nat → Int32) × Int64)) (pb_X11_token_0 F  ) K  sg w) := by
  intro K
  refine fixN_ind2 (P := fun (r : Nat → GH → Option (Nat × GH)) (r1 : (Nat → Nat → Int32) → Int64 → Option ((Nat → Nat → Int32) × Int64)) => ∀  (sg : Nat → Nat → Int32) (w : Int64), r  n (mput G0 mo sg w) = Option.map (fun z => (n, mput G0 mo z.1 z.2)) (r1  sg w)) ?_ ?_ K
  · intro  sg w
    rfl
  · intro rec0 prec0 hrec0  sg w
    unfold b_X11_token_0 pb_X11_token_0
    refine q_cvP (e_X11_see) (fun x1 => ?_)
    refine q_ite ?_ ?_
    · exact ec_X11_token_18 hrec0
    · refine q_cvP (e_X11_see) (fun x3 => ?_)
      refine q_ite ?_ ?_
      · exact ec_X11_token_18 hrec0
      · exact ec_X11_token_31 
set_option maxRecDepth 100000 in
set_option maxHeartbeats 4000000 in
theorem e_X11_token {F : Nat} {G0 : GH} {mo n : Nat}  {sg : Nat → Nat → Int32} {w : Int64} : f_X11_token F mo  n (mput G0 mo sg w) = Option.map (fun z => (n, mput G0 mo z.1 z.2)) (p_X11_token F  sg w) := by
  unfold f_X11_token p_X11_token
  exact el_X11_token_0  _ _ _
/-! X11_fails -/
def p_X11_fails (F : Nat)  (sg : Nat → Nat → Int32) (w : Int64) : Option (Int32 × (Nat → Nat → Int32) × Int64) :=
  gnm (up2 sg 0 13 (sg 0 8)) (fun (sg1 : Nat → Nat → Int32) =>
  mN .boolean (0 : Int32) sg1 w)
set_option maxRecDepth 100000 in
set_option maxHeartbeats 4000000 in
theorem e_X11_fails {F : Nat} {G0 : GH} {mo n : Nat}  {sg : Nat → Nat → Int32} {w : Int64} : f_X11_fails F mo  n (mput G0 mo sg w) = Option.map (fun z => (z.1, n, mput G0 mo z.2.1 z.2.2)) (p_X11_fails F  sg w) := by
  unfold f_X11_fails p_X11_fails
  refine q_gI 8 rfl ?_
  refine q_pI 13 (mp_13 _ _ _ _) (fun sg1 => ?_)
  exact q_rN
/-! X11_isBad -/
def pk_X11_isBad_31 (F : Nat)  (v1 : Int32) (v2 : Int32)  (sg : Nat → Nat → Int32) (w : Int64) : Option ((Nat → Nat → Int32) × Int64) :=
  gnm (up2 sg 0 15 v1) (fun (sg1 : Nat → Nat → Int32) =>
  gnm (up2 sg1 0 14 v2) (fun (sg2 : Nat → Nat → Int32) =>
  some (sg2, w)))
def p_X11_isBad (F : Nat) (v1 : Int32) (v2 : Int32) (sg : Nat → Nat → Int32) (w : Int64) : Option ((Nat → Nat → Int32) × Int64) :=
  if (sg 0 15) = 0 then
  (pk_X11_isBad_31 F  v1 v2 sg w)
  else (if v2 < (sg 0 14) then
  (pk_X11_isBad_31 F  v1 v2 sg w)
  else (if v2 = (sg 0 14) then
  (if (sg 0 15) ≤ v1 then
  (some (sg, w))
  else (pk_X11_isBad_31 F  v1 v2 sg w))
  else (some (sg, w))))
set_option maxRecDepth 100000 in
set_option maxHeartbeats 4000000 in
theorem ec_X11_isBad_31 {F : Nat} {G0 : GH} {mo n : Nat}   {v1 : Int32} {v2 : Int32}  {sg : Nat → Nat → Int32} {w : Int64} : k_X11_isBad_31 F  mo v1 v2  n (mput G0 mo sg w) = Option.map (fun z => (n, mput G0 mo z.1 z.2)) (pk_X11_isBad_31 F  v1 v2  sg w) := by
  unfold k_X11_isBad_31 pk_X11_isBad_31
  refine q_pI 15 (mp_15 _ _ _ _) (fun sg1 => ?_)
  refine q_pI 14 (mp_14 _ _ _ _) (fun sg2 => ?_)
  rfl
set_option maxRecDepth 100000 in
set_option maxHeartbeats 4000000 in
theorem e_X11_isBad {F : Nat} {G0 : GH} {mo n : Nat} {v1 : Int32} {v2 : Int32} {sg : Nat → Nat → Int32} {w : Int64} : f_X11_isBad F mo v1 v2 n (mput G0 mo sg w) = Option.map (fun z => (n, mput G0 mo z.1 z.2)) (p_X11_isBad F v1 v2 sg w) := by
  unfold f_X11_isBad p_X11_isBad
  refine q_gI 15 rfl ?_
  refine q_ite ?_ ?_
  · exact ec_X11_isBad_31 
  · refine q_gI 14 rfl ?_
    refine q_ite ?_ ?_
    · exact ec_X11_isBad_31 
    · refine q_gI 14 rfl ?_
      refine q_ite ?_ ?_
      · refine q_gI 15 rfl ?_
        refine q_ite ?_ ?_
        · rfl
        · exact ec_X11_isBad_31 
      · rfl
/-! X11_isWord -/
def p_X11_isWord (F : Nat) (v1 : Int64) (sg : Nat → Nat → Int32) (w : Int64) : Option (Int32) :=
  if (sg 0 9) = (2 : Int32) then
  (if (lg_cmp w v1) = 0 then
  (rP .boolean (1 : Int32))
  else (rP .boolean (0 : Int32)))
  else (rP .boolean (0 : Int32))
set_option maxRecDepth 100000 in
set_option maxHeartbeats 4000000 in
theorem e_X11_isWord {F : Nat} {G0 : GH} {mo : Nat} {v1 : Int64} {sg : Nat → Nat → Int32} {w : Int64} : f_X11_isWord F mo v1 (mput G0 mo sg w) = p_X11_isWord F v1 sg w := by
  refine Eq.trans ?_ (q_mid _)
  unfold f_X11_isWord p_X11_isWord
  refine q_gI 9 rfl ?_
  refine q_ite ?_ ?_
  · refine q_gJ ?_
    refine q_ite ?_ ?_
    · exact q_id
    · exact q_id
  · exact q_id
/-! X11_isSign -/
def p_X11_isSign (F : Nat) (v1 : Int32) (sg : Nat → Nat → Int32) (w : Int64) : Option (Int32) :=
  if (sg 0 9) = (4 : Int32) then
  (if (sg 0 10) = v1 then
  (rP .boolean (1 : Int32))
  else (rP .boolean (0 : Int32)))
  else (rP .boolean (0 : Int32))
set_option maxRecDepth 100000 in
set_option maxHeartbeats 4000000 in
theorem e_X11_isSign {F : Nat} {G0 : GH} {mo : Nat} {v1 : Int32} {sg : Nat → Nat → Int32} {w : Int64} : f_X11_isSign F mo v1 (mput G0 mo sg w) = p_X11_isSign F v1 sg w := by
  refine Eq.trans ?_ (q_mid _)
  unfold f_X11_isSign p_X11_isSign
  refine q_gI 9 rfl ?_
  refine q_ite ?_ ?_
  · refine q_gI 10 rfl ?_
    refine q_ite ?_ ?_
    · exact q_id
    · exact q_id
  · exact q_id
/-! X11_actHere -/
def p_X11_actHere (F : Nat)  (sg : Nat → Nat → Int32) (w : Int64) : Option (Int32) :=
  if (sg 0 9) = (2 : Int32) then
  (if (lg_cmp w (1786082164 : Int64)) = 0 then
  (some (0 : Int32))
  else (if (lg_cmp w (6382692 : Int64)) = 0 then
  (some (1 : Int32))
  else (if (lg_cmp w (7173484 : Int64)) = 0 then
  (some (2 : Int32))
  else (if (lg_cmp w (7168376 : Int64)) = 0 then
  (some (3 : Int32))
  else (if (lg_cmp w (7170414 : Int64)) = 0 then
  (some (4 : Int32))
  else (if (lg_cmp w (7566690 : Int64)) = 0 then
  (some (5 : Int32))
  else (some (-1 : Int32))))))))
  else (some (-1 : Int32))
set_option maxRecDepth 100000 in
set_option maxHeartbeats 4000000 in
theorem e_X11_actHere {F : Nat} {G0 : GH} {mo : Nat}  {sg : Nat → Nat → Int32} {w : Int64} : f_X11_actHere F mo  (mput G0 mo sg w) = p_X11_actHere F  sg w := by
  refine Eq.trans ?_ (q_mid _)
  unfold f_X11_actHere p_X11_actHere
  refine q_gI 9 rfl ?_
  refine q_ite ?_ ?_
  · refine q_gJ ?_
    refine q_ite ?_ ?_
    · rfl
    · refine q_gJ ?_
      refine q_ite ?_ ?_
      · rfl
      · refine q_gJ ?_
        refine q_ite ?_ ?_
        · rfl
        · refine q_gJ ?_
          refine q_ite ?_ ?_
          · rfl
          · refine q_gJ ?_
            refine q_ite ?_ ?_
            · rfl
            · refine q_gJ ?_
              refine q_ite ?_ ?_
              · rfl
              · rfl
  · rfl
/-! X11_spanHere -/
def p_X11_spanHere (F : Nat)  (sg : Nat → Nat → Int32) (w : Int64) : Option (Int32) :=
  if (sg 0 9) = (2 : Int32) then
  (if (lg_cmp w (422775452260 : Int64)) = 0 then
  (some (0 : Int32))
  else (if (lg_cmp w (495589486693 : Int64)) = 0 then
  (some (1 : Int32))
  else (if (lg_cmp w (1700881256 : Int64)) = 0 then
  (some (2 : Int32))
  else (some (-1 : Int32)))))
  else (some (-1 : Int32))
set_option maxRecDepth 100000 in
set_option maxHeartbeats 4000000 in
theorem e_X11_spanHere {F : Nat} {G0 : GH} {mo : Nat}  {sg : Nat → Nat → Int32} {w : Int64} : f_X11_spanHere F mo  (mput G0 mo sg w) = p_X11_spanHere F  sg w := by
  refine Eq.trans ?_ (q_mid _)
  unfold f_X11_spanHere p_X11_spanHere
  refine q_gI 9 rfl ?_
  refine q_ite ?_ ?_
  · refine q_gJ ?_
    refine q_ite ?_ ?_
    · rfl
    · refine q_gJ ?_
      refine q_ite ?_ ?_
      · rfl
      · refine q_gJ ?_
        refine q_ite ?_ ?_
        · rfl
        · rfl
  · rfl
/-! X11_needHere -/
def pk_X11_needHere_117 (F : Nat)   (s1 : Int32) (s2 : Int32) (s3 : Int32) (sg : Nat → Nat → Int32) (w : Int64) : Option ((Nat → Nat → Int32) × Int64) :=
  Option.bind (mS sg 8 11 s1 (s2 ||| s3)) (fun (sg8 : Nat → Nat → Int32) =>
  Option.bind (mI sg8 8 11 (2 : Int32)) (fun (x9 : Int32) =>
  Option.bind (mS sg8 8 11 (2 : Int32) (x9 + (1 : Int32))) (fun (sg10 : Nat → Nat → Int32) =>
  pcU (p_X11_token F  sg10 w) (fun (sg11 : Nat → Nat → Int32) (w12 : Int64) =>
  some (sg11, w12)))))
def pk_X11_needHere_18 (F : Nat)  (v1 : Int32)  (sg : Nat → Nat → Int32) (w : Int64) : Option ((Nat → Nat → Int32) × Int64) :=
  Option.bind (mS sg 6 300 (sg 0 19) (sg 0 8)) (fun (sg1 : Nat → Nat → Int32) =>
  Option.bind (mS sg1 7 300 (sg1 0 19) (sg1 0 11)) (fun (sg2 : Nat → Nat → Int32) =>
  gnm (up2 sg2 0 19 ((sg2 0 19) + (1 : Int32))) (fun (sg3 : Nat → Nat → Int32) =>
  Option.bind (mI sg3 8 11 (2 : Int32)) (fun (x4 : Int32) =>
  if x4 = (4 : Int32) then
  (pcU (p_X11_isBad F (3 : Int32) (sg3 0 8) sg3 w) (fun (sg14 : Nat → Nat → Int32) (w15 : Int64) =>
  pcU (p_X11_token F  sg14 w15) (fun (sg16 : Nat → Nat → Int32) (w17 : Int64) =>
  some (sg16, w17))))
  else (Option.bind (mI sg3 8 11 (2 : Int32)) (fun (x5 : Int32) =>
  Option.bind (mS sg3 8 11 ((3 : Int32) + x5) (sg3 0 11)) (fun (sg6 : Nat → Nat → Int32) =>
  Option.bind (mI sg6 8 11 (7 : Int32)) (fun (x7 : Int32) =>
  if v1 = 0 then
  (pk_X11_needHere_117 F  (7 : Int32) x7 (0 : Int32) sg6 w)
  else (Option.bind (mI sg6 8 11 (2 : Int32)) (fun (x13 : Int32) =>
  pk_X11_needHere_117 F  (7 : Int32) x7 ((1 : Int32) <<< (x13 &&& 31)) sg6 w))))))))))
def p_X11_needHere (F : Nat) (v1 : Int32) (sg : Nat → Nat → Int32) (w : Int64) : Option ((Nat → Nat → Int32) × Int64) :=
  if (sg 0 11) < (12 : Int32) then
  (pk_X11_needHere_18 F  v1 sg w)
  else (pcU (p_X11_isBad F (2 : Int32) (sg 0 8) sg w) (fun (sg18 : Nat → Nat → Int32) (w19 : Int64) =>
  pk_X11_needHere_18 F  v1 sg18 w19))
set_option maxRecDepth 100000 in
set_option maxHeartbeats 4000000 in
theorem ec_X11_needHere_117 {F : Nat} {G0 : GH} {mo n : Nat}    {s1 : Int32} {s2 : Int32} {s3 : Int32} {sg : Nat → Nat → Int32} {w : Int64} : k_X11_needHere_117 F  mo (mo + 8) s1 s2 s3 n (mput G0 mo sg w) = Option.map (fun z => (n, mput G0 mo z.1 z.2)) (pk_X11_needHere_117 F   s1 s2 s3 sg w) := by
  unfold k_X11_needHere_117 pk_X11_needHere_117
  refine q_aS rfl rfl (by decide) (fun sg8 => ?_)
  refine q_gR 20 8 rfl ?_
  refine q_aI rfl rfl (by decide) (fun x9 => ?_)
  refine q_aS rfl rfl (by decide) (fun sg10 => ?_)
  refine q_cvU (e_X11_token) (fun sg11 w12 => ?_)
  rfl
set_option maxRecDepth 100000 in
set_option maxHeartbeats 4000000 in
theorem ec_X11_needHere_18 {F : Nat} {G0 : GH} {mo n : Nat}   {v1 : Int32}  {sg : Nat → Nat → Int32} {w : Int64} : k_X11_needHere_18 F  mo v1  n (mput G0 mo sg w) = Option.map (fun z => (n, mput G0 mo z.1 z.2)) (pk_X11_needHere_18 F  v1  sg w) := by
  unfold k_X11_needHere_18 pk_X11_needHere_18
  refine q_gR 17 6 rfl ?_
  refine q_gI 19 rfl ?_
  refine q_gI 8 rfl ?_
  refine q_aS rfl rfl (by decide) (fun sg1 => ?_)
  refine q_gR 18 7 rfl ?_
  refine q_gI 19 rfl ?_
  refine q_gI 11 rfl ?_
  refine q_aS rfl rfl (by decide) (fun sg2 => ?_)
  refine q_gI 19 rfl ?_
  refine q_pI 19 (mp_19 _ _ _ _) (fun sg3 => ?_)
  refine q_gR 20 8 rfl ?_
  refine q_aI rfl rfl (by decide) (fun x4 => ?_)
  refine q_ite ?_ ?_
  · refine q_gI 8 rfl ?_
    refine q_cvU (e_X11_isBad) (fun sg14 w15 => ?_)
    refine q_cvU (e_X11_token) (fun sg16 w17 => ?_)
    rfl
  · refine q_gR 20 8 rfl ?_
    refine q_gR 20 8 rfl ?_
    refine q_aI rfl rfl (by decide) (fun x5 => ?_)
    refine q_gI 11 rfl ?_
    refine q_aS rfl rfl (by decide) (fun sg6 => ?_)
    refine q_gR 20 8 rfl ?_
    refine q_aI rfl rfl (by decide) (fun x7 => ?_)
    refine q_ite ?_ ?_
    · exact ec_X11_needHere_117 
    · refine q_gR 20 8 rfl ?_
      refine q_aI rfl rfl (by decide) (fun x13 => ?_)
      exact ec_X11_needHere_117 
set_option maxRecDepth 100000 in
set_option maxHeartbeats 4000000 in
theorem e_X11_needHere {F : Nat} {G0 : GH} {mo n : Nat} {v1 : Int32} {sg : Nat → Nat → Int32} {w : Int64} : f_X11_needHere F mo v1 n (mput G0 mo sg w) = Option.map (fun z => (n, mput G0 mo z.1 z.2)) (p_X11_needHere F v1 sg w) := by
  unfold f_X11_needHere p_X11_needHere
  refine q_gI 11 rfl ?_
  refine q_ite ?_ ?_
  · exact ec_X11_needHere_18 
  · refine q_gI 8 rfl ?_
    refine q_cvU (e_X11_isBad) (fun sg18 w19 => ?_)
    exact ec_X11_needHere_18 
/-! X11_needsTold -/
def pb_X11_needsTold_13 (F : Nat)  (v1 : Int32) (prec13 : (Nat → Nat → Int32) → Int64 → Option (Int32 × (Nat → Nat → Int32) × Int64)) : (Nat → Nat → Int32) → Int64 → Option (Int32 × (Nat → Nat → Int32) × Int64) := fun  sg w =>
  if (sg 0 9) = (3 : Int32) then
  (pcU (p_X11_needHere F v1 sg w) (fun (sg1 : Nat → Nat → Int32) (w2 : Int64) =>
  prec13  sg1 w2))
  else (mN .boolean (1 : Int32) sg w)
def p_X11_needsTold (F : Nat) (v1 : Int32) (sg : Nat → Nat → Int32) (w : Int64) : Option (Int32 × (Nat → Nat → Int32) × Int64) :=
  if (sg 0 9) = (3 : Int32) then
  (fixN (fun _ _ => none) (pb_X11_needsTold_13 F  v1) F  sg w)
  else (pcI (p_X11_fails F  sg w) (fun (x5 : Int32) (sg3 : Nat → Nat → Int32) (w4 : Int64) =>
  mN .boolean x5 sg3 w4))
set_option maxRecDepth 100000 in
set_option maxHeartbeats 4000000 in
theorem el_X11_needsTold_13 {F : Nat} {G0 : GH} {mo n : Nat}   {v1 : Int32} : ∀ (K : Nat)  (sg : Nat → Nat → Int32) (w : Int64), fixN ((fun _ _ => none) : Nat → GH → Option (Int32 × Nat × GH)) (b_X11_needsTold_13 F  mo v1) K  n (mput G0 mo sg w) = Option.map (fun z => (z.1, n, mput G0 mo z.2.1 z.2.2)) (fixN ((fun _ _ => none) : (Nat → Nat → Int32) → Int64 → Option (Int32 × (Nat → Nat → Int32) × Int64)) (pb_X11_needsTold_13 F  v1) K  sg w) := by
  intro K
  refine fixN_ind2 (P := fun (r : Nat → GH → Option (Int32 × Nat × GH)) (r1 : (Nat → Nat → Int32) → Int64 → Option (Int32 × (Nat → Nat → Int32) × Int64)) => ∀  (sg : Nat → Nat → Int32) (w : Int64), r  n (mput G0 mo sg w) = Option.map (fun z => (z.1, n, mput G0 mo z.2.1 z.2.2)) (r1  sg w)) ?_ ?_ K
  · intro  sg w
    rfl
  · intro rec13 prec13 hrec13  sg w
    unfold b_X11_needsTold_13 pb_X11_needsTold_13
    refine q_gI 9 rfl ?_
    refine q_ite ?_ ?_
    · refine q_cvU (e_X11_needHere) (fun sg1 w2 => ?_)
      exact hrec13  _ _
    · exact q_rN
set_option maxRecDepth 100000 in
set_option maxHeartbeats 4000000 in
theorem e_X11_needsTold {F : Nat} {G0 : GH} {mo n : Nat} {v1 : Int32} {sg : Nat → Nat → Int32} {w : Int64} : f_X11_needsTold F mo v1 n (mput G0 mo sg w) = Option.map (fun z => (z.1, n, mput G0 mo z.2.1 z.2.2)) (p_X11_needsTold F v1 sg w) := by
  unfold f_X11_needsTold p_X11_needsTold
  refine q_gI 9 rfl ?_
  refine q_ite ?_ ?_
  · exact el_X11_needsTold_13  _ _ _
  · refine q_cvI (e_X11_fails) (fun x5 sg3 w4 => ?_)
    exact q_rN
/-! X11_clause -/
def pk_X11_clause_124 (F : Nat)    (sg : Nat → Nat → Int32) (w : Int64) : Option (Int32 × (Nat → Nat → Int32) × Int64) :=
  Option.bind (mS sg 8 11 (9 : Int32) (sg 0 11)) (fun (sg19 : Nat → Nat → Int32) =>
  pcU (p_X11_token F  sg19 w) (fun (sg20 : Nat → Nat → Int32) (w21 : Int64) =>
  mN .boolean (1 : Int32) sg20 w21))
def p_X11_clause (F : Nat)  (sg : Nat → Nat → Int32) (w : Int64) : Option (Int32 × (Nat → Nat → Int32) × Int64) :=
  Option.bind (p_X11_isWord F (1818327673 : Int64) sg w) (fun (x1 : Int32) =>
  if x1 = 0 then
  (Option.bind (p_X11_isWord F (474147546227 : Int64) sg w) (fun (x7 : Int32) =>
  if x7 = 0 then
  (Option.bind (p_X11_isWord F (1936744814 : Int64) sg w) (fun (x8 : Int32) =>
  if x8 = 0 then
  (Option.bind (p_X11_isWord F (108243466677107 : Int64) sg w) (fun (x9 : Int32) =>
  if x9 = 0 then
  (Option.bind (p_X11_isWord F (6447460 : Int64) sg w) (fun (x10 : Int32) =>
  if x10 = 0 then
  (pcI (p_X11_fails F  sg w) (fun (x16 : Int32) (sg14 : Nat → Nat → Int32) (w15 : Int64) =>
  mN .boolean x16 sg14 w15))
  else (Option.bind (mS sg 8 11 (10 : Int32) (1 : Int32)) (fun (sg11 : Nat → Nat → Int32) =>
  pcU (p_X11_token F  sg11 w) (fun (sg12 : Nat → Nat → Int32) (w13 : Int64) =>
  mN .boolean (1 : Int32) sg12 w13)))))
  else (pcU (p_X11_token F  sg w) (fun (sg17 : Nat → Nat → Int32) (w18 : Int64) =>
  if (sg17 0 9) = (3 : Int32) then
  (if (sg17 0 11) ≤ (9 : Int32) then
  (pk_X11_clause_124 F  sg17 w18)
  else (pcU (p_X11_isBad F (2 : Int32) (sg17 0 8) sg17 w18) (fun (sg22 : Nat → Nat → Int32) (w23 : Int64) =>
  pk_X11_clause_124 F  sg22 w23)))
  else (pcI (p_X11_fails F  sg17 w18) (fun (x26 : Int32) (sg24 : Nat → Nat → Int32) (w25 : Int64) =>
  mN .boolean x26 sg24 w25))))))
  else (pcU (p_X11_token F  sg w) (fun (sg27 : Nat → Nat → Int32) (w28 : Int64) =>
  Option.bind (p_X11_spanHere F  sg27 w28) (fun (x29 : Int32) =>
  Option.bind (mS sg27 8 11 (8 : Int32) x29) (fun (sg30 : Nat → Nat → Int32) =>
  Option.bind (mI sg30 8 11 (8 : Int32)) (fun (x31 : Int32) =>
  if x31 = (-1 : Int32) then
  (pcI (p_X11_fails F  sg30 w28) (fun (x36 : Int32) (sg34 : Nat → Nat → Int32) (w35 : Int64) =>
  mN .boolean x36 sg34 w35))
  else (pcU (p_X11_token F  sg30 w28) (fun (sg32 : Nat → Nat → Int32) (w33 : Int64) =>
  mN .boolean (1 : Int32) sg32 w33)))))))))
  else (pcU (p_X11_token F  sg w) (fun (sg37 : Nat → Nat → Int32) (w38 : Int64) =>
  pcI (p_X11_needsTold F x1 sg37 w38) (fun (x41 : Int32) (sg39 : Nat → Nat → Int32) (w40 : Int64) =>
  mN .boolean x41 sg39 w40)))))
  else (pcU (p_X11_token F  sg w) (fun (sg2 : Nat → Nat → Int32) (w3 : Int64) =>
  pcI (p_X11_needsTold F x1 sg2 w3) (fun (x6 : Int32) (sg4 : Nat → Nat → Int32) (w5 : Int64) =>
  mN .boolean x6 sg4 w5))))
set_option maxRecDepth 100000 in
set_option maxHeartbeats 4000000 in
theorem ec_X11_clause_124 {F : Nat} {G0 : GH} {mo n : Nat}     {sg : Nat → Nat → Int32} {w : Int64} : k_X11_clause_124 F  mo  n (mput G0 mo sg w) = Option.map (fun z => (z.1, n, mput G0 mo z.2.1 z.2.2)) (pk_X11_clause_124 F    sg w) := by
  unfold k_X11_clause_124 pk_X11_clause_124
  refine q_gR 20 8 rfl ?_
  refine q_gI 11 rfl ?_
  refine q_aS rfl rfl (by decide) (fun sg19 => ?_)
  refine q_cvU (e_X11_token) (fun sg20 w21 => ?_)
  exact q_rN
set_option maxRecDepth 100000 in
set_option maxHeartbeats 4000000 in
theorem e_X11_clause {F : Nat} {G0 : GH} {mo n : Nat}  {sg : Nat → Nat → Int32} {w : Int64} : f_X11_clause F mo  n (mput G0 mo sg w) = Option.map (fun z => (z.1, n, mput G0 mo z.2.1 z.2.2)) (p_X11_clause F  sg w) := by
  unfold f_X11_clause p_X11_clause
  refine q_cvP (e_X11_isWord) (fun x1 => ?_)
  refine q_ite ?_ ?_
  · refine q_cvP (e_X11_isWord) (fun x7 => ?_)
    refine q_ite ?_ ?_
    · refine q_cvP (e_X11_isWord) (fun x8 => ?_)
      refine q_ite ?_ ?_
      · refine q_cvP (e_X11_isWord) (fun x9 => ?_)
        refine q_ite ?_ ?_
        · refine q_cvP (e_X11_isWord) (fun x10 => ?_)
          refine q_ite ?_ ?_
          · refine q_cvI (e_X11_fails) (fun x16 sg14 w15 => ?_)
            exact q_rN
          · refine q_gR 20 8 rfl ?_
            refine q_aS rfl rfl (by decide) (fun sg11 => ?_)
            refine q_cvU (e_X11_token) (fun sg12 w13 => ?_)
            exact q_rN
        · refine q_cvU (e_X11_token) (fun sg17 w18 => ?_)
          refine q_gI 9 rfl ?_
          refine q_ite ?_ ?_
          · refine q_gI 11 rfl ?_
            refine q_ite ?_ ?_
            · exact ec_X11_clause_124 
            · refine q_gI 8 rfl ?_
              refine q_cvU (e_X11_isBad) (fun sg22 w23 => ?_)
              exact ec_X11_clause_124 
          · refine q_cvI (e_X11_fails) (fun x26 sg24 w25 => ?_)
            exact q_rN
      · refine q_cvU (e_X11_token) (fun sg27 w28 => ?_)
        refine q_gR 20 8 rfl ?_
        refine q_cvP (e_X11_spanHere) (fun x29 => ?_)
        refine q_aS rfl rfl (by decide) (fun sg30 => ?_)
        refine q_gR 20 8 rfl ?_
        refine q_aI rfl rfl (by decide) (fun x31 => ?_)
        refine q_ite ?_ ?_
        · refine q_cvI (e_X11_fails) (fun x36 sg34 w35 => ?_)
          exact q_rN
        · refine q_cvU (e_X11_token) (fun sg32 w33 => ?_)
          exact q_rN
    · refine q_cvU (e_X11_token) (fun sg37 w38 => ?_)
      refine q_cvI (e_X11_needsTold) (fun x41 sg39 w40 => ?_)
      exact q_rN
  · refine q_cvU (e_X11_token) (fun sg2 w3 => ?_)
    refine q_cvI (e_X11_needsTold) (fun x6 sg4 w5 => ?_)
    exact q_rN
/-! X11_line -/
def pk_X11_line_215 (F : Nat)    (sg : Nat → Nat → Int32) (w : Int64) : Option (Int32 × (Nat → Nat → Int32) × Int64) :=
  Option.bind (mI sg 5 891 (0 : Int32)) (fun (x17 : Int32) =>
  Option.bind (mS sg 5 891 (0 : Int32) (x17 + (1 : Int32))) (fun (sg18 : Nat → Nat → Int32) =>
  mN .boolean (1 : Int32) sg18 w))
def pb_X11_line_179 (F : Nat)   (prec179 : Int32 → (Nat → Nat → Int32) → Int64 → Option (Int32 × (Nat → Nat → Int32) × Int64)) : Int32 → (Nat → Nat → Int32) → Int64 → Option (Int32 × (Nat → Nat → Int32) × Int64) := fun v3 sg w =>
  if (11 : Int32) ≤ v3 then
  (pk_X11_line_215 F  sg w)
  else (Option.bind (mI sg 5 891 (0 : Int32)) (fun (x19 : Int32) =>
  Option.bind (mI sg 8 11 v3) (fun (x20 : Int32) =>
  Option.bind (mS sg 5 891 (((1 : Int32) + ((11 : Int32) * x19)) + v3) x20) (fun (sg21 : Nat → Nat → Int32) =>
  prec179 (v3 + 1) sg21 w))))
def pk_X11_line_169 (F : Nat)  (v1 : Int32)  (sg : Nat → Nat → Int32) (w : Int64) : Option (Int32 × (Nat → Nat → Int32) × Int64) :=
  pcU (p_X11_token F  sg w) (fun (sg15 : Nat → Nat → Int32) (w16 : Int64) =>
  if v1 = 0 then
  (mN .boolean (1 : Int32) sg15 w16)
  else (fixN (fun _ _ _ => none) (pb_X11_line_179 F  ) F (0 : Int32) sg15 w16))
def pb_X11_line_151 (F : Nat)  (v1 : Int32) (prec151 : (Nat → Nat → Int32) → Int64 → Option (Int32 × (Nat → Nat → Int32) × Int64)) : (Nat → Nat → Int32) → Int64 → Option (Int32 × (Nat → Nat → Int32) × Int64) := fun  sg w =>
  Option.bind (p_X11_isSign F (59 : Int32) sg w) (fun (x14 : Int32) =>
  if x14 = 0 then
  (pcI (p_X11_clause F  sg w) (fun (x24 : Int32) (sg22 : Nat → Nat → Int32) (w23 : Int64) =>
  if x24 = 0 then
  (mN .boolean (0 : Int32) sg22 w23)
  else (prec151  sg22 w23)))
  else (pk_X11_line_169 F  v1 sg w))
def pk_X11_line_122 (F : Nat)  (v1 : Int32) (v2 : Int32)  (sg : Nat → Nat → Int32) (w : Int64) : Option (Int32 × (Nat → Nat → Int32) × Int64) :=
  if (sg 0 9) = (3 : Int32) then
  (Option.bind (mS sg 8 11 (1 : Int32) (v2 * (sg 0 11))) (fun (sg11 : Nat → Nat → Int32) =>
  pcU (p_X11_token F  sg11 w) (fun (sg12 : Nat → Nat → Int32) (w13 : Int64) =>
  fixN (fun _ _ => none) (pb_X11_line_151 F  v1) F  sg12 w13)))
  else (pcI (p_X11_fails F  sg w) (fun (x27 : Int32) (sg25 : Nat → Nat → Int32) (w26 : Int64) =>
  mN .boolean x27 sg25 w26))
def pk_X11_line_113 (F : Nat)  (v1 : Int32) (s0 : Int32) (sg : Nat → Nat → Int32) (w : Int64) : Option (Int32 × (Nat → Nat → Int32) × Int64) :=
  if 0 ≤ s0 then
  (pk_X11_line_122 F  v1 s0 sg w)
  else (pcU (p_X11_token F  sg w) (fun (sg28 : Nat → Nat → Int32) (w29 : Int64) =>
  pk_X11_line_122 F  v1 s0 sg28 w29))
def pk_X11_line_70 (F : Nat)  (v1 : Int32)  (sg : Nat → Nat → Int32) (w : Int64) : Option (Int32 × (Nat → Nat → Int32) × Int64) :=
  Option.bind (p_X11_actHere F  sg w) (fun (x5 : Int32) =>
  Option.bind (mS sg 8 11 (0 : Int32) x5) (fun (sg6 : Nat → Nat → Int32) =>
  Option.bind (mI sg6 8 11 (0 : Int32)) (fun (x7 : Int32) =>
  if x7 = (-1 : Int32) then
  (pcI (p_X11_fails F  sg6 w) (fun (x32 : Int32) (sg30 : Nat → Nat → Int32) (w31 : Int64) =>
  mN .boolean x32 sg30 w31))
  else (pcU (p_X11_token F  sg6 w) (fun (sg8 : Nat → Nat → Int32) (w9 : Int64) =>
  Option.bind (p_X11_isSign F (45 : Int32) sg8 w9) (fun (x10 : Int32) =>
  if x10 = 0 then
  (pk_X11_line_113 F  v1 (1 : Int32) sg8 w9)
  else (pk_X11_line_113 F  v1 (-1 : Int32) sg8 w9)))))))
def pb_X11_line_51 (F : Nat)  (v1 : Int32) (prec51 : Int32 → (Nat → Nat → Int32) → Int64 → Option (Int32 × (Nat → Nat → Int32) × Int64)) : Int32 → (Nat → Nat → Int32) → Int64 → Option (Int32 × (Nat → Nat → Int32) × Int64) := fun v2 sg w =>
  if (11 : Int32) ≤ v2 then
  (pk_X11_line_70 F  v1 sg w)
  else (Option.bind (mS sg 8 11 v2 (0 : Int32)) (fun (sg33 : Nat → Nat → Int32) =>
  prec51 (v2 + 1) sg33 w))
def pk_X11_line_45 (F : Nat)  (v1 : Int32)  (sg : Nat → Nat → Int32) (w : Int64) : Option (Int32 × (Nat → Nat → Int32) × Int64) :=
  pcU (p_X11_token F  sg w) (fun (sg3 : Nat → Nat → Int32) (w4 : Int64) =>
  fixN (fun _ _ _ => none) (pb_X11_line_51 F  v1) F (0 : Int32) sg3 w4)
def pk_X11_line_31 (F : Nat)   (s0 : Int32) (sg : Nat → Nat → Int32) (w : Int64) : Option (Int32 × (Nat → Nat → Int32) × Int64) :=
  if s0 = 0 then
  (pcU (p_X11_isBad F (4 : Int32) (sg 0 8) sg w) (fun (sg34 : Nat → Nat → Int32) (w35 : Int64) =>
  pk_X11_line_45 F  s0 sg34 w35))
  else (pk_X11_line_45 F  s0 sg w)
def p_X11_line (F : Nat)  (sg : Nat → Nat → Int32) (w : Int64) : Option (Int32 × (Nat → Nat → Int32) × Int64) :=
  Option.bind (p_X11_isWord F (1885434484 : Int64) sg w) (fun (x1 : Int32) =>
  if x1 = 0 then
  (pcI (p_X11_fails F  sg w) (fun (x38 : Int32) (sg36 : Nat → Nat → Int32) (w37 : Int64) =>
  mN .boolean x38 sg36 w37))
  else (Option.bind (mI sg 5 891 (0 : Int32)) (fun (x2 : Int32) =>
  if (12 : Int32) ≤ x2 then
  (pk_X11_line_31 F  (0 : Int32) sg w)
  else (pk_X11_line_31 F  (1 : Int32) sg w))))
set_option maxRecDepth 100000 in
set_option maxHeartbeats 4000000 in
theorem ec_X11_line_215 {F : Nat} {G0 : GH} {mo n : Nat}     {sg : Nat → Nat → Int32} {w : Int64} : k_X11_line_215 F  mo  n (mput G0 mo sg w) = Option.map (fun z => (z.1, n, mput G0 mo z.2.1 z.2.2)) (pk_X11_line_215 F    sg w) := by
  unfold k_X11_line_215 pk_X11_line_215
  refine q_gR 16 5 rfl ?_
  refine q_aI rfl rfl (by decide) (fun x17 => ?_)
  refine q_aS rfl rfl (by decide) (fun sg18 => ?_)
  exact q_rN
set_option maxRecDepth 100000 in
set_option maxHeartbeats 4000000 in
theorem el_X11_line_179 {F : Nat} {G0 : GH} {mo n : Nat}    : ∀ (K : Nat) (v3 : Int32) (sg : Nat → Nat → Int32) (w : Int64), fixN ((fun _ _ _ => none) : Int32 → Nat → GH → Option (Int32 × Nat × GH)) (b_X11_line_179 F  mo) K v3 n (mput G0 mo sg w) = Option.map (fun z => (z.1, n, mput G0 mo z.2.1 z.2.2)) (fixN ((fun _ _ _ => none) : Int32 → (Nat → Nat → Int32) → Int64 → Option (Int32 × (Nat → Nat → Int32) × Int64)) (pb_X11_line_179 F  ) K v3 sg w) := by
  intro K
  refine fixN_ind2 (P := fun (r : Int32 → Nat → GH → Option (Int32 × Nat × GH)) (r1 : Int32 → (Nat → Nat → Int32) → Int64 → Option (Int32 × (Nat → Nat → Int32) × Int64)) => ∀ (v3 : Int32) (sg : Nat → Nat → Int32) (w : Int64), r v3 n (mput G0 mo sg w) = Option.map (fun z => (z.1, n, mput G0 mo z.2.1 z.2.2)) (r1 v3 sg w)) ?_ ?_ K
  · intro v3 sg w
    rfl
  · intro rec179 prec179 hrec179 v3 sg w
    unfold b_X11_line_179 pb_X11_line_179
    refine q_ite ?_ ?_
    · exact ec_X11_line_215 
    · refine q_gR 16 5 rfl ?_
      refine q_gR 16 5 rfl ?_
      refine q_aI rfl rfl (by decide) (fun x19 => ?_)
      refine q_gR 20 8 rfl ?_
      refine q_aI rfl rfl (by decide) (fun x20 => ?_)
      refine q_aS rfl rfl (by decide) (fun sg21 => ?_)
      exact hrec179 _ _ _
set_option maxRecDepth 100000 in
set_option maxHeartbeats 4000000 in
theorem ec_X11_line_169 {F : Nat} {G0 : GH} {mo n : Nat}   {v1 : Int32}  {sg : Nat → Nat → Int32} {w : Int64} : k_X11_line_169 F  mo v1  n (mput G0 mo sg w) = Option.map (fun z => (z.1, n, mput G0 mo z.2.1 z.2.2)) (pk_X11_line_169 F  v1  sg w) := by
  unfold k_X11_line_169 pk_X11_line_169
  refine q_cvU (e_X11_token) (fun sg15 w16 => ?_)
  refine q_ite ?_ ?_
  · exact q_rN
  · exact el_X11_line_179  _ _ _ _
set_option maxRecDepth 100000 in
set_option maxHeartbeats 4000000 in
theorem el_X11_line_151 {F : Nat} {G0 : GH} {mo n : Nat}   {v1 : Int32} : ∀ (K : Nat)  (sg : Nat → Nat → Int32) (w : Int64), fixN ((fun _ _ => none) : Nat → GH → Option (Int32 × Nat × GH)) (b_X11_line_151 F  mo v1) K  n (mput G0 mo sg w) = Option.map (fun z => (z.1, n, mput G0 mo z.2.1 z.2.2)) (fixN ((fun _ _ => none) : (Nat → Nat → Int32) → Int64 → Option (Int32 × (Nat → Nat → Int32) × Int64)) (pb_X11_line_151 F  v1) K  sg w) := by
  intro K
  refine fixN_ind2 (P := fun (r : Nat → GH → Option (Int32 × Nat × GH)) (r1 : (Nat → Nat → Int32) → Int64 → Option (Int32 × (Nat → Nat → Int32) × Int64)) => ∀  (sg : Nat → Nat → Int32) (w : Int64), r  n (mput G0 mo sg w) = Option.map (fun z => (z.1, n, mput G0 mo z.2.1 z.2.2)) (r1  sg w)) ?_ ?_ K
  · intro  sg w
    rfl
  · intro rec151 prec151 hrec151  sg w
    unfold b_X11_line_151 pb_X11_line_151
    refine q_cvP (e_X11_isSign) (fun x14 => ?_)
    refine q_ite ?_ ?_
    · refine q_cvI (e_X11_clause) (fun x24 sg22 w23 => ?_)
      refine q_ite ?_ ?_
      · exact q_rN
      · exact hrec151  _ _
    · exact ec_X11_line_169 
set_option maxRecDepth 100000 in
set_option maxHeartbeats 4000000 in
theorem ec_X11_line_122 {F : Nat} {G0 : GH} {mo n : Nat}   {v1 : Int32} {v2 : Int32}  {sg : Nat → Nat → Int32} {w : Int64} : k_X11_line_122 F  mo v1 v2  n (mput G0 mo sg w) = Option.map (fun z => (z.1, n, mput G0 mo z.2.1 z.2.2)) (pk_X11_line_122 F  v1 v2  sg w) := by
  unfold k_X11_line_122 pk_X11_line_122
  refine q_gI 9 rfl ?_
  refine q_ite ?_ ?_
  · refine q_gR 20 8 rfl ?_
    refine q_gI 11 rfl ?_
    refine q_aS rfl rfl (by decide) (fun sg11 => ?_)
    refine q_cvU (e_X11_token) (fun sg12 w13 => ?_)
    exact el_X11_line_151  _ _ _
  · refine q_cvI (e_X11_fails) (fun x27 sg25 w26 => ?_)
    exact q_rN
set_option maxRecDepth 100000 in
set_option maxHeartbeats 4000000 in
theorem ec_X11_line_113 {F : Nat} {G0 : GH} {mo n : Nat}   {v1 : Int32} {s0 : Int32} {sg : Nat → Nat → Int32} {w : Int64} : k_X11_line_113 F  mo v1 s0 n (mput G0 mo sg w) = Option.map (fun z => (z.1, n, mput G0 mo z.2.1 z.2.2)) (pk_X11_line_113 F  v1 s0 sg w) := by
  unfold k_X11_line_113 pk_X11_line_113
  refine q_ite ?_ ?_
  · exact ec_X11_line_122 
  · refine q_cvU (e_X11_token) (fun sg28 w29 => ?_)
    exact ec_X11_line_122 
set_option maxRecDepth 100000 in
set_option maxHeartbeats 4000000 in
theorem ec_X11_line_70 {F : Nat} {G0 : GH} {mo n : Nat}   {v1 : Int32}  {sg : Nat → Nat → Int32} {w : Int64} : k_X11_line_70 F  mo v1  n (mput G0 mo sg w) = Option.map (fun z => (z.1, n, mput G0 mo z.2.1 z.2.2)) (pk_X11_line_70 F  v1  sg w) := by
  unfold k_X11_line_70 pk_X11_line_70
  refine q_gR 20 8 rfl ?_
  refine q_cvP (e_X11_actHere) (fun x5 => ?_)
  refine q_aS rfl rfl (by decide) (fun sg6 => ?_)
  refine q_gR 20 8 rfl ?_
  refine q_aI rfl rfl (by decide) (fun x7 => ?_)
  refine q_ite ?_ ?_
  · refine q_cvI (e_X11_fails) (fun x32 sg30 w31 => ?_)
    exact q_rN
  · refine q_cvU (e_X11_token) (fun sg8 w9 => ?_)
    refine q_cvP (e_X11_isSign) (fun x10 => ?_)
    refine q_ite ?_ ?_
    · exact ec_X11_line_113 
    · exact ec_X11_line_113 
set_option maxRecDepth 100000 in
set_option maxHeartbeats 4000000 in
theorem el_X11_line_51 {F : Nat} {G0 : GH} {mo n : Nat}   {v1 : Int32} : ∀ (K : Nat) (v2 : Int32) (sg : Nat → Nat → Int32) (w : Int64), fixN ((fun _ _ _ => none) : Int32 → Nat → GH → Option (Int32 × Nat × GH)) (b_X11_line_51 F  mo v1) K v2 n (mput G0 mo sg w) = Option.map (fun z => (z.1, n, mput G0 mo z.2.1 z.2.2)) (fixN ((fun _ _ _ => none) : Int32 → (Nat → Nat → Int32) → Int64 → Option (Int32 × (Nat → Nat → Int32) × Int64)) (pb_X11_line_51 F  v1) K v2 sg w) := by
  intro K
  refine fixN_ind2 (P := fun (r : Int32 → Nat → GH → Option (Int32 × Nat × GH)) (r1 : Int32 → (Nat → Nat → Int32) → Int64 → Option (Int32 × (Nat → Nat → Int32) × Int64)) => ∀ (v2 : Int32) (sg : Nat → Nat → Int32) (w : Int64), r v2 n (mput G0 mo sg w) = Option.map (fun z => (z.1, n, mput G0 mo z.2.1 z.2.2)) (r1 v2 sg w)) ?_ ?_ K
  · intro v2 sg w
    rfl
  · intro rec51 prec51 hrec51 v2 sg w
    unfold b_X11_line_51 pb_X11_line_51
    refine q_ite ?_ ?_
    · exact ec_X11_line_70 
    · refine q_gR 20 8 rfl ?_
      refine q_aS rfl rfl (by decide) (fun sg33 => ?_)
      exact hrec51 _ _ _
set_option maxRecDepth 100000 in
set_option maxHeartbeats 4000000 in
theorem ec_X11_line_45 {F : Nat} {G0 : GH} {mo n : Nat}   {v1 : Int32}  {sg : Nat → Nat → Int32} {w : Int64} : k_X11_line_45 F  mo v1  n (mput G0 mo sg w) = Option.map (fun z => (z.1, n, mput G0 mo z.2.1 z.2.2)) (pk_X11_line_45 F  v1  sg w) := by
  unfold k_X11_line_45 pk_X11_line_45
  refine q_cvU (e_X11_token) (fun sg3 w4 => ?_)
  exact el_X11_line_51  _ _ _ _
set_option maxRecDepth 100000 in
set_option maxHeartbeats 4000000 in
theorem ec_X11_line_31 {F : Nat} {G0 : GH} {mo n : Nat}    {s0 : Int32} {sg : Nat → Nat → Int32} {w : Int64} : k_X11_line_31 F  mo s0 n (mput G0 mo sg w) = Option.map (fun z => (z.1, n, mput G0 mo z.2.1 z.2.2)) (pk_X11_line_31 F   s0 sg w) := by
  unfold k_X11_line_31 pk_X11_line_31
  refine q_ite ?_ ?_
  · refine q_gI 8 rfl ?_
    refine q_cvU (e_X11_isBad) (fun sg34 w35 => ?_)
    exact ec_X11_line_45 
  · exact ec_X11_line_45 
set_option maxRecDepth 100000 in
set_option maxHeartbeats 4000000 in
theorem e_X11_line {F : Nat} {G0 : GH} {mo n : Nat}  {sg : Nat → Nat → Int32} {w : Int64} : f_X11_line F mo  n (mput G0 mo sg w) = Option.map (fun z => (z.1, n, mput G0 mo z.2.1 z.2.2)) (p_X11_line F  sg w) := by
  unfold f_X11_line p_X11_line
  refine q_cvP (e_X11_isWord) (fun x1 => ?_)
  refine q_ite ?_ ?_
  · refine q_cvI (e_X11_fails) (fun x38 sg36 w37 => ?_)
    exact q_rN
  · refine q_gR 16 5 rfl ?_
    refine q_aI rfl rfl (by decide) (fun x2 => ?_)
    refine q_ite ?_ ?_
    · exact ec_X11_line_31 
    · exact ec_X11_line_31 
/-! X11_read -/
def pk_X11_read_229 (F : Nat)    (sg : Nat → Nat → Int32) (w : Int64) : Option (Int32 × (Nat → Nat → Int32) × Int64) :=
  gnm (up2 sg 0 5 (0 : Int32)) (fun (sg14 : Nat → Nat → Int32) =>
  Option.bind (mI sg14 1 4470 (0 : Int32)) (fun (x15 : Int32) =>
  some (x15, sg14, w)))
def pb_X11_read_204 (F : Nat)   (prec204 : Int32 → (Nat → Nat → Int32) → Int64 → Option (Int32 × (Nat → Nat → Int32) × Int64)) : Int32 → (Nat → Nat → Int32) → Int64 → Option (Int32 × (Nat → Nat → Int32) × Int64) := fun v2 sg w =>
  if (891 : Int32) ≤ v2 then
  (pk_X11_read_229 F  sg w)
  else (Option.bind (mI sg 5 891 v2) (fun (x16 : Int32) =>
  Option.bind (mS sg 1 4470 v2 x16) (fun (sg17 : Nat → Nat → Int32) =>
  prec204 (v2 + 1) sg17 w)))
def pk_X11_read_188 (F : Nat)   (s1 : Int32) (s2 : Int32) (sg : Nat → Nat → Int32) (w : Int64) : Option (Int32 × (Nat → Nat → Int32) × Int64) :=
  Option.bind (mS sg 1 4470 s1 s2) (fun (sg12 : Nat → Nat → Int32) =>
  Option.bind (mI sg12 1 4470 (892 : Int32)) (fun (x13 : Int32) =>
  if x13 = 0 then
  (fixN (fun _ _ _ => none) (pb_X11_read_204 F  ) F (0 : Int32) sg12 w)
  else (some ((-1 : Int32), sg12, w))))
def pk_X11_read_165 (F : Nat)  (v1 : Int32) (s1 : Int32) (s2 : Int32) (sg : Nat → Nat → Int32) (w : Int64) : Option (Int32 × (Nat → Nat → Int32) × Int64) :=
  Option.bind (mS sg 1 4470 s1 s2) (fun (sg11 : Nat → Nat → Int32) =>
  if v1 = 0 then
  (pk_X11_read_188 F  (893 : Int32) (sg11 0 13) sg11 w)
  else (pk_X11_read_188 F  (893 : Int32) (sg11 0 14) sg11 w))
def pk_X11_read_146 (F : Nat)  (v1 : Int32)  (sg : Nat → Nat → Int32) (w : Int64) : Option (Int32 × (Nat → Nat → Int32) × Int64) :=
  if v1 = 0 then
  (pk_X11_read_165 F  v1 (892 : Int32) (1 : Int32) sg w)
  else (pk_X11_read_165 F  v1 (892 : Int32) (sg 0 15) sg w)
def pb_X11_read_95 (F : Nat)  (v1 : Int32) (prec95 : Int32 → (Nat → Nat → Int32) → Int64 → Option (Int32 × (Nat → Nat → Int32) × Int64)) : Int32 → (Nat → Nat → Int32) → Int64 → Option (Int32 × (Nat → Nat → Int32) × Int64) := fun v2 sg w =>
  if (sg 0 19) ≤ v2 then
  (pk_X11_read_146 F  v1 sg w)
  else (Option.bind (mI sg 7 300 v2) (fun (x18 : Int32) =>
  if (12 : Int32) ≤ x18 then
  (prec95 (v2 + 1) sg w)
  else (Option.bind (mI sg 7 300 v2) (fun (x19 : Int32) =>
  Option.bind (mI sg 5 891 (0 : Int32)) (fun (x20 : Int32) =>
  if x19 < x20 then
  (prec95 (v2 + 1) sg w)
  else (Option.bind (mI sg 6 300 v2) (fun (x21 : Int32) =>
  pcU (p_X11_isBad F (5 : Int32) x21 sg w) (fun (sg22 : Nat → Nat → Int32) (w23 : Int64) =>
  prec95 (v2 + 1) sg22 w23))))))))
def pk_X11_read_93 (F : Nat)  (v1 : Int32)  (sg : Nat → Nat → Int32) (w : Int64) : Option (Int32 × (Nat → Nat → Int32) × Int64) :=
  fixN (fun _ _ _ => none) (pb_X11_read_95 F  v1) F (0 : Int32) sg w
def pb_X11_read_74 (F : Nat)   (prec74 : Int32 → (Nat → Nat → Int32) → Int64 → Option (Int32 × (Nat → Nat → Int32) × Int64)) : Int32 → (Nat → Nat → Int32) → Int64 → Option (Int32 × (Nat → Nat → Int32) × Int64) := fun v1 sg w =>
  if v1 = 0 then
  (pk_X11_read_93 F  v1 sg w)
  else (if (sg 0 9) = 0 then
  (pk_X11_read_93 F  v1 sg w)
  else (pcI (p_X11_line F  sg w) (fun (x26 : Int32) (sg24 : Nat → Nat → Int32) (w25 : Int64) =>
  prec74 x26 sg24 w25)))
def pk_X11_read_48 (F : Nat)    (sg : Nat → Nat → Int32) (w : Int64) : Option (Int32 × (Nat → Nat → Int32) × Int64) :=
  gnm (up2 sg 0 19 (0 : Int32)) (fun (sg5 : Nat → Nat → Int32) =>
  gnm (up2 sg5 0 15 (0 : Int32)) (fun (sg6 : Nat → Nat → Int32) =>
  gnm (up2 sg6 0 14 (-1 : Int32)) (fun (sg7 : Nat → Nat → Int32) =>
  gnm (up2 sg7 0 6 (0 : Int32)) (fun (sg8 : Nat → Nat → Int32) =>
  pcU (p_X11_token F  sg8 w) (fun (sg9 : Nat → Nat → Int32) (w10 : Int64) =>
  fixN (fun _ _ _ => none) (pb_X11_read_74 F  ) F (1 : Int32) sg9 w10)))))
def pb_X11_read_28 (F : Nat)   (prec28 : Int32 → (Nat → Nat → Int32) → Int64 → Option (Int32 × (Nat → Nat → Int32) × Int64)) : Int32 → (Nat → Nat → Int32) → Int64 → Option (Int32 × (Nat → Nat → Int32) × Int64) := fun v1 sg w =>
  if (891 : Int32) ≤ v1 then
  (pk_X11_read_48 F  sg w)
  else (Option.bind (mS sg 5 891 v1 (0 : Int32)) (fun (sg27 : Nat → Nat → Int32) =>
  prec28 (v1 + 1) sg27 w))
def p_X11_read (F : Nat)  (sg : Nat → Nat → Int32) (w : Int64) : Option (Int32 × (Nat → Nat → Int32) × Int64) :=
  gnm (up2 sg 0 0 (0 : Int32)) (fun (sg1 : Nat → Nat → Int32) =>
  Option.bind (mI sg1 1 4470 (891 : Int32)) (fun (x2 : Int32) =>
  gnm (up2 sg1 0 7 x2) (fun (sg3 : Nat → Nat → Int32) =>
  Option.bind (mS sg3 1 4470 (891 : Int32) (0 : Int32)) (fun (sg4 : Nat → Nat → Int32) =>
  fixN (fun _ _ _ => none) (pb_X11_read_28 F  ) F (0 : Int32) sg4 w))))
set_option maxRecDepth 100000 in
set_option maxHeartbeats 4000000 in
theorem ec_X11_read_229 {F : Nat} {G0 : GH} {mo n : Nat}     {sg : Nat → Nat → Int32} {w : Int64} : k_X11_read_229 F  mo  n (mput G0 mo sg w) = Option.map (fun z => (z.1, n, mput G0 mo z.2.1 z.2.2)) (pk_X11_read_229 F    sg w) := by
  unfold k_X11_read_229 pk_X11_read_229
  refine q_pI 5 (mp_5 _ _ _ _) (fun sg14 => ?_)
  refine q_gR 1 1 rfl ?_
  refine q_aI rfl rfl (by decide) (fun x15 => ?_)
  rfl
set_option maxRecDepth 100000 in
set_option maxHeartbeats 4000000 in
theorem el_X11_read_204 {F : Nat} {G0 : GH} {mo n : Nat}    : ∀ (K : Nat) (v2 : Int32) (sg : Nat → Nat → Int32) (w : Int64), fixN ((fun _ _ _ => none) : Int32 → Nat → GH → Option (Int32 × Nat × GH)) (b_X11_read_204 F  mo) K v2 n (mput G0 mo sg w) = Option.map (fun z => (z.1, n, mput G0 mo z.2.1 z.2.2)) (fixN ((fun _ _ _ => none) : Int32 → (Nat → Nat → Int32) → Int64 → Option (Int32 × (Nat → Nat → Int32) × Int64)) (pb_X11_read_204 F  ) K v2 sg w) := by
  intro K
  refine fixN_ind2 (P := fun (r : Int32 → Nat → GH → Option (Int32 × Nat × GH)) (r1 : Int32 → (Nat → Nat → Int32) → Int64 → Option (Int32 × (Nat → Nat → Int32) × Int64)) => ∀ (v2 : Int32) (sg : Nat → Nat → Int32) (w : Int64), r v2 n (mput G0 mo sg w) = Option.map (fun z => (z.1, n, mput G0 mo z.2.1 z.2.2)) (r1 v2 sg w)) ?_ ?_ K
  · intro v2 sg w
    rfl
  · intro rec204 prec204 hrec204 v2 sg w
    unfold b_X11_read_204 pb_X11_read_204
    refine q_ite ?_ ?_
    · exact ec_X11_read_229 
    · refine q_gR 1 1 rfl ?_
      refine q_gR 16 5 rfl ?_
      refine q_aI rfl rfl (by decide) (fun x16 => ?_)
      refine q_aS rfl rfl (by decide) (fun sg17 => ?_)
      exact hrec204 _ _ _
set_option maxRecDepth 100000 in
set_option maxHeartbeats 4000000 in
theorem ec_X11_read_188 {F : Nat} {G0 : GH} {mo n : Nat}    {s1 : Int32} {s2 : Int32} {sg : Nat → Nat → Int32} {w : Int64} : k_X11_read_188 F  mo (mo + 1) s1 s2 n (mput G0 mo sg w) = Option.map (fun z => (z.1, n, mput G0 mo z.2.1 z.2.2)) (pk_X11_read_188 F   s1 s2 sg w) := by
  unfold k_X11_read_188 pk_X11_read_188
  refine q_aS rfl rfl (by decide) (fun sg12 => ?_)
  refine q_gR 1 1 rfl ?_
  refine q_aI rfl rfl (by decide) (fun x13 => ?_)
  refine q_ite ?_ ?_
  · exact el_X11_read_204  _ _ _ _
  · rfl
set_option maxRecDepth 100000 in
set_option maxHeartbeats 4000000 in
theorem ec_X11_read_165 {F : Nat} {G0 : GH} {mo n : Nat}   {v1 : Int32} {s1 : Int32} {s2 : Int32} {sg : Nat → Nat → Int32} {w : Int64} : k_X11_read_165 F  mo v1 (mo + 1) s1 s2 n (mput G0 mo sg w) = Option.map (fun z => (z.1, n, mput G0 mo z.2.1 z.2.2)) (pk_X11_read_165 F  v1 s1 s2 sg w) := by
  unfold k_X11_read_165 pk_X11_read_165
  refine q_aS rfl rfl (by decide) (fun sg11 => ?_)
  refine q_gR 1 1 rfl ?_
  refine q_ite ?_ ?_
  · refine q_gI 13 rfl ?_
    exact ec_X11_read_188 
  · refine q_gI 14 rfl ?_
    exact ec_X11_read_188 
set_option maxRecDepth 100000 in
set_option maxHeartbeats 4000000 in
theorem ec_X11_read_146 {F : Nat} {G0 : GH} {mo n : Nat}   {v1 : Int32}  {sg : Nat → Nat → Int32} {w : Int64} : k_X11_read_146 F  mo v1  n (mput G0 mo sg w) = Option.map (fun z => (z.1, n, mput G0 mo z.2.1 z.2.2)) (pk_X11_read_146 F  v1  sg w) := by
  unfold k_X11_read_146 pk_X11_read_146
  refine q_gR 1 1 rfl ?_
  refine q_ite ?_ ?_
  · exact ec_X11_read_165 
  · refine q_gI 15 rfl ?_
    exact ec_X11_read_165 
set_option maxRecDepth 100000 in
set_option maxHeartbeats 4000000 in
theorem el_X11_read_95 {F : Nat} {G0 : GH} {mo n : Nat}   {v1 : Int32} : ∀ (K : Nat) (v2 : Int32) (sg : Nat → Nat → Int32) (w : Int64), fixN ((fun _ _ _ => none) : Int32 → Nat → GH → Option (Int32 × Nat × GH)) (b_X11_read_95 F  mo v1) K v2 n (mput G0 mo sg w) = Option.map (fun z => (z.1, n, mput G0 mo z.2.1 z.2.2)) (fixN ((fun _ _ _ => none) : Int32 → (Nat → Nat → Int32) → Int64 → Option (Int32 × (Nat → Nat → Int32) × Int64)) (pb_X11_read_95 F  v1) K v2 sg w) := by
  intro K
  refine fixN_ind2 (P := fun (r : Int32 → Nat → GH → Option (Int32 × Nat × GH)) (r1 : Int32 → (Nat → Nat → Int32) → Int64 → Option (Int32 × (Nat → Nat → Int32) × Int64)) => ∀ (v2 : Int32) (sg : Nat → Nat → Int32) (w : Int64), r v2 n (mput G0 mo sg w) = Option.map (fun z => (z.1, n, mput G0 mo z.2.1 z.2.2)) (r1 v2 sg w)) ?_ ?_ K
  · intro v2 sg w
    rfl
  · intro rec95 prec95 hrec95 v2 sg w
    unfold b_X11_read_95 pb_X11_read_95
    refine q_gI 19 rfl ?_
    refine q_ite ?_ ?_
    · exact ec_X11_read_146 
    · refine q_gR 18 7 rfl ?_
      refine q_aI rfl rfl (by decide) (fun x18 => ?_)
      refine q_ite ?_ ?_
      · exact hrec95 _ _ _
      · refine q_gR 18 7 rfl ?_
        refine q_aI rfl rfl (by decide) (fun x19 => ?_)
        refine q_gR 16 5 rfl ?_
        refine q_aI rfl rfl (by decide) (fun x20 => ?_)
        refine q_ite ?_ ?_
        · exact hrec95 _ _ _
        · refine q_gR 17 6 rfl ?_
          refine q_aI rfl rfl (by decide) (fun x21 => ?_)
          refine q_cvU (e_X11_isBad) (fun sg22 w23 => ?_)
          exact hrec95 _ _ _
set_option maxRecDepth 100000 in
set_option maxHeartbeats 4000000 in
theorem ec_X11_read_93 {F : Nat} {G0 : GH} {mo n : Nat}   {v1 : Int32}  {sg : Nat → Nat → Int32} {w : Int64} : k_X11_read_93 F  mo v1  n (mput G0 mo sg w) = Option.map (fun z => (z.1, n, mput G0 mo z.2.1 z.2.2)) (pk_X11_read_93 F  v1  sg w) := by
  unfold k_X11_read_93 pk_X11_read_93
  exact el_X11_read_95  _ _ _ _
set_option maxRecDepth 100000 in
set_option maxHeartbeats 4000000 in
theorem el_X11_read_74 {F : Nat} {G0 : GH} {mo n : Nat}    : ∀ (K : Nat) (v1 : Int32) (sg : Nat → Nat → Int32) (w : Int64), fixN ((fun _ _ _ => none) : Int32 → Nat → GH → Option (Int32 × Nat × GH)) (b_X11_read_74 F  mo) K v1 n (mput G0 mo sg w) = Option.map (fun z => (z.1, n, mput G0 mo z.2.1 z.2.2)) (fixN ((fun _ _ _ => none) : Int32 → (Nat → Nat → Int32) → Int64 → Option (Int32 × (Nat → Nat → Int32) × Int64)) (pb_X11_read_74 F  ) K v1 sg w) := by
  intro K
  refine fixN_ind2 (P := fun (r : Int32 → Nat → GH → Option (Int32 × Nat × GH)) (r1 : Int32 → (Nat → Nat → Int32) → Int64 → Option (Int32 × (Nat → Nat → Int32) × Int64)) => ∀ (v1 : Int32) (sg : Nat → Nat → Int32) (w : Int64), r v1 n (mput G0 mo sg w) = Option.map (fun z => (z.1, n, mput G0 mo z.2.1 z.2.2)) (r1 v1 sg w)) ?_ ?_ K
  · intro v1 sg w
    rfl
  · intro rec74 prec74 hrec74 v1 sg w
    unfold b_X11_read_74 pb_X11_read_74
    refine q_ite ?_ ?_
    · exact ec_X11_read_93 
    · refine q_gI 9 rfl ?_
      refine q_ite ?_ ?_
      · exact ec_X11_read_93 
      · refine q_cvI (e_X11_line) (fun x26 sg24 w25 => ?_)
        exact hrec74 _ _ _
set_option maxRecDepth 100000 in
set_option maxHeartbeats 4000000 in
theorem ec_X11_read_48 {F : Nat} {G0 : GH} {mo n : Nat}     {sg : Nat → Nat → Int32} {w : Int64} : k_X11_read_48 F  mo  n (mput G0 mo sg w) = Option.map (fun z => (z.1, n, mput G0 mo z.2.1 z.2.2)) (pk_X11_read_48 F    sg w) := by
  unfold k_X11_read_48 pk_X11_read_48
  refine q_pI 19 (mp_19 _ _ _ _) (fun sg5 => ?_)
  refine q_pI 15 (mp_15 _ _ _ _) (fun sg6 => ?_)
  refine q_pI 14 (mp_14 _ _ _ _) (fun sg7 => ?_)
  refine q_pI 6 (mp_6 _ _ _ _) (fun sg8 => ?_)
  refine q_cvU (e_X11_token) (fun sg9 w10 => ?_)
  exact el_X11_read_74  _ _ _ _
set_option maxRecDepth 100000 in
set_option maxHeartbeats 4000000 in
theorem el_X11_read_28 {F : Nat} {G0 : GH} {mo n : Nat}    : ∀ (K : Nat) (v1 : Int32) (sg : Nat → Nat → Int32) (w : Int64), fixN ((fun _ _ _ => none) : Int32 → Nat → GH → Option (Int32 × Nat × GH)) (b_X11_read_28 F  mo) K v1 n (mput G0 mo sg w) = Option.map (fun z => (z.1, n, mput G0 mo z.2.1 z.2.2)) (fixN ((fun _ _ _ => none) : Int32 → (Nat → Nat → Int32) → Int64 → Option (Int32 × (Nat → Nat → Int32) × Int64)) (pb_X11_read_28 F  ) K v1 sg w) := by
  intro K
  refine fixN_ind2 (P := fun (r : Int32 → Nat → GH → Option (Int32 × Nat × GH)) (r1 : Int32 → (Nat → Nat → Int32) → Int64 → Option (Int32 × (Nat → Nat → Int32) × Int64)) => ∀ (v1 : Int32) (sg : Nat → Nat → Int32) (w : Int64), r v1 n (mput G0 mo sg w) = Option.map (fun z => (z.1, n, mput G0 mo z.2.1 z.2.2)) (r1 v1 sg w)) ?_ ?_ K
  · intro v1 sg w
    rfl
  · intro rec28 prec28 hrec28 v1 sg w
    unfold b_X11_read_28 pb_X11_read_28
    refine q_ite ?_ ?_
    · exact ec_X11_read_48 
    · refine q_gR 16 5 rfl ?_
      refine q_aS rfl rfl (by decide) (fun sg27 => ?_)
      exact hrec28 _ _ _
set_option maxRecDepth 100000 in
set_option maxHeartbeats 4000000 in
theorem e_X11_read {F : Nat} {G0 : GH} {mo n : Nat}  {sg : Nat → Nat → Int32} {w : Int64} : f_X11_read F mo  n (mput G0 mo sg w) = Option.map (fun z => (z.1, n, mput G0 mo z.2.1 z.2.2)) (p_X11_read F  sg w) := by
  unfold f_X11_read p_X11_read
  refine q_pI 0 (mp_0 _ _ _ _) (fun sg1 => ?_)
  refine q_gR 1 1 rfl ?_
  refine q_aI rfl rfl (by decide) (fun x2 => ?_)
  refine q_pI 7 (mp_7 _ _ _ _) (fun sg3 => ?_)
  refine q_gR 1 1 rfl ?_
  refine q_aS rfl rfl (by decide) (fun sg4 => ?_)
  exact el_X11_read_28  _ _ _ _
/-! X11_fault -/
def p_X11_fault (F : Nat) (v1 : Int32) (sg : Nat → Nat → Int32) (w : Int64) : Option (Int32 × (Nat → Nat → Int32) × Int64) :=
  gnm (up2 sg 0 0 (0 : Int32)) (fun (sg1 : Nat → Nat → Int32) =>
  if v1 = 0 then
  (Option.bind (mI sg1 1 4470 (892 : Int32)) (fun (x2 : Int32) =>
  some (x2, sg1, w)))
  else (Option.bind (mI sg1 1 4470 (893 : Int32)) (fun (x3 : Int32) =>
  some (x3, sg1, w))))
set_option maxRecDepth 100000 in
set_option maxHeartbeats 4000000 in
theorem e_X11_fault {F : Nat} {G0 : GH} {mo n : Nat} {v1 : Int32} {sg : Nat → Nat → Int32} {w : Int64} : f_X11_fault F mo v1 n (mput G0 mo sg w) = Option.map (fun z => (z.1, n, mput G0 mo z.2.1 z.2.2)) (p_X11_fault F v1 sg w) := by
  unfold f_X11_fault p_X11_fault
  refine q_pI 0 (mp_0 _ _ _ _) (fun sg1 => ?_)
  refine q_ite ?_ ?_
  · refine q_gR 1 1 rfl ?_
    refine q_aI rfl rfl (by decide) (fun x2 => ?_)
    rfl
  · refine q_gR 1 1 rfl ?_
    refine q_aI rfl rfl (by decide) (fun x3 => ?_)
    rfl
/-! X11_standsFor -/
def pk_X11_standsFor_24 (F : Nat)  (v1 : Int32) (v3 : Int32)  (sg : Nat → Nat → Int32) (w : Int64) : Option (Int32) :=
  Option.bind (mI sg 1 4470 (((146 : Int32) + ((12 : Int32) * v3)) + v1)) (fun (x2 : Int32) =>
  some (x2 - (1 : Int32)))
def pb_X11_standsFor_2 (F : Nat)  (v1 : Int32) (sg : Nat → Nat → Int32) (w : Int64) (prec2 : Int32 → Option (Int32)) : Int32 → Option (Int32) := fun v3 =>
  if v3 < 0 then
  (some v1)
  else (Option.bind (mI sg 1 4470 (((146 : Int32) + ((12 : Int32) * v3)) + v1)) (fun (x1 : Int32) =>
  if x1 ≤ 0 then
  (prec2 (v3 + (-1)))
  else (pk_X11_standsFor_24 F  v1 v3 sg w)))
def p_X11_standsFor (F : Nat) (v1 : Int32) (v2 : Int32) (sg : Nat → Nat → Int32) (w : Int64) : Option (Int32) :=
  fixN (fun _ => none) (pb_X11_standsFor_2 F  v1 sg w) F v2
set_option maxRecDepth 100000 in
set_option maxHeartbeats 4000000 in
theorem ec_X11_standsFor_24 {F : Nat} {G0 : GH} {mo : Nat}   {v1 : Int32} {v3 : Int32}  {sg : Nat → Nat → Int32} {w : Int64} : k_X11_standsFor_24 F  mo v1 v3  (mput G0 mo sg w) = Option.map (fun z => z) (pk_X11_standsFor_24 F  v1 v3  sg w) := by
  unfold k_X11_standsFor_24 pk_X11_standsFor_24
  refine q_gR 1 1 rfl ?_
  refine q_aI rfl rfl (by decide) (fun x2 => ?_)
  rfl
set_option maxRecDepth 100000 in
set_option maxHeartbeats 4000000 in
theorem el_X11_standsFor_2 {F : Nat} {G0 : GH} {mo : Nat}   {v1 : Int32} {sg : Nat → Nat → Int32} {w : Int64} : ∀ (K : Nat) (v3 : Int32), fixN ((fun _ => none) : Int32 → Option (Int32)) (b_X11_standsFor_2 F  mo v1 (mput G0 mo sg w)) K v3 = Option.map (fun z => z) (fixN ((fun _ => none) : Int32 → Option (Int32)) (pb_X11_standsFor_2 F  v1 sg w) K v3) := by
  intro K
  refine fixN_ind2 (P := fun (r : Int32 → Option (Int32)) (r1 : Int32 → Option (Int32)) => ∀ (v3 : Int32), r v3 = Option.map (fun z => z) (r1 v3)) ?_ ?_ K
  · intro v3
    rfl
  · intro rec2 prec2 hrec2 v3
    unfold b_X11_standsFor_2 pb_X11_standsFor_2
    refine q_ite ?_ ?_
    · rfl
    · refine q_gR 1 1 rfl ?_
      refine q_aI rfl rfl (by decide) (fun x1 => ?_)
      refine q_ite ?_ ?_
      · exact hrec2 _
      · exact ec_X11_standsFor_24 
set_option maxRecDepth 100000 in
set_option maxHeartbeats 4000000 in
theorem e_X11_standsFor {F : Nat} {G0 : GH} {mo : Nat} {v1 : Int32} {v2 : Int32} {sg : Nat → Nat → Int32} {w : Int64} : f_X11_standsFor F mo v1 v2 (mput G0 mo sg w) = p_X11_standsFor F v1 v2 sg w := by
  refine Eq.trans ?_ (q_mid _)
  unfold f_X11_standsFor p_X11_standsFor
  exact el_X11_standsFor_2  _ _
/-! X11_thingOf -/
def pb_X11_thingOf_2 (F : Nat)  (v1 : Int32) (v2 : Int32) (sg : Nat → Nat → Int32) (w : Int64) (prec2 : Int32 → Option (Int32)) : Int32 → Option (Int32) := fun v3 =>
  Option.bind (mI sg 1 4470 (206 : Int32)) (fun (x1 : Int32) =>
  if x1 ≤ v3 then
  (some (-1 : Int32))
  else (Option.bind (p_X11_its F v3 (0 : Int32) sg w) (fun (x2 : Int32) =>
  if x2 = v1 then
  (Option.bind (p_X11_its F v3 (1 : Int32) sg w) (fun (x3 : Int32) =>
  if x3 = v2 then
  (some v3)
  else (prec2 (v3 + 1))))
  else (prec2 (v3 + 1)))))
def p_X11_thingOf (F : Nat) (v1 : Int32) (v2 : Int32) (sg : Nat → Nat → Int32) (w : Int64) : Option (Int32) :=
  fixN (fun _ => none) (pb_X11_thingOf_2 F  v1 v2 sg w) F (0 : Int32)
set_option maxRecDepth 100000 in
set_option maxHeartbeats 4000000 in
theorem el_X11_thingOf_2 {F : Nat} {G0 : GH} {mo : Nat}   {v1 : Int32} {v2 : Int32} {sg : Nat → Nat → Int32} {w : Int64} : ∀ (K : Nat) (v3 : Int32), fixN ((fun _ => none) : Int32 → Option (Int32)) (b_X11_thingOf_2 F  mo v1 v2 (mput G0 mo sg w)) K v3 = Option.map (fun z => z) (fixN ((fun _ => none) : Int32 → Option (Int32)) (pb_X11_thingOf_2 F  v1 v2 sg w) K v3) := by
  intro K
  refine fixN_ind2 (P := fun (r : Int32 → Option (Int32)) (r1 : Int32 → Option (Int32)) => ∀ (v3 : Int32), r v3 = Option.map (fun z => z) (r1 v3)) ?_ ?_ K
  · intro v3
    rfl
  · intro rec2 prec2 hrec2 v3
    unfold b_X11_thingOf_2 pb_X11_thingOf_2
    refine q_gR 1 1 rfl ?_
    refine q_aI rfl rfl (by decide) (fun x1 => ?_)
    refine q_ite ?_ ?_
    · rfl
    · refine q_cvP (e_X11_its) (fun x2 => ?_)
      refine q_ite ?_ ?_
      · refine q_cvP (e_X11_its) (fun x3 => ?_)
        refine q_ite ?_ ?_
        · rfl
        · exact hrec2 _
      · exact hrec2 _
set_option maxRecDepth 100000 in
set_option maxHeartbeats 4000000 in
theorem e_X11_thingOf {F : Nat} {G0 : GH} {mo : Nat} {v1 : Int32} {v2 : Int32} {sg : Nat → Nat → Int32} {w : Int64} : f_X11_thingOf F mo v1 v2 (mput G0 mo sg w) = p_X11_thingOf F v1 v2 sg w := by
  refine Eq.trans ?_ (q_mid _)
  unfold f_X11_thingOf p_X11_thingOf
  exact el_X11_thingOf_2  _ _
/-! X11_isOnWay -/
def pb_X11_isOnWay_2 (F : Nat)  (v1 : Int32) (sg : Nat → Nat → Int32) (w : Int64) (prec2 : Int32 → Option (Int32)) : Int32 → Option (Int32) := fun v2 =>
  if (sg 0 26) ≤ v2 then
  (rP .boolean (0 : Int32))
  else (Option.bind (mI sg 9 16 v2) (fun (x1 : Int32) =>
  if x1 = v1 then
  (rP .boolean (1 : Int32))
  else (prec2 (v2 + 1))))
def p_X11_isOnWay (F : Nat) (v1 : Int32) (sg : Nat → Nat → Int32) (w : Int64) : Option (Int32) :=
  fixN (fun _ => none) (pb_X11_isOnWay_2 F  v1 sg w) F (0 : Int32)
set_option maxRecDepth 100000 in
set_option maxHeartbeats 4000000 in
theorem el_X11_isOnWay_2 {F : Nat} {G0 : GH} {mo : Nat}   {v1 : Int32} {sg : Nat → Nat → Int32} {w : Int64} : ∀ (K : Nat) (v2 : Int32), fixN ((fun _ => none) : Int32 → Option (Int32)) (b_X11_isOnWay_2 F  mo v1 (mput G0 mo sg w)) K v2 = Option.map (fun z => z) (fixN ((fun _ => none) : Int32 → Option (Int32)) (pb_X11_isOnWay_2 F  v1 sg w) K v2) := by
  intro K
  refine fixN_ind2 (P := fun (r : Int32 → Option (Int32)) (r1 : Int32 → Option (Int32)) => ∀ (v2 : Int32), r v2 = Option.map (fun z => z) (r1 v2)) ?_ ?_ K
  · intro v2
    rfl
  · intro rec2 prec2 hrec2 v2
    unfold b_X11_isOnWay_2 pb_X11_isOnWay_2
    refine q_gI 26 rfl ?_
    refine q_ite ?_ ?_
    · exact q_id
    · refine q_gR 21 9 rfl ?_
      refine q_aI rfl rfl (by decide) (fun x1 => ?_)
      refine q_ite ?_ ?_
      · exact q_id
      · exact hrec2 _
set_option maxRecDepth 100000 in
set_option maxHeartbeats 4000000 in
theorem e_X11_isOnWay {F : Nat} {G0 : GH} {mo : Nat} {v1 : Int32} {sg : Nat → Nat → Int32} {w : Int64} : f_X11_isOnWay F mo v1 (mput G0 mo sg w) = p_X11_isOnWay F v1 sg w := by
  refine Eq.trans ?_ (q_mid _)
  unfold f_X11_isOnWay p_X11_isOnWay
  exact el_X11_isOnWay_2  _ _
/-! X11_whyAlso -/
def p_X11_whyAlso (F : Nat) (v1 : Int32) (sg : Nat → Nat → Int32) (w : Int64) : Option ((Nat → Nat → Int32) × Int64) :=
  Option.bind (mI sg 1 4470 (809 : Int32)) (fun (x1 : Int32) =>
  Option.bind (mS sg 1 4470 ((811 : Int32) + x1) v1) (fun (sg2 : Nat → Nat → Int32) =>
  Option.bind (mI sg2 1 4470 (809 : Int32)) (fun (x3 : Int32) =>
  Option.bind (mS sg2 1 4470 (809 : Int32) (x3 + (1 : Int32))) (fun (sg4 : Nat → Nat → Int32) =>
  some (sg4, w)))))
set_option maxRecDepth 100000 in
set_option maxHeartbeats 4000000 in
theorem e_X11_whyAlso {F : Nat} {G0 : GH} {mo n : Nat} {v1 : Int32} {sg : Nat → Nat → Int32} {w : Int64} : f_X11_whyAlso F mo v1 n (mput G0 mo sg w) = Option.map (fun z => (n, mput G0 mo z.1 z.2)) (p_X11_whyAlso F v1 sg w) := by
  unfold f_X11_whyAlso p_X11_whyAlso
  refine q_gR 1 1 rfl ?_
  refine q_gR 1 1 rfl ?_
  refine q_aI rfl rfl (by decide) (fun x1 => ?_)
  refine q_aS rfl rfl (by decide) (fun sg2 => ?_)
  refine q_gR 1 1 rfl ?_
  refine q_aI rfl rfl (by decide) (fun x3 => ?_)
  refine q_aS rfl rfl (by decide) (fun sg4 => ?_)
  rfl
/-! X11_tellsWhy -/
def pk_X11_tellsWhy_75 (F : Nat)  (v1 : Int32) (v2 : Int32)  (sg : Nat → Nat → Int32) (w : Int64) : Option (Int32 × (Nat → Nat → Int32) × Int64) :=
  if v2 = (-1 : Int32) then
  (some (v1, sg, w))
  else (pcU (p_X11_whyAlso F v2 sg w) (fun (sg3 : Nat → Nat → Int32) (w4 : Int64) =>
  some (v1, sg3, w4)))
def pb_X11_tellsWhy_51 (F : Nat)  (v1 : Int32) (v2 : Int32) (prec51 : Int32 → (Nat → Nat → Int32) → Int64 → Option (Int32 × (Nat → Nat → Int32) × Int64)) : Int32 → (Nat → Nat → Int32) → Int64 → Option (Int32 × (Nat → Nat → Int32) × Int64) := fun v3 sg w =>
  if (sg 0 26) ≤ v3 then
  (pk_X11_tellsWhy_75 F  v1 v2 sg w)
  else (Option.bind (mI sg 9 16 v3) (fun (x5 : Int32) =>
  pcU (p_X11_whyAlso F x5 sg w) (fun (sg6 : Nat → Nat → Int32) (w7 : Int64) =>
  prec51 (v3 + 1) sg6 w7)))
def pk_X11_tellsWhy_49 (F : Nat)  (v1 : Int32) (v2 : Int32)  (sg : Nat → Nat → Int32) (w : Int64) : Option (Int32 × (Nat → Nat → Int32) × Int64) :=
  fixN (fun _ _ _ => none) (pb_X11_tellsWhy_51 F  v1 v2) F (0 : Int32) sg w
def pb_X11_tellsWhy_20 (F : Nat)  (v1 : Int32) (v2 : Int32) (prec20 : Int32 → (Nat → Nat → Int32) → Int64 → Option (Int32 × (Nat → Nat → Int32) × Int64)) : Int32 → (Nat → Nat → Int32) → Int64 → Option (Int32 × (Nat → Nat → Int32) × Int64) := fun v3 sg w =>
  if (sg 0 29) ≤ v3 then
  (pk_X11_tellsWhy_49 F  v1 v2 sg w)
  else (Option.bind (mI sg 14 64 v3) (fun (x8 : Int32) =>
  Option.bind (p_X11_its F x8 (0 : Int32) sg w) (fun (x9 : Int32) =>
  pcU (p_X11_whyAlso F x9 sg w) (fun (sg10 : Nat → Nat → Int32) (w11 : Int64) =>
  prec20 (v3 + 1) sg10 w11))))
def p_X11_tellsWhy (F : Nat) (v1 : Int32) (v2 : Int32) (sg : Nat → Nat → Int32) (w : Int64) : Option (Int32 × (Nat → Nat → Int32) × Int64) :=
  Option.bind (mS sg 1 4470 (809 : Int32) (0 : Int32)) (fun (sg1 : Nat → Nat → Int32) =>
  Option.bind (mS sg1 1 4470 (810 : Int32) v1) (fun (sg2 : Nat → Nat → Int32) =>
  fixN (fun _ _ _ => none) (pb_X11_tellsWhy_20 F  v1 v2) F (0 : Int32) sg2 w))
set_option maxRecDepth 100000 in
set_option maxHeartbeats 4000000 in
theorem ec_X11_tellsWhy_75 {F : Nat} {G0 : GH} {mo n : Nat}   {v1 : Int32} {v2 : Int32}  {sg : Nat → Nat → Int32} {w : Int64} : k_X11_tellsWhy_75 F  mo v1 v2  n (mput G0 mo sg w) = Option.map (fun z => (z.1, n, mput G0 mo z.2.1 z.2.2)) (pk_X11_tellsWhy_75 F  v1 v2  sg w) := by
  unfold k_X11_tellsWhy_75 pk_X11_tellsWhy_75
  refine q_ite ?_ ?_
  · rfl
  · refine q_cvU (e_X11_whyAlso) (fun sg3 w4 => ?_)
    rfl
set_option maxRecDepth 100000 in
set_option maxHeartbeats 4000000 in
theorem el_X11_tellsWhy_51 {F : Nat} {G0 : GH} {mo n : Nat}   {v1 : Int32} {v2 : Int32} : ∀ (K : Nat) (v3 : Int32) (sg : Nat → Nat → Int32) (w : Int64), fixN ((fun _ _ _ => none) : Int32 → Nat → GH → Option (Int32 × Nat × GH)) (b_X11_tellsWhy_51 F  mo v1 v2) K v3 n (mput G0 mo sg w) = Option.map (fun z => (z.1, n, mput G0 mo z.2.1 z.2.2)) (fixN ((fun _ _ _ => none) : Int32 → (Nat → Nat → Int32) → Int64 → Option (Int32 × (Nat → Nat → Int32) × Int64)) (pb_X11_tellsWhy_51 F  v1 v2) K v3 sg w) := by
  intro K
  refine fixN_ind2 (P := fun (r : Int32 → Nat → GH → Option (Int32 × Nat × GH)) (r1 : Int32 → (Nat → Nat → Int32) → Int64 → Option (Int32 × (Nat → Nat → Int32) × Int64)) => ∀ (v3 : Int32) (sg : Nat → Nat → Int32) (w : Int64), r v3 n (mput G0 mo sg w) = Option.map (fun z => (z.1, n, mput G0 mo z.2.1 z.2.2)) (r1 v3 sg w)) ?_ ?_ K
  · intro v3 sg w
    rfl
  · intro rec51 prec51 hrec51 v3 sg w
    unfold b_X11_tellsWhy_51 pb_X11_tellsWhy_51
    refine q_gI 26 rfl ?_
    refine q_ite ?_ ?_
    · exact ec_X11_tellsWhy_75 
    · refine q_gR 21 9 rfl ?_
      refine q_aI rfl rfl (by decide) (fun x5 => ?_)
      refine q_cvU (e_X11_whyAlso) (fun sg6 w7 => ?_)
      exact hrec51 _ _ _
set_option maxRecDepth 100000 in
set_option maxHeartbeats 4000000 in
theorem ec_X11_tellsWhy_49 {F : Nat} {G0 : GH} {mo n : Nat}   {v1 : Int32} {v2 : Int32}  {sg : Nat → Nat → Int32} {w : Int64} : k_X11_tellsWhy_49 F  mo v1 v2  n (mput G0 mo sg w) = Option.map (fun z => (z.1, n, mput G0 mo z.2.1 z.2.2)) (pk_X11_tellsWhy_49 F  v1 v2  sg w) := by
  unfold k_X11_tellsWhy_49 pk_X11_tellsWhy_49
  exact el_X11_tellsWhy_51  _ _ _ _
set_option maxRecDepth 100000 in
set_option maxHeartbeats 4000000 in
theorem el_X11_tellsWhy_20 {F : Nat} {G0 : GH} {mo n : Nat}   {v1 : Int32} {v2 : Int32} : ∀ (K : Nat) (v3 : Int32) (sg : Nat → Nat → Int32) (w : Int64), fixN ((fun _ _ _ => none) : Int32 → Nat → GH → Option (Int32 × Nat × GH)) (b_X11_tellsWhy_20 F  mo v1 v2) K v3 n (mput G0 mo sg w) = Option.map (fun z => (z.1, n, mput G0 mo z.2.1 z.2.2)) (fixN ((fun _ _ _ => none) : Int32 → (Nat → Nat → Int32) → Int64 → Option (Int32 × (Nat → Nat → Int32) × Int64)) (pb_X11_tellsWhy_20 F  v1 v2) K v3 sg w) := by
  intro K
  refine fixN_ind2 (P := fun (r : Int32 → Nat → GH → Option (Int32 × Nat × GH)) (r1 : Int32 → (Nat → Nat → Int32) → Int64 → Option (Int32 × (Nat → Nat → Int32) × Int64)) => ∀ (v3 : Int32) (sg : Nat → Nat → Int32) (w : Int64), r v3 n (mput G0 mo sg w) = Option.map (fun z => (z.1, n, mput G0 mo z.2.1 z.2.2)) (r1 v3 sg w)) ?_ ?_ K
  · intro v3 sg w
    rfl
  · intro rec20 prec20 hrec20 v3 sg w
    unfold b_X11_tellsWhy_20 pb_X11_tellsWhy_20
    refine q_gI 29 rfl ?_
    refine q_ite ?_ ?_
    · exact ec_X11_tellsWhy_49 
    · refine q_gR 27 14 rfl ?_
      refine q_aI rfl rfl (by decide) (fun x8 => ?_)
      refine q_cvP (e_X11_its) (fun x9 => ?_)
      refine q_cvU (e_X11_whyAlso) (fun sg10 w11 => ?_)
      exact hrec20 _ _ _
set_option maxRecDepth 100000 in
set_option maxHeartbeats 4000000 in
theorem e_X11_tellsWhy {F : Nat} {G0 : GH} {mo n : Nat} {v1 : Int32} {v2 : Int32} {sg : Nat → Nat → Int32} {w : Int64} : f_X11_tellsWhy F mo v1 v2 n (mput G0 mo sg w) = Option.map (fun z => (z.1, n, mput G0 mo z.2.1 z.2.2)) (p_X11_tellsWhy F v1 v2 sg w) := by
  unfold f_X11_tellsWhy p_X11_tellsWhy
  refine q_gR 1 1 rfl ?_
  refine q_aS rfl rfl (by decide) (fun sg1 => ?_)
  refine q_gR 1 1 rfl ?_
  refine q_aS rfl rfl (by decide) (fun sg2 => ?_)
  exact el_X11_tellsWhy_20  _ _ _ _
/-! X11_opens -/
def pk_X11_opens_188 (F : Nat)    (sg : Nat → Nat → Int32) (w : Int64) : Option (Int32 × (Nat → Nat → Int32) × Int64) :=
  gnm (up2 sg 0 26 ((sg 0 26) + (1 : Int32))) (fun (sg14 : Nat → Nat → Int32) =>
  some ((-9 : Int32), sg14, w))
def pb_X11_opens_161 (F : Nat)   (prec161 : Int32 → (Nat → Nat → Int32) → Int64 → Option (Int32 × (Nat → Nat → Int32) × Int64)) : Int32 → (Nat → Nat → Int32) → Int64 → Option (Int32 × (Nat → Nat → Int32) × Int64) := fun v6 sg w =>
  if (4 : Int32) ≤ v6 then
  (pk_X11_opens_188 F  sg w)
  else (Option.bind (mS sg 13 64 (((4 : Int32) * (sg 0 26)) + v6) (0 : Int32)) (fun (sg15 : Nat → Nat → Int32) =>
  prec161 (v6 + 1) sg15 w))
def pk_X11_opens_46 (F : Nat)  (v3 : Int32) (v4 : Int32) (s0 : Int32) (sg : Nat → Nat → Int32) (w : Int64) : Option (Int32 × (Nat → Nat → Int32) × Int64) :=
  if s0 = (-1 : Int32) then
  (Option.bind (p_X11_isOnWay F v3 sg w) (fun (x5 : Int32) =>
  if x5 = 0 then
  (Option.bind (mI sg 1 4470 (206 : Int32)) (fun (x6 : Int32) =>
  if x6 = (60 : Int32) then
  (pcI (p_X11_tellsWhy F (-4 : Int32) v3 sg w) (fun (x18 : Int32) (sg16 : Nat → Nat → Int32) (w17 : Int64) =>
  some (x18, sg16, w17)))
  else (Option.bind (mI sg 1 4470 ((133 : Int32) + v3)) (fun (x7 : Int32) =>
  Option.bind (mS sg 1 4470 ((133 : Int32) + v3) (x7 + (1 : Int32))) (fun (sg8 : Nat → Nat → Int32) =>
  Option.bind (mS sg8 9 16 (sg8 0 26) v3) (fun (sg9 : Nat → Nat → Int32) =>
  Option.bind (mS sg9 10 16 (sg9 0 26) v4) (fun (sg10 : Nat → Nat → Int32) =>
  Option.bind (mS sg10 11 16 (sg10 0 26) (0 : Int32)) (fun (sg11 : Nat → Nat → Int32) =>
  Option.bind (mI sg11 1 4470 ((133 : Int32) + v3)) (fun (x12 : Int32) =>
  Option.bind (mS sg11 12 16 (sg11 0 26) x12) (fun (sg13 : Nat → Nat → Int32) =>
  fixN (fun _ _ _ => none) (pb_X11_opens_161 F  ) F (0 : Int32) sg13 w))))))))))
  else (pcI (p_X11_tellsWhy F (-2 : Int32) v3 sg w) (fun (x21 : Int32) (sg19 : Nat → Nat → Int32) (w20 : Int64) =>
  some (x21, sg19, w20)))))
  else (some (s0, sg, w))
def pk_X11_opens_22 (F : Nat)  (v3 : Int32) (s0 : Int32) (sg : Nat → Nat → Int32) (w : Int64) : Option (Int32 × (Nat → Nat → Int32) × Int64) :=
  Option.bind (p_X11_of F v3 (8 : Int32) sg w) (fun (x3 : Int32) =>
  if x3 = (2 : Int32) then
  (pk_X11_opens_46 F  v3 s0 (-1 : Int32) sg w)
  else (Option.bind (p_X11_thingOf F v3 s0 sg w) (fun (x4 : Int32) =>
  pk_X11_opens_46 F  v3 s0 x4 sg w)))
def p_X11_opens (F : Nat) (v1 : Int32) (v2 : Int32) (sg : Nat → Nat → Int32) (w : Int64) : Option (Int32 × (Nat → Nat → Int32) × Int64) :=
  Option.bind (p_X11_standsFor F v1 v2 sg w) (fun (x1 : Int32) =>
  Option.bind (p_X11_of F x1 (8 : Int32) sg w) (fun (x2 : Int32) =>
  if x2 = 0 then
  (pk_X11_opens_22 F  x1 (0 : Int32) sg w)
  else (pk_X11_opens_22 F  x1 v2 sg w)))
set_option maxRecDepth 100000 in
set_option maxHeartbeats 4000000 in
theorem ec_X11_opens_188 {F : Nat} {G0 : GH} {mo n : Nat}     {sg : Nat → Nat → Int32} {w : Int64} : k_X11_opens_188 F  mo  n (mput G0 mo sg w) = Option.map (fun z => (z.1, n, mput G0 mo z.2.1 z.2.2)) (pk_X11_opens_188 F    sg w) := by
  unfold k_X11_opens_188 pk_X11_opens_188
  refine q_gI 26 rfl ?_
  refine q_pI 26 (mp_26 _ _ _ _) (fun sg14 => ?_)
  rfl
set_option maxRecDepth 100000 in
set_option maxHeartbeats 4000000 in
theorem el_X11_opens_161 {F : Nat} {G0 : GH} {mo n : Nat}    : ∀ (K : Nat) (v6 : Int32) (sg : Nat → Nat → Int32) (w : Int64), fixN ((fun _ _ _ => none) : Int32 → Nat → GH → Option (Int32 × Nat × GH)) (b_X11_opens_161 F  mo) K v6 n (mput G0 mo sg w) = Option.map (fun z => (z.1, n, mput G0 mo z.2.1 z.2.2)) (fixN ((fun _ _ _ => none) : Int32 → (Nat → Nat → Int32) → Int64 → Option (Int32 × (Nat → Nat → Int32) × Int64)) (pb_X11_opens_161 F  ) K v6 sg w) := by
  intro K
  refine fixN_ind2 (P := fun (r : Int32 → Nat → GH → Option (Int32 × Nat × GH)) (r1 : Int32 → (Nat → Nat → Int32) → Int64 → Option (Int32 × (Nat → Nat → Int32) × Int64)) => ∀ (v6 : Int32) (sg : Nat → Nat → Int32) (w : Int64), r v6 n (mput G0 mo sg w) = Option.map (fun z => (z.1, n, mput G0 mo z.2.1 z.2.2)) (r1 v6 sg w)) ?_ ?_ K
  · intro v6 sg w
    rfl
  · intro rec161 prec161 hrec161 v6 sg w
    unfold b_X11_opens_161 pb_X11_opens_161
    refine q_ite ?_ ?_
    · exact ec_X11_opens_188 
    · refine q_gR 25 13 rfl ?_
      refine q_gI 26 rfl ?_
      refine q_aS rfl rfl (by decide) (fun sg15 => ?_)
      exact hrec161 _ _ _
set_option maxRecDepth 100000 in
set_option maxHeartbeats 4000000 in
theorem ec_X11_opens_46 {F : Nat} {G0 : GH} {mo n : Nat}   {v3 : Int32} {v4 : Int32} {s0 : Int32} {sg : Nat → Nat → Int32} {w : Int64} : k_X11_opens_46 F  mo v3 v4 s0 n (mput G0 mo sg w) = Option.map (fun z => (z.1, n, mput G0 mo z.2.1 z.2.2)) (pk_X11_opens_46 F  v3 v4 s0 sg w) := by
  unfold k_X11_opens_46 pk_X11_opens_46
  refine q_ite ?_ ?_
  · refine q_cvP (e_X11_isOnWay) (fun x5 => ?_)
    refine q_ite ?_ ?_
    · refine q_gR 1 1 rfl ?_
      refine q_aI rfl rfl (by decide) (fun x6 => ?_)
      refine q_ite ?_ ?_
      · refine q_cvI (e_X11_tellsWhy) (fun x18 sg16 w17 => ?_)
        rfl
      · refine q_gR 1 1 rfl ?_
        refine q_aI rfl rfl (by decide) (fun x7 => ?_)
        refine q_aS rfl rfl (by decide) (fun sg8 => ?_)
        refine q_gR 21 9 rfl ?_
        refine q_gI 26 rfl ?_
        refine q_aS rfl rfl (by decide) (fun sg9 => ?_)
        refine q_gR 22 10 rfl ?_
        refine q_gI 26 rfl ?_
        refine q_aS rfl rfl (by decide) (fun sg10 => ?_)
        refine q_gR 23 11 rfl ?_
        refine q_gI 26 rfl ?_
        refine q_aS rfl rfl (by decide) (fun sg11 => ?_)
        refine q_gR 24 12 rfl ?_
        refine q_gI 26 rfl ?_
        refine q_gR 1 1 rfl ?_
        refine q_aI rfl rfl (by decide) (fun x12 => ?_)
        refine q_aS rfl rfl (by decide) (fun sg13 => ?_)
        exact el_X11_opens_161  _ _ _ _
    · refine q_cvI (e_X11_tellsWhy) (fun x21 sg19 w20 => ?_)
      rfl
  · rfl
set_option maxRecDepth 100000 in
set_option maxHeartbeats 4000000 in
theorem ec_X11_opens_22 {F : Nat} {G0 : GH} {mo n : Nat}   {v3 : Int32} {s0 : Int32} {sg : Nat → Nat → Int32} {w : Int64} : k_X11_opens_22 F  mo v3 s0 n (mput G0 mo sg w) = Option.map (fun z => (z.1, n, mput G0 mo z.2.1 z.2.2)) (pk_X11_opens_22 F  v3 s0 sg w) := by
  unfold k_X11_opens_22 pk_X11_opens_22
  refine q_cvP (e_X11_of) (fun x3 => ?_)
  refine q_ite ?_ ?_
  · exact ec_X11_opens_46 
  · refine q_cvP (e_X11_thingOf) (fun x4 => ?_)
    exact ec_X11_opens_46 
set_option maxRecDepth 100000 in
set_option maxHeartbeats 4000000 in
theorem e_X11_opens {F : Nat} {G0 : GH} {mo n : Nat} {v1 : Int32} {v2 : Int32} {sg : Nat → Nat → Int32} {w : Int64} : f_X11_opens F mo v1 v2 n (mput G0 mo sg w) = Option.map (fun z => (z.1, n, mput G0 mo z.2.1 z.2.2)) (p_X11_opens F v1 v2 sg w) := by
  unfold f_X11_opens p_X11_opens
  refine q_cvP (e_X11_standsFor) (fun x1 => ?_)
  refine q_cvP (e_X11_of) (fun x2 => ?_)
  refine q_ite ?_ ?_
  · exact ec_X11_opens_22 
  · exact ec_X11_opens_22 
/-! X11_makes -/
def pk_X11_makes_158 (F : Nat)  (v3 : Int32)  (sg : Nat → Nat → Int32) (w : Int64) : Option (Int32 × (Nat → Nat → Int32) × Int64) :=
  gnm (up2 sg 0 26 ((sg 0 26) - (1 : Int32))) (fun (sg17 : Nat → Nat → Int32) =>
  some (v3, sg17, w))
def pb_X11_makes_126 (F : Nat)  (v1 : Int32) (v3 : Int32) (prec126 : Int32 → (Nat → Nat → Int32) → Int64 → Option (Int32 × (Nat → Nat → Int32) × Int64)) : Int32 → (Nat → Nat → Int32) → Int64 → Option (Int32 × (Nat → Nat → Int32) × Int64) := fun v4 sg w =>
  if (4 : Int32) ≤ v4 then
  (pk_X11_makes_158 F  v3 sg w)
  else (Option.bind (mI sg 13 64 (((4 : Int32) * v1) + v4)) (fun (x18 : Int32) =>
  pcU (p_X11_itIs F v3 ((4 : Int32) + v4) x18 sg w) (fun (sg19 : Nat → Nat → Int32) (w20 : Int64) =>
  prec126 (v4 + 1) sg19 w20)))
def pk_X11_makes_48 (F : Nat)  (v1 : Int32) (v2 : Int32)  (sg : Nat → Nat → Int32) (w : Int64) : Option (Int32 × (Nat → Nat → Int32) × Int64) :=
  Option.bind (mI sg 1 4470 (206 : Int32)) (fun (x4 : Int32) =>
  if x4 = (60 : Int32) then
  (pcI (p_X11_tellsWhy F (-4 : Int32) (-1 : Int32) sg w) (fun (x23 : Int32) (sg21 : Nat → Nat → Int32) (w22 : Int64) =>
  some (x23, sg21, w22)))
  else (Option.bind (mI sg 1 4470 (206 : Int32)) (fun (x5 : Int32) =>
  Option.bind (mI sg 1 4470 (206 : Int32)) (fun (x6 : Int32) =>
  Option.bind (mS sg 1 4470 (206 : Int32) (x6 + (1 : Int32))) (fun (sg7 : Nat → Nat → Int32) =>
  pcU (p_X11_itIs F x5 (0 : Int32) v2 sg7 w) (fun (sg8 : Nat → Nat → Int32) (w9 : Int64) =>
  Option.bind (mI sg8 10 16 v1) (fun (x10 : Int32) =>
  pcU (p_X11_itIs F x5 (1 : Int32) x10 sg8 w9) (fun (sg11 : Nat → Nat → Int32) (w12 : Int64) =>
  pcU (p_X11_itIs F x5 (2 : Int32) (0 : Int32) sg11 w12) (fun (sg13 : Nat → Nat → Int32) (w14 : Int64) =>
  pcU (p_X11_itIs F x5 (3 : Int32) (0 : Int32) sg13 w14) (fun (sg15 : Nat → Nat → Int32) (w16 : Int64) =>
  fixN (fun _ _ _ => none) (pb_X11_makes_126 F  v1 x5) F (0 : Int32) sg15 w16))))))))))
def p_X11_makes (F : Nat)  (sg : Nat → Nat → Int32) (w : Int64) : Option (Int32 × (Nat → Nat → Int32) × Int64) :=
  gnm ((sg 0 26) - (1 : Int32)) (fun (y1 : Int32) =>
  Option.bind (mI sg 9 16 y1) (fun (x2 : Int32) =>
  Option.bind (p_X11_of F x2 (9 : Int32) sg w) (fun (x3 : Int32) =>
  if x3 ≤ 0 then
  (pk_X11_makes_48 F  y1 x2 sg w)
  else (Option.bind (mI sg 12 16 y1) (fun (x24 : Int32) =>
  Option.bind (p_X11_of F x2 (9 : Int32) sg w) (fun (x25 : Int32) =>
  if x24 = x25 then
  (pcI (p_X11_tellsWhy F (-3 : Int32) (-1 : Int32) sg w) (fun (x28 : Int32) (sg26 : Nat → Nat → Int32) (w27 : Int64) =>
  some (x28, sg26, w27)))
  else (pk_X11_makes_48 F  y1 x2 sg w)))))))
set_option maxRecDepth 100000 in
set_option maxHeartbeats 4000000 in
theorem ec_X11_makes_158 {F : Nat} {G0 : GH} {mo n : Nat}   {v3 : Int32}  {sg : Nat → Nat → Int32} {w : Int64} : k_X11_makes_158 F  mo v3  n (mput G0 mo sg w) = Option.map (fun z => (z.1, n, mput G0 mo z.2.1 z.2.2)) (pk_X11_makes_158 F  v3  sg w) := by
  unfold k_X11_makes_158 pk_X11_makes_158
  refine q_gI 26 rfl ?_
  refine q_pI 26 (mp_26 _ _ _ _) (fun sg17 => ?_)
  rfl
set_option maxRecDepth 100000 in
set_option maxHeartbeats 4000000 in
theorem el_X11_makes_126 {F : Nat} {G0 : GH} {mo n : Nat}   {v1 : Int32} {v3 : Int32} : ∀ (K : Nat) (v4 : Int32) (sg : Nat → Nat → Int32) (w : Int64), fixN ((fun _ _ _ => none) : Int32 → Nat → GH → Option (Int32 × Nat × GH)) (b_X11_makes_126 F  mo v1 v3) K v4 n (mput G0 mo sg w) = Option.map (fun z => (z.1, n, mput G0 mo z.2.1 z.2.2)) (fixN ((fun _ _ _ => none) : Int32 → (Nat → Nat → Int32) → Int64 → Option (Int32 × (Nat → Nat → Int32) × Int64)) (pb_X11_makes_126 F  v1 v3) K v4 sg w) := by
  intro K
  refine fixN_ind2 (P := fun (r : Int32 → Nat → GH → Option (Int32 × Nat × GH)) (r1 : Int32 → (Nat → Nat → Int32) → Int64 → Option (Int32 × (Nat → Nat → Int32) × Int64)) => ∀ (v4 : Int32) (sg : Nat → Nat → Int32) (w : Int64), r v4 n (mput G0 mo sg w) = Option.map (fun z => (z.1, n, mput G0 mo z.2.1 z.2.2)) (r1 v4 sg w)) ?_ ?_ K
  · intro v4 sg w
    rfl
  · intro rec126 prec126 hrec126 v4 sg w
    unfold b_X11_makes_126 pb_X11_makes_126
    refine q_ite ?_ ?_
    · exact ec_X11_makes_158 
    · refine q_gR 25 13 rfl ?_
      refine q_aI rfl rfl (by decide) (fun x18 => ?_)
      refine q_cvU (e_X11_itIs) (fun sg19 w20 => ?_)
      exact hrec126 _ _ _
set_option maxRecDepth 100000 in
set_option maxHeartbeats 4000000 in
theorem ec_X11_makes_48 {F : Nat} {G0 : GH} {mo n : Nat}   {v1 : Int32} {v2 : Int32}  {sg : Nat → Nat → Int32} {w : Int64} : k_X11_makes_48 F  mo v1 v2  n (mput G0 mo sg w) = Option.map (fun z => (z.1, n, mput G0 mo z.2.1 z.2.2)) (pk_X11_makes_48 F  v1 v2  sg w) := by
  unfold k_X11_makes_48 pk_X11_makes_48
  refine q_gR 1 1 rfl ?_
  refine q_aI rfl rfl (by decide) (fun x4 => ?_)
  refine q_ite ?_ ?_
  · refine q_cvI (e_X11_tellsWhy) (fun x23 sg21 w22 => ?_)
    rfl
  · refine q_gR 1 1 rfl ?_
    refine q_aI rfl rfl (by decide) (fun x5 => ?_)
    refine q_gR 1 1 rfl ?_
    refine q_aI rfl rfl (by decide) (fun x6 => ?_)
    refine q_aS rfl rfl (by decide) (fun sg7 => ?_)
    refine q_cvU (e_X11_itIs) (fun sg8 w9 => ?_)
    refine q_gR 22 10 rfl ?_
    refine q_aI rfl rfl (by decide) (fun x10 => ?_)
    refine q_cvU (e_X11_itIs) (fun sg11 w12 => ?_)
    refine q_cvU (e_X11_itIs) (fun sg13 w14 => ?_)
    refine q_cvU (e_X11_itIs) (fun sg15 w16 => ?_)
    exact el_X11_makes_126  _ _ _ _
set_option maxRecDepth 100000 in
set_option maxHeartbeats 4000000 in
theorem e_X11_makes {F : Nat} {G0 : GH} {mo n : Nat}  {sg : Nat → Nat → Int32} {w : Int64} : f_X11_makes F mo  n (mput G0 mo sg w) = Option.map (fun z => (z.1, n, mput G0 mo z.2.1 z.2.2)) (p_X11_makes F  sg w) := by
  unfold f_X11_makes p_X11_makes
  refine q_gI 26 rfl ?_
  refine q_nm (fun y1 => ?_)
  refine q_gR 21 9 rfl ?_
  refine q_aI rfl rfl (by decide) (fun x2 => ?_)
  refine q_cvP (e_X11_of) (fun x3 => ?_)
  refine q_ite ?_ ?_
  · exact ec_X11_makes_48 
  · refine q_gR 24 12 rfl ?_
    refine q_aI rfl rfl (by decide) (fun x24 => ?_)
    refine q_cvP (e_X11_of) (fun x25 => ?_)
    refine q_ite ?_ ?_
    · refine q_cvI (e_X11_tellsWhy) (fun x28 sg26 w27 => ?_)
      rfl
    · exact ec_X11_makes_48 
/-! X11_asks -/
def pk_X11_asks_129 (F : Nat) (prec12 : Int32 → (Nat → Nat → Int32) → Int64 → Option (Int32 × (Nat → Nat → Int32) × Int64)) (v4 : Int32)  (sg : Nat → Nat → Int32) (w : Int64) : Option (Int32 × (Nat → Nat → Int32) × Int64) :=
  Option.bind (mI sg 11 16 v4) (fun (x9 : Int32) =>
  Option.bind (mI sg 9 16 v4) (fun (x10 : Int32) =>
  Option.bind (p_X11_of F x10 (2 : Int32) sg w) (fun (x11 : Int32) =>
  if x11 ≤ x9 then
  (pcI (p_X11_makes F  sg w) (fun (x14 : Int32) (sg12 : Nat → Nat → Int32) (w13 : Int64) =>
  prec12 x14 sg12 w13))
  else (Option.bind (mI sg 9 16 v4) (fun (x15 : Int32) =>
  Option.bind (mI sg 11 16 v4) (fun (x16 : Int32) =>
  Option.bind (p_X11_of F x15 ((3 : Int32) + x16) sg w) (fun (x17 : Int32) =>
  Option.bind (mI sg 10 16 v4) (fun (x18 : Int32) =>
  pcI (p_X11_opens F x17 x18 sg w) (fun (x21 : Int32) (sg19 : Nat → Nat → Int32) (w20 : Int64) =>
  prec12 x21 sg19 w20)))))))))
def pb_X11_asks_72 (F : Nat) (prec12 : Int32 → (Nat → Nat → Int32) → Int64 → Option (Int32 × (Nat → Nat → Int32) × Int64)) (v4 : Int32) (prec72 : (Nat → Nat → Int32) → Int64 → Option (Int32 × (Nat → Nat → Int32) × Int64)) : (Nat → Nat → Int32) → Int64 → Option (Int32 × (Nat → Nat → Int32) × Int64) := fun  sg w =>
  Option.bind (mI sg 11 16 v4) (fun (x6 : Int32) =>
  Option.bind (mI sg 9 16 v4) (fun (x7 : Int32) =>
  Option.bind (p_X11_of F x7 (2 : Int32) sg w) (fun (x8 : Int32) =>
  if x8 ≤ x6 then
  (pk_X11_asks_129 F prec12 v4 sg w)
  else (Option.bind (mI sg 9 16 v4) (fun (x22 : Int32) =>
  Option.bind (mI sg 11 16 v4) (fun (x23 : Int32) =>
  Option.bind (p_X11_isLazy F x22 x23 sg w) (fun (x24 : Int32) =>
  if x24 = 0 then
  (pk_X11_asks_129 F prec12 v4 sg w)
  else (Option.bind (mI sg 11 16 v4) (fun (x25 : Int32) =>
  Option.bind (mS sg 11 16 v4 (x25 + (1 : Int32))) (fun (sg26 : Nat → Nat → Int32) =>
  prec72  sg26 w))))))))))
def pk_X11_asks_29 (F : Nat) (prec12 : Int32 → (Nat → Nat → Int32) → Int64 → Option (Int32 × (Nat → Nat → Int32) × Int64)) (v3 : Int32)  (sg : Nat → Nat → Int32) (w : Int64) : Option (Int32 × (Nat → Nat → Int32) × Int64) :=
  gnm ((sg 0 26) - (1 : Int32)) (fun (y5 : Int32) =>
  if v3 < 0 then
  (fixN (fun _ _ => none) (pb_X11_asks_72 F prec12 y5) F  sg w)
  else (Option.bind (mI sg 11 16 y5) (fun (x27 : Int32) =>
  Option.bind (mS sg 13 64 (((4 : Int32) * y5) + x27) (v3 + (1 : Int32))) (fun (sg28 : Nat → Nat → Int32) =>
  Option.bind (mI sg28 11 16 y5) (fun (x29 : Int32) =>
  Option.bind (mS sg28 11 16 y5 (x29 + (1 : Int32))) (fun (sg30 : Nat → Nat → Int32) =>
  fixN (fun _ _ => none) (pb_X11_asks_72 F prec12 y5) F  sg30 w))))))
def pb_X11_asks_12 (F : Nat)   (prec12 : Int32 → (Nat → Nat → Int32) → Int64 → Option (Int32 × (Nat → Nat → Int32) × Int64)) : Int32 → (Nat → Nat → Int32) → Int64 → Option (Int32 × (Nat → Nat → Int32) × Int64) := fun v3 sg w =>
  if (sg 0 26) ≤ 0 then
  (some (v3, sg, w))
  else (if v3 = (-9 : Int32) then
  (pk_X11_asks_29 F prec12 v3 sg w)
  else (if v3 < 0 then
  (some (v3, sg, w))
  else (pk_X11_asks_29 F prec12 v3 sg w)))
def p_X11_asks (F : Nat) (v1 : Int32) (v2 : Int32) (sg : Nat → Nat → Int32) (w : Int64) : Option (Int32 × (Nat → Nat → Int32) × Int64) :=
  gnm (up2 sg 0 26 (0 : Int32)) (fun (sg1 : Nat → Nat → Int32) =>
  pcI (p_X11_opens F v1 v2 sg1 w) (fun (x4 : Int32) (sg2 : Nat → Nat → Int32) (w3 : Int64) =>
  fixN (fun _ _ _ => none) (pb_X11_asks_12 F  ) F x4 sg2 w3))
set_option maxRecDepth 100000 in
set_option maxHeartbeats 4000000 in
theorem ec_X11_asks_129 {F : Nat} {G0 : GH} {mo n : Nat} {rec12 : Int32 → Nat → GH → Option (Int32 × Nat × GH)} {prec12 : Int32 → (Nat → Nat → Int32) → Int64 → Option (Int32 × (Nat → Nat → Int32) × Int64)} (hrec12 : ∀ (w3 : Int32) (sg : Nat → Nat → Int32) (w : Int64), rec12 w3 n (mput G0 mo sg w) = Option.map (fun z => (z.1, n, mput G0 mo z.2.1 z.2.2)) (prec12 w3 sg w)) {v4 : Int32}  {sg : Nat → Nat → Int32} {w : Int64} : k_X11_asks_129 F rec12 mo v4  n (mput G0 mo sg w) = Option.map (fun z => (z.1, n, mput G0 mo z.2.1 z.2.2)) (pk_X11_asks_129 F prec12 v4  sg w) := by
  unfold k_X11_asks_129 pk_X11_asks_129
  refine q_gR 23 11 rfl ?_
  refine q_aI rfl rfl (by decide) (fun x9 => ?_)
  refine q_gR 21 9 rfl ?_
  refine q_aI rfl rfl (by decide) (fun x10 => ?_)
  refine q_cvP (e_X11_of) (fun x11 => ?_)
  refine q_ite ?_ ?_
  · refine q_cvI (e_X11_makes) (fun x14 sg12 w13 => ?_)
    exact hrec12 _ _ _
  · refine q_gR 21 9 rfl ?_
    refine q_aI rfl rfl (by decide) (fun x15 => ?_)
    refine q_gR 23 11 rfl ?_
    refine q_aI rfl rfl (by decide) (fun x16 => ?_)
    refine q_cvP (e_X11_of) (fun x17 => ?_)
    refine q_gR 22 10 rfl ?_
    refine q_aI rfl rfl (by decide) (fun x18 => ?_)
    refine q_cvI (e_X11_opens) (fun x21 sg19 w20 => ?_)
    exact hrec12 _ _ _
set_option maxRecDepth 100000 in
set_option maxHeartbeats 4000000 in
theorem el_X11_asks_72 {F : Nat} {G0 : GH} {mo n : Nat} {rec12 : Int32 → Nat → GH → Option (Int32 × Nat × GH)} {prec12 : Int32 → (Nat → Nat → Int32) → Int64 → Option (Int32 × (Nat → Nat → Int32) × Int64)} (hrec12 : ∀ (w3 : Int32) (sg : Nat → Nat → Int32) (w : Int64), rec12 w3 n (mput G0 mo sg w) = Option.map (fun z => (z.1, n, mput G0 mo z.2.1 z.2.2)) (prec12 w3 sg w)) {v4 : Int32} : ∀ (K : Nat)  (sg : Nat → Nat → Int32) (w : Int64), fixN ((fun _ _ => none) : Nat → GH → Option (Int32 × Nat × GH)) (b_X11_asks_72 F rec12 mo v4) K  n (mput G0 mo sg w) = Option.map (fun z => (z.1, n, mput G0 mo z.2.1 z.2.2)) (fixN ((fun _ _ => none) : (Nat → Nat → Int32) → Int64 → Option (Int32 × (Nat → Nat → Int32) × Int64)) (pb_X11_asks_72 F prec12 v4) K  sg w) := by
  intro K
  refine fixN_ind2 (P := fun (r : Nat → GH → Option (Int32 × Nat × GH)) (r1 : (Nat → Nat → Int32) → Int64 → Option (Int32 × (Nat → Nat → Int32) × Int64)) => ∀  (sg : Nat → Nat → Int32) (w : Int64), r  n (mput G0 mo sg w) = Option.map (fun z => (z.1, n, mput G0 mo z.2.1 z.2.2)) (r1  sg w)) ?_ ?_ K
  · intro  sg w
    rfl
  · intro rec72 prec72 hrec72  sg w
    unfold b_X11_asks_72 pb_X11_asks_72
    refine q_gR 23 11 rfl ?_
    refine q_aI rfl rfl (by decide) (fun x6 => ?_)
    refine q_gR 21 9 rfl ?_
    refine q_aI rfl rfl (by decide) (fun x7 => ?_)
    refine q_cvP (e_X11_of) (fun x8 => ?_)
    refine q_ite ?_ ?_
    · exact ec_X11_asks_129 hrec12
    · refine q_gR 21 9 rfl ?_
      refine q_aI rfl rfl (by decide) (fun x22 => ?_)
      refine q_gR 23 11 rfl ?_
      refine q_aI rfl rfl (by decide) (fun x23 => ?_)
      refine q_cvP (e_X11_isLazy) (fun x24 => ?_)
      refine q_ite ?_ ?_
      · exact ec_X11_asks_129 hrec12
      · refine q_gR 23 11 rfl ?_
        refine q_aI rfl rfl (by decide) (fun x25 => ?_)
        refine q_aS rfl rfl (by decide) (fun sg26 => ?_)
        exact hrec72  _ _
set_option maxRecDepth 100000 in
set_option maxHeartbeats 4000000 in
theorem ec_X11_asks_29 {F : Nat} {G0 : GH} {mo n : Nat} {rec12 : Int32 → Nat → GH → Option (Int32 × Nat × GH)} {prec12 : Int32 → (Nat → Nat → Int32) → Int64 → Option (Int32 × (Nat → Nat → Int32) × Int64)} (hrec12 : ∀ (w3 : Int32) (sg : Nat → Nat → Int32) (w : Int64), rec12 w3 n (mput G0 mo sg w) = Option.map (fun z => (z.1, n, mput G0 mo z.2.1 z.2.2)) (prec12 w3 sg w)) {v3 : Int32}  {sg : Nat → Nat → Int32} {w : Int64} : k_X11_asks_29 F rec12 mo v3  n (mput G0 mo sg w) = Option.map (fun z => (z.1, n, mput G0 mo z.2.1 z.2.2)) (pk_X11_asks_29 F prec12 v3  sg w) := by
  unfold k_X11_asks_29 pk_X11_asks_29
  refine q_gI 26 rfl ?_
  refine q_nm (fun y5 => ?_)
  refine q_ite ?_ ?_
  · exact el_X11_asks_72 hrec12 _ _ _
  · refine q_gR 25 13 rfl ?_
    refine q_gR 23 11 rfl ?_
    refine q_aI rfl rfl (by decide) (fun x27 => ?_)
    refine q_aS rfl rfl (by decide) (fun sg28 => ?_)
    refine q_gR 23 11 rfl ?_
    refine q_aI rfl rfl (by decide) (fun x29 => ?_)
    refine q_aS rfl rfl (by decide) (fun sg30 => ?_)
    exact el_X11_asks_72 hrec12 _ _ _
set_option maxRecDepth 100000 in
set_option maxHeartbeats 4000000 in
theorem el_X11_asks_12 {F : Nat} {G0 : GH} {mo n : Nat}    : ∀ (K : Nat) (v3 : Int32) (sg : Nat → Nat → Int32) (w : Int64), fixN ((fun _ _ _ => none) : Int32 → Nat → GH → Option (Int32 × Nat × GH)) (b_X11_asks_12 F  mo) K v3 n (mput G0 mo sg w) = Option.map (fun z => (z.1, n, mput G0 mo z.2.1 z.2.2)) (fixN ((fun _ _ _ => none) : Int32 → (Nat → Nat → Int32) → Int64 → Option (Int32 × (Nat → Nat → Int32) × Int64)) (pb_X11_asks_12 F  ) K v3 sg w) := by
  intro K
  refine fixN_ind2 (P := fun (r : Int32 → Nat → GH → Option (Int32 × Nat × GH)) (r1 : Int32 → (Nat → Nat → Int32) → Int64 → Option (Int32 × (Nat → Nat → Int32) × Int64)) => ∀ (v3 : Int32) (sg : Nat → Nat → Int32) (w : Int64), r v3 n (mput G0 mo sg w) = Option.map (fun z => (z.1, n, mput G0 mo z.2.1 z.2.2)) (r1 v3 sg w)) ?_ ?_ K
  · intro v3 sg w
    rfl
  · intro rec12 prec12 hrec12 v3 sg w
    unfold b_X11_asks_12 pb_X11_asks_12
    refine q_gI 26 rfl ?_
    refine q_ite ?_ ?_
    · rfl
    · refine q_ite ?_ ?_
      · exact ec_X11_asks_29 hrec12
      · refine q_ite ?_ ?_
        · rfl
        · exact ec_X11_asks_29 hrec12
set_option maxRecDepth 100000 in
set_option maxHeartbeats 4000000 in
theorem e_X11_asks {F : Nat} {G0 : GH} {mo n : Nat} {v1 : Int32} {v2 : Int32} {sg : Nat → Nat → Int32} {w : Int64} : f_X11_asks F mo v1 v2 n (mput G0 mo sg w) = Option.map (fun z => (z.1, n, mput G0 mo z.2.1 z.2.2)) (p_X11_asks F v1 v2 sg w) := by
  unfold f_X11_asks p_X11_asks
  refine q_pI 26 (mp_26 _ _ _ _) (fun sg1 => ?_)
  refine q_cvI (e_X11_opens) (fun x4 sg2 w3 => ?_)
  exact el_X11_asks_12  _ _ _ _
/-! X11_isReckoned -/
def pb_X11_isReckoned_2 (F : Nat)  (v1 : Int32) (sg : Nat → Nat → Int32) (w : Int64) (prec2 : Int32 → Option (Int32)) : Int32 → Option (Int32) := fun v2 =>
  if (sg 0 29) ≤ v2 then
  (rP .boolean (0 : Int32))
  else (Option.bind (mI sg 14 64 v2) (fun (x1 : Int32) =>
  if x1 = v1 then
  (rP .boolean (1 : Int32))
  else (prec2 (v2 + 1))))
def p_X11_isReckoned (F : Nat) (v1 : Int32) (sg : Nat → Nat → Int32) (w : Int64) : Option (Int32) :=
  fixN (fun _ => none) (pb_X11_isReckoned_2 F  v1 sg w) F (0 : Int32)
set_option maxRecDepth 100000 in
set_option maxHeartbeats 4000000 in
theorem el_X11_isReckoned_2 {F : Nat} {G0 : GH} {mo : Nat}   {v1 : Int32} {sg : Nat → Nat → Int32} {w : Int64} : ∀ (K : Nat) (v2 : Int32), fixN ((fun _ => none) : Int32 → Option (Int32)) (b_X11_isReckoned_2 F  mo v1 (mput G0 mo sg w)) K v2 = Option.map (fun z => z) (fixN ((fun _ => none) : Int32 → Option (Int32)) (pb_X11_isReckoned_2 F  v1 sg w) K v2) := by
  intro K
  refine fixN_ind2 (P := fun (r : Int32 → Option (Int32)) (r1 : Int32 → Option (Int32)) => ∀ (v2 : Int32), r v2 = Option.map (fun z => z) (r1 v2)) ?_ ?_ K
  · intro v2
    rfl
  · intro rec2 prec2 hrec2 v2
    unfold b_X11_isReckoned_2 pb_X11_isReckoned_2
    refine q_gI 29 rfl ?_
    refine q_ite ?_ ?_
    · exact q_id
    · refine q_gR 27 14 rfl ?_
      refine q_aI rfl rfl (by decide) (fun x1 => ?_)
      refine q_ite ?_ ?_
      · exact q_id
      · exact hrec2 _
set_option maxRecDepth 100000 in
set_option maxHeartbeats 4000000 in
theorem e_X11_isReckoned {F : Nat} {G0 : GH} {mo : Nat} {v1 : Int32} {sg : Nat → Nat → Int32} {w : Int64} : f_X11_isReckoned F mo v1 (mput G0 mo sg w) = p_X11_isReckoned F v1 sg w := by
  refine Eq.trans ?_ (q_mid _)
  unfold f_X11_isReckoned p_X11_isReckoned
  exact el_X11_isReckoned_2  _ _
/-! X11_valueOf -/
def pb_X11_valueOf_25 (F : Nat)  (v1 : Int32) (v2 : Int32) (v3 : Int32) (sg : Nat → Nat → Int32) (w : Int64) (prec25 : Int32 → Int32 → Option (Int32)) : Int32 → Int32 → Option (Int32) := fun v4 v5 =>
  Option.bind (p_X11_of F v2 (2 : Int32) sg w) (fun (x4 : Int32) =>
  if x4 ≤ v5 then
  (some v4)
  else (if v3 = 0 then
  (some v4)
  else (Option.bind (p_X11_its F v1 ((4 : Int32) + v5) sg w) (fun (x5 : Int32) =>
  Option.bind (p_X11_its F (x5 - (1 : Int32)) (3 : Int32) sg w) (fun (x6 : Int32) =>
  if v3 = (1 : Int32) then
  (gnm (v4 + x6) (fun (y9 : Int32) =>
  prec25 y9 (v5 + 1)))
  else (if v3 = (2 : Int32) then
  (gnm (v4 * x6) (fun (y8 : Int32) =>
  prec25 y8 (v5 + 1)))
  else (if v3 = (3 : Int32) then
  (if x6 ≤ v4 then
  (prec25 v4 (v5 + 1))
  else (prec25 x6 (v5 + 1)))
  else (if v3 = (4 : Int32) then
  (if v4 ≤ x6 then
  (prec25 v4 (v5 + 1))
  else (prec25 x6 (v5 + 1)))
  else (gnm (v4 - x6) (fun (y7 : Int32) =>
  prec25 y7 (v5 + 1)))))))))))
def p_X11_valueOf (F : Nat) (v1 : Int32) (sg : Nat → Nat → Int32) (w : Int64) : Option (Int32) :=
  Option.bind (p_X11_its F v1 (0 : Int32) sg w) (fun (x1 : Int32) =>
  Option.bind (p_X11_of F x1 (0 : Int32) sg w) (fun (x2 : Int32) =>
  Option.bind (p_X11_of F x1 (1 : Int32) sg w) (fun (x3 : Int32) =>
  fixN (fun _ _ => none) (pb_X11_valueOf_25 F  v1 x1 x2 sg w) F x3 (0 : Int32))))
set_option maxRecDepth 100000 in
set_option maxHeartbeats 4000000 in
theorem el_X11_valueOf_25 {F : Nat} {G0 : GH} {mo : Nat}   {v1 : Int32} {v2 : Int32} {v3 : Int32} {sg : Nat → Nat → Int32} {w : Int64} : ∀ (K : Nat) (v4 : Int32) (v5 : Int32), fixN ((fun _ _ => none) : Int32 → Int32 → Option (Int32)) (b_X11_valueOf_25 F  mo v1 v2 v3 (mput G0 mo sg w)) K v4 v5 = Option.map (fun z => z) (fixN ((fun _ _ => none) : Int32 → Int32 → Option (Int32)) (pb_X11_valueOf_25 F  v1 v2 v3 sg w) K v4 v5) := by
  intro K
  refine fixN_ind2 (P := fun (r : Int32 → Int32 → Option (Int32)) (r1 : Int32 → Int32 → Option (Int32)) => ∀ (v4 : Int32) (v5 : Int32), r v4 v5 = Option.map (fun z => z) (r1 v4 v5)) ?_ ?_ K
  · intro v4 v5
    rfl
  · intro rec25 prec25 hrec25 v4 v5
    unfold b_X11_valueOf_25 pb_X11_valueOf_25
    refine q_cvP (e_X11_of) (fun x4 => ?_)
    refine q_ite ?_ ?_
    · rfl
    · refine q_ite ?_ ?_
      · rfl
      · refine q_cvP (e_X11_its) (fun x5 => ?_)
        refine q_cvP (e_X11_its) (fun x6 => ?_)
        refine q_ite ?_ ?_
        · refine q_nm (fun y9 => ?_)
          exact hrec25 _ _
        · refine q_ite ?_ ?_
          · refine q_nm (fun y8 => ?_)
            exact hrec25 _ _
          · refine q_ite ?_ ?_
            · refine q_ite ?_ ?_
              · exact hrec25 _ _
              · exact hrec25 _ _
            · refine q_ite ?_ ?_
              · refine q_ite ?_ ?_
                · exact hrec25 _ _
                · exact hrec25 _ _
              · refine q_nm (fun y7 => ?_)
                exact hrec25 _ _
set_option maxRecDepth 100000 in
set_option maxHeartbeats 4000000 in
theorem e_X11_valueOf {F : Nat} {G0 : GH} {mo : Nat} {v1 : Int32} {sg : Nat → Nat → Int32} {w : Int64} : f_X11_valueOf F mo v1 (mput G0 mo sg w) = p_X11_valueOf F v1 sg w := by
  refine Eq.trans ?_ (q_mid _)
  unfold f_X11_valueOf p_X11_valueOf
  refine q_cvP (e_X11_its) (fun x1 => ?_)
  refine q_cvP (e_X11_of) (fun x2 => ?_)
  refine q_cvP (e_X11_of) (fun x3 => ?_)
  exact el_X11_valueOf_25  _ _ _
/-! X11_sumBegins -/
def p_X11_sumBegins (F : Nat) (v1 : Int32) (sg : Nat → Nat → Int32) (w : Int64) : Option ((Nat → Nat → Int32) × Int64) :=
  Option.bind (mS sg 14 64 (sg 0 29) v1) (fun (sg1 : Nat → Nat → Int32) =>
  Option.bind (mS sg1 15 64 (sg1 0 29) (0 : Int32)) (fun (sg2 : Nat → Nat → Int32) =>
  gnm (up2 sg2 0 29 ((sg2 0 29) + (1 : Int32))) (fun (sg3 : Nat → Nat → Int32) =>
  some (sg3, w))))
set_option maxRecDepth 100000 in
set_option maxHeartbeats 4000000 in
theorem e_X11_sumBegins {F : Nat} {G0 : GH} {mo n : Nat} {v1 : Int32} {sg : Nat → Nat → Int32} {w : Int64} : f_X11_sumBegins F mo v1 n (mput G0 mo sg w) = Option.map (fun z => (n, mput G0 mo z.1 z.2)) (p_X11_sumBegins F v1 sg w) := by
  unfold f_X11_sumBegins p_X11_sumBegins
  refine q_gR 27 14 rfl ?_
  refine q_gI 29 rfl ?_
  refine q_aS rfl rfl (by decide) (fun sg1 => ?_)
  refine q_gR 28 15 rfl ?_
  refine q_gI 29 rfl ?_
  refine q_aS rfl rfl (by decide) (fun sg2 => ?_)
  refine q_gI 29 rfl ?_
  refine q_pI 29 (mp_29 _ _ _ _) (fun sg3 => ?_)
  rfl
/-! X11_sumGoesOn -/
def pk_X11_sumGoesOn_45 (F : Nat)  (v2 : Int32)  (sg : Nat → Nat → Int32) (w : Int64) : Option (Int32 × (Nat → Nat → Int32) × Int64) :=
  Option.bind (p_X11_valueOf F v2 sg w) (fun (x5 : Int32) =>
  pcU (p_X11_itIs F v2 (3 : Int32) x5 sg w) (fun (sg6 : Nat → Nat → Int32) (w7 : Int64) =>
  pcU (p_X11_itIs F v2 (2 : Int32) (1 : Int32) sg6 w7) (fun (sg8 : Nat → Nat → Int32) (w9 : Int64) =>
  gnm (up2 sg8 0 29 ((sg8 0 29) - (1 : Int32))) (fun (sg10 : Nat → Nat → Int32) =>
  some ((1 : Int32), sg10, w9)))))
def pk_X11_sumGoesOn_137 (F : Nat)  (v1 : Int32) (v2 : Int32) (v4 : Int32)  (sg : Nat → Nat → Int32) (w : Int64) : Option (Int32 × (Nat → Nat → Int32) × Int64) :=
  Option.bind (p_X11_its F v2 ((4 : Int32) + v4) sg w) (fun (x15 : Int32) =>
  gnm (x15 - (1 : Int32)) (fun (y16 : Int32) =>
  Option.bind (p_X11_its F y16 (2 : Int32) sg w) (fun (x17 : Int32) =>
  if x17 = (1 : Int32) then
  (Option.bind (mI sg 15 64 v1) (fun (x26 : Int32) =>
  Option.bind (mS sg 15 64 v1 (x26 + (1 : Int32))) (fun (sg27 : Nat → Nat → Int32) =>
  some ((1 : Int32), sg27, w))))
  else (Option.bind (p_X11_isReckoned F y16 sg w) (fun (x18 : Int32) =>
  if x18 = 0 then
  (pcU (p_X11_sumBegins F y16 sg w) (fun (sg19 : Nat → Nat → Int32) (w20 : Int64) =>
  some ((1 : Int32), sg19, w20)))
  else (gnm (up2 sg 0 26 (0 : Int32)) (fun (sg21 : Nat → Nat → Int32) =>
  Option.bind (p_X11_its F y16 (0 : Int32) sg21 w) (fun (x22 : Int32) =>
  pcI (p_X11_tellsWhy F (-2 : Int32) x22 sg21 w) (fun (x25 : Int32) (sg23 : Nat → Nat → Int32) (w24 : Int64) =>
  some (x25, sg23, w24))))))))))
def p_X11_sumGoesOn (F : Nat)  (sg : Nat → Nat → Int32) (w : Int64) : Option (Int32 × (Nat → Nat → Int32) × Int64) :=
  gnm ((sg 0 29) - (1 : Int32)) (fun (y1 : Int32) =>
  Option.bind (mI sg 14 64 y1) (fun (x2 : Int32) =>
  Option.bind (p_X11_its F x2 (0 : Int32) sg w) (fun (x3 : Int32) =>
  Option.bind (p_X11_of F x3 (0 : Int32) sg w) (fun (x4 : Int32) =>
  if x4 = 0 then
  (pk_X11_sumGoesOn_45 F  x2 sg w)
  else (Option.bind (mI sg 15 64 y1) (fun (x11 : Int32) =>
  Option.bind (p_X11_of F x3 (2 : Int32) sg w) (fun (x12 : Int32) =>
  if x11 = x12 then
  (pk_X11_sumGoesOn_45 F  x2 sg w)
  else (Option.bind (mI sg 15 64 y1) (fun (x13 : Int32) =>
  Option.bind (p_X11_its F x2 ((4 : Int32) + x13) sg w) (fun (x14 : Int32) =>
  if x14 = 0 then
  (Option.bind (p_X11_of F x3 ((3 : Int32) + x13) sg w) (fun (x28 : Int32) =>
  Option.bind (p_X11_its F x2 (1 : Int32) sg w) (fun (x29 : Int32) =>
  pcI (p_X11_asks F x28 x29 sg w) (fun (x32 : Int32) (sg30 : Nat → Nat → Int32) (w31 : Int64) =>
  if 0 ≤ x32 then
  (pcU (p_X11_itIs F x2 ((4 : Int32) + x13) (x32 + (1 : Int32)) sg30 w31) (fun (sg33 : Nat → Nat → Int32) (w34 : Int64) =>
  pk_X11_sumGoesOn_137 F  y1 x2 x13 sg33 w34))
  else (some (x32, sg30, w31))))))
  else (pk_X11_sumGoesOn_137 F  y1 x2 x13 sg w)))))))))))
set_option maxRecDepth 100000 in
set_option maxHeartbeats 4000000 in
theorem ec_X11_sumGoesOn_45 {F : Nat} {G0 : GH} {mo n : Nat}   {v2 : Int32}  {sg : Nat → Nat → Int32} {w : Int64} : k_X11_sumGoesOn_45 F  mo v2  n (mput G0 mo sg w) = Option.map (fun z => (z.1, n, mput G0 mo z.2.1 z.2.2)) (pk_X11_sumGoesOn_45 F  v2  sg w) := by
  unfold k_X11_sumGoesOn_45 pk_X11_sumGoesOn_45
  refine q_cvP (e_X11_valueOf) (fun x5 => ?_)
  refine q_cvU (e_X11_itIs) (fun sg6 w7 => ?_)
  refine q_cvU (e_X11_itIs) (fun sg8 w9 => ?_)
  refine q_gI 29 rfl ?_
  refine q_pI 29 (mp_29 _ _ _ _) (fun sg10 => ?_)
  rfl
set_option maxRecDepth 100000 in
set_option maxHeartbeats 4000000 in
theorem ec_X11_sumGoesOn_137 {F : Nat} {G0 : GH} {mo n : Nat}   {v1 : Int32} {v2 : Int32} {v4 : Int32}  {sg : Nat → Nat → Int32} {w : Int64} : k_X11_sumGoesOn_137 F  mo v1 v2 v4  n (mput G0 mo sg w) = Option.map (fun z => (z.1, n, mput G0 mo z.2.1 z.2.2)) (pk_X11_sumGoesOn_137 F  v1 v2 v4  sg w) := by
  unfold k_X11_sumGoesOn_137 pk_X11_sumGoesOn_137
  refine q_cvP (e_X11_its) (fun x15 => ?_)
  refine q_nm (fun y16 => ?_)
  refine q_cvP (e_X11_its) (fun x17 => ?_)
  refine q_ite ?_ ?_
  · refine q_gR 28 15 rfl ?_
    refine q_aI rfl rfl (by decide) (fun x26 => ?_)
    refine q_aS rfl rfl (by decide) (fun sg27 => ?_)
    rfl
  · refine q_cvP (e_X11_isReckoned) (fun x18 => ?_)
    refine q_ite ?_ ?_
    · refine q_cvU (e_X11_sumBegins) (fun sg19 w20 => ?_)
      rfl
    · refine q_pI 26 (mp_26 _ _ _ _) (fun sg21 => ?_)
      refine q_cvP (e_X11_its) (fun x22 => ?_)
      refine q_cvI (e_X11_tellsWhy) (fun x25 sg23 w24 => ?_)
      rfl
set_option maxRecDepth 100000 in
set_option maxHeartbeats 4000000 in
theorem e_X11_sumGoesOn {F : Nat} {G0 : GH} {mo n : Nat}  {sg : Nat → Nat → Int32} {w : Int64} : f_X11_sumGoesOn F mo  n (mput G0 mo sg w) = Option.map (fun z => (z.1, n, mput G0 mo z.2.1 z.2.2)) (p_X11_sumGoesOn F  sg w) := by
  unfold f_X11_sumGoesOn p_X11_sumGoesOn
  refine q_gI 29 rfl ?_
  refine q_nm (fun y1 => ?_)
  refine q_gR 27 14 rfl ?_
  refine q_aI rfl rfl (by decide) (fun x2 => ?_)
  refine q_cvP (e_X11_its) (fun x3 => ?_)
  refine q_cvP (e_X11_of) (fun x4 => ?_)
  refine q_ite ?_ ?_
  · exact ec_X11_sumGoesOn_45 
  · refine q_gR 28 15 rfl ?_
    refine q_aI rfl rfl (by decide) (fun x11 => ?_)
    refine q_cvP (e_X11_of) (fun x12 => ?_)
    refine q_ite ?_ ?_
    · exact ec_X11_sumGoesOn_45 
    · refine q_gR 28 15 rfl ?_
      refine q_aI rfl rfl (by decide) (fun x13 => ?_)
      refine q_cvP (e_X11_its) (fun x14 => ?_)
      refine q_ite ?_ ?_
      · refine q_cvP (e_X11_of) (fun x28 => ?_)
        refine q_cvP (e_X11_its) (fun x29 => ?_)
        refine q_cvI (e_X11_asks) (fun x32 sg30 w31 => ?_)
        refine q_ite ?_ ?_
        · refine q_cvU (e_X11_itIs) (fun sg33 w34 => ?_)
          exact ec_X11_sumGoesOn_137 
        · rfl
      · exact ec_X11_sumGoesOn_137 
/-! X11_reckons -/
def pk_X11_reckons_41 (F : Nat)  (v2 : Int32)  (sg : Nat → Nat → Int32) (w : Int64) : Option (Int32 × (Nat → Nat → Int32) × Int64) :=
  gnm (up2 sg 0 29 (0 : Int32)) (fun (sg3 : Nat → Nat → Int32) =>
  some (v2, sg3, w))
def pb_X11_reckons_21 (F : Nat)   (prec21 : Int32 → (Nat → Nat → Int32) → Int64 → Option (Int32 × (Nat → Nat → Int32) × Int64)) : Int32 → (Nat → Nat → Int32) → Int64 → Option (Int32 × (Nat → Nat → Int32) × Int64) := fun v2 sg w =>
  if v2 = (1 : Int32) then
  (if (sg 0 29) ≤ 0 then
  (pk_X11_reckons_41 F  v2 sg w)
  else (pcI (p_X11_sumGoesOn F  sg w) (fun (x6 : Int32) (sg4 : Nat → Nat → Int32) (w5 : Int64) =>
  prec21 x6 sg4 w5)))
  else (pk_X11_reckons_41 F  v2 sg w)
def pk_X11_reckons_19 (F : Nat)    (sg : Nat → Nat → Int32) (w : Int64) : Option (Int32 × (Nat → Nat → Int32) × Int64) :=
  fixN (fun _ _ _ => none) (pb_X11_reckons_21 F  ) F (1 : Int32) sg w
def p_X11_reckons (F : Nat) (v1 : Int32) (sg : Nat → Nat → Int32) (w : Int64) : Option (Int32 × (Nat → Nat → Int32) × Int64) :=
  gnm (up2 sg 0 29 (0 : Int32)) (fun (sg1 : Nat → Nat → Int32) =>
  Option.bind (p_X11_its F v1 (2 : Int32) sg1 w) (fun (x2 : Int32) =>
  if x2 = 0 then
  (pcU (p_X11_sumBegins F v1 sg1 w) (fun (sg7 : Nat → Nat → Int32) (w8 : Int64) =>
  pk_X11_reckons_19 F  sg7 w8))
  else (pk_X11_reckons_19 F  sg1 w)))
set_option maxRecDepth 100000 in
set_option maxHeartbeats 4000000 in
theorem ec_X11_reckons_41 {F : Nat} {G0 : GH} {mo n : Nat}   {v2 : Int32}  {sg : Nat → Nat → Int32} {w : Int64} : k_X11_reckons_41 F  mo v2  n (mput G0 mo sg w) = Option.map (fun z => (z.1, n, mput G0 mo z.2.1 z.2.2)) (pk_X11_reckons_41 F  v2  sg w) := by
  unfold k_X11_reckons_41 pk_X11_reckons_41
  refine q_pI 29 (mp_29 _ _ _ _) (fun sg3 => ?_)
  rfl
set_option maxRecDepth 100000 in
set_option maxHeartbeats 4000000 in
theorem el_X11_reckons_21 {F : Nat} {G0 : GH} {mo n : Nat}    : ∀ (K : Nat) (v2 : Int32) (sg : Nat → Nat → Int32) (w : Int64), fixN ((fun _ _ _ => none) : Int32 → Nat → GH → Option (Int32 × Nat × GH)) (b_X11_reckons_21 F  mo) K v2 n (mput G0 mo sg w) = Option.map (fun z => (z.1, n, mput G0 mo z.2.1 z.2.2)) (fixN ((fun _ _ _ => none) : Int32 → (Nat → Nat → Int32) → Int64 → Option (Int32 × (Nat → Nat → Int32) × Int64)) (pb_X11_reckons_21 F  ) K v2 sg w) := by
  intro K
  refine fixN_ind2 (P := fun (r : Int32 → Nat → GH → Option (Int32 × Nat × GH)) (r1 : Int32 → (Nat → Nat → Int32) → Int64 → Option (Int32 × (Nat → Nat → Int32) × Int64)) => ∀ (v2 : Int32) (sg : Nat → Nat → Int32) (w : Int64), r v2 n (mput G0 mo sg w) = Option.map (fun z => (z.1, n, mput G0 mo z.2.1 z.2.2)) (r1 v2 sg w)) ?_ ?_ K
  · intro v2 sg w
    rfl
  · intro rec21 prec21 hrec21 v2 sg w
    unfold b_X11_reckons_21 pb_X11_reckons_21
    refine q_ite ?_ ?_
    · refine q_gI 29 rfl ?_
      refine q_ite ?_ ?_
      · exact ec_X11_reckons_41 
      · refine q_cvI (e_X11_sumGoesOn) (fun x6 sg4 w5 => ?_)
        exact hrec21 _ _ _
    · exact ec_X11_reckons_41 
set_option maxRecDepth 100000 in
set_option maxHeartbeats 4000000 in
theorem ec_X11_reckons_19 {F : Nat} {G0 : GH} {mo n : Nat}     {sg : Nat → Nat → Int32} {w : Int64} : k_X11_reckons_19 F  mo  n (mput G0 mo sg w) = Option.map (fun z => (z.1, n, mput G0 mo z.2.1 z.2.2)) (pk_X11_reckons_19 F    sg w) := by
  unfold k_X11_reckons_19 pk_X11_reckons_19
  exact el_X11_reckons_21  _ _ _ _
set_option maxRecDepth 100000 in
set_option maxHeartbeats 4000000 in
theorem e_X11_reckons {F : Nat} {G0 : GH} {mo n : Nat} {v1 : Int32} {sg : Nat → Nat → Int32} {w : Int64} : f_X11_reckons F mo v1 n (mput G0 mo sg w) = Option.map (fun z => (z.1, n, mput G0 mo z.2.1 z.2.2)) (p_X11_reckons F v1 sg w) := by
  unfold f_X11_reckons p_X11_reckons
  refine q_pI 29 (mp_29 _ _ _ _) (fun sg1 => ?_)
  refine q_cvP (e_X11_its) (fun x2 => ?_)
  refine q_ite ?_ ?_
  · refine q_cvU (e_X11_sumBegins) (fun sg7 w8 => ?_)
    exact ec_X11_reckons_19 
  · exact ec_X11_reckons_19 
