/-! X11_keeps -/
def pk_X11_keeps_86 (F : Nat)    (sg : Nat → Nat → Int32) (w : Int64) : Option ((Nat → Nat → Int32) × Int64) :=
  gnm (up2 sg 0 5 ((sg 0 5) + (1 : Int32))) (fun (sg1 : Nat → Nat → Int32) =>
  some (sg1, w))
def pb_X11_keeps_52 (F : Nat)   (prec52 : Int32 → (Nat → Nat → Int32) → Int64 → Option ((Nat → Nat → Int32) × Int64)) : Int32 → (Nat → Nat → Int32) → Int64 → Option ((Nat → Nat → Int32) × Int64) := fun v1 sg w =>
  if (891 : Int32) ≤ v1 then
  (pk_X11_keeps_86 F  sg w)
  else (Option.bind (mI sg 1 4470 v1) (fun (x2 : Int32) =>
  Option.bind (mS sg 4 7128 (((891 : Int32) * (sg 0 5)) + v1) x2) (fun (sg3 : Nat → Nat → Int32) =>
  prec52 (v1 + 1) sg3 w)))
def pk_X11_keeps_50 (F : Nat)    (sg : Nat → Nat → Int32) (w : Int64) : Option ((Nat → Nat → Int32) × Int64) :=
  fixN (fun _ _ _ => none) (pb_X11_keeps_52 F  ) F (0 : Int32) sg w
def pk_X11_keeps_40 (F : Nat)    (sg : Nat → Nat → Int32) (w : Int64) : Option ((Nat → Nat → Int32) × Int64) :=
  gnm (up2 sg 0 5 ((sg 0 5) - (1 : Int32))) (fun (sg4 : Nat → Nat → Int32) =>
  pk_X11_keeps_50 F  sg4 w)
def pb_X11_keeps_11 (F : Nat)   (prec11 : Int32 → (Nat → Nat → Int32) → Int64 → Option ((Nat → Nat → Int32) × Int64)) : Int32 → (Nat → Nat → Int32) → Int64 → Option ((Nat → Nat → Int32) × Int64) := fun v1 sg w =>
  if (6237 : Int32) ≤ v1 then
  (pk_X11_keeps_40 F  sg w)
  else (Option.bind (mI sg 4 7128 (v1 + (891 : Int32))) (fun (x5 : Int32) =>
  Option.bind (mS sg 4 7128 v1 x5) (fun (sg6 : Nat → Nat → Int32) =>
  prec11 (v1 + 1) sg6 w)))
def p_X11_keeps (F : Nat)  (sg : Nat → Nat → Int32) (w : Int64) : Option ((Nat → Nat → Int32) × Int64) :=
  if (sg 0 5) = (8 : Int32) then
  (fixN (fun _ _ _ => none) (pb_X11_keeps_11 F  ) F (0 : Int32) sg w)
  else (pk_X11_keeps_50 F  sg w)
set_option maxRecDepth 100000 in
set_option maxHeartbeats 4000000 in
theorem ec_X11_keeps_86 {F : Nat} {G0 : GH} {mo n : Nat}     {sg : Nat → Nat → Int32} {w : Int64} : k_X11_keeps_86 F  mo  n (mput G0 mo sg w) = Option.map (fun z => (n, mput G0 mo z.1 z.2)) (pk_X11_keeps_86 F    sg w) := by
  unfold k_X11_keeps_86 pk_X11_keeps_86
  refine q_gI 5 rfl ?_
  refine q_pI 5 (mp_5 _ _ _ _) (fun sg1 => ?_)
  rfl
set_option maxRecDepth 100000 in
set_option maxHeartbeats 4000000 in
theorem el_X11_keeps_52 {F : Nat} {G0 : GH} {mo n : Nat}    : ∀ (K : Nat) (v1 : Int32) (sg : Nat → Nat → Int32) (w : Int64), fixN ((fun _ _ _ => none) : Int32 → Nat → GH → Option (Nat × GH)) (b_X11_keeps_52 F  mo) K v1 n (mput G0 mo sg w) = Option.map (fun z => (n, mput G0 mo z.1 z.2)) (fixN ((fun _ _ _ => none) : Int32 → (Nat → Nat → Int32) → Int64 → Option ((Nat → Nat → Int32) × Int64)) (pb_X11_keeps_52 F  ) K v1 sg w) := by
  intro K
  refine fixN_ind2 (P := fun (r : Int32 → Nat → GH → Option (Nat × GH)) (r1 : Int32 → (Nat → Nat → Int32) → Int64 → Option ((Nat → Nat → Int32) × Int64)) => ∀ (v1 : Int32) (sg : Nat → Nat → Int32) (w : Int64), r v1 n (mput G0 mo sg w) = Option.map (fun z => (n, mput G0 mo z.1 z.2)) (r1 v1 sg w)) ?_ ?_ K
  · intro v1 sg w
    rfl
  · intro rec52 prec52 hrec52 v1 sg w
    unfold b_X11_keeps_52 pb_X11_keeps_52
    refine q_ite ?_ ?_
    · exact ec_X11_keeps_86 
    · refine q_gR 4 4 rfl ?_
      refine q_gI 5 rfl ?_
      refine q_gR 1 1 rfl ?_
      refine q_aI rfl rfl (by decide) (fun x2 => ?_)
      refine q_aS rfl rfl (by decide) (fun sg3 => ?_)
      exact hrec52 _ _ _
set_option maxRecDepth 100000 in
set_option maxHeartbeats 4000000 in
theorem ec_X11_keeps_50 {F : Nat} {G0 : GH} {mo n : Nat}     {sg : Nat → Nat → Int32} {w : Int64} : k_X11_keeps_50 F  mo  n (mput G0 mo sg w) = Option.map (fun z => (n, mput G0 mo z.1 z.2)) (pk_X11_keeps_50 F    sg w) := by
  unfold k_X11_keeps_50 pk_X11_keeps_50
  exact el_X11_keeps_52  _ _ _ _
set_option maxRecDepth 100000 in
set_option maxHeartbeats 4000000 in
theorem ec_X11_keeps_40 {F : Nat} {G0 : GH} {mo n : Nat}     {sg : Nat → Nat → Int32} {w : Int64} : k_X11_keeps_40 F  mo  n (mput G0 mo sg w) = Option.map (fun z => (n, mput G0 mo z.1 z.2)) (pk_X11_keeps_40 F    sg w) := by
  unfold k_X11_keeps_40 pk_X11_keeps_40
  refine q_gI 5 rfl ?_
  refine q_pI 5 (mp_5 _ _ _ _) (fun sg4 => ?_)
  exact ec_X11_keeps_50 
set_option maxRecDepth 100000 in
set_option maxHeartbeats 4000000 in
theorem el_X11_keeps_11 {F : Nat} {G0 : GH} {mo n : Nat}    : ∀ (K : Nat) (v1 : Int32) (sg : Nat → Nat → Int32) (w : Int64), fixN ((fun _ _ _ => none) : Int32 → Nat → GH → Option (Nat × GH)) (b_X11_keeps_11 F  mo) K v1 n (mput G0 mo sg w) = Option.map (fun z => (n, mput G0 mo z.1 z.2)) (fixN ((fun _ _ _ => none) : Int32 → (Nat → Nat → Int32) → Int64 → Option ((Nat → Nat → Int32) × Int64)) (pb_X11_keeps_11 F  ) K v1 sg w) := by
  intro K
  refine fixN_ind2 (P := fun (r : Int32 → Nat → GH → Option (Nat × GH)) (r1 : Int32 → (Nat → Nat → Int32) → Int64 → Option ((Nat → Nat → Int32) × Int64)) => ∀ (v1 : Int32) (sg : Nat → Nat → Int32) (w : Int64), r v1 n (mput G0 mo sg w) = Option.map (fun z => (n, mput G0 mo z.1 z.2)) (r1 v1 sg w)) ?_ ?_ K
  · intro v1 sg w
    rfl
  · intro rec11 prec11 hrec11 v1 sg w
    unfold b_X11_keeps_11 pb_X11_keeps_11
    refine q_ite ?_ ?_
    · exact ec_X11_keeps_40 
    · refine q_gR 4 4 rfl ?_
      refine q_gR 4 4 rfl ?_
      refine q_aI rfl rfl (by decide) (fun x5 => ?_)
      refine q_aS rfl rfl (by decide) (fun sg6 => ?_)
      exact hrec11 _ _ _
set_option maxRecDepth 100000 in
set_option maxHeartbeats 4000000 in
theorem e_X11_keeps {F : Nat} {G0 : GH} {mo n : Nat}  {sg : Nat → Nat → Int32} {w : Int64} : f_X11_keeps F mo  n (mput G0 mo sg w) = Option.map (fun z => (n, mput G0 mo z.1 z.2)) (p_X11_keeps F  sg w) := by
  unfold f_X11_keeps p_X11_keeps
  refine q_gI 5 rfl ?_
  refine q_ite ?_ ?_
  · exact el_X11_keeps_11  _ _ _ _
  · exact ec_X11_keeps_50 
/-! X11_enter -/
def p_X11_enter (F : Nat)  (sg : Nat → Nat → Int32) (w : Int64) : Option (Int32 × (Nat → Nat → Int32) × Int64) :=
  gnm (up2 sg 0 0 (0 : Int32)) (fun (sg1 : Nat → Nat → Int32) =>
  Option.bind (mI sg1 1 4470 (145 : Int32)) (fun (x2 : Int32) =>
  if x2 = (4 : Int32) then
  (some ((-1 : Int32), sg1, w))
  else (pcU (p_X11_keeps F  sg1 w) (fun (sg3 : Nat → Nat → Int32) (w4 : Int64) =>
  Option.bind (mI sg3 1 4470 (145 : Int32)) (fun (x5 : Int32) =>
  Option.bind (mS sg3 1 4470 (145 : Int32) (x5 + (1 : Int32))) (fun (sg6 : Nat → Nat → Int32) =>
  Option.bind (mI sg6 1 4470 (145 : Int32)) (fun (x7 : Int32) =>
  some (x7, sg6, w4))))))))
set_option maxRecDepth 100000 in
set_option maxHeartbeats 4000000 in
theorem e_X11_enter {F : Nat} {G0 : GH} {mo n : Nat}  {sg : Nat → Nat → Int32} {w : Int64} : f_X11_enter F mo  n (mput G0 mo sg w) = Option.map (fun z => (z.1, n, mput G0 mo z.2.1 z.2.2)) (p_X11_enter F  sg w) := by
  unfold f_X11_enter p_X11_enter
  refine q_pI 0 (mp_0 _ _ _ _) (fun sg1 => ?_)
  refine q_gR 1 1 rfl ?_
  refine q_aI rfl rfl (by decide) (fun x2 => ?_)
  refine q_ite ?_ ?_
  · rfl
  · refine q_cvU (e_X11_keeps) (fun sg3 w4 => ?_)
    refine q_gR 1 1 rfl ?_
    refine q_aI rfl rfl (by decide) (fun x5 => ?_)
    refine q_aS rfl rfl (by decide) (fun sg6 => ?_)
    refine q_gR 1 1 rfl ?_
    refine q_aI rfl rfl (by decide) (fun x7 => ?_)
    rfl
/-! X11_ends -/
def p_X11_ends (F : Nat) (v1 : Int32) (sg : Nat → Nat → Int32) (w : Int64) : Option ((Nat → Nat → Int32) × Int64) :=
  Option.bind (p_X11_its F v1 (0 : Int32) sg w) (fun (x1 : Int32) =>
  Option.bind (mI sg 1 4470 (687 : Int32)) (fun (x2 : Int32) =>
  Option.bind (mS sg 1 4470 ((688 : Int32) + x2) x1) (fun (sg3 : Nat → Nat → Int32) =>
  Option.bind (mI sg3 1 4470 (687 : Int32)) (fun (x4 : Int32) =>
  Option.bind (mS sg3 1 4470 (687 : Int32) (x4 + (1 : Int32))) (fun (sg5 : Nat → Nat → Int32) =>
  Option.bind (p_X11_of F x1 (10 : Int32) sg5 w) (fun (x6 : Int32) =>
  if x6 = (1 : Int32) then
  (Option.bind (mI sg5 1 4470 (748 : Int32)) (fun (x7 : Int32) =>
  Option.bind (mS sg5 1 4470 ((749 : Int32) + x7) x1) (fun (sg8 : Nat → Nat → Int32) =>
  Option.bind (mI sg8 1 4470 (748 : Int32)) (fun (x9 : Int32) =>
  Option.bind (mS sg8 1 4470 (748 : Int32) (x9 + (1 : Int32))) (fun (sg10 : Nat → Nat → Int32) =>
  some (sg10, w))))))
  else (some (sg5, w))))))))
set_option maxRecDepth 100000 in
set_option maxHeartbeats 4000000 in
theorem e_X11_ends {F : Nat} {G0 : GH} {mo n : Nat} {v1 : Int32} {sg : Nat → Nat → Int32} {w : Int64} : f_X11_ends F mo v1 n (mput G0 mo sg w) = Option.map (fun z => (n, mput G0 mo z.1 z.2)) (p_X11_ends F v1 sg w) := by
  unfold f_X11_ends p_X11_ends
  refine q_cvP (e_X11_its) (fun x1 => ?_)
  refine q_gR 1 1 rfl ?_
  refine q_gR 1 1 rfl ?_
  refine q_aI rfl rfl (by decide) (fun x2 => ?_)
  refine q_aS rfl rfl (by decide) (fun sg3 => ?_)
  refine q_gR 1 1 rfl ?_
  refine q_aI rfl rfl (by decide) (fun x4 => ?_)
  refine q_aS rfl rfl (by decide) (fun sg5 => ?_)
  refine q_cvP (e_X11_of) (fun x6 => ?_)
  refine q_ite ?_ ?_
  · refine q_gR 1 1 rfl ?_
    refine q_gR 1 1 rfl ?_
    refine q_aI rfl rfl (by decide) (fun x7 => ?_)
    refine q_aS rfl rfl (by decide) (fun sg8 => ?_)
    refine q_gR 1 1 rfl ?_
    refine q_aI rfl rfl (by decide) (fun x9 => ?_)
    refine q_aS rfl rfl (by decide) (fun sg10 => ?_)
    rfl
  · rfl
/-! X11_comesUp -/
def pb_X11_comesUp_124 (F : Nat) (prec116 : Int32 → (Nat → Nat → Int32) → Int64 → Option ((Nat → Nat → Int32) × Int64)) (v2 : Int32) (v3 : Int32) (prec124 : Int32 → (Nat → Nat → Int32) → Int64 → Option ((Nat → Nat → Int32) × Int64)) : Int32 → (Nat → Nat → Int32) → Int64 → Option ((Nat → Nat → Int32) × Int64) := fun v4 sg w =>
  if (4 : Int32) ≤ v4 then
  (prec116 (v3 + 1) sg w)
  else (Option.bind (p_X11_its F v3 ((4 : Int32) + v4) sg w) (fun (x3 : Int32) =>
  if x3 = 0 then
  (pcU (p_X11_itIs F v3 ((4 : Int32) + v4) (0 : Int32) sg w) (fun (sg7 : Nat → Nat → Int32) (w8 : Int64) =>
  prec124 (v4 + 1) sg7 w8))
  else (Option.bind (mI sg 16 60 (x3 - (1 : Int32))) (fun (x4 : Int32) =>
  pcU (p_X11_itIs F v3 ((4 : Int32) + v4) x4 sg w) (fun (sg5 : Nat → Nat → Int32) (w6 : Int64) =>
  prec124 (v4 + 1) sg5 w6)))))
def pb_X11_comesUp_116 (F : Nat)  (v2 : Int32) (prec116 : Int32 → (Nat → Nat → Int32) → Int64 → Option ((Nat → Nat → Int32) × Int64)) : Int32 → (Nat → Nat → Int32) → Int64 → Option ((Nat → Nat → Int32) × Int64) := fun v3 sg w =>
  if v2 ≤ v3 then
  (some (sg, w))
  else (fixN (fun _ _ _ => none) (pb_X11_comesUp_124 F prec116 v2 v3) F (0 : Int32) sg w)
def pk_X11_comesUp_105 (F : Nat)  (v2 : Int32)  (sg : Nat → Nat → Int32) (w : Int64) : Option ((Nat → Nat → Int32) × Int64) :=
  Option.bind (mS sg 1 4470 (206 : Int32) v2) (fun (sg2 : Nat → Nat → Int32) =>
  fixN (fun _ _ _ => none) (pb_X11_comesUp_116 F  v2) F (0 : Int32) sg2 w)
def pk_X11_comesUp_86 (F : Nat) (prec4 : Int32 → Int32 → (Nat → Nat → Int32) → Int64 → Option ((Nat → Nat → Int32) × Int64)) (v1 : Int32) (v2 : Int32) (v3 : Int32) (v4 : Int32)  (sg : Nat → Nat → Int32) (w : Int64) : Option ((Nat → Nat → Int32) × Int64) :=
  if v4 = 0 then
  (gnm (v2 + (0 : Int32)) (fun (y11 : Int32) =>
  prec4 y11 (v3 + 1) sg w))
  else (gnm (v2 + (1 : Int32)) (fun (y12 : Int32) =>
  prec4 y12 (v3 + 1) sg w))
def pb_X11_comesUp_54 (F : Nat) (prec4 : Int32 → Int32 → (Nat → Nat → Int32) → Int64 → Option ((Nat → Nat → Int32) × Int64)) (v1 : Int32) (v2 : Int32) (v3 : Int32) (v4 : Int32) (prec54 : Int32 → (Nat → Nat → Int32) → Int64 → Option ((Nat → Nat → Int32) × Int64)) : Int32 → (Nat → Nat → Int32) → Int64 → Option ((Nat → Nat → Int32) × Int64) := fun v5 sg w =>
  if (8 : Int32) ≤ v5 then
  (pk_X11_comesUp_86 F prec4 v1 v2 v3 v4 sg w)
  else (if v4 = 0 then
  (pk_X11_comesUp_86 F prec4 v1 v2 v3 v4 sg w)
  else (Option.bind (p_X11_its F v3 v5 sg w) (fun (x13 : Int32) =>
  pcU (p_X11_itIs F v2 v5 x13 sg w) (fun (sg14 : Nat → Nat → Int32) (w15 : Int64) =>
  prec54 (v5 + 1) sg14 w15))))
def pk_X11_comesUp_50 (F : Nat) (prec4 : Int32 → Int32 → (Nat → Nat → Int32) → Int64 → Option ((Nat → Nat → Int32) × Int64)) (v1 : Int32) (v2 : Int32) (v3 : Int32) (v4 : Int32) (s1 : Int32) (s2 : Int32) (sg : Nat → Nat → Int32) (w : Int64) : Option ((Nat → Nat → Int32) × Int64) :=
  Option.bind (mS sg 16 60 s1 s2) (fun (sg10 : Nat → Nat → Int32) =>
  fixN (fun _ _ _ => none) (pb_X11_comesUp_54 F prec4 v1 v2 v3 v4) F (0 : Int32) sg10 w)
def pk_X11_comesUp_31 (F : Nat) (prec4 : Int32 → Int32 → (Nat → Nat → Int32) → Int64 → Option ((Nat → Nat → Int32) × Int64)) (v1 : Int32) (v2 : Int32) (v3 : Int32) (s0 : Int32) (sg : Nat → Nat → Int32) (w : Int64) : Option ((Nat → Nat → Int32) × Int64) :=
  if s0 = 0 then
  (pk_X11_comesUp_50 F prec4 v1 v2 v3 s0 v3 (0 : Int32) sg w)
  else (pk_X11_comesUp_50 F prec4 v1 v2 v3 s0 v3 (v2 + (1 : Int32)) sg w)
def pb_X11_comesUp_4 (F : Nat)  (v1 : Int32) (prec4 : Int32 → Int32 → (Nat → Nat → Int32) → Int64 → Option ((Nat → Nat → Int32) × Int64)) : Int32 → Int32 → (Nat → Nat → Int32) → Int64 → Option ((Nat → Nat → Int32) × Int64) := fun v2 v3 sg w =>
  Option.bind (mI sg 1 4470 (206 : Int32)) (fun (x1 : Int32) =>
  if x1 ≤ v3 then
  (pk_X11_comesUp_105 F  v2 sg w)
  else (Option.bind (p_X11_its F v3 (1 : Int32) sg w) (fun (x9 : Int32) =>
  if x9 = v1 then
  (pk_X11_comesUp_31 F prec4 v1 v2 v3 (0 : Int32) sg w)
  else (pk_X11_comesUp_31 F prec4 v1 v2 v3 (1 : Int32) sg w))))
def p_X11_comesUp (F : Nat) (v1 : Int32) (sg : Nat → Nat → Int32) (w : Int64) : Option ((Nat → Nat → Int32) × Int64) :=
  fixN (fun _ _ _ _ => none) (pb_X11_comesUp_4 F  v1) F (0 : Int32) (0 : Int32) sg w
set_option maxRecDepth 100000 in
set_option maxHeartbeats 4000000 in
theorem el_X11_comesUp_124 {F : Nat} {G0 : GH} {mo n : Nat} {rec116 : Int32 → Nat → GH → Option (Nat × GH)} {prec116 : Int32 → (Nat → Nat → Int32) → Int64 → Option ((Nat → Nat → Int32) × Int64)} (hrec116 : ∀ (w3 : Int32) (sg : Nat → Nat → Int32) (w : Int64), rec116 w3 n (mput G0 mo sg w) = Option.map (fun z => (n, mput G0 mo z.1 z.2)) (prec116 w3 sg w)) {v2 : Int32} {v3 : Int32} : ∀ (K : Nat) (v4 : Int32) (sg : Nat → Nat → Int32) (w : Int64), fixN ((fun _ _ _ => none) : Int32 → Nat → GH → Option (Nat × GH)) (b_X11_comesUp_124 F rec116 mo v2 v3) K v4 n (mput G0 mo sg w) = Option.map (fun z => (n, mput G0 mo z.1 z.2)) (fixN ((fun _ _ _ => none) : Int32 → (Nat → Nat → Int32) → Int64 → Option ((Nat → Nat → Int32) × Int64)) (pb_X11_comesUp_124 F prec116 v2 v3) K v4 sg w) := by
  intro K
  refine fixN_ind2 (P := fun (r : Int32 → Nat → GH → Option (Nat × GH)) (r1 : Int32 → (Nat → Nat → Int32) → Int64 → Option ((Nat → Nat → Int32) × Int64)) => ∀ (v4 : Int32) (sg : Nat → Nat → Int32) (w : Int64), r v4 n (mput G0 mo sg w) = Option.map (fun z => (n, mput G0 mo z.1 z.2)) (r1 v4 sg w)) ?_ ?_ K
  · intro v4 sg w
    rfl
  · intro rec124 prec124 hrec124 v4 sg w
    unfold b_X11_comesUp_124 pb_X11_comesUp_124
    refine q_ite ?_ ?_
    · exact hrec116 _ _ _
    · refine q_cvP (e_X11_its) (fun x3 => ?_)
      refine q_ite ?_ ?_
      · refine q_cvU (e_X11_itIs) (fun sg7 w8 => ?_)
        exact hrec124 _ _ _
      · refine q_gR 30 16 rfl ?_
        refine q_aI rfl rfl (by decide) (fun x4 => ?_)
        refine q_cvU (e_X11_itIs) (fun sg5 w6 => ?_)
        exact hrec124 _ _ _
set_option maxRecDepth 100000 in
set_option maxHeartbeats 4000000 in
theorem el_X11_comesUp_116 {F : Nat} {G0 : GH} {mo n : Nat}   {v2 : Int32} : ∀ (K : Nat) (v3 : Int32) (sg : Nat → Nat → Int32) (w : Int64), fixN ((fun _ _ _ => none) : Int32 → Nat → GH → Option (Nat × GH)) (b_X11_comesUp_116 F  mo v2) K v3 n (mput G0 mo sg w) = Option.map (fun z => (n, mput G0 mo z.1 z.2)) (fixN ((fun _ _ _ => none) : Int32 → (Nat → Nat → Int32) → Int64 → Option ((Nat → Nat → Int32) × Int64)) (pb_X11_comesUp_116 F  v2) K v3 sg w) := by
  intro K
  refine fixN_ind2 (P := fun (r : Int32 → Nat → GH → Option (Nat × GH)) (r1 : Int32 → (Nat → Nat → Int32) → Int64 → Option ((Nat → Nat → Int32) × Int64)) => ∀ (v3 : Int32) (sg : Nat → Nat → Int32) (w : Int64), r v3 n (mput G0 mo sg w) = Option.map (fun z => (n, mput G0 mo z.1 z.2)) (r1 v3 sg w)) ?_ ?_ K
  · intro v3 sg w
    rfl
  · intro rec116 prec116 hrec116 v3 sg w
    unfold b_X11_comesUp_116 pb_X11_comesUp_116
    refine q_ite ?_ ?_
    · rfl
    · exact el_X11_comesUp_124 hrec116 _ _ _ _
set_option maxRecDepth 100000 in
set_option maxHeartbeats 4000000 in
theorem ec_X11_comesUp_105 {F : Nat} {G0 : GH} {mo n : Nat}   {v2 : Int32}  {sg : Nat → Nat → Int32} {w : Int64} : k_X11_comesUp_105 F  mo v2  n (mput G0 mo sg w) = Option.map (fun z => (n, mput G0 mo z.1 z.2)) (pk_X11_comesUp_105 F  v2  sg w) := by
  unfold k_X11_comesUp_105 pk_X11_comesUp_105
  refine q_gR 1 1 rfl ?_
  refine q_aS rfl rfl (by decide) (fun sg2 => ?_)
  exact el_X11_comesUp_116  _ _ _ _
set_option maxRecDepth 100000 in
set_option maxHeartbeats 4000000 in
theorem ec_X11_comesUp_86 {F : Nat} {G0 : GH} {mo n : Nat} {rec4 : Int32 → Int32 → Nat → GH → Option (Nat × GH)} {prec4 : Int32 → Int32 → (Nat → Nat → Int32) → Int64 → Option ((Nat → Nat → Int32) × Int64)} (hrec4 : ∀ (w2 : Int32) (w3 : Int32) (sg : Nat → Nat → Int32) (w : Int64), rec4 w2 w3 n (mput G0 mo sg w) = Option.map (fun z => (n, mput G0 mo z.1 z.2)) (prec4 w2 w3 sg w)) {v1 : Int32} {v2 : Int32} {v3 : Int32} {v4 : Int32}  {sg : Nat → Nat → Int32} {w : Int64} : k_X11_comesUp_86 F rec4 mo v1 v2 v3 v4  n (mput G0 mo sg w) = Option.map (fun z => (n, mput G0 mo z.1 z.2)) (pk_X11_comesUp_86 F prec4 v1 v2 v3 v4  sg w) := by
  unfold k_X11_comesUp_86 pk_X11_comesUp_86
  refine q_ite ?_ ?_
  · refine q_nm (fun y11 => ?_)
    exact hrec4 _ _ _ _
  · refine q_nm (fun y12 => ?_)
    exact hrec4 _ _ _ _
set_option maxRecDepth 100000 in
set_option maxHeartbeats 4000000 in
theorem el_X11_comesUp_54 {F : Nat} {G0 : GH} {mo n : Nat} {rec4 : Int32 → Int32 → Nat → GH → Option (Nat × GH)} {prec4 : Int32 → Int32 → (Nat → Nat → Int32) → Int64 → Option ((Nat → Nat → Int32) × Int64)} (hrec4 : ∀ (w2 : Int32) (w3 : Int32) (sg : Nat → Nat → Int32) (w : Int64), rec4 w2 w3 n (mput G0 mo sg w) = Option.map (fun z => (n, mput G0 mo z.1 z.2)) (prec4 w2 w3 sg w)) {v1 : Int32} {v2 : Int32} {v3 : Int32} {v4 : Int32} : ∀ (K : Nat) (v5 : Int32) (sg : Nat → Nat → Int32) (w : Int64), fixN ((fun _ _ _ => none) : Int32 → Nat → GH → Option (Nat × GH)) (b_X11_comesUp_54 F rec4 mo v1 v2 v3 v4) K v5 n (mput G0 mo sg w) = Option.map (fun z => (n, mput G0 mo z.1 z.2)) (fixN ((fun _ _ _ => none) : Int32 → (Nat → Nat → Int32) → Int64 → Option ((Nat → Nat → Int32) × Int64)) (pb_X11_comesUp_54 F prec4 v1 v2 v3 v4) K v5 sg w) := by
  intro K
  refine fixN_ind2 (P := fun (r : Int32 → Nat → GH → Option (Nat × GH)) (r1 : Int32 → (Nat → Nat → Int32) → Int64 → Option ((Nat → Nat → Int32) × Int64)) => ∀ (v5 : Int32) (sg : Nat → Nat → Int32) (w : Int64), r v5 n (mput G0 mo sg w) = Option.map (fun z => (n, mput G0 mo z.1 z.2)) (r1 v5 sg w)) ?_ ?_ K
  · intro v5 sg w
    rfl
  · intro rec54 prec54 hrec54 v5 sg w
    unfold b_X11_comesUp_54 pb_X11_comesUp_54
    refine q_ite ?_ ?_
    · exact ec_X11_comesUp_86 hrec4
    · refine q_ite ?_ ?_
      · exact ec_X11_comesUp_86 hrec4
      · refine q_cvP (e_X11_its) (fun x13 => ?_)
        refine q_cvU (e_X11_itIs) (fun sg14 w15 => ?_)
        exact hrec54 _ _ _
set_option maxRecDepth 100000 in
set_option maxHeartbeats 4000000 in
theorem ec_X11_comesUp_50 {F : Nat} {G0 : GH} {mo n : Nat} {rec4 : Int32 → Int32 → Nat → GH → Option (Nat × GH)} {prec4 : Int32 → Int32 → (Nat → Nat → Int32) → Int64 → Option ((Nat → Nat → Int32) × Int64)} (hrec4 : ∀ (w2 : Int32) (w3 : Int32) (sg : Nat → Nat → Int32) (w : Int64), rec4 w2 w3 n (mput G0 mo sg w) = Option.map (fun z => (n, mput G0 mo z.1 z.2)) (prec4 w2 w3 sg w)) {v1 : Int32} {v2 : Int32} {v3 : Int32} {v4 : Int32} {s1 : Int32} {s2 : Int32} {sg : Nat → Nat → Int32} {w : Int64} : k_X11_comesUp_50 F rec4 mo v1 v2 v3 v4 (mo + 16) s1 s2 n (mput G0 mo sg w) = Option.map (fun z => (n, mput G0 mo z.1 z.2)) (pk_X11_comesUp_50 F prec4 v1 v2 v3 v4 s1 s2 sg w) := by
  unfold k_X11_comesUp_50 pk_X11_comesUp_50
  refine q_aS rfl rfl (by decide) (fun sg10 => ?_)
  exact el_X11_comesUp_54 hrec4 _ _ _ _
set_option maxRecDepth 100000 in
set_option maxHeartbeats 4000000 in
theorem ec_X11_comesUp_31 {F : Nat} {G0 : GH} {mo n : Nat} {rec4 : Int32 → Int32 → Nat → GH → Option (Nat × GH)} {prec4 : Int32 → Int32 → (Nat → Nat → Int32) → Int64 → Option ((Nat → Nat → Int32) × Int64)} (hrec4 : ∀ (w2 : Int32) (w3 : Int32) (sg : Nat → Nat → Int32) (w : Int64), rec4 w2 w3 n (mput G0 mo sg w) = Option.map (fun z => (n, mput G0 mo z.1 z.2)) (prec4 w2 w3 sg w)) {v1 : Int32} {v2 : Int32} {v3 : Int32} {s0 : Int32} {sg : Nat → Nat → Int32} {w : Int64} : k_X11_comesUp_31 F rec4 mo v1 v2 v3 s0 n (mput G0 mo sg w) = Option.map (fun z => (n, mput G0 mo z.1 z.2)) (pk_X11_comesUp_31 F prec4 v1 v2 v3 s0 sg w) := by
  unfold k_X11_comesUp_31 pk_X11_comesUp_31
  refine q_gR 30 16 rfl ?_
  refine q_ite ?_ ?_
  · exact ec_X11_comesUp_50 hrec4
  · exact ec_X11_comesUp_50 hrec4
set_option maxRecDepth 100000 in
set_option maxHeartbeats 4000000 in
theorem el_X11_comesUp_4 {F : Nat} {G0 : GH} {mo n : Nat}   {v1 : Int32} : ∀ (K : Nat) (v2 : Int32) (v3 : Int32) (sg : Nat → Nat → Int32) (w : Int64), fixN ((fun _ _ _ _ => none) : Int32 → Int32 → Nat → GH → Option (Nat × GH)) (b_X11_comesUp_4 F  mo v1) K v2 v3 n (mput G0 mo sg w) = Option.map (fun z => (n, mput G0 mo z.1 z.2)) (fixN ((fun _ _ _ _ => none) : Int32 → Int32 → (Nat → Nat → Int32) → Int64 → Option ((Nat → Nat → Int32) × Int64)) (pb_X11_comesUp_4 F  v1) K v2 v3 sg w) := by
  intro K
  refine fixN_ind2 (P := fun (r : Int32 → Int32 → Nat → GH → Option (Nat × GH)) (r1 : Int32 → Int32 → (Nat → Nat → Int32) → Int64 → Option ((Nat → Nat → Int32) × Int64)) => ∀ (v2 : Int32) (v3 : Int32) (sg : Nat → Nat → Int32) (w : Int64), r v2 v3 n (mput G0 mo sg w) = Option.map (fun z => (n, mput G0 mo z.1 z.2)) (r1 v2 v3 sg w)) ?_ ?_ K
  · intro v2 v3 sg w
    rfl
  · intro rec4 prec4 hrec4 v2 v3 sg w
    unfold b_X11_comesUp_4 pb_X11_comesUp_4
    refine q_gR 1 1 rfl ?_
    refine q_aI rfl rfl (by decide) (fun x1 => ?_)
    refine q_ite ?_ ?_
    · exact ec_X11_comesUp_105 
    · refine q_cvP (e_X11_its) (fun x9 => ?_)
      refine q_ite ?_ ?_
      · exact ec_X11_comesUp_31 hrec4
      · exact ec_X11_comesUp_31 hrec4
set_option maxRecDepth 100000 in
set_option maxHeartbeats 4000000 in
theorem e_X11_comesUp {F : Nat} {G0 : GH} {mo n : Nat} {v1 : Int32} {sg : Nat → Nat → Int32} {w : Int64} : f_X11_comesUp F mo v1 n (mput G0 mo sg w) = Option.map (fun z => (n, mput G0 mo z.1 z.2)) (p_X11_comesUp F v1 sg w) := by
  unfold f_X11_comesUp p_X11_comesUp
  exact el_X11_comesUp_4  _ _ _ _ _
/-! X11_leave -/
def pk_X11_leave_107 (F : Nat)  (v1 : Int32)  (sg : Nat → Nat → Int32) (w : Int64) : Option (Int32 × (Nat → Nat → Int32) × Int64) :=
  if v1 = 0 then
  (Option.bind (mS sg 1 4470 (145 : Int32) (0 : Int32)) (fun (sg13 : Nat → Nat → Int32) =>
  Option.bind (mI sg13 1 4470 (687 : Int32)) (fun (x14 : Int32) =>
  some (x14, sg13, w))))
  else (Option.bind (mS sg 1 4470 (145 : Int32) (v1 - (1 : Int32))) (fun (sg11 : Nat → Nat → Int32) =>
  Option.bind (mI sg11 1 4470 (687 : Int32)) (fun (x12 : Int32) =>
  some (x12, sg11, w))))
def pb_X11_leave_79 (F : Nat)  (v1 : Int32) (prec79 : Int32 → (Nat → Nat → Int32) → Int64 → Option (Int32 × (Nat → Nat → Int32) × Int64)) : Int32 → (Nat → Nat → Int32) → Int64 → Option (Int32 × (Nat → Nat → Int32) × Int64) := fun v2 sg w =>
  if (12 : Int32) ≤ v2 then
  (pk_X11_leave_107 F  v1 sg w)
  else (Option.bind (mS sg 1 4470 (((146 : Int32) + ((12 : Int32) * v1)) + v2) (0 : Int32)) (fun (sg15 : Nat → Nat → Int32) =>
  prec79 (v2 + 1) sg15 w))
def pk_X11_leave_72 (F : Nat)  (v1 : Int32)  (sg : Nat → Nat → Int32) (w : Int64) : Option (Int32 × (Nat → Nat → Int32) × Int64) :=
  pcU (p_X11_comesUp F v1 sg w) (fun (sg9 : Nat → Nat → Int32) (w10 : Int64) =>
  fixN (fun _ _ _ => none) (pb_X11_leave_79 F  v1) F (0 : Int32) sg9 w10)
def pb_X11_leave_47 (F : Nat)  (v1 : Int32) (prec47 : Int32 → (Nat → Nat → Int32) → Int64 → Option (Int32 × (Nat → Nat → Int32) × Int64)) : Int32 → (Nat → Nat → Int32) → Int64 → Option (Int32 × (Nat → Nat → Int32) × Int64) := fun v2 sg w =>
  if v2 < 0 then
  (pk_X11_leave_72 F  v1 sg w)
  else (Option.bind (p_X11_its F v2 (1 : Int32) sg w) (fun (x16 : Int32) =>
  if x16 = v1 then
  (pcU (p_X11_ends F v2 sg w) (fun (sg17 : Nat → Nat → Int32) (w18 : Int64) =>
  prec47 (v2 + (-1)) sg17 w18))
  else (prec47 (v2 + (-1)) sg w)))
def p_X11_leave (F : Nat)  (sg : Nat → Nat → Int32) (w : Int64) : Option (Int32 × (Nat → Nat → Int32) × Int64) :=
  gnm (up2 sg 0 0 (0 : Int32)) (fun (sg1 : Nat → Nat → Int32) =>
  pcU (p_X11_keeps F  sg1 w) (fun (sg2 : Nat → Nat → Int32) (w3 : Int64) =>
  Option.bind (mI sg2 1 4470 (145 : Int32)) (fun (x4 : Int32) =>
  Option.bind (mS sg2 1 4470 (687 : Int32) (0 : Int32)) (fun (sg5 : Nat → Nat → Int32) =>
  Option.bind (mS sg5 1 4470 (748 : Int32) (0 : Int32)) (fun (sg6 : Nat → Nat → Int32) =>
  Option.bind (mI sg6 1 4470 (206 : Int32)) (fun (x7 : Int32) =>
  gnm (x7 - (1 : Int32)) (fun (y8 : Int32) =>
  fixN (fun _ _ _ => none) (pb_X11_leave_47 F  x4) F y8 sg6 w3)))))))
set_option maxRecDepth 100000 in
set_option maxHeartbeats 4000000 in
theorem ec_X11_leave_107 {F : Nat} {G0 : GH} {mo n : Nat}   {v1 : Int32}  {sg : Nat → Nat → Int32} {w : Int64} : k_X11_leave_107 F  mo v1  n (mput G0 mo sg w) = Option.map (fun z => (z.1, n, mput G0 mo z.2.1 z.2.2)) (pk_X11_leave_107 F  v1  sg w) := by
  unfold k_X11_leave_107 pk_X11_leave_107
  refine q_gR 1 1 rfl ?_
  refine q_ite ?_ ?_
  · refine q_aS rfl rfl (by decide) (fun sg13 => ?_)
    refine q_gR 1 1 rfl ?_
    refine q_aI rfl rfl (by decide) (fun x14 => ?_)
    rfl
  · refine q_aS rfl rfl (by decide) (fun sg11 => ?_)
    refine q_gR 1 1 rfl ?_
    refine q_aI rfl rfl (by decide) (fun x12 => ?_)
    rfl
set_option maxRecDepth 100000 in
set_option maxHeartbeats 4000000 in
theorem el_X11_leave_79 {F : Nat} {G0 : GH} {mo n : Nat}   {v1 : Int32} : ∀ (K : Nat) (v2 : Int32) (sg : Nat → Nat → Int32) (w : Int64), fixN ((fun _ _ _ => none) : Int32 → Nat → GH → Option (Int32 × Nat × GH)) (b_X11_leave_79 F  mo v1) K v2 n (mput G0 mo sg w) = Option.map (fun z => (z.1, n, mput G0 mo z.2.1 z.2.2)) (fixN ((fun _ _ _ => none) : Int32 → (Nat → Nat → Int32) → Int64 → Option (Int32 × (Nat → Nat → Int32) × Int64)) (pb_X11_leave_79 F  v1) K v2 sg w) := by
  intro K
  refine fixN_ind2 (P := fun (r : Int32 → Nat → GH → Option (Int32 × Nat × GH)) (r1 : Int32 → (Nat → Nat → Int32) → Int64 → Option (Int32 × (Nat → Nat → Int32) × Int64)) => ∀ (v2 : Int32) (sg : Nat → Nat → Int32) (w : Int64), r v2 n (mput G0 mo sg w) = Option.map (fun z => (z.1, n, mput G0 mo z.2.1 z.2.2)) (r1 v2 sg w)) ?_ ?_ K
  · intro v2 sg w
    rfl
  · intro rec79 prec79 hrec79 v2 sg w
    unfold b_X11_leave_79 pb_X11_leave_79
    refine q_ite ?_ ?_
    · exact ec_X11_leave_107 
    · refine q_gR 1 1 rfl ?_
      refine q_aS rfl rfl (by decide) (fun sg15 => ?_)
      exact hrec79 _ _ _
set_option maxRecDepth 100000 in
set_option maxHeartbeats 4000000 in
theorem ec_X11_leave_72 {F : Nat} {G0 : GH} {mo n : Nat}   {v1 : Int32}  {sg : Nat → Nat → Int32} {w : Int64} : k_X11_leave_72 F  mo v1  n (mput G0 mo sg w) = Option.map (fun z => (z.1, n, mput G0 mo z.2.1 z.2.2)) (pk_X11_leave_72 F  v1  sg w) := by
  unfold k_X11_leave_72 pk_X11_leave_72
  refine q_cvU (e_X11_comesUp) (fun sg9 w10 => ?_)
  exact el_X11_leave_79  _ _ _ _
set_option maxRecDepth 100000 in
set_option maxHeartbeats 4000000 in
theorem el_X11_leave_47 {F : Nat} {G0 : GH} {mo n : Nat}   {v1 : Int32} : ∀ (K : Nat) (v2 : Int32) (sg : Nat → Nat → Int32) (w : Int64), fixN ((fun _ _ _ => none) : Int32 → Nat → GH → Option (Int32 × Nat × GH)) (b_X11_leave_47 F  mo v1) K v2 n (mput G0 mo sg w) = Option.map (fun z => (z.1, n, mput G0 mo z.2.1 z.2.2)) (fixN ((fun _ _ _ => none) : Int32 → (Nat → Nat → Int32) → Int64 → Option (Int32 × (Nat → Nat → Int32) × Int64)) (pb_X11_leave_47 F  v1) K v2 sg w) := by
  intro K
  refine fixN_ind2 (P := fun (r : Int32 → Nat → GH → Option (Int32 × Nat × GH)) (r1 : Int32 → (Nat → Nat → Int32) → Int64 → Option (Int32 × (Nat → Nat → Int32) × Int64)) => ∀ (v2 : Int32) (sg : Nat → Nat → Int32) (w : Int64), r v2 n (mput G0 mo sg w) = Option.map (fun z => (z.1, n, mput G0 mo z.2.1 z.2.2)) (r1 v2 sg w)) ?_ ?_ K
  · intro v2 sg w
    rfl
  · intro rec47 prec47 hrec47 v2 sg w
    unfold b_X11_leave_47 pb_X11_leave_47
    refine q_ite ?_ ?_
    · exact ec_X11_leave_72 
    · refine q_cvP (e_X11_its) (fun x16 => ?_)
      refine q_ite ?_ ?_
      · refine q_cvU (e_X11_ends) (fun sg17 w18 => ?_)
        exact hrec47 _ _ _
      · exact hrec47 _ _ _
set_option maxRecDepth 100000 in
set_option maxHeartbeats 4000000 in
theorem e_X11_leave {F : Nat} {G0 : GH} {mo n : Nat}  {sg : Nat → Nat → Int32} {w : Int64} : f_X11_leave F mo  n (mput G0 mo sg w) = Option.map (fun z => (z.1, n, mput G0 mo z.2.1 z.2.2)) (p_X11_leave F  sg w) := by
  unfold f_X11_leave p_X11_leave
  refine q_pI 0 (mp_0 _ _ _ _) (fun sg1 => ?_)
  refine q_cvU (e_X11_keeps) (fun sg2 w3 => ?_)
  refine q_gR 1 1 rfl ?_
  refine q_aI rfl rfl (by decide) (fun x4 => ?_)
  refine q_gR 1 1 rfl ?_
  refine q_aS rfl rfl (by decide) (fun sg5 => ?_)
  refine q_gR 1 1 rfl ?_
  refine q_aS rfl rfl (by decide) (fun sg6 => ?_)
  refine q_gR 1 1 rfl ?_
  refine q_aI rfl rfl (by decide) (fun x7 => ?_)
  refine q_nm (fun y8 => ?_)
  exact el_X11_leave_47  _ _ _ _
/-! X11_stand -/
def pk_X11_stand_53 (F : Nat)  (v3 : Int32) (s0 : Int32) (sg : Nat → Nat → Int32) (w : Int64) : Option (Int32 × (Nat → Nat → Int32) × Int64) :=
  Option.bind (mI sg 1 4470 v3) (fun (x6 : Int32) =>
  if x6 = s0 then
  (mN .boolean (0 : Int32) sg w)
  else (pcU (p_X11_keeps F  sg w) (fun (sg7 : Nat → Nat → Int32) (w8 : Int64) =>
  Option.bind (mS sg7 1 4470 v3 s0) (fun (sg9 : Nat → Nat → Int32) =>
  mN .boolean (1 : Int32) sg9 w8))))
def p_X11_stand (F : Nat) (v1 : Int32) (v2 : Int32) (sg : Nat → Nat → Int32) (w : Int64) : Option (Int32 × (Nat → Nat → Int32) × Int64) :=
  gnm (up2 sg 0 0 (0 : Int32)) (fun (sg1 : Nat → Nat → Int32) =>
  Option.bind (p_X11_isPart F v1 sg1 w) (fun (x2 : Int32) =>
  if x2 = 0 then
  (mN .boolean (0 : Int32) sg1 w)
  else (Option.bind (p_X11_isPart F v2 sg1 w) (fun (x3 : Int32) =>
  if x3 = 0 then
  (mN .boolean (0 : Int32) sg1 w)
  else (Option.bind (mI sg1 1 4470 (145 : Int32)) (fun (x4 : Int32) =>
  gnm (((146 : Int32) + ((12 : Int32) * x4)) + v1) (fun (y5 : Int32) =>
  if v1 = v2 then
  (pk_X11_stand_53 F  y5 (0 : Int32) sg1 w)
  else (pk_X11_stand_53 F  y5 (v2 + (1 : Int32)) sg1 w))))))))
set_option maxRecDepth 100000 in
set_option maxHeartbeats 4000000 in
theorem ec_X11_stand_53 {F : Nat} {G0 : GH} {mo n : Nat}   {v3 : Int32} {s0 : Int32} {sg : Nat → Nat → Int32} {w : Int64} : k_X11_stand_53 F  mo v3 s0 n (mput G0 mo sg w) = Option.map (fun z => (z.1, n, mput G0 mo z.2.1 z.2.2)) (pk_X11_stand_53 F  v3 s0 sg w) := by
  unfold k_X11_stand_53 pk_X11_stand_53
  refine q_gR 1 1 rfl ?_
  refine q_aI rfl rfl (by decide) (fun x6 => ?_)
  refine q_ite ?_ ?_
  · exact q_rN
  · refine q_cvU (e_X11_keeps) (fun sg7 w8 => ?_)
    refine q_gR 1 1 rfl ?_
    refine q_aS rfl rfl (by decide) (fun sg9 => ?_)
    exact q_rN
set_option maxRecDepth 100000 in
set_option maxHeartbeats 4000000 in
theorem e_X11_stand {F : Nat} {G0 : GH} {mo n : Nat} {v1 : Int32} {v2 : Int32} {sg : Nat → Nat → Int32} {w : Int64} : f_X11_stand F mo v1 v2 n (mput G0 mo sg w) = Option.map (fun z => (z.1, n, mput G0 mo z.2.1 z.2.2)) (p_X11_stand F v1 v2 sg w) := by
  unfold f_X11_stand p_X11_stand
  refine q_pI 0 (mp_0 _ _ _ _) (fun sg1 => ?_)
  refine q_cvP (e_X11_isPart) (fun x2 => ?_)
  refine q_ite ?_ ?_
  · exact q_rN
  · refine q_cvP (e_X11_isPart) (fun x3 => ?_)
    refine q_ite ?_ ?_
    · exact q_rN
    · refine q_gR 1 1 rfl ?_
      refine q_aI rfl rfl (by decide) (fun x4 => ?_)
      refine q_nm (fun y5 => ?_)
      refine q_ite ?_ ?_
      · exact ec_X11_stand_53 
      · exact ec_X11_stand_53 
/-! X11_ask -/
def p_X11_ask (F : Nat) (v1 : Int32) (sg : Nat → Nat → Int32) (w : Int64) : Option (Int32 × (Nat → Nat → Int32) × Int64) :=
  gnm (up2 sg 0 0 (0 : Int32)) (fun (sg1 : Nat → Nat → Int32) =>
  Option.bind (p_X11_isPart F v1 sg1 w) (fun (x2 : Int32) =>
  if x2 = 0 then
  (some ((-1 : Int32), sg1, w))
  else (pcU (p_X11_keeps F  sg1 w) (fun (sg3 : Nat → Nat → Int32) (w4 : Int64) =>
  gnm (up2 sg3 0 29 (0 : Int32)) (fun (sg5 : Nat → Nat → Int32) =>
  Option.bind (mI sg5 1 4470 (145 : Int32)) (fun (x6 : Int32) =>
  pcI (p_X11_asks F v1 x6 sg5 w4) (fun (x9 : Int32) (sg7 : Nat → Nat → Int32) (w8 : Int64) =>
  some (x9, sg7, w8))))))))
set_option maxRecDepth 100000 in
set_option maxHeartbeats 4000000 in
theorem e_X11_ask {F : Nat} {G0 : GH} {mo n : Nat} {v1 : Int32} {sg : Nat → Nat → Int32} {w : Int64} : f_X11_ask F mo v1 n (mput G0 mo sg w) = Option.map (fun z => (z.1, n, mput G0 mo z.2.1 z.2.2)) (p_X11_ask F v1 sg w) := by
  unfold f_X11_ask p_X11_ask
  refine q_pI 0 (mp_0 _ _ _ _) (fun sg1 => ?_)
  refine q_cvP (e_X11_isPart) (fun x2 => ?_)
  refine q_ite ?_ ?_
  · rfl
  · refine q_cvU (e_X11_keeps) (fun sg3 w4 => ?_)
    refine q_pI 29 (mp_29 _ _ _ _) (fun sg5 => ?_)
    refine q_gR 1 1 rfl ?_
    refine q_aI rfl rfl (by decide) (fun x6 => ?_)
    refine q_cvI (e_X11_asks) (fun x9 sg7 w8 => ?_)
    rfl
/-! X11_value -/
def p_X11_value (F : Nat) (v1 : Int32) (sg : Nat → Nat → Int32) (w : Int64) : Option (Int32 × (Nat → Nat → Int32) × Int64) :=
  gnm (up2 sg 0 0 (0 : Int32)) (fun (sg1 : Nat → Nat → Int32) =>
  Option.bind (p_X11_isThing F v1 sg1 w) (fun (x2 : Int32) =>
  if x2 = 0 then
  (some ((-1 : Int32), sg1, w))
  else (pcU (p_X11_keeps F  sg1 w) (fun (sg3 : Nat → Nat → Int32) (w4 : Int64) =>
  pcI (p_X11_reckons F v1 sg3 w4) (fun (x7 : Int32) (sg5 : Nat → Nat → Int32) (w6 : Int64) =>
  some (x7, sg5, w6))))))
set_option maxRecDepth 100000 in
set_option maxHeartbeats 4000000 in
theorem e_X11_value {F : Nat} {G0 : GH} {mo n : Nat} {v1 : Int32} {sg : Nat → Nat → Int32} {w : Int64} : f_X11_value F mo v1 n (mput G0 mo sg w) = Option.map (fun z => (z.1, n, mput G0 mo z.2.1 z.2.2)) (p_X11_value F v1 sg w) := by
  unfold f_X11_value p_X11_value
  refine q_pI 0 (mp_0 _ _ _ _) (fun sg1 => ?_)
  refine q_cvP (e_X11_isThing) (fun x2 => ?_)
  refine q_ite ?_ ?_
  · rfl
  · refine q_cvU (e_X11_keeps) (fun sg3 w4 => ?_)
    refine q_cvI (e_X11_reckons) (fun x7 sg5 w6 => ?_)
    rfl
/-! X11_undo -/
def pb_X11_undo_26 (F : Nat)   (prec26 : Int32 → (Nat → Nat → Int32) → Int64 → Option (Int32 × (Nat → Nat → Int32) × Int64)) : Int32 → (Nat → Nat → Int32) → Int64 → Option (Int32 × (Nat → Nat → Int32) × Int64) := fun v1 sg w =>
  if (891 : Int32) ≤ v1 then
  (some (sg 0 5, sg, w))
  else (Option.bind (mI sg 4 7128 (((891 : Int32) * (sg 0 5)) + v1)) (fun (x3 : Int32) =>
  Option.bind (mS sg 1 4470 v1 x3) (fun (sg4 : Nat → Nat → Int32) =>
  prec26 (v1 + 1) sg4 w)))
def p_X11_undo (F : Nat)  (sg : Nat → Nat → Int32) (w : Int64) : Option (Int32 × (Nat → Nat → Int32) × Int64) :=
  gnm (up2 sg 0 0 (0 : Int32)) (fun (sg1 : Nat → Nat → Int32) =>
  if (sg1 0 5) = 0 then
  (some ((-1 : Int32), sg1, w))
  else (gnm (up2 sg1 0 5 ((sg1 0 5) - (1 : Int32))) (fun (sg2 : Nat → Nat → Int32) =>
  fixN (fun _ _ _ => none) (pb_X11_undo_26 F  ) F (0 : Int32) sg2 w)))
set_option maxRecDepth 100000 in
set_option maxHeartbeats 4000000 in
theorem el_X11_undo_26 {F : Nat} {G0 : GH} {mo n : Nat}    : ∀ (K : Nat) (v1 : Int32) (sg : Nat → Nat → Int32) (w : Int64), fixN ((fun _ _ _ => none) : Int32 → Nat → GH → Option (Int32 × Nat × GH)) (b_X11_undo_26 F  mo) K v1 n (mput G0 mo sg w) = Option.map (fun z => (z.1, n, mput G0 mo z.2.1 z.2.2)) (fixN ((fun _ _ _ => none) : Int32 → (Nat → Nat → Int32) → Int64 → Option (Int32 × (Nat → Nat → Int32) × Int64)) (pb_X11_undo_26 F  ) K v1 sg w) := by
  intro K
  refine fixN_ind2 (P := fun (r : Int32 → Nat → GH → Option (Int32 × Nat × GH)) (r1 : Int32 → (Nat → Nat → Int32) → Int64 → Option (Int32 × (Nat → Nat → Int32) × Int64)) => ∀ (v1 : Int32) (sg : Nat → Nat → Int32) (w : Int64), r v1 n (mput G0 mo sg w) = Option.map (fun z => (z.1, n, mput G0 mo z.2.1 z.2.2)) (r1 v1 sg w)) ?_ ?_ K
  · intro v1 sg w
    rfl
  · intro rec26 prec26 hrec26 v1 sg w
    unfold b_X11_undo_26 pb_X11_undo_26
    refine q_ite ?_ ?_
    · refine q_gI 5 rfl ?_
      rfl
    · refine q_gR 1 1 rfl ?_
      refine q_gR 4 4 rfl ?_
      refine q_gI 5 rfl ?_
      refine q_aI rfl rfl (by decide) (fun x3 => ?_)
      refine q_aS rfl rfl (by decide) (fun sg4 => ?_)
      exact hrec26 _ _ _
set_option maxRecDepth 100000 in
set_option maxHeartbeats 4000000 in
theorem e_X11_undo {F : Nat} {G0 : GH} {mo n : Nat}  {sg : Nat → Nat → Int32} {w : Int64} : f_X11_undo F mo  n (mput G0 mo sg w) = Option.map (fun z => (z.1, n, mput G0 mo z.2.1 z.2.2)) (p_X11_undo F  sg w) := by
  unfold f_X11_undo p_X11_undo
  refine q_pI 0 (mp_0 _ _ _ _) (fun sg1 => ?_)
  refine q_gI 5 rfl ?_
  refine q_ite ?_ ?_
  · rfl
  · refine q_gI 5 rfl ?_
    refine q_pI 5 (mp_5 _ _ _ _) (fun sg2 => ?_)
    exact el_X11_undo_26  _ _ _ _
/-! X11_valueMany -/
def pb_X11_valueMany_4 (F : Nat)   (sg : Nat → Nat → Int32) (w : Int64) (prec4 : Int32 → Int32 → Option (Int32)) : Int32 → Int32 → Option (Int32) := fun v1 v2 =>
  Option.bind (mI sg 1 4470 (206 : Int32)) (fun (x1 : Int32) =>
  if x1 ≤ v2 then
  (some v1)
  else (Option.bind (p_X11_its F v2 (2 : Int32) sg w) (fun (x2 : Int32) =>
  gnm (v1 + x2) (fun (y3 : Int32) =>
  prec4 y3 (v2 + 1)))))
def p_X11_valueMany (F : Nat)  (sg : Nat → Nat → Int32) (w : Int64) : Option (Int32) :=
  fixN (fun _ _ => none) (pb_X11_valueMany_4 F   sg w) F (0 : Int32) (0 : Int32)
set_option maxRecDepth 100000 in
set_option maxHeartbeats 4000000 in
theorem el_X11_valueMany_4 {F : Nat} {G0 : GH} {mo : Nat}    {sg : Nat → Nat → Int32} {w : Int64} : ∀ (K : Nat) (v1 : Int32) (v2 : Int32), fixN ((fun _ _ => none) : Int32 → Int32 → Option (Int32)) (b_X11_valueMany_4 F  mo (mput G0 mo sg w)) K v1 v2 = Option.map (fun z => z) (fixN ((fun _ _ => none) : Int32 → Int32 → Option (Int32)) (pb_X11_valueMany_4 F   sg w) K v1 v2) := by
  intro K
  refine fixN_ind2 (P := fun (r : Int32 → Int32 → Option (Int32)) (r1 : Int32 → Int32 → Option (Int32)) => ∀ (v1 : Int32) (v2 : Int32), r v1 v2 = Option.map (fun z => z) (r1 v1 v2)) ?_ ?_ K
  · intro v1 v2
    rfl
  · intro rec4 prec4 hrec4 v1 v2
    unfold b_X11_valueMany_4 pb_X11_valueMany_4
    refine q_gR 1 1 rfl ?_
    refine q_aI rfl rfl (by decide) (fun x1 => ?_)
    refine q_ite ?_ ?_
    · rfl
    · refine q_cvP (e_X11_its) (fun x2 => ?_)
      refine q_nm (fun y3 => ?_)
      exact hrec4 _ _
set_option maxRecDepth 100000 in
set_option maxHeartbeats 4000000 in
theorem e_X11_valueMany {F : Nat} {G0 : GH} {mo : Nat}  {sg : Nat → Nat → Int32} {w : Int64} : f_X11_valueMany F mo  (mput G0 mo sg w) = p_X11_valueMany F  sg w := by
  refine Eq.trans ?_ (q_mid _)
  unfold f_X11_valueMany p_X11_valueMany
  exact el_X11_valueMany_4  _ _ _
/-! X11_madeMany -/
def pb_X11_madeMany_4 (F : Nat)   (sg : Nat → Nat → Int32) (w : Int64) (prec4 : Int32 → Int32 → Option (Int32)) : Int32 → Int32 → Option (Int32) := fun v1 v2 =>
  if (12 : Int32) ≤ v2 then
  (some v1)
  else (Option.bind (mI sg 1 4470 ((133 : Int32) + v2)) (fun (x1 : Int32) =>
  gnm (v1 + x1) (fun (y2 : Int32) =>
  prec4 y2 (v2 + 1))))
def p_X11_madeMany (F : Nat)  (sg : Nat → Nat → Int32) (w : Int64) : Option (Int32) :=
  fixN (fun _ _ => none) (pb_X11_madeMany_4 F   sg w) F (0 : Int32) (0 : Int32)
set_option maxRecDepth 100000 in
set_option maxHeartbeats 4000000 in
theorem el_X11_madeMany_4 {F : Nat} {G0 : GH} {mo : Nat}    {sg : Nat → Nat → Int32} {w : Int64} : ∀ (K : Nat) (v1 : Int32) (v2 : Int32), fixN ((fun _ _ => none) : Int32 → Int32 → Option (Int32)) (b_X11_madeMany_4 F  mo (mput G0 mo sg w)) K v1 v2 = Option.map (fun z => z) (fixN ((fun _ _ => none) : Int32 → Int32 → Option (Int32)) (pb_X11_madeMany_4 F   sg w) K v1 v2) := by
  intro K
  refine fixN_ind2 (P := fun (r : Int32 → Int32 → Option (Int32)) (r1 : Int32 → Int32 → Option (Int32)) => ∀ (v1 : Int32) (v2 : Int32), r v1 v2 = Option.map (fun z => z) (r1 v1 v2)) ?_ ?_ K
  · intro v1 v2
    rfl
  · intro rec4 prec4 hrec4 v1 v2
    unfold b_X11_madeMany_4 pb_X11_madeMany_4
    refine q_ite ?_ ?_
    · rfl
    · refine q_gR 1 1 rfl ?_
      refine q_aI rfl rfl (by decide) (fun x1 => ?_)
      refine q_nm (fun y2 => ?_)
      exact hrec4 _ _
set_option maxRecDepth 100000 in
set_option maxHeartbeats 4000000 in
theorem e_X11_madeMany {F : Nat} {G0 : GH} {mo : Nat}  {sg : Nat → Nat → Int32} {w : Int64} : f_X11_madeMany F mo  (mput G0 mo sg w) = p_X11_madeMany F  sg w := by
  refine Eq.trans ?_ (q_mid _)
  unfold f_X11_madeMany p_X11_madeMany
  exact el_X11_madeMany_4  _ _ _
/-! X11_standMany -/
def pb_X11_standMany_4 (F : Nat)   (sg : Nat → Nat → Int32) (w : Int64) (prec4 : Int32 → Int32 → Option (Int32)) : Int32 → Int32 → Option (Int32) := fun v1 v2 =>
  if (60 : Int32) ≤ v2 then
  (some v1)
  else (Option.bind (mI sg 1 4470 ((146 : Int32) + v2)) (fun (x1 : Int32) =>
  if x1 ≤ 0 then
  (gnm (v1 + (0 : Int32)) (fun (y2 : Int32) =>
  prec4 y2 (v2 + 1)))
  else (gnm (v1 + (1 : Int32)) (fun (y3 : Int32) =>
  prec4 y3 (v2 + 1)))))
def p_X11_standMany (F : Nat)  (sg : Nat → Nat → Int32) (w : Int64) : Option (Int32) :=
  fixN (fun _ _ => none) (pb_X11_standMany_4 F   sg w) F (0 : Int32) (0 : Int32)
set_option maxRecDepth 100000 in
set_option maxHeartbeats 4000000 in
theorem el_X11_standMany_4 {F : Nat} {G0 : GH} {mo : Nat}    {sg : Nat → Nat → Int32} {w : Int64} : ∀ (K : Nat) (v1 : Int32) (v2 : Int32), fixN ((fun _ _ => none) : Int32 → Int32 → Option (Int32)) (b_X11_standMany_4 F  mo (mput G0 mo sg w)) K v1 v2 = Option.map (fun z => z) (fixN ((fun _ _ => none) : Int32 → Int32 → Option (Int32)) (pb_X11_standMany_4 F   sg w) K v1 v2) := by
  intro K
  refine fixN_ind2 (P := fun (r : Int32 → Int32 → Option (Int32)) (r1 : Int32 → Int32 → Option (Int32)) => ∀ (v1 : Int32) (v2 : Int32), r v1 v2 = Option.map (fun z => z) (r1 v1 v2)) ?_ ?_ K
  · intro v1 v2
    rfl
  · intro rec4 prec4 hrec4 v1 v2
    unfold b_X11_standMany_4 pb_X11_standMany_4
    refine q_ite ?_ ?_
    · rfl
    · refine q_gR 1 1 rfl ?_
      refine q_aI rfl rfl (by decide) (fun x1 => ?_)
      refine q_ite ?_ ?_
      · refine q_nm (fun y2 => ?_)
        exact hrec4 _ _
      · refine q_nm (fun y3 => ?_)
        exact hrec4 _ _
set_option maxRecDepth 100000 in
set_option maxHeartbeats 4000000 in
theorem e_X11_standMany {F : Nat} {G0 : GH} {mo : Nat}  {sg : Nat → Nat → Int32} {w : Int64} : f_X11_standMany F mo  (mput G0 mo sg w) = p_X11_standMany F  sg w := by
  refine Eq.trans ?_ (q_mid _)
  unfold f_X11_standMany p_X11_standMany
  exact el_X11_standMany_4  _ _ _
/-! X11_count -/
def p_X11_count (F : Nat) (v1 : Int32) (sg : Nat → Nat → Int32) (w : Int64) : Option (Int32 × (Nat → Nat → Int32) × Int64) :=
  gnm (up2 sg 0 0 (0 : Int32)) (fun (sg1 : Nat → Nat → Int32) =>
  g_sw v1 [Option.bind (mI sg1 1 4470 (0 : Int32)) (fun (x2 : Int32) =>
  some (x2, sg1, w)),
  Option.bind (mI sg1 1 4470 (145 : Int32)) (fun (x3 : Int32) =>
  some (x3, sg1, w)),
  Option.bind (mI sg1 1 4470 (206 : Int32)) (fun (x4 : Int32) =>
  some (x4, sg1, w)),
  Option.bind (p_X11_valueMany F  sg1 w) (fun (x5 : Int32) =>
  some (x5, sg1, w)),
  Option.bind (p_X11_madeMany F  sg1 w) (fun (x6 : Int32) =>
  some (x6, sg1, w)),
  Option.bind (p_X11_standMany F  sg1 w) (fun (x7 : Int32) =>
  some (x7, sg1, w)),
  some (sg1 0 5, sg1, w),
  Option.bind (mI sg1 1 4470 (891 : Int32)) (fun (x8 : Int32) =>
  some (x8, sg1, w)),
  Option.bind (mI sg1 1 4470 (748 : Int32)) (fun (x9 : Int32) =>
  some (x9, sg1, w)),
  Option.bind (mI sg1 1 4470 (809 : Int32)) (fun (x10 : Int32) =>
  some (x10, sg1, w)),
  Option.bind (mI sg1 1 4470 (810 : Int32)) (fun (x11 : Int32) =>
  some (x11, sg1, w))] (some ((-1 : Int32), sg1, w)) 0)
set_option maxRecDepth 100000 in
set_option maxHeartbeats 4000000 in
theorem e_X11_count {F : Nat} {G0 : GH} {mo n : Nat} {v1 : Int32} {sg : Nat → Nat → Int32} {w : Int64} : f_X11_count F mo v1 n (mput G0 mo sg w) = Option.map (fun z => (z.1, n, mput G0 mo z.2.1 z.2.2)) (p_X11_count F v1 sg w) := by
  unfold f_X11_count p_X11_count
  refine q_pI 0 (mp_0 _ _ _ _) (fun sg1 => ?_)
  refine q_swc ?_ (q_swc ?_ (q_swc ?_ (q_swc ?_ (q_swc ?_ (q_swc ?_ (q_swc ?_ (q_swc ?_ (q_swc ?_ (q_swc ?_ (q_swc ?_ (q_swn ?_)))))))))))
  · refine q_gR 1 1 rfl ?_
    refine q_aI rfl rfl (by decide) (fun x2 => ?_)
    rfl
  · refine q_gR 1 1 rfl ?_
    refine q_aI rfl rfl (by decide) (fun x3 => ?_)
    rfl
  · refine q_gR 1 1 rfl ?_
    refine q_aI rfl rfl (by decide) (fun x4 => ?_)
    rfl
  · refine q_cvP (e_X11_valueMany) (fun x5 => ?_)
    rfl
  · refine q_cvP (e_X11_madeMany) (fun x6 => ?_)
    rfl
  · refine q_cvP (e_X11_standMany) (fun x7 => ?_)
    rfl
  · refine q_gI 5 rfl ?_
    rfl
  · refine q_gR 1 1 rfl ?_
    refine q_aI rfl rfl (by decide) (fun x8 => ?_)
    rfl
  · refine q_gR 1 1 rfl ?_
    refine q_aI rfl rfl (by decide) (fun x9 => ?_)
    rfl
  · refine q_gR 1 1 rfl ?_
    refine q_aI rfl rfl (by decide) (fun x10 => ?_)
    rfl
  · refine q_gR 1 1 rfl ?_
    refine q_aI rfl rfl (by decide) (fun x11 => ?_)
    rfl
  · rfl
/-! X11_thingsOf -/
def pb_X11_thingsOf_4 (F : Nat)  (v1 : Int32) (sg : Nat → Nat → Int32) (w : Int64) (prec4 : Int32 → Int32 → Option (Int32)) : Int32 → Int32 → Option (Int32) := fun v2 v3 =>
  Option.bind (mI sg 1 4470 (206 : Int32)) (fun (x1 : Int32) =>
  if x1 ≤ v3 then
  (some v2)
  else (Option.bind (p_X11_its F v3 (0 : Int32) sg w) (fun (x2 : Int32) =>
  if x2 = v1 then
  (gnm (v2 + (1 : Int32)) (fun (y4 : Int32) =>
  prec4 y4 (v3 + 1)))
  else (gnm (v2 + (0 : Int32)) (fun (y3 : Int32) =>
  prec4 y3 (v3 + 1))))))
def p_X11_thingsOf (F : Nat) (v1 : Int32) (sg : Nat → Nat → Int32) (w : Int64) : Option (Int32) :=
  fixN (fun _ _ => none) (pb_X11_thingsOf_4 F  v1 sg w) F (0 : Int32) (0 : Int32)
set_option maxRecDepth 100000 in
set_option maxHeartbeats 4000000 in
theorem el_X11_thingsOf_4 {F : Nat} {G0 : GH} {mo : Nat}   {v1 : Int32} {sg : Nat → Nat → Int32} {w : Int64} : ∀ (K : Nat) (v2 : Int32) (v3 : Int32), fixN ((fun _ _ => none) : Int32 → Int32 → Option (Int32)) (b_X11_thingsOf_4 F  mo v1 (mput G0 mo sg w)) K v2 v3 = Option.map (fun z => z) (fixN ((fun _ _ => none) : Int32 → Int32 → Option (Int32)) (pb_X11_thingsOf_4 F  v1 sg w) K v2 v3) := by
  intro K
  refine fixN_ind2 (P := fun (r : Int32 → Int32 → Option (Int32)) (r1 : Int32 → Int32 → Option (Int32)) => ∀ (v2 : Int32) (v3 : Int32), r v2 v3 = Option.map (fun z => z) (r1 v2 v3)) ?_ ?_ K
  · intro v2 v3
    rfl
  · intro rec4 prec4 hrec4 v2 v3
    unfold b_X11_thingsOf_4 pb_X11_thingsOf_4
    refine q_gR 1 1 rfl ?_
    refine q_aI rfl rfl (by decide) (fun x1 => ?_)
    refine q_ite ?_ ?_
    · rfl
    · refine q_cvP (e_X11_its) (fun x2 => ?_)
      refine q_ite ?_ ?_
      · refine q_nm (fun y4 => ?_)
        exact hrec4 _ _
      · refine q_nm (fun y3 => ?_)
        exact hrec4 _ _
set_option maxRecDepth 100000 in
set_option maxHeartbeats 4000000 in
theorem e_X11_thingsOf {F : Nat} {G0 : GH} {mo : Nat} {v1 : Int32} {sg : Nat → Nat → Int32} {w : Int64} : f_X11_thingsOf F mo v1 (mput G0 mo sg w) = p_X11_thingsOf F v1 sg w := by
  refine Eq.trans ?_ (q_mid _)
  unfold f_X11_thingsOf p_X11_thingsOf
  exact el_X11_thingsOf_4  _ _ _
/-! X11_part -/
def pk_X11_part_24 (F : Nat)  (v1 : Int32) (v2 : Int32) (s1 : Int32) (sg : Nat → Nat → Int32) (w : Int64) : Option (Int32 × (Nat → Nat → Int32) × Int64) :=
  gnm (up2 sg 0 0 s1) (fun (sg2 : Nat → Nat → Int32) =>
  if (sg2 0 0) ≤ 0 then
  (g_sw v2 [Option.bind (p_X11_of F v1 (0 : Int32) sg2 w) (fun (x3 : Int32) =>
  some (x3, sg2, w)),
  Option.bind (p_X11_of F v1 (1 : Int32) sg2 w) (fun (x4 : Int32) =>
  some (x4, sg2, w)),
  Option.bind (p_X11_of F v1 (2 : Int32) sg2 w) (fun (x5 : Int32) =>
  some (x5, sg2, w)),
  Option.bind (p_X11_of F v1 (8 : Int32) sg2 w) (fun (x6 : Int32) =>
  some (x6, sg2, w)),
  Option.bind (p_X11_of F v1 (9 : Int32) sg2 w) (fun (x7 : Int32) =>
  some (x7, sg2, w)),
  Option.bind (p_X11_of F v1 (10 : Int32) sg2 w) (fun (x8 : Int32) =>
  some (x8, sg2, w)),
  Option.bind (mI sg2 1 4470 ((133 : Int32) + v1)) (fun (x9 : Int32) =>
  some (x9, sg2, w)),
  Option.bind (p_X11_of F v1 (7 : Int32) sg2 w) (fun (x10 : Int32) =>
  some (x10, sg2, w))] (Option.bind (p_X11_thingsOf F v1 sg2 w) (fun (x11 : Int32) =>
  some (x11, sg2, w))) 0)
  else (some ((0 : Int32), sg2, w)))
def pk_X11_part_23 (F : Nat)  (v1 : Int32) (v2 : Int32)  (sg : Nat → Nat → Int32) (w : Int64) : Option (Int32 × (Nat → Nat → Int32) × Int64) :=
  pk_X11_part_24 F  v1 v2 (1 : Int32) sg w
def p_X11_part (F : Nat) (v1 : Int32) (v2 : Int32) (sg : Nat → Nat → Int32) (w : Int64) : Option (Int32 × (Nat → Nat → Int32) × Int64) :=
  Option.bind (p_X11_isPart F v1 sg w) (fun (x1 : Int32) =>
  if x1 = 0 then
  (pk_X11_part_23 F  v1 v2 sg w)
  else (Option.bind (p_X11_in F v2 (0 : Int32) (8 : Int32)) (fun (x12 : Int32) =>
  if x12 = 0 then
  (pk_X11_part_23 F  v1 v2 sg w)
  else (pk_X11_part_24 F  v1 v2 (0 : Int32) sg w))))
set_option maxRecDepth 100000 in
set_option maxHeartbeats 4000000 in
theorem ec_X11_part_24 {F : Nat} {G0 : GH} {mo n : Nat}   {v1 : Int32} {v2 : Int32} {s1 : Int32} {sg : Nat → Nat → Int32} {w : Int64} : k_X11_part_24 F  mo v1 v2 mo s1 n (mput G0 mo sg w) = Option.map (fun z => (z.1, n, mput G0 mo z.2.1 z.2.2)) (pk_X11_part_24 F  v1 v2 s1 sg w) := by
  unfold k_X11_part_24 pk_X11_part_24
  refine q_pI 0 (mp_0 _ _ _ _) (fun sg2 => ?_)
  refine q_gI 0 rfl ?_
  refine q_ite ?_ ?_
  · refine q_swc ?_ (q_swc ?_ (q_swc ?_ (q_swc ?_ (q_swc ?_ (q_swc ?_ (q_swc ?_ (q_swc ?_ (q_swn ?_))))))))
    · refine q_cvP (e_X11_of) (fun x3 => ?_)
      rfl
    · refine q_cvP (e_X11_of) (fun x4 => ?_)
      rfl
    · refine q_cvP (e_X11_of) (fun x5 => ?_)
      rfl
    · refine q_cvP (e_X11_of) (fun x6 => ?_)
      rfl
    · refine q_cvP (e_X11_of) (fun x7 => ?_)
      rfl
    · refine q_cvP (e_X11_of) (fun x8 => ?_)
      rfl
    · refine q_gR 1 1 rfl ?_
      refine q_aI rfl rfl (by decide) (fun x9 => ?_)
      rfl
    · refine q_cvP (e_X11_of) (fun x10 => ?_)
      rfl
    · refine q_cvP (e_X11_thingsOf) (fun x11 => ?_)
      rfl
  · rfl
set_option maxRecDepth 100000 in
set_option maxHeartbeats 4000000 in
theorem ec_X11_part_23 {F : Nat} {G0 : GH} {mo n : Nat}   {v1 : Int32} {v2 : Int32}  {sg : Nat → Nat → Int32} {w : Int64} : k_X11_part_23 F  mo v1 v2 mo n (mput G0 mo sg w) = Option.map (fun z => (z.1, n, mput G0 mo z.2.1 z.2.2)) (pk_X11_part_23 F  v1 v2  sg w) := by
  unfold k_X11_part_23 pk_X11_part_23
  exact ec_X11_part_24 
set_option maxRecDepth 100000 in
set_option maxHeartbeats 4000000 in
theorem e_X11_part {F : Nat} {G0 : GH} {mo n : Nat} {v1 : Int32} {v2 : Int32} {sg : Nat → Nat → Int32} {w : Int64} : f_X11_part F mo v1 v2 n (mput G0 mo sg w) = Option.map (fun z => (z.1, n, mput G0 mo z.2.1 z.2.2)) (p_X11_part F v1 v2 sg w) := by
  unfold f_X11_part p_X11_part
  refine q_cvP (e_X11_isPart) (fun x1 => ?_)
  refine q_ite ?_ ?_
  · exact ec_X11_part_23 
  · refine q_bd (e_X11_in) (fun x12 => ?_)
    refine q_ite ?_ ?_
    · exact ec_X11_part_23 
    · exact ec_X11_part_24 
/-! X11_need -/
def p_X11_need (F : Nat) (v1 : Int32) (v2 : Int32) (sg : Nat → Nat → Int32) (w : Int64) : Option (Int32 × (Nat → Nat → Int32) × Int64) :=
  gnm (up2 sg 0 0 (0 : Int32)) (fun (sg1 : Nat → Nat → Int32) =>
  Option.bind (p_X11_isPart F v1 sg1 w) (fun (x2 : Int32) =>
  if x2 = 0 then
  (some ((-1 : Int32), sg1, w))
  else (Option.bind (p_X11_of F v1 (2 : Int32) sg1 w) (fun (x3 : Int32) =>
  Option.bind (p_X11_in F v2 (0 : Int32) (x3 - (1 : Int32))) (fun (x4 : Int32) =>
  if x4 = 0 then
  (some ((-1 : Int32), sg1, w))
  else (Option.bind (p_X11_of F v1 ((3 : Int32) + v2) sg1 w) (fun (x5 : Int32) =>
  some (x5, sg1, w))))))))
set_option maxRecDepth 100000 in
set_option maxHeartbeats 4000000 in
theorem e_X11_need {F : Nat} {G0 : GH} {mo n : Nat} {v1 : Int32} {v2 : Int32} {sg : Nat → Nat → Int32} {w : Int64} : f_X11_need F mo v1 v2 n (mput G0 mo sg w) = Option.map (fun z => (z.1, n, mput G0 mo z.2.1 z.2.2)) (p_X11_need F v1 v2 sg w) := by
  unfold f_X11_need p_X11_need
  refine q_pI 0 (mp_0 _ _ _ _) (fun sg1 => ?_)
  refine q_cvP (e_X11_isPart) (fun x2 => ?_)
  refine q_ite ?_ ?_
  · rfl
  · refine q_cvP (e_X11_of) (fun x3 => ?_)
    refine q_bd (e_X11_in) (fun x4 => ?_)
    refine q_ite ?_ ?_
    · rfl
    · refine q_cvP (e_X11_of) (fun x5 => ?_)
      rfl
/-! X11_hasMany -/
def pb_X11_hasMany_4 (F : Nat)  (v1 : Int32) (sg : Nat → Nat → Int32) (w : Int64) (prec4 : Int32 → Int32 → Option (Int32)) : Int32 → Int32 → Option (Int32) := fun v2 v3 =>
  if (4 : Int32) ≤ v3 then
  (some v2)
  else (Option.bind (p_X11_its F v1 ((4 : Int32) + v3) sg w) (fun (x1 : Int32) =>
  if x1 ≤ 0 then
  (gnm (v2 + (0 : Int32)) (fun (y2 : Int32) =>
  prec4 y2 (v3 + 1)))
  else (gnm (v2 + (1 : Int32)) (fun (y3 : Int32) =>
  prec4 y3 (v3 + 1)))))
def p_X11_hasMany (F : Nat) (v1 : Int32) (sg : Nat → Nat → Int32) (w : Int64) : Option (Int32) :=
  fixN (fun _ _ => none) (pb_X11_hasMany_4 F  v1 sg w) F (0 : Int32) (0 : Int32)
set_option maxRecDepth 100000 in
set_option maxHeartbeats 4000000 in
theorem el_X11_hasMany_4 {F : Nat} {G0 : GH} {mo : Nat}   {v1 : Int32} {sg : Nat → Nat → Int32} {w : Int64} : ∀ (K : Nat) (v2 : Int32) (v3 : Int32), fixN ((fun _ _ => none) : Int32 → Int32 → Option (Int32)) (b_X11_hasMany_4 F  mo v1 (mput G0 mo sg w)) K v2 v3 = Option.map (fun z => z) (fixN ((fun _ _ => none) : Int32 → Int32 → Option (Int32)) (pb_X11_hasMany_4 F  v1 sg w) K v2 v3) := by
  intro K
  refine fixN_ind2 (P := fun (r : Int32 → Int32 → Option (Int32)) (r1 : Int32 → Int32 → Option (Int32)) => ∀ (v2 : Int32) (v3 : Int32), r v2 v3 = Option.map (fun z => z) (r1 v2 v3)) ?_ ?_ K
  · intro v2 v3
    rfl
  · intro rec4 prec4 hrec4 v2 v3
    unfold b_X11_hasMany_4 pb_X11_hasMany_4
    refine q_ite ?_ ?_
    · rfl
    · refine q_cvP (e_X11_its) (fun x1 => ?_)
      refine q_ite ?_ ?_
      · refine q_nm (fun y2 => ?_)
        exact hrec4 _ _
      · refine q_nm (fun y3 => ?_)
        exact hrec4 _ _
set_option maxRecDepth 100000 in
set_option maxHeartbeats 4000000 in
theorem e_X11_hasMany {F : Nat} {G0 : GH} {mo : Nat} {v1 : Int32} {sg : Nat → Nat → Int32} {w : Int64} : f_X11_hasMany F mo v1 (mput G0 mo sg w) = p_X11_hasMany F v1 sg w := by
  refine Eq.trans ?_ (q_mid _)
  unfold f_X11_hasMany p_X11_hasMany
  exact el_X11_hasMany_4  _ _ _
/-! X11_thing -/
def pk_X11_thing_23 (F : Nat)  (v1 : Int32) (v2 : Int32) (s1 : Int32) (sg : Nat → Nat → Int32) (w : Int64) : Option (Int32 × (Nat → Nat → Int32) × Int64) :=
  gnm (up2 sg 0 0 s1) (fun (sg2 : Nat → Nat → Int32) =>
  if (sg2 0 0) ≤ 0 then
  (if (4 : Int32) ≤ v2 then
  (Option.bind (p_X11_hasMany F v1 sg2 w) (fun (x3 : Int32) =>
  some (x3, sg2, w)))
  else (Option.bind (p_X11_its F v1 v2 sg2 w) (fun (x4 : Int32) =>
  some (x4, sg2, w))))
  else (some ((0 : Int32), sg2, w)))
def pk_X11_thing_22 (F : Nat)  (v1 : Int32) (v2 : Int32)  (sg : Nat → Nat → Int32) (w : Int64) : Option (Int32 × (Nat → Nat → Int32) × Int64) :=
  pk_X11_thing_23 F  v1 v2 (1 : Int32) sg w
def p_X11_thing (F : Nat) (v1 : Int32) (v2 : Int32) (sg : Nat → Nat → Int32) (w : Int64) : Option (Int32 × (Nat → Nat → Int32) × Int64) :=
  Option.bind (p_X11_isThing F v1 sg w) (fun (x1 : Int32) =>
  if x1 = 0 then
  (pk_X11_thing_22 F  v1 v2 sg w)
  else (Option.bind (p_X11_in F v2 (0 : Int32) (4 : Int32)) (fun (x5 : Int32) =>
  if x5 = 0 then
  (pk_X11_thing_22 F  v1 v2 sg w)
  else (pk_X11_thing_23 F  v1 v2 (0 : Int32) sg w))))
set_option maxRecDepth 100000 in
set_option maxHeartbeats 4000000 in
theorem ec_X11_thing_23 {F : Nat} {G0 : GH} {mo n : Nat}   {v1 : Int32} {v2 : Int32} {s1 : Int32} {sg : Nat → Nat → Int32} {w : Int64} : k_X11_thing_23 F  mo v1 v2 mo s1 n (mput G0 mo sg w) = Option.map (fun z => (z.1, n, mput G0 mo z.2.1 z.2.2)) (pk_X11_thing_23 F  v1 v2 s1 sg w) := by
  unfold k_X11_thing_23 pk_X11_thing_23
  refine q_pI 0 (mp_0 _ _ _ _) (fun sg2 => ?_)
  refine q_gI 0 rfl ?_
  refine q_ite ?_ ?_
  · refine q_ite ?_ ?_
    · refine q_cvP (e_X11_hasMany) (fun x3 => ?_)
      rfl
    · refine q_cvP (e_X11_its) (fun x4 => ?_)
      rfl
  · rfl
set_option maxRecDepth 100000 in
set_option maxHeartbeats 4000000 in
theorem ec_X11_thing_22 {F : Nat} {G0 : GH} {mo n : Nat}   {v1 : Int32} {v2 : Int32}  {sg : Nat → Nat → Int32} {w : Int64} : k_X11_thing_22 F  mo v1 v2 mo n (mput G0 mo sg w) = Option.map (fun z => (z.1, n, mput G0 mo z.2.1 z.2.2)) (pk_X11_thing_22 F  v1 v2  sg w) := by
  unfold k_X11_thing_22 pk_X11_thing_22
  exact ec_X11_thing_23 
set_option maxRecDepth 100000 in
set_option maxHeartbeats 4000000 in
theorem e_X11_thing {F : Nat} {G0 : GH} {mo n : Nat} {v1 : Int32} {v2 : Int32} {sg : Nat → Nat → Int32} {w : Int64} : f_X11_thing F mo v1 v2 n (mput G0 mo sg w) = Option.map (fun z => (z.1, n, mput G0 mo z.2.1 z.2.2)) (p_X11_thing F v1 v2 sg w) := by
  unfold f_X11_thing p_X11_thing
  refine q_cvP (e_X11_isThing) (fun x1 => ?_)
  refine q_ite ?_ ?_
  · exact ec_X11_thing_22 
  · refine q_bd (e_X11_in) (fun x5 => ?_)
    refine q_ite ?_ ?_
    · exact ec_X11_thing_22 
    · exact ec_X11_thing_23 
/-! X11_has -/
def p_X11_has (F : Nat) (v1 : Int32) (v2 : Int32) (sg : Nat → Nat → Int32) (w : Int64) : Option (Int32 × (Nat → Nat → Int32) × Int64) :=
  gnm (up2 sg 0 0 (0 : Int32)) (fun (sg1 : Nat → Nat → Int32) =>
  Option.bind (p_X11_isThing F v1 sg1 w) (fun (x2 : Int32) =>
  if x2 = 0 then
  (some ((-1 : Int32), sg1, w))
  else (Option.bind (p_X11_in F v2 (0 : Int32) (3 : Int32)) (fun (x3 : Int32) =>
  if x3 = 0 then
  (some ((-1 : Int32), sg1, w))
  else (Option.bind (p_X11_its F v1 ((4 : Int32) + v2) sg1 w) (fun (x4 : Int32) =>
  some (x4 - (1 : Int32), sg1, w)))))))
set_option maxRecDepth 100000 in
set_option maxHeartbeats 4000000 in
theorem e_X11_has {F : Nat} {G0 : GH} {mo n : Nat} {v1 : Int32} {v2 : Int32} {sg : Nat → Nat → Int32} {w : Int64} : f_X11_has F mo v1 v2 n (mput G0 mo sg w) = Option.map (fun z => (z.1, n, mput G0 mo z.2.1 z.2.2)) (p_X11_has F v1 v2 sg w) := by
  unfold f_X11_has p_X11_has
  refine q_pI 0 (mp_0 _ _ _ _) (fun sg1 => ?_)
  refine q_cvP (e_X11_isThing) (fun x2 => ?_)
  refine q_ite ?_ ?_
  · rfl
  · refine q_bd (e_X11_in) (fun x3 => ?_)
    refine q_ite ?_ ?_
    · rfl
    · refine q_cvP (e_X11_its) (fun x4 => ?_)
      rfl
/-! X11_stands -/
def p_X11_stands (F : Nat) (v1 : Int32) (v2 : Int32) (sg : Nat → Nat → Int32) (w : Int64) : Option (Int32 × (Nat → Nat → Int32) × Int64) :=
  gnm (up2 sg 0 0 (0 : Int32)) (fun (sg1 : Nat → Nat → Int32) =>
  Option.bind (p_X11_isPart F v1 sg1 w) (fun (x2 : Int32) =>
  if x2 = 0 then
  (some ((-1 : Int32), sg1, w))
  else (Option.bind (mI sg1 1 4470 (145 : Int32)) (fun (x3 : Int32) =>
  Option.bind (p_X11_in F v2 (0 : Int32) x3) (fun (x4 : Int32) =>
  if x4 = 0 then
  (some ((-1 : Int32), sg1, w))
  else (Option.bind (p_X11_standsFor F v1 v2 sg1 w) (fun (x5 : Int32) =>
  some (x5, sg1, w))))))))
set_option maxRecDepth 100000 in
set_option maxHeartbeats 4000000 in
theorem e_X11_stands {F : Nat} {G0 : GH} {mo n : Nat} {v1 : Int32} {v2 : Int32} {sg : Nat → Nat → Int32} {w : Int64} : f_X11_stands F mo v1 v2 n (mput G0 mo sg w) = Option.map (fun z => (z.1, n, mput G0 mo z.2.1 z.2.2)) (p_X11_stands F v1 v2 sg w) := by
  unfold f_X11_stands p_X11_stands
  refine q_pI 0 (mp_0 _ _ _ _) (fun sg1 => ?_)
  refine q_cvP (e_X11_isPart) (fun x2 => ?_)
  refine q_ite ?_ ?_
  · rfl
  · refine q_gR 1 1 rfl ?_
    refine q_aI rfl rfl (by decide) (fun x3 => ?_)
    refine q_bd (e_X11_in) (fun x4 => ?_)
    refine q_ite ?_ ?_
    · rfl
    · refine q_cvP (e_X11_standsFor) (fun x5 => ?_)
      rfl
/-! X11_why -/
def p_X11_why (F : Nat) (v1 : Int32) (sg : Nat → Nat → Int32) (w : Int64) : Option (Int32 × (Nat → Nat → Int32) × Int64) :=
  gnm (up2 sg 0 0 (0 : Int32)) (fun (sg1 : Nat → Nat → Int32) =>
  Option.bind (mI sg1 1 4470 (809 : Int32)) (fun (x2 : Int32) =>
  Option.bind (p_X11_in F v1 (0 : Int32) (x2 - (1 : Int32))) (fun (x3 : Int32) =>
  if x3 = 0 then
  (some ((-1 : Int32), sg1, w))
  else (Option.bind (mI sg1 1 4470 ((811 : Int32) + v1)) (fun (x4 : Int32) =>
  some (x4, sg1, w))))))
set_option maxRecDepth 100000 in
set_option maxHeartbeats 4000000 in
theorem e_X11_why {F : Nat} {G0 : GH} {mo n : Nat} {v1 : Int32} {sg : Nat → Nat → Int32} {w : Int64} : f_X11_why F mo v1 n (mput G0 mo sg w) = Option.map (fun z => (z.1, n, mput G0 mo z.2.1 z.2.2)) (p_X11_why F v1 sg w) := by
  unfold f_X11_why p_X11_why
  refine q_pI 0 (mp_0 _ _ _ _) (fun sg1 => ?_)
  refine q_gR 1 1 rfl ?_
  refine q_aI rfl rfl (by decide) (fun x2 => ?_)
  refine q_bd (e_X11_in) (fun x3 => ?_)
  refine q_ite ?_ ?_
  · rfl
  · refine q_gR 1 1 rfl ?_
    refine q_aI rfl rfl (by decide) (fun x4 => ?_)
    rfl
/-! X11_ended -/
def p_X11_ended (F : Nat) (v1 : Int32) (v2 : Int32) (sg : Nat → Nat → Int32) (w : Int64) : Option (Int32 × (Nat → Nat → Int32) × Int64) :=
  gnm (up2 sg 0 0 (0 : Int32)) (fun (sg1 : Nat → Nat → Int32) =>
  if v2 = 0 then
  (Option.bind (mI sg1 1 4470 (687 : Int32)) (fun (x2 : Int32) =>
  Option.bind (p_X11_in F v1 (0 : Int32) (x2 - (1 : Int32))) (fun (x3 : Int32) =>
  if x3 = 0 then
  (some ((-1 : Int32), sg1, w))
  else (Option.bind (mI sg1 1 4470 ((688 : Int32) + v1)) (fun (x4 : Int32) =>
  some (x4, sg1, w))))))
  else (Option.bind (mI sg1 1 4470 (748 : Int32)) (fun (x5 : Int32) =>
  Option.bind (p_X11_in F v1 (0 : Int32) (x5 - (1 : Int32))) (fun (x6 : Int32) =>
  if x6 = 0 then
  (some ((-1 : Int32), sg1, w))
  else (Option.bind (mI sg1 1 4470 ((749 : Int32) + v1)) (fun (x7 : Int32) =>
  some (x7, sg1, w)))))))
set_option maxRecDepth 100000 in
set_option maxHeartbeats 4000000 in
theorem e_X11_ended {F : Nat} {G0 : GH} {mo n : Nat} {v1 : Int32} {v2 : Int32} {sg : Nat → Nat → Int32} {w : Int64} : f_X11_ended F mo v1 v2 n (mput G0 mo sg w) = Option.map (fun z => (z.1, n, mput G0 mo z.2.1 z.2.2)) (p_X11_ended F v1 v2 sg w) := by
  unfold f_X11_ended p_X11_ended
  refine q_pI 0 (mp_0 _ _ _ _) (fun sg1 => ?_)
  refine q_ite ?_ ?_
  · refine q_gR 1 1 rfl ?_
    refine q_aI rfl rfl (by decide) (fun x2 => ?_)
    refine q_bd (e_X11_in) (fun x3 => ?_)
    refine q_ite ?_ ?_
    · rfl
    · refine q_gR 1 1 rfl ?_
      refine q_aI rfl rfl (by decide) (fun x4 => ?_)
      rfl
  · refine q_gR 1 1 rfl ?_
    refine q_aI rfl rfl (by decide) (fun x5 => ?_)
    refine q_bd (e_X11_in) (fun x6 => ?_)
    refine q_ite ?_ ?_
    · rfl
    · refine q_gR 1 1 rfl ?_
      refine q_aI rfl rfl (by decide) (fun x7 => ?_)
      rfl
/-! X11_mayStart -/
def pb_X11_mayStart_2 (F : Nat)  (v1 : Int32) (sg : Nat → Nat → Int32) (w : Int64) (prec2 : Int32 → Option (Int32)) : Int32 → Option (Int32) := fun v2 =>
  Option.bind (p_X11_of F v1 (2 : Int32) sg w) (fun (x1 : Int32) =>
  if x1 ≤ v2 then
  (rP .boolean (1 : Int32))
  else (Option.bind (p_X11_isLazy F v1 v2 sg w) (fun (x2 : Int32) =>
  if x2 = 0 then
  (Option.bind (p_X11_of F v1 ((3 : Int32) + v2) sg w) (fun (x3 : Int32) =>
  Option.bind (mI sg 18 12 x3) (fun (x4 : Int32) =>
  if x4 = (-1 : Int32) then
  (rP .boolean (0 : Int32))
  else (prec2 (v2 + 1)))))
  else (prec2 (v2 + 1)))))
def p_X11_mayStart (F : Nat) (v1 : Int32) (sg : Nat → Nat → Int32) (w : Int64) : Option (Int32) :=
  fixN (fun _ => none) (pb_X11_mayStart_2 F  v1 sg w) F (0 : Int32)
set_option maxRecDepth 100000 in
set_option maxHeartbeats 4000000 in
theorem el_X11_mayStart_2 {F : Nat} {G0 : GH} {mo : Nat}   {v1 : Int32} {sg : Nat → Nat → Int32} {w : Int64} : ∀ (K : Nat) (v2 : Int32), fixN ((fun _ => none) : Int32 → Option (Int32)) (b_X11_mayStart_2 F  mo v1 (mput G0 mo sg w)) K v2 = Option.map (fun z => z) (fixN ((fun _ => none) : Int32 → Option (Int32)) (pb_X11_mayStart_2 F  v1 sg w) K v2) := by
  intro K
  refine fixN_ind2 (P := fun (r : Int32 → Option (Int32)) (r1 : Int32 → Option (Int32)) => ∀ (v2 : Int32), r v2 = Option.map (fun z => z) (r1 v2)) ?_ ?_ K
  · intro v2
    rfl
  · intro rec2 prec2 hrec2 v2
    unfold b_X11_mayStart_2 pb_X11_mayStart_2
    refine q_cvP (e_X11_of) (fun x1 => ?_)
    refine q_ite ?_ ?_
    · exact q_id
    · refine q_cvP (e_X11_isLazy) (fun x2 => ?_)
      refine q_ite ?_ ?_
      · refine q_gR 33 18 rfl ?_
        refine q_cvP (e_X11_of) (fun x3 => ?_)
        refine q_aI rfl rfl (by decide) (fun x4 => ?_)
        refine q_ite ?_ ?_
        · exact q_id
        · exact hrec2 _
      · exact hrec2 _
set_option maxRecDepth 100000 in
set_option maxHeartbeats 4000000 in
theorem e_X11_mayStart {F : Nat} {G0 : GH} {mo : Nat} {v1 : Int32} {sg : Nat → Nat → Int32} {w : Int64} : f_X11_mayStart F mo v1 (mput G0 mo sg w) = p_X11_mayStart F v1 sg w := by
  refine Eq.trans ?_ (q_mid _)
  unfold f_X11_mayStart p_X11_mayStart
  exact el_X11_mayStart_2  _ _
/-! X11_waveOf -/
def pb_X11_waveOf_4 (F : Nat)  (v1 : Int32) (sg : Nat → Nat → Int32) (w : Int64) (prec4 : Int32 → Int32 → Option (Int32)) : Int32 → Int32 → Option (Int32) := fun v2 v3 =>
  Option.bind (p_X11_of F v1 (2 : Int32) sg w) (fun (x1 : Int32) =>
  if x1 ≤ v3 then
  (some v2)
  else (Option.bind (p_X11_isLazy F v1 v3 sg w) (fun (x2 : Int32) =>
  if x2 = 0 then
  (Option.bind (p_X11_of F v1 ((3 : Int32) + v3) sg w) (fun (x3 : Int32) =>
  Option.bind (mI sg 18 12 x3) (fun (x4 : Int32) =>
  if x4 < v2 then
  (prec4 v2 (v3 + 1))
  else (Option.bind (p_X11_of F v1 ((3 : Int32) + v3) sg w) (fun (x5 : Int32) =>
  Option.bind (mI sg 18 12 x5) (fun (x6 : Int32) =>
  gnm (x6 + (1 : Int32)) (fun (y7 : Int32) =>
  prec4 y7 (v3 + 1))))))))
  else (prec4 v2 (v3 + 1)))))
def p_X11_waveOf (F : Nat) (v1 : Int32) (sg : Nat → Nat → Int32) (w : Int64) : Option (Int32) :=
  fixN (fun _ _ => none) (pb_X11_waveOf_4 F  v1 sg w) F (0 : Int32) (0 : Int32)
set_option maxRecDepth 100000 in
set_option maxHeartbeats 4000000 in
theorem el_X11_waveOf_4 {F : Nat} {G0 : GH} {mo : Nat}   {v1 : Int32} {sg : Nat → Nat → Int32} {w : Int64} : ∀ (K : Nat) (v2 : Int32) (v3 : Int32), fixN ((fun _ _ => none) : Int32 → Int32 → Option (Int32)) (b_X11_waveOf_4 F  mo v1 (mput G0 mo sg w)) K v2 v3 = Option.map (fun z => z) (fixN ((fun _ _ => none) : Int32 → Int32 → Option (Int32)) (pb_X11_waveOf_4 F  v1 sg w) K v2 v3) := by
  intro K
  refine fixN_ind2 (P := fun (r : Int32 → Int32 → Option (Int32)) (r1 : Int32 → Int32 → Option (Int32)) => ∀ (v2 : Int32) (v3 : Int32), r v2 v3 = Option.map (fun z => z) (r1 v2 v3)) ?_ ?_ K
  · intro v2 v3
    rfl
  · intro rec4 prec4 hrec4 v2 v3
    unfold b_X11_waveOf_4 pb_X11_waveOf_4
    refine q_cvP (e_X11_of) (fun x1 => ?_)
    refine q_ite ?_ ?_
    · rfl
    · refine q_cvP (e_X11_isLazy) (fun x2 => ?_)
      refine q_ite ?_ ?_
      · refine q_gR 33 18 rfl ?_
        refine q_cvP (e_X11_of) (fun x3 => ?_)
        refine q_aI rfl rfl (by decide) (fun x4 => ?_)
        refine q_ite ?_ ?_
        · exact hrec4 _ _
        · refine q_gR 33 18 rfl ?_
          refine q_cvP (e_X11_of) (fun x5 => ?_)
          refine q_aI rfl rfl (by decide) (fun x6 => ?_)
          refine q_nm (fun y7 => ?_)
          exact hrec4 _ _
      · exact hrec4 _ _
set_option maxRecDepth 100000 in
set_option maxHeartbeats 4000000 in
theorem e_X11_waveOf {F : Nat} {G0 : GH} {mo : Nat} {v1 : Int32} {sg : Nat → Nat → Int32} {w : Int64} : f_X11_waveOf F mo v1 (mput G0 mo sg w) = p_X11_waveOf F v1 sg w := by
  refine Eq.trans ?_ (q_mid _)
  unfold f_X11_waveOf p_X11_waveOf
  exact el_X11_waveOf_4  _ _ _
/-! X11_laysOrder -/
def pk_X11_laysOrder_73 (F : Nat) (prec36 : Int32 → Int32 → (Nat → Nat → Int32) → Int64 → Option ((Nat → Nat → Int32) × Int64)) (v2 : Int32) (s0 : Int32) (sg : Nat → Nat → Int32) (w : Int64) : Option ((Nat → Nat → Int32) × Int64) :=
  if s0 = 0 then
  (prec36 s0 (v2 + 1) sg w)
  else (Option.bind (p_X11_waveOf F v2 sg w) (fun (x4 : Int32) =>
  Option.bind (mS sg 18 12 v2 x4) (fun (sg5 : Nat → Nat → Int32) =>
  Option.bind (mS sg5 17 12 (sg5 0 32) v2) (fun (sg6 : Nat → Nat → Int32) =>
  gnm (up2 sg6 0 32 ((sg6 0 32) + (1 : Int32))) (fun (sg7 : Nat → Nat → Int32) =>
  prec36 s0 (v2 + 1) sg7 w)))))
def pk_X11_laysOrder_72 (F : Nat) (prec36 : Int32 → Int32 → (Nat → Nat → Int32) → Int64 → Option ((Nat → Nat → Int32) × Int64)) (v2 : Int32)  (sg : Nat → Nat → Int32) (w : Int64) : Option ((Nat → Nat → Int32) × Int64) :=
  pk_X11_laysOrder_73 F prec36 v2 (0 : Int32) sg w
def pb_X11_laysOrder_36 (F : Nat) (prec28 : Int32 → (Nat → Nat → Int32) → Int64 → Option ((Nat → Nat → Int32) × Int64))  (prec36 : Int32 → Int32 → (Nat → Nat → Int32) → Int64 → Option ((Nat → Nat → Int32) × Int64)) : Int32 → Int32 → (Nat → Nat → Int32) → Int64 → Option ((Nat → Nat → Int32) × Int64) := fun v1 v2 sg w =>
  Option.bind (mI sg 1 4470 (0 : Int32)) (fun (x2 : Int32) =>
  if x2 ≤ v2 then
  (prec28 v1 sg w)
  else (if v1 = 0 then
  (Option.bind (mI sg 18 12 v2) (fun (x3 : Int32) =>
  if x3 = (-1 : Int32) then
  (Option.bind (p_X11_mayStart F v2 sg w) (fun (x8 : Int32) =>
  if x8 = 0 then
  (pk_X11_laysOrder_72 F prec36 v2 sg w)
  else (pk_X11_laysOrder_73 F prec36 v2 (1 : Int32) sg w)))
  else (pk_X11_laysOrder_72 F prec36 v2 sg w)))
  else (prec28 v1 sg w)))
def pb_X11_laysOrder_28 (F : Nat)   (prec28 : Int32 → (Nat → Nat → Int32) → Int64 → Option ((Nat → Nat → Int32) × Int64)) : Int32 → (Nat → Nat → Int32) → Int64 → Option ((Nat → Nat → Int32) × Int64) := fun v1 sg w =>
  if v1 = 0 then
  (some (sg, w))
  else (fixN (fun _ _ _ _ => none) (pb_X11_laysOrder_36 F prec28 ) F (0 : Int32) (0 : Int32) sg w)
def pk_X11_laysOrder_26 (F : Nat)    (sg : Nat → Nat → Int32) (w : Int64) : Option ((Nat → Nat → Int32) × Int64) :=
  fixN (fun _ _ _ => none) (pb_X11_laysOrder_28 F  ) F (1 : Int32) sg w
def pb_X11_laysOrder_7 (F : Nat)   (prec7 : Int32 → (Nat → Nat → Int32) → Int64 → Option ((Nat → Nat → Int32) × Int64)) : Int32 → (Nat → Nat → Int32) → Int64 → Option ((Nat → Nat → Int32) × Int64) := fun v1 sg w =>
  if (12 : Int32) ≤ v1 then
  (pk_X11_laysOrder_26 F  sg w)
  else (Option.bind (mS sg 18 12 v1 (-1 : Int32)) (fun (sg9 : Nat → Nat → Int32) =>
  prec7 (v1 + 1) sg9 w))
def p_X11_laysOrder (F : Nat)  (sg : Nat → Nat → Int32) (w : Int64) : Option ((Nat → Nat → Int32) × Int64) :=
  gnm (up2 sg 0 32 (0 : Int32)) (fun (sg1 : Nat → Nat → Int32) =>
  fixN (fun _ _ _ => none) (pb_X11_laysOrder_7 F  ) F (0 : Int32) sg1 w)
set_option maxRecDepth 100000 in
set_option maxHeartbeats 4000000 in
theorem ec_X11_laysOrder_73 {F : Nat} {G0 : GH} {mo n : Nat} {rec36 : Int32 → Int32 → Nat → GH → Option (Nat × GH)} {prec36 : Int32 → Int32 → (Nat → Nat → Int32) → Int64 → Option ((Nat → Nat → Int32) × Int64)} (hrec36 : ∀ (w1 : Int32) (w2 : Int32) (sg : Nat → Nat → Int32) (w : Int64), rec36 w1 w2 n (mput G0 mo sg w) = Option.map (fun z => (n, mput G0 mo z.1 z.2)) (prec36 w1 w2 sg w)) {v2 : Int32} {s0 : Int32} {sg : Nat → Nat → Int32} {w : Int64} : k_X11_laysOrder_73 F rec36 mo v2 s0 n (mput G0 mo sg w) = Option.map (fun z => (n, mput G0 mo z.1 z.2)) (pk_X11_laysOrder_73 F prec36 v2 s0 sg w) := by
  unfold k_X11_laysOrder_73 pk_X11_laysOrder_73
  refine q_ite ?_ ?_
  · exact hrec36 _ _ _ _
  · refine q_gR 33 18 rfl ?_
    refine q_cvP (e_X11_waveOf) (fun x4 => ?_)
    refine q_aS rfl rfl (by decide) (fun sg5 => ?_)
    refine q_gR 31 17 rfl ?_
    refine q_gI 32 rfl ?_
    refine q_aS rfl rfl (by decide) (fun sg6 => ?_)
    refine q_gI 32 rfl ?_
    refine q_pI 32 (mp_32 _ _ _ _) (fun sg7 => ?_)
    exact hrec36 _ _ _ _
set_option maxRecDepth 100000 in
set_option maxHeartbeats 4000000 in
theorem ec_X11_laysOrder_72 {F : Nat} {G0 : GH} {mo n : Nat} {rec36 : Int32 → Int32 → Nat → GH → Option (Nat × GH)} {prec36 : Int32 → Int32 → (Nat → Nat → Int32) → Int64 → Option ((Nat → Nat → Int32) × Int64)} (hrec36 : ∀ (w1 : Int32) (w2 : Int32) (sg : Nat → Nat → Int32) (w : Int64), rec36 w1 w2 n (mput G0 mo sg w) = Option.map (fun z => (n, mput G0 mo z.1 z.2)) (prec36 w1 w2 sg w)) {v2 : Int32}  {sg : Nat → Nat → Int32} {w : Int64} : k_X11_laysOrder_72 F rec36 mo v2  n (mput G0 mo sg w) = Option.map (fun z => (n, mput G0 mo z.1 z.2)) (pk_X11_laysOrder_72 F prec36 v2  sg w) := by
  unfold k_X11_laysOrder_72 pk_X11_laysOrder_72
  exact ec_X11_laysOrder_73 hrec36
set_option maxRecDepth 100000 in
set_option maxHeartbeats 4000000 in
theorem el_X11_laysOrder_36 {F : Nat} {G0 : GH} {mo n : Nat} {rec28 : Int32 → Nat → GH → Option (Nat × GH)} {prec28 : Int32 → (Nat → Nat → Int32) → Int64 → Option ((Nat → Nat → Int32) × Int64)} (hrec28 : ∀ (w1 : Int32) (sg : Nat → Nat → Int32) (w : Int64), rec28 w1 n (mput G0 mo sg w) = Option.map (fun z => (n, mput G0 mo z.1 z.2)) (prec28 w1 sg w))  : ∀ (K : Nat) (v1 : Int32) (v2 : Int32) (sg : Nat → Nat → Int32) (w : Int64), fixN ((fun _ _ _ _ => none) : Int32 → Int32 → Nat → GH → Option (Nat × GH)) (b_X11_laysOrder_36 F rec28 mo) K v1 v2 n (mput G0 mo sg w) = Option.map (fun z => (n, mput G0 mo z.1 z.2)) (fixN ((fun _ _ _ _ => none) : Int32 → Int32 → (Nat → Nat → Int32) → Int64 → Option ((Nat → Nat → Int32) × Int64)) (pb_X11_laysOrder_36 F prec28 ) K v1 v2 sg w) := by
  intro K
  refine fixN_ind2 (P := fun (r : Int32 → Int32 → Nat → GH → Option (Nat × GH)) (r1 : Int32 → Int32 → (Nat → Nat → Int32) → Int64 → Option ((Nat → Nat → Int32) × Int64)) => ∀ (v1 : Int32) (v2 : Int32) (sg : Nat → Nat → Int32) (w : Int64), r v1 v2 n (mput G0 mo sg w) = Option.map (fun z => (n, mput G0 mo z.1 z.2)) (r1 v1 v2 sg w)) ?_ ?_ K
  · intro v1 v2 sg w
    rfl
  · intro rec36 prec36 hrec36 v1 v2 sg w
    unfold b_X11_laysOrder_36 pb_X11_laysOrder_36
    refine q_gR 1 1 rfl ?_
    refine q_aI rfl rfl (by decide) (fun x2 => ?_)
    refine q_ite ?_ ?_
    · exact hrec28 _ _ _
    · refine q_ite ?_ ?_
      · refine q_gR 33 18 rfl ?_
        refine q_aI rfl rfl (by decide) (fun x3 => ?_)
        refine q_ite ?_ ?_
        · refine q_cvP (e_X11_mayStart) (fun x8 => ?_)
          refine q_ite ?_ ?_
          · exact ec_X11_laysOrder_72 hrec36
          · exact ec_X11_laysOrder_73 hrec36
        · exact ec_X11_laysOrder_72 hrec36
      · exact hrec28 _ _ _
set_option maxRecDepth 100000 in
set_option maxHeartbeats 4000000 in
theorem el_X11_laysOrder_28 {F : Nat} {G0 : GH} {mo n : Nat}    : ∀ (K : Nat) (v1 : Int32) (sg : Nat → Nat → Int32) (w : Int64), fixN ((fun _ _ _ => none) : Int32 → Nat → GH → Option (Nat × GH)) (b_X11_laysOrder_28 F  mo) K v1 n (mput G0 mo sg w) = Option.map (fun z => (n, mput G0 mo z.1 z.2)) (fixN ((fun _ _ _ => none) : Int32 → (Nat → Nat → Int32) → Int64 → Option ((Nat → Nat → Int32) × Int64)) (pb_X11_laysOrder_28 F  ) K v1 sg w) := by
  intro K
  refine fixN_ind2 (P := fun (r : Int32 → Nat → GH → Option (Nat × GH)) (r1 : Int32 → (Nat → Nat → Int32) → Int64 → Option ((Nat → Nat → Int32) × Int64)) => ∀ (v1 : Int32) (sg : Nat → Nat → Int32) (w : Int64), r v1 n (mput G0 mo sg w) = Option.map (fun z => (n, mput G0 mo z.1 z.2)) (r1 v1 sg w)) ?_ ?_ K
  · intro v1 sg w
    rfl
  · intro rec28 prec28 hrec28 v1 sg w
    unfold b_X11_laysOrder_28 pb_X11_laysOrder_28
    refine q_ite ?_ ?_
    · rfl
    · exact el_X11_laysOrder_36 hrec28 _ _ _ _ _
set_option maxRecDepth 100000 in
set_option maxHeartbeats 4000000 in
theorem ec_X11_laysOrder_26 {F : Nat} {G0 : GH} {mo n : Nat}     {sg : Nat → Nat → Int32} {w : Int64} : k_X11_laysOrder_26 F  mo  n (mput G0 mo sg w) = Option.map (fun z => (n, mput G0 mo z.1 z.2)) (pk_X11_laysOrder_26 F    sg w) := by
  unfold k_X11_laysOrder_26 pk_X11_laysOrder_26
  exact el_X11_laysOrder_28  _ _ _ _
set_option maxRecDepth 100000 in
set_option maxHeartbeats 4000000 in
theorem el_X11_laysOrder_7 {F : Nat} {G0 : GH} {mo n : Nat}    : ∀ (K : Nat) (v1 : Int32) (sg : Nat → Nat → Int32) (w : Int64), fixN ((fun _ _ _ => none) : Int32 → Nat → GH → Option (Nat × GH)) (b_X11_laysOrder_7 F  mo) K v1 n (mput G0 mo sg w) = Option.map (fun z => (n, mput G0 mo z.1 z.2)) (fixN ((fun _ _ _ => none) : Int32 → (Nat → Nat → Int32) → Int64 → Option ((Nat → Nat → Int32) × Int64)) (pb_X11_laysOrder_7 F  ) K v1 sg w) := by
  intro K
  refine fixN_ind2 (P := fun (r : Int32 → Nat → GH → Option (Nat × GH)) (r1 : Int32 → (Nat → Nat → Int32) → Int64 → Option ((Nat → Nat → Int32) × Int64)) => ∀ (v1 : Int32) (sg : Nat → Nat → Int32) (w : Int64), r v1 n (mput G0 mo sg w) = Option.map (fun z => (n, mput G0 mo z.1 z.2)) (r1 v1 sg w)) ?_ ?_ K
  · intro v1 sg w
    rfl
  · intro rec7 prec7 hrec7 v1 sg w
    unfold b_X11_laysOrder_7 pb_X11_laysOrder_7
    refine q_ite ?_ ?_
    · exact ec_X11_laysOrder_26 
    · refine q_gR 33 18 rfl ?_
      refine q_aS rfl rfl (by decide) (fun sg9 => ?_)
      exact hrec7 _ _ _
set_option maxRecDepth 100000 in
set_option maxHeartbeats 4000000 in
theorem e_X11_laysOrder {F : Nat} {G0 : GH} {mo n : Nat}  {sg : Nat → Nat → Int32} {w : Int64} : f_X11_laysOrder F mo  n (mput G0 mo sg w) = Option.map (fun z => (n, mput G0 mo z.1 z.2)) (p_X11_laysOrder F  sg w) := by
  unfold f_X11_laysOrder p_X11_laysOrder
  refine q_pI 32 (mp_32 _ _ _ _) (fun sg1 => ?_)
  exact el_X11_laysOrder_7  _ _ _ _
/-! X11_start -/
def p_X11_start (F : Nat) (v1 : Int32) (sg : Nat → Nat → Int32) (w : Int64) : Option (Int32 × (Nat → Nat → Int32) × Int64) :=
  gnm (up2 sg 0 0 (0 : Int32)) (fun (sg1 : Nat → Nat → Int32) =>
  pcU (p_X11_laysOrder F  sg1 w) (fun (sg2 : Nat → Nat → Int32) (w3 : Int64) =>
  if v1 = (-1 : Int32) then
  (some (sg2 0 32, sg2, w3))
  else (Option.bind (p_X11_in F v1 (0 : Int32) ((sg2 0 32) - (1 : Int32))) (fun (x4 : Int32) =>
  if x4 = 0 then
  (some ((-1 : Int32), sg2, w3))
  else (Option.bind (mI sg2 17 12 v1) (fun (x5 : Int32) =>
  some (x5, sg2, w3)))))))
set_option maxRecDepth 100000 in
set_option maxHeartbeats 4000000 in
theorem e_X11_start {F : Nat} {G0 : GH} {mo n : Nat} {v1 : Int32} {sg : Nat → Nat → Int32} {w : Int64} : f_X11_start F mo v1 n (mput G0 mo sg w) = Option.map (fun z => (z.1, n, mput G0 mo z.2.1 z.2.2)) (p_X11_start F v1 sg w) := by
  unfold f_X11_start p_X11_start
  refine q_pI 0 (mp_0 _ _ _ _) (fun sg1 => ?_)
  refine q_cvU (e_X11_laysOrder) (fun sg2 w3 => ?_)
  refine q_ite ?_ ?_
  · refine q_gI 32 rfl ?_
    rfl
  · refine q_gI 32 rfl ?_
    refine q_bd (e_X11_in) (fun x4 => ?_)
    refine q_ite ?_ ?_
    · rfl
    · refine q_gR 31 17 rfl ?_
      refine q_aI rfl rfl (by decide) (fun x5 => ?_)
      rfl
/-! X11_firstThatCanNot -/
def pk_X11_firstThatCanNot_34 (F : Nat)  (v1 : Int32) (v2 : Int32)  (sg : Nat → Nat → Int32) (w : Int64) : Option (Int32) :=
  Option.bind (p_X11_of F v1 ((3 : Int32) + v2) sg w) (fun (x4 : Int32) =>
  some x4)
def pb_X11_firstThatCanNot_2 (F : Nat)  (v1 : Int32) (sg : Nat → Nat → Int32) (w : Int64) (prec2 : Int32 → Option (Int32)) : Int32 → Option (Int32) := fun v2 =>
  Option.bind (p_X11_isLazy F v1 v2 sg w) (fun (x1 : Int32) =>
  if x1 = 0 then
  (Option.bind (p_X11_of F v1 ((3 : Int32) + v2) sg w) (fun (x2 : Int32) =>
  Option.bind (mI sg 18 12 x2) (fun (x3 : Int32) =>
  if x3 = (-1 : Int32) then
  (pk_X11_firstThatCanNot_34 F  v1 v2 sg w)
  else (prec2 (v2 + 1)))))
  else (prec2 (v2 + 1)))
def p_X11_firstThatCanNot (F : Nat) (v1 : Int32) (sg : Nat → Nat → Int32) (w : Int64) : Option (Int32) :=
  fixN (fun _ => none) (pb_X11_firstThatCanNot_2 F  v1 sg w) F (0 : Int32)
set_option maxRecDepth 100000 in
set_option maxHeartbeats 4000000 in
theorem ec_X11_firstThatCanNot_34 {F : Nat} {G0 : GH} {mo : Nat}   {v1 : Int32} {v2 : Int32}  {sg : Nat → Nat → Int32} {w : Int64} : k_X11_firstThatCanNot_34 F  mo v1 v2  (mput G0 mo sg w) = Option.map (fun z => z) (pk_X11_firstThatCanNot_34 F  v1 v2  sg w) := by
  unfold k_X11_firstThatCanNot_34 pk_X11_firstThatCanNot_34
  refine q_cvP (e_X11_of) (fun x4 => ?_)
  rfl
set_option maxRecDepth 100000 in
set_option maxHeartbeats 4000000 in
theorem el_X11_firstThatCanNot_2 {F : Nat} {G0 : GH} {mo : Nat}   {v1 : Int32} {sg : Nat → Nat → Int32} {w : Int64} : ∀ (K : Nat) (v2 : Int32), fixN ((fun _ => none) : Int32 → Option (Int32)) (b_X11_firstThatCanNot_2 F  mo v1 (mput G0 mo sg w)) K v2 = Option.map (fun z => z) (fixN ((fun _ => none) : Int32 → Option (Int32)) (pb_X11_firstThatCanNot_2 F  v1 sg w) K v2) := by
  intro K
  refine fixN_ind2 (P := fun (r : Int32 → Option (Int32)) (r1 : Int32 → Option (Int32)) => ∀ (v2 : Int32), r v2 = Option.map (fun z => z) (r1 v2)) ?_ ?_ K
  · intro v2
    rfl
  · intro rec2 prec2 hrec2 v2
    unfold b_X11_firstThatCanNot_2 pb_X11_firstThatCanNot_2
    refine q_cvP (e_X11_isLazy) (fun x1 => ?_)
    refine q_ite ?_ ?_
    · refine q_gR 33 18 rfl ?_
      refine q_cvP (e_X11_of) (fun x2 => ?_)
      refine q_aI rfl rfl (by decide) (fun x3 => ?_)
      refine q_ite ?_ ?_
      · exact ec_X11_firstThatCanNot_34 
      · exact hrec2 _
    · exact hrec2 _
set_option maxRecDepth 100000 in
set_option maxHeartbeats 4000000 in
theorem e_X11_firstThatCanNot {F : Nat} {G0 : GH} {mo : Nat} {v1 : Int32} {sg : Nat → Nat → Int32} {w : Int64} : f_X11_firstThatCanNot F mo v1 (mput G0 mo sg w) = p_X11_firstThatCanNot F v1 sg w := by
  refine Eq.trans ?_ (q_mid _)
  unfold f_X11_firstThatCanNot p_X11_firstThatCanNot
  exact el_X11_firstThatCanNot_2  _ _
/-! X11_laysLoop -/
def pb_X11_laysLoop_75 (F : Nat)  (v3 : Int32) (prec75 : Int32 → (Nat → Nat → Int32) → Int64 → Option ((Nat → Nat → Int32) × Int64)) : Int32 → (Nat → Nat → Int32) → Int64 → Option ((Nat → Nat → Int32) × Int64) := fun v1 sg w =>
  Option.bind (mS sg 19 13 (sg 0 35) v1) (fun (sg6 : Nat → Nat → Int32) =>
  gnm (up2 sg6 0 35 ((sg6 0 35) + (1 : Int32))) (fun (sg7 : Nat → Nat → Int32) =>
  Option.bind (p_X11_firstThatCanNot F v1 sg7 w) (fun (x8 : Int32) =>
  if x8 = v3 then
  (some (sg7, w))
  else (prec75 x8 sg7 w))))
def pk_X11_laysLoop_73 (F : Nat)  (v1 : Int32)  (sg : Nat → Nat → Int32) (w : Int64) : Option ((Nat → Nat → Int32) × Int64) :=
  fixN (fun _ _ _ => none) (pb_X11_laysLoop_75 F  v1) F v1 sg w
def pb_X11_laysLoop_50 (F : Nat)   (sg : Nat → Nat → Int32) (w : Int64) (prec50 : Int32 → Int32 → Option ((Nat → Nat → Int32) × Int64)) : Int32 → Int32 → Option ((Nat → Nat → Int32) × Int64) := fun v1 v2 =>
  if ((v2 >>> (v1 &&& 31)) &&& (1 : Int32)) = 0 then
  (gnm (v2 ||| ((1 : Int32) <<< (v1 &&& 31))) (fun (y9 : Int32) =>
  Option.bind (p_X11_firstThatCanNot F v1 sg w) (fun (x10 : Int32) =>
  prec50 x10 y9)))
  else (pk_X11_laysLoop_73 F  v1 sg w)
def pk_X11_laysLoop_37 (F : Nat)  (v1 : Int32)  (sg : Nat → Nat → Int32) (w : Int64) : Option ((Nat → Nat → Int32) × Int64) :=
  Option.bind (mI sg 1 4470 (0 : Int32)) (fun (x5 : Int32) =>
  if v1 = x5 then
  (some (sg, w))
  else (fixN (fun _ _ => none) (pb_X11_laysLoop_50 F   sg w) F v1 (0 : Int32)))
def pb_X11_laysLoop_11 (F : Nat)   (sg : Nat → Nat → Int32) (w : Int64) (prec11 : Int32 → Option ((Nat → Nat → Int32) × Int64)) : Int32 → Option ((Nat → Nat → Int32) × Int64) := fun v1 =>
  Option.bind (mI sg 1 4470 (0 : Int32)) (fun (x4 : Int32) =>
  if x4 ≤ v1 then
  (pk_X11_laysLoop_37 F  v1 sg w)
  else (Option.bind (mI sg 18 12 v1) (fun (x11 : Int32) =>
  if x11 = (-1 : Int32) then
  (pk_X11_laysLoop_37 F  v1 sg w)
  else (prec11 (v1 + 1)))))
def p_X11_laysLoop (F : Nat)  (sg : Nat → Nat → Int32) (w : Int64) : Option ((Nat → Nat → Int32) × Int64) :=
  pcU (p_X11_laysOrder F  sg w) (fun (sg1 : Nat → Nat → Int32) (w2 : Int64) =>
  gnm (up2 sg1 0 35 (0 : Int32)) (fun (sg3 : Nat → Nat → Int32) =>
  fixN (fun _ => none) (pb_X11_laysLoop_11 F   sg3 w2) F (0 : Int32)))
set_option maxRecDepth 100000 in
set_option maxHeartbeats 4000000 in
theorem el_X11_laysLoop_75 {F : Nat} {G0 : GH} {mo n : Nat}   {v3 : Int32} : ∀ (K : Nat) (v1 : Int32) (sg : Nat → Nat → Int32) (w : Int64), fixN ((fun _ _ _ => none) : Int32 → Nat → GH → Option (Nat × GH)) (b_X11_laysLoop_75 F  mo v3) K v1 n (mput G0 mo sg w) = Option.map (fun z => (n, mput G0 mo z.1 z.2)) (fixN ((fun _ _ _ => none) : Int32 → (Nat → Nat → Int32) → Int64 → Option ((Nat → Nat → Int32) × Int64)) (pb_X11_laysLoop_75 F  v3) K v1 sg w) := by
  intro K
  refine fixN_ind2 (P := fun (r : Int32 → Nat → GH → Option (Nat × GH)) (r1 : Int32 → (Nat → Nat → Int32) → Int64 → Option ((Nat → Nat → Int32) × Int64)) => ∀ (v1 : Int32) (sg : Nat → Nat → Int32) (w : Int64), r v1 n (mput G0 mo sg w) = Option.map (fun z => (n, mput G0 mo z.1 z.2)) (r1 v1 sg w)) ?_ ?_ K
  · intro v1 sg w
    rfl
  · intro rec75 prec75 hrec75 v1 sg w
    unfold b_X11_laysLoop_75 pb_X11_laysLoop_75
    refine q_gR 34 19 rfl ?_
    refine q_gI 35 rfl ?_
    refine q_aS rfl rfl (by decide) (fun sg6 => ?_)
    refine q_gI 35 rfl ?_
    refine q_pI 35 (mp_35 _ _ _ _) (fun sg7 => ?_)
    refine q_cvP (e_X11_firstThatCanNot) (fun x8 => ?_)
    refine q_ite ?_ ?_
    · rfl
    · exact hrec75 _ _ _
set_option maxRecDepth 100000 in
set_option maxHeartbeats 4000000 in
theorem ec_X11_laysLoop_73 {F : Nat} {G0 : GH} {mo n : Nat}   {v1 : Int32}  {sg : Nat → Nat → Int32} {w : Int64} : k_X11_laysLoop_73 F  mo v1  n (mput G0 mo sg w) = Option.map (fun z => (n, mput G0 mo z.1 z.2)) (pk_X11_laysLoop_73 F  v1  sg w) := by
  unfold k_X11_laysLoop_73 pk_X11_laysLoop_73
  exact el_X11_laysLoop_75  _ _ _ _
set_option maxRecDepth 100000 in
set_option maxHeartbeats 4000000 in
theorem el_X11_laysLoop_50 {F : Nat} {G0 : GH} {mo n : Nat}    {sg : Nat → Nat → Int32} {w : Int64} : ∀ (K : Nat) (v1 : Int32) (v2 : Int32), fixN ((fun _ _ => none) : Int32 → Int32 → Option (Nat × GH)) (b_X11_laysLoop_50 F  mo n (mput G0 mo sg w)) K v1 v2 = Option.map (fun z => (n, mput G0 mo z.1 z.2)) (fixN ((fun _ _ => none) : Int32 → Int32 → Option ((Nat → Nat → Int32) × Int64)) (pb_X11_laysLoop_50 F   sg w) K v1 v2) := by
  intro K
  refine fixN_ind2 (P := fun (r : Int32 → Int32 → Option (Nat × GH)) (r1 : Int32 → Int32 → Option ((Nat → Nat → Int32) × Int64)) => ∀ (v1 : Int32) (v2 : Int32), r v1 v2 = Option.map (fun z => (n, mput G0 mo z.1 z.2)) (r1 v1 v2)) ?_ ?_ K
  · intro v1 v2
    rfl
  · intro rec50 prec50 hrec50 v1 v2
    unfold b_X11_laysLoop_50 pb_X11_laysLoop_50
    refine q_ite ?_ ?_
    · refine q_nm (fun y9 => ?_)
      refine q_cvP (e_X11_firstThatCanNot) (fun x10 => ?_)
      exact hrec50 _ _
    · exact ec_X11_laysLoop_73 
set_option maxRecDepth 100000 in
set_option maxHeartbeats 4000000 in
theorem ec_X11_laysLoop_37 {F : Nat} {G0 : GH} {mo n : Nat}   {v1 : Int32}  {sg : Nat → Nat → Int32} {w : Int64} : k_X11_laysLoop_37 F  mo v1  n (mput G0 mo sg w) = Option.map (fun z => (n, mput G0 mo z.1 z.2)) (pk_X11_laysLoop_37 F  v1  sg w) := by
  unfold k_X11_laysLoop_37 pk_X11_laysLoop_37
  refine q_gR 1 1 rfl ?_
  refine q_aI rfl rfl (by decide) (fun x5 => ?_)
  refine q_ite ?_ ?_
  · rfl
  · exact el_X11_laysLoop_50  _ _ _
set_option maxRecDepth 100000 in
set_option maxHeartbeats 4000000 in
theorem el_X11_laysLoop_11 {F : Nat} {G0 : GH} {mo n : Nat}    {sg : Nat → Nat → Int32} {w : Int64} : ∀ (K : Nat) (v1 : Int32), fixN ((fun _ => none) : Int32 → Option (Nat × GH)) (b_X11_laysLoop_11 F  mo n (mput G0 mo sg w)) K v1 = Option.map (fun z => (n, mput G0 mo z.1 z.2)) (fixN ((fun _ => none) : Int32 → Option ((Nat → Nat → Int32) × Int64)) (pb_X11_laysLoop_11 F   sg w) K v1) := by
  intro K
  refine fixN_ind2 (P := fun (r : Int32 → Option (Nat × GH)) (r1 : Int32 → Option ((Nat → Nat → Int32) × Int64)) => ∀ (v1 : Int32), r v1 = Option.map (fun z => (n, mput G0 mo z.1 z.2)) (r1 v1)) ?_ ?_ K
  · intro v1
    rfl
  · intro rec11 prec11 hrec11 v1
    unfold b_X11_laysLoop_11 pb_X11_laysLoop_11
    refine q_gR 1 1 rfl ?_
    refine q_aI rfl rfl (by decide) (fun x4 => ?_)
    refine q_ite ?_ ?_
    · exact ec_X11_laysLoop_37 
    · refine q_gR 33 18 rfl ?_
      refine q_aI rfl rfl (by decide) (fun x11 => ?_)
      refine q_ite ?_ ?_
      · exact ec_X11_laysLoop_37 
      · exact hrec11 _
set_option maxRecDepth 100000 in
set_option maxHeartbeats 4000000 in
theorem e_X11_laysLoop {F : Nat} {G0 : GH} {mo n : Nat}  {sg : Nat → Nat → Int32} {w : Int64} : f_X11_laysLoop F mo  n (mput G0 mo sg w) = Option.map (fun z => (n, mput G0 mo z.1 z.2)) (p_X11_laysLoop F  sg w) := by
  unfold f_X11_laysLoop p_X11_laysLoop
  refine q_cvU (e_X11_laysOrder) (fun sg1 w2 => ?_)
  refine q_pI 35 (mp_35 _ _ _ _) (fun sg3 => ?_)
  exact el_X11_laysLoop_11  _ _
/-! X11_loop -/
def p_X11_loop (F : Nat) (v1 : Int32) (sg : Nat → Nat → Int32) (w : Int64) : Option (Int32 × (Nat → Nat → Int32) × Int64) :=
  gnm (up2 sg 0 0 (0 : Int32)) (fun (sg1 : Nat → Nat → Int32) =>
  pcU (p_X11_laysLoop F  sg1 w) (fun (sg2 : Nat → Nat → Int32) (w3 : Int64) =>
  if v1 = (-1 : Int32) then
  (some (sg2 0 35, sg2, w3))
  else (Option.bind (p_X11_in F v1 (0 : Int32) ((sg2 0 35) - (1 : Int32))) (fun (x4 : Int32) =>
  if x4 = 0 then
  (some ((-1 : Int32), sg2, w3))
  else (Option.bind (mI sg2 19 13 v1) (fun (x5 : Int32) =>
  some (x5, sg2, w3)))))))
set_option maxRecDepth 100000 in
set_option maxHeartbeats 4000000 in
theorem e_X11_loop {F : Nat} {G0 : GH} {mo n : Nat} {v1 : Int32} {sg : Nat → Nat → Int32} {w : Int64} : f_X11_loop F mo v1 n (mput G0 mo sg w) = Option.map (fun z => (z.1, n, mput G0 mo z.2.1 z.2.2)) (p_X11_loop F v1 sg w) := by
  unfold f_X11_loop p_X11_loop
  refine q_pI 0 (mp_0 _ _ _ _) (fun sg1 => ?_)
  refine q_cvU (e_X11_laysLoop) (fun sg2 w3 => ?_)
  refine q_ite ?_ ?_
  · refine q_gI 35 rfl ?_
    rfl
  · refine q_gI 35 rfl ?_
    refine q_bd (e_X11_in) (fun x4 => ?_)
    refine q_ite ?_ ?_
    · rfl
    · refine q_gR 34 19 rfl ?_
      refine q_aI rfl rfl (by decide) (fun x5 => ?_)
      rfl
/-! X11_needsOf -/
def pk_X11_needsOf_31 (F : Nat) (prec5 : Int32 → Int32 → Option (Int32)) (v1 : Int32) (v2 : Int32) (v4 : Int32) (s0 : Int32) (sg : Nat → Nat → Int32) (w : Int64) : Option (Int32) :=
  Option.bind (p_X11_of F v1 ((3 : Int32) + v4) sg w) (fun (x2 : Int32) =>
  gnm (s0 ||| ((1 : Int32) <<< (x2 &&& 31))) (fun (y3 : Int32) =>
  prec5 y3 (v4 + 1)))
def pb_X11_needsOf_5 (F : Nat)  (v1 : Int32) (v2 : Int32) (sg : Nat → Nat → Int32) (w : Int64) (prec5 : Int32 → Int32 → Option (Int32)) : Int32 → Int32 → Option (Int32) := fun v3 v4 =>
  Option.bind (p_X11_of F v1 (2 : Int32) sg w) (fun (x1 : Int32) =>
  if x1 ≤ v4 then
  (some v3)
  else (if v2 = 0 then
  (Option.bind (p_X11_isLazy F v1 v4 sg w) (fun (x4 : Int32) =>
  if x4 = 0 then
  (pk_X11_needsOf_31 F prec5 v1 v2 v4 v3 sg w)
  else (gnm (v3 ||| (0 : Int32)) (fun (y5 : Int32) =>
  prec5 y5 (v4 + 1)))))
  else (pk_X11_needsOf_31 F prec5 v1 v2 v4 v3 sg w)))
def p_X11_needsOf (F : Nat) (v1 : Int32) (v2 : Int32) (sg : Nat → Nat → Int32) (w : Int64) : Option (Int32) :=
  fixN (fun _ _ => none) (pb_X11_needsOf_5 F  v1 v2 sg w) F (0 : Int32) (0 : Int32)
set_option maxRecDepth 100000 in
set_option maxHeartbeats 4000000 in
theorem ec_X11_needsOf_31 {F : Nat} {G0 : GH} {mo : Nat} {rec5 : Int32 → Int32 → Option (Int32)} {prec5 : Int32 → Int32 → Option (Int32)} (hrec5 : ∀ (w3 : Int32) (w4 : Int32), rec5 w3 w4 = Option.map (fun z => z) (prec5 w3 w4)) {v1 : Int32} {v2 : Int32} {v4 : Int32} {s0 : Int32} {sg : Nat → Nat → Int32} {w : Int64} : k_X11_needsOf_31 F rec5 mo v1 v2 v4 s0 (mput G0 mo sg w) = Option.map (fun z => z) (pk_X11_needsOf_31 F prec5 v1 v2 v4 s0 sg w) := by
  unfold k_X11_needsOf_31 pk_X11_needsOf_31
  refine q_cvP (e_X11_of) (fun x2 => ?_)
  refine q_nm (fun y3 => ?_)
  exact hrec5 _ _
set_option maxRecDepth 100000 in
set_option maxHeartbeats 4000000 in
theorem el_X11_needsOf_5 {F : Nat} {G0 : GH} {mo : Nat}   {v1 : Int32} {v2 : Int32} {sg : Nat → Nat → Int32} {w : Int64} : ∀ (K : Nat) (v3 : Int32) (v4 : Int32), fixN ((fun _ _ => none) : Int32 → Int32 → Option (Int32)) (b_X11_needsOf_5 F  mo v1 v2 (mput G0 mo sg w)) K v3 v4 = Option.map (fun z => z) (fixN ((fun _ _ => none) : Int32 → Int32 → Option (Int32)) (pb_X11_needsOf_5 F  v1 v2 sg w) K v3 v4) := by
  intro K
  refine fixN_ind2 (P := fun (r : Int32 → Int32 → Option (Int32)) (r1 : Int32 → Int32 → Option (Int32)) => ∀ (v3 : Int32) (v4 : Int32), r v3 v4 = Option.map (fun z => z) (r1 v3 v4)) ?_ ?_ K
  · intro v3 v4
    rfl
  · intro rec5 prec5 hrec5 v3 v4
    unfold b_X11_needsOf_5 pb_X11_needsOf_5
    refine q_cvP (e_X11_of) (fun x1 => ?_)
    refine q_ite ?_ ?_
    · rfl
    · refine q_ite ?_ ?_
      · refine q_cvP (e_X11_isLazy) (fun x4 => ?_)
        refine q_ite ?_ ?_
        · exact ec_X11_needsOf_31 hrec5
        · refine q_nm (fun y5 => ?_)
          exact hrec5 _ _
      · exact ec_X11_needsOf_31 hrec5
set_option maxRecDepth 100000 in
set_option maxHeartbeats 4000000 in
theorem e_X11_needsOf {F : Nat} {G0 : GH} {mo : Nat} {v1 : Int32} {v2 : Int32} {sg : Nat → Nat → Int32} {w : Int64} : f_X11_needsOf F mo v1 v2 (mput G0 mo sg w) = p_X11_needsOf F v1 v2 sg w := by
  refine Eq.trans ?_ (q_mid _)
  unfold f_X11_needsOf p_X11_needsOf
  exact el_X11_needsOf_5  _ _ _
/-! X11_needsOfAll -/
def pb_X11_needsOfAll_5 (F : Nat)  (v1 : Int32) (v2 : Int32) (sg : Nat → Nat → Int32) (w : Int64) (prec5 : Int32 → Int32 → Option (Int32)) : Int32 → Int32 → Option (Int32) := fun v3 v4 =>
  if (12 : Int32) ≤ v4 then
  (some v3)
  else (if ((v1 >>> (v4 &&& 31)) &&& (1 : Int32)) = (1 : Int32) then
  (Option.bind (p_X11_needsOf F v4 v2 sg w) (fun (x2 : Int32) =>
  gnm (v3 ||| x2) (fun (y3 : Int32) =>
  prec5 y3 (v4 + 1))))
  else (gnm (v3 ||| (0 : Int32)) (fun (y1 : Int32) =>
  prec5 y1 (v4 + 1))))
def p_X11_needsOfAll (F : Nat) (v1 : Int32) (v2 : Int32) (sg : Nat → Nat → Int32) (w : Int64) : Option (Int32) :=
  fixN (fun _ _ => none) (pb_X11_needsOfAll_5 F  v1 v2 sg w) F v1 (0 : Int32)
set_option maxRecDepth 100000 in
set_option maxHeartbeats 4000000 in
theorem el_X11_needsOfAll_5 {F : Nat} {G0 : GH} {mo : Nat}   {v1 : Int32} {v2 : Int32} {sg : Nat → Nat → Int32} {w : Int64} : ∀ (K : Nat) (v3 : Int32) (v4 : Int32), fixN ((fun _ _ => none) : Int32 → Int32 → Option (Int32)) (b_X11_needsOfAll_5 F  mo v1 v2 (mput G0 mo sg w)) K v3 v4 = Option.map (fun z => z) (fixN ((fun _ _ => none) : Int32 → Int32 → Option (Int32)) (pb_X11_needsOfAll_5 F  v1 v2 sg w) K v3 v4) := by
  intro K
  refine fixN_ind2 (P := fun (r : Int32 → Int32 → Option (Int32)) (r1 : Int32 → Int32 → Option (Int32)) => ∀ (v3 : Int32) (v4 : Int32), r v3 v4 = Option.map (fun z => z) (r1 v3 v4)) ?_ ?_ K
  · intro v3 v4
    rfl
  · intro rec5 prec5 hrec5 v3 v4
    unfold b_X11_needsOfAll_5 pb_X11_needsOfAll_5
    refine q_ite ?_ ?_
    · rfl
    · refine q_ite ?_ ?_
      · refine q_cvP (e_X11_needsOf) (fun x2 => ?_)
        refine q_nm (fun y3 => ?_)
        exact hrec5 _ _
      · refine q_nm (fun y1 => ?_)
        exact hrec5 _ _
set_option maxRecDepth 100000 in
set_option maxHeartbeats 4000000 in
theorem e_X11_needsOfAll {F : Nat} {G0 : GH} {mo : Nat} {v1 : Int32} {v2 : Int32} {sg : Nat → Nat → Int32} {w : Int64} : f_X11_needsOfAll F mo v1 v2 (mput G0 mo sg w) = p_X11_needsOfAll F v1 v2 sg w := by
  refine Eq.trans ?_ (q_mid _)
  unfold f_X11_needsOfAll p_X11_needsOfAll
  exact el_X11_needsOfAll_5  _ _ _
/-! X11_allNeeds -/
def pb_X11_allNeeds_7 (F : Nat)  (v2 : Int32) (sg : Nat → Nat → Int32) (w : Int64) (prec7 : Int32 → Option (Int32)) : Int32 → Option (Int32) := fun v3 =>
  Option.bind (p_X11_needsOfAll F v3 v2 sg w) (fun (x2 : Int32) =>
  if x2 = v3 then
  (some v3)
  else (Option.bind (p_X11_needsOfAll F v3 v2 sg w) (fun (x3 : Int32) =>
  prec7 x3)))
def p_X11_allNeeds (F : Nat) (v1 : Int32) (v2 : Int32) (sg : Nat → Nat → Int32) (w : Int64) : Option (Int32) :=
  Option.bind (p_X11_needsOf F v1 v2 sg w) (fun (x1 : Int32) =>
  fixN (fun _ => none) (pb_X11_allNeeds_7 F  v2 sg w) F x1)
set_option maxRecDepth 100000 in
set_option maxHeartbeats 4000000 in
theorem el_X11_allNeeds_7 {F : Nat} {G0 : GH} {mo : Nat}   {v2 : Int32} {sg : Nat → Nat → Int32} {w : Int64} : ∀ (K : Nat) (v3 : Int32), fixN ((fun _ => none) : Int32 → Option (Int32)) (b_X11_allNeeds_7 F  mo v2 (mput G0 mo sg w)) K v3 = Option.map (fun z => z) (fixN ((fun _ => none) : Int32 → Option (Int32)) (pb_X11_allNeeds_7 F  v2 sg w) K v3) := by
  intro K
  refine fixN_ind2 (P := fun (r : Int32 → Option (Int32)) (r1 : Int32 → Option (Int32)) => ∀ (v3 : Int32), r v3 = Option.map (fun z => z) (r1 v3)) ?_ ?_ K
  · intro v3
    rfl
  · intro rec7 prec7 hrec7 v3
    unfold b_X11_allNeeds_7 pb_X11_allNeeds_7
    refine q_cvP (e_X11_needsOfAll) (fun x2 => ?_)
    refine q_ite ?_ ?_
    · rfl
    · refine q_cvP (e_X11_needsOfAll) (fun x3 => ?_)
      exact hrec7 _
set_option maxRecDepth 100000 in
set_option maxHeartbeats 4000000 in
theorem e_X11_allNeeds {F : Nat} {G0 : GH} {mo : Nat} {v1 : Int32} {v2 : Int32} {sg : Nat → Nat → Int32} {w : Int64} : f_X11_allNeeds F mo v1 v2 (mput G0 mo sg w) = p_X11_allNeeds F v1 v2 sg w := by
  refine Eq.trans ?_ (q_mid _)
  unfold f_X11_allNeeds p_X11_allNeeds
  refine q_cvP (e_X11_needsOf) (fun x1 => ?_)
  exact el_X11_allNeeds_7  _ _
/-! X11_needs -/
def p_X11_needs (F : Nat) (v1 : Int32) (v2 : Int32) (sg : Nat → Nat → Int32) (w : Int64) : Option (Int32 × (Nat → Nat → Int32) × Int64) :=
  gnm (up2 sg 0 0 (0 : Int32)) (fun (sg1 : Nat → Nat → Int32) =>
  Option.bind (p_X11_isPart F v1 sg1 w) (fun (x2 : Int32) =>
  if x2 = 0 then
  (some ((-1 : Int32), sg1, w))
  else (Option.bind (p_X11_allNeeds F v1 v2 sg1 w) (fun (x3 : Int32) =>
  some (x3, sg1, w)))))
set_option maxRecDepth 100000 in
set_option maxHeartbeats 4000000 in
theorem e_X11_needs {F : Nat} {G0 : GH} {mo n : Nat} {v1 : Int32} {v2 : Int32} {sg : Nat → Nat → Int32} {w : Int64} : f_X11_needs F mo v1 v2 n (mput G0 mo sg w) = Option.map (fun z => (z.1, n, mput G0 mo z.2.1 z.2.2)) (p_X11_needs F v1 v2 sg w) := by
  unfold f_X11_needs p_X11_needs
  refine q_pI 0 (mp_0 _ _ _ _) (fun sg1 => ?_)
  refine q_cvP (e_X11_isPart) (fun x2 => ?_)
  refine q_ite ?_ ?_
  · rfl
  · refine q_cvP (e_X11_allNeeds) (fun x3 => ?_)
    rfl
/-! X11_deep -/
def pb_X11_deep_28 (F : Nat)   (sg : Nat → Nat → Int32) (w : Int64) (prec28 : Int32 → Int32 → Option (Int32 × (Nat → Nat → Int32) × Int64)) : Int32 → Int32 → Option (Int32 × (Nat → Nat → Int32) × Int64) := fun v1 v2 =>
  Option.bind (mI sg 1 4470 (0 : Int32)) (fun (x5 : Int32) =>
  if x5 ≤ v2 then
  (some (v1, sg, w))
  else (Option.bind (mI sg 18 12 v2) (fun (x6 : Int32) =>
  if (x6 + (1 : Int32)) ≤ v1 then
  (prec28 v1 (v2 + 1))
  else (Option.bind (mI sg 18 12 v2) (fun (x7 : Int32) =>
  gnm (x7 + (1 : Int32)) (fun (y8 : Int32) =>
  prec28 y8 (v2 + 1)))))))
def p_X11_deep (F : Nat)  (sg : Nat → Nat → Int32) (w : Int64) : Option (Int32 × (Nat → Nat → Int32) × Int64) :=
  gnm (up2 sg 0 0 (0 : Int32)) (fun (sg1 : Nat → Nat → Int32) =>
  pcU (p_X11_laysOrder F  sg1 w) (fun (sg2 : Nat → Nat → Int32) (w3 : Int64) =>
  Option.bind (mI sg2 1 4470 (0 : Int32)) (fun (x4 : Int32) =>
  if x4 ≤ (sg2 0 32) then
  (fixN (fun _ _ => none) (pb_X11_deep_28 F   sg2 w3) F (0 : Int32) (0 : Int32))
  else (some ((-1 : Int32), sg2, w3)))))
set_option maxRecDepth 100000 in
set_option maxHeartbeats 4000000 in
theorem el_X11_deep_28 {F : Nat} {G0 : GH} {mo n : Nat}    {sg : Nat → Nat → Int32} {w : Int64} : ∀ (K : Nat) (v1 : Int32) (v2 : Int32), fixN ((fun _ _ => none) : Int32 → Int32 → Option (Int32 × Nat × GH)) (b_X11_deep_28 F  mo n (mput G0 mo sg w)) K v1 v2 = Option.map (fun z => (z.1, n, mput G0 mo z.2.1 z.2.2)) (fixN ((fun _ _ => none) : Int32 → Int32 → Option (Int32 × (Nat → Nat → Int32) × Int64)) (pb_X11_deep_28 F   sg w) K v1 v2) := by
  intro K
  refine fixN_ind2 (P := fun (r : Int32 → Int32 → Option (Int32 × Nat × GH)) (r1 : Int32 → Int32 → Option (Int32 × (Nat → Nat → Int32) × Int64)) => ∀ (v1 : Int32) (v2 : Int32), r v1 v2 = Option.map (fun z => (z.1, n, mput G0 mo z.2.1 z.2.2)) (r1 v1 v2)) ?_ ?_ K
  · intro v1 v2
    rfl
  · intro rec28 prec28 hrec28 v1 v2
    unfold b_X11_deep_28 pb_X11_deep_28
    refine q_gR 1 1 rfl ?_
    refine q_aI rfl rfl (by decide) (fun x5 => ?_)
    refine q_ite ?_ ?_
    · rfl
    · refine q_gR 33 18 rfl ?_
      refine q_aI rfl rfl (by decide) (fun x6 => ?_)
      refine q_ite ?_ ?_
      · exact hrec28 _ _
      · refine q_gR 33 18 rfl ?_
        refine q_aI rfl rfl (by decide) (fun x7 => ?_)
        refine q_nm (fun y8 => ?_)
        exact hrec28 _ _
set_option maxRecDepth 100000 in
set_option maxHeartbeats 4000000 in
theorem e_X11_deep {F : Nat} {G0 : GH} {mo n : Nat}  {sg : Nat → Nat → Int32} {w : Int64} : f_X11_deep F mo  n (mput G0 mo sg w) = Option.map (fun z => (z.1, n, mput G0 mo z.2.1 z.2.2)) (p_X11_deep F  sg w) := by
  unfold f_X11_deep p_X11_deep
  refine q_pI 0 (mp_0 _ _ _ _) (fun sg1 => ?_)
  refine q_cvU (e_X11_laysOrder) (fun sg2 w3 => ?_)
  refine q_gI 32 rfl ?_
  refine q_gR 1 1 rfl ?_
  refine q_aI rfl rfl (by decide) (fun x4 => ?_)
  refine q_ite ?_ ?_
  · exact el_X11_deep_28  _ _ _
  · rfl
/-! X11_wave -/
def p_X11_wave (F : Nat) (v1 : Int32) (sg : Nat → Nat → Int32) (w : Int64) : Option (Int32 × (Nat → Nat → Int32) × Int64) :=
  gnm (up2 sg 0 0 (0 : Int32)) (fun (sg1 : Nat → Nat → Int32) =>
  pcU (p_X11_laysOrder F  sg1 w) (fun (sg2 : Nat → Nat → Int32) (w3 : Int64) =>
  Option.bind (p_X11_isPart F v1 sg2 w3) (fun (x4 : Int32) =>
  if x4 = 0 then
  (some ((-1 : Int32), sg2, w3))
  else (Option.bind (mI sg2 18 12 v1) (fun (x5 : Int32) =>
  some (x5, sg2, w3))))))
set_option maxRecDepth 100000 in
set_option maxHeartbeats 4000000 in
theorem e_X11_wave {F : Nat} {G0 : GH} {mo n : Nat} {v1 : Int32} {sg : Nat → Nat → Int32} {w : Int64} : f_X11_wave F mo v1 n (mput G0 mo sg w) = Option.map (fun z => (z.1, n, mput G0 mo z.2.1 z.2.2)) (p_X11_wave F v1 sg w) := by
  unfold f_X11_wave p_X11_wave
  refine q_pI 0 (mp_0 _ _ _ _) (fun sg1 => ?_)
  refine q_cvU (e_X11_laysOrder) (fun sg2 w3 => ?_)
  refine q_cvP (e_X11_isPart) (fun x4 => ?_)
  refine q_ite ?_ ?_
  · rfl
  · refine q_gR 33 18 rfl ?_
    refine q_aI rfl rfl (by decide) (fun x5 => ?_)
    rfl
/-! X11_lost -/
def pb_X11_lost_21 (F : Nat)  (v1 : Int32) (sg : Nat → Nat → Int32) (w : Int64) (prec21 : Int32 → Int32 → Option (Int32 × (Nat → Nat → Int32) × Int64)) : Int32 → Int32 → Option (Int32 × (Nat → Nat → Int32) × Int64) := fun v2 v3 =>
  Option.bind (mI sg 1 4470 (0 : Int32)) (fun (x4 : Int32) =>
  if x4 ≤ v3 then
  (some (v2, sg, w))
  else (Option.bind (p_X11_allNeeds F v3 (0 : Int32) sg w) (fun (x5 : Int32) =>
  if ((x5 >>> (v1 &&& 31)) &&& (1 : Int32)) = (1 : Int32) then
  (gnm (v2 ||| ((1 : Int32) <<< (v3 &&& 31))) (fun (y7 : Int32) =>
  prec21 y7 (v3 + 1)))
  else (gnm (v2 ||| (0 : Int32)) (fun (y6 : Int32) =>
  prec21 y6 (v3 + 1))))))
def p_X11_lost (F : Nat) (v1 : Int32) (sg : Nat → Nat → Int32) (w : Int64) : Option (Int32 × (Nat → Nat → Int32) × Int64) :=
  gnm (up2 sg 0 0 (0 : Int32)) (fun (sg1 : Nat → Nat → Int32) =>
  Option.bind (p_X11_isPart F v1 sg1 w) (fun (x2 : Int32) =>
  if x2 = 0 then
  (some ((-1 : Int32), sg1, w))
  else (gnm ((1 : Int32) <<< (v1 &&& 31)) (fun (y3 : Int32) =>
  fixN (fun _ _ => none) (pb_X11_lost_21 F  v1 sg1 w) F y3 (0 : Int32)))))
set_option maxRecDepth 100000 in
set_option maxHeartbeats 4000000 in
theorem el_X11_lost_21 {F : Nat} {G0 : GH} {mo n : Nat}   {v1 : Int32} {sg : Nat → Nat → Int32} {w : Int64} : ∀ (K : Nat) (v2 : Int32) (v3 : Int32), fixN ((fun _ _ => none) : Int32 → Int32 → Option (Int32 × Nat × GH)) (b_X11_lost_21 F  mo v1 n (mput G0 mo sg w)) K v2 v3 = Option.map (fun z => (z.1, n, mput G0 mo z.2.1 z.2.2)) (fixN ((fun _ _ => none) : Int32 → Int32 → Option (Int32 × (Nat → Nat → Int32) × Int64)) (pb_X11_lost_21 F  v1 sg w) K v2 v3) := by
  intro K
  refine fixN_ind2 (P := fun (r : Int32 → Int32 → Option (Int32 × Nat × GH)) (r1 : Int32 → Int32 → Option (Int32 × (Nat → Nat → Int32) × Int64)) => ∀ (v2 : Int32) (v3 : Int32), r v2 v3 = Option.map (fun z => (z.1, n, mput G0 mo z.2.1 z.2.2)) (r1 v2 v3)) ?_ ?_ K
  · intro v2 v3
    rfl
  · intro rec21 prec21 hrec21 v2 v3
    unfold b_X11_lost_21 pb_X11_lost_21
    refine q_gR 1 1 rfl ?_
    refine q_aI rfl rfl (by decide) (fun x4 => ?_)
    refine q_ite ?_ ?_
    · rfl
    · refine q_cvP (e_X11_allNeeds) (fun x5 => ?_)
      refine q_ite ?_ ?_
      · refine q_nm (fun y7 => ?_)
        exact hrec21 _ _
      · refine q_nm (fun y6 => ?_)
        exact hrec21 _ _
set_option maxRecDepth 100000 in
set_option maxHeartbeats 4000000 in
theorem e_X11_lost {F : Nat} {G0 : GH} {mo n : Nat} {v1 : Int32} {sg : Nat → Nat → Int32} {w : Int64} : f_X11_lost F mo v1 n (mput G0 mo sg w) = Option.map (fun z => (z.1, n, mput G0 mo z.2.1 z.2.2)) (p_X11_lost F v1 sg w) := by
  unfold f_X11_lost p_X11_lost
  refine q_pI 0 (mp_0 _ _ _ _) (fun sg1 => ?_)
  refine q_cvP (e_X11_isPart) (fun x2 => ?_)
  refine q_ite ?_ ?_
  · rfl
  · refine q_nm (fun y3 => ?_)
    exact el_X11_lost_21  _ _ _
/-! X11_isEager -/
def p_X11_isEager (F : Nat) (v1 : Int32) (sg : Nat → Nat → Int32) (w : Int64) : Option (Int32) :=
  gnm (v1 / (4 : Int32)) (fun (y1 : Int32) =>
  Option.bind (mI sg 1 4470 (0 : Int32)) (fun (x2 : Int32) =>
  if x2 ≤ y1 then
  (rP .boolean (0 : Int32))
  else (Option.bind (p_X11_of F y1 (2 : Int32) sg w) (fun (x3 : Int32) =>
  if x3 ≤ (v1 - v1 / (4 : Int32) * (4 : Int32)) then
  (rP .boolean (0 : Int32))
  else (Option.bind (p_X11_isLazy F y1 (v1 - v1 / (4 : Int32) * (4 : Int32)) sg w) (fun (x4 : Int32) =>
  if x4 = 0 then
  (rP .boolean (1 : Int32))
  else (rP .boolean (0 : Int32))))))))
set_option maxRecDepth 100000 in
set_option maxHeartbeats 4000000 in
theorem e_X11_isEager {F : Nat} {G0 : GH} {mo : Nat} {v1 : Int32} {sg : Nat → Nat → Int32} {w : Int64} : f_X11_isEager F mo v1 (mput G0 mo sg w) = p_X11_isEager F v1 sg w := by
  refine Eq.trans ?_ (q_mid _)
  unfold f_X11_isEager p_X11_isEager
  refine q_nm (fun y1 => ?_)
  refine q_gR 1 1 rfl ?_
  refine q_aI rfl rfl (by decide) (fun x2 => ?_)
  refine q_ite ?_ ?_
  · exact q_id
  · refine q_cvP (e_X11_of) (fun x3 => ?_)
    refine q_ite ?_ ?_
    · exact q_id
    · refine q_cvP (e_X11_isLazy) (fun x4 => ?_)
      refine q_ite ?_ ?_
      · exact q_id
      · exact q_id
/-! X11_turns -/
def p_X11_turns (F : Nat) (v1 : Int32) (sg : Nat → Nat → Int32) (w : Int64) : Option ((Nat → Nat → Int32) × Int64) :=
  Option.bind (mI sg 1 4470 (((1 : Int32) + ((11 : Int32) * (v1 / (4 : Int32)))) + (7 : Int32))) (fun (x1 : Int32) =>
  Option.bind (mS sg 1 4470 (((1 : Int32) + ((11 : Int32) * (v1 / (4 : Int32)))) + (7 : Int32)) (x1 ^^^ ((1 : Int32) <<< ((v1 - v1 / (4 : Int32) * (4 : Int32)) &&& 31)))) (fun (sg2 : Nat → Nat → Int32) =>
  some (sg2, w)))
set_option maxRecDepth 100000 in
set_option maxHeartbeats 4000000 in
theorem e_X11_turns {F : Nat} {G0 : GH} {mo n : Nat} {v1 : Int32} {sg : Nat → Nat → Int32} {w : Int64} : f_X11_turns F mo v1 n (mput G0 mo sg w) = Option.map (fun z => (n, mput G0 mo z.1 z.2)) (p_X11_turns F v1 sg w) := by
  unfold f_X11_turns p_X11_turns
  refine q_gR 1 1 rfl ?_
  refine q_aI rfl rfl (by decide) (fun x1 => ?_)
  refine q_aS rfl rfl (by decide) (fun sg2 => ?_)
  rfl
/-! X11_isLoose -/
def p_X11_isLoose (F : Nat)  (sg : Nat → Nat → Int32) (w : Int64) : Option (Int32 × (Nat → Nat → Int32) × Int64) :=
  pcU (p_X11_laysOrder F  sg w) (fun (sg1 : Nat → Nat → Int32) (w2 : Int64) =>
  Option.bind (mI sg1 1 4470 (0 : Int32)) (fun (x3 : Int32) =>
  if (sg1 0 32) = x3 then
  (mN .boolean (1 : Int32) sg1 w2)
  else (mN .boolean (0 : Int32) sg1 w2)))
set_option maxRecDepth 100000 in
set_option maxHeartbeats 4000000 in
theorem e_X11_isLoose {F : Nat} {G0 : GH} {mo n : Nat}  {sg : Nat → Nat → Int32} {w : Int64} : f_X11_isLoose F mo  n (mput G0 mo sg w) = Option.map (fun z => (z.1, n, mput G0 mo z.2.1 z.2.2)) (p_X11_isLoose F  sg w) := by
  unfold f_X11_isLoose p_X11_isLoose
  refine q_cvU (e_X11_laysOrder) (fun sg1 w2 => ?_)
  refine q_gI 32 rfl ?_
  refine q_gR 1 1 rfl ?_
  refine q_aI rfl rfl (by decide) (fun x3 => ?_)
  refine q_ite ?_ ?_
  · exact q_rN
  · exact q_rN
/-! X11_isLastEnough -/
def pk_X11_isLastEnough_38 (F : Nat)  (v2 : Int32)  (sg : Nat → Nat → Int32) (w : Int64) : Option (Int32 × (Nat → Nat → Int32) × Int64) :=
  Option.bind (mS sg 20 3 (2 : Int32) v2) (fun (sg9 : Nat → Nat → Int32) =>
  mN .boolean (1 : Int32) sg9 w)
def pb_X11_isLastEnough_2 (F : Nat)   (prec2 : Int32 → (Nat → Nat → Int32) → Int64 → Option (Int32 × (Nat → Nat → Int32) × Int64)) : Int32 → (Nat → Nat → Int32) → Int64 → Option (Int32 × (Nat → Nat → Int32) × Int64) := fun v2 sg w =>
  if (48 : Int32) ≤ v2 then
  (mN .boolean (0 : Int32) sg w)
  else (Option.bind (p_X11_isEager F v2 sg w) (fun (x1 : Int32) =>
  if x1 = 0 then
  (prec2 (v2 + 1) sg w)
  else (pcU (p_X11_turns F v2 sg w) (fun (sg2 : Nat → Nat → Int32) (w3 : Int64) =>
  pcI (p_X11_isLoose F  sg2 w3) (fun (x6 : Int32) (sg4 : Nat → Nat → Int32) (w5 : Int64) =>
  pcU (p_X11_turns F v2 sg4 w5) (fun (sg7 : Nat → Nat → Int32) (w8 : Int64) =>
  if x6 = 0 then
  (prec2 (v2 + 1) sg7 w8)
  else (pk_X11_isLastEnough_38 F  v2 sg7 w8)))))))
def p_X11_isLastEnough (F : Nat) (v1 : Int32) (sg : Nat → Nat → Int32) (w : Int64) : Option (Int32 × (Nat → Nat → Int32) × Int64) :=
  fixN (fun _ _ _ => none) (pb_X11_isLastEnough_2 F  ) F v1 sg w
set_option maxRecDepth 100000 in
set_option maxHeartbeats 4000000 in
theorem ec_X11_isLastEnough_38 {F : Nat} {G0 : GH} {mo n : Nat}   {v2 : Int32}  {sg : Nat → Nat → Int32} {w : Int64} : k_X11_isLastEnough_38 F  mo v2  n (mput G0 mo sg w) = Option.map (fun z => (z.1, n, mput G0 mo z.2.1 z.2.2)) (pk_X11_isLastEnough_38 F  v2  sg w) := by
  unfold k_X11_isLastEnough_38 pk_X11_isLastEnough_38
  refine q_gR 36 20 rfl ?_
  refine q_aS rfl rfl (by decide) (fun sg9 => ?_)
  exact q_rN
set_option maxRecDepth 100000 in
set_option maxHeartbeats 4000000 in
theorem el_X11_isLastEnough_2 {F : Nat} {G0 : GH} {mo n : Nat}    : ∀ (K : Nat) (v2 : Int32) (sg : Nat → Nat → Int32) (w : Int64), fixN ((fun _ _ _ => none) : Int32 → Nat → GH → Option (Int32 × Nat × GH)) (b_X11_isLastEnough_2 F  mo) K v2 n (mput G0 mo sg w) = Option.map (fun z => (z.1, n, mput G0 mo z.2.1 z.2.2)) (fixN ((fun _ _ _ => none) : Int32 → (Nat → Nat → Int32) → Int64 → Option (Int32 × (Nat → Nat → Int32) × Int64)) (pb_X11_isLastEnough_2 F  ) K v2 sg w) := by
  intro K
  refine fixN_ind2 (P := fun (r : Int32 → Nat → GH → Option (Int32 × Nat × GH)) (r1 : Int32 → (Nat → Nat → Int32) → Int64 → Option (Int32 × (Nat → Nat → Int32) × Int64)) => ∀ (v2 : Int32) (sg : Nat → Nat → Int32) (w : Int64), r v2 n (mput G0 mo sg w) = Option.map (fun z => (z.1, n, mput G0 mo z.2.1 z.2.2)) (r1 v2 sg w)) ?_ ?_ K
  · intro v2 sg w
    rfl
  · intro rec2 prec2 hrec2 v2 sg w
    unfold b_X11_isLastEnough_2 pb_X11_isLastEnough_2
    refine q_ite ?_ ?_
    · exact q_rN
    · refine q_cvP (e_X11_isEager) (fun x1 => ?_)
      refine q_ite ?_ ?_
      · exact hrec2 _ _ _
      · refine q_cvU (e_X11_turns) (fun sg2 w3 => ?_)
        refine q_cvI (e_X11_isLoose) (fun x6 sg4 w5 => ?_)
        refine q_cvU (e_X11_turns) (fun sg7 w8 => ?_)
        refine q_ite ?_ ?_
        · exact hrec2 _ _ _
        · exact ec_X11_isLastEnough_38 
set_option maxRecDepth 100000 in
set_option maxHeartbeats 4000000 in
theorem e_X11_isLastEnough {F : Nat} {G0 : GH} {mo n : Nat} {v1 : Int32} {sg : Nat → Nat → Int32} {w : Int64} : f_X11_isLastEnough F mo v1 n (mput G0 mo sg w) = Option.map (fun z => (z.1, n, mput G0 mo z.2.1 z.2.2)) (p_X11_isLastEnough F v1 sg w) := by
  unfold f_X11_isLastEnough p_X11_isLastEnough
  exact el_X11_isLastEnough_2  _ _ _ _
/-! X11_areTwoEnough -/
def pk_X11_areTwoEnough_55 (F : Nat)  (v3 : Int32)  (sg : Nat → Nat → Int32) (w : Int64) : Option (Int32 × (Nat → Nat → Int32) × Int64) :=
  Option.bind (mS sg 20 3 (1 : Int32) v3) (fun (sg9 : Nat → Nat → Int32) =>
  mN .boolean (1 : Int32) sg9 w)
def pk_X11_areTwoEnough_43 (F : Nat) (prec2 : Int32 → (Nat → Nat → Int32) → Int64 → Option (Int32 × (Nat → Nat → Int32) × Int64)) (v1 : Int32) (v3 : Int32) (s0 : Int32) (sg : Nat → Nat → Int32) (w : Int64) : Option (Int32 × (Nat → Nat → Int32) × Int64) :=
  pcU (p_X11_turns F v3 sg w) (fun (sg7 : Nat → Nat → Int32) (w8 : Int64) =>
  if s0 = 0 then
  (prec2 (v3 + 1) sg7 w8)
  else (pk_X11_areTwoEnough_55 F  v3 sg7 w8))
def pb_X11_areTwoEnough_2 (F : Nat)  (v1 : Int32) (prec2 : Int32 → (Nat → Nat → Int32) → Int64 → Option (Int32 × (Nat → Nat → Int32) × Int64)) : Int32 → (Nat → Nat → Int32) → Int64 → Option (Int32 × (Nat → Nat → Int32) × Int64) := fun v3 sg w =>
  if (48 : Int32) ≤ v3 then
  (mN .boolean (0 : Int32) sg w)
  else (Option.bind (p_X11_isEager F v3 sg w) (fun (x1 : Int32) =>
  if x1 = 0 then
  (prec2 (v3 + 1) sg w)
  else (pcU (p_X11_turns F v3 sg w) (fun (sg2 : Nat → Nat → Int32) (w3 : Int64) =>
  if v1 = (2 : Int32) then
  (pcI (p_X11_isLoose F  sg2 w3) (fun (x12 : Int32) (sg10 : Nat → Nat → Int32) (w11 : Int64) =>
  pk_X11_areTwoEnough_43 F prec2 v1 v3 x12 sg10 w11))
  else (pcI (p_X11_isLastEnough F (v3 + (1 : Int32)) sg2 w3) (fun (x6 : Int32) (sg4 : Nat → Nat → Int32) (w5 : Int64) =>
  pk_X11_areTwoEnough_43 F prec2 v1 v3 x6 sg4 w5))))))
def p_X11_areTwoEnough (F : Nat) (v1 : Int32) (v2 : Int32) (sg : Nat → Nat → Int32) (w : Int64) : Option (Int32 × (Nat → Nat → Int32) × Int64) :=
  fixN (fun _ _ _ => none) (pb_X11_areTwoEnough_2 F  v1) F v2 sg w
set_option maxRecDepth 100000 in
set_option maxHeartbeats 4000000 in
theorem ec_X11_areTwoEnough_55 {F : Nat} {G0 : GH} {mo n : Nat}   {v3 : Int32}  {sg : Nat → Nat → Int32} {w : Int64} : k_X11_areTwoEnough_55 F  mo v3  n (mput G0 mo sg w) = Option.map (fun z => (z.1, n, mput G0 mo z.2.1 z.2.2)) (pk_X11_areTwoEnough_55 F  v3  sg w) := by
  unfold k_X11_areTwoEnough_55 pk_X11_areTwoEnough_55
  refine q_gR 36 20 rfl ?_
  refine q_aS rfl rfl (by decide) (fun sg9 => ?_)
  exact q_rN
set_option maxRecDepth 100000 in
set_option maxHeartbeats 4000000 in
theorem ec_X11_areTwoEnough_43 {F : Nat} {G0 : GH} {mo n : Nat} {rec2 : Int32 → Nat → GH → Option (Int32 × Nat × GH)} {prec2 : Int32 → (Nat → Nat → Int32) → Int64 → Option (Int32 × (Nat → Nat → Int32) × Int64)} (hrec2 : ∀ (w3 : Int32) (sg : Nat → Nat → Int32) (w : Int64), rec2 w3 n (mput G0 mo sg w) = Option.map (fun z => (z.1, n, mput G0 mo z.2.1 z.2.2)) (prec2 w3 sg w)) {v1 : Int32} {v3 : Int32} {s0 : Int32} {sg : Nat → Nat → Int32} {w : Int64} : k_X11_areTwoEnough_43 F rec2 mo v1 v3 s0 n (mput G0 mo sg w) = Option.map (fun z => (z.1, n, mput G0 mo z.2.1 z.2.2)) (pk_X11_areTwoEnough_43 F prec2 v1 v3 s0 sg w) := by
  unfold k_X11_areTwoEnough_43 pk_X11_areTwoEnough_43
  refine q_cvU (e_X11_turns) (fun sg7 w8 => ?_)
  refine q_ite ?_ ?_
  · exact hrec2 _ _ _
  · exact ec_X11_areTwoEnough_55 
set_option maxRecDepth 100000 in
set_option maxHeartbeats 4000000 in
theorem el_X11_areTwoEnough_2 {F : Nat} {G0 : GH} {mo n : Nat}   {v1 : Int32} : ∀ (K : Nat) (v3 : Int32) (sg : Nat → Nat → Int32) (w : Int64), fixN ((fun _ _ _ => none) : Int32 → Nat → GH → Option (Int32 × Nat × GH)) (b_X11_areTwoEnough_2 F  mo v1) K v3 n (mput G0 mo sg w) = Option.map (fun z => (z.1, n, mput G0 mo z.2.1 z.2.2)) (fixN ((fun _ _ _ => none) : Int32 → (Nat → Nat → Int32) → Int64 → Option (Int32 × (Nat → Nat → Int32) × Int64)) (pb_X11_areTwoEnough_2 F  v1) K v3 sg w) := by
  intro K
  refine fixN_ind2 (P := fun (r : Int32 → Nat → GH → Option (Int32 × Nat × GH)) (r1 : Int32 → (Nat → Nat → Int32) → Int64 → Option (Int32 × (Nat → Nat → Int32) × Int64)) => ∀ (v3 : Int32) (sg : Nat → Nat → Int32) (w : Int64), r v3 n (mput G0 mo sg w) = Option.map (fun z => (z.1, n, mput G0 mo z.2.1 z.2.2)) (r1 v3 sg w)) ?_ ?_ K
  · intro v3 sg w
    rfl
  · intro rec2 prec2 hrec2 v3 sg w
    unfold b_X11_areTwoEnough_2 pb_X11_areTwoEnough_2
    refine q_ite ?_ ?_
    · exact q_rN
    · refine q_cvP (e_X11_isEager) (fun x1 => ?_)
      refine q_ite ?_ ?_
      · exact hrec2 _ _ _
      · refine q_cvU (e_X11_turns) (fun sg2 w3 => ?_)
        refine q_ite ?_ ?_
        · refine q_cvI (e_X11_isLoose) (fun x12 sg10 w11 => ?_)
          exact ec_X11_areTwoEnough_43 hrec2
        · refine q_cvI (e_X11_isLastEnough) (fun x6 sg4 w5 => ?_)
          exact ec_X11_areTwoEnough_43 hrec2
set_option maxRecDepth 100000 in
set_option maxHeartbeats 4000000 in
theorem e_X11_areTwoEnough {F : Nat} {G0 : GH} {mo n : Nat} {v1 : Int32} {v2 : Int32} {sg : Nat → Nat → Int32} {w : Int64} : f_X11_areTwoEnough F mo v1 v2 n (mput G0 mo sg w) = Option.map (fun z => (z.1, n, mput G0 mo z.2.1 z.2.2)) (p_X11_areTwoEnough F v1 v2 sg w) := by
  unfold f_X11_areTwoEnough p_X11_areTwoEnough
  exact el_X11_areTwoEnough_2  _ _ _ _
/-! X11_areEnough -/
def pk_X11_areEnough_54 (F : Nat)  (v2 : Int32)  (sg : Nat → Nat → Int32) (w : Int64) : Option (Int32 × (Nat → Nat → Int32) × Int64) :=
  Option.bind (mS sg 20 3 (0 : Int32) v2) (fun (sg9 : Nat → Nat → Int32) =>
  mN .boolean (1 : Int32) sg9 w)
def pk_X11_areEnough_44 (F : Nat) (prec2 : Int32 → (Nat → Nat → Int32) → Int64 → Option (Int32 × (Nat → Nat → Int32) × Int64)) (v1 : Int32) (v2 : Int32) (s0 : Int32) (sg : Nat → Nat → Int32) (w : Int64) : Option (Int32 × (Nat → Nat → Int32) × Int64) :=
  pcU (p_X11_turns F v2 sg w) (fun (sg7 : Nat → Nat → Int32) (w8 : Int64) =>
  if s0 = 0 then
  (prec2 (v2 + 1) sg7 w8)
  else (pk_X11_areEnough_54 F  v2 sg7 w8))
def pb_X11_areEnough_2 (F : Nat)  (v1 : Int32) (prec2 : Int32 → (Nat → Nat → Int32) → Int64 → Option (Int32 × (Nat → Nat → Int32) × Int64)) : Int32 → (Nat → Nat → Int32) → Int64 → Option (Int32 × (Nat → Nat → Int32) × Int64) := fun v2 sg w =>
  if (48 : Int32) ≤ v2 then
  (mN .boolean (0 : Int32) sg w)
  else (Option.bind (p_X11_isEager F v2 sg w) (fun (x1 : Int32) =>
  if x1 = 0 then
  (prec2 (v2 + 1) sg w)
  else (pcU (p_X11_turns F v2 sg w) (fun (sg2 : Nat → Nat → Int32) (w3 : Int64) =>
  if v1 = (1 : Int32) then
  (pcI (p_X11_isLoose F  sg2 w3) (fun (x12 : Int32) (sg10 : Nat → Nat → Int32) (w11 : Int64) =>
  pk_X11_areEnough_44 F prec2 v1 v2 x12 sg10 w11))
  else (pcI (p_X11_areTwoEnough F v1 (v2 + (1 : Int32)) sg2 w3) (fun (x6 : Int32) (sg4 : Nat → Nat → Int32) (w5 : Int64) =>
  pk_X11_areEnough_44 F prec2 v1 v2 x6 sg4 w5))))))
def p_X11_areEnough (F : Nat) (v1 : Int32) (sg : Nat → Nat → Int32) (w : Int64) : Option (Int32 × (Nat → Nat → Int32) × Int64) :=
  fixN (fun _ _ _ => none) (pb_X11_areEnough_2 F  v1) F (0 : Int32) sg w
set_option maxRecDepth 100000 in
set_option maxHeartbeats 4000000 in
theorem ec_X11_areEnough_54 {F : Nat} {G0 : GH} {mo n : Nat}   {v2 : Int32}  {sg : Nat → Nat → Int32} {w : Int64} : k_X11_areEnough_54 F  mo v2  n (mput G0 mo sg w) = Option.map (fun z => (z.1, n, mput G0 mo z.2.1 z.2.2)) (pk_X11_areEnough_54 F  v2  sg w) := by
  unfold k_X11_areEnough_54 pk_X11_areEnough_54
  refine q_gR 36 20 rfl ?_
  refine q_aS rfl rfl (by decide) (fun sg9 => ?_)
  exact q_rN
set_option maxRecDepth 100000 in
set_option maxHeartbeats 4000000 in
theorem ec_X11_areEnough_44 {F : Nat} {G0 : GH} {mo n : Nat} {rec2 : Int32 → Nat → GH → Option (Int32 × Nat × GH)} {prec2 : Int32 → (Nat → Nat → Int32) → Int64 → Option (Int32 × (Nat → Nat → Int32) × Int64)} (hrec2 : ∀ (w2 : Int32) (sg : Nat → Nat → Int32) (w : Int64), rec2 w2 n (mput G0 mo sg w) = Option.map (fun z => (z.1, n, mput G0 mo z.2.1 z.2.2)) (prec2 w2 sg w)) {v1 : Int32} {v2 : Int32} {s0 : Int32} {sg : Nat → Nat → Int32} {w : Int64} : k_X11_areEnough_44 F rec2 mo v1 v2 s0 n (mput G0 mo sg w) = Option.map (fun z => (z.1, n, mput G0 mo z.2.1 z.2.2)) (pk_X11_areEnough_44 F prec2 v1 v2 s0 sg w) := by
  unfold k_X11_areEnough_44 pk_X11_areEnough_44
  refine q_cvU (e_X11_turns) (fun sg7 w8 => ?_)
  refine q_ite ?_ ?_
  · exact hrec2 _ _ _
  · exact ec_X11_areEnough_54 
set_option maxRecDepth 100000 in
set_option maxHeartbeats 4000000 in
theorem el_X11_areEnough_2 {F : Nat} {G0 : GH} {mo n : Nat}   {v1 : Int32} : ∀ (K : Nat) (v2 : Int32) (sg : Nat → Nat → Int32) (w : Int64), fixN ((fun _ _ _ => none) : Int32 → Nat → GH → Option (Int32 × Nat × GH)) (b_X11_areEnough_2 F  mo v1) K v2 n (mput G0 mo sg w) = Option.map (fun z => (z.1, n, mput G0 mo z.2.1 z.2.2)) (fixN ((fun _ _ _ => none) : Int32 → (Nat → Nat → Int32) → Int64 → Option (Int32 × (Nat → Nat → Int32) × Int64)) (pb_X11_areEnough_2 F  v1) K v2 sg w) := by
  intro K
  refine fixN_ind2 (P := fun (r : Int32 → Nat → GH → Option (Int32 × Nat × GH)) (r1 : Int32 → (Nat → Nat → Int32) → Int64 → Option (Int32 × (Nat → Nat → Int32) × Int64)) => ∀ (v2 : Int32) (sg : Nat → Nat → Int32) (w : Int64), r v2 n (mput G0 mo sg w) = Option.map (fun z => (z.1, n, mput G0 mo z.2.1 z.2.2)) (r1 v2 sg w)) ?_ ?_ K
  · intro v2 sg w
    rfl
  · intro rec2 prec2 hrec2 v2 sg w
    unfold b_X11_areEnough_2 pb_X11_areEnough_2
    refine q_ite ?_ ?_
    · exact q_rN
    · refine q_cvP (e_X11_isEager) (fun x1 => ?_)
      refine q_ite ?_ ?_
      · exact hrec2 _ _ _
      · refine q_cvU (e_X11_turns) (fun sg2 w3 => ?_)
        refine q_ite ?_ ?_
        · refine q_cvI (e_X11_isLoose) (fun x12 sg10 w11 => ?_)
          exact ec_X11_areEnough_44 hrec2
        · refine q_cvI (e_X11_areTwoEnough) (fun x6 sg4 w5 => ?_)
          exact ec_X11_areEnough_44 hrec2
set_option maxRecDepth 100000 in
set_option maxHeartbeats 4000000 in
theorem e_X11_areEnough {F : Nat} {G0 : GH} {mo n : Nat} {v1 : Int32} {sg : Nat → Nat → Int32} {w : Int64} : f_X11_areEnough F mo v1 n (mput G0 mo sg w) = Option.map (fun z => (z.1, n, mput G0 mo z.2.1 z.2.2)) (p_X11_areEnough F v1 sg w) := by
  unfold f_X11_areEnough p_X11_areEnough
  exact el_X11_areEnough_2  _ _ _ _
/-! X11_looser -/
def pk_X11_looser_41 (F : Nat)  (v1 : Int32) (v2 : Int32)  (sg : Nat → Nat → Int32) (w : Int64) : Option (Int32 × (Nat → Nat → Int32) × Int64) :=
  if v2 = (4 : Int32) then
  (some ((-2 : Int32), sg, w))
  else (if v1 = (-1 : Int32) then
  (some (v2, sg, w))
  else (Option.bind (p_X11_in F v1 (0 : Int32) (v2 - (1 : Int32))) (fun (x5 : Int32) =>
  if x5 = 0 then
  (some ((-1 : Int32), sg, w))
  else (Option.bind (mI sg 20 3 v1) (fun (x6 : Int32) =>
  some (x6, sg, w))))))
def pb_X11_looser_18 (F : Nat)  (v1 : Int32) (prec18 : Int32 → (Nat → Nat → Int32) → Int64 → Option (Int32 × (Nat → Nat → Int32) × Int64)) : Int32 → (Nat → Nat → Int32) → Int64 → Option (Int32 × (Nat → Nat → Int32) × Int64) := fun v2 sg w =>
  if v2 ≤ 0 then
  (pk_X11_looser_41 F  v1 v2 sg w)
  else (if (4 : Int32) ≤ v2 then
  (pk_X11_looser_41 F  v1 v2 sg w)
  else (pcI (p_X11_areEnough F v2 sg w) (fun (x9 : Int32) (sg7 : Nat → Nat → Int32) (w8 : Int64) =>
  if x9 = 0 then
  (prec18 (v2 + 1) sg7 w8)
  else (pk_X11_looser_41 F  v1 v2 sg7 w8))))
def pk_X11_looser_17 (F : Nat)  (v1 : Int32) (s0 : Int32) (sg : Nat → Nat → Int32) (w : Int64) : Option (Int32 × (Nat → Nat → Int32) × Int64) :=
  fixN (fun _ _ _ => none) (pb_X11_looser_18 F  v1) F s0 sg w
def p_X11_looser (F : Nat) (v1 : Int32) (sg : Nat → Nat → Int32) (w : Int64) : Option (Int32 × (Nat → Nat → Int32) × Int64) :=
  gnm (up2 sg 0 0 (0 : Int32)) (fun (sg1 : Nat → Nat → Int32) =>
  pcI (p_X11_isLoose F  sg1 w) (fun (x4 : Int32) (sg2 : Nat → Nat → Int32) (w3 : Int64) =>
  if x4 = 0 then
  (pk_X11_looser_17 F  v1 (1 : Int32) sg2 w3)
  else (pk_X11_looser_17 F  v1 (0 : Int32) sg2 w3)))
set_option maxRecDepth 100000 in
set_option maxHeartbeats 4000000 in
theorem ec_X11_looser_41 {F : Nat} {G0 : GH} {mo n : Nat}   {v1 : Int32} {v2 : Int32}  {sg : Nat → Nat → Int32} {w : Int64} : k_X11_looser_41 F  mo v1 v2  n (mput G0 mo sg w) = Option.map (fun z => (z.1, n, mput G0 mo z.2.1 z.2.2)) (pk_X11_looser_41 F  v1 v2  sg w) := by
  unfold k_X11_looser_41 pk_X11_looser_41
  refine q_ite ?_ ?_
  · rfl
  · refine q_ite ?_ ?_
    · rfl
    · refine q_bd (e_X11_in) (fun x5 => ?_)
      refine q_ite ?_ ?_
      · rfl
      · refine q_gR 36 20 rfl ?_
        refine q_aI rfl rfl (by decide) (fun x6 => ?_)
        rfl
set_option maxRecDepth 100000 in
set_option maxHeartbeats 4000000 in
theorem el_X11_looser_18 {F : Nat} {G0 : GH} {mo n : Nat}   {v1 : Int32} : ∀ (K : Nat) (v2 : Int32) (sg : Nat → Nat → Int32) (w : Int64), fixN ((fun _ _ _ => none) : Int32 → Nat → GH → Option (Int32 × Nat × GH)) (b_X11_looser_18 F  mo v1) K v2 n (mput G0 mo sg w) = Option.map (fun z => (z.1, n, mput G0 mo z.2.1 z.2.2)) (fixN ((fun _ _ _ => none) : Int32 → (Nat → Nat → Int32) → Int64 → Option (Int32 × (Nat → Nat → Int32) × Int64)) (pb_X11_looser_18 F  v1) K v2 sg w) := by
  intro K
  refine fixN_ind2 (P := fun (r : Int32 → Nat → GH → Option (Int32 × Nat × GH)) (r1 : Int32 → (Nat → Nat → Int32) → Int64 → Option (Int32 × (Nat → Nat → Int32) × Int64)) => ∀ (v2 : Int32) (sg : Nat → Nat → Int32) (w : Int64), r v2 n (mput G0 mo sg w) = Option.map (fun z => (z.1, n, mput G0 mo z.2.1 z.2.2)) (r1 v2 sg w)) ?_ ?_ K
  · intro v2 sg w
    rfl
  · intro rec18 prec18 hrec18 v2 sg w
    unfold b_X11_looser_18 pb_X11_looser_18
    refine q_ite ?_ ?_
    · exact ec_X11_looser_41 
    · refine q_ite ?_ ?_
      · exact ec_X11_looser_41 
      · refine q_cvI (e_X11_areEnough) (fun x9 sg7 w8 => ?_)
        refine q_ite ?_ ?_
        · exact hrec18 _ _ _
        · exact ec_X11_looser_41 
set_option maxRecDepth 100000 in
set_option maxHeartbeats 4000000 in
theorem ec_X11_looser_17 {F : Nat} {G0 : GH} {mo n : Nat}   {v1 : Int32} {s0 : Int32} {sg : Nat → Nat → Int32} {w : Int64} : k_X11_looser_17 F  mo v1 s0 n (mput G0 mo sg w) = Option.map (fun z => (z.1, n, mput G0 mo z.2.1 z.2.2)) (pk_X11_looser_17 F  v1 s0 sg w) := by
  unfold k_X11_looser_17 pk_X11_looser_17
  exact el_X11_looser_18  _ _ _ _
set_option maxRecDepth 100000 in
set_option maxHeartbeats 4000000 in
theorem e_X11_looser {F : Nat} {G0 : GH} {mo n : Nat} {v1 : Int32} {sg : Nat → Nat → Int32} {w : Int64} : f_X11_looser F mo v1 n (mput G0 mo sg w) = Option.map (fun z => (z.1, n, mput G0 mo z.2.1 z.2.2)) (p_X11_looser F v1 sg w) := by
  unfold f_X11_looser p_X11_looser
  refine q_pI 0 (mp_0 _ _ _ _) (fun sg1 => ?_)
  refine q_cvI (e_X11_isLoose) (fun x4 sg2 w3 => ?_)
  refine q_ite ?_ ?_
  · exact ec_X11_looser_17 
  · exact ec_X11_looser_17 
/-! X11_copies -/
def pb_X11_copies_2 (F : Nat)  (v1 : Int32) (v2 : Int32) (prec2 : Int32 → (Nat → Nat → Int32) → Int64 → Option ((Nat → Nat → Int32) × Int64)) : Int32 → (Nat → Nat → Int32) → Int64 → Option ((Nat → Nat → Int32) × Int64) := fun v3 sg w =>
  if (894 : Int32) ≤ v3 then
  (some (sg, w))
  else (Option.bind (mI sg 1 4470 (((894 : Int32) * v1) + v3)) (fun (x1 : Int32) =>
  Option.bind (mS sg 1 4470 (((894 : Int32) * v2) + v3) x1) (fun (sg2 : Nat → Nat → Int32) =>
  prec2 (v3 + 1) sg2 w)))
def p_X11_copies (F : Nat) (v1 : Int32) (v2 : Int32) (sg : Nat → Nat → Int32) (w : Int64) : Option ((Nat → Nat → Int32) × Int64) :=
  fixN (fun _ _ _ => none) (pb_X11_copies_2 F  v1 v2) F (0 : Int32) sg w
set_option maxRecDepth 100000 in
set_option maxHeartbeats 4000000 in
theorem el_X11_copies_2 {F : Nat} {G0 : GH} {mo n : Nat}   {v1 : Int32} {v2 : Int32} : ∀ (K : Nat) (v3 : Int32) (sg : Nat → Nat → Int32) (w : Int64), fixN ((fun _ _ _ => none) : Int32 → Nat → GH → Option (Nat × GH)) (b_X11_copies_2 F  mo v1 v2) K v3 n (mput G0 mo sg w) = Option.map (fun z => (n, mput G0 mo z.1 z.2)) (fixN ((fun _ _ _ => none) : Int32 → (Nat → Nat → Int32) → Int64 → Option ((Nat → Nat → Int32) × Int64)) (pb_X11_copies_2 F  v1 v2) K v3 sg w) := by
  intro K
  refine fixN_ind2 (P := fun (r : Int32 → Nat → GH → Option (Nat × GH)) (r1 : Int32 → (Nat → Nat → Int32) → Int64 → Option ((Nat → Nat → Int32) × Int64)) => ∀ (v3 : Int32) (sg : Nat → Nat → Int32) (w : Int64), r v3 n (mput G0 mo sg w) = Option.map (fun z => (n, mput G0 mo z.1 z.2)) (r1 v3 sg w)) ?_ ?_ K
  · intro v3 sg w
    rfl
  · intro rec2 prec2 hrec2 v3 sg w
    unfold b_X11_copies_2 pb_X11_copies_2
    refine q_ite ?_ ?_
    · rfl
    · refine q_gR 1 1 rfl ?_
      refine q_gR 1 1 rfl ?_
      refine q_aI rfl rfl (by decide) (fun x1 => ?_)
      refine q_aS rfl rfl (by decide) (fun sg2 => ?_)
      exact hrec2 _ _ _
set_option maxRecDepth 100000 in
set_option maxHeartbeats 4000000 in
theorem e_X11_copies {F : Nat} {G0 : GH} {mo n : Nat} {v1 : Int32} {v2 : Int32} {sg : Nat → Nat → Int32} {w : Int64} : f_X11_copies F mo v1 v2 n (mput G0 mo sg w) = Option.map (fun z => (n, mput G0 mo z.1 z.2)) (p_X11_copies F v1 v2 sg w) := by
  unfold f_X11_copies p_X11_copies
  exact el_X11_copies_2  _ _ _ _
/-! X11_would -/
def p_X11_would (F : Nat) (v1 : Int32) (v2 : Int32) (sg : Nat → Nat → Int32) (w : Int64) : Option (Int32 × (Nat → Nat → Int32) × Int64) :=
  gnm (up2 sg 0 0 (0 : Int32)) (fun (sg1 : Nat → Nat → Int32) =>
  Option.bind (p_X11_isPart F v1 sg1 w) (fun (x2 : Int32) =>
  if x2 = 0 then
  (some ((-1 : Int32), sg1, w))
  else (Option.bind (p_X11_in F v2 (0 : Int32) (1 : Int32)) (fun (x3 : Int32) =>
  if x3 = 0 then
  (some ((-1 : Int32), sg1, w))
  else (pcU (p_X11_copies F (0 : Int32) (4 : Int32) sg1 w) (fun (sg4 : Nat → Nat → Int32) (w5 : Int64) =>
  gnm (up2 sg4 0 29 (0 : Int32)) (fun (sg6 : Nat → Nat → Int32) =>
  Option.bind (mI sg6 1 4470 (206 : Int32)) (fun (x7 : Int32) =>
  Option.bind (mI sg6 1 4470 (145 : Int32)) (fun (x8 : Int32) =>
  pcI (p_X11_asks F v1 x8 sg6 w5) (fun (x11 : Int32) (sg9 : Nat → Nat → Int32) (w10 : Int64) =>
  Option.bind (mI sg9 1 4470 (206 : Int32)) (fun (x12 : Int32) =>
  gnm (x12 - x7) (fun (y13 : Int32) =>
  pcU (p_X11_copies F (4 : Int32) (0 : Int32) sg9 w10) (fun (sg14 : Nat → Nat → Int32) (w15 : Int64) =>
  if v2 = 0 then
  (some (y13, sg14, w15))
  else (some (x11, sg14, w15)))))))))))))))
set_option maxRecDepth 100000 in
set_option maxHeartbeats 4000000 in
theorem e_X11_would {F : Nat} {G0 : GH} {mo n : Nat} {v1 : Int32} {v2 : Int32} {sg : Nat → Nat → Int32} {w : Int64} : f_X11_would F mo v1 v2 n (mput G0 mo sg w) = Option.map (fun z => (z.1, n, mput G0 mo z.2.1 z.2.2)) (p_X11_would F v1 v2 sg w) := by
  unfold f_X11_would p_X11_would
  refine q_pI 0 (mp_0 _ _ _ _) (fun sg1 => ?_)
  refine q_cvP (e_X11_isPart) (fun x2 => ?_)
  refine q_ite ?_ ?_
  · rfl
  · refine q_bd (e_X11_in) (fun x3 => ?_)
    refine q_ite ?_ ?_
    · rfl
    · refine q_cvU (e_X11_copies) (fun sg4 w5 => ?_)
      refine q_pI 29 (mp_29 _ _ _ _) (fun sg6 => ?_)
      refine q_gR 1 1 rfl ?_
      refine q_aI rfl rfl (by decide) (fun x7 => ?_)
      refine q_gR 1 1 rfl ?_
      refine q_aI rfl rfl (by decide) (fun x8 => ?_)
      refine q_cvI (e_X11_asks) (fun x11 sg9 w10 => ?_)
      refine q_gR 1 1 rfl ?_
      refine q_aI rfl rfl (by decide) (fun x12 => ?_)
      refine q_nm (fun y13 => ?_)
      refine q_cvU (e_X11_copies) (fun sg14 w15 => ?_)
      refine q_ite ?_ ?_
      · rfl
      · rfl
/-! X11_worth -/
def pk_X11_worth_63 (F : Nat)   (s0 : Int32) (sg : Nat → Nat → Int32) (w : Int64) : Option (Int32 × (Nat → Nat → Int32) × Int64) :=
  pcU (p_X11_copies F (4 : Int32) (0 : Int32) sg w) (fun (sg10 : Nat → Nat → Int32) (w11 : Int64) =>
  some (s0, sg10, w11))
def pk_X11_worth_62 (F : Nat)    (sg : Nat → Nat → Int32) (w : Int64) : Option (Int32 × (Nat → Nat → Int32) × Int64) :=
  pk_X11_worth_63 F  (0 : Int32) sg w
def p_X11_worth (F : Nat) (v1 : Int32) (sg : Nat → Nat → Int32) (w : Int64) : Option (Int32 × (Nat → Nat → Int32) × Int64) :=
  gnm (up2 sg 0 0 (0 : Int32)) (fun (sg1 : Nat → Nat → Int32) =>
  Option.bind (p_X11_isPart F v1 sg1 w) (fun (x2 : Int32) =>
  if x2 = 0 then
  (some ((0 : Int32), sg1, w))
  else (pcU (p_X11_copies F (0 : Int32) (4 : Int32) sg1 w) (fun (sg3 : Nat → Nat → Int32) (w4 : Int64) =>
  gnm (up2 sg3 0 29 (0 : Int32)) (fun (sg5 : Nat → Nat → Int32) =>
  Option.bind (mI sg5 1 4470 (145 : Int32)) (fun (x6 : Int32) =>
  pcI (p_X11_asks F v1 x6 sg5 w4) (fun (x9 : Int32) (sg7 : Nat → Nat → Int32) (w8 : Int64) =>
  if x9 < 0 then
  (pk_X11_worth_62 F  sg7 w8)
  else (pcI (p_X11_reckons F x9 sg7 w8) (fun (x14 : Int32) (sg12 : Nat → Nat → Int32) (w13 : Int64) =>
  if x14 = (1 : Int32) then
  (Option.bind (p_X11_its F x9 (3 : Int32) sg12 w13) (fun (x15 : Int32) =>
  pk_X11_worth_63 F  x15 sg12 w13))
  else (pk_X11_worth_62 F  sg12 w13))))))))))
set_option maxRecDepth 100000 in
set_option maxHeartbeats 4000000 in
theorem ec_X11_worth_63 {F : Nat} {G0 : GH} {mo n : Nat}    {s0 : Int32} {sg : Nat → Nat → Int32} {w : Int64} : k_X11_worth_63 F  mo s0 n (mput G0 mo sg w) = Option.map (fun z => (z.1, n, mput G0 mo z.2.1 z.2.2)) (pk_X11_worth_63 F   s0 sg w) := by
  unfold k_X11_worth_63 pk_X11_worth_63
  refine q_cvU (e_X11_copies) (fun sg10 w11 => ?_)
  rfl
set_option maxRecDepth 100000 in
set_option maxHeartbeats 4000000 in
theorem ec_X11_worth_62 {F : Nat} {G0 : GH} {mo n : Nat}     {sg : Nat → Nat → Int32} {w : Int64} : k_X11_worth_62 F  mo  n (mput G0 mo sg w) = Option.map (fun z => (z.1, n, mput G0 mo z.2.1 z.2.2)) (pk_X11_worth_62 F    sg w) := by
  unfold k_X11_worth_62 pk_X11_worth_62
  exact ec_X11_worth_63 
set_option maxRecDepth 100000 in
set_option maxHeartbeats 4000000 in
theorem e_X11_worth {F : Nat} {G0 : GH} {mo n : Nat} {v1 : Int32} {sg : Nat → Nat → Int32} {w : Int64} : f_X11_worth F mo v1 n (mput G0 mo sg w) = Option.map (fun z => (z.1, n, mput G0 mo z.2.1 z.2.2)) (p_X11_worth F v1 sg w) := by
  unfold f_X11_worth p_X11_worth
  refine q_pI 0 (mp_0 _ _ _ _) (fun sg1 => ?_)
  refine q_cvP (e_X11_isPart) (fun x2 => ?_)
  refine q_ite ?_ ?_
  · rfl
  · refine q_cvU (e_X11_copies) (fun sg3 w4 => ?_)
    refine q_pI 29 (mp_29 _ _ _ _) (fun sg5 => ?_)
    refine q_gR 1 1 rfl ?_
    refine q_aI rfl rfl (by decide) (fun x6 => ?_)
    refine q_cvI (e_X11_asks) (fun x9 sg7 w8 => ?_)
    refine q_ite ?_ ?_
    · exact ec_X11_worth_62 
    · refine q_cvI (e_X11_reckons) (fun x14 sg12 w13 => ?_)
      refine q_ite ?_ ?_
      · refine q_cvP (e_X11_its) (fun x15 => ?_)
        exact ec_X11_worth_63 
      · exact ec_X11_worth_62 
/-! X11_copiesText -/
def pb_X11_copiesText_8 (F : Nat)  (v1 : Int32) (v2 : Int32) (prec8 : Int32 → (Nat → Nat → Int32) → Int64 → Option ((Nat → Nat → Int32) × Int64)) : Int32 → (Nat → Nat → Int32) → Int64 → Option ((Nat → Nat → Int32) × Int64) := fun v3 sg w =>
  if (600 : Int32) ≤ v3 then
  (some (sg, w))
  else (Option.bind (mI sg 2 2400 (((600 : Int32) * v1) + v3)) (fun (x3 : Int32) =>
  Option.bind (mS sg 2 2400 (((600 : Int32) * v2) + v3) (vp_nar .byte x3)) (fun (sg4 : Nat → Nat → Int32) =>
  prec8 (v3 + 1) sg4 w)))
def p_X11_copiesText (F : Nat) (v1 : Int32) (v2 : Int32) (sg : Nat → Nat → Int32) (w : Int64) : Option ((Nat → Nat → Int32) × Int64) :=
  pcU (p_X11_copies F v1 v2 sg w) (fun (sg1 : Nat → Nat → Int32) (w2 : Int64) =>
  fixN (fun _ _ _ => none) (pb_X11_copiesText_8 F  v1 v2) F (0 : Int32) sg1 w2)
set_option maxRecDepth 100000 in
set_option maxHeartbeats 4000000 in
theorem el_X11_copiesText_8 {F : Nat} {G0 : GH} {mo n : Nat}   {v1 : Int32} {v2 : Int32} : ∀ (K : Nat) (v3 : Int32) (sg : Nat → Nat → Int32) (w : Int64), fixN ((fun _ _ _ => none) : Int32 → Nat → GH → Option (Nat × GH)) (b_X11_copiesText_8 F  mo v1 v2) K v3 n (mput G0 mo sg w) = Option.map (fun z => (n, mput G0 mo z.1 z.2)) (fixN ((fun _ _ _ => none) : Int32 → (Nat → Nat → Int32) → Int64 → Option ((Nat → Nat → Int32) × Int64)) (pb_X11_copiesText_8 F  v1 v2) K v3 sg w) := by
  intro K
  refine fixN_ind2 (P := fun (r : Int32 → Nat → GH → Option (Nat × GH)) (r1 : Int32 → (Nat → Nat → Int32) → Int64 → Option ((Nat → Nat → Int32) × Int64)) => ∀ (v3 : Int32) (sg : Nat → Nat → Int32) (w : Int64), r v3 n (mput G0 mo sg w) = Option.map (fun z => (n, mput G0 mo z.1 z.2)) (r1 v3 sg w)) ?_ ?_ K
  · intro v3 sg w
    rfl
  · intro rec8 prec8 hrec8 v3 sg w
    unfold b_X11_copiesText_8 pb_X11_copiesText_8
    refine q_ite ?_ ?_
    · rfl
    · refine q_gR 2 2 rfl ?_
      refine q_gR 2 2 rfl ?_
      refine q_aI rfl rfl (by decide) (fun x3 => ?_)
      refine q_aS rfl rfl (by decide) (fun sg4 => ?_)
      exact hrec8 _ _ _
set_option maxRecDepth 100000 in
set_option maxHeartbeats 4000000 in
theorem e_X11_copiesText {F : Nat} {G0 : GH} {mo n : Nat} {v1 : Int32} {v2 : Int32} {sg : Nat → Nat → Int32} {w : Int64} : f_X11_copiesText F mo v1 v2 n (mput G0 mo sg w) = Option.map (fun z => (n, mput G0 mo z.1 z.2)) (p_X11_copiesText F v1 v2 sg w) := by
  unfold f_X11_copiesText p_X11_copiesText
  refine q_cvU (e_X11_copies) (fun sg1 w2 => ?_)
  exact el_X11_copiesText_8  _ _ _ _
/-! X11_image -/
def p_X11_image (F : Nat) (v1 : Int32) (sg : Nat → Nat → Int32) (w : Int64) : Option (Int32 × (Nat → Nat → Int32) × Int64) :=
  gnm (up2 sg 0 0 (0 : Int32)) (fun (sg1 : Nat → Nat → Int32) =>
  Option.bind (p_X11_in F v1 (0 : Int32) (2 : Int32)) (fun (x2 : Int32) =>
  if x2 = 0 then
  (mN .boolean (0 : Int32) sg1 w)
  else (pcU (p_X11_copiesText F (0 : Int32) (v1 + (1 : Int32)) sg1 w) (fun (sg3 : Nat → Nat → Int32) (w4 : Int64) =>
  Option.bind (mS sg3 3 3 v1 (vp_nar .boolean (1 : Int32))) (fun (sg5 : Nat → Nat → Int32) =>
  mN .boolean (1 : Int32) sg5 w4)))))
set_option maxRecDepth 100000 in
set_option maxHeartbeats 4000000 in
theorem e_X11_image {F : Nat} {G0 : GH} {mo n : Nat} {v1 : Int32} {sg : Nat → Nat → Int32} {w : Int64} : f_X11_image F mo v1 n (mput G0 mo sg w) = Option.map (fun z => (z.1, n, mput G0 mo z.2.1 z.2.2)) (p_X11_image F v1 sg w) := by
  unfold f_X11_image p_X11_image
  refine q_pI 0 (mp_0 _ _ _ _) (fun sg1 => ?_)
  refine q_bd (e_X11_in) (fun x2 => ?_)
  refine q_ite ?_ ?_
  · exact q_rN
  · refine q_cvU (e_X11_copiesText) (fun sg3 w4 => ?_)
    refine q_gR 3 3 rfl ?_
    refine q_aS rfl rfl (by decide) (fun sg5 => ?_)
    exact q_rN
/-! X11_again -/
def p_X11_again (F : Nat) (v1 : Int32) (sg : Nat → Nat → Int32) (w : Int64) : Option (Int32 × (Nat → Nat → Int32) × Int64) :=
  gnm (up2 sg 0 0 (0 : Int32)) (fun (sg1 : Nat → Nat → Int32) =>
  Option.bind (p_X11_in F v1 (0 : Int32) (2 : Int32)) (fun (x2 : Int32) =>
  if x2 = 0 then
  (mN .boolean (0 : Int32) sg1 w)
  else (Option.bind (mI sg1 3 3 v1) (fun (x3 : Int32) =>
  if x3 = 0 then
  (mN .boolean (0 : Int32) sg1 w)
  else (pcU (p_X11_copiesText F (v1 + (1 : Int32)) (0 : Int32) sg1 w) (fun (sg4 : Nat → Nat → Int32) (w5 : Int64) =>
  gnm (up2 sg4 0 5 (0 : Int32)) (fun (sg6 : Nat → Nat → Int32) =>
  mN .boolean (1 : Int32) sg6 w5)))))))
set_option maxRecDepth 100000 in
set_option maxHeartbeats 4000000 in
theorem e_X11_again {F : Nat} {G0 : GH} {mo n : Nat} {v1 : Int32} {sg : Nat → Nat → Int32} {w : Int64} : f_X11_again F mo v1 n (mput G0 mo sg w) = Option.map (fun z => (z.1, n, mput G0 mo z.2.1 z.2.2)) (p_X11_again F v1 sg w) := by
  unfold f_X11_again p_X11_again
  refine q_pI 0 (mp_0 _ _ _ _) (fun sg1 => ?_)
  refine q_bd (e_X11_in) (fun x2 => ?_)
  refine q_ite ?_ ?_
  · exact q_rN
  · refine q_gR 3 3 rfl ?_
    refine q_aI rfl rfl (by decide) (fun x3 => ?_)
    refine q_ite ?_ ?_
    · exact q_rN
    · refine q_cvU (e_X11_copiesText) (fun sg4 w5 => ?_)
      refine q_pI 5 (mp_5 _ _ _ _) (fun sg6 => ?_)
      exact q_rN
