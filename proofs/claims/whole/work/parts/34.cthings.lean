/-! J7_fill_53178 -/
def pb_J7_fill_53178_5 (F : Nat)  (N0 : Nat) (v0 : Nat)  (v1 : Int32) (v3 : Int32) (prec5 : Int32 → (Nat → Nat → Int32) → (Nat → Nat → Int64) → Option ((Nat → Nat → Int32) × (Nat → Nat → Int64))) : Int32 → (Nat → Nat → Int32) → (Nat → Nat → Int64) → Option ((Nat → Nat → Int32) × (Nat → Nat → Int64)) := fun v2 sg lg =>
  if v3 ≤ v2 then
  (some (sg, lg))
  else (Option.bind (mS sg v0 N0 v2 v1) (fun (sg2 : Nat → Nat → Int32) =>
  prec5 (v2 + 1) sg2 lg))
def p_J7_fill_53178 (F : Nat)  (N0 : Nat) (v0 : Nat) (v1 : Int32) (sg : Nat → Nat → Int32) (lg : Nat → Nat → Int64) : Option ((Nat → Nat → Int32) × (Nat → Nat → Int64)) :=
  gnm (Int32.ofNat N0) (fun (y1 : Int32) =>
  fixN (fun _ _ _ => none) (pb_J7_fill_53178_5 F  N0 v0  v1 y1) F (0 : Int32) sg lg)
set_option maxRecDepth 100000 in
set_option maxHeartbeats 4000000 in
theorem el_J7_fill_53178_5 {F : Nat} {K : HK} {pr : HP} {pt : Nat → Nat} {rr : HP} {n : Nat} {N0 : Nat}  {v0 : Nat}  (hv0 : K v0 = some (.inl (0, N0)))   {v1 : Int32} {v3 : Int32} : ∀ (k : Nat) (v2 : Int32) (sg : Nat → Nat → Int32) (lg : Nat → Nat → Int64), fixN ((fun _ _ _ => none) : Int32 → Nat → GH → Option (Nat × GH)) (b_J7_fill_53178_5 F   v0 v1 v3) k v2 n (hp K pr pt rr sg lg) = Option.map (fun z => (n, hp K pr pt rr z.1 z.2)) (fixN ((fun _ _ _ => none) : Int32 → (Nat → Nat → Int32) → (Nat → Nat → Int64) → Option ((Nat → Nat → Int32) × (Nat → Nat → Int64))) (pb_J7_fill_53178_5 F  N0 v0  v1 v3) k v2 sg lg) := by
  intro k
  refine fixN_ind2 (P := fun (r : Int32 → Nat → GH → Option (Nat × GH)) (r1 : Int32 → (Nat → Nat → Int32) → (Nat → Nat → Int64) → Option ((Nat → Nat → Int32) × (Nat → Nat → Int64))) => ∀ (v2 : Int32) (sg : Nat → Nat → Int32) (lg : Nat → Nat → Int64), r v2 n (hp K pr pt rr sg lg) = Option.map (fun z => (n, hp K pr pt rr z.1 z.2)) (r1 v2 sg lg)) ?_ ?_ k
  · intro v2 sg lg
    rfl
  · intro rec5 prec5 hrec5 v2 sg lg
    unfold b_J7_fill_53178_5 pb_J7_fill_53178_5
    refine q_ite ?_ ?_
    · rfl
    · refine c_aS hv0 (by decide) (fun sg2 => ?_)
      exact hrec5 _ _ _
set_option maxRecDepth 100000 in
set_option maxHeartbeats 4000000 in
theorem e_J7_fill_53178 {F : Nat} {K : HK} {pr : HP} {pt : Nat → Nat} {rr : HP} {n : Nat} {N0 : Nat}  {v0 : Nat} {v1 : Int32} (hv0 : K v0 = some (.inl (0, N0)))  {sg : Nat → Nat → Int32} {lg : Nat → Nat → Int64} : f_J7_fill_53178 F  v0 v1 n (hp K pr pt rr sg lg) = Option.map (fun z => (n, hp K pr pt rr z.1 z.2)) (p_J7_fill_53178 F  N0 v0 v1 sg lg) := by
  unfold f_J7_fill_53178 p_J7_fill_53178
  refine c_aL hv0 (by decide) ?_
  refine c_nr ?_
  exact el_J7_fill_53178_5 hv0   _ _ _ _
/-! X7_holds -/
def p_X7_holds (F : Nat)   (v0 : Nat) (v1 : Int32) (sg : Nat → Nat → Int32) (lg : Nat → Nat → Int64) : Option (Int32) :=
  if v1 < 0 then
  (rP .boolean (0 : Int32))
  else (if (sg v0 0) ≤ v1 then
  (rP .boolean (0 : Int32))
  else (rP .boolean (1 : Int32)))
set_option maxRecDepth 100000 in
set_option maxHeartbeats 4000000 in
theorem e_X7_holds {F : Nat} {K : HK} {pr : HP} {pt : Nat → Nat} {rr : HP}   {v0 : Nat} {v1 : Int32} (hv0 : OkThings K pr v0 )  {sg : Nat → Nat → Int32} {lg : Nat → Nat → Int64} : f_X7_holds F  v0 v1 (hp K pr pt rr sg lg) = p_X7_holds F   v0 v1 sg lg := by
  refine Eq.trans ?_ (q_mid _)
  unfold f_X7_holds p_X7_holds
  refine q_ite ?_ ?_
  · exact q_id
  · refine c_gI (hv0).k0 rfl ?_
    refine q_ite ?_ ?_
    · exact q_id
    · exact q_id
/-! X7_isFull -/
def p_X7_isFull (F : Nat)   (v0 : Nat) (sg : Nat → Nat → Int32) (lg : Nat → Nat → Int64) : Option (Int32) :=
  if (sg v0 0) < (60 : Int32) then
  (rP .boolean (0 : Int32))
  else (rP .boolean (1 : Int32))
set_option maxRecDepth 100000 in
set_option maxHeartbeats 4000000 in
theorem e_X7_isFull {F : Nat} {K : HK} {pr : HP} {pt : Nat → Nat} {rr : HP}   {v0 : Nat} (hv0 : OkThings K pr v0 )  {sg : Nat → Nat → Int32} {lg : Nat → Nat → Int64} : f_X7_isFull F  v0 (hp K pr pt rr sg lg) = p_X7_isFull F   v0 sg lg := by
  refine Eq.trans ?_ (q_mid _)
  unfold f_X7_isFull p_X7_isFull
  refine c_gI (hv0).k0 rfl ?_
  refine q_ite ?_ ?_
  · exact q_id
  · exact q_id
/-! X7_find -/
def pb_X7_find_2 (F : Nat)   (v0 : Nat)  (v1 : Int32) (v2 : Int32) (sg : Nat → Nat → Int32) (lg : Nat → Nat → Int64) (prec2 : Int32 → Option (Int32)) : Int32 → Option (Int32) := fun v3 =>
  if (sg v0 0) ≤ v3 then
  (some (-1 : Int32))
  else (Option.bind (mI sg (v0 + 1) 60 v3) (fun (x1 : Int32) =>
  if x1 = v1 then
  (Option.bind (mI sg (v0 + 2) 60 v3) (fun (x2 : Int32) =>
  if x2 = v2 then
  (some v3)
  else (prec2 (v3 + 1))))
  else (prec2 (v3 + 1))))
def p_X7_find (F : Nat)   (v0 : Nat) (v1 : Int32) (v2 : Int32) (sg : Nat → Nat → Int32) (lg : Nat → Nat → Int64) : Option (Int32) :=
  fixN (fun _ => none) (pb_X7_find_2 F   v0  v1 v2 sg lg) F (0 : Int32)
set_option maxRecDepth 100000 in
set_option maxHeartbeats 4000000 in
theorem el_X7_find_2 {F : Nat} {K : HK} {pr : HP} {pt : Nat → Nat} {rr : HP}   {v0 : Nat}  (hv0 : OkThings K pr v0 )   {v1 : Int32} {v2 : Int32} {sg : Nat → Nat → Int32} {lg : Nat → Nat → Int64} : ∀ (k : Nat) (v3 : Int32), fixN ((fun _ => none) : Int32 → Option (Int32)) (b_X7_find_2 F   v0 v1 v2 (hp K pr pt rr sg lg)) k v3 = Option.map (fun z => z) (fixN ((fun _ => none) : Int32 → Option (Int32)) (pb_X7_find_2 F   v0  v1 v2 sg lg) k v3) := by
  intro k
  refine fixN_ind2 (P := fun (r : Int32 → Option (Int32)) (r1 : Int32 → Option (Int32)) => ∀ (v3 : Int32), r v3 = Option.map (fun z => z) (r1 v3)) ?_ ?_ k
  · intro v3
    rfl
  · intro rec2 prec2 hrec2 v3
    unfold b_X7_find_2 pb_X7_find_2
    refine c_gI (hv0).k0 rfl ?_
    refine q_ite ?_ ?_
    · rfl
    · refine c_gR (hv0).k0 rfl (hv0).p1 ?_
      refine c_aI (hv0).k1 (by decide) (fun x1 => ?_)
      refine q_ite ?_ ?_
      · refine c_gR (hv0).k0 rfl (hv0).p2 ?_
        refine c_aI (hv0).k2 (by decide) (fun x2 => ?_)
        refine q_ite ?_ ?_
        · rfl
        · exact hrec2 _
      · exact hrec2 _
set_option maxRecDepth 100000 in
set_option maxHeartbeats 4000000 in
theorem e_X7_find {F : Nat} {K : HK} {pr : HP} {pt : Nat → Nat} {rr : HP}   {v0 : Nat} {v1 : Int32} {v2 : Int32} (hv0 : OkThings K pr v0 )  {sg : Nat → Nat → Int32} {lg : Nat → Nat → Int64} : f_X7_find F  v0 v1 v2 (hp K pr pt rr sg lg) = p_X7_find F   v0 v1 v2 sg lg := by
  refine Eq.trans ?_ (q_mid _)
  unfold f_X7_find p_X7_find
  exact el_X7_find_2 hv0   _ _
/-! X7_add -/
def pk_X7_add_115 (F : Nat)  (N3 : Nat) (v0 : Nat) (v3 : Nat)  (v5 : Int32)  (sg : Nat → Nat → Int32) (lg : Nat → Nat → Int64) : Option (Int32 × (Nat → Nat → Int32) × (Nat → Nat → Int64)) :=
  gnm (up2 sg v0 0 ((sg v0 0) + (1 : Int32))) (fun (sg6 : Nat → Nat → Int32) =>
  some (v5, sg6, lg))
def pk_X7_add_79 (F : Nat)  (N3 : Nat) (v0 : Nat) (v3 : Nat) (prec53 : Int32 → (Nat → Nat → Int32) → (Nat → Nat → Int64) → Option (Int32 × (Nat → Nat → Int32) × (Nat → Nat → Int64))) (v4 : Int32) (v5 : Int32) (v6 : Int32) (s0 : Int32) (sg : Nat → Nat → Int32) (lg : Nat → Nat → Int64) : Option (Int32 × (Nat → Nat → Int32) × (Nat → Nat → Int64)) :=
  if s0 = 0 then
  (Option.bind (mS sg (v0 + 5) 240 ((v5 * (4 : Int32)) + v6) (-1 : Int32)) (fun (sg7 : Nat → Nat → Int32) =>
  prec53 (v6 + 1) sg7 lg))
  else (Option.bind (mI sg v3 N3 (v4 + v6)) (fun (x8 : Int32) =>
  Option.bind (mS sg (v0 + 5) 240 ((v5 * (4 : Int32)) + v6) x8) (fun (sg9 : Nat → Nat → Int32) =>
  prec53 (v6 + 1) sg9 lg)))
def pk_X7_add_78 (F : Nat)  (N3 : Nat) (v0 : Nat) (v3 : Nat) (prec53 : Int32 → (Nat → Nat → Int32) → (Nat → Nat → Int64) → Option (Int32 × (Nat → Nat → Int32) × (Nat → Nat → Int64))) (v4 : Int32) (v5 : Int32) (v6 : Int32)  (sg : Nat → Nat → Int32) (lg : Nat → Nat → Int64) : Option (Int32 × (Nat → Nat → Int32) × (Nat → Nat → Int64)) :=
  pk_X7_add_79 F  N3 v0 v3 prec53 v4 v5 v6 (0 : Int32) sg lg
def pb_X7_add_53 (F : Nat)  (N3 : Nat) (v0 : Nat) (v3 : Nat)  (v4 : Int32) (v5 : Int32) (prec53 : Int32 → (Nat → Nat → Int32) → (Nat → Nat → Int64) → Option (Int32 × (Nat → Nat → Int32) × (Nat → Nat → Int64))) : Int32 → (Nat → Nat → Int32) → (Nat → Nat → Int64) → Option (Int32 × (Nat → Nat → Int32) × (Nat → Nat → Int64)) := fun v6 sg lg =>
  if (4 : Int32) ≤ v6 then
  (pk_X7_add_115 F  N3 v0 v3  v5 sg lg)
  else (if v4 < 0 then
  (pk_X7_add_78 F  N3 v0 v3 prec53 v4 v5 v6 sg lg)
  else (if (Int32.ofNat N3) ≤ (v4 + v6) then
  (pk_X7_add_78 F  N3 v0 v3 prec53 v4 v5 v6 sg lg)
  else (pk_X7_add_79 F  N3 v0 v3 prec53 v4 v5 v6 (1 : Int32) sg lg)))
def p_X7_add (F : Nat)  (N3 : Nat) (v0 : Nat) (v1 : Int32) (v2 : Int32) (v3 : Nat) (v4 : Int32) (sg : Nat → Nat → Int32) (lg : Nat → Nat → Int64) : Option (Int32 × (Nat → Nat → Int32) × (Nat → Nat → Int64)) :=
  if (sg v0 0) < (60 : Int32) then
  (gnm (sg v0 0) (fun (y1 : Int32) =>
  Option.bind (mS sg (v0 + 1) 60 y1 v1) (fun (sg2 : Nat → Nat → Int32) =>
  Option.bind (mS sg2 (v0 + 2) 60 y1 v2) (fun (sg3 : Nat → Nat → Int32) =>
  Option.bind (mS sg3 (v0 + 3) 60 y1 (vp_nar .boolean (0 : Int32))) (fun (sg4 : Nat → Nat → Int32) =>
  Option.bind (mS sg4 (v0 + 4) 60 y1 (0 : Int32)) (fun (sg5 : Nat → Nat → Int32) =>
  fixN (fun _ _ _ => none) (pb_X7_add_53 F  N3 v0 v3  v4 y1) F (0 : Int32) sg5 lg))))))
  else (some ((-4 : Int32), sg, lg))
set_option maxRecDepth 100000 in
set_option maxHeartbeats 4000000 in
theorem ec_X7_add_115 {F : Nat} {K : HK} {pr : HP} {pt : Nat → Nat} {rr : HP} {n : Nat} {N3 : Nat}  {v0 : Nat} {v3 : Nat}  (hv0 : OkThings K pr v0 ) (hv3 : K v3 = some (.inl (0, N3)))   {v5 : Int32}  {sg : Nat → Nat → Int32} {lg : Nat → Nat → Int64} : k_X7_add_115 F   v0 v5  n (hp K pr pt rr sg lg) = Option.map (fun z => (z.1, n, hp K pr pt rr z.2.1 z.2.2)) (pk_X7_add_115 F  N3 v0 v3  v5  sg lg) := by
  unfold k_X7_add_115 pk_X7_add_115
  refine c_gI (hv0).k0 rfl ?_
  refine c_pI (hv0).k0 rfl (fun sg6 => ?_)
  rfl
set_option maxRecDepth 100000 in
set_option maxHeartbeats 4000000 in
theorem ec_X7_add_79 {F : Nat} {K : HK} {pr : HP} {pt : Nat → Nat} {rr : HP} {n : Nat} {N3 : Nat}  {v0 : Nat} {v3 : Nat} {rec53 : Int32 → Nat → GH → Option (Int32 × Nat × GH)} {prec53 : Int32 → (Nat → Nat → Int32) → (Nat → Nat → Int64) → Option (Int32 × (Nat → Nat → Int32) × (Nat → Nat → Int64))} (hv0 : OkThings K pr v0 ) (hv3 : K v3 = some (.inl (0, N3)))  (hrec53 : ∀ (w6 : Int32) (sg : Nat → Nat → Int32) (lg : Nat → Nat → Int64), rec53 w6 n (hp K pr pt rr sg lg) = Option.map (fun z => (z.1, n, hp K pr pt rr z.2.1 z.2.2)) (prec53 w6 sg lg)) {v4 : Int32} {v5 : Int32} {v6 : Int32} {s0 : Int32} {sg : Nat → Nat → Int32} {lg : Nat → Nat → Int64} : k_X7_add_79 F  rec53 v0 v3 v4 v5 v6 s0 n (hp K pr pt rr sg lg) = Option.map (fun z => (z.1, n, hp K pr pt rr z.2.1 z.2.2)) (pk_X7_add_79 F  N3 v0 v3 prec53 v4 v5 v6 s0 sg lg) := by
  unfold k_X7_add_79 pk_X7_add_79
  refine c_gR (hv0).k0 rfl (hv0).p5 ?_
  refine q_ite ?_ ?_
  · refine c_aS (hv0).k5 (by decide) (fun sg7 => ?_)
    exact hrec53 _ _ _
  · refine c_aI hv3 (by decide) (fun x8 => ?_)
    refine c_aS (hv0).k5 (by decide) (fun sg9 => ?_)
    exact hrec53 _ _ _
set_option maxRecDepth 100000 in
set_option maxHeartbeats 4000000 in
theorem ec_X7_add_78 {F : Nat} {K : HK} {pr : HP} {pt : Nat → Nat} {rr : HP} {n : Nat} {N3 : Nat}  {v0 : Nat} {v3 : Nat} {rec53 : Int32 → Nat → GH → Option (Int32 × Nat × GH)} {prec53 : Int32 → (Nat → Nat → Int32) → (Nat → Nat → Int64) → Option (Int32 × (Nat → Nat → Int32) × (Nat → Nat → Int64))} (hv0 : OkThings K pr v0 ) (hv3 : K v3 = some (.inl (0, N3)))  (hrec53 : ∀ (w6 : Int32) (sg : Nat → Nat → Int32) (lg : Nat → Nat → Int64), rec53 w6 n (hp K pr pt rr sg lg) = Option.map (fun z => (z.1, n, hp K pr pt rr z.2.1 z.2.2)) (prec53 w6 sg lg)) {v4 : Int32} {v5 : Int32} {v6 : Int32}  {sg : Nat → Nat → Int32} {lg : Nat → Nat → Int64} : k_X7_add_78 F  rec53 v0 v3 v4 v5 v6  n (hp K pr pt rr sg lg) = Option.map (fun z => (z.1, n, hp K pr pt rr z.2.1 z.2.2)) (pk_X7_add_78 F  N3 v0 v3 prec53 v4 v5 v6  sg lg) := by
  unfold k_X7_add_78 pk_X7_add_78
  exact ec_X7_add_79 hv0 hv3  hrec53
set_option maxRecDepth 100000 in
set_option maxHeartbeats 4000000 in
theorem el_X7_add_53 {F : Nat} {K : HK} {pr : HP} {pt : Nat → Nat} {rr : HP} {n : Nat} {N3 : Nat}  {v0 : Nat} {v3 : Nat}  (hv0 : OkThings K pr v0 ) (hv3 : K v3 = some (.inl (0, N3)))   {v4 : Int32} {v5 : Int32} : ∀ (k : Nat) (v6 : Int32) (sg : Nat → Nat → Int32) (lg : Nat → Nat → Int64), fixN ((fun _ _ _ => none) : Int32 → Nat → GH → Option (Int32 × Nat × GH)) (b_X7_add_53 F   v0 v3 v4 v5) k v6 n (hp K pr pt rr sg lg) = Option.map (fun z => (z.1, n, hp K pr pt rr z.2.1 z.2.2)) (fixN ((fun _ _ _ => none) : Int32 → (Nat → Nat → Int32) → (Nat → Nat → Int64) → Option (Int32 × (Nat → Nat → Int32) × (Nat → Nat → Int64))) (pb_X7_add_53 F  N3 v0 v3  v4 v5) k v6 sg lg) := by
  intro k
  refine fixN_ind2 (P := fun (r : Int32 → Nat → GH → Option (Int32 × Nat × GH)) (r1 : Int32 → (Nat → Nat → Int32) → (Nat → Nat → Int64) → Option (Int32 × (Nat → Nat → Int32) × (Nat → Nat → Int64))) => ∀ (v6 : Int32) (sg : Nat → Nat → Int32) (lg : Nat → Nat → Int64), r v6 n (hp K pr pt rr sg lg) = Option.map (fun z => (z.1, n, hp K pr pt rr z.2.1 z.2.2)) (r1 v6 sg lg)) ?_ ?_ k
  · intro v6 sg lg
    rfl
  · intro rec53 prec53 hrec53 v6 sg lg
    unfold b_X7_add_53 pb_X7_add_53
    refine q_ite ?_ ?_
    · exact ec_X7_add_115 hv0 hv3  
    · refine q_ite ?_ ?_
      · exact ec_X7_add_78 hv0 hv3  hrec53
      · refine c_aL hv3 (by decide) ?_
        refine q_ite ?_ ?_
        · exact ec_X7_add_78 hv0 hv3  hrec53
        · exact ec_X7_add_79 hv0 hv3  hrec53
set_option maxRecDepth 100000 in
set_option maxHeartbeats 4000000 in
theorem e_X7_add {F : Nat} {K : HK} {pr : HP} {pt : Nat → Nat} {rr : HP} {n : Nat} {N3 : Nat}  {v0 : Nat} {v1 : Int32} {v2 : Int32} {v3 : Nat} {v4 : Int32} (hv0 : OkThings K pr v0 ) (hv3 : K v3 = some (.inl (0, N3)))  {sg : Nat → Nat → Int32} {lg : Nat → Nat → Int64} : f_X7_add F  v0 v1 v2 v3 v4 n (hp K pr pt rr sg lg) = Option.map (fun z => (z.1, n, hp K pr pt rr z.2.1 z.2.2)) (p_X7_add F  N3 v0 v1 v2 v3 v4 sg lg) := by
  unfold f_X7_add p_X7_add
  refine c_gI (hv0).k0 rfl ?_
  refine q_ite ?_ ?_
  · refine c_gI (hv0).k0 rfl ?_
    refine c_nr ?_
    refine c_gR (hv0).k0 rfl (hv0).p1 ?_
    refine c_aS (hv0).k1 (by decide) (fun sg2 => ?_)
    refine c_gR (hv0).k0 rfl (hv0).p2 ?_
    refine c_aS (hv0).k2 (by decide) (fun sg3 => ?_)
    refine c_gR (hv0).k0 rfl (hv0).p3 ?_
    refine c_aS (hv0).k3 (by decide) (fun sg4 => ?_)
    refine c_gR (hv0).k0 rfl (hv0).p4 ?_
    refine c_aS (hv0).k4 (by decide) (fun sg5 => ?_)
    exact el_X7_add_53 hv0 hv3   _ _ _ _
  · rfl
/-! X7_ownedAt -/
def p_X7_ownedAt (F : Nat)   (v0 : Nat) (v1 : Int32) (v2 : Int32) (sg : Nat → Nat → Int32) (lg : Nat → Nat → Int64) : Option (Int32) :=
  Option.bind (p_X7_holds F  v0 v1 sg lg) (fun (x1 : Int32) =>
  if x1 = 0 then
  (some (-1 : Int32))
  else (if v2 < 0 then
  (some (-1 : Int32))
  else (if v2 < (4 : Int32) then
  (Option.bind (mI sg (v0 + 5) 240 ((v1 * (4 : Int32)) + v2)) (fun (x2 : Int32) =>
  some x2))
  else (some (-1 : Int32)))))
set_option maxRecDepth 100000 in
set_option maxHeartbeats 4000000 in
theorem e_X7_ownedAt {F : Nat} {K : HK} {pr : HP} {pt : Nat → Nat} {rr : HP}   {v0 : Nat} {v1 : Int32} {v2 : Int32} (hv0 : OkThings K pr v0 )  {sg : Nat → Nat → Int32} {lg : Nat → Nat → Int64} : f_X7_ownedAt F  v0 v1 v2 (hp K pr pt rr sg lg) = p_X7_ownedAt F   v0 v1 v2 sg lg := by
  refine Eq.trans ?_ (q_mid _)
  unfold f_X7_ownedAt p_X7_ownedAt
  refine c_cvP (hv0).k0 (e_X7_holds (hv0)) (fun x1 => ?_)
  refine q_ite ?_ ?_
  · rfl
  · refine q_ite ?_ ?_
    · rfl
    · refine q_ite ?_ ?_
      · refine c_gR (hv0).k0 rfl (hv0).p5 ?_
        refine c_aI (hv0).k5 (by decide) (fun x2 => ?_)
        rfl
      · rfl
/-! X7_setOwned -/
def p_X7_setOwned (F : Nat)   (v0 : Nat) (v1 : Int32) (v2 : Int32) (v3 : Int32) (sg : Nat → Nat → Int32) (lg : Nat → Nat → Int64) : Option ((Nat → Nat → Int32) × (Nat → Nat → Int64)) :=
  Option.bind (p_X7_holds F  v0 v1 sg lg) (fun (x1 : Int32) =>
  if x1 = 0 then
  (some (sg, lg))
  else (if v2 < 0 then
  (some (sg, lg))
  else (if (4 : Int32) ≤ v2 then
  (some (sg, lg))
  else (Option.bind (mS sg (v0 + 5) 240 ((v1 * (4 : Int32)) + v2) v3) (fun (sg2 : Nat → Nat → Int32) =>
  some (sg2, lg))))))
set_option maxRecDepth 100000 in
set_option maxHeartbeats 4000000 in
theorem e_X7_setOwned {F : Nat} {K : HK} {pr : HP} {pt : Nat → Nat} {rr : HP} {n : Nat}   {v0 : Nat} {v1 : Int32} {v2 : Int32} {v3 : Int32} (hv0 : OkThings K pr v0 )  {sg : Nat → Nat → Int32} {lg : Nat → Nat → Int64} : f_X7_setOwned F  v0 v1 v2 v3 n (hp K pr pt rr sg lg) = Option.map (fun z => (n, hp K pr pt rr z.1 z.2)) (p_X7_setOwned F   v0 v1 v2 v3 sg lg) := by
  unfold f_X7_setOwned p_X7_setOwned
  refine c_cvP (hv0).k0 (e_X7_holds (hv0)) (fun x1 => ?_)
  refine q_ite ?_ ?_
  · rfl
  · refine q_ite ?_ ?_
    · rfl
    · refine q_ite ?_ ?_
      · rfl
      · refine c_gR (hv0).k0 rfl (hv0).p5 ?_
        refine c_aS (hv0).k5 (by decide) (fun sg2 => ?_)
        rfl
/-! X7_setValue -/
def p_X7_setValue (F : Nat)   (v0 : Nat) (v1 : Int32) (v2 : Int32) (sg : Nat → Nat → Int32) (lg : Nat → Nat → Int64) : Option ((Nat → Nat → Int32) × (Nat → Nat → Int64)) :=
  Option.bind (p_X7_holds F  v0 v1 sg lg) (fun (x1 : Int32) =>
  if x1 = 0 then
  (some (sg, lg))
  else (Option.bind (mS sg (v0 + 3) 60 v1 (vp_nar .boolean (1 : Int32))) (fun (sg2 : Nat → Nat → Int32) =>
  Option.bind (mS sg2 (v0 + 4) 60 v1 v2) (fun (sg3 : Nat → Nat → Int32) =>
  some (sg3, lg)))))
set_option maxRecDepth 100000 in
set_option maxHeartbeats 4000000 in
theorem e_X7_setValue {F : Nat} {K : HK} {pr : HP} {pt : Nat → Nat} {rr : HP} {n : Nat}   {v0 : Nat} {v1 : Int32} {v2 : Int32} (hv0 : OkThings K pr v0 )  {sg : Nat → Nat → Int32} {lg : Nat → Nat → Int64} : f_X7_setValue F  v0 v1 v2 n (hp K pr pt rr sg lg) = Option.map (fun z => (n, hp K pr pt rr z.1 z.2)) (p_X7_setValue F   v0 v1 v2 sg lg) := by
  unfold f_X7_setValue p_X7_setValue
  refine c_cvP (hv0).k0 (e_X7_holds (hv0)) (fun x1 => ?_)
  refine q_ite ?_ ?_
  · rfl
  · refine c_gR (hv0).k0 rfl (hv0).p3 ?_
    refine c_aS (hv0).k3 (by decide) (fun sg2 => ?_)
    refine c_gR (hv0).k0 rfl (hv0).p4 ?_
    refine c_aS (hv0).k4 (by decide) (fun sg3 => ?_)
    rfl
/-! X7_countOwned -/
def pb_X7_countOwned_4 (F : Nat)   (v0 : Nat)  (v1 : Int32) (sg : Nat → Nat → Int32) (lg : Nat → Nat → Int64) (prec4 : Int32 → Int32 → Option (Int32)) : Int32 → Int32 → Option (Int32) := fun v2 v3 =>
  if (4 : Int32) ≤ v3 then
  (some v2)
  else (Option.bind (p_X7_ownedAt F  v0 v1 v3 sg lg) (fun (x1 : Int32) =>
  if x1 = (-1 : Int32) then
  (prec4 v2 (v3 + 1))
  else (prec4 (v2 + 1) (v3 + 1))))
def p_X7_countOwned (F : Nat)   (v0 : Nat) (v1 : Int32) (sg : Nat → Nat → Int32) (lg : Nat → Nat → Int64) : Option (Int32) :=
  fixN (fun _ _ => none) (pb_X7_countOwned_4 F   v0  v1 sg lg) F (0 : Int32) (0 : Int32)
set_option maxRecDepth 100000 in
set_option maxHeartbeats 4000000 in
theorem el_X7_countOwned_4 {F : Nat} {K : HK} {pr : HP} {pt : Nat → Nat} {rr : HP}   {v0 : Nat}  (hv0 : OkThings K pr v0 )   {v1 : Int32} {sg : Nat → Nat → Int32} {lg : Nat → Nat → Int64} : ∀ (k : Nat) (v2 : Int32) (v3 : Int32), fixN ((fun _ _ => none) : Int32 → Int32 → Option (Int32)) (b_X7_countOwned_4 F   v0 v1 (hp K pr pt rr sg lg)) k v2 v3 = Option.map (fun z => z) (fixN ((fun _ _ => none) : Int32 → Int32 → Option (Int32)) (pb_X7_countOwned_4 F   v0  v1 sg lg) k v2 v3) := by
  intro k
  refine fixN_ind2 (P := fun (r : Int32 → Int32 → Option (Int32)) (r1 : Int32 → Int32 → Option (Int32)) => ∀ (v2 : Int32) (v3 : Int32), r v2 v3 = Option.map (fun z => z) (r1 v2 v3)) ?_ ?_ k
  · intro v2 v3
    rfl
  · intro rec4 prec4 hrec4 v2 v3
    unfold b_X7_countOwned_4 pb_X7_countOwned_4
    refine q_ite ?_ ?_
    · rfl
    · refine c_cvP (hv0).k0 (e_X7_ownedAt (hv0)) (fun x1 => ?_)
      refine q_ite ?_ ?_
      · exact hrec4 _ _
      · exact hrec4 _ _
set_option maxRecDepth 100000 in
set_option maxHeartbeats 4000000 in
theorem e_X7_countOwned {F : Nat} {K : HK} {pr : HP} {pt : Nat → Nat} {rr : HP}   {v0 : Nat} {v1 : Int32} (hv0 : OkThings K pr v0 )  {sg : Nat → Nat → Int32} {lg : Nat → Nat → Int64} : f_X7_countOwned F  v0 v1 (hp K pr pt rr sg lg) = p_X7_countOwned F   v0 v1 sg lg := by
  refine Eq.trans ?_ (q_mid _)
  unfold f_X7_countOwned p_X7_countOwned
  exact el_X7_countOwned_4 hv0   _ _ _
/-! X7_countValued -/
def pb_X7_countValued_4 (F : Nat)   (v0 : Nat)   (sg : Nat → Nat → Int32) (lg : Nat → Nat → Int64) (prec4 : Int32 → Int32 → Option (Int32)) : Int32 → Int32 → Option (Int32) := fun v1 v2 =>
  if (sg v0 0) ≤ v2 then
  (some v1)
  else (Option.bind (mI sg (v0 + 3) 60 v2) (fun (x1 : Int32) =>
  if x1 = 0 then
  (prec4 v1 (v2 + 1))
  else (prec4 (v1 + 1) (v2 + 1))))
def p_X7_countValued (F : Nat)   (v0 : Nat) (sg : Nat → Nat → Int32) (lg : Nat → Nat → Int64) : Option (Int32) :=
  fixN (fun _ _ => none) (pb_X7_countValued_4 F   v0   sg lg) F (0 : Int32) (0 : Int32)
set_option maxRecDepth 100000 in
set_option maxHeartbeats 4000000 in
theorem el_X7_countValued_4 {F : Nat} {K : HK} {pr : HP} {pt : Nat → Nat} {rr : HP}   {v0 : Nat}  (hv0 : OkThings K pr v0 )    {sg : Nat → Nat → Int32} {lg : Nat → Nat → Int64} : ∀ (k : Nat) (v1 : Int32) (v2 : Int32), fixN ((fun _ _ => none) : Int32 → Int32 → Option (Int32)) (b_X7_countValued_4 F   v0 (hp K pr pt rr sg lg)) k v1 v2 = Option.map (fun z => z) (fixN ((fun _ _ => none) : Int32 → Int32 → Option (Int32)) (pb_X7_countValued_4 F   v0   sg lg) k v1 v2) := by
  intro k
  refine fixN_ind2 (P := fun (r : Int32 → Int32 → Option (Int32)) (r1 : Int32 → Int32 → Option (Int32)) => ∀ (v1 : Int32) (v2 : Int32), r v1 v2 = Option.map (fun z => z) (r1 v1 v2)) ?_ ?_ k
  · intro v1 v2
    rfl
  · intro rec4 prec4 hrec4 v1 v2
    unfold b_X7_countValued_4 pb_X7_countValued_4
    refine c_gI (hv0).k0 rfl ?_
    refine q_ite ?_ ?_
    · rfl
    · refine c_gR (hv0).k0 rfl (hv0).p3 ?_
      refine c_aI (hv0).k3 (by decide) (fun x1 => ?_)
      refine q_ite ?_ ?_
      · exact hrec4 _ _
      · exact hrec4 _ _
set_option maxRecDepth 100000 in
set_option maxHeartbeats 4000000 in
theorem e_X7_countValued {F : Nat} {K : HK} {pr : HP} {pt : Nat → Nat} {rr : HP}   {v0 : Nat} (hv0 : OkThings K pr v0 )  {sg : Nat → Nat → Int32} {lg : Nat → Nat → Int64} : f_X7_countValued F  v0 (hp K pr pt rr sg lg) = p_X7_countValued F   v0 sg lg := by
  refine Eq.trans ?_ (q_mid _)
  unfold f_X7_countValued p_X7_countValued
  exact el_X7_countValued_4 hv0   _ _ _
/-! X7_countOf -/
def pb_X7_countOf_4 (F : Nat)   (v0 : Nat)  (v1 : Int32) (sg : Nat → Nat → Int32) (lg : Nat → Nat → Int64) (prec4 : Int32 → Int32 → Option (Int32)) : Int32 → Int32 → Option (Int32) := fun v2 v3 =>
  if (sg v0 0) ≤ v3 then
  (some v2)
  else (Option.bind (mI sg (v0 + 1) 60 v3) (fun (x1 : Int32) =>
  if x1 = v1 then
  (prec4 (v2 + 1) (v3 + 1))
  else (prec4 v2 (v3 + 1))))
def p_X7_countOf (F : Nat)   (v0 : Nat) (v1 : Int32) (sg : Nat → Nat → Int32) (lg : Nat → Nat → Int64) : Option (Int32) :=
  fixN (fun _ _ => none) (pb_X7_countOf_4 F   v0  v1 sg lg) F (0 : Int32) (0 : Int32)
set_option maxRecDepth 100000 in
set_option maxHeartbeats 4000000 in
theorem el_X7_countOf_4 {F : Nat} {K : HK} {pr : HP} {pt : Nat → Nat} {rr : HP}   {v0 : Nat}  (hv0 : OkThings K pr v0 )   {v1 : Int32} {sg : Nat → Nat → Int32} {lg : Nat → Nat → Int64} : ∀ (k : Nat) (v2 : Int32) (v3 : Int32), fixN ((fun _ _ => none) : Int32 → Int32 → Option (Int32)) (b_X7_countOf_4 F   v0 v1 (hp K pr pt rr sg lg)) k v2 v3 = Option.map (fun z => z) (fixN ((fun _ _ => none) : Int32 → Int32 → Option (Int32)) (pb_X7_countOf_4 F   v0  v1 sg lg) k v2 v3) := by
  intro k
  refine fixN_ind2 (P := fun (r : Int32 → Int32 → Option (Int32)) (r1 : Int32 → Int32 → Option (Int32)) => ∀ (v2 : Int32) (v3 : Int32), r v2 v3 = Option.map (fun z => z) (r1 v2 v3)) ?_ ?_ k
  · intro v2 v3
    rfl
  · intro rec4 prec4 hrec4 v2 v3
    unfold b_X7_countOf_4 pb_X7_countOf_4
    refine c_gI (hv0).k0 rfl ?_
    refine q_ite ?_ ?_
    · rfl
    · refine c_gR (hv0).k0 rfl (hv0).p1 ?_
      refine c_aI (hv0).k1 (by decide) (fun x1 => ?_)
      refine q_ite ?_ ?_
      · exact hrec4 _ _
      · exact hrec4 _ _
set_option maxRecDepth 100000 in
set_option maxHeartbeats 4000000 in
theorem e_X7_countOf {F : Nat} {K : HK} {pr : HP} {pt : Nat → Nat} {rr : HP}   {v0 : Nat} {v1 : Int32} (hv0 : OkThings K pr v0 )  {sg : Nat → Nat → Int32} {lg : Nat → Nat → Int64} : f_X7_countOf F  v0 v1 (hp K pr pt rr sg lg) = p_X7_countOf F   v0 v1 sg lg := by
  refine Eq.trans ?_ (q_mid _)
  unfold f_X7_countOf p_X7_countOf
  exact el_X7_countOf_4 hv0   _ _ _
/-! X7_move -/
def pb_X7_move_50 (F : Nat)   (v0 : Nat)  (v1 : Int32) (v2 : Int32) (prec50 : Int32 → (Nat → Nat → Int32) → (Nat → Nat → Int64) → Option ((Nat → Nat → Int32) × (Nat → Nat → Int64))) : Int32 → (Nat → Nat → Int32) → (Nat → Nat → Int64) → Option ((Nat → Nat → Int32) × (Nat → Nat → Int64)) := fun v3 sg lg =>
  if (4 : Int32) ≤ v3 then
  (some (sg, lg))
  else (Option.bind (mI sg (v0 + 5) 240 ((v1 * (4 : Int32)) + v3)) (fun (x9 : Int32) =>
  Option.bind (p_X7_holds F  v0 x9 sg lg) (fun (x10 : Int32) =>
  if x10 = 0 then
  (Option.bind (mS sg (v0 + 5) 240 ((v2 * (4 : Int32)) + v3) (-1 : Int32)) (fun (sg11 : Nat → Nat → Int32) =>
  prec50 (v3 + 1) sg11 lg))
  else (Option.bind (mI sg (v0 + 6) 60 x9) (fun (x12 : Int32) =>
  Option.bind (mS sg (v0 + 5) 240 ((v2 * (4 : Int32)) + v3) x12) (fun (sg13 : Nat → Nat → Int32) =>
  prec50 (v3 + 1) sg13 lg))))))
def p_X7_move (F : Nat)   (v0 : Nat) (v1 : Int32) (v2 : Int32) (sg : Nat → Nat → Int32) (lg : Nat → Nat → Int64) : Option ((Nat → Nat → Int32) × (Nat → Nat → Int64)) :=
  Option.bind (mI sg (v0 + 1) 60 v1) (fun (x1 : Int32) =>
  Option.bind (mS sg (v0 + 1) 60 v2 x1) (fun (sg2 : Nat → Nat → Int32) =>
  Option.bind (mI sg2 (v0 + 2) 60 v1) (fun (x3 : Int32) =>
  Option.bind (mS sg2 (v0 + 2) 60 v2 x3) (fun (sg4 : Nat → Nat → Int32) =>
  Option.bind (mI sg4 (v0 + 3) 60 v1) (fun (x5 : Int32) =>
  Option.bind (mS sg4 (v0 + 3) 60 v2 (vp_nar .boolean x5)) (fun (sg6 : Nat → Nat → Int32) =>
  Option.bind (mI sg6 (v0 + 4) 60 v1) (fun (x7 : Int32) =>
  Option.bind (mS sg6 (v0 + 4) 60 v2 x7) (fun (sg8 : Nat → Nat → Int32) =>
  fixN (fun _ _ _ => none) (pb_X7_move_50 F   v0  v1 v2) F (0 : Int32) sg8 lg))))))))
set_option maxRecDepth 100000 in
set_option maxHeartbeats 4000000 in
theorem el_X7_move_50 {F : Nat} {K : HK} {pr : HP} {pt : Nat → Nat} {rr : HP} {n : Nat}   {v0 : Nat}  (hv0 : OkThings K pr v0 )   {v1 : Int32} {v2 : Int32} : ∀ (k : Nat) (v3 : Int32) (sg : Nat → Nat → Int32) (lg : Nat → Nat → Int64), fixN ((fun _ _ _ => none) : Int32 → Nat → GH → Option (Nat × GH)) (b_X7_move_50 F   v0 v1 v2) k v3 n (hp K pr pt rr sg lg) = Option.map (fun z => (n, hp K pr pt rr z.1 z.2)) (fixN ((fun _ _ _ => none) : Int32 → (Nat → Nat → Int32) → (Nat → Nat → Int64) → Option ((Nat → Nat → Int32) × (Nat → Nat → Int64))) (pb_X7_move_50 F   v0  v1 v2) k v3 sg lg) := by
  intro k
  refine fixN_ind2 (P := fun (r : Int32 → Nat → GH → Option (Nat × GH)) (r1 : Int32 → (Nat → Nat → Int32) → (Nat → Nat → Int64) → Option ((Nat → Nat → Int32) × (Nat → Nat → Int64))) => ∀ (v3 : Int32) (sg : Nat → Nat → Int32) (lg : Nat → Nat → Int64), r v3 n (hp K pr pt rr sg lg) = Option.map (fun z => (n, hp K pr pt rr z.1 z.2)) (r1 v3 sg lg)) ?_ ?_ k
  · intro v3 sg lg
    rfl
  · intro rec50 prec50 hrec50 v3 sg lg
    unfold b_X7_move_50 pb_X7_move_50
    refine q_ite ?_ ?_
    · rfl
    · refine c_gR (hv0).k0 rfl (hv0).p5 ?_
      refine c_aI (hv0).k5 (by decide) (fun x9 => ?_)
      refine c_gR (hv0).k0 rfl (hv0).p5 ?_
      refine c_cvP (hv0).k0 (e_X7_holds (hv0)) (fun x10 => ?_)
      refine q_ite ?_ ?_
      · refine c_aS (hv0).k5 (by decide) (fun sg11 => ?_)
        exact hrec50 _ _ _
      · refine c_gR (hv0).k0 rfl (hv0).p6 ?_
        refine c_aI (hv0).k6 (by decide) (fun x12 => ?_)
        refine c_aS (hv0).k5 (by decide) (fun sg13 => ?_)
        exact hrec50 _ _ _
set_option maxRecDepth 100000 in
set_option maxHeartbeats 4000000 in
theorem e_X7_move {F : Nat} {K : HK} {pr : HP} {pt : Nat → Nat} {rr : HP} {n : Nat}   {v0 : Nat} {v1 : Int32} {v2 : Int32} (hv0 : OkThings K pr v0 )  {sg : Nat → Nat → Int32} {lg : Nat → Nat → Int64} : f_X7_move F  v0 v1 v2 n (hp K pr pt rr sg lg) = Option.map (fun z => (n, hp K pr pt rr z.1 z.2)) (p_X7_move F   v0 v1 v2 sg lg) := by
  unfold f_X7_move p_X7_move
  refine c_gR (hv0).k0 rfl (hv0).p1 ?_
  refine c_gR (hv0).k0 rfl (hv0).p1 ?_
  refine c_aI (hv0).k1 (by decide) (fun x1 => ?_)
  refine c_aS (hv0).k1 (by decide) (fun sg2 => ?_)
  refine c_gR (hv0).k0 rfl (hv0).p2 ?_
  refine c_gR (hv0).k0 rfl (hv0).p2 ?_
  refine c_aI (hv0).k2 (by decide) (fun x3 => ?_)
  refine c_aS (hv0).k2 (by decide) (fun sg4 => ?_)
  refine c_gR (hv0).k0 rfl (hv0).p3 ?_
  refine c_gR (hv0).k0 rfl (hv0).p3 ?_
  refine c_aI (hv0).k3 (by decide) (fun x5 => ?_)
  refine c_aS (hv0).k3 (by decide) (fun sg6 => ?_)
  refine c_gR (hv0).k0 rfl (hv0).p4 ?_
  refine c_gR (hv0).k0 rfl (hv0).p4 ?_
  refine c_aI (hv0).k4 (by decide) (fun x7 => ?_)
  refine c_aS (hv0).k4 (by decide) (fun sg8 => ?_)
  exact el_X7_move_50 hv0   _ _ _ _
/-! X7_removeScope -/
def pb_X7_removeScope_54 (F : Nat)   (v0 : Nat)  (v2 : Int32) (prec54 : Int32 → (Nat → Nat → Int32) → (Nat → Nat → Int64) → Option ((Nat → Nat → Int32) × (Nat → Nat → Int64))) : Int32 → (Nat → Nat → Int32) → (Nat → Nat → Int64) → Option ((Nat → Nat → Int32) × (Nat → Nat → Int64)) := fun v3 sg lg =>
  if (sg v0 0) ≤ v3 then
  (gnm (up2 sg v0 0 v2) (fun (sg1 : Nat → Nat → Int32) =>
  some (sg1, lg)))
  else (Option.bind (mI sg (v0 + 6) 60 v3) (fun (x2 : Int32) =>
  if x2 = (-1 : Int32) then
  (prec54 (v3 + 1) sg lg)
  else (Option.bind (mI sg (v0 + 6) 60 v3) (fun (x3 : Int32) =>
  hcU (p_X7_move F  v0 v3 x3 sg lg) (fun (sg4 : Nat → Nat → Int32) (lg5 : Nat → Nat → Int64) =>
  prec54 (v3 + 1) sg4 lg5)))))
def pk_X7_removeScope_52 (F : Nat)   (v0 : Nat)  (v2 : Int32)  (sg : Nat → Nat → Int32) (lg : Nat → Nat → Int64) : Option ((Nat → Nat → Int32) × (Nat → Nat → Int64)) :=
  fixN (fun _ _ _ => none) (pb_X7_removeScope_54 F   v0  v2) F (0 : Int32) sg lg
def pk_X7_removeScope_32 (F : Nat)   (v0 : Nat) (prec4 : Int32 → Int32 → (Nat → Nat → Int32) → (Nat → Nat → Int64) → Option ((Nat → Nat → Int32) × (Nat → Nat → Int64))) (v1 : Int32) (v2 : Int32) (v3 : Int32) (s1 : Int32) (s2 : Int32) (sg : Nat → Nat → Int32) (lg : Nat → Nat → Int64) : Option ((Nat → Nat → Int32) × (Nat → Nat → Int64)) :=
  Option.bind (mS sg (v0 + 6) 60 s1 s2) (fun (sg7 : Nat → Nat → Int32) =>
  Option.bind (mI sg7 (v0 + 2) 60 v3) (fun (x8 : Int32) =>
  if x8 = v1 then
  (prec4 v2 (v3 + 1) sg7 lg)
  else (prec4 (v2 + 1) (v3 + 1) sg7 lg)))
def pb_X7_removeScope_4 (F : Nat)   (v0 : Nat)  (v1 : Int32) (prec4 : Int32 → Int32 → (Nat → Nat → Int32) → (Nat → Nat → Int64) → Option ((Nat → Nat → Int32) × (Nat → Nat → Int64))) : Int32 → Int32 → (Nat → Nat → Int32) → (Nat → Nat → Int64) → Option ((Nat → Nat → Int32) × (Nat → Nat → Int64)) := fun v2 v3 sg lg =>
  if (sg v0 0) ≤ v3 then
  (pk_X7_removeScope_52 F   v0  v2 sg lg)
  else (Option.bind (mI sg (v0 + 2) 60 v3) (fun (x6 : Int32) =>
  if x6 = v1 then
  (pk_X7_removeScope_32 F   v0 prec4 v1 v2 v3 v3 (-1 : Int32) sg lg)
  else (pk_X7_removeScope_32 F   v0 prec4 v1 v2 v3 v3 v2 sg lg)))
def p_X7_removeScope (F : Nat)   (v0 : Nat) (v1 : Int32) (sg : Nat → Nat → Int32) (lg : Nat → Nat → Int64) : Option ((Nat → Nat → Int32) × (Nat → Nat → Int64)) :=
  fixN (fun _ _ _ _ => none) (pb_X7_removeScope_4 F   v0  v1) F (0 : Int32) (0 : Int32) sg lg
set_option maxRecDepth 100000 in
set_option maxHeartbeats 4000000 in
theorem el_X7_removeScope_54 {F : Nat} {K : HK} {pr : HP} {pt : Nat → Nat} {rr : HP} {n : Nat}   {v0 : Nat}  (hv0 : OkThings K pr v0 )   {v2 : Int32} : ∀ (k : Nat) (v3 : Int32) (sg : Nat → Nat → Int32) (lg : Nat → Nat → Int64), fixN ((fun _ _ _ => none) : Int32 → Nat → GH → Option (Nat × GH)) (b_X7_removeScope_54 F   v0 v2) k v3 n (hp K pr pt rr sg lg) = Option.map (fun z => (n, hp K pr pt rr z.1 z.2)) (fixN ((fun _ _ _ => none) : Int32 → (Nat → Nat → Int32) → (Nat → Nat → Int64) → Option ((Nat → Nat → Int32) × (Nat → Nat → Int64))) (pb_X7_removeScope_54 F   v0  v2) k v3 sg lg) := by
  intro k
  refine fixN_ind2 (P := fun (r : Int32 → Nat → GH → Option (Nat × GH)) (r1 : Int32 → (Nat → Nat → Int32) → (Nat → Nat → Int64) → Option ((Nat → Nat → Int32) × (Nat → Nat → Int64))) => ∀ (v3 : Int32) (sg : Nat → Nat → Int32) (lg : Nat → Nat → Int64), r v3 n (hp K pr pt rr sg lg) = Option.map (fun z => (n, hp K pr pt rr z.1 z.2)) (r1 v3 sg lg)) ?_ ?_ k
  · intro v3 sg lg
    rfl
  · intro rec54 prec54 hrec54 v3 sg lg
    unfold b_X7_removeScope_54 pb_X7_removeScope_54
    refine c_gI (hv0).k0 rfl ?_
    refine q_ite ?_ ?_
    · refine c_pI (hv0).k0 rfl (fun sg1 => ?_)
      rfl
    · refine c_gR (hv0).k0 rfl (hv0).p6 ?_
      refine c_aI (hv0).k6 (by decide) (fun x2 => ?_)
      refine q_ite ?_ ?_
      · exact hrec54 _ _ _
      · refine c_gR (hv0).k0 rfl (hv0).p6 ?_
        refine c_aI (hv0).k6 (by decide) (fun x3 => ?_)
        refine c_cvU (hv0).k0 (e_X7_move (hv0)) (fun sg4 lg5 => ?_)
        exact hrec54 _ _ _
set_option maxRecDepth 100000 in
set_option maxHeartbeats 4000000 in
theorem ec_X7_removeScope_52 {F : Nat} {K : HK} {pr : HP} {pt : Nat → Nat} {rr : HP} {n : Nat}   {v0 : Nat}  (hv0 : OkThings K pr v0 )   {v2 : Int32}  {sg : Nat → Nat → Int32} {lg : Nat → Nat → Int64} : k_X7_removeScope_52 F   v0 v2  n (hp K pr pt rr sg lg) = Option.map (fun z => (n, hp K pr pt rr z.1 z.2)) (pk_X7_removeScope_52 F   v0  v2  sg lg) := by
  unfold k_X7_removeScope_52 pk_X7_removeScope_52
  exact el_X7_removeScope_54 hv0   _ _ _ _
set_option maxRecDepth 100000 in
set_option maxHeartbeats 4000000 in
theorem ec_X7_removeScope_32 {F : Nat} {K : HK} {pr : HP} {pt : Nat → Nat} {rr : HP} {n : Nat}   {v0 : Nat} {rec4 : Int32 → Int32 → Nat → GH → Option (Nat × GH)} {prec4 : Int32 → Int32 → (Nat → Nat → Int32) → (Nat → Nat → Int64) → Option ((Nat → Nat → Int32) × (Nat → Nat → Int64))} (hv0 : OkThings K pr v0 )  (hrec4 : ∀ (w2 : Int32) (w3 : Int32) (sg : Nat → Nat → Int32) (lg : Nat → Nat → Int64), rec4 w2 w3 n (hp K pr pt rr sg lg) = Option.map (fun z => (n, hp K pr pt rr z.1 z.2)) (prec4 w2 w3 sg lg)) {v1 : Int32} {v2 : Int32} {v3 : Int32} {s1 : Int32} {s2 : Int32} {sg : Nat → Nat → Int32} {lg : Nat → Nat → Int64} : k_X7_removeScope_32 F  rec4 v0 v1 v2 v3 (v0 + 6) s1 s2 n (hp K pr pt rr sg lg) = Option.map (fun z => (n, hp K pr pt rr z.1 z.2)) (pk_X7_removeScope_32 F   v0 prec4 v1 v2 v3 s1 s2 sg lg) := by
  unfold k_X7_removeScope_32 pk_X7_removeScope_32
  refine c_aS (hv0).k6 (by decide) (fun sg7 => ?_)
  refine c_gR (hv0).k0 rfl (hv0).p2 ?_
  refine c_aI (hv0).k2 (by decide) (fun x8 => ?_)
  refine q_ite ?_ ?_
  · exact hrec4 _ _ _ _
  · exact hrec4 _ _ _ _
set_option maxRecDepth 100000 in
set_option maxHeartbeats 4000000 in
theorem el_X7_removeScope_4 {F : Nat} {K : HK} {pr : HP} {pt : Nat → Nat} {rr : HP} {n : Nat}   {v0 : Nat}  (hv0 : OkThings K pr v0 )   {v1 : Int32} : ∀ (k : Nat) (v2 : Int32) (v3 : Int32) (sg : Nat → Nat → Int32) (lg : Nat → Nat → Int64), fixN ((fun _ _ _ _ => none) : Int32 → Int32 → Nat → GH → Option (Nat × GH)) (b_X7_removeScope_4 F   v0 v1) k v2 v3 n (hp K pr pt rr sg lg) = Option.map (fun z => (n, hp K pr pt rr z.1 z.2)) (fixN ((fun _ _ _ _ => none) : Int32 → Int32 → (Nat → Nat → Int32) → (Nat → Nat → Int64) → Option ((Nat → Nat → Int32) × (Nat → Nat → Int64))) (pb_X7_removeScope_4 F   v0  v1) k v2 v3 sg lg) := by
  intro k
  refine fixN_ind2 (P := fun (r : Int32 → Int32 → Nat → GH → Option (Nat × GH)) (r1 : Int32 → Int32 → (Nat → Nat → Int32) → (Nat → Nat → Int64) → Option ((Nat → Nat → Int32) × (Nat → Nat → Int64))) => ∀ (v2 : Int32) (v3 : Int32) (sg : Nat → Nat → Int32) (lg : Nat → Nat → Int64), r v2 v3 n (hp K pr pt rr sg lg) = Option.map (fun z => (n, hp K pr pt rr z.1 z.2)) (r1 v2 v3 sg lg)) ?_ ?_ k
  · intro v2 v3 sg lg
    rfl
  · intro rec4 prec4 hrec4 v2 v3 sg lg
    unfold b_X7_removeScope_4 pb_X7_removeScope_4
    refine c_gI (hv0).k0 rfl ?_
    refine q_ite ?_ ?_
    · exact ec_X7_removeScope_52 hv0  
    · refine c_gR (hv0).k0 rfl (hv0).p6 ?_
      refine c_gR (hv0).k0 rfl (hv0).p2 ?_
      refine c_aI (hv0).k2 (by decide) (fun x6 => ?_)
      refine q_ite ?_ ?_
      · exact ec_X7_removeScope_32 hv0  hrec4
      · exact ec_X7_removeScope_32 hv0  hrec4
set_option maxRecDepth 100000 in
set_option maxHeartbeats 4000000 in
theorem e_X7_removeScope {F : Nat} {K : HK} {pr : HP} {pt : Nat → Nat} {rr : HP} {n : Nat}   {v0 : Nat} {v1 : Int32} (hv0 : OkThings K pr v0 )  {sg : Nat → Nat → Int32} {lg : Nat → Nat → Int64} : f_X7_removeScope F  v0 v1 n (hp K pr pt rr sg lg) = Option.map (fun z => (n, hp K pr pt rr z.1 z.2)) (p_X7_removeScope F   v0 v1 sg lg) := by
  unfold f_X7_removeScope p_X7_removeScope
  exact el_X7_removeScope_4 hv0   _ _ _ _ _
/-! X7_copyFrom -/
def p_X7_copyFrom (F : Nat)   (v0 : Nat) (v1 : Nat) (sg : Nat → Nat → Int32) (lg : Nat → Nat → Int64) : Option ((Nat → Nat → Int32) × (Nat → Nat → Int64)) :=
  gnm (up2 sg v0 0 (sg v1 0)) (fun (sg1 : Nat → Nat → Int32) =>
  Option.bind (mC sg1 0 60 60 (v1 + 1) (0 : Int32) (v0 + 1) (0 : Int32) (sg1 v0 0)) (fun (sg2 : Nat → Nat → Int32) =>
  Option.bind (mC sg2 0 60 60 (v1 + 2) (0 : Int32) (v0 + 2) (0 : Int32) (sg2 v0 0)) (fun (sg3 : Nat → Nat → Int32) =>
  Option.bind (mC sg3 2 60 60 (v1 + 3) (0 : Int32) (v0 + 3) (0 : Int32) (sg3 v0 0)) (fun (sg4 : Nat → Nat → Int32) =>
  Option.bind (mC sg4 0 60 60 (v1 + 4) (0 : Int32) (v0 + 4) (0 : Int32) (sg4 v0 0)) (fun (sg5 : Nat → Nat → Int32) =>
  Option.bind (mC sg5 0 240 240 (v1 + 5) (0 : Int32) (v0 + 5) (0 : Int32) ((sg5 v0 0) * (4 : Int32))) (fun (sg6 : Nat → Nat → Int32) =>
  some (sg6, lg)))))))
set_option maxRecDepth 100000 in
set_option maxHeartbeats 4000000 in
theorem e_X7_copyFrom {F : Nat} {K : HK} {pr : HP} {pt : Nat → Nat} {rr : HP} {n : Nat}   {v0 : Nat} {v1 : Nat} (hv0 : OkThings K pr v0 ) (hv1 : OkThings K pr v1 )  {sg : Nat → Nat → Int32} {lg : Nat → Nat → Int64} : f_X7_copyFrom F  v0 v1 n (hp K pr pt rr sg lg) = Option.map (fun z => (n, hp K pr pt rr z.1 z.2)) (p_X7_copyFrom F   v0 v1 sg lg) := by
  unfold f_X7_copyFrom p_X7_copyFrom
  refine c_gI (hv1).k0 rfl ?_
  refine c_pI (hv0).k0 rfl (fun sg1 => ?_)
  refine c_gR (hv1).k0 rfl (hv1).p1 ?_
  refine c_gR (hv0).k0 rfl (hv0).p1 ?_
  refine c_gI (hv0).k0 rfl ?_
  refine c_aC (hv1).k1 (hv0).k1 (by decide) (fun sg2 => ?_)
  refine c_gR (hv1).k0 rfl (hv1).p2 ?_
  refine c_gR (hv0).k0 rfl (hv0).p2 ?_
  refine c_gI (hv0).k0 rfl ?_
  refine c_aC (hv1).k2 (hv0).k2 (by decide) (fun sg3 => ?_)
  refine c_gR (hv1).k0 rfl (hv1).p3 ?_
  refine c_gR (hv0).k0 rfl (hv0).p3 ?_
  refine c_gI (hv0).k0 rfl ?_
  refine c_aC (hv1).k3 (hv0).k3 (by decide) (fun sg4 => ?_)
  refine c_gR (hv1).k0 rfl (hv1).p4 ?_
  refine c_gR (hv0).k0 rfl (hv0).p4 ?_
  refine c_gI (hv0).k0 rfl ?_
  refine c_aC (hv1).k4 (hv0).k4 (by decide) (fun sg5 => ?_)
  refine c_gR (hv1).k0 rfl (hv1).p5 ?_
  refine c_gR (hv0).k0 rfl (hv0).p5 ?_
  refine c_gI (hv0).k0 rfl ?_
  refine c_aC (hv1).k5 (hv0).k5 (by decide) (fun sg6 => ?_)
  rfl
/-! X3_holds -/
def p_X3_holds (F : Nat)   (v0 : Nat) (v1 : Int32) (sg : Nat → Nat → Int32) (lg : Nat → Nat → Int64) : Option (Int32) :=
  if v1 < 0 then
  (rP .boolean (0 : Int32))
  else (if (sg v0 0) ≤ v1 then
  (rP .boolean (0 : Int32))
  else (rP .boolean (1 : Int32)))
set_option maxRecDepth 100000 in
set_option maxHeartbeats 4000000 in
theorem e_X3_holds {F : Nat} {K : HK} {pr : HP} {pt : Nat → Nat} {rr : HP}   {v0 : Nat} {v1 : Int32} (hv0 : OkParts K pr v0 )  {sg : Nat → Nat → Int32} {lg : Nat → Nat → Int64} : f_X3_holds F  v0 v1 (hp K pr pt rr sg lg) = p_X3_holds F   v0 v1 sg lg := by
  refine Eq.trans ?_ (q_mid _)
  unfold f_X3_holds p_X3_holds
  refine q_ite ?_ ?_
  · exact q_id
  · refine c_gI (hv0).k0 rfl ?_
    refine q_ite ?_ ?_
    · exact q_id
    · exact q_id
/-! X3_addNeed -/
def pk_X3_addNeed_44 (F : Nat)   (v0 : Nat)  (v1 : Int32) (v4 : Int32)  (sg : Nat → Nat → Int32) (lg : Nat → Nat → Int64) : Option ((Nat → Nat → Int32) × (Nat → Nat → Int64)) :=
  Option.bind (mS sg (v0 + 6) 12 v1 (v4 + (1 : Int32))) (fun (sg3 : Nat → Nat → Int32) =>
  some (sg3, lg))
def p_X3_addNeed (F : Nat)   (v0 : Nat) (v1 : Int32) (v2 : Int32) (v3 : Int32) (sg : Nat → Nat → Int32) (lg : Nat → Nat → Int64) : Option ((Nat → Nat → Int32) × (Nat → Nat → Int64)) :=
  Option.bind (mI sg (v0 + 6) 12 v1) (fun (x1 : Int32) =>
  if x1 < (4 : Int32) then
  (Option.bind (mS sg (v0 + 8) 48 ((v1 * (4 : Int32)) + x1) v2) (fun (sg2 : Nat → Nat → Int32) =>
  if v3 = 0 then
  (pk_X3_addNeed_44 F   v0  v1 x1 sg2 lg)
  else (Option.bind (mI sg2 (v0 + 7) 12 v1) (fun (x4 : Int32) =>
  Option.bind (mS sg2 (v0 + 7) 12 v1 (x4 ||| ((1 : Int32) <<< (x1 &&& 31)))) (fun (sg5 : Nat → Nat → Int32) =>
  pk_X3_addNeed_44 F   v0  v1 x1 sg5 lg)))))
  else (some (sg, lg)))
set_option maxRecDepth 100000 in
set_option maxHeartbeats 4000000 in
theorem ec_X3_addNeed_44 {F : Nat} {K : HK} {pr : HP} {pt : Nat → Nat} {rr : HP} {n : Nat}   {v0 : Nat}  (hv0 : OkParts K pr v0 )   {v1 : Int32} {v4 : Int32}  {sg : Nat → Nat → Int32} {lg : Nat → Nat → Int64} : k_X3_addNeed_44 F   v0 v1 v4  n (hp K pr pt rr sg lg) = Option.map (fun z => (n, hp K pr pt rr z.1 z.2)) (pk_X3_addNeed_44 F   v0  v1 v4  sg lg) := by
  unfold k_X3_addNeed_44 pk_X3_addNeed_44
  refine c_gR (hv0).k0 rfl (hv0).p6 ?_
  refine c_aS (hv0).k6 (by decide) (fun sg3 => ?_)
  rfl
set_option maxRecDepth 100000 in
set_option maxHeartbeats 4000000 in
theorem e_X3_addNeed {F : Nat} {K : HK} {pr : HP} {pt : Nat → Nat} {rr : HP} {n : Nat}   {v0 : Nat} {v1 : Int32} {v2 : Int32} {v3 : Int32} (hv0 : OkParts K pr v0 )  {sg : Nat → Nat → Int32} {lg : Nat → Nat → Int64} : f_X3_addNeed F  v0 v1 v2 v3 n (hp K pr pt rr sg lg) = Option.map (fun z => (n, hp K pr pt rr z.1 z.2)) (p_X3_addNeed F   v0 v1 v2 v3 sg lg) := by
  unfold f_X3_addNeed p_X3_addNeed
  refine c_gR (hv0).k0 rfl (hv0).p6 ?_
  refine c_aI (hv0).k6 (by decide) (fun x1 => ?_)
  refine q_ite ?_ ?_
  · refine c_gR (hv0).k0 rfl (hv0).p8 ?_
    refine c_aS (hv0).k8 (by decide) (fun sg2 => ?_)
    refine q_ite ?_ ?_
    · exact ec_X3_addNeed_44 hv0  
    · refine c_gR (hv0).k0 rfl (hv0).p7 ?_
      refine c_aI (hv0).k7 (by decide) (fun x4 => ?_)
      refine c_aS (hv0).k7 (by decide) (fun sg5 => ?_)
      exact ec_X3_addNeed_44 hv0  
  · rfl
/-! X3_needAt -/
def p_X3_needAt (F : Nat)   (v0 : Nat) (v1 : Int32) (v2 : Int32) (sg : Nat → Nat → Int32) (lg : Nat → Nat → Int64) : Option (Int32) :=
  Option.bind (p_X3_holds F  v0 v1 sg lg) (fun (x1 : Int32) =>
  if x1 = 0 then
  (some (-1 : Int32))
  else (if v2 < 0 then
  (some (-1 : Int32))
  else (Option.bind (mI sg (v0 + 6) 12 v1) (fun (x2 : Int32) =>
  if v2 < x2 then
  (Option.bind (mI sg (v0 + 8) 48 ((v1 * (4 : Int32)) + v2)) (fun (x3 : Int32) =>
  some x3))
  else (some (-1 : Int32))))))
set_option maxRecDepth 100000 in
set_option maxHeartbeats 4000000 in
theorem e_X3_needAt {F : Nat} {K : HK} {pr : HP} {pt : Nat → Nat} {rr : HP}   {v0 : Nat} {v1 : Int32} {v2 : Int32} (hv0 : OkParts K pr v0 )  {sg : Nat → Nat → Int32} {lg : Nat → Nat → Int64} : f_X3_needAt F  v0 v1 v2 (hp K pr pt rr sg lg) = p_X3_needAt F   v0 v1 v2 sg lg := by
  refine Eq.trans ?_ (q_mid _)
  unfold f_X3_needAt p_X3_needAt
  refine c_cvP (hv0).k0 (e_X3_holds (hv0)) (fun x1 => ?_)
  refine q_ite ?_ ?_
  · rfl
  · refine q_ite ?_ ?_
    · rfl
    · refine c_gR (hv0).k0 rfl (hv0).p6 ?_
      refine c_aI (hv0).k6 (by decide) (fun x2 => ?_)
      refine q_ite ?_ ?_
      · refine c_gR (hv0).k0 rfl (hv0).p8 ?_
        refine c_aI (hv0).k8 (by decide) (fun x3 => ?_)
        rfl
      · rfl
/-! X3_isEager -/
def p_X3_isEager (F : Nat)   (v0 : Nat) (v1 : Int32) (v2 : Int32) (sg : Nat → Nat → Int32) (lg : Nat → Nat → Int64) : Option (Int32) :=
  Option.bind (mI sg (v0 + 7) 12 v1) (fun (x1 : Int32) =>
  if (x1 &&& ((1 : Int32) <<< (v2 &&& 31))) = 0 then
  (rP .boolean (1 : Int32))
  else (rP .boolean (0 : Int32)))
set_option maxRecDepth 100000 in
set_option maxHeartbeats 4000000 in
theorem e_X3_isEager {F : Nat} {K : HK} {pr : HP} {pt : Nat → Nat} {rr : HP}   {v0 : Nat} {v1 : Int32} {v2 : Int32} (hv0 : OkParts K pr v0 )  {sg : Nat → Nat → Int32} {lg : Nat → Nat → Int64} : f_X3_isEager F  v0 v1 v2 (hp K pr pt rr sg lg) = p_X3_isEager F   v0 v1 v2 sg lg := by
  refine Eq.trans ?_ (q_mid _)
  unfold f_X3_isEager p_X3_isEager
  refine c_gR (hv0).k0 rfl (hv0).p7 ?_
  refine c_aI (hv0).k7 (by decide) (fun x1 => ?_)
  refine q_ite ?_ ?_
  · exact q_id
  · exact q_id
/-! X3_needBits -/
def pk_X3_needBits_44 (F : Nat)   (v0 : Nat) (prec6 : Int32 → Int32 → Option (Int32)) (v1 : Int32) (v2 : Int32) (v3 : Int64) (v5 : Int32) (v6 : Int32) (v7 : Int32) (s0 : Int32) (sg : Nat → Nat → Int32) (lg : Nat → Nat → Int64) : Option (Int32) :=
  if s0 = 0 then
  (prec6 v5 (v6 + 1))
  else (if (lg_cmp (v3 &&& ((1 : Int64) <<< ((Int32.toInt64 v7) &&& 63))) (0 : Int64)) = 0 then
  (Option.bind (mI sg (v0 + 8) 48 v7) (fun (x3 : Int32) =>
  gnm (v5 ||| ((1 : Int32) <<< (x3 &&& 31))) (fun (y4 : Int32) =>
  prec6 y4 (v6 + 1))))
  else (prec6 v5 (v6 + 1)))
def pk_X3_needBits_39 (F : Nat)   (v0 : Nat) (prec6 : Int32 → Int32 → Option (Int32)) (v1 : Int32) (v2 : Int32) (v3 : Int64) (v5 : Int32) (v6 : Int32) (v7 : Int32)  (sg : Nat → Nat → Int32) (lg : Nat → Nat → Int64) : Option (Int32) :=
  pk_X3_needBits_44 F   v0 prec6 v1 v2 v3 v5 v6 v7 (1 : Int32) sg lg
def pb_X3_needBits_6 (F : Nat)   (v0 : Nat)  (v1 : Int32) (v2 : Int32) (v3 : Int64) (sg : Nat → Nat → Int32) (lg : Nat → Nat → Int64) (prec6 : Int32 → Int32 → Option (Int32)) : Int32 → Int32 → Option (Int32) := fun v5 v6 =>
  Option.bind (mI sg (v0 + 6) 12 v1) (fun (x1 : Int32) =>
  if x1 ≤ v6 then
  (some v5)
  else (gnm ((v1 * (4 : Int32)) + v6) (fun (y2 : Int32) =>
  if v2 = 0 then
  (Option.bind (p_X3_isEager F  v0 v1 v6 sg lg) (fun (x5 : Int32) =>
  if x5 = 0 then
  (pk_X3_needBits_44 F   v0 prec6 v1 v2 v3 v5 v6 y2 (0 : Int32) sg lg)
  else (pk_X3_needBits_39 F   v0 prec6 v1 v2 v3 v5 v6 y2 sg lg)))
  else (pk_X3_needBits_39 F   v0 prec6 v1 v2 v3 v5 v6 y2 sg lg))))
def p_X3_needBits (F : Nat)   (v0 : Nat) (v1 : Int32) (v2 : Int32) (v3 : Int64) (sg : Nat → Nat → Int32) (lg : Nat → Nat → Int64) : Option (Int32) :=
  fixN (fun _ _ => none) (pb_X3_needBits_6 F   v0  v1 v2 v3 sg lg) F (0 : Int32) (0 : Int32)
set_option maxRecDepth 100000 in
set_option maxHeartbeats 4000000 in
theorem ec_X3_needBits_44 {F : Nat} {K : HK} {pr : HP} {pt : Nat → Nat} {rr : HP}   {v0 : Nat} {rec6 : Int32 → Int32 → Option (Int32)} {prec6 : Int32 → Int32 → Option (Int32)} (hv0 : OkParts K pr v0 )  (hrec6 : ∀ (w5 : Int32) (w6 : Int32), rec6 w5 w6 = Option.map (fun z => z) (prec6 w5 w6)) {v1 : Int32} {v2 : Int32} {v3 : Int64} {v5 : Int32} {v6 : Int32} {v7 : Int32} {s0 : Int32} {sg : Nat → Nat → Int32} {lg : Nat → Nat → Int64} : k_X3_needBits_44 F  rec6 v0 v1 v2 v3 v5 v6 v7 s0 (hp K pr pt rr sg lg) = Option.map (fun z => z) (pk_X3_needBits_44 F   v0 prec6 v1 v2 v3 v5 v6 v7 s0 sg lg) := by
  unfold k_X3_needBits_44 pk_X3_needBits_44
  refine q_ite ?_ ?_
  · exact hrec6 _ _
  · refine q_ite ?_ ?_
    · refine c_gR (hv0).k0 rfl (hv0).p8 ?_
      refine c_aI (hv0).k8 (by decide) (fun x3 => ?_)
      refine q_nm (fun y4 => ?_)
      exact hrec6 _ _
    · exact hrec6 _ _
set_option maxRecDepth 100000 in
set_option maxHeartbeats 4000000 in
theorem ec_X3_needBits_39 {F : Nat} {K : HK} {pr : HP} {pt : Nat → Nat} {rr : HP}   {v0 : Nat} {rec6 : Int32 → Int32 → Option (Int32)} {prec6 : Int32 → Int32 → Option (Int32)} (hv0 : OkParts K pr v0 )  (hrec6 : ∀ (w5 : Int32) (w6 : Int32), rec6 w5 w6 = Option.map (fun z => z) (prec6 w5 w6)) {v1 : Int32} {v2 : Int32} {v3 : Int64} {v5 : Int32} {v6 : Int32} {v7 : Int32}  {sg : Nat → Nat → Int32} {lg : Nat → Nat → Int64} : k_X3_needBits_39 F  rec6 v0 v1 v2 v3 v5 v6 v7  (hp K pr pt rr sg lg) = Option.map (fun z => z) (pk_X3_needBits_39 F   v0 prec6 v1 v2 v3 v5 v6 v7  sg lg) := by
  unfold k_X3_needBits_39 pk_X3_needBits_39
  exact ec_X3_needBits_44 hv0  hrec6
set_option maxRecDepth 100000 in
set_option maxHeartbeats 4000000 in
theorem el_X3_needBits_6 {F : Nat} {K : HK} {pr : HP} {pt : Nat → Nat} {rr : HP}   {v0 : Nat}  (hv0 : OkParts K pr v0 )   {v1 : Int32} {v2 : Int32} {v3 : Int64} {sg : Nat → Nat → Int32} {lg : Nat → Nat → Int64} : ∀ (k : Nat) (v5 : Int32) (v6 : Int32), fixN ((fun _ _ => none) : Int32 → Int32 → Option (Int32)) (b_X3_needBits_6 F   v0 v1 v2 v3 (hp K pr pt rr sg lg)) k v5 v6 = Option.map (fun z => z) (fixN ((fun _ _ => none) : Int32 → Int32 → Option (Int32)) (pb_X3_needBits_6 F   v0  v1 v2 v3 sg lg) k v5 v6) := by
  intro k
  refine fixN_ind2 (P := fun (r : Int32 → Int32 → Option (Int32)) (r1 : Int32 → Int32 → Option (Int32)) => ∀ (v5 : Int32) (v6 : Int32), r v5 v6 = Option.map (fun z => z) (r1 v5 v6)) ?_ ?_ k
  · intro v5 v6
    rfl
  · intro rec6 prec6 hrec6 v5 v6
    unfold b_X3_needBits_6 pb_X3_needBits_6
    refine c_gR (hv0).k0 rfl (hv0).p6 ?_
    refine c_aI (hv0).k6 (by decide) (fun x1 => ?_)
    refine q_ite ?_ ?_
    · rfl
    · refine q_nm (fun y2 => ?_)
      refine q_ite ?_ ?_
      · refine c_cvP (hv0).k0 (e_X3_isEager (hv0)) (fun x5 => ?_)
        refine q_ite ?_ ?_
        · exact ec_X3_needBits_44 hv0  hrec6
        · exact ec_X3_needBits_39 hv0  hrec6
      · exact ec_X3_needBits_39 hv0  hrec6
set_option maxRecDepth 100000 in
set_option maxHeartbeats 4000000 in
theorem e_X3_needBits {F : Nat} {K : HK} {pr : HP} {pt : Nat → Nat} {rr : HP}   {v0 : Nat} {v1 : Int32} {v2 : Int32} {v3 : Int64} (hv0 : OkParts K pr v0 )  {sg : Nat → Nat → Int32} {lg : Nat → Nat → Int64} : f_X3_needBits F  v0 v1 v2 v3 (hp K pr pt rr sg lg) = p_X3_needBits F   v0 v1 v2 v3 sg lg := by
  refine Eq.trans ?_ (q_mid _)
  unfold f_X3_needBits p_X3_needBits
  exact el_X3_needBits_6 hv0   _ _ _
/-! X2_byteOf -/
def p_X2_byteOf (F : Nat)   (v0 : Int64) (v2 : Int32) (sg : Nat → Nat → Int32) (lg : Nat → Nat → Int64) : Option (Int32) :=
  rP .byte (Int8.toInt32 (Int32.toInt8 (Int64.toInt32 (((Int64.toUInt64 v0) >>> ((Int64.toUInt64 (Int32.toInt64 ((56 : Int32) - ((8 : Int32) * v2)))) &&& Int64.toUInt64 63)).toInt64))))
set_option maxRecDepth 100000 in
set_option maxHeartbeats 4000000 in
theorem e_X2_byteOf {F : Nat} {K : HK} {pr : HP} {pt : Nat → Nat} {rr : HP}   {v0 : Int64} {v2 : Int32}   {sg : Nat → Nat → Int32} {lg : Nat → Nat → Int64} : f_X2_byteOf F  v0 v2 (hp K pr pt rr sg lg) = p_X2_byteOf F   v0 v2 sg lg := by
  refine Eq.trans ?_ (q_mid _)
  unfold f_X2_byteOf p_X2_byteOf
  exact q_id
/-! X2_append -/
def pk_X2_append_69 (F : Nat)   (v0 : Nat)  (v3 : Int32)  (sg : Nat → Nat → Int32) (lg : Nat → Nat → Int64) : Option (Int32 × (Nat → Nat → Int32) × (Nat → Nat → Int64)) :=
  gnm (up2 sg v0 1 ((sg v0 1) + v3)) (fun (sg1 : Nat → Nat → Int32) =>
  some (sg1 v0 1, sg1, lg))
def pb_X2_append_39 (F : Nat)   (v0 : Nat)  (v1 : Int64) (v3 : Int32) (prec39 : Int32 → (Nat → Nat → Int32) → (Nat → Nat → Int64) → Option (Int32 × (Nat → Nat → Int32) × (Nat → Nat → Int64))) : Int32 → (Nat → Nat → Int32) → (Nat → Nat → Int64) → Option (Int32 × (Nat → Nat → Int32) × (Nat → Nat → Int64)) := fun v4 sg lg =>
  if v3 ≤ v4 then
  (pk_X2_append_69 F   v0  v3 sg lg)
  else (Option.bind (p_X2_byteOf F  v1 v4 sg lg) (fun (x2 : Int32) =>
  Option.bind (mS sg (v0 + 1) 600 ((sg v0 1) + v4) (vp_nar .byte x2)) (fun (sg3 : Nat → Nat → Int32) =>
  prec39 (v4 + 1) sg3 lg)))
def pk_X2_append_22 (F : Nat)   (v0 : Nat)  (v1 : Int64) (v3 : Int32)  (sg : Nat → Nat → Int32) (lg : Nat → Nat → Int64) : Option (Int32 × (Nat → Nat → Int32) × (Nat → Nat → Int64)) :=
  if ((sg v0 1) + v3) ≤ (600 : Int32) then
  (fixN (fun _ _ _ => none) (pb_X2_append_39 F   v0  v1 v3) F (0 : Int32) sg lg)
  else (some ((-1 : Int32), sg, lg))
def pb_X2_append_2 (F : Nat)   (v0 : Nat)  (v1 : Int64) (sg : Nat → Nat → Int32) (lg : Nat → Nat → Int64) (prec2 : Int32 → Option (Int32 × (Nat → Nat → Int32) × (Nat → Nat → Int64))) : Int32 → Option (Int32 × (Nat → Nat → Int32) × (Nat → Nat → Int64)) := fun v3 =>
  if (8 : Int32) ≤ v3 then
  (pk_X2_append_22 F   v0  v1 v3 sg lg)
  else (Option.bind (p_X2_byteOf F  v1 v3 sg lg) (fun (x4 : Int32) =>
  if x4 = 0 then
  (pk_X2_append_22 F   v0  v1 v3 sg lg)
  else (prec2 (v3 + 1))))
def p_X2_append (F : Nat)   (v0 : Nat) (v1 : Int64) (sg : Nat → Nat → Int32) (lg : Nat → Nat → Int64) : Option (Int32 × (Nat → Nat → Int32) × (Nat → Nat → Int64)) :=
  fixN (fun _ => none) (pb_X2_append_2 F   v0  v1 sg lg) F (0 : Int32)
set_option maxRecDepth 100000 in
set_option maxHeartbeats 4000000 in
theorem ec_X2_append_69 {F : Nat} {K : HK} {pr : HP} {pt : Nat → Nat} {rr : HP} {n : Nat}   {v0 : Nat}  (hv0 : OkPaper K pr v0 )   {v3 : Int32}  {sg : Nat → Nat → Int32} {lg : Nat → Nat → Int64} : k_X2_append_69 F   v0 v3  n (hp K pr pt rr sg lg) = Option.map (fun z => (z.1, n, hp K pr pt rr z.2.1 z.2.2)) (pk_X2_append_69 F   v0  v3  sg lg) := by
  unfold k_X2_append_69 pk_X2_append_69
  refine c_gI (hv0).k0 rfl ?_
  refine c_pI (hv0).k0 rfl (fun sg1 => ?_)
  refine c_gI (hv0).k0 rfl ?_
  rfl
set_option maxRecDepth 100000 in
set_option maxHeartbeats 4000000 in
theorem el_X2_append_39 {F : Nat} {K : HK} {pr : HP} {pt : Nat → Nat} {rr : HP} {n : Nat}   {v0 : Nat}  (hv0 : OkPaper K pr v0 )   {v1 : Int64} {v3 : Int32} : ∀ (k : Nat) (v4 : Int32) (sg : Nat → Nat → Int32) (lg : Nat → Nat → Int64), fixN ((fun _ _ _ => none) : Int32 → Nat → GH → Option (Int32 × Nat × GH)) (b_X2_append_39 F   v0 v1 v3) k v4 n (hp K pr pt rr sg lg) = Option.map (fun z => (z.1, n, hp K pr pt rr z.2.1 z.2.2)) (fixN ((fun _ _ _ => none) : Int32 → (Nat → Nat → Int32) → (Nat → Nat → Int64) → Option (Int32 × (Nat → Nat → Int32) × (Nat → Nat → Int64))) (pb_X2_append_39 F   v0  v1 v3) k v4 sg lg) := by
  intro k
  refine fixN_ind2 (P := fun (r : Int32 → Nat → GH → Option (Int32 × Nat × GH)) (r1 : Int32 → (Nat → Nat → Int32) → (Nat → Nat → Int64) → Option (Int32 × (Nat → Nat → Int32) × (Nat → Nat → Int64))) => ∀ (v4 : Int32) (sg : Nat → Nat → Int32) (lg : Nat → Nat → Int64), r v4 n (hp K pr pt rr sg lg) = Option.map (fun z => (z.1, n, hp K pr pt rr z.2.1 z.2.2)) (r1 v4 sg lg)) ?_ ?_ k
  · intro v4 sg lg
    rfl
  · intro rec39 prec39 hrec39 v4 sg lg
    unfold b_X2_append_39 pb_X2_append_39
    refine q_ite ?_ ?_
    · exact ec_X2_append_69 hv0  
    · refine c_gR (hv0).k0 rfl (hv0).p0 ?_
      refine c_gI (hv0).k0 rfl ?_
      refine q_bd (e_X2_byteOf ) (fun x2 => ?_)
      refine c_aS (hv0).k1 (by decide) (fun sg3 => ?_)
      exact hrec39 _ _ _
set_option maxRecDepth 100000 in
set_option maxHeartbeats 4000000 in
theorem ec_X2_append_22 {F : Nat} {K : HK} {pr : HP} {pt : Nat → Nat} {rr : HP} {n : Nat}   {v0 : Nat}  (hv0 : OkPaper K pr v0 )   {v1 : Int64} {v3 : Int32}  {sg : Nat → Nat → Int32} {lg : Nat → Nat → Int64} : k_X2_append_22 F   v0 v1 v3  n (hp K pr pt rr sg lg) = Option.map (fun z => (z.1, n, hp K pr pt rr z.2.1 z.2.2)) (pk_X2_append_22 F   v0  v1 v3  sg lg) := by
  unfold k_X2_append_22 pk_X2_append_22
  refine c_gI (hv0).k0 rfl ?_
  refine q_ite ?_ ?_
  · exact el_X2_append_39 hv0   _ _ _ _
  · rfl
set_option maxRecDepth 100000 in
set_option maxHeartbeats 4000000 in
theorem el_X2_append_2 {F : Nat} {K : HK} {pr : HP} {pt : Nat → Nat} {rr : HP} {n : Nat}   {v0 : Nat}  (hv0 : OkPaper K pr v0 )   {v1 : Int64} {sg : Nat → Nat → Int32} {lg : Nat → Nat → Int64} : ∀ (k : Nat) (v3 : Int32), fixN ((fun _ => none) : Int32 → Option (Int32 × Nat × GH)) (b_X2_append_2 F   v0 v1 n (hp K pr pt rr sg lg)) k v3 = Option.map (fun z => (z.1, n, hp K pr pt rr z.2.1 z.2.2)) (fixN ((fun _ => none) : Int32 → Option (Int32 × (Nat → Nat → Int32) × (Nat → Nat → Int64))) (pb_X2_append_2 F   v0  v1 sg lg) k v3) := by
  intro k
  refine fixN_ind2 (P := fun (r : Int32 → Option (Int32 × Nat × GH)) (r1 : Int32 → Option (Int32 × (Nat → Nat → Int32) × (Nat → Nat → Int64))) => ∀ (v3 : Int32), r v3 = Option.map (fun z => (z.1, n, hp K pr pt rr z.2.1 z.2.2)) (r1 v3)) ?_ ?_ k
  · intro v3
    rfl
  · intro rec2 prec2 hrec2 v3
    unfold b_X2_append_2 pb_X2_append_2
    refine q_ite ?_ ?_
    · exact ec_X2_append_22 hv0  
    · refine q_bd (e_X2_byteOf ) (fun x4 => ?_)
      refine q_ite ?_ ?_
      · exact ec_X2_append_22 hv0  
      · exact hrec2 _
set_option maxRecDepth 100000 in
set_option maxHeartbeats 4000000 in
theorem e_X2_append {F : Nat} {K : HK} {pr : HP} {pt : Nat → Nat} {rr : HP} {n : Nat}   {v0 : Nat} {v1 : Int64} (hv0 : OkPaper K pr v0 )  {sg : Nat → Nat → Int32} {lg : Nat → Nat → Int64} : f_X2_append F  v0 v1 n (hp K pr pt rr sg lg) = Option.map (fun z => (z.1, n, hp K pr pt rr z.2.1 z.2.2)) (p_X2_append F   v0 v1 sg lg) := by
  unfold f_X2_append p_X2_append
  exact el_X2_append_2 hv0   _ _
/-! X2_clear -/
def p_X2_clear (F : Nat)   (v0 : Nat) (v1 : Int32) (v2 : Int32) (sg : Nat → Nat → Int32) (lg : Nat → Nat → Int64) : Option ((Nat → Nat → Int32) × (Nat → Nat → Int64)) :=
  gnm (up2 sg v0 1 (0 : Int32)) (fun (sg1 : Nat → Nat → Int32) =>
  gnm (up2 sg1 v0 2 v1) (fun (sg2 : Nat → Nat → Int32) =>
  gnm (up2 sg2 v0 3 v2) (fun (sg3 : Nat → Nat → Int32) =>
  some (sg3, lg))))
set_option maxRecDepth 100000 in
set_option maxHeartbeats 4000000 in
theorem e_X2_clear {F : Nat} {K : HK} {pr : HP} {pt : Nat → Nat} {rr : HP} {n : Nat}   {v0 : Nat} {v1 : Int32} {v2 : Int32} (hv0 : OkPaper K pr v0 )  {sg : Nat → Nat → Int32} {lg : Nat → Nat → Int64} : f_X2_clear F  v0 v1 v2 n (hp K pr pt rr sg lg) = Option.map (fun z => (n, hp K pr pt rr z.1 z.2)) (p_X2_clear F   v0 v1 v2 sg lg) := by
  unfold f_X2_clear p_X2_clear
  refine c_pI (hv0).k0 rfl (fun sg1 => ?_)
  refine c_pI (hv0).k0 rfl (fun sg2 => ?_)
  refine c_pI (hv0).k0 rfl (fun sg3 => ?_)
  rfl
/-! X2_copyFrom -/
def p_X2_copyFrom (F : Nat)   (v0 : Nat) (v1 : Nat) (sg : Nat → Nat → Int32) (lg : Nat → Nat → Int64) : Option ((Nat → Nat → Int32) × (Nat → Nat → Int64)) :=
  Option.bind (mC sg 1 600 600 (v1 + 1) (0 : Int32) (v0 + 1) (0 : Int32) (sg v1 1)) (fun (sg1 : Nat → Nat → Int32) =>
  gnm (up2 sg1 v0 1 (sg1 v1 1)) (fun (sg2 : Nat → Nat → Int32) =>
  gnm (up2 sg2 v0 2 (sg2 v1 2)) (fun (sg3 : Nat → Nat → Int32) =>
  gnm (up2 sg3 v0 3 (sg3 v1 3)) (fun (sg4 : Nat → Nat → Int32) =>
  some (sg4, lg)))))
set_option maxRecDepth 100000 in
set_option maxHeartbeats 4000000 in
theorem e_X2_copyFrom {F : Nat} {K : HK} {pr : HP} {pt : Nat → Nat} {rr : HP} {n : Nat}   {v0 : Nat} {v1 : Nat} (hv0 : OkPaper K pr v0 ) (hv1 : OkPaper K pr v1 )  {sg : Nat → Nat → Int32} {lg : Nat → Nat → Int64} : f_X2_copyFrom F  v0 v1 n (hp K pr pt rr sg lg) = Option.map (fun z => (n, hp K pr pt rr z.1 z.2)) (p_X2_copyFrom F   v0 v1 sg lg) := by
  unfold f_X2_copyFrom p_X2_copyFrom
  refine c_gR (hv1).k0 rfl (hv1).p0 ?_
  refine c_gR (hv0).k0 rfl (hv0).p0 ?_
  refine c_gI (hv1).k0 rfl ?_
  refine c_aC (hv1).k1 (hv0).k1 (by decide) (fun sg1 => ?_)
  refine c_gI (hv1).k0 rfl ?_
  refine c_pI (hv0).k0 rfl (fun sg2 => ?_)
  refine c_gI (hv1).k0 rfl ?_
  refine c_pI (hv0).k0 rfl (fun sg3 => ?_)
  refine c_gI (hv1).k0 rfl ?_
  refine c_pI (hv0).k0 rfl (fun sg4 => ?_)
  rfl
/-! X9_clear -/
def p_X9_clear (F : Nat)   (v0 : Nat) (sg : Nat → Nat → Int32) (lg : Nat → Nat → Int64) : Option ((Nat → Nat → Int32) × (Nat → Nat → Int64)) :=
  gnm (up2 sg v0 0 (0 : Int32)) (fun (sg1 : Nat → Nat → Int32) =>
  gnm (up2 sg1 v0 1 (0 : Int32)) (fun (sg2 : Nat → Nat → Int32) =>
  gnm (up2 sg2 v0 3 (0 : Int32)) (fun (sg3 : Nat → Nat → Int32) =>
  some (sg3, lg))))
set_option maxRecDepth 100000 in
set_option maxHeartbeats 4000000 in
theorem e_X9_clear {F : Nat} {K : HK} {pr : HP} {pt : Nat → Nat} {rr : HP} {n : Nat}   {v0 : Nat} (hv0 : OkTold K pr v0 )  {sg : Nat → Nat → Int32} {lg : Nat → Nat → Int64} : f_X9_clear F  v0 n (hp K pr pt rr sg lg) = Option.map (fun z => (n, hp K pr pt rr z.1 z.2)) (p_X9_clear F   v0 sg lg) := by
  unfold f_X9_clear p_X9_clear
  refine c_pI (hv0).k0 rfl (fun sg1 => ?_)
  refine c_pI (hv0).k0 rfl (fun sg2 => ?_)
  refine c_pI (hv0).k0 rfl (fun sg3 => ?_)
  rfl
/-! X9_tellWhy -/
def p_X9_tellWhy (F : Nat)  (N2 : Nat) (v0 : Nat) (v1 : Int32) (v2 : Nat) (v3 : Int32) (sg : Nat → Nat → Int32) (lg : Nat → Nat → Int64) : Option ((Nat → Nat → Int32) × (Nat → Nat → Int64)) :=
  gnm (up2 sg v0 0 v1) (fun (sg1 : Nat → Nat → Int32) =>
  gnm (up2 sg1 v0 1 (if (if (73 : Int32) < (Int32.ofNat N2) then (73 : Int32) else (Int32.ofNat N2)) < v3 then (if (73 : Int32) < (Int32.ofNat N2) then (73 : Int32) else (Int32.ofNat N2)) else v3)) (fun (sg2 : Nat → Nat → Int32) =>
  Option.bind (mC sg2 0 N2 73 v2 (0 : Int32) (v0 + 1) (0 : Int32) (sg2 v0 1)) (fun (sg3 : Nat → Nat → Int32) =>
  some (sg3, lg))))
set_option maxRecDepth 100000 in
set_option maxHeartbeats 4000000 in
theorem e_X9_tellWhy {F : Nat} {K : HK} {pr : HP} {pt : Nat → Nat} {rr : HP} {n : Nat} {N2 : Nat}  {v0 : Nat} {v1 : Int32} {v2 : Nat} {v3 : Int32} (hv0 : OkTold K pr v0 ) (hv2 : K v2 = some (.inl (0, N2)))  {sg : Nat → Nat → Int32} {lg : Nat → Nat → Int64} : f_X9_tellWhy F  v0 v1 v2 v3 n (hp K pr pt rr sg lg) = Option.map (fun z => (n, hp K pr pt rr z.1 z.2)) (p_X9_tellWhy F  N2 v0 v1 v2 v3 sg lg) := by
  unfold f_X9_tellWhy p_X9_tellWhy
  refine c_pI (hv0).k0 rfl (fun sg1 => ?_)
  refine c_aL hv2 (by decide) ?_
  refine c_pI (hv0).k0 rfl (fun sg2 => ?_)
  refine c_gR (hv0).k0 rfl (hv0).p2 ?_
  refine c_gI (hv0).k0 rfl ?_
  refine c_aC hv2 (hv0).k1 (by decide) (fun sg3 => ?_)
  rfl
/-! X9_whyAt -/
def p_X9_whyAt (F : Nat)   (v0 : Nat) (v1 : Int32) (sg : Nat → Nat → Int32) (lg : Nat → Nat → Int64) : Option (Int32) :=
  if v1 < 0 then
  (some (-1 : Int32))
  else (if (sg v0 1) ≤ v1 then
  (some (-1 : Int32))
  else (Option.bind (mI sg (v0 + 1) 73 v1) (fun (x1 : Int32) =>
  some x1)))
set_option maxRecDepth 100000 in
set_option maxHeartbeats 4000000 in
theorem e_X9_whyAt {F : Nat} {K : HK} {pr : HP} {pt : Nat → Nat} {rr : HP}   {v0 : Nat} {v1 : Int32} (hv0 : OkTold K pr v0 )  {sg : Nat → Nat → Int32} {lg : Nat → Nat → Int64} : f_X9_whyAt F  v0 v1 (hp K pr pt rr sg lg) = p_X9_whyAt F   v0 v1 sg lg := by
  refine Eq.trans ?_ (q_mid _)
  unfold f_X9_whyAt p_X9_whyAt
  refine q_ite ?_ ?_
  · rfl
  · refine c_gI (hv0).k0 rfl ?_
    refine q_ite ?_ ?_
    · rfl
    · refine c_gR (hv0).k0 rfl (hv0).p2 ?_
      refine c_aI (hv0).k1 (by decide) (fun x1 => ?_)
      rfl
/-! X9_tellEnded -/
def pb_X9_tellEnded_12 (F : Nat)   (v0 : Nat) (v1 : Nat)  (v2 : Int32) (prec12 : Int32 → (Nat → Nat → Int32) → (Nat → Nat → Int64) → Option ((Nat → Nat → Int32) × (Nat → Nat → Int64))) : Int32 → (Nat → Nat → Int32) → (Nat → Nat → Int64) → Option ((Nat → Nat → Int32) × (Nat → Nat → Int64)) := fun v3 sg lg =>
  if v3 < 0 then
  (some (sg, lg))
  else (Option.bind (mI sg (v1 + 2) 60 v3) (fun (x3 : Int32) =>
  if x3 = v2 then
  (Option.bind (mI sg (v1 + 1) 60 v3) (fun (x4 : Int32) =>
  Option.bind (mS sg (v0 + 2) 60 (sg v0 3) x4) (fun (sg5 : Nat → Nat → Int32) =>
  gnm (up2 sg5 v0 3 ((sg5 v0 3) + (1 : Int32))) (fun (sg6 : Nat → Nat → Int32) =>
  prec12 (v3 + (-1)) sg6 lg))))
  else (prec12 (v3 + (-1)) sg lg)))
def p_X9_tellEnded (F : Nat)   (v0 : Nat) (v1 : Nat) (v2 : Int32) (sg : Nat → Nat → Int32) (lg : Nat → Nat → Int64) : Option ((Nat → Nat → Int32) × (Nat → Nat → Int64)) :=
  gnm (up2 sg v0 3 (0 : Int32)) (fun (sg1 : Nat → Nat → Int32) =>
  gnm ((sg1 v1 0) - (1 : Int32)) (fun (y2 : Int32) =>
  fixN (fun _ _ _ => none) (pb_X9_tellEnded_12 F   v0 v1  v2) F y2 sg1 lg))
set_option maxRecDepth 100000 in
set_option maxHeartbeats 4000000 in
theorem el_X9_tellEnded_12 {F : Nat} {K : HK} {pr : HP} {pt : Nat → Nat} {rr : HP} {n : Nat}   {v0 : Nat} {v1 : Nat}  (hv0 : OkTold K pr v0 ) (hv1 : OkThings K pr v1 )   {v2 : Int32} : ∀ (k : Nat) (v3 : Int32) (sg : Nat → Nat → Int32) (lg : Nat → Nat → Int64), fixN ((fun _ _ _ => none) : Int32 → Nat → GH → Option (Nat × GH)) (b_X9_tellEnded_12 F   v0 v1 v2) k v3 n (hp K pr pt rr sg lg) = Option.map (fun z => (n, hp K pr pt rr z.1 z.2)) (fixN ((fun _ _ _ => none) : Int32 → (Nat → Nat → Int32) → (Nat → Nat → Int64) → Option ((Nat → Nat → Int32) × (Nat → Nat → Int64))) (pb_X9_tellEnded_12 F   v0 v1  v2) k v3 sg lg) := by
  intro k
  refine fixN_ind2 (P := fun (r : Int32 → Nat → GH → Option (Nat × GH)) (r1 : Int32 → (Nat → Nat → Int32) → (Nat → Nat → Int64) → Option ((Nat → Nat → Int32) × (Nat → Nat → Int64))) => ∀ (v3 : Int32) (sg : Nat → Nat → Int32) (lg : Nat → Nat → Int64), r v3 n (hp K pr pt rr sg lg) = Option.map (fun z => (n, hp K pr pt rr z.1 z.2)) (r1 v3 sg lg)) ?_ ?_ k
  · intro v3 sg lg
    rfl
  · intro rec12 prec12 hrec12 v3 sg lg
    unfold b_X9_tellEnded_12 pb_X9_tellEnded_12
    refine q_ite ?_ ?_
    · rfl
    · refine c_gR (hv1).k0 rfl (hv1).p2 ?_
      refine c_aI (hv1).k2 (by decide) (fun x3 => ?_)
      refine q_ite ?_ ?_
      · refine c_gR (hv0).k0 rfl (hv0).p4 ?_
        refine c_gI (hv0).k0 rfl ?_
        refine c_gR (hv1).k0 rfl (hv1).p1 ?_
        refine c_aI (hv1).k1 (by decide) (fun x4 => ?_)
        refine c_aS (hv0).k2 (by decide) (fun sg5 => ?_)
        refine c_gI (hv0).k0 rfl ?_
        refine c_pI (hv0).k0 rfl (fun sg6 => ?_)
        exact hrec12 _ _ _
      · exact hrec12 _ _ _
set_option maxRecDepth 100000 in
set_option maxHeartbeats 4000000 in
theorem e_X9_tellEnded {F : Nat} {K : HK} {pr : HP} {pt : Nat → Nat} {rr : HP} {n : Nat}   {v0 : Nat} {v1 : Nat} {v2 : Int32} (hv0 : OkTold K pr v0 ) (hv1 : OkThings K pr v1 )  {sg : Nat → Nat → Int32} {lg : Nat → Nat → Int64} : f_X9_tellEnded F  v0 v1 v2 n (hp K pr pt rr sg lg) = Option.map (fun z => (n, hp K pr pt rr z.1 z.2)) (p_X9_tellEnded F   v0 v1 v2 sg lg) := by
  unfold f_X9_tellEnded p_X9_tellEnded
  refine c_pI (hv0).k0 rfl (fun sg1 => ?_)
  refine c_gI (hv1).k0 rfl ?_
  refine q_nm (fun y2 => ?_)
  exact el_X9_tellEnded_12 hv0 hv1   _ _ _ _
/-! X9_endedAt -/
def p_X9_endedAt (F : Nat)   (v0 : Nat) (v1 : Int32) (sg : Nat → Nat → Int32) (lg : Nat → Nat → Int64) : Option (Int32) :=
  if v1 < 0 then
  (some (-1 : Int32))
  else (if (sg v0 3) ≤ v1 then
  (some (-1 : Int32))
  else (Option.bind (mI sg (v0 + 2) 60 v1) (fun (x1 : Int32) =>
  some x1)))
set_option maxRecDepth 100000 in
set_option maxHeartbeats 4000000 in
theorem e_X9_endedAt {F : Nat} {K : HK} {pr : HP} {pt : Nat → Nat} {rr : HP}   {v0 : Nat} {v1 : Int32} (hv0 : OkTold K pr v0 )  {sg : Nat → Nat → Int32} {lg : Nat → Nat → Int64} : f_X9_endedAt F  v0 v1 (hp K pr pt rr sg lg) = p_X9_endedAt F   v0 v1 sg lg := by
  refine Eq.trans ?_ (q_mid _)
  unfold f_X9_endedAt p_X9_endedAt
  refine q_ite ?_ ?_
  · rfl
  · refine c_gI (hv0).k0 rfl ?_
    refine q_ite ?_ ?_
    · rfl
    · refine c_gR (hv0).k0 rfl (hv0).p4 ?_
      refine c_aI (hv0).k2 (by decide) (fun x1 => ?_)
      rfl
/-! X9_badAt -/
def pk_X9_badAt_34 (F : Nat)   (v0 : Nat) (v1 : Nat)  (v4 : Int32)  (sg : Nat → Nat → Int32) (lg : Nat → Nat → Int64) : Option (Int32) :=
  Option.bind (mI sg (v0 + 2) 60 v4) (fun (x3 : Int32) =>
  some x3)
def pb_X9_badAt_5 (F : Nat)   (v0 : Nat) (v1 : Nat)  (v2 : Int32) (sg : Nat → Nat → Int32) (lg : Nat → Nat → Int64) (prec5 : Int32 → Int32 → Option (Int32)) : Int32 → Int32 → Option (Int32) := fun v3 v4 =>
  if (sg v0 3) ≤ v4 then
  (some (-1 : Int32))
  else (Option.bind (mI sg (v0 + 2) 60 v4) (fun (x1 : Int32) =>
  Option.bind (mI sg (v1 + 5) 12 x1) (fun (x2 : Int32) =>
  if x2 = 0 then
  (prec5 v3 (v4 + 1))
  else (if v3 = v2 then
  (pk_X9_badAt_34 F   v0 v1  v4 sg lg)
  else (prec5 (v3 + 1) (v4 + 1))))))
def p_X9_badAt (F : Nat)   (v0 : Nat) (v1 : Nat) (v2 : Int32) (sg : Nat → Nat → Int32) (lg : Nat → Nat → Int64) : Option (Int32) :=
  fixN (fun _ _ => none) (pb_X9_badAt_5 F   v0 v1  v2 sg lg) F (0 : Int32) (0 : Int32)
set_option maxRecDepth 100000 in
set_option maxHeartbeats 4000000 in
theorem ec_X9_badAt_34 {F : Nat} {K : HK} {pr : HP} {pt : Nat → Nat} {rr : HP}   {v0 : Nat} {v1 : Nat}  (hv0 : OkTold K pr v0 ) (hv1 : OkParts K pr v1 )   {v4 : Int32}  {sg : Nat → Nat → Int32} {lg : Nat → Nat → Int64} : k_X9_badAt_34 F   v0 v4  (hp K pr pt rr sg lg) = Option.map (fun z => z) (pk_X9_badAt_34 F   v0 v1  v4  sg lg) := by
  unfold k_X9_badAt_34 pk_X9_badAt_34
  refine c_gR (hv0).k0 rfl (hv0).p4 ?_
  refine c_aI (hv0).k2 (by decide) (fun x3 => ?_)
  rfl
set_option maxRecDepth 100000 in
set_option maxHeartbeats 4000000 in
theorem el_X9_badAt_5 {F : Nat} {K : HK} {pr : HP} {pt : Nat → Nat} {rr : HP}   {v0 : Nat} {v1 : Nat}  (hv0 : OkTold K pr v0 ) (hv1 : OkParts K pr v1 )   {v2 : Int32} {sg : Nat → Nat → Int32} {lg : Nat → Nat → Int64} : ∀ (k : Nat) (v3 : Int32) (v4 : Int32), fixN ((fun _ _ => none) : Int32 → Int32 → Option (Int32)) (b_X9_badAt_5 F   v0 v1 v2 (hp K pr pt rr sg lg)) k v3 v4 = Option.map (fun z => z) (fixN ((fun _ _ => none) : Int32 → Int32 → Option (Int32)) (pb_X9_badAt_5 F   v0 v1  v2 sg lg) k v3 v4) := by
  intro k
  refine fixN_ind2 (P := fun (r : Int32 → Int32 → Option (Int32)) (r1 : Int32 → Int32 → Option (Int32)) => ∀ (v3 : Int32) (v4 : Int32), r v3 v4 = Option.map (fun z => z) (r1 v3 v4)) ?_ ?_ k
  · intro v3 v4
    rfl
  · intro rec5 prec5 hrec5 v3 v4
    unfold b_X9_badAt_5 pb_X9_badAt_5
    refine c_gI (hv0).k0 rfl ?_
    refine q_ite ?_ ?_
    · rfl
    · refine c_gR (hv1).k0 rfl (hv1).p5 ?_
      refine c_gR (hv0).k0 rfl (hv0).p4 ?_
      refine c_aI (hv0).k2 (by decide) (fun x1 => ?_)
      refine c_aI (hv1).k5 (by decide) (fun x2 => ?_)
      refine q_ite ?_ ?_
      · exact hrec5 _ _
      · refine q_ite ?_ ?_
        · exact ec_X9_badAt_34 hv0 hv1  
        · exact hrec5 _ _
set_option maxRecDepth 100000 in
set_option maxHeartbeats 4000000 in
theorem e_X9_badAt {F : Nat} {K : HK} {pr : HP} {pt : Nat → Nat} {rr : HP}   {v0 : Nat} {v1 : Nat} {v2 : Int32} (hv0 : OkTold K pr v0 ) (hv1 : OkParts K pr v1 )  {sg : Nat → Nat → Int32} {lg : Nat → Nat → Int64} : f_X9_badAt F  v0 v1 v2 (hp K pr pt rr sg lg) = p_X9_badAt F   v0 v1 v2 sg lg := by
  refine Eq.trans ?_ (q_mid _)
  unfold f_X9_badAt p_X9_badAt
  exact el_X9_badAt_5 hv0 hv1   _ _ _
/-! X9_countBad -/
def pb_X9_countBad_4 (F : Nat)   (v0 : Nat) (v1 : Nat)   (sg : Nat → Nat → Int32) (lg : Nat → Nat → Int64) (prec4 : Int32 → Int32 → Option (Int32)) : Int32 → Int32 → Option (Int32) := fun v2 v3 =>
  if (sg v0 3) ≤ v3 then
  (some v2)
  else (Option.bind (mI sg (v0 + 2) 60 v3) (fun (x1 : Int32) =>
  Option.bind (mI sg (v1 + 5) 12 x1) (fun (x2 : Int32) =>
  if x2 = 0 then
  (prec4 v2 (v3 + 1))
  else (prec4 (v2 + 1) (v3 + 1)))))
def p_X9_countBad (F : Nat)   (v0 : Nat) (v1 : Nat) (sg : Nat → Nat → Int32) (lg : Nat → Nat → Int64) : Option (Int32) :=
  fixN (fun _ _ => none) (pb_X9_countBad_4 F   v0 v1   sg lg) F (0 : Int32) (0 : Int32)
set_option maxRecDepth 100000 in
set_option maxHeartbeats 4000000 in
theorem el_X9_countBad_4 {F : Nat} {K : HK} {pr : HP} {pt : Nat → Nat} {rr : HP}   {v0 : Nat} {v1 : Nat}  (hv0 : OkTold K pr v0 ) (hv1 : OkParts K pr v1 )    {sg : Nat → Nat → Int32} {lg : Nat → Nat → Int64} : ∀ (k : Nat) (v2 : Int32) (v3 : Int32), fixN ((fun _ _ => none) : Int32 → Int32 → Option (Int32)) (b_X9_countBad_4 F   v0 v1 (hp K pr pt rr sg lg)) k v2 v3 = Option.map (fun z => z) (fixN ((fun _ _ => none) : Int32 → Int32 → Option (Int32)) (pb_X9_countBad_4 F   v0 v1   sg lg) k v2 v3) := by
  intro k
  refine fixN_ind2 (P := fun (r : Int32 → Int32 → Option (Int32)) (r1 : Int32 → Int32 → Option (Int32)) => ∀ (v2 : Int32) (v3 : Int32), r v2 v3 = Option.map (fun z => z) (r1 v2 v3)) ?_ ?_ k
  · intro v2 v3
    rfl
  · intro rec4 prec4 hrec4 v2 v3
    unfold b_X9_countBad_4 pb_X9_countBad_4
    refine c_gI (hv0).k0 rfl ?_
    refine q_ite ?_ ?_
    · rfl
    · refine c_gR (hv1).k0 rfl (hv1).p5 ?_
      refine c_gR (hv0).k0 rfl (hv0).p4 ?_
      refine c_aI (hv0).k2 (by decide) (fun x1 => ?_)
      refine c_aI (hv1).k5 (by decide) (fun x2 => ?_)
      refine q_ite ?_ ?_
      · exact hrec4 _ _
      · exact hrec4 _ _
set_option maxRecDepth 100000 in
set_option maxHeartbeats 4000000 in
theorem e_X9_countBad {F : Nat} {K : HK} {pr : HP} {pt : Nat → Nat} {rr : HP}   {v0 : Nat} {v1 : Nat} (hv0 : OkTold K pr v0 ) (hv1 : OkParts K pr v1 )  {sg : Nat → Nat → Int32} {lg : Nat → Nat → Int64} : f_X9_countBad F  v0 v1 (hp K pr pt rr sg lg) = p_X9_countBad F   v0 v1 sg lg := by
  refine Eq.trans ?_ (q_mid _)
  unfold f_X9_countBad p_X9_countBad
  exact el_X9_countBad_4 hv0 hv1   _ _ _
/-! X9_copyFrom -/
def p_X9_copyFrom (F : Nat)   (v0 : Nat) (v1 : Nat) (sg : Nat → Nat → Int32) (lg : Nat → Nat → Int64) : Option ((Nat → Nat → Int32) × (Nat → Nat → Int64)) :=
  gnm (up2 sg v0 0 (sg v1 0)) (fun (sg1 : Nat → Nat → Int32) =>
  gnm (up2 sg1 v0 1 (sg1 v1 1)) (fun (sg2 : Nat → Nat → Int32) =>
  Option.bind (mC sg2 0 73 73 (v1 + 1) (0 : Int32) (v0 + 1) (0 : Int32) (sg2 v0 1)) (fun (sg3 : Nat → Nat → Int32) =>
  gnm (up2 sg3 v0 3 (sg3 v1 3)) (fun (sg4 : Nat → Nat → Int32) =>
  Option.bind (mC sg4 0 60 60 (v1 + 2) (0 : Int32) (v0 + 2) (0 : Int32) (sg4 v0 3)) (fun (sg5 : Nat → Nat → Int32) =>
  some (sg5, lg))))))
set_option maxRecDepth 100000 in
set_option maxHeartbeats 4000000 in
theorem e_X9_copyFrom {F : Nat} {K : HK} {pr : HP} {pt : Nat → Nat} {rr : HP} {n : Nat}   {v0 : Nat} {v1 : Nat} (hv0 : OkTold K pr v0 ) (hv1 : OkTold K pr v1 )  {sg : Nat → Nat → Int32} {lg : Nat → Nat → Int64} : f_X9_copyFrom F  v0 v1 n (hp K pr pt rr sg lg) = Option.map (fun z => (n, hp K pr pt rr z.1 z.2)) (p_X9_copyFrom F   v0 v1 sg lg) := by
  unfold f_X9_copyFrom p_X9_copyFrom
  refine c_gI (hv1).k0 rfl ?_
  refine c_pI (hv0).k0 rfl (fun sg1 => ?_)
  refine c_gI (hv1).k0 rfl ?_
  refine c_pI (hv0).k0 rfl (fun sg2 => ?_)
  refine c_gR (hv1).k0 rfl (hv1).p2 ?_
  refine c_gR (hv0).k0 rfl (hv0).p2 ?_
  refine c_gI (hv0).k0 rfl ?_
  refine c_aC (hv1).k1 (hv0).k1 (by decide) (fun sg3 => ?_)
  refine c_gI (hv1).k0 rfl ?_
  refine c_pI (hv0).k0 rfl (fun sg4 => ?_)
  refine c_gR (hv1).k0 rfl (hv1).p4 ?_
  refine c_gR (hv0).k0 rfl (hv0).p4 ?_
  refine c_gI (hv0).k0 rfl ?_
  refine c_aC (hv1).k2 (hv0).k2 (by decide) (fun sg5 => ?_)
  rfl
/-! X0_setStandIn -/
def p_X0_setStandIn (F : Nat)  (p : Nat) (v0 : Nat) (v1 : Int32) (v2 : Int32) (sg : Nat → Nat → Int32) (lg : Nat → Nat → Int64) : Option ((Nat → Nat → Int32) × (Nat → Nat → Int64)) :=
  Option.bind (mS sg (v0 + 1) 60 (((sg v0 1) * (12 : Int32)) + v1) v2) (fun (sg1 : Nat → Nat → Int32) =>
  some (sg1, lg))
set_option maxRecDepth 100000 in
set_option maxHeartbeats 4000000 in
theorem e_X0_setStandIn {F : Nat} {K : HK} {pr : HP} {pt : Nat → Nat} {rr : HP} {n : Nat} {p : Nat}  {v0 : Nat} {v1 : Int32} {v2 : Int32} (hv0 : OkBoard K pr pt v0 p)  {sg : Nat → Nat → Int32} {lg : Nat → Nat → Int64} : f_X0_setStandIn F  v0 v1 v2 n (hp K pr pt rr sg lg) = Option.map (fun z => (n, hp K pr pt rr z.1 z.2)) (p_X0_setStandIn F  p v0 v1 v2 sg lg) := by
  unfold f_X0_setStandIn p_X0_setStandIn
  refine c_gR (hv0).k0 rfl (hv0).p2 ?_
  refine c_gI (hv0).k0 rfl ?_
  refine c_aS (hv0).k1 (by decide) (fun sg1 => ?_)
  rfl
/-! X0_leaveScope -/
def pk_X0_leaveScope_46 (F : Nat)  (p : Nat) (v0 : Nat)    (sg : Nat → Nat → Int32) (lg : Nat → Nat → Int64) : Option (Int32 × (Nat → Nat → Int32) × (Nat → Nat → Int64)) :=
  if (sg v0 1) ≤ 0 then
  (some (sg (v0 + 10) 3, sg, lg))
  else (gnm (up2 sg v0 1 ((sg v0 1) - (1 : Int32))) (fun (sg5 : Nat → Nat → Int32) =>
  some (sg5 (v0 + 10) 3, sg5, lg)))
def pb_X0_leaveScope_28 (F : Nat)  (p : Nat) (v0 : Nat)   (prec28 : Int32 → (Nat → Nat → Int32) → (Nat → Nat → Int64) → Option (Int32 × (Nat → Nat → Int32) × (Nat → Nat → Int64))) : Int32 → (Nat → Nat → Int32) → (Nat → Nat → Int64) → Option (Int32 × (Nat → Nat → Int32) × (Nat → Nat → Int64)) := fun v1 sg lg =>
  if (12 : Int32) ≤ v1 then
  (pk_X0_leaveScope_46 F  p v0  sg lg)
  else (hcU (p_X0_setStandIn F p v0 v1 (-1 : Int32) sg lg) (fun (sg6 : Nat → Nat → Int32) (lg7 : Nat → Nat → Int64) =>
  prec28 (v1 + 1) sg6 lg7))
def p_X0_leaveScope (F : Nat)  (p : Nat) (v0 : Nat) (sg : Nat → Nat → Int32) (lg : Nat → Nat → Int64) : Option (Int32 × (Nat → Nat → Int32) × (Nat → Nat → Int64)) :=
  hcU (p_X9_tellEnded F  (v0 + 10) (v0 + 3) (sg v0 1) sg lg) (fun (sg1 : Nat → Nat → Int32) (lg2 : Nat → Nat → Int64) =>
  hcU (p_X7_removeScope F  (v0 + 3) (sg1 v0 1) sg1 lg2) (fun (sg3 : Nat → Nat → Int32) (lg4 : Nat → Nat → Int64) =>
  fixN (fun _ _ _ => none) (pb_X0_leaveScope_28 F  p v0  ) F (0 : Int32) sg3 lg4))
set_option maxRecDepth 100000 in
set_option maxHeartbeats 4000000 in
theorem ec_X0_leaveScope_46 {F : Nat} {K : HK} {pr : HP} {pt : Nat → Nat} {rr : HP} {n : Nat} {p : Nat}  {v0 : Nat}  (hv0 : OkBoard K pr pt v0 p)     {sg : Nat → Nat → Int32} {lg : Nat → Nat → Int64} : k_X0_leaveScope_46 F   v0  n (hp K pr pt rr sg lg) = Option.map (fun z => (z.1, n, hp K pr pt rr z.2.1 z.2.2)) (pk_X0_leaveScope_46 F  p v0    sg lg) := by
  unfold k_X0_leaveScope_46 pk_X0_leaveScope_46
  refine c_gI (hv0).k0 rfl ?_
  refine q_ite ?_ ?_
  · refine c_gR (hv0).k0 rfl (hv0).p5 ?_
    refine c_gI ((hv0).o5).k0 rfl ?_
    rfl
  · refine c_gI (hv0).k0 rfl ?_
    refine c_pI (hv0).k0 rfl (fun sg5 => ?_)
    refine c_gR (hv0).k0 rfl (hv0).p5 ?_
    refine c_gI ((hv0).o5).k0 rfl ?_
    rfl
set_option maxRecDepth 100000 in
set_option maxHeartbeats 4000000 in
theorem el_X0_leaveScope_28 {F : Nat} {K : HK} {pr : HP} {pt : Nat → Nat} {rr : HP} {n : Nat} {p : Nat}  {v0 : Nat}  (hv0 : OkBoard K pr pt v0 p)    : ∀ (k : Nat) (v1 : Int32) (sg : Nat → Nat → Int32) (lg : Nat → Nat → Int64), fixN ((fun _ _ _ => none) : Int32 → Nat → GH → Option (Int32 × Nat × GH)) (b_X0_leaveScope_28 F   v0) k v1 n (hp K pr pt rr sg lg) = Option.map (fun z => (z.1, n, hp K pr pt rr z.2.1 z.2.2)) (fixN ((fun _ _ _ => none) : Int32 → (Nat → Nat → Int32) → (Nat → Nat → Int64) → Option (Int32 × (Nat → Nat → Int32) × (Nat → Nat → Int64))) (pb_X0_leaveScope_28 F  p v0  ) k v1 sg lg) := by
  intro k
  refine fixN_ind2 (P := fun (r : Int32 → Nat → GH → Option (Int32 × Nat × GH)) (r1 : Int32 → (Nat → Nat → Int32) → (Nat → Nat → Int64) → Option (Int32 × (Nat → Nat → Int32) × (Nat → Nat → Int64))) => ∀ (v1 : Int32) (sg : Nat → Nat → Int32) (lg : Nat → Nat → Int64), r v1 n (hp K pr pt rr sg lg) = Option.map (fun z => (z.1, n, hp K pr pt rr z.2.1 z.2.2)) (r1 v1 sg lg)) ?_ ?_ k
  · intro v1 sg lg
    rfl
  · intro rec28 prec28 hrec28 v1 sg lg
    unfold b_X0_leaveScope_28 pb_X0_leaveScope_28
    refine q_ite ?_ ?_
    · exact ec_X0_leaveScope_46 hv0  
    · refine c_cvU (hv0).k0 (e_X0_setStandIn (hv0)) (fun sg6 lg7 => ?_)
      exact hrec28 _ _ _
set_option maxRecDepth 100000 in
set_option maxHeartbeats 4000000 in
theorem e_X0_leaveScope {F : Nat} {K : HK} {pr : HP} {pt : Nat → Nat} {rr : HP} {n : Nat} {p : Nat}  {v0 : Nat} (hv0 : OkBoard K pr pt v0 p)  {sg : Nat → Nat → Int32} {lg : Nat → Nat → Int64} : f_X0_leaveScope F  v0 n (hp K pr pt rr sg lg) = Option.map (fun z => (z.1, n, hp K pr pt rr z.2.1 z.2.2)) (p_X0_leaveScope F  p v0 sg lg) := by
  unfold f_X0_leaveScope p_X0_leaveScope
  refine c_gR (hv0).k0 rfl (hv0).p5 ?_
  refine c_gR (hv0).k0 rfl (hv0).p4 ?_
  refine c_gI (hv0).k0 rfl ?_
  refine c_cvU ((hv0).o5).k0 (e_X9_tellEnded ((hv0).o5) ((hv0).o4)) (fun sg1 lg2 => ?_)
  refine c_gR (hv0).k0 rfl (hv0).p4 ?_
  refine c_gI (hv0).k0 rfl ?_
  refine c_cvU ((hv0).o4).k0 (e_X7_removeScope ((hv0).o4)) (fun sg3 lg4 => ?_)
  exact el_X0_leaveScope_28 hv0   _ _ _ _
/-! X0_standInAt -/
def p_X0_standInAt (F : Nat)  (p : Nat) (v0 : Nat) (v1 : Int32) (v2 : Int32) (sg : Nat → Nat → Int32) (lg : Nat → Nat → Int64) : Option (Int32) :=
  Option.bind (mI sg (v0 + 1) 60 ((v2 * (12 : Int32)) + v1)) (fun (x1 : Int32) =>
  some x1)
set_option maxRecDepth 100000 in
set_option maxHeartbeats 4000000 in
theorem e_X0_standInAt {F : Nat} {K : HK} {pr : HP} {pt : Nat → Nat} {rr : HP} {p : Nat}  {v0 : Nat} {v1 : Int32} {v2 : Int32} (hv0 : OkBoard K pr pt v0 p)  {sg : Nat → Nat → Int32} {lg : Nat → Nat → Int64} : f_X0_standInAt F  v0 v1 v2 (hp K pr pt rr sg lg) = p_X0_standInAt F  p v0 v1 v2 sg lg := by
  refine Eq.trans ?_ (q_mid _)
  unfold f_X0_standInAt p_X0_standInAt
  refine c_gR (hv0).k0 rfl (hv0).p2 ?_
  refine c_aI (hv0).k1 (by decide) (fun x1 => ?_)
  rfl
/-! X0_resolve -/
def pb_X0_resolve_2 (F : Nat)  (p : Nat) (v0 : Nat)  (v1 : Int32) (sg : Nat → Nat → Int32) (lg : Nat → Nat → Int64) (prec2 : Int32 → Option (Int32)) : Int32 → Option (Int32) := fun v3 =>
  if v3 < 0 then
  (some v1)
  else (Option.bind (p_X0_standInAt F p v0 v1 v3 sg lg) (fun (x1 : Int32) =>
  if x1 = (-1 : Int32) then
  (prec2 (v3 + (-1)))
  else (some x1)))
def p_X0_resolve (F : Nat)  (p : Nat) (v0 : Nat) (v1 : Int32) (v2 : Int32) (sg : Nat → Nat → Int32) (lg : Nat → Nat → Int64) : Option (Int32) :=
  fixN (fun _ => none) (pb_X0_resolve_2 F  p v0  v1 sg lg) F v2
set_option maxRecDepth 100000 in
set_option maxHeartbeats 4000000 in
theorem el_X0_resolve_2 {F : Nat} {K : HK} {pr : HP} {pt : Nat → Nat} {rr : HP} {p : Nat}  {v0 : Nat}  (hv0 : OkBoard K pr pt v0 p)   {v1 : Int32} {sg : Nat → Nat → Int32} {lg : Nat → Nat → Int64} : ∀ (k : Nat) (v3 : Int32), fixN ((fun _ => none) : Int32 → Option (Int32)) (b_X0_resolve_2 F   v0 v1 (hp K pr pt rr sg lg)) k v3 = Option.map (fun z => z) (fixN ((fun _ => none) : Int32 → Option (Int32)) (pb_X0_resolve_2 F  p v0  v1 sg lg) k v3) := by
  intro k
  refine fixN_ind2 (P := fun (r : Int32 → Option (Int32)) (r1 : Int32 → Option (Int32)) => ∀ (v3 : Int32), r v3 = Option.map (fun z => z) (r1 v3)) ?_ ?_ k
  · intro v3
    rfl
  · intro rec2 prec2 hrec2 v3
    unfold b_X0_resolve_2 pb_X0_resolve_2
    refine q_ite ?_ ?_
    · rfl
    · refine c_cvP (hv0).k0 (e_X0_standInAt (hv0)) (fun x1 => ?_)
      refine q_ite ?_ ?_
      · exact hrec2 _
      · rfl
set_option maxRecDepth 100000 in
set_option maxHeartbeats 4000000 in
theorem e_X0_resolve {F : Nat} {K : HK} {pr : HP} {pt : Nat → Nat} {rr : HP} {p : Nat}  {v0 : Nat} {v1 : Int32} {v2 : Int32} (hv0 : OkBoard K pr pt v0 p)  {sg : Nat → Nat → Int32} {lg : Nat → Nat → Int64} : f_X0_resolve F  v0 v1 v2 (hp K pr pt rr sg lg) = p_X0_resolve F  p v0 v1 v2 sg lg := by
  refine Eq.trans ?_ (q_mid _)
  unfold f_X0_resolve p_X0_resolve
  exact el_X0_resolve_2 hv0   _ _
/-! X0_countStandIns -/
def pb_X0_countStandIns_13 (F : Nat)  (p : Nat) (v0 : Nat)  (v3 : Int32) (sg : Nat → Nat → Int32) (lg : Nat → Nat → Int64) (prec13 : Int32 → Int32 → Option (Int32)) : Int32 → Int32 → Option (Int32) := fun v1 v4 =>
  if v3 ≤ v4 then
  (some v1)
  else (Option.bind (mI sg (v0 + 1) 60 v4) (fun (x2 : Int32) =>
  if x2 = (-1 : Int32) then
  (prec13 v1 (v4 + 1))
  else (prec13 (v1 + 1) (v4 + 1))))
def p_X0_countStandIns (F : Nat)  (p : Nat) (v0 : Nat) (sg : Nat → Nat → Int32) (lg : Nat → Nat → Int64) : Option (Int32) :=
  gnm (Int32.ofNat 60) (fun (y1 : Int32) =>
  fixN (fun _ _ => none) (pb_X0_countStandIns_13 F  p v0  y1 sg lg) F (0 : Int32) (0 : Int32))
set_option maxRecDepth 100000 in
set_option maxHeartbeats 4000000 in
theorem el_X0_countStandIns_13 {F : Nat} {K : HK} {pr : HP} {pt : Nat → Nat} {rr : HP} {p : Nat}  {v0 : Nat}  (hv0 : OkBoard K pr pt v0 p)   {v3 : Int32} {sg : Nat → Nat → Int32} {lg : Nat → Nat → Int64} : ∀ (k : Nat) (v1 : Int32) (v4 : Int32), fixN ((fun _ _ => none) : Int32 → Int32 → Option (Int32)) (b_X0_countStandIns_13 F   (v0 + 1) v3 (hp K pr pt rr sg lg)) k v1 v4 = Option.map (fun z => z) (fixN ((fun _ _ => none) : Int32 → Int32 → Option (Int32)) (pb_X0_countStandIns_13 F  p v0  v3 sg lg) k v1 v4) := by
  intro k
  refine fixN_ind2 (P := fun (r : Int32 → Int32 → Option (Int32)) (r1 : Int32 → Int32 → Option (Int32)) => ∀ (v1 : Int32) (v4 : Int32), r v1 v4 = Option.map (fun z => z) (r1 v1 v4)) ?_ ?_ k
  · intro v1 v4
    rfl
  · intro rec13 prec13 hrec13 v1 v4
    unfold b_X0_countStandIns_13 pb_X0_countStandIns_13
    refine q_ite ?_ ?_
    · rfl
    · refine c_aI (hv0).k1 (by decide) (fun x2 => ?_)
      refine q_ite ?_ ?_
      · exact hrec13 _ _
      · exact hrec13 _ _
set_option maxRecDepth 100000 in
set_option maxHeartbeats 4000000 in
theorem e_X0_countStandIns {F : Nat} {K : HK} {pr : HP} {pt : Nat → Nat} {rr : HP} {p : Nat}  {v0 : Nat} (hv0 : OkBoard K pr pt v0 p)  {sg : Nat → Nat → Int32} {lg : Nat → Nat → Int64} : f_X0_countStandIns F  v0 (hp K pr pt rr sg lg) = p_X0_countStandIns F  p v0 sg lg := by
  refine Eq.trans ?_ (q_mid _)
  unfold f_X0_countStandIns p_X0_countStandIns
  refine c_gR (hv0).k0 rfl (hv0).p2 ?_
  refine c_aL (hv0).k1 (by decide) ?_
  refine c_nr ?_
  exact el_X0_countStandIns_13 hv0   _ _ _
/-! X0_countMade -/
def pb_X0_countMade_13 (F : Nat)  (p : Nat) (v0 : Nat)  (v3 : Int32) (sg : Nat → Nat → Int32) (lg : Nat → Nat → Int64) (prec13 : Int32 → Int32 → Option (Int32)) : Int32 → Int32 → Option (Int32) := fun v1 v4 =>
  if v3 ≤ v4 then
  (some v1)
  else (Option.bind (mI sg (v0 + 2) 12 v4) (fun (x2 : Int32) =>
  gnm (v1 + x2) (fun (y3 : Int32) =>
  prec13 y3 (v4 + 1))))
def p_X0_countMade (F : Nat)  (p : Nat) (v0 : Nat) (sg : Nat → Nat → Int32) (lg : Nat → Nat → Int64) : Option (Int32) :=
  gnm (Int32.ofNat 12) (fun (y1 : Int32) =>
  fixN (fun _ _ => none) (pb_X0_countMade_13 F  p v0  y1 sg lg) F (0 : Int32) (0 : Int32))
set_option maxRecDepth 100000 in
set_option maxHeartbeats 4000000 in
theorem el_X0_countMade_13 {F : Nat} {K : HK} {pr : HP} {pt : Nat → Nat} {rr : HP} {p : Nat}  {v0 : Nat}  (hv0 : OkBoard K pr pt v0 p)   {v3 : Int32} {sg : Nat → Nat → Int32} {lg : Nat → Nat → Int64} : ∀ (k : Nat) (v1 : Int32) (v4 : Int32), fixN ((fun _ _ => none) : Int32 → Int32 → Option (Int32)) (b_X0_countMade_13 F   (v0 + 2) v3 (hp K pr pt rr sg lg)) k v1 v4 = Option.map (fun z => z) (fixN ((fun _ _ => none) : Int32 → Int32 → Option (Int32)) (pb_X0_countMade_13 F  p v0  v3 sg lg) k v1 v4) := by
  intro k
  refine fixN_ind2 (P := fun (r : Int32 → Int32 → Option (Int32)) (r1 : Int32 → Int32 → Option (Int32)) => ∀ (v1 : Int32) (v4 : Int32), r v1 v4 = Option.map (fun z => z) (r1 v1 v4)) ?_ ?_ k
  · intro v1 v4
    rfl
  · intro rec13 prec13 hrec13 v1 v4
    unfold b_X0_countMade_13 pb_X0_countMade_13
    refine q_ite ?_ ?_
    · rfl
    · refine c_aI (hv0).k2 (by decide) (fun x2 => ?_)
      refine q_nm (fun y3 => ?_)
      exact hrec13 _ _
set_option maxRecDepth 100000 in
set_option maxHeartbeats 4000000 in
theorem e_X0_countMade {F : Nat} {K : HK} {pr : HP} {pt : Nat → Nat} {rr : HP} {p : Nat}  {v0 : Nat} (hv0 : OkBoard K pr pt v0 p)  {sg : Nat → Nat → Int32} {lg : Nat → Nat → Int64} : f_X0_countMade F  v0 (hp K pr pt rr sg lg) = p_X0_countMade F  p v0 sg lg := by
  refine Eq.trans ?_ (q_mid _)
  unfold f_X0_countMade p_X0_countMade
  refine c_gR (hv0).k0 rfl (hv0).p3 ?_
  refine c_aL (hv0).k2 (by decide) ?_
  refine c_nr ?_
  exact el_X0_countMade_13 hv0   _ _ _
