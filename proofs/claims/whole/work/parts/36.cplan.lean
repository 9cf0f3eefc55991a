/-! X5_leastReady -/
def pk_X5_leastReady_35 (F : Nat)  (p : Nat) (v0 : Nat) (prec2 : Int32 → Option (Int32)) (v1 : Int32) (v2 : Int32) (s0 : Int32) (sg : Nat → Nat → Int32) (lg : Nat → Nat → Int64) : Option (Int32) :=
  if (v1 &&& ((1 : Int32) <<< (v2 &&& 31))) = 0 then
  (if s0 = 0 then
  (some v2)
  else (prec2 (v2 + 1)))
  else (prec2 (v2 + 1))
def pb_X5_leastReady_2 (F : Nat)  (p : Nat) (v0 : Nat)  (v1 : Int32) (sg : Nat → Nat → Int32) (lg : Nat → Nat → Int64) (prec2 : Int32 → Option (Int32)) : Int32 → Option (Int32) := fun v2 =>
  if (sg p 0) ≤ v2 then
  (some (-1 : Int32))
  else (Option.bind (p_X3_needBits F  p v2 (0 : Int32) (0 : Int64) sg lg) (fun (x1 : Int32) =>
  if (x1 &&& (v1 ^^^ (-1 : Int32))) = 0 then
  (pk_X5_leastReady_35 F  p v0 prec2 v1 v2 (0 : Int32) sg lg)
  else (pk_X5_leastReady_35 F  p v0 prec2 v1 v2 (1 : Int32) sg lg)))
def p_X5_leastReady (F : Nat)  (p : Nat) (v0 : Nat) (v1 : Int32) (sg : Nat → Nat → Int32) (lg : Nat → Nat → Int64) : Option (Int32) :=
  fixN (fun _ => none) (pb_X5_leastReady_2 F  p v0  v1 sg lg) F (0 : Int32)
set_option maxRecDepth 100000 in
set_option maxHeartbeats 4000000 in
theorem ec_X5_leastReady_35 {F : Nat} {K : HK} {pr : HP} {pt : Nat → Nat} {rr : HP} {p : Nat}  {v0 : Nat} {rec2 : Int32 → Option (Int32)} {prec2 : Int32 → Option (Int32)} (hv0 : OkPlan K pr pt v0 p)  (hrec2 : ∀ (w2 : Int32), rec2 w2 = Option.map (fun z => z) (prec2 w2)) {v1 : Int32} {v2 : Int32} {s0 : Int32} {sg : Nat → Nat → Int32} {lg : Nat → Nat → Int64} : k_X5_leastReady_35 F  rec2 v0 v1 v2 s0 (hp K pr pt rr sg lg) = Option.map (fun z => z) (pk_X5_leastReady_35 F  p v0 prec2 v1 v2 s0 sg lg) := by
  unfold k_X5_leastReady_35 pk_X5_leastReady_35
  refine q_ite ?_ ?_
  · refine q_ite ?_ ?_
    · rfl
    · exact hrec2 _
  · exact hrec2 _
set_option maxRecDepth 100000 in
set_option maxHeartbeats 4000000 in
theorem el_X5_leastReady_2 {F : Nat} {K : HK} {pr : HP} {pt : Nat → Nat} {rr : HP} {p : Nat}  {v0 : Nat}  (hv0 : OkPlan K pr pt v0 p)   {v1 : Int32} {sg : Nat → Nat → Int32} {lg : Nat → Nat → Int64} : ∀ (k : Nat) (v2 : Int32), fixN ((fun _ => none) : Int32 → Option (Int32)) (b_X5_leastReady_2 F   v0 v1 (hp K pr pt rr sg lg)) k v2 = Option.map (fun z => z) (fixN ((fun _ => none) : Int32 → Option (Int32)) (pb_X5_leastReady_2 F  p v0  v1 sg lg) k v2) := by
  intro k
  refine fixN_ind2 (P := fun (r : Int32 → Option (Int32)) (r1 : Int32 → Option (Int32)) => ∀ (v2 : Int32), r v2 = Option.map (fun z => z) (r1 v2)) ?_ ?_ k
  · intro v2
    rfl
  · intro rec2 prec2 hrec2 v2
    unfold b_X5_leastReady_2 pb_X5_leastReady_2
    refine c_gP (hv0).k0 rfl (hv0).p0 ?_
    refine c_gI ((hv0).o0).k0 rfl ?_
    refine q_ite ?_ ?_
    · rfl
    · refine c_gP (hv0).k0 rfl (hv0).p0 ?_
      refine c_cvP ((hv0).o0).k0 (e_X3_needBits ((hv0).o0)) (fun x1 => ?_)
      refine q_ite ?_ ?_
      · exact ec_X5_leastReady_35 hv0  hrec2
      · exact ec_X5_leastReady_35 hv0  hrec2
set_option maxRecDepth 100000 in
set_option maxHeartbeats 4000000 in
theorem e_X5_leastReady {F : Nat} {K : HK} {pr : HP} {pt : Nat → Nat} {rr : HP} {p : Nat}  {v0 : Nat} {v1 : Int32} (hv0 : OkPlan K pr pt v0 p)  {sg : Nat → Nat → Int32} {lg : Nat → Nat → Int64} : f_X5_leastReady F  v0 v1 (hp K pr pt rr sg lg) = p_X5_leastReady F  p v0 v1 sg lg := by
  refine Eq.trans ?_ (q_mid _)
  unfold f_X5_leastReady p_X5_leastReady
  exact el_X5_leastReady_2 hv0   _ _
/-! X5_waveAbove -/
def pb_X5_waveAbove_4 (F : Nat)  (p : Nat) (v0 : Nat)  (v1 : Int32) (sg : Nat → Nat → Int32) (lg : Nat → Nat → Int64) (prec4 : Int32 → Int32 → Option (Int32)) : Int32 → Int32 → Option (Int32) := fun v2 v3 =>
  if (sg p 0) ≤ v3 then
  (some v2)
  else (if (v1 &&& ((1 : Int32) <<< (v3 &&& 31))) = 0 then
  (prec4 v2 (v3 + 1))
  else (Option.bind (mI sg (v0 + 2) 12 v3) (fun (x1 : Int32) =>
  gnm (if v2 < (x1 + (1 : Int32)) then (x1 + (1 : Int32)) else v2) (fun (y2 : Int32) =>
  prec4 y2 (v3 + 1)))))
def p_X5_waveAbove (F : Nat)  (p : Nat) (v0 : Nat) (v1 : Int32) (sg : Nat → Nat → Int32) (lg : Nat → Nat → Int64) : Option (Int32) :=
  fixN (fun _ _ => none) (pb_X5_waveAbove_4 F  p v0  v1 sg lg) F (0 : Int32) (0 : Int32)
set_option maxRecDepth 100000 in
set_option maxHeartbeats 4000000 in
theorem el_X5_waveAbove_4 {F : Nat} {K : HK} {pr : HP} {pt : Nat → Nat} {rr : HP} {p : Nat}  {v0 : Nat}  (hv0 : OkPlan K pr pt v0 p)   {v1 : Int32} {sg : Nat → Nat → Int32} {lg : Nat → Nat → Int64} : ∀ (k : Nat) (v2 : Int32) (v3 : Int32), fixN ((fun _ _ => none) : Int32 → Int32 → Option (Int32)) (b_X5_waveAbove_4 F   v0 v1 (hp K pr pt rr sg lg)) k v2 v3 = Option.map (fun z => z) (fixN ((fun _ _ => none) : Int32 → Int32 → Option (Int32)) (pb_X5_waveAbove_4 F  p v0  v1 sg lg) k v2 v3) := by
  intro k
  refine fixN_ind2 (P := fun (r : Int32 → Int32 → Option (Int32)) (r1 : Int32 → Int32 → Option (Int32)) => ∀ (v2 : Int32) (v3 : Int32), r v2 v3 = Option.map (fun z => z) (r1 v2 v3)) ?_ ?_ k
  · intro v2 v3
    rfl
  · intro rec4 prec4 hrec4 v2 v3
    unfold b_X5_waveAbove_4 pb_X5_waveAbove_4
    refine c_gP (hv0).k0 rfl (hv0).p0 ?_
    refine c_gI ((hv0).o0).k0 rfl ?_
    refine q_ite ?_ ?_
    · rfl
    · refine q_ite ?_ ?_
      · exact hrec4 _ _
      · refine c_gR (hv0).k0 rfl (hv0).p3 ?_
        refine c_aI (hv0).k2 (by decide) (fun x1 => ?_)
        refine q_nm (fun y2 => ?_)
        exact hrec4 _ _
set_option maxRecDepth 100000 in
set_option maxHeartbeats 4000000 in
theorem e_X5_waveAbove {F : Nat} {K : HK} {pr : HP} {pt : Nat → Nat} {rr : HP} {p : Nat}  {v0 : Nat} {v1 : Int32} (hv0 : OkPlan K pr pt v0 p)  {sg : Nat → Nat → Int32} {lg : Nat → Nat → Int64} : f_X5_waveAbove F  v0 v1 (hp K pr pt rr sg lg) = p_X5_waveAbove F  p v0 v1 sg lg := by
  refine Eq.trans ?_ (q_mid _)
  unfold f_X5_waveAbove p_X5_waveAbove
  exact el_X5_waveAbove_4 hv0   _ _ _
/-! X5_findStart -/
def pb_X5_findStart_17 (F : Nat)  (p : Nat) (v0 : Nat)   (prec17 : Int32 → Int32 → (Nat → Nat → Int32) → (Nat → Nat → Int64) → Option ((Nat → Nat → Int32) × (Nat → Nat → Int64))) : Int32 → Int32 → (Nat → Nat → Int32) → (Nat → Nat → Int64) → Option ((Nat → Nat → Int32) × (Nat → Nat → Int64)) := fun v1 v2 sg lg =>
  if (sg p 0) ≤ v2 then
  (some (sg, lg))
  else (Option.bind (p_X5_leastReady F p v0 v1 sg lg) (fun (x4 : Int32) =>
  if x4 = (-1 : Int32) then
  (some (sg, lg))
  else (Option.bind (mS sg (v0 + 1) 12 (sg v0 1) x4) (fun (sg5 : Nat → Nat → Int32) =>
  gnm (up2 sg5 v0 1 ((sg5 v0 1) + (1 : Int32))) (fun (sg6 : Nat → Nat → Int32) =>
  gnm (v1 ||| ((1 : Int32) <<< (x4 &&& 31))) (fun (y7 : Int32) =>
  Option.bind (p_X3_needBits F  p x4 (0 : Int32) (0 : Int64) sg6 lg) (fun (x8 : Int32) =>
  Option.bind (p_X5_waveAbove F p v0 x8 sg6 lg) (fun (x9 : Int32) =>
  Option.bind (mS sg6 (v0 + 2) 12 x4 x9) (fun (sg10 : Nat → Nat → Int32) =>
  prec17 y7 (v2 + 1) sg10 lg)))))))))
def p_X5_findStart (F : Nat)  (p : Nat) (v0 : Nat) (sg : Nat → Nat → Int32) (lg : Nat → Nat → Int64) : Option ((Nat → Nat → Int32) × (Nat → Nat → Int64)) :=
  gnm (up2 sg v0 1 (0 : Int32)) (fun (sg1 : Nat → Nat → Int32) =>
  hcU (p_J7_fill_53178 F (12) (v0 + 2) (-1 : Int32) sg1 lg) (fun (sg2 : Nat → Nat → Int32) (lg3 : Nat → Nat → Int64) =>
  fixN (fun _ _ _ _ => none) (pb_X5_findStart_17 F  p v0  ) F (0 : Int32) (0 : Int32) sg2 lg3))
set_option maxRecDepth 100000 in
set_option maxHeartbeats 4000000 in
theorem el_X5_findStart_17 {F : Nat} {K : HK} {pr : HP} {pt : Nat → Nat} {rr : HP} {n : Nat} {p : Nat}  {v0 : Nat}  (hv0 : OkPlan K pr pt v0 p)    : ∀ (k : Nat) (v1 : Int32) (v2 : Int32) (sg : Nat → Nat → Int32) (lg : Nat → Nat → Int64), fixN ((fun _ _ _ _ => none) : Int32 → Int32 → Nat → GH → Option (Nat × GH)) (b_X5_findStart_17 F   v0) k v1 v2 n (hp K pr pt rr sg lg) = Option.map (fun z => (n, hp K pr pt rr z.1 z.2)) (fixN ((fun _ _ _ _ => none) : Int32 → Int32 → (Nat → Nat → Int32) → (Nat → Nat → Int64) → Option ((Nat → Nat → Int32) × (Nat → Nat → Int64))) (pb_X5_findStart_17 F  p v0  ) k v1 v2 sg lg) := by
  intro k
  refine fixN_ind2 (P := fun (r : Int32 → Int32 → Nat → GH → Option (Nat × GH)) (r1 : Int32 → Int32 → (Nat → Nat → Int32) → (Nat → Nat → Int64) → Option ((Nat → Nat → Int32) × (Nat → Nat → Int64))) => ∀ (v1 : Int32) (v2 : Int32) (sg : Nat → Nat → Int32) (lg : Nat → Nat → Int64), r v1 v2 n (hp K pr pt rr sg lg) = Option.map (fun z => (n, hp K pr pt rr z.1 z.2)) (r1 v1 v2 sg lg)) ?_ ?_ k
  · intro v1 v2 sg lg
    rfl
  · intro rec17 prec17 hrec17 v1 v2 sg lg
    unfold b_X5_findStart_17 pb_X5_findStart_17
    refine c_gP (hv0).k0 rfl (hv0).p0 ?_
    refine c_gI ((hv0).o0).k0 rfl ?_
    refine q_ite ?_ ?_
    · rfl
    · refine c_cvP (hv0).k0 (e_X5_leastReady (hv0)) (fun x4 => ?_)
      refine q_ite ?_ ?_
      · rfl
      · refine c_gR (hv0).k0 rfl (hv0).p2 ?_
        refine c_gI (hv0).k0 rfl ?_
        refine c_aS (hv0).k1 (by decide) (fun sg5 => ?_)
        refine c_gI (hv0).k0 rfl ?_
        refine c_pI (hv0).k0 rfl (fun sg6 => ?_)
        refine q_nm (fun y7 => ?_)
        refine c_gR (hv0).k0 rfl (hv0).p3 ?_
        refine c_gP (hv0).k0 rfl (hv0).p0 ?_
        refine c_cvP ((hv0).o0).k0 (e_X3_needBits ((hv0).o0)) (fun x8 => ?_)
        refine c_cvP (hv0).k0 (e_X5_waveAbove (hv0)) (fun x9 => ?_)
        refine c_aS (hv0).k2 (by decide) (fun sg10 => ?_)
        exact hrec17 _ _ _ _
set_option maxRecDepth 100000 in
set_option maxHeartbeats 4000000 in
theorem e_X5_findStart {F : Nat} {K : HK} {pr : HP} {pt : Nat → Nat} {rr : HP} {n : Nat} {p : Nat}  {v0 : Nat} (hv0 : OkPlan K pr pt v0 p)  {sg : Nat → Nat → Int32} {lg : Nat → Nat → Int64} : f_X5_findStart F  v0 n (hp K pr pt rr sg lg) = Option.map (fun z => (n, hp K pr pt rr z.1 z.2)) (p_X5_findStart F  p v0 sg lg) := by
  unfold f_X5_findStart p_X5_findStart
  refine c_pI (hv0).k0 rfl (fun sg1 => ?_)
  refine c_gR (hv0).k0 rfl (hv0).p3 ?_
  refine c_bU (e_J7_fill_53178 ((hv0).k2)) (fun sg2 lg3 => ?_)
  exact el_X5_findStart_17 hv0   _ _ _ _ _
/-! X5_startable -/
def pk_X5_startable_93 (F : Nat)  (p : Nat) (v0 : Nat) (prec6 : Int32 → Int32 → Option (Int32)) (v1 : Int64) (v4 : Int32) (v5 : Int32) (v6 : Int32)  (sg : Nat → Nat → Int32) (lg : Nat → Nat → Int64) : Option (Int32) :=
  if v4 = v6 then
  (some v4)
  else (prec6 v4 (v5 + 1))
def pk_X5_startable_52 (F : Nat)  (p : Nat) (v0 : Nat) (prec25 : Int32 → Int32 → Option (Int32)) (v1 : Int64) (v4 : Int32) (v5 : Int32) (v6 : Int32) (v7 : Int32) (s0 : Int32) (sg : Nat → Nat → Int32) (lg : Nat → Nat → Int64) : Option (Int32) :=
  if s0 = 0 then
  (Option.bind (p_X3_needBits F  p v7 (0 : Int32) v1 sg lg) (fun (x1 : Int32) =>
  if (x1 &&& (v4 ^^^ (-1 : Int32))) = 0 then
  (gnm (v4 ||| ((1 : Int32) <<< (v7 &&& 31))) (fun (y2 : Int32) =>
  prec25 y2 (v7 + 1)))
  else (prec25 v4 (v7 + 1))))
  else (prec25 v4 (v7 + 1))
def pb_X5_startable_25 (F : Nat)  (p : Nat) (v0 : Nat) (prec6 : Int32 → Int32 → Option (Int32)) (v1 : Int64) (v5 : Int32) (v6 : Int32) (sg : Nat → Nat → Int32) (lg : Nat → Nat → Int64) (prec25 : Int32 → Int32 → Option (Int32)) : Int32 → Int32 → Option (Int32) := fun v4 v7 =>
  if (sg p 0) ≤ v7 then
  (pk_X5_startable_93 F  p v0 prec6 v1 v4 v5 v6 sg lg)
  else (if (v4 &&& ((1 : Int32) <<< (v7 &&& 31))) = 0 then
  (pk_X5_startable_52 F  p v0 prec25 v1 v4 v5 v6 v7 (0 : Int32) sg lg)
  else (pk_X5_startable_52 F  p v0 prec25 v1 v4 v5 v6 v7 (1 : Int32) sg lg))
def pb_X5_startable_6 (F : Nat)  (p : Nat) (v0 : Nat)  (v1 : Int64) (sg : Nat → Nat → Int32) (lg : Nat → Nat → Int64) (prec6 : Int32 → Int32 → Option (Int32)) : Int32 → Int32 → Option (Int32) := fun v4 v5 =>
  if (sg p 0) ≤ v5 then
  (some v4)
  else (fixN (fun _ _ => none) (pb_X5_startable_25 F  p v0 prec6 v1 v5 v4 sg lg) F v4 (0 : Int32))
def p_X5_startable (F : Nat)  (p : Nat) (v0 : Nat) (v1 : Int64) (v3 : Int32) (sg : Nat → Nat → Int32) (lg : Nat → Nat → Int64) : Option (Int32) :=
  fixN (fun _ _ => none) (pb_X5_startable_6 F  p v0  v1 sg lg) F v3 (0 : Int32)
set_option maxRecDepth 100000 in
set_option maxHeartbeats 4000000 in
theorem ec_X5_startable_93 {F : Nat} {K : HK} {pr : HP} {pt : Nat → Nat} {rr : HP} {p : Nat}  {v0 : Nat} {rec6 : Int32 → Int32 → Option (Int32)} {prec6 : Int32 → Int32 → Option (Int32)} (hv0 : OkPlan K pr pt v0 p)  (hrec6 : ∀ (w4 : Int32) (w5 : Int32), rec6 w4 w5 = Option.map (fun z => z) (prec6 w4 w5)) {v1 : Int64} {v4 : Int32} {v5 : Int32} {v6 : Int32}  {sg : Nat → Nat → Int32} {lg : Nat → Nat → Int64} : k_X5_startable_93 F  rec6 v0 v1 v4 v5 v6  (hp K pr pt rr sg lg) = Option.map (fun z => z) (pk_X5_startable_93 F  p v0 prec6 v1 v4 v5 v6  sg lg) := by
  unfold k_X5_startable_93 pk_X5_startable_93
  refine q_ite ?_ ?_
  · rfl
  · exact hrec6 _ _
set_option maxRecDepth 100000 in
set_option maxHeartbeats 4000000 in
theorem ec_X5_startable_52 {F : Nat} {K : HK} {pr : HP} {pt : Nat → Nat} {rr : HP} {p : Nat}  {v0 : Nat} {rec25 : Int32 → Int32 → Option (Int32)} {prec25 : Int32 → Int32 → Option (Int32)} (hv0 : OkPlan K pr pt v0 p)  (hrec25 : ∀ (w4 : Int32) (w7 : Int32), rec25 w4 w7 = Option.map (fun z => z) (prec25 w4 w7)) {v1 : Int64} {v4 : Int32} {v5 : Int32} {v6 : Int32} {v7 : Int32} {s0 : Int32} {sg : Nat → Nat → Int32} {lg : Nat → Nat → Int64} : k_X5_startable_52 F  rec25 v0 v1 v4 v5 v6 v7 s0 (hp K pr pt rr sg lg) = Option.map (fun z => z) (pk_X5_startable_52 F  p v0 prec25 v1 v4 v5 v6 v7 s0 sg lg) := by
  unfold k_X5_startable_52 pk_X5_startable_52
  refine q_ite ?_ ?_
  · refine c_gP (hv0).k0 rfl (hv0).p0 ?_
    refine c_cvP ((hv0).o0).k0 (e_X3_needBits ((hv0).o0)) (fun x1 => ?_)
    refine q_ite ?_ ?_
    · refine q_nm (fun y2 => ?_)
      exact hrec25 _ _
    · exact hrec25 _ _
  · exact hrec25 _ _
set_option maxRecDepth 100000 in
set_option maxHeartbeats 4000000 in
theorem el_X5_startable_25 {F : Nat} {K : HK} {pr : HP} {pt : Nat → Nat} {rr : HP} {p : Nat}  {v0 : Nat} {rec6 : Int32 → Int32 → Option (Int32)} {prec6 : Int32 → Int32 → Option (Int32)} (hv0 : OkPlan K pr pt v0 p)  (hrec6 : ∀ (w4 : Int32) (w5 : Int32), rec6 w4 w5 = Option.map (fun z => z) (prec6 w4 w5)) {v1 : Int64} {v5 : Int32} {v6 : Int32} {sg : Nat → Nat → Int32} {lg : Nat → Nat → Int64} : ∀ (k : Nat) (v4 : Int32) (v7 : Int32), fixN ((fun _ _ => none) : Int32 → Int32 → Option (Int32)) (b_X5_startable_25 F  rec6 v0 v1 v5 v6 (hp K pr pt rr sg lg)) k v4 v7 = Option.map (fun z => z) (fixN ((fun _ _ => none) : Int32 → Int32 → Option (Int32)) (pb_X5_startable_25 F  p v0 prec6 v1 v5 v6 sg lg) k v4 v7) := by
  intro k
  refine fixN_ind2 (P := fun (r : Int32 → Int32 → Option (Int32)) (r1 : Int32 → Int32 → Option (Int32)) => ∀ (v4 : Int32) (v7 : Int32), r v4 v7 = Option.map (fun z => z) (r1 v4 v7)) ?_ ?_ k
  · intro v4 v7
    rfl
  · intro rec25 prec25 hrec25 v4 v7
    unfold b_X5_startable_25 pb_X5_startable_25
    refine c_gP (hv0).k0 rfl (hv0).p0 ?_
    refine c_gI ((hv0).o0).k0 rfl ?_
    refine q_ite ?_ ?_
    · exact ec_X5_startable_93 hv0  hrec6
    · refine q_ite ?_ ?_
      · exact ec_X5_startable_52 hv0  hrec25
      · exact ec_X5_startable_52 hv0  hrec25
set_option maxRecDepth 100000 in
set_option maxHeartbeats 4000000 in
theorem el_X5_startable_6 {F : Nat} {K : HK} {pr : HP} {pt : Nat → Nat} {rr : HP} {p : Nat}  {v0 : Nat}  (hv0 : OkPlan K pr pt v0 p)   {v1 : Int64} {sg : Nat → Nat → Int32} {lg : Nat → Nat → Int64} : ∀ (k : Nat) (v4 : Int32) (v5 : Int32), fixN ((fun _ _ => none) : Int32 → Int32 → Option (Int32)) (b_X5_startable_6 F   v0 v1 (hp K pr pt rr sg lg)) k v4 v5 = Option.map (fun z => z) (fixN ((fun _ _ => none) : Int32 → Int32 → Option (Int32)) (pb_X5_startable_6 F  p v0  v1 sg lg) k v4 v5) := by
  intro k
  refine fixN_ind2 (P := fun (r : Int32 → Int32 → Option (Int32)) (r1 : Int32 → Int32 → Option (Int32)) => ∀ (v4 : Int32) (v5 : Int32), r v4 v5 = Option.map (fun z => z) (r1 v4 v5)) ?_ ?_ k
  · intro v4 v5
    rfl
  · intro rec6 prec6 hrec6 v4 v5
    unfold b_X5_startable_6 pb_X5_startable_6
    refine c_gP (hv0).k0 rfl (hv0).p0 ?_
    refine c_gI ((hv0).o0).k0 rfl ?_
    refine q_ite ?_ ?_
    · rfl
    · exact el_X5_startable_25 hv0  hrec6 _ _ _
set_option maxRecDepth 100000 in
set_option maxHeartbeats 4000000 in
theorem e_X5_startable {F : Nat} {K : HK} {pr : HP} {pt : Nat → Nat} {rr : HP} {p : Nat}  {v0 : Nat} {v1 : Int64} {v3 : Int32} (hv0 : OkPlan K pr pt v0 p)  {sg : Nat → Nat → Int32} {lg : Nat → Nat → Int64} : f_X5_startable F  v0 v1 v3 (hp K pr pt rr sg lg) = p_X5_startable F  p v0 v1 v3 sg lg := by
  refine Eq.trans ?_ (q_mid _)
  unfold f_X5_startable p_X5_startable
  exact el_X5_startable_6 hv0   _ _ _
/-! X5_leastStuck -/
def pb_X5_leastStuck_2 (F : Nat)  (p : Nat) (v0 : Nat)  (v1 : Int32) (sg : Nat → Nat → Int32) (lg : Nat → Nat → Int64) (prec2 : Int32 → Option (Int32)) : Int32 → Option (Int32) := fun v2 =>
  if (sg p 0) ≤ v2 then
  (some (-1 : Int32))
  else (if (v1 &&& ((1 : Int32) <<< (v2 &&& 31))) = 0 then
  (some v2)
  else (prec2 (v2 + 1)))
def p_X5_leastStuck (F : Nat)  (p : Nat) (v0 : Nat) (v1 : Int32) (sg : Nat → Nat → Int32) (lg : Nat → Nat → Int64) : Option (Int32) :=
  fixN (fun _ => none) (pb_X5_leastStuck_2 F  p v0  v1 sg lg) F (0 : Int32)
set_option maxRecDepth 100000 in
set_option maxHeartbeats 4000000 in
theorem el_X5_leastStuck_2 {F : Nat} {K : HK} {pr : HP} {pt : Nat → Nat} {rr : HP} {p : Nat}  {v0 : Nat}  (hv0 : OkPlan K pr pt v0 p)   {v1 : Int32} {sg : Nat → Nat → Int32} {lg : Nat → Nat → Int64} : ∀ (k : Nat) (v2 : Int32), fixN ((fun _ => none) : Int32 → Option (Int32)) (b_X5_leastStuck_2 F   v0 v1 (hp K pr pt rr sg lg)) k v2 = Option.map (fun z => z) (fixN ((fun _ => none) : Int32 → Option (Int32)) (pb_X5_leastStuck_2 F  p v0  v1 sg lg) k v2) := by
  intro k
  refine fixN_ind2 (P := fun (r : Int32 → Option (Int32)) (r1 : Int32 → Option (Int32)) => ∀ (v2 : Int32), r v2 = Option.map (fun z => z) (r1 v2)) ?_ ?_ k
  · intro v2
    rfl
  · intro rec2 prec2 hrec2 v2
    unfold b_X5_leastStuck_2 pb_X5_leastStuck_2
    refine c_gP (hv0).k0 rfl (hv0).p0 ?_
    refine c_gI ((hv0).o0).k0 rfl ?_
    refine q_ite ?_ ?_
    · rfl
    · refine q_ite ?_ ?_
      · rfl
      · exact hrec2 _
set_option maxRecDepth 100000 in
set_option maxHeartbeats 4000000 in
theorem e_X5_leastStuck {F : Nat} {K : HK} {pr : HP} {pt : Nat → Nat} {rr : HP} {p : Nat}  {v0 : Nat} {v1 : Int32} (hv0 : OkPlan K pr pt v0 p)  {sg : Nat → Nat → Int32} {lg : Nat → Nat → Int64} : f_X5_leastStuck F  v0 v1 (hp K pr pt rr sg lg) = p_X5_leastStuck F  p v0 v1 sg lg := by
  refine Eq.trans ?_ (q_mid _)
  unfold f_X5_leastStuck p_X5_leastStuck
  exact el_X5_leastStuck_2 hv0   _ _
/-! X5_stuckSlot -/
def pk_X5_stuckSlot_54 (F : Nat)  (p : Nat) (v0 : Nat) (prec3 : Int32 → Option (Int32)) (v1 : Int32) (v2 : Int32) (v3 : Int64) (v5 : Int32) (v6 : Int32) (s0 : Int32) (sg : Nat → Nat → Int32) (lg : Nat → Nat → Int64) : Option (Int32) :=
  if s0 = 0 then
  (prec3 (v5 + 1))
  else (Option.bind (mI sg (p + 8) 48 v6) (fun (x4 : Int32) =>
  if (v2 &&& ((1 : Int32) <<< (x4 &&& 31))) = 0 then
  (some v6)
  else (prec3 (v5 + 1))))
def pk_X5_stuckSlot_53 (F : Nat)  (p : Nat) (v0 : Nat) (prec3 : Int32 → Option (Int32)) (v1 : Int32) (v2 : Int32) (v3 : Int64) (v5 : Int32) (v6 : Int32)  (sg : Nat → Nat → Int32) (lg : Nat → Nat → Int64) : Option (Int32) :=
  pk_X5_stuckSlot_54 F  p v0 prec3 v1 v2 v3 v5 v6 (0 : Int32) sg lg
def pb_X5_stuckSlot_3 (F : Nat)  (p : Nat) (v0 : Nat)  (v1 : Int32) (v2 : Int32) (v3 : Int64) (sg : Nat → Nat → Int32) (lg : Nat → Nat → Int64) (prec3 : Int32 → Option (Int32)) : Int32 → Option (Int32) := fun v5 =>
  Option.bind (mI sg (p + 6) 12 v1) (fun (x1 : Int32) =>
  if x1 ≤ v5 then
  (some (-1 : Int32))
  else (gnm ((v1 * (4 : Int32)) + v5) (fun (y2 : Int32) =>
  Option.bind (p_X3_isEager F  p v1 v5 sg lg) (fun (x3 : Int32) =>
  if x3 = 0 then
  (pk_X5_stuckSlot_53 F  p v0 prec3 v1 v2 v3 v5 y2 sg lg)
  else (if (lg_cmp (v3 &&& ((1 : Int64) <<< ((Int32.toInt64 y2) &&& 63))) (0 : Int64)) = 0 then
  (pk_X5_stuckSlot_54 F  p v0 prec3 v1 v2 v3 v5 y2 (1 : Int32) sg lg)
  else (pk_X5_stuckSlot_53 F  p v0 prec3 v1 v2 v3 v5 y2 sg lg))))))
def p_X5_stuckSlot (F : Nat)  (p : Nat) (v0 : Nat) (v1 : Int32) (v2 : Int32) (v3 : Int64) (sg : Nat → Nat → Int32) (lg : Nat → Nat → Int64) : Option (Int32) :=
  fixN (fun _ => none) (pb_X5_stuckSlot_3 F  p v0  v1 v2 v3 sg lg) F (0 : Int32)
set_option maxRecDepth 100000 in
set_option maxHeartbeats 4000000 in
theorem ec_X5_stuckSlot_54 {F : Nat} {K : HK} {pr : HP} {pt : Nat → Nat} {rr : HP} {p : Nat}  {v0 : Nat} {rec3 : Int32 → Option (Int32)} {prec3 : Int32 → Option (Int32)} (hv0 : OkPlan K pr pt v0 p)  (hrec3 : ∀ (w5 : Int32), rec3 w5 = Option.map (fun z => z) (prec3 w5)) {v1 : Int32} {v2 : Int32} {v3 : Int64} {v5 : Int32} {v6 : Int32} {s0 : Int32} {sg : Nat → Nat → Int32} {lg : Nat → Nat → Int64} : k_X5_stuckSlot_54 F  rec3 v0 v1 v2 v3 v5 v6 s0 (hp K pr pt rr sg lg) = Option.map (fun z => z) (pk_X5_stuckSlot_54 F  p v0 prec3 v1 v2 v3 v5 v6 s0 sg lg) := by
  unfold k_X5_stuckSlot_54 pk_X5_stuckSlot_54
  refine q_ite ?_ ?_
  · exact hrec3 _
  · refine c_gP (hv0).k0 rfl (hv0).p0 ?_
    refine c_gR ((hv0).o0).k0 rfl ((hv0).o0).p8 ?_
    refine c_aI ((hv0).o0).k8 (by decide) (fun x4 => ?_)
    refine q_ite ?_ ?_
    · rfl
    · exact hrec3 _
set_option maxRecDepth 100000 in
set_option maxHeartbeats 4000000 in
theorem ec_X5_stuckSlot_53 {F : Nat} {K : HK} {pr : HP} {pt : Nat → Nat} {rr : HP} {p : Nat}  {v0 : Nat} {rec3 : Int32 → Option (Int32)} {prec3 : Int32 → Option (Int32)} (hv0 : OkPlan K pr pt v0 p)  (hrec3 : ∀ (w5 : Int32), rec3 w5 = Option.map (fun z => z) (prec3 w5)) {v1 : Int32} {v2 : Int32} {v3 : Int64} {v5 : Int32} {v6 : Int32}  {sg : Nat → Nat → Int32} {lg : Nat → Nat → Int64} : k_X5_stuckSlot_53 F  rec3 v0 v1 v2 v3 v5 v6  (hp K pr pt rr sg lg) = Option.map (fun z => z) (pk_X5_stuckSlot_53 F  p v0 prec3 v1 v2 v3 v5 v6  sg lg) := by
  unfold k_X5_stuckSlot_53 pk_X5_stuckSlot_53
  exact ec_X5_stuckSlot_54 hv0  hrec3
set_option maxRecDepth 100000 in
set_option maxHeartbeats 4000000 in
theorem el_X5_stuckSlot_3 {F : Nat} {K : HK} {pr : HP} {pt : Nat → Nat} {rr : HP} {p : Nat}  {v0 : Nat}  (hv0 : OkPlan K pr pt v0 p)   {v1 : Int32} {v2 : Int32} {v3 : Int64} {sg : Nat → Nat → Int32} {lg : Nat → Nat → Int64} : ∀ (k : Nat) (v5 : Int32), fixN ((fun _ => none) : Int32 → Option (Int32)) (b_X5_stuckSlot_3 F   v0 v1 v2 v3 (hp K pr pt rr sg lg)) k v5 = Option.map (fun z => z) (fixN ((fun _ => none) : Int32 → Option (Int32)) (pb_X5_stuckSlot_3 F  p v0  v1 v2 v3 sg lg) k v5) := by
  intro k
  refine fixN_ind2 (P := fun (r : Int32 → Option (Int32)) (r1 : Int32 → Option (Int32)) => ∀ (v5 : Int32), r v5 = Option.map (fun z => z) (r1 v5)) ?_ ?_ k
  · intro v5
    rfl
  · intro rec3 prec3 hrec3 v5
    unfold b_X5_stuckSlot_3 pb_X5_stuckSlot_3
    refine c_gP (hv0).k0 rfl (hv0).p0 ?_
    refine c_gR ((hv0).o0).k0 rfl ((hv0).o0).p6 ?_
    refine c_aI ((hv0).o0).k6 (by decide) (fun x1 => ?_)
    refine q_ite ?_ ?_
    · rfl
    · refine q_nm (fun y2 => ?_)
      refine c_gP (hv0).k0 rfl (hv0).p0 ?_
      refine c_cvP ((hv0).o0).k0 (e_X3_isEager ((hv0).o0)) (fun x3 => ?_)
      refine q_ite ?_ ?_
      · exact ec_X5_stuckSlot_53 hv0  hrec3
      · refine q_ite ?_ ?_
        · exact ec_X5_stuckSlot_54 hv0  hrec3
        · exact ec_X5_stuckSlot_53 hv0  hrec3
set_option maxRecDepth 100000 in
set_option maxHeartbeats 4000000 in
theorem e_X5_stuckSlot {F : Nat} {K : HK} {pr : HP} {pt : Nat → Nat} {rr : HP} {p : Nat}  {v0 : Nat} {v1 : Int32} {v2 : Int32} {v3 : Int64} (hv0 : OkPlan K pr pt v0 p)  {sg : Nat → Nat → Int32} {lg : Nat → Nat → Int64} : f_X5_stuckSlot F  v0 v1 v2 v3 (hp K pr pt rr sg lg) = p_X5_stuckSlot F  p v0 v1 v2 v3 sg lg := by
  refine Eq.trans ?_ (q_mid _)
  unfold f_X5_stuckSlot p_X5_stuckSlot
  exact el_X5_stuckSlot_3 hv0   _ _
/-! X5_behind -/
def p_X5_behind (F : Nat)  (p : Nat) (v0 : Nat) (v1 : Int32) (sg : Nat → Nat → Int32) (lg : Nat → Nat → Int64) : Option (Int32) :=
  if v1 < 0 then
  (some (-1 : Int32))
  else (if (48 : Int32) ≤ v1 then
  (some (-1 : Int32))
  else (Option.bind (mI sg (p + 8) 48 v1) (fun (x1 : Int32) =>
  some x1)))
set_option maxRecDepth 100000 in
set_option maxHeartbeats 4000000 in
theorem e_X5_behind {F : Nat} {K : HK} {pr : HP} {pt : Nat → Nat} {rr : HP} {p : Nat}  {v0 : Nat} {v1 : Int32} (hv0 : OkPlan K pr pt v0 p)  {sg : Nat → Nat → Int32} {lg : Nat → Nat → Int64} : f_X5_behind F  v0 v1 (hp K pr pt rr sg lg) = p_X5_behind F  p v0 v1 sg lg := by
  refine Eq.trans ?_ (q_mid _)
  unfold f_X5_behind p_X5_behind
  refine q_ite ?_ ?_
  · rfl
  · refine q_ite ?_ ?_
    · rfl
    · refine c_gP (hv0).k0 rfl (hv0).p0 ?_
      refine c_gR ((hv0).o0).k0 rfl ((hv0).o0).p8 ?_
      refine c_aI ((hv0).o0).k8 (by decide) (fun x1 => ?_)
      rfl
/-! X5_loopEntry -/
def pb_X5_loopEntry_13 (F : Nat)  (p : Nat) (v0 : Nat)  (v1 : Int32) (v2 : Int64) (sg : Nat → Nat → Int32) (lg : Nat → Nat → Int64) (prec13 : Int32 → Int32 → Int32 → Option (Int32)) : Int32 → Int32 → Int32 → Option (Int32) := fun v4 v5 v6 =>
  if (sg p 0) < v6 then
  (some (-1 : Int32))
  else (if v4 = (-1 : Int32) then
  (some (-1 : Int32))
  else (if (v5 &&& ((1 : Int32) <<< (v4 &&& 31))) = 0 then
  (gnm (v5 ||| ((1 : Int32) <<< (v4 &&& 31))) (fun (y2 : Int32) =>
  Option.bind (p_X5_stuckSlot F p v0 v4 v1 v2 sg lg) (fun (x3 : Int32) =>
  Option.bind (p_X5_behind F p v0 x3 sg lg) (fun (x4 : Int32) =>
  prec13 x4 y2 (v6 + 1)))))
  else (some v4)))
def p_X5_loopEntry (F : Nat)  (p : Nat) (v0 : Nat) (v1 : Int32) (v2 : Int64) (sg : Nat → Nat → Int32) (lg : Nat → Nat → Int64) : Option (Int32) :=
  Option.bind (p_X5_leastStuck F p v0 v1 sg lg) (fun (x1 : Int32) =>
  fixN (fun _ _ _ => none) (pb_X5_loopEntry_13 F  p v0  v1 v2 sg lg) F x1 (0 : Int32) (0 : Int32))
set_option maxRecDepth 100000 in
set_option maxHeartbeats 4000000 in
theorem el_X5_loopEntry_13 {F : Nat} {K : HK} {pr : HP} {pt : Nat → Nat} {rr : HP} {p : Nat}  {v0 : Nat}  (hv0 : OkPlan K pr pt v0 p)   {v1 : Int32} {v2 : Int64} {sg : Nat → Nat → Int32} {lg : Nat → Nat → Int64} : ∀ (k : Nat) (v4 : Int32) (v5 : Int32) (v6 : Int32), fixN ((fun _ _ _ => none) : Int32 → Int32 → Int32 → Option (Int32)) (b_X5_loopEntry_13 F   v0 v1 v2 (hp K pr pt rr sg lg)) k v4 v5 v6 = Option.map (fun z => z) (fixN ((fun _ _ _ => none) : Int32 → Int32 → Int32 → Option (Int32)) (pb_X5_loopEntry_13 F  p v0  v1 v2 sg lg) k v4 v5 v6) := by
  intro k
  refine fixN_ind2 (P := fun (r : Int32 → Int32 → Int32 → Option (Int32)) (r1 : Int32 → Int32 → Int32 → Option (Int32)) => ∀ (v4 : Int32) (v5 : Int32) (v6 : Int32), r v4 v5 v6 = Option.map (fun z => z) (r1 v4 v5 v6)) ?_ ?_ k
  · intro v4 v5 v6
    rfl
  · intro rec13 prec13 hrec13 v4 v5 v6
    unfold b_X5_loopEntry_13 pb_X5_loopEntry_13
    refine c_gP (hv0).k0 rfl (hv0).p0 ?_
    refine c_gI ((hv0).o0).k0 rfl ?_
    refine q_ite ?_ ?_
    · rfl
    · refine q_ite ?_ ?_
      · rfl
      · refine q_ite ?_ ?_
        · refine q_nm (fun y2 => ?_)
          refine c_cvP (hv0).k0 (e_X5_stuckSlot (hv0)) (fun x3 => ?_)
          refine c_cvP (hv0).k0 (e_X5_behind (hv0)) (fun x4 => ?_)
          exact hrec13 _ _ _
        · rfl
set_option maxRecDepth 100000 in
set_option maxHeartbeats 4000000 in
theorem e_X5_loopEntry {F : Nat} {K : HK} {pr : HP} {pt : Nat → Nat} {rr : HP} {p : Nat}  {v0 : Nat} {v1 : Int32} {v2 : Int64} (hv0 : OkPlan K pr pt v0 p)  {sg : Nat → Nat → Int32} {lg : Nat → Nat → Int64} : f_X5_loopEntry F  v0 v1 v2 (hp K pr pt rr sg lg) = p_X5_loopEntry F  p v0 v1 v2 sg lg := by
  refine Eq.trans ?_ (q_mid _)
  unfold f_X5_loopEntry p_X5_loopEntry
  refine c_cvP (hv0).k0 (e_X5_leastStuck (hv0)) (fun x1 => ?_)
  exact el_X5_loopEntry_13 hv0   _ _ _ _
/-! X5_findLoop -/
def pb_X5_findLoop_24 (F : Nat)  (p : Nat) (v0 : Nat)  (v1 : Int32) (v2 : Int32) (prec24 : Int32 → Int32 → (Nat → Nat → Int32) → (Nat → Nat → Int64) → Option ((Nat → Nat → Int32) × (Nat → Nat → Int64))) : Int32 → Int32 → (Nat → Nat → Int32) → (Nat → Nat → Int64) → Option ((Nat → Nat → Int32) × (Nat → Nat → Int64)) := fun v3 v4 sg lg =>
  if (sg p 0) ≤ v4 then
  (some (sg, lg))
  else (if v3 = (-1 : Int32) then
  (some (sg, lg))
  else (Option.bind (mS sg (v0 + 3) 12 (sg v0 4) v3) (fun (sg4 : Nat → Nat → Int32) =>
  gnm (up2 sg4 v0 4 ((sg4 v0 4) + (1 : Int32))) (fun (sg5 : Nat → Nat → Int32) =>
  Option.bind (p_X5_stuckSlot F p v0 v3 v1 (0 : Int64) sg5 lg) (fun (x6 : Int32) =>
  Option.bind (p_X5_behind F p v0 x6 sg5 lg) (fun (x7 : Int32) =>
  if x7 = v2 then
  (some (sg5, lg))
  else (prec24 x7 (v4 + 1) sg5 lg)))))))
def p_X5_findLoop (F : Nat)  (p : Nat) (v0 : Nat) (sg : Nat → Nat → Int32) (lg : Nat → Nat → Int64) : Option ((Nat → Nat → Int32) × (Nat → Nat → Int64)) :=
  gnm (up2 sg v0 4 (0 : Int32)) (fun (sg1 : Nat → Nat → Int32) =>
  Option.bind (p_X5_startable F p v0 (0 : Int64) (0 : Int32) sg1 lg) (fun (x2 : Int32) =>
  Option.bind (p_X5_loopEntry F p v0 x2 (0 : Int64) sg1 lg) (fun (x3 : Int32) =>
  fixN (fun _ _ _ _ => none) (pb_X5_findLoop_24 F  p v0  x2 x3) F x3 (0 : Int32) sg1 lg)))
set_option maxRecDepth 100000 in
set_option maxHeartbeats 4000000 in
theorem el_X5_findLoop_24 {F : Nat} {K : HK} {pr : HP} {pt : Nat → Nat} {rr : HP} {n : Nat} {p : Nat}  {v0 : Nat}  (hv0 : OkPlan K pr pt v0 p)   {v1 : Int32} {v2 : Int32} : ∀ (k : Nat) (v3 : Int32) (v4 : Int32) (sg : Nat → Nat → Int32) (lg : Nat → Nat → Int64), fixN ((fun _ _ _ _ => none) : Int32 → Int32 → Nat → GH → Option (Nat × GH)) (b_X5_findLoop_24 F   v0 v1 v2) k v3 v4 n (hp K pr pt rr sg lg) = Option.map (fun z => (n, hp K pr pt rr z.1 z.2)) (fixN ((fun _ _ _ _ => none) : Int32 → Int32 → (Nat → Nat → Int32) → (Nat → Nat → Int64) → Option ((Nat → Nat → Int32) × (Nat → Nat → Int64))) (pb_X5_findLoop_24 F  p v0  v1 v2) k v3 v4 sg lg) := by
  intro k
  refine fixN_ind2 (P := fun (r : Int32 → Int32 → Nat → GH → Option (Nat × GH)) (r1 : Int32 → Int32 → (Nat → Nat → Int32) → (Nat → Nat → Int64) → Option ((Nat → Nat → Int32) × (Nat → Nat → Int64))) => ∀ (v3 : Int32) (v4 : Int32) (sg : Nat → Nat → Int32) (lg : Nat → Nat → Int64), r v3 v4 n (hp K pr pt rr sg lg) = Option.map (fun z => (n, hp K pr pt rr z.1 z.2)) (r1 v3 v4 sg lg)) ?_ ?_ k
  · intro v3 v4 sg lg
    rfl
  · intro rec24 prec24 hrec24 v3 v4 sg lg
    unfold b_X5_findLoop_24 pb_X5_findLoop_24
    refine c_gP (hv0).k0 rfl (hv0).p0 ?_
    refine c_gI ((hv0).o0).k0 rfl ?_
    refine q_ite ?_ ?_
    · rfl
    · refine q_ite ?_ ?_
      · rfl
      · refine c_gR (hv0).k0 rfl (hv0).p5 ?_
        refine c_gI (hv0).k0 rfl ?_
        refine c_aS (hv0).k3 (by decide) (fun sg4 => ?_)
        refine c_gI (hv0).k0 rfl ?_
        refine c_pI (hv0).k0 rfl (fun sg5 => ?_)
        refine c_cvP (hv0).k0 (e_X5_stuckSlot (hv0)) (fun x6 => ?_)
        refine c_cvP (hv0).k0 (e_X5_behind (hv0)) (fun x7 => ?_)
        refine q_ite ?_ ?_
        · rfl
        · exact hrec24 _ _ _ _
set_option maxRecDepth 100000 in
set_option maxHeartbeats 4000000 in
theorem e_X5_findLoop {F : Nat} {K : HK} {pr : HP} {pt : Nat → Nat} {rr : HP} {n : Nat} {p : Nat}  {v0 : Nat} (hv0 : OkPlan K pr pt v0 p)  {sg : Nat → Nat → Int32} {lg : Nat → Nat → Int64} : f_X5_findLoop F  v0 n (hp K pr pt rr sg lg) = Option.map (fun z => (n, hp K pr pt rr z.1 z.2)) (p_X5_findLoop F  p v0 sg lg) := by
  unfold f_X5_findLoop p_X5_findLoop
  refine c_pI (hv0).k0 rfl (fun sg1 => ?_)
  refine c_cvP (hv0).k0 (e_X5_startable (hv0)) (fun x2 => ?_)
  refine c_cvP (hv0).k0 (e_X5_loopEntry (hv0)) (fun x3 => ?_)
  exact el_X5_findLoop_24 hv0   _ _ _ _ _
/-! X5_neededBy -/
def pk_X5_neededBy_73 (F : Nat)  (p : Nat) (v0 : Nat) (prec14 : Int32 → Int32 → Option (Int32)) (v2 : Int32) (v3 : Int32) (v4 : Int32) (v5 : Int32)  (sg : Nat → Nat → Int32) (lg : Nat → Nat → Int64) : Option (Int32) :=
  if v3 = v5 then
  (some v3)
  else (prec14 v3 (v4 + 1))
def pb_X5_neededBy_32 (F : Nat)  (p : Nat) (v0 : Nat) (prec14 : Int32 → Int32 → Option (Int32)) (v2 : Int32) (v4 : Int32) (v5 : Int32) (sg : Nat → Nat → Int32) (lg : Nat → Nat → Int64) (prec32 : Int32 → Int32 → Option (Int32)) : Int32 → Int32 → Option (Int32) := fun v3 v6 =>
  if (sg p 0) ≤ v6 then
  (pk_X5_neededBy_73 F  p v0 prec14 v2 v3 v4 v5 sg lg)
  else (if (v3 &&& ((1 : Int32) <<< (v6 &&& 31))) = 0 then
  (prec32 v3 (v6 + 1))
  else (Option.bind (p_X3_needBits F  p v6 v2 (0 : Int64) sg lg) (fun (x2 : Int32) =>
  gnm (v3 ||| x2) (fun (y3 : Int32) =>
  prec32 y3 (v6 + 1)))))
def pb_X5_neededBy_14 (F : Nat)  (p : Nat) (v0 : Nat)  (v2 : Int32) (sg : Nat → Nat → Int32) (lg : Nat → Nat → Int64) (prec14 : Int32 → Int32 → Option (Int32)) : Int32 → Int32 → Option (Int32) := fun v3 v4 =>
  if (sg p 0) ≤ v4 then
  (some v3)
  else (fixN (fun _ _ => none) (pb_X5_neededBy_32 F  p v0 prec14 v2 v4 v3 sg lg) F v3 (0 : Int32))
def p_X5_neededBy (F : Nat)  (p : Nat) (v0 : Nat) (v1 : Int32) (v2 : Int32) (sg : Nat → Nat → Int32) (lg : Nat → Nat → Int64) : Option (Int32) :=
  Option.bind (p_X3_needBits F  p v1 v2 (0 : Int64) sg lg) (fun (x1 : Int32) =>
  fixN (fun _ _ => none) (pb_X5_neededBy_14 F  p v0  v2 sg lg) F x1 (0 : Int32))
set_option maxRecDepth 100000 in
set_option maxHeartbeats 4000000 in
theorem ec_X5_neededBy_73 {F : Nat} {K : HK} {pr : HP} {pt : Nat → Nat} {rr : HP} {p : Nat}  {v0 : Nat} {rec14 : Int32 → Int32 → Option (Int32)} {prec14 : Int32 → Int32 → Option (Int32)} (hv0 : OkPlan K pr pt v0 p)  (hrec14 : ∀ (w3 : Int32) (w4 : Int32), rec14 w3 w4 = Option.map (fun z => z) (prec14 w3 w4)) {v2 : Int32} {v3 : Int32} {v4 : Int32} {v5 : Int32}  {sg : Nat → Nat → Int32} {lg : Nat → Nat → Int64} : k_X5_neededBy_73 F  rec14 v0 v2 v3 v4 v5  (hp K pr pt rr sg lg) = Option.map (fun z => z) (pk_X5_neededBy_73 F  p v0 prec14 v2 v3 v4 v5  sg lg) := by
  unfold k_X5_neededBy_73 pk_X5_neededBy_73
  refine q_ite ?_ ?_
  · rfl
  · exact hrec14 _ _
set_option maxRecDepth 100000 in
set_option maxHeartbeats 4000000 in
theorem el_X5_neededBy_32 {F : Nat} {K : HK} {pr : HP} {pt : Nat → Nat} {rr : HP} {p : Nat}  {v0 : Nat} {rec14 : Int32 → Int32 → Option (Int32)} {prec14 : Int32 → Int32 → Option (Int32)} (hv0 : OkPlan K pr pt v0 p)  (hrec14 : ∀ (w3 : Int32) (w4 : Int32), rec14 w3 w4 = Option.map (fun z => z) (prec14 w3 w4)) {v2 : Int32} {v4 : Int32} {v5 : Int32} {sg : Nat → Nat → Int32} {lg : Nat → Nat → Int64} : ∀ (k : Nat) (v3 : Int32) (v6 : Int32), fixN ((fun _ _ => none) : Int32 → Int32 → Option (Int32)) (b_X5_neededBy_32 F  rec14 v0 v2 v4 v5 (hp K pr pt rr sg lg)) k v3 v6 = Option.map (fun z => z) (fixN ((fun _ _ => none) : Int32 → Int32 → Option (Int32)) (pb_X5_neededBy_32 F  p v0 prec14 v2 v4 v5 sg lg) k v3 v6) := by
  intro k
  refine fixN_ind2 (P := fun (r : Int32 → Int32 → Option (Int32)) (r1 : Int32 → Int32 → Option (Int32)) => ∀ (v3 : Int32) (v6 : Int32), r v3 v6 = Option.map (fun z => z) (r1 v3 v6)) ?_ ?_ k
  · intro v3 v6
    rfl
  · intro rec32 prec32 hrec32 v3 v6
    unfold b_X5_neededBy_32 pb_X5_neededBy_32
    refine c_gP (hv0).k0 rfl (hv0).p0 ?_
    refine c_gI ((hv0).o0).k0 rfl ?_
    refine q_ite ?_ ?_
    · exact ec_X5_neededBy_73 hv0  hrec14
    · refine q_ite ?_ ?_
      · exact hrec32 _ _
      · refine c_gP (hv0).k0 rfl (hv0).p0 ?_
        refine c_cvP ((hv0).o0).k0 (e_X3_needBits ((hv0).o0)) (fun x2 => ?_)
        refine q_nm (fun y3 => ?_)
        exact hrec32 _ _
set_option maxRecDepth 100000 in
set_option maxHeartbeats 4000000 in
theorem el_X5_neededBy_14 {F : Nat} {K : HK} {pr : HP} {pt : Nat → Nat} {rr : HP} {p : Nat}  {v0 : Nat}  (hv0 : OkPlan K pr pt v0 p)   {v2 : Int32} {sg : Nat → Nat → Int32} {lg : Nat → Nat → Int64} : ∀ (k : Nat) (v3 : Int32) (v4 : Int32), fixN ((fun _ _ => none) : Int32 → Int32 → Option (Int32)) (b_X5_neededBy_14 F   v0 v2 (hp K pr pt rr sg lg)) k v3 v4 = Option.map (fun z => z) (fixN ((fun _ _ => none) : Int32 → Int32 → Option (Int32)) (pb_X5_neededBy_14 F  p v0  v2 sg lg) k v3 v4) := by
  intro k
  refine fixN_ind2 (P := fun (r : Int32 → Int32 → Option (Int32)) (r1 : Int32 → Int32 → Option (Int32)) => ∀ (v3 : Int32) (v4 : Int32), r v3 v4 = Option.map (fun z => z) (r1 v3 v4)) ?_ ?_ k
  · intro v3 v4
    rfl
  · intro rec14 prec14 hrec14 v3 v4
    unfold b_X5_neededBy_14 pb_X5_neededBy_14
    refine c_gP (hv0).k0 rfl (hv0).p0 ?_
    refine c_gI ((hv0).o0).k0 rfl ?_
    refine q_ite ?_ ?_
    · rfl
    · exact el_X5_neededBy_32 hv0  hrec14 _ _ _
set_option maxRecDepth 100000 in
set_option maxHeartbeats 4000000 in
theorem e_X5_neededBy {F : Nat} {K : HK} {pr : HP} {pt : Nat → Nat} {rr : HP} {p : Nat}  {v0 : Nat} {v1 : Int32} {v2 : Int32} (hv0 : OkPlan K pr pt v0 p)  {sg : Nat → Nat → Int32} {lg : Nat → Nat → Int64} : f_X5_neededBy F  v0 v1 v2 (hp K pr pt rr sg lg) = p_X5_neededBy F  p v0 v1 v2 sg lg := by
  refine Eq.trans ?_ (q_mid _)
  unfold f_X5_neededBy p_X5_neededBy
  refine c_gP (hv0).k0 rfl (hv0).p0 ?_
  refine c_cvP ((hv0).o0).k0 (e_X3_needBits ((hv0).o0)) (fun x1 => ?_)
  exact el_X5_neededBy_14 hv0   _ _ _
/-! X5_lostWith -/
def pk_X5_lostWith_64 (F : Nat)  (p : Nat) (v0 : Nat) (prec6 : Int32 → Int32 → Option (Int32)) (v2 : Int32) (v3 : Int32) (v4 : Int32)  (sg : Nat → Nat → Int32) (lg : Nat → Nat → Int64) : Option (Int32) :=
  if v2 = v4 then
  (some v2)
  else (prec6 v2 (v3 + 1))
def pb_X5_lostWith_23 (F : Nat)  (p : Nat) (v0 : Nat) (prec6 : Int32 → Int32 → Option (Int32)) (v3 : Int32) (v4 : Int32) (sg : Nat → Nat → Int32) (lg : Nat → Nat → Int64) (prec23 : Int32 → Int32 → Option (Int32)) : Int32 → Int32 → Option (Int32) := fun v2 v5 =>
  if (sg p 0) ≤ v5 then
  (pk_X5_lostWith_64 F  p v0 prec6 v2 v3 v4 sg lg)
  else (Option.bind (p_X3_needBits F  p v5 (0 : Int32) (0 : Int64) sg lg) (fun (x2 : Int32) =>
  if (x2 &&& v2) = 0 then
  (prec23 v2 (v5 + 1))
  else (gnm (v2 ||| ((1 : Int32) <<< (v5 &&& 31))) (fun (y3 : Int32) =>
  prec23 y3 (v5 + 1)))))
def pb_X5_lostWith_6 (F : Nat)  (p : Nat) (v0 : Nat)   (sg : Nat → Nat → Int32) (lg : Nat → Nat → Int64) (prec6 : Int32 → Int32 → Option (Int32)) : Int32 → Int32 → Option (Int32) := fun v2 v3 =>
  if (sg p 0) ≤ v3 then
  (some v2)
  else (fixN (fun _ _ => none) (pb_X5_lostWith_23 F  p v0 prec6 v3 v2 sg lg) F v2 (0 : Int32))
def p_X5_lostWith (F : Nat)  (p : Nat) (v0 : Nat) (v1 : Int32) (sg : Nat → Nat → Int32) (lg : Nat → Nat → Int64) : Option (Int32) :=
  gnm ((1 : Int32) <<< (v1 &&& 31)) (fun (y1 : Int32) =>
  fixN (fun _ _ => none) (pb_X5_lostWith_6 F  p v0   sg lg) F y1 (0 : Int32))
set_option maxRecDepth 100000 in
set_option maxHeartbeats 4000000 in
theorem ec_X5_lostWith_64 {F : Nat} {K : HK} {pr : HP} {pt : Nat → Nat} {rr : HP} {p : Nat}  {v0 : Nat} {rec6 : Int32 → Int32 → Option (Int32)} {prec6 : Int32 → Int32 → Option (Int32)} (hv0 : OkPlan K pr pt v0 p)  (hrec6 : ∀ (w2 : Int32) (w3 : Int32), rec6 w2 w3 = Option.map (fun z => z) (prec6 w2 w3)) {v2 : Int32} {v3 : Int32} {v4 : Int32}  {sg : Nat → Nat → Int32} {lg : Nat → Nat → Int64} : k_X5_lostWith_64 F  rec6 v0 v2 v3 v4  (hp K pr pt rr sg lg) = Option.map (fun z => z) (pk_X5_lostWith_64 F  p v0 prec6 v2 v3 v4  sg lg) := by
  unfold k_X5_lostWith_64 pk_X5_lostWith_64
  refine q_ite ?_ ?_
  · rfl
  · exact hrec6 _ _
set_option maxRecDepth 100000 in
set_option maxHeartbeats 4000000 in
theorem el_X5_lostWith_23 {F : Nat} {K : HK} {pr : HP} {pt : Nat → Nat} {rr : HP} {p : Nat}  {v0 : Nat} {rec6 : Int32 → Int32 → Option (Int32)} {prec6 : Int32 → Int32 → Option (Int32)} (hv0 : OkPlan K pr pt v0 p)  (hrec6 : ∀ (w2 : Int32) (w3 : Int32), rec6 w2 w3 = Option.map (fun z => z) (prec6 w2 w3)) {v3 : Int32} {v4 : Int32} {sg : Nat → Nat → Int32} {lg : Nat → Nat → Int64} : ∀ (k : Nat) (v2 : Int32) (v5 : Int32), fixN ((fun _ _ => none) : Int32 → Int32 → Option (Int32)) (b_X5_lostWith_23 F  rec6 v0 v3 v4 (hp K pr pt rr sg lg)) k v2 v5 = Option.map (fun z => z) (fixN ((fun _ _ => none) : Int32 → Int32 → Option (Int32)) (pb_X5_lostWith_23 F  p v0 prec6 v3 v4 sg lg) k v2 v5) := by
  intro k
  refine fixN_ind2 (P := fun (r : Int32 → Int32 → Option (Int32)) (r1 : Int32 → Int32 → Option (Int32)) => ∀ (v2 : Int32) (v5 : Int32), r v2 v5 = Option.map (fun z => z) (r1 v2 v5)) ?_ ?_ k
  · intro v2 v5
    rfl
  · intro rec23 prec23 hrec23 v2 v5
    unfold b_X5_lostWith_23 pb_X5_lostWith_23
    refine c_gP (hv0).k0 rfl (hv0).p0 ?_
    refine c_gI ((hv0).o0).k0 rfl ?_
    refine q_ite ?_ ?_
    · exact ec_X5_lostWith_64 hv0  hrec6
    · refine c_gP (hv0).k0 rfl (hv0).p0 ?_
      refine c_cvP ((hv0).o0).k0 (e_X3_needBits ((hv0).o0)) (fun x2 => ?_)
      refine q_ite ?_ ?_
      · exact hrec23 _ _
      · refine q_nm (fun y3 => ?_)
        exact hrec23 _ _
set_option maxRecDepth 100000 in
set_option maxHeartbeats 4000000 in
theorem el_X5_lostWith_6 {F : Nat} {K : HK} {pr : HP} {pt : Nat → Nat} {rr : HP} {p : Nat}  {v0 : Nat}  (hv0 : OkPlan K pr pt v0 p)    {sg : Nat → Nat → Int32} {lg : Nat → Nat → Int64} : ∀ (k : Nat) (v2 : Int32) (v3 : Int32), fixN ((fun _ _ => none) : Int32 → Int32 → Option (Int32)) (b_X5_lostWith_6 F   v0 (hp K pr pt rr sg lg)) k v2 v3 = Option.map (fun z => z) (fixN ((fun _ _ => none) : Int32 → Int32 → Option (Int32)) (pb_X5_lostWith_6 F  p v0   sg lg) k v2 v3) := by
  intro k
  refine fixN_ind2 (P := fun (r : Int32 → Int32 → Option (Int32)) (r1 : Int32 → Int32 → Option (Int32)) => ∀ (v2 : Int32) (v3 : Int32), r v2 v3 = Option.map (fun z => z) (r1 v2 v3)) ?_ ?_ k
  · intro v2 v3
    rfl
  · intro rec6 prec6 hrec6 v2 v3
    unfold b_X5_lostWith_6 pb_X5_lostWith_6
    refine c_gP (hv0).k0 rfl (hv0).p0 ?_
    refine c_gI ((hv0).o0).k0 rfl ?_
    refine q_ite ?_ ?_
    · rfl
    · exact el_X5_lostWith_23 hv0  hrec6 _ _ _
set_option maxRecDepth 100000 in
set_option maxHeartbeats 4000000 in
theorem e_X5_lostWith {F : Nat} {K : HK} {pr : HP} {pt : Nat → Nat} {rr : HP} {p : Nat}  {v0 : Nat} {v1 : Int32} (hv0 : OkPlan K pr pt v0 p)  {sg : Nat → Nat → Int32} {lg : Nat → Nat → Int64} : f_X5_lostWith F  v0 v1 (hp K pr pt rr sg lg) = p_X5_lostWith F  p v0 v1 sg lg := by
  refine Eq.trans ?_ (q_mid _)
  unfold f_X5_lostWith p_X5_lostWith
  refine q_nm (fun y1 => ?_)
  exact el_X5_lostWith_6 hv0   _ _ _
/-! X5_longestRow -/
def pb_X5_longestRow_13 (F : Nat)  (p : Nat) (v0 : Nat)   (sg : Nat → Nat → Int32) (lg : Nat → Nat → Int64) (prec13 : Int32 → Int32 → Option (Int32)) : Int32 → Int32 → Option (Int32) := fun v1 v2 =>
  if (sg p 0) ≤ v2 then
  (some v1)
  else (Option.bind (mI sg (v0 + 2) 12 v2) (fun (x1 : Int32) =>
  gnm (if v1 < (x1 + (1 : Int32)) then (x1 + (1 : Int32)) else v1) (fun (y2 : Int32) =>
  prec13 y2 (v2 + 1))))
def p_X5_longestRow (F : Nat)  (p : Nat) (v0 : Nat) (sg : Nat → Nat → Int32) (lg : Nat → Nat → Int64) : Option (Int32) :=
  if (sg v0 4) ≤ 0 then
  (fixN (fun _ _ => none) (pb_X5_longestRow_13 F  p v0   sg lg) F (0 : Int32) (0 : Int32))
  else (some (-1 : Int32))
set_option maxRecDepth 100000 in
set_option maxHeartbeats 4000000 in
theorem el_X5_longestRow_13 {F : Nat} {K : HK} {pr : HP} {pt : Nat → Nat} {rr : HP} {p : Nat}  {v0 : Nat}  (hv0 : OkPlan K pr pt v0 p)    {sg : Nat → Nat → Int32} {lg : Nat → Nat → Int64} : ∀ (k : Nat) (v1 : Int32) (v2 : Int32), fixN ((fun _ _ => none) : Int32 → Int32 → Option (Int32)) (b_X5_longestRow_13 F   v0 (hp K pr pt rr sg lg)) k v1 v2 = Option.map (fun z => z) (fixN ((fun _ _ => none) : Int32 → Int32 → Option (Int32)) (pb_X5_longestRow_13 F  p v0   sg lg) k v1 v2) := by
  intro k
  refine fixN_ind2 (P := fun (r : Int32 → Int32 → Option (Int32)) (r1 : Int32 → Int32 → Option (Int32)) => ∀ (v1 : Int32) (v2 : Int32), r v1 v2 = Option.map (fun z => z) (r1 v1 v2)) ?_ ?_ k
  · intro v1 v2
    rfl
  · intro rec13 prec13 hrec13 v1 v2
    unfold b_X5_longestRow_13 pb_X5_longestRow_13
    refine c_gP (hv0).k0 rfl (hv0).p0 ?_
    refine c_gI ((hv0).o0).k0 rfl ?_
    refine q_ite ?_ ?_
    · rfl
    · refine c_gR (hv0).k0 rfl (hv0).p3 ?_
      refine c_aI (hv0).k2 (by decide) (fun x1 => ?_)
      refine q_nm (fun y2 => ?_)
      exact hrec13 _ _
set_option maxRecDepth 100000 in
set_option maxHeartbeats 4000000 in
theorem e_X5_longestRow {F : Nat} {K : HK} {pr : HP} {pt : Nat → Nat} {rr : HP} {p : Nat}  {v0 : Nat} (hv0 : OkPlan K pr pt v0 p)  {sg : Nat → Nat → Int32} {lg : Nat → Nat → Int64} : f_X5_longestRow F  v0 (hp K pr pt rr sg lg) = p_X5_longestRow F  p v0 sg lg := by
  refine Eq.trans ?_ (q_mid _)
  unfold f_X5_longestRow p_X5_longestRow
  refine c_gI (hv0).k0 rfl ?_
  refine q_ite ?_ ?_
  · exact el_X5_longestRow_13 hv0   _ _ _
  · rfl
/-! X5_consider -/
def pk_X5_consider_29 (F : Nat)  (p : Nat) (v0 : Nat)  (v1 : Int64)  (sg : Nat → Nat → Int32) (lg : Nat → Nat → Int64) : Option ((Nat → Nat → Int32) × (Nat → Nat → Int64)) :=
  gnm (up3 lg v0 7 v1) (fun (lg3 : Nat → Nat → Int64) =>
  gnm (up2 sg v0 8 (1 : Int32)) (fun (sg4 : Nat → Nat → Int32) =>
  some (sg4, lg3)))
def p_X5_consider (F : Nat)  (p : Nat) (v0 : Nat) (v1 : Int64) (sg : Nat → Nat → Int32) (lg : Nat → Nat → Int64) : Option ((Nat → Nat → Int32) × (Nat → Nat → Int64)) :=
  gnm (v1 ^^^ (lg v0 7)) (fun (y1 : Int64) =>
  gnm (y1 &&& (-y1)) (fun (y2 : Int64) =>
  if (sg v0 8) = 0 then
  (pk_X5_consider_29 F  p v0  v1 sg lg)
  else (if (lg_cmp (v1 &&& y2) (0 : Int64)) = 0 then
  (some (sg, lg))
  else (pk_X5_consider_29 F  p v0  v1 sg lg))))
set_option maxRecDepth 100000 in
set_option maxHeartbeats 4000000 in
theorem ec_X5_consider_29 {F : Nat} {K : HK} {pr : HP} {pt : Nat → Nat} {rr : HP} {n : Nat} {p : Nat}  {v0 : Nat}  (hv0 : OkPlan K pr pt v0 p)   {v1 : Int64}  {sg : Nat → Nat → Int32} {lg : Nat → Nat → Int64} : k_X5_consider_29 F   v0 v1  n (hp K pr pt rr sg lg) = Option.map (fun z => (n, hp K pr pt rr z.1 z.2)) (pk_X5_consider_29 F  p v0  v1  sg lg) := by
  unfold k_X5_consider_29 pk_X5_consider_29
  refine c_pJ (hv0).k0 rfl (fun lg3 => ?_)
  refine c_pI (hv0).k0 rfl (fun sg4 => ?_)
  rfl
set_option maxRecDepth 100000 in
set_option maxHeartbeats 4000000 in
theorem e_X5_consider {F : Nat} {K : HK} {pr : HP} {pt : Nat → Nat} {rr : HP} {n : Nat} {p : Nat}  {v0 : Nat} {v1 : Int64} (hv0 : OkPlan K pr pt v0 p)  {sg : Nat → Nat → Int32} {lg : Nat → Nat → Int64} : f_X5_consider F  v0 v1 n (hp K pr pt rr sg lg) = Option.map (fun z => (n, hp K pr pt rr z.1 z.2)) (p_X5_consider F  p v0 v1 sg lg) := by
  unfold f_X5_consider p_X5_consider
  refine c_gJ (hv0).k0 rfl ?_
  refine q_nm (fun y1 => ?_)
  refine q_nm (fun y2 => ?_)
  refine c_gI (hv0).k0 rfl ?_
  refine q_ite ?_ ?_
  · exact ec_X5_consider_29 hv0  
  · refine q_ite ?_ ?_
    · rfl
    · exact ec_X5_consider_29 hv0  
/-! X5_loosen -/
def pk_X5_loosen_119 (F : Nat) (pf_X5_loosen : Nat → Int64 → Int64 → Int32 → Int32 → (Nat → Nat → Int32) → (Nat → Nat → Int64) → Option ((Nat → Nat → Int32) × (Nat → Nat → Int64))) (p : Nat) (v0 : Nat) (prec53 : Int32 → Int64 → Int32 → (Nat → Nat → Int32) → (Nat → Nat → Int64) → Option ((Nat → Nat → Int32) × (Nat → Nat → Int64))) (v1 : Int64) (v6 : Int32) (v7 : Int32) (v8 : Int32) (v10 : Int64) (v12 : Int32) (v13 : Int32)  (sg : Nat → Nat → Int32) (lg : Nat → Nat → Int64) : Option ((Nat → Nat → Int32) × (Nat → Nat → Int64)) :=
  gnm (v10 ||| ((1 : Int64) <<< ((Int32.toInt64 v13) &&& 63))) (fun (y4 : Int64) =>
  Option.bind (p_X5_behind F p v0 v13 sg lg) (fun (x5 : Int32) =>
  if x5 = v8 then
  (some (sg, lg))
  else (prec53 x5 y4 (v12 + 1) sg lg)))
def pb_X5_loosen_53 (F : Nat) (pf_X5_loosen : Nat → Int64 → Int64 → Int32 → Int32 → (Nat → Nat → Int32) → (Nat → Nat → Int64) → Option ((Nat → Nat → Int32) × (Nat → Nat → Int64))) (p : Nat) (v0 : Nat)  (v1 : Int64) (v6 : Int32) (v7 : Int32) (v8 : Int32) (prec53 : Int32 → Int64 → Int32 → (Nat → Nat → Int32) → (Nat → Nat → Int64) → Option ((Nat → Nat → Int32) × (Nat → Nat → Int64))) : Int32 → Int64 → Int32 → (Nat → Nat → Int32) → (Nat → Nat → Int64) → Option ((Nat → Nat → Int32) × (Nat → Nat → Int64)) := fun v9 v10 v12 sg lg =>
  if (sg p 0) ≤ v12 then
  (some (sg, lg))
  else (if v9 = (-1 : Int32) then
  (some (sg, lg))
  else (Option.bind (p_X5_stuckSlot F p v0 v9 v7 v1 sg lg) (fun (x3 : Int32) =>
  if x3 = (-1 : Int32) then
  (some (sg, lg))
  else (if (lg_cmp (v10 &&& ((1 : Int64) <<< ((Int32.toInt64 x3) &&& 63))) (0 : Int64)) = 0 then
  (hcU (pf_X5_loosen v0 (v1 ||| ((1 : Int64) <<< ((Int32.toInt64 x3) &&& 63))) v10 v7 (v6 - (1 : Int32)) sg lg) (fun (sg6 : Nat → Nat → Int32) (lg7 : Nat → Nat → Int64) =>
  pk_X5_loosen_119 F pf_X5_loosen p v0 prec53 v1 v6 v7 v8 v10 v12 x3 sg6 lg7))
  else (pk_X5_loosen_119 F pf_X5_loosen p v0 prec53 v1 v6 v7 v8 v10 v12 x3 sg lg)))))
def pk_X5_loosen_41 (F : Nat) (pf_X5_loosen : Nat → Int64 → Int64 → Int32 → Int32 → (Nat → Nat → Int32) → (Nat → Nat → Int64) → Option ((Nat → Nat → Int32) × (Nat → Nat → Int64))) (p : Nat) (v0 : Nat)  (v1 : Int64) (v3 : Int64) (v6 : Int32) (v7 : Int32) (s0 : Int32) (sg : Nat → Nat → Int32) (lg : Nat → Nat → Int64) : Option ((Nat → Nat → Int32) × (Nat → Nat → Int64)) :=
  fixN (fun _ _ _ _ _ => none) (pb_X5_loosen_53 F pf_X5_loosen p v0  v1 v6 v7 s0) F s0 v3 (0 : Int32) sg lg
def pg_X5_loosen (F : Nat) (pf_X5_loosen : Nat → Int64 → Int64 → Int32 → Int32 → (Nat → Nat → Int32) → (Nat → Nat → Int64) → Option ((Nat → Nat → Int32) × (Nat → Nat → Int64))) (p : Nat) (v0 : Nat) (v1 : Int64) (v3 : Int64) (v5 : Int32) (v6 : Int32) (sg : Nat → Nat → Int32) (lg : Nat → Nat → Int64) : Option ((Nat → Nat → Int32) × (Nat → Nat → Int64)) :=
  Option.bind (p_X5_startable F p v0 v1 v5 sg lg) (fun (x1 : Int32) =>
  Option.bind (p_X5_leastStuck F p v0 x1 sg lg) (fun (x2 : Int32) =>
  if x2 = (-1 : Int32) then
  (hcU (p_X5_consider F p v0 v1 sg lg) (fun (sg9 : Nat → Nat → Int32) (lg10 : Nat → Nat → Int64) =>
  some (sg9, lg10)))
  else (if v6 ≤ 0 then
  (pk_X5_loosen_41 F pf_X5_loosen p v0  v1 v3 v6 x1 (-1 : Int32) sg lg)
  else (Option.bind (p_X5_loopEntry F p v0 x1 v1 sg lg) (fun (x8 : Int32) =>
  pk_X5_loosen_41 F pf_X5_loosen p v0  v1 v3 v6 x1 x8 sg lg)))))
set_option maxRecDepth 100000 in
set_option maxHeartbeats 4000000 in
theorem ec_X5_loosen_119 {F : Nat} {K : HK} {pr : HP} {pt : Nat → Nat} {rr : HP} {n : Nat} {p : Nat} {rf_X5_loosen : Nat → Int64 → Int64 → Int32 → Int32 → Nat → GH → Option (Nat × GH)} {pf_X5_loosen : Nat → Int64 → Int64 → Int32 → Int32 → (Nat → Nat → Int32) → (Nat → Nat → Int64) → Option ((Nat → Nat → Int32) × (Nat → Nat → Int64))} {v0 : Nat} {rec53 : Int32 → Int64 → Int32 → Nat → GH → Option (Nat × GH)} {prec53 : Int32 → Int64 → Int32 → (Nat → Nat → Int32) → (Nat → Nat → Int64) → Option ((Nat → Nat → Int32) × (Nat → Nat → Int64))} (hv0 : OkPlan K pr pt v0 p) (hg_X5_loosen : ∀ (u1 : Int64) (u3 : Int64) (u5 : Int32) (u6 : Int32) (sg : Nat → Nat → Int32) (lg : Nat → Nat → Int64), rf_X5_loosen v0 u1 u3 u5 u6 n (hp K pr pt rr sg lg) = Option.map (fun z => (n, hp K pr pt rr z.1 z.2)) (pf_X5_loosen v0 u1 u3 u5 u6 sg lg)) (hrec53 : ∀ (w9 : Int32) (w10 : Int64) (w12 : Int32) (sg : Nat → Nat → Int32) (lg : Nat → Nat → Int64), rec53 w9 w10 w12 n (hp K pr pt rr sg lg) = Option.map (fun z => (n, hp K pr pt rr z.1 z.2)) (prec53 w9 w10 w12 sg lg)) {v1 : Int64} {v6 : Int32} {v7 : Int32} {v8 : Int32} {v10 : Int64} {v12 : Int32} {v13 : Int32}  {sg : Nat → Nat → Int32} {lg : Nat → Nat → Int64} : k_X5_loosen_119 F rf_X5_loosen rec53 v0 v1 v6 v7 v8 v10 v12 v13  n (hp K pr pt rr sg lg) = Option.map (fun z => (n, hp K pr pt rr z.1 z.2)) (pk_X5_loosen_119 F pf_X5_loosen p v0 prec53 v1 v6 v7 v8 v10 v12 v13  sg lg) := by
  unfold k_X5_loosen_119 pk_X5_loosen_119
  refine q_nm (fun y4 => ?_)
  refine c_cvP (hv0).k0 (e_X5_behind (hv0)) (fun x5 => ?_)
  refine q_ite ?_ ?_
  · rfl
  · exact hrec53 _ _ _ _ _
set_option maxRecDepth 100000 in
set_option maxHeartbeats 4000000 in
theorem el_X5_loosen_53 {F : Nat} {K : HK} {pr : HP} {pt : Nat → Nat} {rr : HP} {n : Nat} {p : Nat} {rf_X5_loosen : Nat → Int64 → Int64 → Int32 → Int32 → Nat → GH → Option (Nat × GH)} {pf_X5_loosen : Nat → Int64 → Int64 → Int32 → Int32 → (Nat → Nat → Int32) → (Nat → Nat → Int64) → Option ((Nat → Nat → Int32) × (Nat → Nat → Int64))} {v0 : Nat}  (hv0 : OkPlan K pr pt v0 p) (hg_X5_loosen : ∀ (u1 : Int64) (u3 : Int64) (u5 : Int32) (u6 : Int32) (sg : Nat → Nat → Int32) (lg : Nat → Nat → Int64), rf_X5_loosen v0 u1 u3 u5 u6 n (hp K pr pt rr sg lg) = Option.map (fun z => (n, hp K pr pt rr z.1 z.2)) (pf_X5_loosen v0 u1 u3 u5 u6 sg lg))  {v1 : Int64} {v6 : Int32} {v7 : Int32} {v8 : Int32} : ∀ (k : Nat) (v9 : Int32) (v10 : Int64) (v12 : Int32) (sg : Nat → Nat → Int32) (lg : Nat → Nat → Int64), fixN ((fun _ _ _ _ _ => none) : Int32 → Int64 → Int32 → Nat → GH → Option (Nat × GH)) (b_X5_loosen_53 F rf_X5_loosen  v0 v1 v6 v7 v8) k v9 v10 v12 n (hp K pr pt rr sg lg) = Option.map (fun z => (n, hp K pr pt rr z.1 z.2)) (fixN ((fun _ _ _ _ _ => none) : Int32 → Int64 → Int32 → (Nat → Nat → Int32) → (Nat → Nat → Int64) → Option ((Nat → Nat → Int32) × (Nat → Nat → Int64))) (pb_X5_loosen_53 F pf_X5_loosen p v0  v1 v6 v7 v8) k v9 v10 v12 sg lg) := by
  intro k
  refine fixN_ind2 (P := fun (r : Int32 → Int64 → Int32 → Nat → GH → Option (Nat × GH)) (r1 : Int32 → Int64 → Int32 → (Nat → Nat → Int32) → (Nat → Nat → Int64) → Option ((Nat → Nat → Int32) × (Nat → Nat → Int64))) => ∀ (v9 : Int32) (v10 : Int64) (v12 : Int32) (sg : Nat → Nat → Int32) (lg : Nat → Nat → Int64), r v9 v10 v12 n (hp K pr pt rr sg lg) = Option.map (fun z => (n, hp K pr pt rr z.1 z.2)) (r1 v9 v10 v12 sg lg)) ?_ ?_ k
  · intro v9 v10 v12 sg lg
    rfl
  · intro rec53 prec53 hrec53 v9 v10 v12 sg lg
    unfold b_X5_loosen_53 pb_X5_loosen_53
    refine c_gP (hv0).k0 rfl (hv0).p0 ?_
    refine c_gI ((hv0).o0).k0 rfl ?_
    refine q_ite ?_ ?_
    · rfl
    · refine q_ite ?_ ?_
      · rfl
      · refine c_cvP (hv0).k0 (e_X5_stuckSlot (hv0)) (fun x3 => ?_)
        refine q_ite ?_ ?_
        · rfl
        · refine q_ite ?_ ?_
          · refine c_cvU (hv0).k0 (hg_X5_loosen _ _ _ _ _ _) (fun sg6 lg7 => ?_)
            exact ec_X5_loosen_119 hv0 hg_X5_loosen hrec53
          · exact ec_X5_loosen_119 hv0 hg_X5_loosen hrec53
set_option maxRecDepth 100000 in
set_option maxHeartbeats 4000000 in
theorem ec_X5_loosen_41 {F : Nat} {K : HK} {pr : HP} {pt : Nat → Nat} {rr : HP} {n : Nat} {p : Nat} {rf_X5_loosen : Nat → Int64 → Int64 → Int32 → Int32 → Nat → GH → Option (Nat × GH)} {pf_X5_loosen : Nat → Int64 → Int64 → Int32 → Int32 → (Nat → Nat → Int32) → (Nat → Nat → Int64) → Option ((Nat → Nat → Int32) × (Nat → Nat → Int64))} {v0 : Nat}  (hv0 : OkPlan K pr pt v0 p) (hg_X5_loosen : ∀ (u1 : Int64) (u3 : Int64) (u5 : Int32) (u6 : Int32) (sg : Nat → Nat → Int32) (lg : Nat → Nat → Int64), rf_X5_loosen v0 u1 u3 u5 u6 n (hp K pr pt rr sg lg) = Option.map (fun z => (n, hp K pr pt rr z.1 z.2)) (pf_X5_loosen v0 u1 u3 u5 u6 sg lg))  {v1 : Int64} {v3 : Int64} {v6 : Int32} {v7 : Int32} {s0 : Int32} {sg : Nat → Nat → Int32} {lg : Nat → Nat → Int64} : k_X5_loosen_41 F rf_X5_loosen  v0 v1 v3 v6 v7 s0 n (hp K pr pt rr sg lg) = Option.map (fun z => (n, hp K pr pt rr z.1 z.2)) (pk_X5_loosen_41 F pf_X5_loosen p v0  v1 v3 v6 v7 s0 sg lg) := by
  unfold k_X5_loosen_41 pk_X5_loosen_41
  exact el_X5_loosen_53 hv0 hg_X5_loosen  _ _ _ _ _ _
set_option maxRecDepth 100000 in
set_option maxHeartbeats 4000000 in
theorem eg_X5_loosen {F : Nat} {K : HK} {pr : HP} {pt : Nat → Nat} {rr : HP} {n : Nat} {p : Nat} {rf_X5_loosen : Nat → Int64 → Int64 → Int32 → Int32 → Nat → GH → Option (Nat × GH)} {pf_X5_loosen : Nat → Int64 → Int64 → Int32 → Int32 → (Nat → Nat → Int32) → (Nat → Nat → Int64) → Option ((Nat → Nat → Int32) × (Nat → Nat → Int64))} {v0 : Nat} {v1 : Int64} {v3 : Int64} {v5 : Int32} {v6 : Int32} (hv0 : OkPlan K pr pt v0 p) (hg_X5_loosen : ∀ (u1 : Int64) (u3 : Int64) (u5 : Int32) (u6 : Int32) (sg : Nat → Nat → Int32) (lg : Nat → Nat → Int64), rf_X5_loosen v0 u1 u3 u5 u6 n (hp K pr pt rr sg lg) = Option.map (fun z => (n, hp K pr pt rr z.1 z.2)) (pf_X5_loosen v0 u1 u3 u5 u6 sg lg)) {sg : Nat → Nat → Int32} {lg : Nat → Nat → Int64} : g_X5_loosen F rf_X5_loosen v0 v1 v3 v5 v6 n (hp K pr pt rr sg lg) = Option.map (fun z => (n, hp K pr pt rr z.1 z.2)) (pg_X5_loosen F pf_X5_loosen p v0 v1 v3 v5 v6 sg lg) := by
  unfold g_X5_loosen pg_X5_loosen
  refine c_cvP (hv0).k0 (e_X5_startable (hv0)) (fun x1 => ?_)
  refine c_cvP (hv0).k0 (e_X5_leastStuck (hv0)) (fun x2 => ?_)
  refine q_ite ?_ ?_
  · refine c_cvU (hv0).k0 (e_X5_consider (hv0)) (fun sg9 lg10 => ?_)
    rfl
  · refine q_ite ?_ ?_
    · exact ec_X5_loosen_41 hv0 hg_X5_loosen 
    · refine c_cvP (hv0).k0 (e_X5_loopEntry (hv0)) (fun x8 => ?_)
      exact ec_X5_loosen_41 hv0 hg_X5_loosen 
def p_X5_loosen (F : Nat) (p : Nat) : Nat → Int64 → Int64 → Int32 → Int32 → (Nat → Nat → Int32) → (Nat → Nat → Int64) → Option ((Nat → Nat → Int32) × (Nat → Nat → Int64)) := fixN (fun _ _ _ _ _ _ _ => none) (fun pf => pg_X5_loosen F pf p) 5
theorem e_X5_loosen {F : Nat} {K : HK} {pr : HP} {pt : Nat → Nat} {rr : HP} {n : Nat} {p : Nat} {v0 : Nat} {v1 : Int64} {v3 : Int64} {v5 : Int32} {v6 : Int32} (hv0 : OkPlan K pr pt v0 p) {sg : Nat → Nat → Int32} {lg : Nat → Nat → Int64} : f_X5_loosen F v0 v1 v3 v5 v6 n (hp K pr pt rr sg lg) = Option.map (fun z => (n, hp K pr pt rr z.1 z.2)) (p_X5_loosen F p v0 v1 v3 v5 v6 sg lg) := by
  have key : ∀ (d : Nat) (v1 : Int64) (v3 : Int64) (v5 : Int32) (v6 : Int32) (sg : Nat → Nat → Int32) (lg : Nat → Nat → Int64), fixN ((fun _ _ _ _ _ _ _ => none) : Nat → Int64 → Int64 → Int32 → Int32 → Nat → GH → Option (Nat × GH)) (fun rf => g_X5_loosen F rf) d v0 v1 v3 v5 v6 n (hp K pr pt rr sg lg) = Option.map (fun z => (n, hp K pr pt rr z.1 z.2)) (fixN ((fun _ _ _ _ _ _ _ => none) : Nat → Int64 → Int64 → Int32 → Int32 → (Nat → Nat → Int32) → (Nat → Nat → Int64) → Option ((Nat → Nat → Int32) × (Nat → Nat → Int64))) (fun pf => pg_X5_loosen F pf p) d v0 v1 v3 v5 v6 sg lg) := by
    intro d
    induction d with
    | zero => intro v1 v3 v5 v6 sg lg; rfl
    | succ d ih => intro v1 v3 v5 v6 sg lg; exact eg_X5_loosen hv0 ih
  exact key 5 _ _ _ _ _ _
/-! X5_findFewest -/
def pb_X5_findFewest_12 (F : Nat)  (p : Nat) (v0 : Nat)   (prec12 : Int32 → (Nat → Nat → Int32) → (Nat → Nat → Int64) → Option ((Nat → Nat → Int32) × (Nat → Nat → Int64))) : Int32 → (Nat → Nat → Int32) → (Nat → Nat → Int64) → Option ((Nat → Nat → Int32) × (Nat → Nat → Int64)) := fun v1 sg lg =>
  if (3 : Int32) < v1 then
  (gnm (up2 sg v0 6 (-2 : Int32)) (fun (sg3 : Nat → Nat → Int32) =>
  some (sg3, lg)))
  else (hcU (p_X5_loosen F p v0 (0 : Int64) (0 : Int64) (0 : Int32) v1 sg lg) (fun (sg4 : Nat → Nat → Int32) (lg5 : Nat → Nat → Int64) =>
  if (sg4 v0 8) = 0 then
  (prec12 (v1 + 1) sg4 lg5)
  else (gnm (up2 sg4 v0 6 v1) (fun (sg6 : Nat → Nat → Int32) =>
  some (sg6, lg5)))))
def p_X5_findFewest (F : Nat)  (p : Nat) (v0 : Nat) (sg : Nat → Nat → Int32) (lg : Nat → Nat → Int64) : Option ((Nat → Nat → Int32) × (Nat → Nat → Int64)) :=
  gnm (up2 sg v0 8 (0 : Int32)) (fun (sg1 : Nat → Nat → Int32) =>
  gnm (up3 lg v0 7 (0 : Int64)) (fun (lg2 : Nat → Nat → Int64) =>
  fixN (fun _ _ _ => none) (pb_X5_findFewest_12 F  p v0  ) F (0 : Int32) sg1 lg2))
set_option maxRecDepth 100000 in
set_option maxHeartbeats 4000000 in
theorem el_X5_findFewest_12 {F : Nat} {K : HK} {pr : HP} {pt : Nat → Nat} {rr : HP} {n : Nat} {p : Nat}  {v0 : Nat}  (hv0 : OkPlan K pr pt v0 p)    : ∀ (k : Nat) (v1 : Int32) (sg : Nat → Nat → Int32) (lg : Nat → Nat → Int64), fixN ((fun _ _ _ => none) : Int32 → Nat → GH → Option (Nat × GH)) (b_X5_findFewest_12 F   v0) k v1 n (hp K pr pt rr sg lg) = Option.map (fun z => (n, hp K pr pt rr z.1 z.2)) (fixN ((fun _ _ _ => none) : Int32 → (Nat → Nat → Int32) → (Nat → Nat → Int64) → Option ((Nat → Nat → Int32) × (Nat → Nat → Int64))) (pb_X5_findFewest_12 F  p v0  ) k v1 sg lg) := by
  intro k
  refine fixN_ind2 (P := fun (r : Int32 → Nat → GH → Option (Nat × GH)) (r1 : Int32 → (Nat → Nat → Int32) → (Nat → Nat → Int64) → Option ((Nat → Nat → Int32) × (Nat → Nat → Int64))) => ∀ (v1 : Int32) (sg : Nat → Nat → Int32) (lg : Nat → Nat → Int64), r v1 n (hp K pr pt rr sg lg) = Option.map (fun z => (n, hp K pr pt rr z.1 z.2)) (r1 v1 sg lg)) ?_ ?_ k
  · intro v1 sg lg
    rfl
  · intro rec12 prec12 hrec12 v1 sg lg
    unfold b_X5_findFewest_12 pb_X5_findFewest_12
    refine q_ite ?_ ?_
    · refine c_pI (hv0).k0 rfl (fun sg3 => ?_)
      rfl
    · refine c_cvU (hv0).k0 (e_X5_loosen (hv0)) (fun sg4 lg5 => ?_)
      refine c_gI (hv0).k0 rfl ?_
      refine q_ite ?_ ?_
      · exact hrec12 _ _ _
      · refine c_pI (hv0).k0 rfl (fun sg6 => ?_)
        rfl
set_option maxRecDepth 100000 in
set_option maxHeartbeats 4000000 in
theorem e_X5_findFewest {F : Nat} {K : HK} {pr : HP} {pt : Nat → Nat} {rr : HP} {n : Nat} {p : Nat}  {v0 : Nat} (hv0 : OkPlan K pr pt v0 p)  {sg : Nat → Nat → Int32} {lg : Nat → Nat → Int64} : f_X5_findFewest F  v0 n (hp K pr pt rr sg lg) = Option.map (fun z => (n, hp K pr pt rr z.1 z.2)) (p_X5_findFewest F  p v0 sg lg) := by
  unfold f_X5_findFewest p_X5_findFewest
  refine c_pI (hv0).k0 rfl (fun sg1 => ?_)
  refine c_pJ (hv0).k0 rfl (fun lg2 => ?_)
  exact el_X5_findFewest_12 hv0   _ _ _ _
/-! X5_loosenedAt -/
def pb_X5_loosenedAt_36 (F : Nat)  (p : Nat) (v0 : Nat)  (v1 : Int32) (sg : Nat → Nat → Int32) (lg : Nat → Nat → Int64) (prec36 : Int32 → Int32 → Option (Int32 × (Nat → Nat → Int32) × (Nat → Nat → Int64))) : Int32 → Int32 → Option (Int32 × (Nat → Nat → Int32) × (Nat → Nat → Int64)) := fun v2 v3 =>
  if (48 : Int32) ≤ v3 then
  (some ((-1 : Int32), sg, lg))
  else (if (lg_cmp ((lg v0 7) &&& ((1 : Int64) <<< ((Int32.toInt64 v3) &&& 63))) (0 : Int64)) = 0 then
  (prec36 v2 (v3 + 1))
  else (if v2 = v1 then
  (some (v3, sg, lg))
  else (prec36 (v2 + 1) (v3 + 1))))
def pk_X5_loosenedAt_13 (F : Nat)  (p : Nat) (v0 : Nat)  (v1 : Int32)  (sg : Nat → Nat → Int32) (lg : Nat → Nat → Int64) : Option (Int32 × (Nat → Nat → Int32) × (Nat → Nat → Int64)) :=
  if (sg v0 6) = (-2 : Int32) then
  (some (sg v0 6, sg, lg))
  else (if v1 = (-1 : Int32) then
  (some (sg v0 6, sg, lg))
  else (fixN (fun _ _ => none) (pb_X5_loosenedAt_36 F  p v0  v1 sg lg) F (0 : Int32) (0 : Int32)))
def p_X5_loosenedAt (F : Nat)  (p : Nat) (v0 : Nat) (v1 : Int32) (sg : Nat → Nat → Int32) (lg : Nat → Nat → Int64) : Option (Int32 × (Nat → Nat → Int32) × (Nat → Nat → Int64)) :=
  if (sg v0 6) = (-3 : Int32) then
  (hcU (p_X5_findFewest F p v0 sg lg) (fun (sg1 : Nat → Nat → Int32) (lg2 : Nat → Nat → Int64) =>
  pk_X5_loosenedAt_13 F  p v0  v1 sg1 lg2))
  else (pk_X5_loosenedAt_13 F  p v0  v1 sg lg)
set_option maxRecDepth 100000 in
set_option maxHeartbeats 4000000 in
theorem el_X5_loosenedAt_36 {F : Nat} {K : HK} {pr : HP} {pt : Nat → Nat} {rr : HP} {n : Nat} {p : Nat}  {v0 : Nat}  (hv0 : OkPlan K pr pt v0 p)   {v1 : Int32} {sg : Nat → Nat → Int32} {lg : Nat → Nat → Int64} : ∀ (k : Nat) (v2 : Int32) (v3 : Int32), fixN ((fun _ _ => none) : Int32 → Int32 → Option (Int32 × Nat × GH)) (b_X5_loosenedAt_36 F   v0 v1 n (hp K pr pt rr sg lg)) k v2 v3 = Option.map (fun z => (z.1, n, hp K pr pt rr z.2.1 z.2.2)) (fixN ((fun _ _ => none) : Int32 → Int32 → Option (Int32 × (Nat → Nat → Int32) × (Nat → Nat → Int64))) (pb_X5_loosenedAt_36 F  p v0  v1 sg lg) k v2 v3) := by
  intro k
  refine fixN_ind2 (P := fun (r : Int32 → Int32 → Option (Int32 × Nat × GH)) (r1 : Int32 → Int32 → Option (Int32 × (Nat → Nat → Int32) × (Nat → Nat → Int64))) => ∀ (v2 : Int32) (v3 : Int32), r v2 v3 = Option.map (fun z => (z.1, n, hp K pr pt rr z.2.1 z.2.2)) (r1 v2 v3)) ?_ ?_ k
  · intro v2 v3
    rfl
  · intro rec36 prec36 hrec36 v2 v3
    unfold b_X5_loosenedAt_36 pb_X5_loosenedAt_36
    refine q_ite ?_ ?_
    · rfl
    · refine c_gJ (hv0).k0 rfl ?_
      refine q_ite ?_ ?_
      · exact hrec36 _ _
      · refine q_ite ?_ ?_
        · rfl
        · exact hrec36 _ _
set_option maxRecDepth 100000 in
set_option maxHeartbeats 4000000 in
theorem ec_X5_loosenedAt_13 {F : Nat} {K : HK} {pr : HP} {pt : Nat → Nat} {rr : HP} {n : Nat} {p : Nat}  {v0 : Nat}  (hv0 : OkPlan K pr pt v0 p)   {v1 : Int32}  {sg : Nat → Nat → Int32} {lg : Nat → Nat → Int64} : k_X5_loosenedAt_13 F   v0 v1  n (hp K pr pt rr sg lg) = Option.map (fun z => (z.1, n, hp K pr pt rr z.2.1 z.2.2)) (pk_X5_loosenedAt_13 F  p v0  v1  sg lg) := by
  unfold k_X5_loosenedAt_13 pk_X5_loosenedAt_13
  refine c_gI (hv0).k0 rfl ?_
  refine q_ite ?_ ?_
  · refine c_gI (hv0).k0 rfl ?_
    rfl
  · refine q_ite ?_ ?_
    · refine c_gI (hv0).k0 rfl ?_
      rfl
    · exact el_X5_loosenedAt_36 hv0   _ _ _
set_option maxRecDepth 100000 in
set_option maxHeartbeats 4000000 in
theorem e_X5_loosenedAt {F : Nat} {K : HK} {pr : HP} {pt : Nat → Nat} {rr : HP} {n : Nat} {p : Nat}  {v0 : Nat} {v1 : Int32} (hv0 : OkPlan K pr pt v0 p)  {sg : Nat → Nat → Int32} {lg : Nat → Nat → Int64} : f_X5_loosenedAt F  v0 v1 n (hp K pr pt rr sg lg) = Option.map (fun z => (z.1, n, hp K pr pt rr z.2.1 z.2.2)) (p_X5_loosenedAt F  p v0 v1 sg lg) := by
  unfold f_X5_loosenedAt p_X5_loosenedAt
  refine c_gI (hv0).k0 rfl ?_
  refine q_ite ?_ ?_
  · refine c_cvU (hv0).k0 (e_X5_findFewest (hv0)) (fun sg1 lg2 => ?_)
    exact ec_X5_loosenedAt_13 hv0  
  · exact ec_X5_loosenedAt_13 hv0  
