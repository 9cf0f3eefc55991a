/-! X11_keeps -/
theorem pf_X11_193 : pF RX11 193 11 5 := ⟨RX11, TX11, 37, rfl, by decide, rfl, Or.inl (g_in 1150 (by decide +kernel) rfl)⟩
theorem pf_X11_21 : pF RX11 21 11 4 := ⟨RX11, TX11, 37, rfl, by decide, rfl, Or.inl (g_in 1149 (by decide +kernel) rfl)⟩
theorem d_X11_keeps_0 : decAL cX11_keeps 0 0 1 := Or.inr ⟨0, rfl, by decide +kernel, rfl⟩
theorem d_X11_keeps_1 : dec 3 cX11_keeps 1 (.getfield 193) 4 := ⟨by decide +kernel, rfl⟩
theorem d_X11_keeps_4 : dec 2 cX11_keeps 4 (.bipush 8) 6 := ⟨by decide +kernel, rfl⟩
theorem d_X11_keeps_6 : decB cX11_keeps 6 (.if_icmp .ne 44) (44) 9 50 := ⟨by decide +kernel, rfl, by decide⟩
theorem d_X11_keeps_9 : dec 1 cX11_keeps 9 (.iconst 0) 10 := ⟨by decide +kernel, rfl⟩
theorem d_X11_keeps_10 : decIS cX11_keeps 10 1 11 := Or.inr ⟨1, rfl, by decide +kernel, rfl⟩
theorem d_X11_keeps_11 : decIL cX11_keeps 11 1 12 := Or.inr ⟨1, rfl, by decide +kernel, rfl⟩
theorem d_X11_keeps_12 : dec 3 cX11_keeps 12 (.sipush 6237) 15 := ⟨by decide +kernel, rfl⟩
theorem d_X11_keeps_15 : decB cX11_keeps 15 (.if_icmp .ge 25) (25) 18 40 := ⟨by decide +kernel, rfl, by decide⟩
theorem d_X11_keeps_18 : decAL cX11_keeps 18 0 19 := Or.inr ⟨0, rfl, by decide +kernel, rfl⟩
theorem d_X11_keeps_19 : dec 3 cX11_keeps 19 (.getfield 21) 22 := ⟨by decide +kernel, rfl⟩
theorem d_X11_keeps_22 : decIL cX11_keeps 22 1 23 := Or.inr ⟨1, rfl, by decide +kernel, rfl⟩
theorem d_X11_keeps_23 : decAL cX11_keeps 23 0 24 := Or.inr ⟨0, rfl, by decide +kernel, rfl⟩
theorem d_X11_keeps_24 : dec 3 cX11_keeps 24 (.getfield 21) 27 := ⟨by decide +kernel, rfl⟩
theorem d_X11_keeps_27 : decIL cX11_keeps 27 1 28 := Or.inr ⟨1, rfl, by decide +kernel, rfl⟩
theorem d_X11_keeps_28 : dec 3 cX11_keeps 28 (.sipush 891) 31 := ⟨by decide +kernel, rfl⟩
theorem d_X11_keeps_31 : dec 1 cX11_keeps 31 .iadd 32 := ⟨by decide +kernel, rfl⟩
theorem d_X11_keeps_32 : dec 1 cX11_keeps 32 .iaload 33 := ⟨by decide +kernel, rfl⟩
theorem d_X11_keeps_33 : dec 1 cX11_keeps 33 .iastore 34 := ⟨by decide +kernel, rfl⟩
theorem d_X11_keeps_34 : dec 3 cX11_keeps 34 (.iinc 1 1) 37 := ⟨by decide +kernel, rfl⟩
theorem d_X11_keeps_37 : decB cX11_keeps 37 (.goto (-26)) (-26) 40 11 := ⟨by decide +kernel, rfl, by decide⟩
theorem d_X11_keeps_40 : decAL cX11_keeps 40 0 41 := Or.inr ⟨0, rfl, by decide +kernel, rfl⟩
theorem d_X11_keeps_41 : dec 1 cX11_keeps 41 .dup 42 := ⟨by decide +kernel, rfl⟩
theorem d_X11_keeps_42 : dec 3 cX11_keeps 42 (.getfield 193) 45 := ⟨by decide +kernel, rfl⟩
theorem d_X11_keeps_45 : dec 1 cX11_keeps 45 (.iconst 1) 46 := ⟨by decide +kernel, rfl⟩
theorem d_X11_keeps_46 : dec 1 cX11_keeps 46 .isub 47 := ⟨by decide +kernel, rfl⟩
theorem d_X11_keeps_47 : dec 3 cX11_keeps 47 (.putfield 193) 50 := ⟨by decide +kernel, rfl⟩
theorem d_X11_keeps_50 : dec 1 cX11_keeps 50 (.iconst 0) 51 := ⟨by decide +kernel, rfl⟩
theorem d_X11_keeps_51 : decIS cX11_keeps 51 1 52 := Or.inr ⟨1, rfl, by decide +kernel, rfl⟩
theorem d_X11_keeps_52 : decIL cX11_keeps 52 1 53 := Or.inr ⟨1, rfl, by decide +kernel, rfl⟩
theorem d_X11_keeps_53 : dec 3 cX11_keeps 53 (.sipush 891) 56 := ⟨by decide +kernel, rfl⟩
theorem d_X11_keeps_56 : decB cX11_keeps 56 (.if_icmp .ge 30) (30) 59 86 := ⟨by decide +kernel, rfl, by decide⟩
theorem d_X11_keeps_59 : decAL cX11_keeps 59 0 60 := Or.inr ⟨0, rfl, by decide +kernel, rfl⟩
theorem d_X11_keeps_60 : dec 3 cX11_keeps 60 (.getfield 21) 63 := ⟨by decide +kernel, rfl⟩
theorem d_X11_keeps_63 : dec 3 cX11_keeps 63 (.sipush 891) 66 := ⟨by decide +kernel, rfl⟩
theorem d_X11_keeps_66 : decAL cX11_keeps 66 0 67 := Or.inr ⟨0, rfl, by decide +kernel, rfl⟩
theorem d_X11_keeps_67 : dec 3 cX11_keeps 67 (.getfield 193) 70 := ⟨by decide +kernel, rfl⟩
theorem d_X11_keeps_70 : dec 1 cX11_keeps 70 .imul 71 := ⟨by decide +kernel, rfl⟩
theorem d_X11_keeps_71 : decIL cX11_keeps 71 1 72 := Or.inr ⟨1, rfl, by decide +kernel, rfl⟩
theorem d_X11_keeps_72 : dec 1 cX11_keeps 72 .iadd 73 := ⟨by decide +kernel, rfl⟩
theorem d_X11_keeps_73 : decAL cX11_keeps 73 0 74 := Or.inr ⟨0, rfl, by decide +kernel, rfl⟩
theorem d_X11_keeps_74 : dec 3 cX11_keeps 74 (.getfield 7) 77 := ⟨by decide +kernel, rfl⟩
theorem d_X11_keeps_77 : decIL cX11_keeps 77 1 78 := Or.inr ⟨1, rfl, by decide +kernel, rfl⟩
theorem d_X11_keeps_78 : dec 1 cX11_keeps 78 .iaload 79 := ⟨by decide +kernel, rfl⟩
theorem d_X11_keeps_79 : dec 1 cX11_keeps 79 .iastore 80 := ⟨by decide +kernel, rfl⟩
theorem d_X11_keeps_80 : dec 3 cX11_keeps 80 (.iinc 1 1) 83 := ⟨by decide +kernel, rfl⟩
theorem d_X11_keeps_83 : decB cX11_keeps 83 (.goto (-31)) (-31) 86 52 := ⟨by decide +kernel, rfl, by decide⟩
theorem d_X11_keeps_86 : decAL cX11_keeps 86 0 87 := Or.inr ⟨0, rfl, by decide +kernel, rfl⟩
theorem d_X11_keeps_87 : dec 1 cX11_keeps 87 .dup 88 := ⟨by decide +kernel, rfl⟩
theorem d_X11_keeps_88 : dec 3 cX11_keeps 88 (.getfield 193) 91 := ⟨by decide +kernel, rfl⟩
theorem d_X11_keeps_91 : dec 1 cX11_keeps 91 (.iconst 1) 92 := ⟨by decide +kernel, rfl⟩
theorem d_X11_keeps_92 : dec 1 cX11_keeps 92 .iadd 93 := ⟨by decide +kernel, rfl⟩
theorem d_X11_keeps_93 : dec 3 cX11_keeps 93 (.putfield 193) 96 := ⟨by decide +kernel, rfl⟩
theorem d_X11_keeps_96 : dec 1 cX11_keeps 96 .return_ 97 := ⟨by decide +kernel, rfl⟩
def k_X11_keeps_86 (F : Nat)   (v0 : Nat)  (n : Nat) (G : GH) : Option (Nat × GH) :=
  Option.bind (gI G v0 11 5) (fun (x2 : Int32) =>
  Option.bind (pV G v0 11 5 (.int (x2 + (1 : Int32)))) (fun (G3 : GH) =>
  some (n, G3)))
def b_X11_keeps_52 (F : Nat)   (v0 : Nat) (rec52 : Int32 → Nat → GH → Option (Nat × GH)) : Int32 → Nat → GH → Option (Nat × GH) := fun v1 n G =>
  if (891 : Int32) ≤ v1 then
  (k_X11_keeps_86 F   v0 n G)
  else (Option.bind (gR G v0 11 4) (fun (x4 : Nat) =>
  Option.bind (gI G v0 11 5) (fun (x5 : Int32) =>
  Option.bind (gR G v0 11 1) (fun (x6 : Nat) =>
  Option.bind (aI G x6 0 v1) (fun (x7 : Int32) =>
  Option.bind (aS G x4 0 (((891 : Int32) * x5) + v1) x7) (fun (G8 : GH) =>
  rec52 (v1 + 1) n G8))))))
def k_X11_keeps_50 (F : Nat)   (v0 : Nat)  (n : Nat) (G : GH) : Option (Nat × GH) :=
  fixN (fun _ _ _ => none) (b_X11_keeps_52 F   v0) F (0 : Int32) n G
def k_X11_keeps_40 (F : Nat)   (v0 : Nat)  (n : Nat) (G : GH) : Option (Nat × GH) :=
  Option.bind (gI G v0 11 5) (fun (x9 : Int32) =>
  Option.bind (pV G v0 11 5 (.int (x9 - (1 : Int32)))) (fun (G10 : GH) =>
  k_X11_keeps_50 F   v0 n G10))
def b_X11_keeps_11 (F : Nat)   (v0 : Nat) (rec11 : Int32 → Nat → GH → Option (Nat × GH)) : Int32 → Nat → GH → Option (Nat × GH) := fun v1 n G =>
  if (6237 : Int32) ≤ v1 then
  (k_X11_keeps_40 F   v0 n G)
  else (Option.bind (gR G v0 11 4) (fun (x11 : Nat) =>
  Option.bind (gR G v0 11 4) (fun (x12 : Nat) =>
  Option.bind (aI G x12 0 (v1 + (891 : Int32))) (fun (x13 : Int32) =>
  Option.bind (aS G x11 0 v1 x13) (fun (G14 : GH) =>
  rec11 (v1 + 1) n G14)))))
def f_X11_keeps (F : Nat)  (v0 : Nat) (n : Nat) (G : GH) : Option (Nat × GH) :=
  Option.bind (gI G v0 11 5) (fun (x1 : Int32) =>
  if x1 = (8 : Int32) then
  (fixN (fun _ _ _ => none) (b_X11_keeps_11 F   v0) F (0 : Int32) n G)
  else (k_X11_keeps_50 F   v0 n G))
set_option maxRecDepth 100000 in
set_option maxHeartbeats 4000000 in
theorem c_X11_keeps_86 {E : GE} {F : Nat}   {v0 : Nat}  {n : Nat} {G : GH} {z : Nat × GH}   (h : k_X11_keeps_86 F   v0  n G = some z) : WG E RX11 "keeps" cX11_keeps 2 none 0 0 0 0 86 [(0, .ref v0)] [] n G (g_O E (none, z.1, z.2)) := by
  unfold k_X11_keeps_86 at h
  refine r_aload d_X11_keeps_86 rfl ?_
  refine r_dup d_X11_keeps_87 rfl ?_
  refine r_getI h d_X11_keeps_88 pf_X11_193 (fun x2 h => ?_)
  refine r_iconst d_X11_keeps_91 ic_1 ?_
  refine r_iadd d_X11_keeps_92 ?_
  refine r_put h d_X11_keeps_93 pw_X11_193 rfl rfl (fun G3 h => ?_)
  exact r_vret h d_X11_keeps_96
set_option maxRecDepth 100000 in
set_option maxHeartbeats 4000000 in
theorem l_X11_keeps_52 {E : GE} {F : Nat}   {v0 : Nat}   : ∀ (K : Nat) (v1 : Int32) (n : Nat) (G : GH) (z : Nat × GH), fixN ((fun _ _ _ => none) : Int32 → Nat → GH → Option (Nat × GH)) (b_X11_keeps_52 F   v0) K v1 n G = some z → WG E RX11 "keeps" cX11_keeps 2 none 0 0 0 0 52 [(0, .ref v0), (1, .int v1)] [] n G (g_O E (none, z.1, z.2)) := by
  intro K
  refine fixN_ind (P := fun (r : Int32 → Nat → GH → Option (Nat × GH)) => ∀ (v1 : Int32) (n : Nat) (G : GH) (z : Nat × GH), r v1 n G = some z → WG E RX11 "keeps" cX11_keeps 2 none 0 0 0 0 52 [(0, .ref v0), (1, .int v1)] [] n G (g_O E (none, z.1, z.2))) ?_ ?_ K
  · intro v1 n G z h
    cases h
  · intro rec52 hrec52 v1 n G z h
    unfold b_X11_keeps_52 at h
    refine r_iload d_X11_keeps_52 rfl ?_
    refine r_sipush d_X11_keeps_53 sp_891 ?_
    refine r_icmp_ge h d_X11_keeps_56 (fun h => ?_) (fun h => ?_)
    · refine r_lv [(0, .ref v0)] (g_allc rfl g_alln) ?_
      exact c_X11_keeps_86   h
    · refine r_aload d_X11_keeps_59 rfl ?_
      refine r_getR h d_X11_keeps_60 pf_X11_21 (fun x4 h => ?_)
      refine r_sipush d_X11_keeps_63 sp_891 ?_
      refine r_aload d_X11_keeps_66 rfl ?_
      refine r_getI h d_X11_keeps_67 pf_X11_193 (fun x5 h => ?_)
      refine r_imul d_X11_keeps_70 ?_
      refine r_iload d_X11_keeps_71 rfl ?_
      refine r_iadd d_X11_keeps_72 ?_
      refine r_aload d_X11_keeps_73 rfl ?_
      refine r_getR h d_X11_keeps_74 pf_X11_7 (fun x6 h => ?_)
      refine r_iload d_X11_keeps_77 rfl ?_
      refine r_iald h d_X11_keeps_78 (fun x7 h => ?_)
      refine r_iast h d_X11_keeps_79 (fun G8 h => ?_)
      refine r_iinc d_X11_keeps_80 rfl (ii_1 _) rfl rfl ?_
      refine r_goto d_X11_keeps_83 ?_
      refine r_lv [(0, .ref v0), (1, .int (v1 + 1))] (g_allc rfl (g_allc rfl g_alln)) ?_
      exact hrec52 _ _ _ _ h
set_option maxRecDepth 100000 in
set_option maxHeartbeats 4000000 in
theorem c_X11_keeps_50 {E : GE} {F : Nat}   {v0 : Nat}  {n : Nat} {G : GH} {z : Nat × GH}   (h : k_X11_keeps_50 F   v0  n G = some z) : WG E RX11 "keeps" cX11_keeps 2 none 0 0 0 0 50 [(0, .ref v0)] [] n G (g_O E (none, z.1, z.2)) := by
  unfold k_X11_keeps_50 at h
  refine r_iconst d_X11_keeps_50 ic_0 ?_
  refine r_istore d_X11_keeps_51 rfl rfl ?_
  refine r_lv [(0, .ref v0), (1, .int (0 : Int32))] (g_allc rfl (g_allc rfl g_alln)) ?_
  exact l_X11_keeps_52   _ _ _ _ _ h
set_option maxRecDepth 100000 in
set_option maxHeartbeats 4000000 in
theorem c_X11_keeps_40 {E : GE} {F : Nat}   {v0 : Nat}  {n : Nat} {G : GH} {z : Nat × GH}   (h : k_X11_keeps_40 F   v0  n G = some z) : WG E RX11 "keeps" cX11_keeps 2 none 0 0 0 0 40 [(0, .ref v0)] [] n G (g_O E (none, z.1, z.2)) := by
  unfold k_X11_keeps_40 at h
  refine r_aload d_X11_keeps_40 rfl ?_
  refine r_dup d_X11_keeps_41 rfl ?_
  refine r_getI h d_X11_keeps_42 pf_X11_193 (fun x9 h => ?_)
  refine r_iconst d_X11_keeps_45 ic_1 ?_
  refine r_isub d_X11_keeps_46 ?_
  refine r_put h d_X11_keeps_47 pw_X11_193 rfl rfl (fun G10 h => ?_)
  refine r_lv [(0, .ref v0)] (g_allc rfl g_alln) ?_
  exact c_X11_keeps_50   h
set_option maxRecDepth 100000 in
set_option maxHeartbeats 4000000 in
theorem l_X11_keeps_11 {E : GE} {F : Nat}   {v0 : Nat}   : ∀ (K : Nat) (v1 : Int32) (n : Nat) (G : GH) (z : Nat × GH), fixN ((fun _ _ _ => none) : Int32 → Nat → GH → Option (Nat × GH)) (b_X11_keeps_11 F   v0) K v1 n G = some z → WG E RX11 "keeps" cX11_keeps 2 none 0 0 0 0 11 [(0, .ref v0), (1, .int v1)] [] n G (g_O E (none, z.1, z.2)) := by
  intro K
  refine fixN_ind (P := fun (r : Int32 → Nat → GH → Option (Nat × GH)) => ∀ (v1 : Int32) (n : Nat) (G : GH) (z : Nat × GH), r v1 n G = some z → WG E RX11 "keeps" cX11_keeps 2 none 0 0 0 0 11 [(0, .ref v0), (1, .int v1)] [] n G (g_O E (none, z.1, z.2))) ?_ ?_ K
  · intro v1 n G z h
    cases h
  · intro rec11 hrec11 v1 n G z h
    unfold b_X11_keeps_11 at h
    refine r_iload d_X11_keeps_11 rfl ?_
    refine r_sipush d_X11_keeps_12 sp_6237 ?_
    refine r_icmp_ge h d_X11_keeps_15 (fun h => ?_) (fun h => ?_)
    · refine r_lv [(0, .ref v0)] (g_allc rfl g_alln) ?_
      exact c_X11_keeps_40   h
    · refine r_aload d_X11_keeps_18 rfl ?_
      refine r_getR h d_X11_keeps_19 pf_X11_21 (fun x11 h => ?_)
      refine r_iload d_X11_keeps_22 rfl ?_
      refine r_aload d_X11_keeps_23 rfl ?_
      refine r_getR h d_X11_keeps_24 pf_X11_21 (fun x12 h => ?_)
      refine r_iload d_X11_keeps_27 rfl ?_
      refine r_sipush d_X11_keeps_28 sp_891 ?_
      refine r_iadd d_X11_keeps_31 ?_
      refine r_iald h d_X11_keeps_32 (fun x13 h => ?_)
      refine r_iast h d_X11_keeps_33 (fun G14 h => ?_)
      refine r_iinc d_X11_keeps_34 rfl (ii_1 _) rfl rfl ?_
      refine r_goto d_X11_keeps_37 ?_
      refine r_lv [(0, .ref v0), (1, .int (v1 + 1))] (g_allc rfl (g_allc rfl g_alln)) ?_
      exact hrec11 _ _ _ _ h
set_option maxRecDepth 100000 in
set_option maxHeartbeats 4000000 in
theorem s_X11_keeps {E : GE} {F : Nat}  {v0 : Nat} {n : Nat} {G : GH} {z : Nat × GH}  (h : f_X11_keeps F  v0 n G = some z) : GM E yX11_keeps cX11_keeps 2 none 0 0 0 0 [.ref v0] n G (none, z.1, z.2) := by
  refine GM.of (by decide) (Nat.le_of_ble_eq_true rfl) ?_
  show WG E RX11 "keeps" cX11_keeps 2 none 0 0 0 0 0 [(0, .ref v0)] [] n G (g_O E (none, z.1, z.2))
  unfold f_X11_keeps at h
  refine r_aload d_X11_keeps_0 rfl ?_
  refine r_getI h d_X11_keeps_1 pf_X11_193 (fun x1 h => ?_)
  refine r_bipush d_X11_keeps_4 bp_8 ?_
  refine r_icmp_ne h d_X11_keeps_6 (fun h => ?_) (fun h => ?_)
  · refine r_lv [(0, .ref v0)] (g_allc rfl g_alln) ?_
    exact c_X11_keeps_50   h
  · refine r_iconst d_X11_keeps_9 ic_0 ?_
    refine r_istore d_X11_keeps_10 rfl rfl ?_
    refine r_lv [(0, .ref v0), (1, .int (0 : Int32))] (g_allc rfl (g_allc rfl g_alln)) ?_
    exact l_X11_keeps_11   _ _ _ _ _ h
/-! X11_enter -/
theorem py_X11_keeps : pY yX11_keeps cX11_keeps 2 none 0 := ⟨g_in 1347 (by decide +kernel) rfl, g_in 104 (by decide +kernel) rfl, by decide, by decide, by decide +kernel⟩
theorem pi_X11_keeps : pI yX11_keeps 11 := ⟨g_in 1346 (by decide +kernel) rfl, g_in 50 (by decide +kernel) rfl, (RX11, TX11, 37), rfl, rfl⟩
theorem pl_X11_251 : pL RX11 251 yX11_keeps := Or.inl (g_in 1344 (by decide +kernel) rfl)
theorem d_X11_enter_0 : decAL cX11_enter 0 0 1 := Or.inr ⟨0, rfl, by decide +kernel, rfl⟩
theorem d_X11_enter_1 : dec 1 cX11_enter 1 (.iconst 0) 2 := ⟨by decide +kernel, rfl⟩
theorem d_X11_enter_2 : dec 3 cX11_enter 2 (.putfield 72) 5 := ⟨by decide +kernel, rfl⟩
theorem d_X11_enter_5 : decAL cX11_enter 5 0 6 := Or.inr ⟨0, rfl, by decide +kernel, rfl⟩
theorem d_X11_enter_6 : dec 3 cX11_enter 6 (.getfield 7) 9 := ⟨by decide +kernel, rfl⟩
theorem d_X11_enter_9 : dec 3 cX11_enter 9 (.sipush 145) 12 := ⟨by decide +kernel, rfl⟩
theorem d_X11_enter_12 : dec 1 cX11_enter 12 .iaload 13 := ⟨by decide +kernel, rfl⟩
theorem d_X11_enter_13 : dec 1 cX11_enter 13 (.iconst 4) 14 := ⟨by decide +kernel, rfl⟩
theorem d_X11_enter_14 : decB cX11_enter 14 (.if_icmp .ne 5) (5) 17 19 := ⟨by decide +kernel, rfl, by decide⟩
theorem d_X11_enter_17 : dec 1 cX11_enter 17 (.iconst (-1)) 18 := ⟨by decide +kernel, rfl⟩
theorem d_X11_enter_18 : dec 1 cX11_enter 18 .ireturn 19 := ⟨by decide +kernel, rfl⟩
theorem d_X11_enter_19 : decAL cX11_enter 19 0 20 := Or.inr ⟨0, rfl, by decide +kernel, rfl⟩
theorem d_X11_enter_20 : dec 3 cX11_enter 20 (.invokevirtual 251) 23 := ⟨by decide +kernel, rfl⟩
theorem d_X11_enter_23 : decAL cX11_enter 23 0 24 := Or.inr ⟨0, rfl, by decide +kernel, rfl⟩
theorem d_X11_enter_24 : dec 3 cX11_enter 24 (.getfield 7) 27 := ⟨by decide +kernel, rfl⟩
theorem d_X11_enter_27 : dec 3 cX11_enter 27 (.sipush 145) 30 := ⟨by decide +kernel, rfl⟩
theorem d_X11_enter_30 : dec 1 cX11_enter 30 .dup2 31 := ⟨by decide +kernel, rfl⟩
theorem d_X11_enter_31 : dec 1 cX11_enter 31 .iaload 32 := ⟨by decide +kernel, rfl⟩
theorem d_X11_enter_32 : dec 1 cX11_enter 32 (.iconst 1) 33 := ⟨by decide +kernel, rfl⟩
theorem d_X11_enter_33 : dec 1 cX11_enter 33 .iadd 34 := ⟨by decide +kernel, rfl⟩
theorem d_X11_enter_34 : dec 1 cX11_enter 34 .iastore 35 := ⟨by decide +kernel, rfl⟩
theorem d_X11_enter_35 : decAL cX11_enter 35 0 36 := Or.inr ⟨0, rfl, by decide +kernel, rfl⟩
theorem d_X11_enter_36 : dec 3 cX11_enter 36 (.getfield 7) 39 := ⟨by decide +kernel, rfl⟩
theorem d_X11_enter_39 : dec 3 cX11_enter 39 (.sipush 145) 42 := ⟨by decide +kernel, rfl⟩
theorem d_X11_enter_42 : dec 1 cX11_enter 42 .iaload 43 := ⟨by decide +kernel, rfl⟩
theorem d_X11_enter_43 : dec 1 cX11_enter 43 .ireturn 44 := ⟨by decide +kernel, rfl⟩
def f_X11_enter (F : Nat)  (v0 : Nat) (n : Nat) (G : GH) : Option (Int32 × Nat × GH) :=
  Option.bind (pV G v0 11 0 (.int (0 : Int32))) (fun (G1 : GH) =>
  Option.bind (gR G1 v0 11 1) (fun (x2 : Nat) =>
  Option.bind (aI G1 x2 0 (145 : Int32)) (fun (x3 : Int32) =>
  if x3 = (4 : Int32) then
  (some ((-1 : Int32), n, G1))
  else (cvU G1 v0 11 (f_X11_keeps F v0 n G1) (fun (n4 : Nat) (G5 : GH) =>
  Option.bind (gR G5 v0 11 1) (fun (x6 : Nat) =>
  Option.bind (aI G5 x6 0 (145 : Int32)) (fun (x7 : Int32) =>
  Option.bind (aS G5 x6 0 (145 : Int32) (x7 + (1 : Int32))) (fun (G8 : GH) =>
  Option.bind (gR G8 v0 11 1) (fun (x9 : Nat) =>
  Option.bind (aI G8 x9 0 (145 : Int32)) (fun (x10 : Int32) =>
  some (x10, n4, G8)))))))))))
set_option maxRecDepth 100000 in
set_option maxHeartbeats 4000000 in
theorem s_X11_enter {E : GE} {F : Nat}  {v0 : Nat} {n : Nat} {G : GH} {z : Int32 × Nat × GH}  (h : f_X11_enter F  v0 n G = some z) : GM E yX11_enter cX11_enter 1 (some .int) 1 21 0 0 [.ref v0] n G (some (.int z.1), z.2.1, z.2.2) := by
  refine GM.of (by decide) (Nat.le_of_ble_eq_true rfl) ?_
  show WG E RX11 "enter" cX11_enter 1 (some .int) 1 21 0 0 0 [(0, .ref v0)] [] n G (g_O E (some (.int z.1), z.2.1, z.2.2))
  unfold f_X11_enter at h
  refine r_aload d_X11_enter_0 rfl ?_
  refine r_iconst d_X11_enter_1 ic_0 ?_
  refine r_put h d_X11_enter_2 pw_X11_72 rfl rfl (fun G1 h => ?_)
  refine r_aload d_X11_enter_5 rfl ?_
  refine r_getR h d_X11_enter_6 pf_X11_7 (fun x2 h => ?_)
  refine r_sipush d_X11_enter_9 sp_145 ?_
  refine r_iald h d_X11_enter_12 (fun x3 h => ?_)
  refine r_iconst d_X11_enter_13 ic_4 ?_
  refine r_icmp_ne h d_X11_enter_14 (fun h => ?_) (fun h => ?_)
  · refine r_aload d_X11_enter_19 rfl ?_
    refine r_invU [] h (fun _ hq => s_X11_keeps hq) d_X11_enter_20 pl_X11_251 py_X11_keeps pi_X11_keeps rfl rfl rfl (fun n4 G5 h => ?_)
    refine r_aload d_X11_enter_23 rfl ?_
    refine r_getR h d_X11_enter_24 pf_X11_7 (fun x6 h => ?_)
    refine r_sipush d_X11_enter_27 sp_145 ?_
    refine r_dup2 d_X11_enter_30 rfl rfl ?_
    refine r_iald h d_X11_enter_31 (fun x7 h => ?_)
    refine r_iconst d_X11_enter_32 ic_1 ?_
    refine r_iadd d_X11_enter_33 ?_
    refine r_iast h d_X11_enter_34 (fun G8 h => ?_)
    refine r_aload d_X11_enter_35 rfl ?_
    refine r_getR h d_X11_enter_36 pf_X11_7 (fun x9 h => ?_)
    refine r_sipush d_X11_enter_39 sp_145 ?_
    refine r_iald h d_X11_enter_42 (fun x10 h => ?_)
    exact r_iret h d_X11_enter_43
  · refine r_iconst d_X11_enter_17 ic_m1 ?_
    exact r_iret h d_X11_enter_18
/-! X11_ends -/
theorem d_X11_ends_0 : decAL cX11_ends 0 0 1 := Or.inr ⟨0, rfl, by decide +kernel, rfl⟩
theorem d_X11_ends_1 : decIL cX11_ends 1 1 2 := Or.inr ⟨1, rfl, by decide +kernel, rfl⟩
theorem d_X11_ends_2 : dec 1 cX11_ends 2 (.iconst 0) 3 := ⟨by decide +kernel, rfl⟩
theorem d_X11_ends_3 : dec 3 cX11_ends 3 (.invokevirtual 196) 6 := ⟨by decide +kernel, rfl⟩
theorem d_X11_ends_6 : decIS cX11_ends 6 2 7 := Or.inr ⟨2, rfl, by decide +kernel, rfl⟩
theorem d_X11_ends_7 : decAL cX11_ends 7 0 8 := Or.inr ⟨0, rfl, by decide +kernel, rfl⟩
theorem d_X11_ends_8 : dec 3 cX11_ends 8 (.getfield 7) 11 := ⟨by decide +kernel, rfl⟩
theorem d_X11_ends_11 : dec 3 cX11_ends 11 (.sipush 688) 14 := ⟨by decide +kernel, rfl⟩
theorem d_X11_ends_14 : decAL cX11_ends 14 0 15 := Or.inr ⟨0, rfl, by decide +kernel, rfl⟩
theorem d_X11_ends_15 : dec 3 cX11_ends 15 (.getfield 7) 18 := ⟨by decide +kernel, rfl⟩
theorem d_X11_ends_18 : dec 3 cX11_ends 18 (.sipush 687) 21 := ⟨by decide +kernel, rfl⟩
theorem d_X11_ends_21 : dec 1 cX11_ends 21 .iaload 22 := ⟨by decide +kernel, rfl⟩
theorem d_X11_ends_22 : dec 1 cX11_ends 22 .iadd 23 := ⟨by decide +kernel, rfl⟩
theorem d_X11_ends_23 : decIL cX11_ends 23 2 24 := Or.inr ⟨2, rfl, by decide +kernel, rfl⟩
theorem d_X11_ends_24 : dec 1 cX11_ends 24 .iastore 25 := ⟨by decide +kernel, rfl⟩
theorem d_X11_ends_25 : decAL cX11_ends 25 0 26 := Or.inr ⟨0, rfl, by decide +kernel, rfl⟩
theorem d_X11_ends_26 : dec 3 cX11_ends 26 (.getfield 7) 29 := ⟨by decide +kernel, rfl⟩
theorem d_X11_ends_29 : dec 3 cX11_ends 29 (.sipush 687) 32 := ⟨by decide +kernel, rfl⟩
theorem d_X11_ends_32 : dec 1 cX11_ends 32 .dup2 33 := ⟨by decide +kernel, rfl⟩
theorem d_X11_ends_33 : dec 1 cX11_ends 33 .iaload 34 := ⟨by decide +kernel, rfl⟩
theorem d_X11_ends_34 : dec 1 cX11_ends 34 (.iconst 1) 35 := ⟨by decide +kernel, rfl⟩
theorem d_X11_ends_35 : dec 1 cX11_ends 35 .iadd 36 := ⟨by decide +kernel, rfl⟩
theorem d_X11_ends_36 : dec 1 cX11_ends 36 .iastore 37 := ⟨by decide +kernel, rfl⟩
theorem d_X11_ends_37 : decAL cX11_ends 37 0 38 := Or.inr ⟨0, rfl, by decide +kernel, rfl⟩
theorem d_X11_ends_38 : decIL cX11_ends 38 2 39 := Or.inr ⟨2, rfl, by decide +kernel, rfl⟩
theorem d_X11_ends_39 : dec 2 cX11_ends 39 (.bipush 10) 41 := ⟨by decide +kernel, rfl⟩
theorem d_X11_ends_41 : dec 3 cX11_ends 41 (.invokevirtual 76) 44 := ⟨by decide +kernel, rfl⟩
theorem d_X11_ends_44 : dec 1 cX11_ends 44 (.iconst 1) 45 := ⟨by decide +kernel, rfl⟩
theorem d_X11_ends_45 : decB cX11_ends 45 (.if_icmp .ne 33) (33) 48 78 := ⟨by decide +kernel, rfl, by decide⟩
theorem d_X11_ends_48 : decAL cX11_ends 48 0 49 := Or.inr ⟨0, rfl, by decide +kernel, rfl⟩
theorem d_X11_ends_49 : dec 3 cX11_ends 49 (.getfield 7) 52 := ⟨by decide +kernel, rfl⟩
theorem d_X11_ends_52 : dec 3 cX11_ends 52 (.sipush 749) 55 := ⟨by decide +kernel, rfl⟩
theorem d_X11_ends_55 : decAL cX11_ends 55 0 56 := Or.inr ⟨0, rfl, by decide +kernel, rfl⟩
theorem d_X11_ends_56 : dec 3 cX11_ends 56 (.getfield 7) 59 := ⟨by decide +kernel, rfl⟩
theorem d_X11_ends_59 : dec 3 cX11_ends 59 (.sipush 748) 62 := ⟨by decide +kernel, rfl⟩
theorem d_X11_ends_62 : dec 1 cX11_ends 62 .iaload 63 := ⟨by decide +kernel, rfl⟩
theorem d_X11_ends_63 : dec 1 cX11_ends 63 .iadd 64 := ⟨by decide +kernel, rfl⟩
theorem d_X11_ends_64 : decIL cX11_ends 64 2 65 := Or.inr ⟨2, rfl, by decide +kernel, rfl⟩
theorem d_X11_ends_65 : dec 1 cX11_ends 65 .iastore 66 := ⟨by decide +kernel, rfl⟩
theorem d_X11_ends_66 : decAL cX11_ends 66 0 67 := Or.inr ⟨0, rfl, by decide +kernel, rfl⟩
theorem d_X11_ends_67 : dec 3 cX11_ends 67 (.getfield 7) 70 := ⟨by decide +kernel, rfl⟩
theorem d_X11_ends_70 : dec 3 cX11_ends 70 (.sipush 748) 73 := ⟨by decide +kernel, rfl⟩
theorem d_X11_ends_73 : dec 1 cX11_ends 73 .dup2 74 := ⟨by decide +kernel, rfl⟩
theorem d_X11_ends_74 : dec 1 cX11_ends 74 .iaload 75 := ⟨by decide +kernel, rfl⟩
theorem d_X11_ends_75 : dec 1 cX11_ends 75 (.iconst 1) 76 := ⟨by decide +kernel, rfl⟩
theorem d_X11_ends_76 : dec 1 cX11_ends 76 .iadd 77 := ⟨by decide +kernel, rfl⟩
theorem d_X11_ends_77 : dec 1 cX11_ends 77 .iastore 78 := ⟨by decide +kernel, rfl⟩
theorem d_X11_ends_78 : dec 1 cX11_ends 78 .return_ 79 := ⟨by decide +kernel, rfl⟩
def f_X11_ends (F : Nat)  (v0 : Nat) (v1 : Int32) (n : Nat) (G : GH) : Option (Nat × GH) :=
  cvP G v0 11 (f_X11_its F v0 v1 (0 : Int32) G) (fun (x1 : Int32) =>
  Option.bind (gR G v0 11 1) (fun (x2 : Nat) =>
  Option.bind (gR G v0 11 1) (fun (x3 : Nat) =>
  Option.bind (aI G x3 0 (687 : Int32)) (fun (x4 : Int32) =>
  Option.bind (aS G x2 0 ((688 : Int32) + x4) x1) (fun (G5 : GH) =>
  Option.bind (gR G5 v0 11 1) (fun (x6 : Nat) =>
  Option.bind (aI G5 x6 0 (687 : Int32)) (fun (x7 : Int32) =>
  Option.bind (aS G5 x6 0 (687 : Int32) (x7 + (1 : Int32))) (fun (G8 : GH) =>
  cvP G8 v0 11 (f_X11_of F v0 x1 (10 : Int32) G8) (fun (x9 : Int32) =>
  if x9 = (1 : Int32) then
  (Option.bind (gR G8 v0 11 1) (fun (x10 : Nat) =>
  Option.bind (gR G8 v0 11 1) (fun (x11 : Nat) =>
  Option.bind (aI G8 x11 0 (748 : Int32)) (fun (x12 : Int32) =>
  Option.bind (aS G8 x10 0 ((749 : Int32) + x12) x1) (fun (G13 : GH) =>
  Option.bind (gR G13 v0 11 1) (fun (x14 : Nat) =>
  Option.bind (aI G13 x14 0 (748 : Int32)) (fun (x15 : Int32) =>
  Option.bind (aS G13 x14 0 (748 : Int32) (x15 + (1 : Int32))) (fun (G16 : GH) =>
  some (n, G16)))))))))
  else (some (n, G8)))))))))))
set_option maxRecDepth 100000 in
set_option maxHeartbeats 4000000 in
theorem s_X11_ends {E : GE} {F : Nat}  {v0 : Nat} {v1 : Int32} {n : Nat} {G : GH} {z : Nat × GH}  (h : f_X11_ends F  v0 v1 n G = some z) : GM E yX11_ends cX11_ends 3 none 1 22 0 0 [.ref v0, .int v1] n G (none, z.1, z.2) := by
  refine GM.of (by decide) (Nat.le_of_ble_eq_true rfl) ?_
  show WG E RX11 "ends" cX11_ends 3 none 1 22 0 0 0 [(0, .ref v0), (1, .int v1)] [] n G (g_O E (none, z.1, z.2))
  unfold f_X11_ends at h
  refine r_aload d_X11_ends_0 rfl ?_
  refine r_iload d_X11_ends_1 rfl ?_
  refine r_iconst d_X11_ends_2 ic_0 ?_
  refine r_invP [_, _] h (fun _ hq => s_X11_its hq) d_X11_ends_3 pl_X11_196 py_X11_its pi_X11_its rfl rfl rfl (fun x1 h => ?_)
  refine r_istore d_X11_ends_6 rfl rfl ?_
  refine r_aload d_X11_ends_7 rfl ?_
  refine r_getR h d_X11_ends_8 pf_X11_7 (fun x2 h => ?_)
  refine r_sipush d_X11_ends_11 sp_688 ?_
  refine r_aload d_X11_ends_14 rfl ?_
  refine r_getR h d_X11_ends_15 pf_X11_7 (fun x3 h => ?_)
  refine r_sipush d_X11_ends_18 sp_687 ?_
  refine r_iald h d_X11_ends_21 (fun x4 h => ?_)
  refine r_iadd d_X11_ends_22 ?_
  refine r_iload d_X11_ends_23 rfl ?_
  refine r_iast h d_X11_ends_24 (fun G5 h => ?_)
  refine r_aload d_X11_ends_25 rfl ?_
  refine r_getR h d_X11_ends_26 pf_X11_7 (fun x6 h => ?_)
  refine r_sipush d_X11_ends_29 sp_687 ?_
  refine r_dup2 d_X11_ends_32 rfl rfl ?_
  refine r_iald h d_X11_ends_33 (fun x7 h => ?_)
  refine r_iconst d_X11_ends_34 ic_1 ?_
  refine r_iadd d_X11_ends_35 ?_
  refine r_iast h d_X11_ends_36 (fun G8 h => ?_)
  refine r_aload d_X11_ends_37 rfl ?_
  refine r_iload d_X11_ends_38 rfl ?_
  refine r_bipush d_X11_ends_39 bp_10 ?_
  refine r_invP [_, _] h (fun _ hq => s_X11_of hq) d_X11_ends_41 pl_X11_76 py_X11_of pi_X11_of rfl rfl rfl (fun x9 h => ?_)
  refine r_iconst d_X11_ends_44 ic_1 ?_
  refine r_icmp_ne h d_X11_ends_45 (fun h => ?_) (fun h => ?_)
  · exact r_vret h d_X11_ends_78
  · refine r_aload d_X11_ends_48 rfl ?_
    refine r_getR h d_X11_ends_49 pf_X11_7 (fun x10 h => ?_)
    refine r_sipush d_X11_ends_52 sp_749 ?_
    refine r_aload d_X11_ends_55 rfl ?_
    refine r_getR h d_X11_ends_56 pf_X11_7 (fun x11 h => ?_)
    refine r_sipush d_X11_ends_59 sp_748 ?_
    refine r_iald h d_X11_ends_62 (fun x12 h => ?_)
    refine r_iadd d_X11_ends_63 ?_
    refine r_iload d_X11_ends_64 rfl ?_
    refine r_iast h d_X11_ends_65 (fun G13 h => ?_)
    refine r_aload d_X11_ends_66 rfl ?_
    refine r_getR h d_X11_ends_67 pf_X11_7 (fun x14 h => ?_)
    refine r_sipush d_X11_ends_70 sp_748 ?_
    refine r_dup2 d_X11_ends_73 rfl rfl ?_
    refine r_iald h d_X11_ends_74 (fun x15 h => ?_)
    refine r_iconst d_X11_ends_75 ic_1 ?_
    refine r_iadd d_X11_ends_76 ?_
    refine r_iast h d_X11_ends_77 (fun G16 h => ?_)
    exact r_vret h d_X11_ends_78
/-! X11_comesUp -/
theorem pf_X11_57 : pF RX11 57 11 30 := ⟨RX11, TX11, 37, rfl, by decide, rfl, Or.inl (g_in 1175 (by decide +kernel) rfl)⟩
theorem d_X11_comesUp_0 : dec 1 cX11_comesUp 0 (.iconst 0) 1 := ⟨by decide +kernel, rfl⟩
theorem d_X11_comesUp_1 : decIS cX11_comesUp 1 2 2 := Or.inr ⟨2, rfl, by decide +kernel, rfl⟩
theorem d_X11_comesUp_2 : dec 1 cX11_comesUp 2 (.iconst 0) 3 := ⟨by decide +kernel, rfl⟩
theorem d_X11_comesUp_3 : decIS cX11_comesUp 3 3 4 := Or.inr ⟨3, rfl, by decide +kernel, rfl⟩
theorem d_X11_comesUp_4 : decIL cX11_comesUp 4 3 5 := Or.inr ⟨3, rfl, by decide +kernel, rfl⟩
theorem d_X11_comesUp_5 : decAL cX11_comesUp 5 0 6 := Or.inr ⟨0, rfl, by decide +kernel, rfl⟩
theorem d_X11_comesUp_6 : dec 3 cX11_comesUp 6 (.getfield 7) 9 := ⟨by decide +kernel, rfl⟩
theorem d_X11_comesUp_9 : dec 3 cX11_comesUp 9 (.sipush 206) 12 := ⟨by decide +kernel, rfl⟩
theorem d_X11_comesUp_12 : dec 1 cX11_comesUp 12 .iaload 13 := ⟨by decide +kernel, rfl⟩
theorem d_X11_comesUp_13 : decB cX11_comesUp 13 (.if_icmp .ge 92) (92) 16 105 := ⟨by decide +kernel, rfl, by decide⟩
theorem d_X11_comesUp_16 : decAL cX11_comesUp 16 0 17 := Or.inr ⟨0, rfl, by decide +kernel, rfl⟩
theorem d_X11_comesUp_17 : decIL cX11_comesUp 17 3 18 := Or.inr ⟨3, rfl, by decide +kernel, rfl⟩
theorem d_X11_comesUp_18 : dec 1 cX11_comesUp 18 (.iconst 1) 19 := ⟨by decide +kernel, rfl⟩
theorem d_X11_comesUp_19 : dec 3 cX11_comesUp 19 (.invokevirtual 196) 22 := ⟨by decide +kernel, rfl⟩
theorem d_X11_comesUp_22 : decIL cX11_comesUp 22 1 23 := Or.inr ⟨1, rfl, by decide +kernel, rfl⟩
theorem d_X11_comesUp_23 : decB cX11_comesUp 23 (.if_icmp .eq 7) (7) 26 30 := ⟨by decide +kernel, rfl, by decide⟩
theorem d_X11_comesUp_26 : dec 1 cX11_comesUp 26 (.iconst 1) 27 := ⟨by decide +kernel, rfl⟩
theorem d_X11_comesUp_27 : decB cX11_comesUp 27 (.goto 4) (4) 30 31 := ⟨by decide +kernel, rfl, by decide⟩
theorem d_X11_comesUp_30 : dec 1 cX11_comesUp 30 (.iconst 0) 31 := ⟨by decide +kernel, rfl⟩
theorem d_X11_comesUp_31 : decIS cX11_comesUp 31 4 33 := Or.inl ⟨by decide +kernel, rfl⟩
theorem d_X11_comesUp_33 : decAL cX11_comesUp 33 0 34 := Or.inr ⟨0, rfl, by decide +kernel, rfl⟩
theorem d_X11_comesUp_34 : dec 3 cX11_comesUp 34 (.getfield 57) 37 := ⟨by decide +kernel, rfl⟩
theorem d_X11_comesUp_37 : decIL cX11_comesUp 37 3 38 := Or.inr ⟨3, rfl, by decide +kernel, rfl⟩
theorem d_X11_comesUp_38 : decIL cX11_comesUp 38 4 40 := Or.inl ⟨by decide +kernel, rfl⟩
theorem d_X11_comesUp_40 : decB cX11_comesUp 40 (.ifCond .eq 9) (9) 43 49 := ⟨by decide +kernel, rfl, by decide⟩
theorem d_X11_comesUp_43 : decIL cX11_comesUp 43 2 44 := Or.inr ⟨2, rfl, by decide +kernel, rfl⟩
theorem d_X11_comesUp_44 : dec 1 cX11_comesUp 44 (.iconst 1) 45 := ⟨by decide +kernel, rfl⟩
theorem d_X11_comesUp_45 : dec 1 cX11_comesUp 45 .iadd 46 := ⟨by decide +kernel, rfl⟩
theorem d_X11_comesUp_46 : decB cX11_comesUp 46 (.goto 4) (4) 49 50 := ⟨by decide +kernel, rfl, by decide⟩
theorem d_X11_comesUp_49 : dec 1 cX11_comesUp 49 (.iconst 0) 50 := ⟨by decide +kernel, rfl⟩
theorem d_X11_comesUp_50 : dec 1 cX11_comesUp 50 .iastore 51 := ⟨by decide +kernel, rfl⟩
theorem d_X11_comesUp_51 : dec 1 cX11_comesUp 51 (.iconst 0) 52 := ⟨by decide +kernel, rfl⟩
theorem d_X11_comesUp_52 : decIS cX11_comesUp 52 5 54 := Or.inl ⟨by decide +kernel, rfl⟩
theorem d_X11_comesUp_54 : decIL cX11_comesUp 54 5 56 := Or.inl ⟨by decide +kernel, rfl⟩
theorem d_X11_comesUp_56 : dec 2 cX11_comesUp 56 (.bipush 8) 58 := ⟨by decide +kernel, rfl⟩
theorem d_X11_comesUp_58 : decB cX11_comesUp 58 (.if_icmp .ge 28) (28) 61 86 := ⟨by decide +kernel, rfl, by decide⟩
theorem d_X11_comesUp_61 : decIL cX11_comesUp 61 4 63 := Or.inl ⟨by decide +kernel, rfl⟩
theorem d_X11_comesUp_63 : decB cX11_comesUp 63 (.ifCond .eq 23) (23) 66 86 := ⟨by decide +kernel, rfl, by decide⟩
theorem d_X11_comesUp_66 : decAL cX11_comesUp 66 0 67 := Or.inr ⟨0, rfl, by decide +kernel, rfl⟩
theorem d_X11_comesUp_67 : decIL cX11_comesUp 67 2 68 := Or.inr ⟨2, rfl, by decide +kernel, rfl⟩
theorem d_X11_comesUp_68 : decIL cX11_comesUp 68 5 70 := Or.inl ⟨by decide +kernel, rfl⟩
theorem d_X11_comesUp_70 : decAL cX11_comesUp 70 0 71 := Or.inr ⟨0, rfl, by decide +kernel, rfl⟩
theorem d_X11_comesUp_71 : decIL cX11_comesUp 71 3 72 := Or.inr ⟨3, rfl, by decide +kernel, rfl⟩
theorem d_X11_comesUp_72 : decIL cX11_comesUp 72 5 74 := Or.inl ⟨by decide +kernel, rfl⟩
theorem d_X11_comesUp_74 : dec 3 cX11_comesUp 74 (.invokevirtual 196) 77 := ⟨by decide +kernel, rfl⟩
theorem d_X11_comesUp_77 : dec 3 cX11_comesUp 77 (.invokevirtual 221) 80 := ⟨by decide +kernel, rfl⟩
theorem d_X11_comesUp_80 : dec 3 cX11_comesUp 80 (.iinc 5 1) 83 := ⟨by decide +kernel, rfl⟩
theorem d_X11_comesUp_83 : decB cX11_comesUp 83 (.goto (-29)) (-29) 86 54 := ⟨by decide +kernel, rfl, by decide⟩
theorem d_X11_comesUp_86 : decIL cX11_comesUp 86 2 87 := Or.inr ⟨2, rfl, by decide +kernel, rfl⟩
theorem d_X11_comesUp_87 : decIL cX11_comesUp 87 4 89 := Or.inl ⟨by decide +kernel, rfl⟩
theorem d_X11_comesUp_89 : decB cX11_comesUp 89 (.ifCond .eq 7) (7) 92 96 := ⟨by decide +kernel, rfl, by decide⟩
theorem d_X11_comesUp_92 : dec 1 cX11_comesUp 92 (.iconst 1) 93 := ⟨by decide +kernel, rfl⟩
theorem d_X11_comesUp_93 : decB cX11_comesUp 93 (.goto 4) (4) 96 97 := ⟨by decide +kernel, rfl, by decide⟩
theorem d_X11_comesUp_96 : dec 1 cX11_comesUp 96 (.iconst 0) 97 := ⟨by decide +kernel, rfl⟩
theorem d_X11_comesUp_97 : dec 1 cX11_comesUp 97 .iadd 98 := ⟨by decide +kernel, rfl⟩
theorem d_X11_comesUp_98 : decIS cX11_comesUp 98 2 99 := Or.inr ⟨2, rfl, by decide +kernel, rfl⟩
theorem d_X11_comesUp_99 : dec 3 cX11_comesUp 99 (.iinc 3 1) 102 := ⟨by decide +kernel, rfl⟩
theorem d_X11_comesUp_102 : decB cX11_comesUp 102 (.goto (-98)) (-98) 105 4 := ⟨by decide +kernel, rfl, by decide⟩
theorem d_X11_comesUp_105 : decAL cX11_comesUp 105 0 106 := Or.inr ⟨0, rfl, by decide +kernel, rfl⟩
theorem d_X11_comesUp_106 : dec 3 cX11_comesUp 106 (.getfield 7) 109 := ⟨by decide +kernel, rfl⟩
theorem d_X11_comesUp_109 : dec 3 cX11_comesUp 109 (.sipush 206) 112 := ⟨by decide +kernel, rfl⟩
theorem d_X11_comesUp_112 : decIL cX11_comesUp 112 2 113 := Or.inr ⟨2, rfl, by decide +kernel, rfl⟩
theorem d_X11_comesUp_113 : dec 1 cX11_comesUp 113 .iastore 114 := ⟨by decide +kernel, rfl⟩
theorem d_X11_comesUp_114 : dec 1 cX11_comesUp 114 (.iconst 0) 115 := ⟨by decide +kernel, rfl⟩
theorem d_X11_comesUp_115 : decIS cX11_comesUp 115 3 116 := Or.inr ⟨3, rfl, by decide +kernel, rfl⟩
theorem d_X11_comesUp_116 : decIL cX11_comesUp 116 3 117 := Or.inr ⟨3, rfl, by decide +kernel, rfl⟩
theorem d_X11_comesUp_117 : decIL cX11_comesUp 117 2 118 := Or.inr ⟨2, rfl, by decide +kernel, rfl⟩
theorem d_X11_comesUp_118 : decB cX11_comesUp 118 (.if_icmp .ge 62) (62) 121 180 := ⟨by decide +kernel, rfl, by decide⟩
theorem d_X11_comesUp_121 : dec 1 cX11_comesUp 121 (.iconst 0) 122 := ⟨by decide +kernel, rfl⟩
theorem d_X11_comesUp_122 : decIS cX11_comesUp 122 4 124 := Or.inl ⟨by decide +kernel, rfl⟩
theorem d_X11_comesUp_124 : decIL cX11_comesUp 124 4 126 := Or.inl ⟨by decide +kernel, rfl⟩
theorem d_X11_comesUp_126 : dec 1 cX11_comesUp 126 (.iconst 4) 127 := ⟨by decide +kernel, rfl⟩
theorem d_X11_comesUp_127 : decB cX11_comesUp 127 (.if_icmp .ge 47) (47) 130 174 := ⟨by decide +kernel, rfl, by decide⟩
theorem d_X11_comesUp_130 : decAL cX11_comesUp 130 0 131 := Or.inr ⟨0, rfl, by decide +kernel, rfl⟩
theorem d_X11_comesUp_131 : decIL cX11_comesUp 131 3 132 := Or.inr ⟨3, rfl, by decide +kernel, rfl⟩
theorem d_X11_comesUp_132 : dec 1 cX11_comesUp 132 (.iconst 4) 133 := ⟨by decide +kernel, rfl⟩
theorem d_X11_comesUp_133 : decIL cX11_comesUp 133 4 135 := Or.inl ⟨by decide +kernel, rfl⟩
theorem d_X11_comesUp_135 : dec 1 cX11_comesUp 135 .iadd 136 := ⟨by decide +kernel, rfl⟩
theorem d_X11_comesUp_136 : dec 3 cX11_comesUp 136 (.invokevirtual 196) 139 := ⟨by decide +kernel, rfl⟩
theorem d_X11_comesUp_139 : decIS cX11_comesUp 139 5 141 := Or.inl ⟨by decide +kernel, rfl⟩
theorem d_X11_comesUp_141 : decAL cX11_comesUp 141 0 142 := Or.inr ⟨0, rfl, by decide +kernel, rfl⟩
theorem d_X11_comesUp_142 : decIL cX11_comesUp 142 3 143 := Or.inr ⟨3, rfl, by decide +kernel, rfl⟩
theorem d_X11_comesUp_143 : dec 1 cX11_comesUp 143 (.iconst 4) 144 := ⟨by decide +kernel, rfl⟩
theorem d_X11_comesUp_144 : decIL cX11_comesUp 144 4 146 := Or.inl ⟨by decide +kernel, rfl⟩
theorem d_X11_comesUp_146 : dec 1 cX11_comesUp 146 .iadd 147 := ⟨by decide +kernel, rfl⟩
theorem d_X11_comesUp_147 : decIL cX11_comesUp 147 5 149 := Or.inl ⟨by decide +kernel, rfl⟩
theorem d_X11_comesUp_149 : decB cX11_comesUp 149 (.ifCond .ne 7) (7) 152 156 := ⟨by decide +kernel, rfl, by decide⟩
theorem d_X11_comesUp_152 : dec 1 cX11_comesUp 152 (.iconst 0) 153 := ⟨by decide +kernel, rfl⟩
theorem d_X11_comesUp_153 : decB cX11_comesUp 153 (.goto 12) (12) 156 165 := ⟨by decide +kernel, rfl, by decide⟩
theorem d_X11_comesUp_156 : decAL cX11_comesUp 156 0 157 := Or.inr ⟨0, rfl, by decide +kernel, rfl⟩
theorem d_X11_comesUp_157 : dec 3 cX11_comesUp 157 (.getfield 57) 160 := ⟨by decide +kernel, rfl⟩
theorem d_X11_comesUp_160 : decIL cX11_comesUp 160 5 162 := Or.inl ⟨by decide +kernel, rfl⟩
theorem d_X11_comesUp_162 : dec 1 cX11_comesUp 162 (.iconst 1) 163 := ⟨by decide +kernel, rfl⟩
theorem d_X11_comesUp_163 : dec 1 cX11_comesUp 163 .isub 164 := ⟨by decide +kernel, rfl⟩
theorem d_X11_comesUp_164 : dec 1 cX11_comesUp 164 .iaload 165 := ⟨by decide +kernel, rfl⟩
theorem d_X11_comesUp_165 : dec 3 cX11_comesUp 165 (.invokevirtual 221) 168 := ⟨by decide +kernel, rfl⟩
theorem d_X11_comesUp_168 : dec 3 cX11_comesUp 168 (.iinc 4 1) 171 := ⟨by decide +kernel, rfl⟩
theorem d_X11_comesUp_171 : decB cX11_comesUp 171 (.goto (-47)) (-47) 174 124 := ⟨by decide +kernel, rfl, by decide⟩
theorem d_X11_comesUp_174 : dec 3 cX11_comesUp 174 (.iinc 3 1) 177 := ⟨by decide +kernel, rfl⟩
theorem d_X11_comesUp_177 : decB cX11_comesUp 177 (.goto (-61)) (-61) 180 116 := ⟨by decide +kernel, rfl, by decide⟩
theorem d_X11_comesUp_180 : dec 1 cX11_comesUp 180 .return_ 181 := ⟨by decide +kernel, rfl⟩
def b_X11_comesUp_124 (F : Nat)  (rec116 : Int32 → Nat → GH → Option (Nat × GH)) (v0 : Nat) (v2 : Int32) (v3 : Int32) (rec124 : Int32 → Nat → GH → Option (Nat × GH)) : Int32 → Nat → GH → Option (Nat × GH) := fun v4 n G =>
  if (4 : Int32) ≤ v4 then
  (rec116 (v3 + 1) n G)
  else (cvP G v0 11 (f_X11_its F v0 v3 ((4 : Int32) + v4) G) (fun (x5 : Int32) =>
  if x5 = 0 then
  (cvU G v0 11 (f_X11_itIs F v0 v3 ((4 : Int32) + v4) (0 : Int32) n G) (fun (n10 : Nat) (G11 : GH) =>
  rec124 (v4 + 1) n10 G11))
  else (Option.bind (gR G v0 11 30) (fun (x6 : Nat) =>
  Option.bind (aI G x6 0 (x5 - (1 : Int32))) (fun (x7 : Int32) =>
  cvU G v0 11 (f_X11_itIs F v0 v3 ((4 : Int32) + v4) x7 n G) (fun (n8 : Nat) (G9 : GH) =>
  rec124 (v4 + 1) n8 G9))))))
def b_X11_comesUp_116 (F : Nat)   (v0 : Nat) (v2 : Int32) (rec116 : Int32 → Nat → GH → Option (Nat × GH)) : Int32 → Nat → GH → Option (Nat × GH) := fun v3 n G =>
  if v2 ≤ v3 then
  (some (n, G))
  else (fixN (fun _ _ _ => none) (b_X11_comesUp_124 F  rec116 v0 v2 v3) F (0 : Int32) n G)
def k_X11_comesUp_105 (F : Nat)   (v0 : Nat) (v2 : Int32)  (n : Nat) (G : GH) : Option (Nat × GH) :=
  Option.bind (gR G v0 11 1) (fun (x3 : Nat) =>
  Option.bind (aS G x3 0 (206 : Int32) v2) (fun (G4 : GH) =>
  fixN (fun _ _ _ => none) (b_X11_comesUp_116 F   v0 v2) F (0 : Int32) n G4))
def k_X11_comesUp_86 (F : Nat)  (rec4 : Int32 → Int32 → Nat → GH → Option (Nat × GH)) (v0 : Nat) (v1 : Int32) (v2 : Int32) (v3 : Int32) (v4 : Int32)  (n : Nat) (G : GH) : Option (Nat × GH) :=
  if v4 = 0 then
  (gnm (v2 + (0 : Int32)) (fun (y15 : Int32) =>
  rec4 y15 (v3 + 1) n G))
  else (gnm (v2 + (1 : Int32)) (fun (y16 : Int32) =>
  rec4 y16 (v3 + 1) n G))
def b_X11_comesUp_54 (F : Nat)  (rec4 : Int32 → Int32 → Nat → GH → Option (Nat × GH)) (v0 : Nat) (v1 : Int32) (v2 : Int32) (v3 : Int32) (v4 : Int32) (rec54 : Int32 → Nat → GH → Option (Nat × GH)) : Int32 → Nat → GH → Option (Nat × GH) := fun v5 n G =>
  if (8 : Int32) ≤ v5 then
  (k_X11_comesUp_86 F  rec4 v0 v1 v2 v3 v4 n G)
  else (if v4 = 0 then
  (k_X11_comesUp_86 F  rec4 v0 v1 v2 v3 v4 n G)
  else (cvP G v0 11 (f_X11_its F v0 v3 v5 G) (fun (x17 : Int32) =>
  cvU G v0 11 (f_X11_itIs F v0 v2 v5 x17 n G) (fun (n18 : Nat) (G19 : GH) =>
  rec54 (v5 + 1) n18 G19))))
def k_X11_comesUp_50 (F : Nat)  (rec4 : Int32 → Int32 → Nat → GH → Option (Nat × GH)) (v0 : Nat) (v1 : Int32) (v2 : Int32) (v3 : Int32) (v4 : Int32) (s0 : Nat) (s1 : Int32) (s2 : Int32) (n : Nat) (G : GH) : Option (Nat × GH) :=
  Option.bind (aS G s0 0 s1 s2) (fun (G14 : GH) =>
  fixN (fun _ _ _ => none) (b_X11_comesUp_54 F  rec4 v0 v1 v2 v3 v4) F (0 : Int32) n G14)
def k_X11_comesUp_31 (F : Nat)  (rec4 : Int32 → Int32 → Nat → GH → Option (Nat × GH)) (v0 : Nat) (v1 : Int32) (v2 : Int32) (v3 : Int32) (s0 : Int32) (n : Nat) (G : GH) : Option (Nat × GH) :=
  Option.bind (gR G v0 11 30) (fun (x13 : Nat) =>
  if s0 = 0 then
  (k_X11_comesUp_50 F  rec4 v0 v1 v2 v3 s0 x13 v3 (0 : Int32) n G)
  else (k_X11_comesUp_50 F  rec4 v0 v1 v2 v3 s0 x13 v3 (v2 + (1 : Int32)) n G))
def b_X11_comesUp_4 (F : Nat)   (v0 : Nat) (v1 : Int32) (rec4 : Int32 → Int32 → Nat → GH → Option (Nat × GH)) : Int32 → Int32 → Nat → GH → Option (Nat × GH) := fun v2 v3 n G =>
  Option.bind (gR G v0 11 1) (fun (x1 : Nat) =>
  Option.bind (aI G x1 0 (206 : Int32)) (fun (x2 : Int32) =>
  if x2 ≤ v3 then
  (k_X11_comesUp_105 F   v0 v2 n G)
  else (cvP G v0 11 (f_X11_its F v0 v3 (1 : Int32) G) (fun (x12 : Int32) =>
  if x12 = v1 then
  (k_X11_comesUp_31 F  rec4 v0 v1 v2 v3 (0 : Int32) n G)
  else (k_X11_comesUp_31 F  rec4 v0 v1 v2 v3 (1 : Int32) n G)))))
def f_X11_comesUp (F : Nat)  (v0 : Nat) (v1 : Int32) (n : Nat) (G : GH) : Option (Nat × GH) :=
  fixN (fun _ _ _ _ => none) (b_X11_comesUp_4 F   v0 v1) F (0 : Int32) (0 : Int32) n G
set_option maxRecDepth 100000 in
set_option maxHeartbeats 4000000 in
theorem l_X11_comesUp_124 {E : GE} {F : Nat}  {rec116 : Int32 → Nat → GH → Option (Nat × GH)} {v0 : Nat} {v2 : Int32} {v3 : Int32}  (hrec116 : ∀ (w3 : Int32) (n : Nat) (G : GH) (z : Nat × GH), rec116 w3 n G = some z → WG E RX11 "comesUp" cX11_comesUp 6 none 1 23 0 0 116 [(0, .ref v0), (2, .int v2), (3, .int w3)] [] n G (g_O E (none, z.1, z.2))) : ∀ (K : Nat) (v4 : Int32) (n : Nat) (G : GH) (z : Nat × GH), fixN ((fun _ _ _ => none) : Int32 → Nat → GH → Option (Nat × GH)) (b_X11_comesUp_124 F  rec116 v0 v2 v3) K v4 n G = some z → WG E RX11 "comesUp" cX11_comesUp 6 none 1 23 0 0 124 [(0, .ref v0), (2, .int v2), (3, .int v3), (4, .int v4)] [] n G (g_O E (none, z.1, z.2)) := by
  intro K
  refine fixN_ind (P := fun (r : Int32 → Nat → GH → Option (Nat × GH)) => ∀ (v4 : Int32) (n : Nat) (G : GH) (z : Nat × GH), r v4 n G = some z → WG E RX11 "comesUp" cX11_comesUp 6 none 1 23 0 0 124 [(0, .ref v0), (2, .int v2), (3, .int v3), (4, .int v4)] [] n G (g_O E (none, z.1, z.2))) ?_ ?_ K
  · intro v4 n G z h
    cases h
  · intro rec124 hrec124 v4 n G z h
    unfold b_X11_comesUp_124 at h
    refine r_iload d_X11_comesUp_124 rfl ?_
    refine r_iconst d_X11_comesUp_126 ic_4 ?_
    refine r_icmp_ge h d_X11_comesUp_127 (fun h => ?_) (fun h => ?_)
    · refine r_iinc d_X11_comesUp_174 rfl (ii_1 _) rfl rfl ?_
      refine r_goto d_X11_comesUp_177 ?_
      refine r_lv [(0, .ref v0), (2, .int v2), (3, .int (v3 + 1))] (g_allc rfl (g_allc rfl (g_allc rfl g_alln))) ?_
      exact hrec116 _ _ _ _ h
    · refine r_aload d_X11_comesUp_130 rfl ?_
      refine r_iload d_X11_comesUp_131 rfl ?_
      refine r_iconst d_X11_comesUp_132 ic_4 ?_
      refine r_iload d_X11_comesUp_133 rfl ?_
      refine r_iadd d_X11_comesUp_135 ?_
      refine r_invP [_, _] h (fun _ hq => s_X11_its hq) d_X11_comesUp_136 pl_X11_196 py_X11_its pi_X11_its rfl rfl rfl (fun x5 h => ?_)
      refine r_istore d_X11_comesUp_139 rfl rfl ?_
      refine r_aload d_X11_comesUp_141 rfl ?_
      refine r_iload d_X11_comesUp_142 rfl ?_
      refine r_iconst d_X11_comesUp_143 ic_4 ?_
      refine r_iload d_X11_comesUp_144 rfl ?_
      refine r_iadd d_X11_comesUp_146 ?_
      refine r_iload d_X11_comesUp_147 rfl ?_
      refine r_if_ne h d_X11_comesUp_149 (fun h => ?_) (fun h => ?_)
      · refine r_aload d_X11_comesUp_156 rfl ?_
        refine r_getR h d_X11_comesUp_157 pf_X11_57 (fun x6 h => ?_)
        refine r_iload d_X11_comesUp_160 rfl ?_
        refine r_iconst d_X11_comesUp_162 ic_1 ?_
        refine r_isub d_X11_comesUp_163 ?_
        refine r_iald h d_X11_comesUp_164 (fun x7 h => ?_)
        refine r_invU [_, _, _] h (fun _ hq => s_X11_itIs hq) d_X11_comesUp_165 pl_X11_221 py_X11_itIs pi_X11_itIs rfl rfl rfl (fun n8 G9 h => ?_)
        refine r_iinc d_X11_comesUp_168 rfl (ii_1 _) rfl rfl ?_
        refine r_goto d_X11_comesUp_171 ?_
        refine r_lv [(0, .ref v0), (2, .int v2), (3, .int v3), (4, .int (v4 + 1))] (g_allc rfl (g_allc rfl (g_allc rfl (g_allc rfl g_alln)))) ?_
        exact hrec124 _ _ _ _ h
      · refine r_iconst d_X11_comesUp_152 ic_0 ?_
        refine r_goto d_X11_comesUp_153 ?_
        refine r_invU [_, _, _] h (fun _ hq => s_X11_itIs hq) d_X11_comesUp_165 pl_X11_221 py_X11_itIs pi_X11_itIs rfl rfl rfl (fun n10 G11 h => ?_)
        refine r_iinc d_X11_comesUp_168 rfl (ii_1 _) rfl rfl ?_
        refine r_goto d_X11_comesUp_171 ?_
        refine r_lv [(0, .ref v0), (2, .int v2), (3, .int v3), (4, .int (v4 + 1))] (g_allc rfl (g_allc rfl (g_allc rfl (g_allc rfl g_alln)))) ?_
        exact hrec124 _ _ _ _ h
set_option maxRecDepth 100000 in
set_option maxHeartbeats 4000000 in
theorem l_X11_comesUp_116 {E : GE} {F : Nat}   {v0 : Nat} {v2 : Int32}   : ∀ (K : Nat) (v3 : Int32) (n : Nat) (G : GH) (z : Nat × GH), fixN ((fun _ _ _ => none) : Int32 → Nat → GH → Option (Nat × GH)) (b_X11_comesUp_116 F   v0 v2) K v3 n G = some z → WG E RX11 "comesUp" cX11_comesUp 6 none 1 23 0 0 116 [(0, .ref v0), (2, .int v2), (3, .int v3)] [] n G (g_O E (none, z.1, z.2)) := by
  intro K
  refine fixN_ind (P := fun (r : Int32 → Nat → GH → Option (Nat × GH)) => ∀ (v3 : Int32) (n : Nat) (G : GH) (z : Nat × GH), r v3 n G = some z → WG E RX11 "comesUp" cX11_comesUp 6 none 1 23 0 0 116 [(0, .ref v0), (2, .int v2), (3, .int v3)] [] n G (g_O E (none, z.1, z.2))) ?_ ?_ K
  · intro v3 n G z h
    cases h
  · intro rec116 hrec116 v3 n G z h
    unfold b_X11_comesUp_116 at h
    refine r_iload d_X11_comesUp_116 rfl ?_
    refine r_iload d_X11_comesUp_117 rfl ?_
    refine r_icmp_ge h d_X11_comesUp_118 (fun h => ?_) (fun h => ?_)
    · exact r_vret h d_X11_comesUp_180
    · refine r_iconst d_X11_comesUp_121 ic_0 ?_
      refine r_istore d_X11_comesUp_122 rfl rfl ?_
      refine r_lv [(0, .ref v0), (2, .int v2), (3, .int v3), (4, .int (0 : Int32))] (g_allc rfl (g_allc rfl (g_allc rfl (g_allc rfl g_alln)))) ?_
      exact l_X11_comesUp_124  hrec116 _ _ _ _ _ h
set_option maxRecDepth 100000 in
set_option maxHeartbeats 4000000 in
theorem c_X11_comesUp_105 {E : GE} {F : Nat}   {v0 : Nat} {v2 : Int32}  {n : Nat} {G : GH} {z : Nat × GH}   (h : k_X11_comesUp_105 F   v0 v2  n G = some z) : WG E RX11 "comesUp" cX11_comesUp 6 none 1 23 0 0 105 [(0, .ref v0), (2, .int v2)] [] n G (g_O E (none, z.1, z.2)) := by
  unfold k_X11_comesUp_105 at h
  refine r_aload d_X11_comesUp_105 rfl ?_
  refine r_getR h d_X11_comesUp_106 pf_X11_7 (fun x3 h => ?_)
  refine r_sipush d_X11_comesUp_109 sp_206 ?_
  refine r_iload d_X11_comesUp_112 rfl ?_
  refine r_iast h d_X11_comesUp_113 (fun G4 h => ?_)
  refine r_iconst d_X11_comesUp_114 ic_0 ?_
  refine r_istore d_X11_comesUp_115 rfl rfl ?_
  refine r_lv [(0, .ref v0), (2, .int v2), (3, .int (0 : Int32))] (g_allc rfl (g_allc rfl (g_allc rfl g_alln))) ?_
  exact l_X11_comesUp_116   _ _ _ _ _ h
set_option maxRecDepth 100000 in
set_option maxHeartbeats 4000000 in
theorem c_X11_comesUp_86 {E : GE} {F : Nat}  {rec4 : Int32 → Int32 → Nat → GH → Option (Nat × GH)} {v0 : Nat} {v1 : Int32} {v2 : Int32} {v3 : Int32} {v4 : Int32}  {n : Nat} {G : GH} {z : Nat × GH}  (hrec4 : ∀ (w2 : Int32) (w3 : Int32) (n : Nat) (G : GH) (z : Nat × GH), rec4 w2 w3 n G = some z → WG E RX11 "comesUp" cX11_comesUp 6 none 1 23 0 0 4 [(0, .ref v0), (1, .int v1), (2, .int w2), (3, .int w3)] [] n G (g_O E (none, z.1, z.2))) (h : k_X11_comesUp_86 F  rec4 v0 v1 v2 v3 v4  n G = some z) : WG E RX11 "comesUp" cX11_comesUp 6 none 1 23 0 0 86 [(0, .ref v0), (1, .int v1), (2, .int v2), (3, .int v3), (4, .int v4)] [] n G (g_O E (none, z.1, z.2)) := by
  unfold k_X11_comesUp_86 at h
  refine r_iload d_X11_comesUp_86 rfl ?_
  refine r_iload d_X11_comesUp_87 rfl ?_
  refine r_if_eq h d_X11_comesUp_89 (fun h => ?_) (fun h => ?_)
  · refine r_iconst d_X11_comesUp_96 ic_0 ?_
    refine r_iadd d_X11_comesUp_97 ?_
    refine r_nmI h (fun y15 _ h => ?_)
    refine r_istore d_X11_comesUp_98 rfl rfl ?_
    refine r_iinc d_X11_comesUp_99 rfl (ii_1 _) rfl rfl ?_
    refine r_goto d_X11_comesUp_102 ?_
    refine r_lv [(0, .ref v0), (1, .int v1), (2, .int y15), (3, .int (v3 + 1))] (g_allc rfl (g_allc rfl (g_allc rfl (g_allc rfl g_alln)))) ?_
    exact hrec4 _ _ _ _ _ h
  · refine r_iconst d_X11_comesUp_92 ic_1 ?_
    refine r_goto d_X11_comesUp_93 ?_
    refine r_iadd d_X11_comesUp_97 ?_
    refine r_nmI h (fun y16 _ h => ?_)
    refine r_istore d_X11_comesUp_98 rfl rfl ?_
    refine r_iinc d_X11_comesUp_99 rfl (ii_1 _) rfl rfl ?_
    refine r_goto d_X11_comesUp_102 ?_
    refine r_lv [(0, .ref v0), (1, .int v1), (2, .int y16), (3, .int (v3 + 1))] (g_allc rfl (g_allc rfl (g_allc rfl (g_allc rfl g_alln)))) ?_
    exact hrec4 _ _ _ _ _ h
set_option maxRecDepth 100000 in
set_option maxHeartbeats 4000000 in
theorem l_X11_comesUp_54 {E : GE} {F : Nat}  {rec4 : Int32 → Int32 → Nat → GH → Option (Nat × GH)} {v0 : Nat} {v1 : Int32} {v2 : Int32} {v3 : Int32} {v4 : Int32}  (hrec4 : ∀ (w2 : Int32) (w3 : Int32) (n : Nat) (G : GH) (z : Nat × GH), rec4 w2 w3 n G = some z → WG E RX11 "comesUp" cX11_comesUp 6 none 1 23 0 0 4 [(0, .ref v0), (1, .int v1), (2, .int w2), (3, .int w3)] [] n G (g_O E (none, z.1, z.2))) : ∀ (K : Nat) (v5 : Int32) (n : Nat) (G : GH) (z : Nat × GH), fixN ((fun _ _ _ => none) : Int32 → Nat → GH → Option (Nat × GH)) (b_X11_comesUp_54 F  rec4 v0 v1 v2 v3 v4) K v5 n G = some z → WG E RX11 "comesUp" cX11_comesUp 6 none 1 23 0 0 54 [(0, .ref v0), (1, .int v1), (2, .int v2), (3, .int v3), (4, .int v4), (5, .int v5)] [] n G (g_O E (none, z.1, z.2)) := by
  intro K
  refine fixN_ind (P := fun (r : Int32 → Nat → GH → Option (Nat × GH)) => ∀ (v5 : Int32) (n : Nat) (G : GH) (z : Nat × GH), r v5 n G = some z → WG E RX11 "comesUp" cX11_comesUp 6 none 1 23 0 0 54 [(0, .ref v0), (1, .int v1), (2, .int v2), (3, .int v3), (4, .int v4), (5, .int v5)] [] n G (g_O E (none, z.1, z.2))) ?_ ?_ K
  · intro v5 n G z h
    cases h
  · intro rec54 hrec54 v5 n G z h
    unfold b_X11_comesUp_54 at h
    refine r_iload d_X11_comesUp_54 rfl ?_
    refine r_bipush d_X11_comesUp_56 bp_8 ?_
    refine r_icmp_ge h d_X11_comesUp_58 (fun h => ?_) (fun h => ?_)
    · refine r_lv [(0, .ref v0), (1, .int v1), (2, .int v2), (3, .int v3), (4, .int v4)] (g_allc rfl (g_allc rfl (g_allc rfl (g_allc rfl (g_allc rfl g_alln))))) ?_
      exact c_X11_comesUp_86  hrec4 h
    · refine r_iload d_X11_comesUp_61 rfl ?_
      refine r_if_eq h d_X11_comesUp_63 (fun h => ?_) (fun h => ?_)
      · refine r_lv [(0, .ref v0), (1, .int v1), (2, .int v2), (3, .int v3), (4, .int v4)] (g_allc rfl (g_allc rfl (g_allc rfl (g_allc rfl (g_allc rfl g_alln))))) ?_
        exact c_X11_comesUp_86  hrec4 h
      · refine r_aload d_X11_comesUp_66 rfl ?_
        refine r_iload d_X11_comesUp_67 rfl ?_
        refine r_iload d_X11_comesUp_68 rfl ?_
        refine r_aload d_X11_comesUp_70 rfl ?_
        refine r_iload d_X11_comesUp_71 rfl ?_
        refine r_iload d_X11_comesUp_72 rfl ?_
        refine r_invP [_, _] h (fun _ hq => s_X11_its hq) d_X11_comesUp_74 pl_X11_196 py_X11_its pi_X11_its rfl rfl rfl (fun x17 h => ?_)
        refine r_invU [_, _, _] h (fun _ hq => s_X11_itIs hq) d_X11_comesUp_77 pl_X11_221 py_X11_itIs pi_X11_itIs rfl rfl rfl (fun n18 G19 h => ?_)
        refine r_iinc d_X11_comesUp_80 rfl (ii_1 _) rfl rfl ?_
        refine r_goto d_X11_comesUp_83 ?_
        refine r_lv [(0, .ref v0), (1, .int v1), (2, .int v2), (3, .int v3), (4, .int v4), (5, .int (v5 + 1))] (g_allc rfl (g_allc rfl (g_allc rfl (g_allc rfl (g_allc rfl (g_allc rfl g_alln)))))) ?_
        exact hrec54 _ _ _ _ h
set_option maxRecDepth 100000 in
set_option maxHeartbeats 4000000 in
theorem c_X11_comesUp_50 {E : GE} {F : Nat}  {rec4 : Int32 → Int32 → Nat → GH → Option (Nat × GH)} {v0 : Nat} {v1 : Int32} {v2 : Int32} {v3 : Int32} {v4 : Int32} {s0 : Nat} {s1 : Int32} {s2 : Int32} {n : Nat} {G : GH} {z : Nat × GH}  (hrec4 : ∀ (w2 : Int32) (w3 : Int32) (n : Nat) (G : GH) (z : Nat × GH), rec4 w2 w3 n G = some z → WG E RX11 "comesUp" cX11_comesUp 6 none 1 23 0 0 4 [(0, .ref v0), (1, .int v1), (2, .int w2), (3, .int w3)] [] n G (g_O E (none, z.1, z.2))) (h : k_X11_comesUp_50 F  rec4 v0 v1 v2 v3 v4 s0 s1 s2 n G = some z) : WG E RX11 "comesUp" cX11_comesUp 6 none 1 23 0 0 50 [(0, .ref v0), (1, .int v1), (2, .int v2), (3, .int v3), (4, .int v4)] [.int s2, .int s1, .ref s0] n G (g_O E (none, z.1, z.2)) := by
  unfold k_X11_comesUp_50 at h
  refine r_iast h d_X11_comesUp_50 (fun G14 h => ?_)
  refine r_iconst d_X11_comesUp_51 ic_0 ?_
  refine r_istore d_X11_comesUp_52 rfl rfl ?_
  refine r_lv [(0, .ref v0), (1, .int v1), (2, .int v2), (3, .int v3), (4, .int v4), (5, .int (0 : Int32))] (g_allc rfl (g_allc rfl (g_allc rfl (g_allc rfl (g_allc rfl (g_allc rfl g_alln)))))) ?_
  exact l_X11_comesUp_54  hrec4 _ _ _ _ _ h
set_option maxRecDepth 100000 in
set_option maxHeartbeats 4000000 in
theorem c_X11_comesUp_31 {E : GE} {F : Nat}  {rec4 : Int32 → Int32 → Nat → GH → Option (Nat × GH)} {v0 : Nat} {v1 : Int32} {v2 : Int32} {v3 : Int32} {s0 : Int32} {n : Nat} {G : GH} {z : Nat × GH}  (hrec4 : ∀ (w2 : Int32) (w3 : Int32) (n : Nat) (G : GH) (z : Nat × GH), rec4 w2 w3 n G = some z → WG E RX11 "comesUp" cX11_comesUp 6 none 1 23 0 0 4 [(0, .ref v0), (1, .int v1), (2, .int w2), (3, .int w3)] [] n G (g_O E (none, z.1, z.2))) (h : k_X11_comesUp_31 F  rec4 v0 v1 v2 v3 s0 n G = some z) : WG E RX11 "comesUp" cX11_comesUp 6 none 1 23 0 0 31 [(0, .ref v0), (1, .int v1), (2, .int v2), (3, .int v3)] [.int s0] n G (g_O E (none, z.1, z.2)) := by
  unfold k_X11_comesUp_31 at h
  refine r_istore d_X11_comesUp_31 rfl rfl ?_
  refine r_aload d_X11_comesUp_33 rfl ?_
  refine r_getR h d_X11_comesUp_34 pf_X11_57 (fun x13 h => ?_)
  refine r_iload d_X11_comesUp_37 rfl ?_
  refine r_iload d_X11_comesUp_38 rfl ?_
  refine r_if_eq h d_X11_comesUp_40 (fun h => ?_) (fun h => ?_)
  · refine r_iconst d_X11_comesUp_49 ic_0 ?_
    refine r_lv [(0, .ref v0), (1, .int v1), (2, .int v2), (3, .int v3), (4, .int s0)] (g_allc rfl (g_allc rfl (g_allc rfl (g_allc rfl (g_allc rfl g_alln))))) ?_
    exact c_X11_comesUp_50  hrec4 h
  · refine r_iload d_X11_comesUp_43 rfl ?_
    refine r_iconst d_X11_comesUp_44 ic_1 ?_
    refine r_iadd d_X11_comesUp_45 ?_
    refine r_goto d_X11_comesUp_46 ?_
    refine r_lv [(0, .ref v0), (1, .int v1), (2, .int v2), (3, .int v3), (4, .int s0)] (g_allc rfl (g_allc rfl (g_allc rfl (g_allc rfl (g_allc rfl g_alln))))) ?_
    exact c_X11_comesUp_50  hrec4 h
set_option maxRecDepth 100000 in
set_option maxHeartbeats 4000000 in
theorem l_X11_comesUp_4 {E : GE} {F : Nat}   {v0 : Nat} {v1 : Int32}   : ∀ (K : Nat) (v2 : Int32) (v3 : Int32) (n : Nat) (G : GH) (z : Nat × GH), fixN ((fun _ _ _ _ => none) : Int32 → Int32 → Nat → GH → Option (Nat × GH)) (b_X11_comesUp_4 F   v0 v1) K v2 v3 n G = some z → WG E RX11 "comesUp" cX11_comesUp 6 none 1 23 0 0 4 [(0, .ref v0), (1, .int v1), (2, .int v2), (3, .int v3)] [] n G (g_O E (none, z.1, z.2)) := by
  intro K
  refine fixN_ind (P := fun (r : Int32 → Int32 → Nat → GH → Option (Nat × GH)) => ∀ (v2 : Int32) (v3 : Int32) (n : Nat) (G : GH) (z : Nat × GH), r v2 v3 n G = some z → WG E RX11 "comesUp" cX11_comesUp 6 none 1 23 0 0 4 [(0, .ref v0), (1, .int v1), (2, .int v2), (3, .int v3)] [] n G (g_O E (none, z.1, z.2))) ?_ ?_ K
  · intro v2 v3 n G z h
    cases h
  · intro rec4 hrec4 v2 v3 n G z h
    unfold b_X11_comesUp_4 at h
    refine r_iload d_X11_comesUp_4 rfl ?_
    refine r_aload d_X11_comesUp_5 rfl ?_
    refine r_getR h d_X11_comesUp_6 pf_X11_7 (fun x1 h => ?_)
    refine r_sipush d_X11_comesUp_9 sp_206 ?_
    refine r_iald h d_X11_comesUp_12 (fun x2 h => ?_)
    refine r_icmp_ge h d_X11_comesUp_13 (fun h => ?_) (fun h => ?_)
    · refine r_lv [(0, .ref v0), (2, .int v2)] (g_allc rfl (g_allc rfl g_alln)) ?_
      exact c_X11_comesUp_105   h
    · refine r_aload d_X11_comesUp_16 rfl ?_
      refine r_iload d_X11_comesUp_17 rfl ?_
      refine r_iconst d_X11_comesUp_18 ic_1 ?_
      refine r_invP [_, _] h (fun _ hq => s_X11_its hq) d_X11_comesUp_19 pl_X11_196 py_X11_its pi_X11_its rfl rfl rfl (fun x12 h => ?_)
      refine r_iload d_X11_comesUp_22 rfl ?_
      refine r_icmp_eq h d_X11_comesUp_23 (fun h => ?_) (fun h => ?_)
      · refine r_iconst d_X11_comesUp_30 ic_0 ?_
        refine r_lv [(0, .ref v0), (1, .int v1), (2, .int v2), (3, .int v3)] (g_allc rfl (g_allc rfl (g_allc rfl (g_allc rfl g_alln)))) ?_
        exact c_X11_comesUp_31  hrec4 h
      · refine r_iconst d_X11_comesUp_26 ic_1 ?_
        refine r_goto d_X11_comesUp_27 ?_
        refine r_lv [(0, .ref v0), (1, .int v1), (2, .int v2), (3, .int v3)] (g_allc rfl (g_allc rfl (g_allc rfl (g_allc rfl g_alln)))) ?_
        exact c_X11_comesUp_31  hrec4 h
set_option maxRecDepth 100000 in
set_option maxHeartbeats 4000000 in
theorem s_X11_comesUp {E : GE} {F : Nat}  {v0 : Nat} {v1 : Int32} {n : Nat} {G : GH} {z : Nat × GH}  (h : f_X11_comesUp F  v0 v1 n G = some z) : GM E yX11_comesUp cX11_comesUp 6 none 1 23 0 0 [.ref v0, .int v1] n G (none, z.1, z.2) := by
  refine GM.of (by decide) (Nat.le_of_ble_eq_true rfl) ?_
  show WG E RX11 "comesUp" cX11_comesUp 6 none 1 23 0 0 0 [(0, .ref v0), (1, .int v1)] [] n G (g_O E (none, z.1, z.2))
  unfold f_X11_comesUp at h
  refine r_iconst d_X11_comesUp_0 ic_0 ?_
  refine r_istore d_X11_comesUp_1 rfl rfl ?_
  refine r_iconst d_X11_comesUp_2 ic_0 ?_
  refine r_istore d_X11_comesUp_3 rfl rfl ?_
  refine r_lv [(0, .ref v0), (1, .int v1), (2, .int (0 : Int32)), (3, .int (0 : Int32))] (g_allc rfl (g_allc rfl (g_allc rfl (g_allc rfl g_alln)))) ?_
  exact l_X11_comesUp_4   _ _ _ _ _ _ h
/-! X11_leave -/
theorem py_X11_comesUp : pY yX11_comesUp cX11_comesUp 6 none 1 := ⟨g_in 1367 (by decide +kernel) rfl, g_in 104 (by decide +kernel) rfl, by decide, by decide, by decide +kernel⟩
theorem pi_X11_comesUp : pI yX11_comesUp 11 := ⟨g_in 1366 (by decide +kernel) rfl, g_in 54 (by decide +kernel) rfl, (RX11, TX11, 37), rfl, rfl⟩
theorem pl_X11_257 : pL RX11 257 yX11_comesUp := Or.inl (g_in 1364 (by decide +kernel) rfl)
theorem py_X11_ends : pY yX11_ends cX11_ends 3 none 1 := ⟨g_in 1359 (by decide +kernel) rfl, g_in 104 (by decide +kernel) rfl, by decide, by decide, by decide +kernel⟩
theorem pi_X11_ends : pI yX11_ends 11 := ⟨g_in 1358 (by decide +kernel) rfl, g_in 52 (by decide +kernel) rfl, (RX11, TX11, 37), rfl, rfl⟩
theorem pl_X11_254 : pL RX11 254 yX11_ends := Or.inl (g_in 1356 (by decide +kernel) rfl)
theorem d_X11_leave_0 : decAL cX11_leave 0 0 1 := Or.inr ⟨0, rfl, by decide +kernel, rfl⟩
theorem d_X11_leave_1 : dec 1 cX11_leave 1 (.iconst 0) 2 := ⟨by decide +kernel, rfl⟩
theorem d_X11_leave_2 : dec 3 cX11_leave 2 (.putfield 72) 5 := ⟨by decide +kernel, rfl⟩
theorem d_X11_leave_5 : decAL cX11_leave 5 0 6 := Or.inr ⟨0, rfl, by decide +kernel, rfl⟩
theorem d_X11_leave_6 : dec 3 cX11_leave 6 (.invokevirtual 251) 9 := ⟨by decide +kernel, rfl⟩
theorem d_X11_leave_9 : decAL cX11_leave 9 0 10 := Or.inr ⟨0, rfl, by decide +kernel, rfl⟩
theorem d_X11_leave_10 : dec 3 cX11_leave 10 (.getfield 7) 13 := ⟨by decide +kernel, rfl⟩
theorem d_X11_leave_13 : dec 3 cX11_leave 13 (.sipush 145) 16 := ⟨by decide +kernel, rfl⟩
theorem d_X11_leave_16 : dec 1 cX11_leave 16 .iaload 17 := ⟨by decide +kernel, rfl⟩
theorem d_X11_leave_17 : decIS cX11_leave 17 1 18 := Or.inr ⟨1, rfl, by decide +kernel, rfl⟩
theorem d_X11_leave_18 : decAL cX11_leave 18 0 19 := Or.inr ⟨0, rfl, by decide +kernel, rfl⟩
theorem d_X11_leave_19 : dec 3 cX11_leave 19 (.getfield 7) 22 := ⟨by decide +kernel, rfl⟩
theorem d_X11_leave_22 : dec 3 cX11_leave 22 (.sipush 687) 25 := ⟨by decide +kernel, rfl⟩
theorem d_X11_leave_25 : dec 1 cX11_leave 25 (.iconst 0) 26 := ⟨by decide +kernel, rfl⟩
theorem d_X11_leave_26 : dec 1 cX11_leave 26 .iastore 27 := ⟨by decide +kernel, rfl⟩
theorem d_X11_leave_27 : decAL cX11_leave 27 0 28 := Or.inr ⟨0, rfl, by decide +kernel, rfl⟩
theorem d_X11_leave_28 : dec 3 cX11_leave 28 (.getfield 7) 31 := ⟨by decide +kernel, rfl⟩
theorem d_X11_leave_31 : dec 3 cX11_leave 31 (.sipush 748) 34 := ⟨by decide +kernel, rfl⟩
theorem d_X11_leave_34 : dec 1 cX11_leave 34 (.iconst 0) 35 := ⟨by decide +kernel, rfl⟩
theorem d_X11_leave_35 : dec 1 cX11_leave 35 .iastore 36 := ⟨by decide +kernel, rfl⟩
theorem d_X11_leave_36 : decAL cX11_leave 36 0 37 := Or.inr ⟨0, rfl, by decide +kernel, rfl⟩
theorem d_X11_leave_37 : dec 3 cX11_leave 37 (.getfield 7) 40 := ⟨by decide +kernel, rfl⟩
theorem d_X11_leave_40 : dec 3 cX11_leave 40 (.sipush 206) 43 := ⟨by decide +kernel, rfl⟩
theorem d_X11_leave_43 : dec 1 cX11_leave 43 .iaload 44 := ⟨by decide +kernel, rfl⟩
theorem d_X11_leave_44 : dec 1 cX11_leave 44 (.iconst 1) 45 := ⟨by decide +kernel, rfl⟩
theorem d_X11_leave_45 : dec 1 cX11_leave 45 .isub 46 := ⟨by decide +kernel, rfl⟩
theorem d_X11_leave_46 : decIS cX11_leave 46 2 47 := Or.inr ⟨2, rfl, by decide +kernel, rfl⟩
theorem d_X11_leave_47 : decIL cX11_leave 47 2 48 := Or.inr ⟨2, rfl, by decide +kernel, rfl⟩
theorem d_X11_leave_48 : decB cX11_leave 48 (.ifCond .lt 24) (24) 51 72 := ⟨by decide +kernel, rfl, by decide⟩
theorem d_X11_leave_51 : decAL cX11_leave 51 0 52 := Or.inr ⟨0, rfl, by decide +kernel, rfl⟩
theorem d_X11_leave_52 : decIL cX11_leave 52 2 53 := Or.inr ⟨2, rfl, by decide +kernel, rfl⟩
theorem d_X11_leave_53 : dec 1 cX11_leave 53 (.iconst 1) 54 := ⟨by decide +kernel, rfl⟩
theorem d_X11_leave_54 : dec 3 cX11_leave 54 (.invokevirtual 196) 57 := ⟨by decide +kernel, rfl⟩
theorem d_X11_leave_57 : decIL cX11_leave 57 1 58 := Or.inr ⟨1, rfl, by decide +kernel, rfl⟩
theorem d_X11_leave_58 : decB cX11_leave 58 (.if_icmp .ne 8) (8) 61 66 := ⟨by decide +kernel, rfl, by decide⟩
theorem d_X11_leave_61 : decAL cX11_leave 61 0 62 := Or.inr ⟨0, rfl, by decide +kernel, rfl⟩
theorem d_X11_leave_62 : decIL cX11_leave 62 2 63 := Or.inr ⟨2, rfl, by decide +kernel, rfl⟩
theorem d_X11_leave_63 : dec 3 cX11_leave 63 (.invokevirtual 254) 66 := ⟨by decide +kernel, rfl⟩
theorem d_X11_leave_66 : dec 3 cX11_leave 66 (.iinc 2 (-1)) 69 := ⟨by decide +kernel, rfl⟩
theorem d_X11_leave_69 : decB cX11_leave 69 (.goto (-22)) (-22) 72 47 := ⟨by decide +kernel, rfl, by decide⟩
theorem d_X11_leave_72 : decAL cX11_leave 72 0 73 := Or.inr ⟨0, rfl, by decide +kernel, rfl⟩
theorem d_X11_leave_73 : decIL cX11_leave 73 1 74 := Or.inr ⟨1, rfl, by decide +kernel, rfl⟩
theorem d_X11_leave_74 : dec 3 cX11_leave 74 (.invokevirtual 257) 77 := ⟨by decide +kernel, rfl⟩
theorem d_X11_leave_77 : dec 1 cX11_leave 77 (.iconst 0) 78 := ⟨by decide +kernel, rfl⟩
theorem d_X11_leave_78 : decIS cX11_leave 78 2 79 := Or.inr ⟨2, rfl, by decide +kernel, rfl⟩
theorem d_X11_leave_79 : decIL cX11_leave 79 2 80 := Or.inr ⟨2, rfl, by decide +kernel, rfl⟩
theorem d_X11_leave_80 : dec 2 cX11_leave 80 (.bipush 12) 82 := ⟨by decide +kernel, rfl⟩
theorem d_X11_leave_82 : decB cX11_leave 82 (.if_icmp .ge 25) (25) 85 107 := ⟨by decide +kernel, rfl, by decide⟩
theorem d_X11_leave_85 : decAL cX11_leave 85 0 86 := Or.inr ⟨0, rfl, by decide +kernel, rfl⟩
theorem d_X11_leave_86 : dec 3 cX11_leave 86 (.getfield 7) 89 := ⟨by decide +kernel, rfl⟩
theorem d_X11_leave_89 : dec 3 cX11_leave 89 (.sipush 146) 92 := ⟨by decide +kernel, rfl⟩
theorem d_X11_leave_92 : dec 2 cX11_leave 92 (.bipush 12) 94 := ⟨by decide +kernel, rfl⟩
theorem d_X11_leave_94 : decIL cX11_leave 94 1 95 := Or.inr ⟨1, rfl, by decide +kernel, rfl⟩
theorem d_X11_leave_95 : dec 1 cX11_leave 95 .imul 96 := ⟨by decide +kernel, rfl⟩
theorem d_X11_leave_96 : dec 1 cX11_leave 96 .iadd 97 := ⟨by decide +kernel, rfl⟩
theorem d_X11_leave_97 : decIL cX11_leave 97 2 98 := Or.inr ⟨2, rfl, by decide +kernel, rfl⟩
theorem d_X11_leave_98 : dec 1 cX11_leave 98 .iadd 99 := ⟨by decide +kernel, rfl⟩
theorem d_X11_leave_99 : dec 1 cX11_leave 99 (.iconst 0) 100 := ⟨by decide +kernel, rfl⟩
theorem d_X11_leave_100 : dec 1 cX11_leave 100 .iastore 101 := ⟨by decide +kernel, rfl⟩
theorem d_X11_leave_101 : dec 3 cX11_leave 101 (.iinc 2 1) 104 := ⟨by decide +kernel, rfl⟩
theorem d_X11_leave_104 : decB cX11_leave 104 (.goto (-25)) (-25) 107 79 := ⟨by decide +kernel, rfl, by decide⟩
theorem d_X11_leave_107 : decAL cX11_leave 107 0 108 := Or.inr ⟨0, rfl, by decide +kernel, rfl⟩
theorem d_X11_leave_108 : dec 3 cX11_leave 108 (.getfield 7) 111 := ⟨by decide +kernel, rfl⟩
theorem d_X11_leave_111 : dec 3 cX11_leave 111 (.sipush 145) 114 := ⟨by decide +kernel, rfl⟩
theorem d_X11_leave_114 : decIL cX11_leave 114 1 115 := Or.inr ⟨1, rfl, by decide +kernel, rfl⟩
theorem d_X11_leave_115 : decB cX11_leave 115 (.ifCond .ne 7) (7) 118 122 := ⟨by decide +kernel, rfl, by decide⟩
theorem d_X11_leave_118 : dec 1 cX11_leave 118 (.iconst 0) 119 := ⟨by decide +kernel, rfl⟩
theorem d_X11_leave_119 : decB cX11_leave 119 (.goto 6) (6) 122 125 := ⟨by decide +kernel, rfl, by decide⟩
theorem d_X11_leave_122 : decIL cX11_leave 122 1 123 := Or.inr ⟨1, rfl, by decide +kernel, rfl⟩
theorem d_X11_leave_123 : dec 1 cX11_leave 123 (.iconst 1) 124 := ⟨by decide +kernel, rfl⟩
theorem d_X11_leave_124 : dec 1 cX11_leave 124 .isub 125 := ⟨by decide +kernel, rfl⟩
theorem d_X11_leave_125 : dec 1 cX11_leave 125 .iastore 126 := ⟨by decide +kernel, rfl⟩
theorem d_X11_leave_126 : decAL cX11_leave 126 0 127 := Or.inr ⟨0, rfl, by decide +kernel, rfl⟩
theorem d_X11_leave_127 : dec 3 cX11_leave 127 (.getfield 7) 130 := ⟨by decide +kernel, rfl⟩
theorem d_X11_leave_130 : dec 3 cX11_leave 130 (.sipush 687) 133 := ⟨by decide +kernel, rfl⟩
theorem d_X11_leave_133 : dec 1 cX11_leave 133 .iaload 134 := ⟨by decide +kernel, rfl⟩
theorem d_X11_leave_134 : dec 1 cX11_leave 134 .ireturn 135 := ⟨by decide +kernel, rfl⟩
def k_X11_leave_107 (F : Nat)   (v0 : Nat) (v1 : Int32)  (n : Nat) (G : GH) : Option (Int32 × Nat × GH) :=
  Option.bind (gR G v0 11 1) (fun (x15 : Nat) =>
  if v1 = 0 then
  (Option.bind (aS G x15 0 (145 : Int32) (0 : Int32)) (fun (G19 : GH) =>
  Option.bind (gR G19 v0 11 1) (fun (x20 : Nat) =>
  Option.bind (aI G19 x20 0 (687 : Int32)) (fun (x21 : Int32) =>
  some (x21, n, G19)))))
  else (Option.bind (aS G x15 0 (145 : Int32) (v1 - (1 : Int32))) (fun (G16 : GH) =>
  Option.bind (gR G16 v0 11 1) (fun (x17 : Nat) =>
  Option.bind (aI G16 x17 0 (687 : Int32)) (fun (x18 : Int32) =>
  some (x18, n, G16))))))
def b_X11_leave_79 (F : Nat)   (v0 : Nat) (v1 : Int32) (rec79 : Int32 → Nat → GH → Option (Int32 × Nat × GH)) : Int32 → Nat → GH → Option (Int32 × Nat × GH) := fun v2 n G =>
  if (12 : Int32) ≤ v2 then
  (k_X11_leave_107 F   v0 v1 n G)
  else (Option.bind (gR G v0 11 1) (fun (x22 : Nat) =>
  Option.bind (aS G x22 0 (((146 : Int32) + ((12 : Int32) * v1)) + v2) (0 : Int32)) (fun (G23 : GH) =>
  rec79 (v2 + 1) n G23)))
def k_X11_leave_72 (F : Nat)   (v0 : Nat) (v1 : Int32)  (n : Nat) (G : GH) : Option (Int32 × Nat × GH) :=
  cvU G v0 11 (f_X11_comesUp F v0 v1 n G) (fun (n13 : Nat) (G14 : GH) =>
  fixN (fun _ _ _ => none) (b_X11_leave_79 F   v0 v1) F (0 : Int32) n13 G14)
def b_X11_leave_47 (F : Nat)   (v0 : Nat) (v1 : Int32) (rec47 : Int32 → Nat → GH → Option (Int32 × Nat × GH)) : Int32 → Nat → GH → Option (Int32 × Nat × GH) := fun v2 n G =>
  if v2 < 0 then
  (k_X11_leave_72 F   v0 v1 n G)
  else (cvP G v0 11 (f_X11_its F v0 v2 (1 : Int32) G) (fun (x24 : Int32) =>
  if x24 = v1 then
  (cvU G v0 11 (f_X11_ends F v0 v2 n G) (fun (n25 : Nat) (G26 : GH) =>
  rec47 (v2 + (-1)) n25 G26))
  else (rec47 (v2 + (-1)) n G)))
def f_X11_leave (F : Nat)  (v0 : Nat) (n : Nat) (G : GH) : Option (Int32 × Nat × GH) :=
  Option.bind (pV G v0 11 0 (.int (0 : Int32))) (fun (G1 : GH) =>
  cvU G1 v0 11 (f_X11_keeps F v0 n G1) (fun (n2 : Nat) (G3 : GH) =>
  Option.bind (gR G3 v0 11 1) (fun (x4 : Nat) =>
  Option.bind (aI G3 x4 0 (145 : Int32)) (fun (x5 : Int32) =>
  Option.bind (gR G3 v0 11 1) (fun (x6 : Nat) =>
  Option.bind (aS G3 x6 0 (687 : Int32) (0 : Int32)) (fun (G7 : GH) =>
  Option.bind (gR G7 v0 11 1) (fun (x8 : Nat) =>
  Option.bind (aS G7 x8 0 (748 : Int32) (0 : Int32)) (fun (G9 : GH) =>
  Option.bind (gR G9 v0 11 1) (fun (x10 : Nat) =>
  Option.bind (aI G9 x10 0 (206 : Int32)) (fun (x11 : Int32) =>
  gnm (x11 - (1 : Int32)) (fun (y12 : Int32) =>
  fixN (fun _ _ _ => none) (b_X11_leave_47 F   v0 x5) F y12 n2 G9)))))))))))
set_option maxRecDepth 100000 in
set_option maxHeartbeats 4000000 in
theorem c_X11_leave_107 {E : GE} {F : Nat}   {v0 : Nat} {v1 : Int32}  {n : Nat} {G : GH} {z : Int32 × Nat × GH}   (h : k_X11_leave_107 F   v0 v1  n G = some z) : WG E RX11 "leave" cX11_leave 3 (some .int) 2 48 0 0 107 [(0, .ref v0), (1, .int v1)] [] n G (g_O E (some (.int z.1), z.2.1, z.2.2)) := by
  unfold k_X11_leave_107 at h
  refine r_aload d_X11_leave_107 rfl ?_
  refine r_getR h d_X11_leave_108 pf_X11_7 (fun x15 h => ?_)
  refine r_sipush d_X11_leave_111 sp_145 ?_
  refine r_iload d_X11_leave_114 rfl ?_
  refine r_if_ne h d_X11_leave_115 (fun h => ?_) (fun h => ?_)
  · refine r_iload d_X11_leave_122 rfl ?_
    refine r_iconst d_X11_leave_123 ic_1 ?_
    refine r_isub d_X11_leave_124 ?_
    refine r_iast h d_X11_leave_125 (fun G16 h => ?_)
    refine r_aload d_X11_leave_126 rfl ?_
    refine r_getR h d_X11_leave_127 pf_X11_7 (fun x17 h => ?_)
    refine r_sipush d_X11_leave_130 sp_687 ?_
    refine r_iald h d_X11_leave_133 (fun x18 h => ?_)
    exact r_iret h d_X11_leave_134
  · refine r_iconst d_X11_leave_118 ic_0 ?_
    refine r_goto d_X11_leave_119 ?_
    refine r_iast h d_X11_leave_125 (fun G19 h => ?_)
    refine r_aload d_X11_leave_126 rfl ?_
    refine r_getR h d_X11_leave_127 pf_X11_7 (fun x20 h => ?_)
    refine r_sipush d_X11_leave_130 sp_687 ?_
    refine r_iald h d_X11_leave_133 (fun x21 h => ?_)
    exact r_iret h d_X11_leave_134
set_option maxRecDepth 100000 in
set_option maxHeartbeats 4000000 in
theorem l_X11_leave_79 {E : GE} {F : Nat}   {v0 : Nat} {v1 : Int32}   : ∀ (K : Nat) (v2 : Int32) (n : Nat) (G : GH) (z : Int32 × Nat × GH), fixN ((fun _ _ _ => none) : Int32 → Nat → GH → Option (Int32 × Nat × GH)) (b_X11_leave_79 F   v0 v1) K v2 n G = some z → WG E RX11 "leave" cX11_leave 3 (some .int) 2 48 0 0 79 [(0, .ref v0), (1, .int v1), (2, .int v2)] [] n G (g_O E (some (.int z.1), z.2.1, z.2.2)) := by
  intro K
  refine fixN_ind (P := fun (r : Int32 → Nat → GH → Option (Int32 × Nat × GH)) => ∀ (v2 : Int32) (n : Nat) (G : GH) (z : Int32 × Nat × GH), r v2 n G = some z → WG E RX11 "leave" cX11_leave 3 (some .int) 2 48 0 0 79 [(0, .ref v0), (1, .int v1), (2, .int v2)] [] n G (g_O E (some (.int z.1), z.2.1, z.2.2))) ?_ ?_ K
  · intro v2 n G z h
    cases h
  · intro rec79 hrec79 v2 n G z h
    unfold b_X11_leave_79 at h
    refine r_iload d_X11_leave_79 rfl ?_
    refine r_bipush d_X11_leave_80 bp_12 ?_
    refine r_icmp_ge h d_X11_leave_82 (fun h => ?_) (fun h => ?_)
    · refine r_lv [(0, .ref v0), (1, .int v1)] (g_allc rfl (g_allc rfl g_alln)) ?_
      exact c_X11_leave_107   h
    · refine r_aload d_X11_leave_85 rfl ?_
      refine r_getR h d_X11_leave_86 pf_X11_7 (fun x22 h => ?_)
      refine r_sipush d_X11_leave_89 sp_146 ?_
      refine r_bipush d_X11_leave_92 bp_12 ?_
      refine r_iload d_X11_leave_94 rfl ?_
      refine r_imul d_X11_leave_95 ?_
      refine r_iadd d_X11_leave_96 ?_
      refine r_iload d_X11_leave_97 rfl ?_
      refine r_iadd d_X11_leave_98 ?_
      refine r_iconst d_X11_leave_99 ic_0 ?_
      refine r_iast h d_X11_leave_100 (fun G23 h => ?_)
      refine r_iinc d_X11_leave_101 rfl (ii_1 _) rfl rfl ?_
      refine r_goto d_X11_leave_104 ?_
      refine r_lv [(0, .ref v0), (1, .int v1), (2, .int (v2 + 1))] (g_allc rfl (g_allc rfl (g_allc rfl g_alln))) ?_
      exact hrec79 _ _ _ _ h
set_option maxRecDepth 100000 in
set_option maxHeartbeats 4000000 in
theorem c_X11_leave_72 {E : GE} {F : Nat}   {v0 : Nat} {v1 : Int32}  {n : Nat} {G : GH} {z : Int32 × Nat × GH}   (h : k_X11_leave_72 F   v0 v1  n G = some z) : WG E RX11 "leave" cX11_leave 3 (some .int) 2 48 0 0 72 [(0, .ref v0), (1, .int v1)] [] n G (g_O E (some (.int z.1), z.2.1, z.2.2)) := by
  unfold k_X11_leave_72 at h
  refine r_aload d_X11_leave_72 rfl ?_
  refine r_iload d_X11_leave_73 rfl ?_
  refine r_invU [_] h (fun _ hq => s_X11_comesUp hq) d_X11_leave_74 pl_X11_257 py_X11_comesUp pi_X11_comesUp rfl rfl rfl (fun n13 G14 h => ?_)
  refine r_iconst d_X11_leave_77 ic_0 ?_
  refine r_istore d_X11_leave_78 rfl rfl ?_
  refine r_lv [(0, .ref v0), (1, .int v1), (2, .int (0 : Int32))] (g_allc rfl (g_allc rfl (g_allc rfl g_alln))) ?_
  exact l_X11_leave_79   _ _ _ _ _ h
set_option maxRecDepth 100000 in
set_option maxHeartbeats 4000000 in
theorem l_X11_leave_47 {E : GE} {F : Nat}   {v0 : Nat} {v1 : Int32}   : ∀ (K : Nat) (v2 : Int32) (n : Nat) (G : GH) (z : Int32 × Nat × GH), fixN ((fun _ _ _ => none) : Int32 → Nat → GH → Option (Int32 × Nat × GH)) (b_X11_leave_47 F   v0 v1) K v2 n G = some z → WG E RX11 "leave" cX11_leave 3 (some .int) 2 48 0 0 47 [(0, .ref v0), (1, .int v1), (2, .int v2)] [] n G (g_O E (some (.int z.1), z.2.1, z.2.2)) := by
  intro K
  refine fixN_ind (P := fun (r : Int32 → Nat → GH → Option (Int32 × Nat × GH)) => ∀ (v2 : Int32) (n : Nat) (G : GH) (z : Int32 × Nat × GH), r v2 n G = some z → WG E RX11 "leave" cX11_leave 3 (some .int) 2 48 0 0 47 [(0, .ref v0), (1, .int v1), (2, .int v2)] [] n G (g_O E (some (.int z.1), z.2.1, z.2.2))) ?_ ?_ K
  · intro v2 n G z h
    cases h
  · intro rec47 hrec47 v2 n G z h
    unfold b_X11_leave_47 at h
    refine r_iload d_X11_leave_47 rfl ?_
    refine r_if_lt h d_X11_leave_48 (fun h => ?_) (fun h => ?_)
    · refine r_lv [(0, .ref v0), (1, .int v1)] (g_allc rfl (g_allc rfl g_alln)) ?_
      exact c_X11_leave_72   h
    · refine r_aload d_X11_leave_51 rfl ?_
      refine r_iload d_X11_leave_52 rfl ?_
      refine r_iconst d_X11_leave_53 ic_1 ?_
      refine r_invP [_, _] h (fun _ hq => s_X11_its hq) d_X11_leave_54 pl_X11_196 py_X11_its pi_X11_its rfl rfl rfl (fun x24 h => ?_)
      refine r_iload d_X11_leave_57 rfl ?_
      refine r_icmp_ne h d_X11_leave_58 (fun h => ?_) (fun h => ?_)
      · refine r_iinc d_X11_leave_66 rfl (ii_m1 _) rfl rfl ?_
        refine r_goto d_X11_leave_69 ?_
        refine r_lv [(0, .ref v0), (1, .int v1), (2, .int (v2 + (-1)))] (g_allc rfl (g_allc rfl (g_allc rfl g_alln))) ?_
        exact hrec47 _ _ _ _ h
      · refine r_aload d_X11_leave_61 rfl ?_
        refine r_iload d_X11_leave_62 rfl ?_
        refine r_invU [_] h (fun _ hq => s_X11_ends hq) d_X11_leave_63 pl_X11_254 py_X11_ends pi_X11_ends rfl rfl rfl (fun n25 G26 h => ?_)
        refine r_iinc d_X11_leave_66 rfl (ii_m1 _) rfl rfl ?_
        refine r_goto d_X11_leave_69 ?_
        refine r_lv [(0, .ref v0), (1, .int v1), (2, .int (v2 + (-1)))] (g_allc rfl (g_allc rfl (g_allc rfl g_alln))) ?_
        exact hrec47 _ _ _ _ h
set_option maxRecDepth 100000 in
set_option maxHeartbeats 4000000 in
theorem s_X11_leave {E : GE} {F : Nat}  {v0 : Nat} {n : Nat} {G : GH} {z : Int32 × Nat × GH}  (h : f_X11_leave F  v0 n G = some z) : GM E yX11_leave cX11_leave 3 (some .int) 2 48 0 0 [.ref v0] n G (some (.int z.1), z.2.1, z.2.2) := by
  refine GM.of (by decide) (Nat.le_of_ble_eq_true rfl) ?_
  show WG E RX11 "leave" cX11_leave 3 (some .int) 2 48 0 0 0 [(0, .ref v0)] [] n G (g_O E (some (.int z.1), z.2.1, z.2.2))
  unfold f_X11_leave at h
  refine r_aload d_X11_leave_0 rfl ?_
  refine r_iconst d_X11_leave_1 ic_0 ?_
  refine r_put h d_X11_leave_2 pw_X11_72 rfl rfl (fun G1 h => ?_)
  refine r_aload d_X11_leave_5 rfl ?_
  refine r_invU [] h (fun _ hq => s_X11_keeps hq) d_X11_leave_6 pl_X11_251 py_X11_keeps pi_X11_keeps rfl rfl rfl (fun n2 G3 h => ?_)
  refine r_aload d_X11_leave_9 rfl ?_
  refine r_getR h d_X11_leave_10 pf_X11_7 (fun x4 h => ?_)
  refine r_sipush d_X11_leave_13 sp_145 ?_
  refine r_iald h d_X11_leave_16 (fun x5 h => ?_)
  refine r_istore d_X11_leave_17 rfl rfl ?_
  refine r_aload d_X11_leave_18 rfl ?_
  refine r_getR h d_X11_leave_19 pf_X11_7 (fun x6 h => ?_)
  refine r_sipush d_X11_leave_22 sp_687 ?_
  refine r_iconst d_X11_leave_25 ic_0 ?_
  refine r_iast h d_X11_leave_26 (fun G7 h => ?_)
  refine r_aload d_X11_leave_27 rfl ?_
  refine r_getR h d_X11_leave_28 pf_X11_7 (fun x8 h => ?_)
  refine r_sipush d_X11_leave_31 sp_748 ?_
  refine r_iconst d_X11_leave_34 ic_0 ?_
  refine r_iast h d_X11_leave_35 (fun G9 h => ?_)
  refine r_aload d_X11_leave_36 rfl ?_
  refine r_getR h d_X11_leave_37 pf_X11_7 (fun x10 h => ?_)
  refine r_sipush d_X11_leave_40 sp_206 ?_
  refine r_iald h d_X11_leave_43 (fun x11 h => ?_)
  refine r_iconst d_X11_leave_44 ic_1 ?_
  refine r_isub d_X11_leave_45 ?_
  refine r_nmI h (fun y12 _ h => ?_)
  refine r_istore d_X11_leave_46 rfl rfl ?_
  refine r_lv [(0, .ref v0), (1, .int x5), (2, .int y12)] (g_allc rfl (g_allc rfl (g_allc rfl g_alln))) ?_
  exact l_X11_leave_47   _ _ _ _ _ h
/-! X11_stand -/
theorem py_X11_isPart : pY yX11_isPart cX11_isPart 2 (some .boolean) 1 := ⟨g_in 1379 (by decide +kernel) rfl, g_in 104 (by decide +kernel) rfl, by decide, by decide, by decide +kernel⟩
theorem pi_X11_isPart : pI yX11_isPart 11 := ⟨g_in 1378 (by decide +kernel) rfl, g_in 56 (by decide +kernel) rfl, (RX11, TX11, 37), rfl, rfl⟩
theorem pl_X11_260 : pL RX11 260 yX11_isPart := Or.inl (g_in 1376 (by decide +kernel) rfl)
theorem d_X11_stand_0 : decAL cX11_stand 0 0 1 := Or.inr ⟨0, rfl, by decide +kernel, rfl⟩
theorem d_X11_stand_1 : dec 1 cX11_stand 1 (.iconst 0) 2 := ⟨by decide +kernel, rfl⟩
theorem d_X11_stand_2 : dec 3 cX11_stand 2 (.putfield 72) 5 := ⟨by decide +kernel, rfl⟩
theorem d_X11_stand_5 : decAL cX11_stand 5 0 6 := Or.inr ⟨0, rfl, by decide +kernel, rfl⟩
theorem d_X11_stand_6 : decIL cX11_stand 6 1 7 := Or.inr ⟨1, rfl, by decide +kernel, rfl⟩
theorem d_X11_stand_7 : dec 3 cX11_stand 7 (.invokevirtual 260) 10 := ⟨by decide +kernel, rfl⟩
theorem d_X11_stand_10 : decB cX11_stand 10 (.ifCond .eq 11) (11) 13 21 := ⟨by decide +kernel, rfl, by decide⟩
theorem d_X11_stand_13 : decAL cX11_stand 13 0 14 := Or.inr ⟨0, rfl, by decide +kernel, rfl⟩
theorem d_X11_stand_14 : decIL cX11_stand 14 2 15 := Or.inr ⟨2, rfl, by decide +kernel, rfl⟩
theorem d_X11_stand_15 : dec 3 cX11_stand 15 (.invokevirtual 260) 18 := ⟨by decide +kernel, rfl⟩
theorem d_X11_stand_18 : decB cX11_stand 18 (.ifCond .ne 5) (5) 21 23 := ⟨by decide +kernel, rfl, by decide⟩
theorem d_X11_stand_21 : dec 1 cX11_stand 21 (.iconst 0) 22 := ⟨by decide +kernel, rfl⟩
theorem d_X11_stand_22 : dec 1 cX11_stand 22 .ireturn 23 := ⟨by decide +kernel, rfl⟩
theorem d_X11_stand_23 : dec 3 cX11_stand 23 (.sipush 146) 26 := ⟨by decide +kernel, rfl⟩
theorem d_X11_stand_26 : dec 2 cX11_stand 26 (.bipush 12) 28 := ⟨by decide +kernel, rfl⟩
theorem d_X11_stand_28 : decAL cX11_stand 28 0 29 := Or.inr ⟨0, rfl, by decide +kernel, rfl⟩
theorem d_X11_stand_29 : dec 3 cX11_stand 29 (.getfield 7) 32 := ⟨by decide +kernel, rfl⟩
theorem d_X11_stand_32 : dec 3 cX11_stand 32 (.sipush 145) 35 := ⟨by decide +kernel, rfl⟩
theorem d_X11_stand_35 : dec 1 cX11_stand 35 .iaload 36 := ⟨by decide +kernel, rfl⟩
theorem d_X11_stand_36 : dec 1 cX11_stand 36 .imul 37 := ⟨by decide +kernel, rfl⟩
theorem d_X11_stand_37 : dec 1 cX11_stand 37 .iadd 38 := ⟨by decide +kernel, rfl⟩
theorem d_X11_stand_38 : decIL cX11_stand 38 1 39 := Or.inr ⟨1, rfl, by decide +kernel, rfl⟩
theorem d_X11_stand_39 : dec 1 cX11_stand 39 .iadd 40 := ⟨by decide +kernel, rfl⟩
theorem d_X11_stand_40 : decIS cX11_stand 40 3 41 := Or.inr ⟨3, rfl, by decide +kernel, rfl⟩
theorem d_X11_stand_41 : decIL cX11_stand 41 1 42 := Or.inr ⟨1, rfl, by decide +kernel, rfl⟩
theorem d_X11_stand_42 : decIL cX11_stand 42 2 43 := Or.inr ⟨2, rfl, by decide +kernel, rfl⟩
theorem d_X11_stand_43 : decB cX11_stand 43 (.if_icmp .ne 7) (7) 46 50 := ⟨by decide +kernel, rfl, by decide⟩
theorem d_X11_stand_46 : dec 1 cX11_stand 46 (.iconst 0) 47 := ⟨by decide +kernel, rfl⟩
theorem d_X11_stand_47 : decB cX11_stand 47 (.goto 6) (6) 50 53 := ⟨by decide +kernel, rfl, by decide⟩
theorem d_X11_stand_50 : decIL cX11_stand 50 2 51 := Or.inr ⟨2, rfl, by decide +kernel, rfl⟩
theorem d_X11_stand_51 : dec 1 cX11_stand 51 (.iconst 1) 52 := ⟨by decide +kernel, rfl⟩
theorem d_X11_stand_52 : dec 1 cX11_stand 52 .iadd 53 := ⟨by decide +kernel, rfl⟩
theorem d_X11_stand_53 : decIS cX11_stand 53 4 55 := Or.inl ⟨by decide +kernel, rfl⟩
theorem d_X11_stand_55 : decAL cX11_stand 55 0 56 := Or.inr ⟨0, rfl, by decide +kernel, rfl⟩
theorem d_X11_stand_56 : dec 3 cX11_stand 56 (.getfield 7) 59 := ⟨by decide +kernel, rfl⟩
theorem d_X11_stand_59 : decIL cX11_stand 59 3 60 := Or.inr ⟨3, rfl, by decide +kernel, rfl⟩
theorem d_X11_stand_60 : dec 1 cX11_stand 60 .iaload 61 := ⟨by decide +kernel, rfl⟩
theorem d_X11_stand_61 : decIL cX11_stand 61 4 63 := Or.inl ⟨by decide +kernel, rfl⟩
theorem d_X11_stand_63 : decB cX11_stand 63 (.if_icmp .ne 5) (5) 66 68 := ⟨by decide +kernel, rfl, by decide⟩
theorem d_X11_stand_66 : dec 1 cX11_stand 66 (.iconst 0) 67 := ⟨by decide +kernel, rfl⟩
theorem d_X11_stand_67 : dec 1 cX11_stand 67 .ireturn 68 := ⟨by decide +kernel, rfl⟩
theorem d_X11_stand_68 : decAL cX11_stand 68 0 69 := Or.inr ⟨0, rfl, by decide +kernel, rfl⟩
theorem d_X11_stand_69 : dec 3 cX11_stand 69 (.invokevirtual 251) 72 := ⟨by decide +kernel, rfl⟩
theorem d_X11_stand_72 : decAL cX11_stand 72 0 73 := Or.inr ⟨0, rfl, by decide +kernel, rfl⟩
theorem d_X11_stand_73 : dec 3 cX11_stand 73 (.getfield 7) 76 := ⟨by decide +kernel, rfl⟩
theorem d_X11_stand_76 : decIL cX11_stand 76 3 77 := Or.inr ⟨3, rfl, by decide +kernel, rfl⟩
theorem d_X11_stand_77 : decIL cX11_stand 77 4 79 := Or.inl ⟨by decide +kernel, rfl⟩
theorem d_X11_stand_79 : dec 1 cX11_stand 79 .iastore 80 := ⟨by decide +kernel, rfl⟩
theorem d_X11_stand_80 : dec 1 cX11_stand 80 (.iconst 1) 81 := ⟨by decide +kernel, rfl⟩
theorem d_X11_stand_81 : dec 1 cX11_stand 81 .ireturn 82 := ⟨by decide +kernel, rfl⟩
def k_X11_stand_53 (F : Nat)   (v0 : Nat) (v3 : Int32) (s0 : Int32) (n : Nat) (G : GH) : Option (Int32 × Nat × GH) :=
  Option.bind (gR G v0 11 1) (fun (x7 : Nat) =>
  Option.bind (aI G x7 0 v3) (fun (x8 : Int32) =>
  if x8 = s0 then
  (rN .boolean (0 : Int32) n G)
  else (cvU G v0 11 (f_X11_keeps F v0 n G) (fun (n9 : Nat) (G10 : GH) =>
  Option.bind (gR G10 v0 11 1) (fun (x11 : Nat) =>
  Option.bind (aS G10 x11 0 v3 s0) (fun (G12 : GH) =>
  rN .boolean (1 : Int32) n9 G12))))))
def f_X11_stand (F : Nat)  (v0 : Nat) (v1 : Int32) (v2 : Int32) (n : Nat) (G : GH) : Option (Int32 × Nat × GH) :=
  Option.bind (pV G v0 11 0 (.int (0 : Int32))) (fun (G1 : GH) =>
  cvP G1 v0 11 (f_X11_isPart F v0 v1 G1) (fun (x2 : Int32) =>
  if x2 = 0 then
  (rN .boolean (0 : Int32) n G1)
  else (cvP G1 v0 11 (f_X11_isPart F v0 v2 G1) (fun (x3 : Int32) =>
  if x3 = 0 then
  (rN .boolean (0 : Int32) n G1)
  else (Option.bind (gR G1 v0 11 1) (fun (x4 : Nat) =>
  Option.bind (aI G1 x4 0 (145 : Int32)) (fun (x5 : Int32) =>
  gnm (((146 : Int32) + ((12 : Int32) * x5)) + v1) (fun (y6 : Int32) =>
  if v1 = v2 then
  (k_X11_stand_53 F   v0 y6 (0 : Int32) n G1)
  else (k_X11_stand_53 F   v0 y6 (v2 + (1 : Int32)) n G1)))))))))
set_option maxRecDepth 100000 in
set_option maxHeartbeats 4000000 in
theorem c_X11_stand_53 {E : GE} {F : Nat}   {v0 : Nat} {v3 : Int32} {s0 : Int32} {n : Nat} {G : GH} {z : Int32 × Nat × GH}   (h : k_X11_stand_53 F   v0 v3 s0 n G = some z) : WG E RX11 "stand" cX11_stand 5 (some .boolean) 2 43 0 0 53 [(0, .ref v0), (3, .int v3)] [.int s0] n G (g_O E (some (.int z.1), z.2.1, z.2.2)) := by
  unfold k_X11_stand_53 at h
  refine r_istore d_X11_stand_53 rfl rfl ?_
  refine r_aload d_X11_stand_55 rfl ?_
  refine r_getR h d_X11_stand_56 pf_X11_7 (fun x7 h => ?_)
  refine r_iload d_X11_stand_59 rfl ?_
  refine r_iald h d_X11_stand_60 (fun x8 h => ?_)
  refine r_iload d_X11_stand_61 rfl ?_
  refine r_icmp_ne h d_X11_stand_63 (fun h => ?_) (fun h => ?_)
  · refine r_aload d_X11_stand_68 rfl ?_
    refine r_invU [] h (fun _ hq => s_X11_keeps hq) d_X11_stand_69 pl_X11_251 py_X11_keeps pi_X11_keeps rfl rfl rfl (fun n9 G10 h => ?_)
    refine r_aload d_X11_stand_72 rfl ?_
    refine r_getR h d_X11_stand_73 pf_X11_7 (fun x11 h => ?_)
    refine r_iload d_X11_stand_76 rfl ?_
    refine r_iload d_X11_stand_77 rfl ?_
    refine r_iast h d_X11_stand_79 (fun G12 h => ?_)
    refine r_iconst d_X11_stand_80 ic_1 ?_
    exact r_zret h d_X11_stand_81
  · refine r_iconst d_X11_stand_66 ic_0 ?_
    exact r_zret h d_X11_stand_67
set_option maxRecDepth 100000 in
set_option maxHeartbeats 4000000 in
theorem s_X11_stand {E : GE} {F : Nat}  {v0 : Nat} {v1 : Int32} {v2 : Int32} {n : Nat} {G : GH} {z : Int32 × Nat × GH}  (h : f_X11_stand F  v0 v1 v2 n G = some z) : GM E yX11_stand cX11_stand 5 (some .boolean) 2 43 0 0 [.ref v0, .int v1, .int v2] n G (some (.int z.1), z.2.1, z.2.2) := by
  refine GM.of (by decide) (Nat.le_of_ble_eq_true rfl) ?_
  show WG E RX11 "stand" cX11_stand 5 (some .boolean) 2 43 0 0 0 [(0, .ref v0), (1, .int v1), (2, .int v2)] [] n G (g_O E (some (.int z.1), z.2.1, z.2.2))
  unfold f_X11_stand at h
  refine r_aload d_X11_stand_0 rfl ?_
  refine r_iconst d_X11_stand_1 ic_0 ?_
  refine r_put h d_X11_stand_2 pw_X11_72 rfl rfl (fun G1 h => ?_)
  refine r_aload d_X11_stand_5 rfl ?_
  refine r_iload d_X11_stand_6 rfl ?_
  refine r_invP [_] h (fun _ hq => s_X11_isPart hq) d_X11_stand_7 pl_X11_260 py_X11_isPart pi_X11_isPart rfl rfl rfl (fun x2 h => ?_)
  refine r_if_eq h d_X11_stand_10 (fun h => ?_) (fun h => ?_)
  · refine r_iconst d_X11_stand_21 ic_0 ?_
    exact r_zret h d_X11_stand_22
  · refine r_aload d_X11_stand_13 rfl ?_
    refine r_iload d_X11_stand_14 rfl ?_
    refine r_invP [_] h (fun _ hq => s_X11_isPart hq) d_X11_stand_15 pl_X11_260 py_X11_isPart pi_X11_isPart rfl rfl rfl (fun x3 h => ?_)
    refine r_if_ne h d_X11_stand_18 (fun h => ?_) (fun h => ?_)
    · refine r_sipush d_X11_stand_23 sp_146 ?_
      refine r_bipush d_X11_stand_26 bp_12 ?_
      refine r_aload d_X11_stand_28 rfl ?_
      refine r_getR h d_X11_stand_29 pf_X11_7 (fun x4 h => ?_)
      refine r_sipush d_X11_stand_32 sp_145 ?_
      refine r_iald h d_X11_stand_35 (fun x5 h => ?_)
      refine r_imul d_X11_stand_36 ?_
      refine r_iadd d_X11_stand_37 ?_
      refine r_iload d_X11_stand_38 rfl ?_
      refine r_iadd d_X11_stand_39 ?_
      refine r_nmI h (fun y6 _ h => ?_)
      refine r_istore d_X11_stand_40 rfl rfl ?_
      refine r_iload d_X11_stand_41 rfl ?_
      refine r_iload d_X11_stand_42 rfl ?_
      refine r_icmp_ne h d_X11_stand_43 (fun h => ?_) (fun h => ?_)
      · refine r_iload d_X11_stand_50 rfl ?_
        refine r_iconst d_X11_stand_51 ic_1 ?_
        refine r_iadd d_X11_stand_52 ?_
        refine r_lv [(0, .ref v0), (3, .int y6)] (g_allc rfl (g_allc rfl g_alln)) ?_
        exact c_X11_stand_53   h
      · refine r_iconst d_X11_stand_46 ic_0 ?_
        refine r_goto d_X11_stand_47 ?_
        refine r_lv [(0, .ref v0), (3, .int y6)] (g_allc rfl (g_allc rfl g_alln)) ?_
        exact c_X11_stand_53   h
    · refine r_iconst d_X11_stand_21 ic_0 ?_
      exact r_zret h d_X11_stand_22
/-! X11_ask -/
theorem d_X11_ask_0 : decAL cX11_ask 0 0 1 := Or.inr ⟨0, rfl, by decide +kernel, rfl⟩
theorem d_X11_ask_1 : dec 1 cX11_ask 1 (.iconst 0) 2 := ⟨by decide +kernel, rfl⟩
theorem d_X11_ask_2 : dec 3 cX11_ask 2 (.putfield 72) 5 := ⟨by decide +kernel, rfl⟩
theorem d_X11_ask_5 : decAL cX11_ask 5 0 6 := Or.inr ⟨0, rfl, by decide +kernel, rfl⟩
theorem d_X11_ask_6 : decIL cX11_ask 6 1 7 := Or.inr ⟨1, rfl, by decide +kernel, rfl⟩
theorem d_X11_ask_7 : dec 3 cX11_ask 7 (.invokevirtual 260) 10 := ⟨by decide +kernel, rfl⟩
theorem d_X11_ask_10 : decB cX11_ask 10 (.ifCond .ne 5) (5) 13 15 := ⟨by decide +kernel, rfl, by decide⟩
theorem d_X11_ask_13 : dec 1 cX11_ask 13 (.iconst (-1)) 14 := ⟨by decide +kernel, rfl⟩
theorem d_X11_ask_14 : dec 1 cX11_ask 14 .ireturn 15 := ⟨by decide +kernel, rfl⟩
theorem d_X11_ask_15 : decAL cX11_ask 15 0 16 := Or.inr ⟨0, rfl, by decide +kernel, rfl⟩
theorem d_X11_ask_16 : dec 3 cX11_ask 16 (.invokevirtual 251) 19 := ⟨by decide +kernel, rfl⟩
theorem d_X11_ask_19 : decAL cX11_ask 19 0 20 := Or.inr ⟨0, rfl, by decide +kernel, rfl⟩
theorem d_X11_ask_20 : dec 1 cX11_ask 20 (.iconst 0) 21 := ⟨by decide +kernel, rfl⟩
theorem d_X11_ask_21 : dec 3 cX11_ask 21 (.putfield 202) 24 := ⟨by decide +kernel, rfl⟩
theorem d_X11_ask_24 : decAL cX11_ask 24 0 25 := Or.inr ⟨0, rfl, by decide +kernel, rfl⟩
theorem d_X11_ask_25 : decIL cX11_ask 25 1 26 := Or.inr ⟨1, rfl, by decide +kernel, rfl⟩
theorem d_X11_ask_26 : decAL cX11_ask 26 0 27 := Or.inr ⟨0, rfl, by decide +kernel, rfl⟩
theorem d_X11_ask_27 : dec 3 cX11_ask 27 (.getfield 7) 30 := ⟨by decide +kernel, rfl⟩
theorem d_X11_ask_30 : dec 3 cX11_ask 30 (.sipush 145) 33 := ⟨by decide +kernel, rfl⟩
theorem d_X11_ask_33 : dec 1 cX11_ask 33 .iaload 34 := ⟨by decide +kernel, rfl⟩
theorem d_X11_ask_34 : dec 3 cX11_ask 34 (.invokevirtual 239) 37 := ⟨by decide +kernel, rfl⟩
theorem d_X11_ask_37 : dec 1 cX11_ask 37 .ireturn 38 := ⟨by decide +kernel, rfl⟩
def f_X11_ask (F : Nat)  (v0 : Nat) (v1 : Int32) (n : Nat) (G : GH) : Option (Int32 × Nat × GH) :=
  Option.bind (pV G v0 11 0 (.int (0 : Int32))) (fun (G1 : GH) =>
  cvP G1 v0 11 (f_X11_isPart F v0 v1 G1) (fun (x2 : Int32) =>
  if x2 = 0 then
  (some ((-1 : Int32), n, G1))
  else (cvU G1 v0 11 (f_X11_keeps F v0 n G1) (fun (n3 : Nat) (G4 : GH) =>
  Option.bind (pV G4 v0 11 29 (.int (0 : Int32))) (fun (G5 : GH) =>
  Option.bind (gR G5 v0 11 1) (fun (x6 : Nat) =>
  Option.bind (aI G5 x6 0 (145 : Int32)) (fun (x7 : Int32) =>
  cvI G5 v0 11 (f_X11_asks F v0 v1 x7 n3 G5) (fun (x10 : Int32) (n8 : Nat) (G9 : GH) =>
  some (x10, n8, G9)))))))))
set_option maxRecDepth 100000 in
set_option maxHeartbeats 4000000 in
theorem s_X11_ask {E : GE} {F : Nat}  {v0 : Nat} {v1 : Int32} {n : Nat} {G : GH} {z : Int32 × Nat × GH}  (h : f_X11_ask F  v0 v1 n G = some z) : GM E yX11_ask cX11_ask 2 (some .int) 4 95 0 0 [.ref v0, .int v1] n G (some (.int z.1), z.2.1, z.2.2) := by
  refine GM.of (by decide) (Nat.le_of_ble_eq_true rfl) ?_
  show WG E RX11 "ask" cX11_ask 2 (some .int) 4 95 0 0 0 [(0, .ref v0), (1, .int v1)] [] n G (g_O E (some (.int z.1), z.2.1, z.2.2))
  unfold f_X11_ask at h
  refine r_aload d_X11_ask_0 rfl ?_
  refine r_iconst d_X11_ask_1 ic_0 ?_
  refine r_put h d_X11_ask_2 pw_X11_72 rfl rfl (fun G1 h => ?_)
  refine r_aload d_X11_ask_5 rfl ?_
  refine r_iload d_X11_ask_6 rfl ?_
  refine r_invP [_] h (fun _ hq => s_X11_isPart hq) d_X11_ask_7 pl_X11_260 py_X11_isPart pi_X11_isPart rfl rfl rfl (fun x2 h => ?_)
  refine r_if_ne h d_X11_ask_10 (fun h => ?_) (fun h => ?_)
  · refine r_aload d_X11_ask_15 rfl ?_
    refine r_invU [] h (fun _ hq => s_X11_keeps hq) d_X11_ask_16 pl_X11_251 py_X11_keeps pi_X11_keeps rfl rfl rfl (fun n3 G4 h => ?_)
    refine r_aload d_X11_ask_19 rfl ?_
    refine r_iconst d_X11_ask_20 ic_0 ?_
    refine r_put h d_X11_ask_21 pw_X11_202 rfl rfl (fun G5 h => ?_)
    refine r_aload d_X11_ask_24 rfl ?_
    refine r_iload d_X11_ask_25 rfl ?_
    refine r_aload d_X11_ask_26 rfl ?_
    refine r_getR h d_X11_ask_27 pf_X11_7 (fun x6 h => ?_)
    refine r_sipush d_X11_ask_30 sp_145 ?_
    refine r_iald h d_X11_ask_33 (fun x7 h => ?_)
    refine r_invI [_, _] h (fun _ hq => s_X11_asks hq) d_X11_ask_34 pl_X11_239 py_X11_asks pi_X11_asks rfl rfl rfl (fun x10 n8 G9 h => ?_)
    exact r_iret h d_X11_ask_37
  · refine r_iconst d_X11_ask_13 ic_m1 ?_
    exact r_iret h d_X11_ask_14
/-! X11_value -/
theorem py_X11_isThing : pY yX11_isThing cX11_isThing 2 (some .boolean) 1 := ⟨g_in 1427 (by decide +kernel) rfl, g_in 104 (by decide +kernel) rfl, by decide, by decide, by decide +kernel⟩
theorem pi_X11_isThing : pI yX11_isThing 11 := ⟨g_in 1426 (by decide +kernel) rfl, g_in 66 (by decide +kernel) rfl, (RX11, TX11, 37), rfl, rfl⟩
theorem pl_X11_263 : pL RX11 263 yX11_isThing := Or.inl (g_in 1424 (by decide +kernel) rfl)
theorem py_X11_reckons : pY yX11_reckons cX11_reckons 3 (some .int) 1 := ⟨g_in 1431 (by decide +kernel) rfl, g_in 104 (by decide +kernel) rfl, by decide, by decide, by decide +kernel⟩
theorem pi_X11_reckons : pI yX11_reckons 11 := ⟨g_in 1430 (by decide +kernel) rfl, g_in 67 (by decide +kernel) rfl, (RX11, TX11, 37), rfl, rfl⟩
theorem pl_X11_266 : pL RX11 266 yX11_reckons := Or.inl (g_in 1428 (by decide +kernel) rfl)
theorem d_X11_value_0 : decAL cX11_value 0 0 1 := Or.inr ⟨0, rfl, by decide +kernel, rfl⟩
theorem d_X11_value_1 : dec 1 cX11_value 1 (.iconst 0) 2 := ⟨by decide +kernel, rfl⟩
theorem d_X11_value_2 : dec 3 cX11_value 2 (.putfield 72) 5 := ⟨by decide +kernel, rfl⟩
theorem d_X11_value_5 : decAL cX11_value 5 0 6 := Or.inr ⟨0, rfl, by decide +kernel, rfl⟩
theorem d_X11_value_6 : decIL cX11_value 6 1 7 := Or.inr ⟨1, rfl, by decide +kernel, rfl⟩
theorem d_X11_value_7 : dec 3 cX11_value 7 (.invokevirtual 263) 10 := ⟨by decide +kernel, rfl⟩
theorem d_X11_value_10 : decB cX11_value 10 (.ifCond .ne 5) (5) 13 15 := ⟨by decide +kernel, rfl, by decide⟩
theorem d_X11_value_13 : dec 1 cX11_value 13 (.iconst (-1)) 14 := ⟨by decide +kernel, rfl⟩
theorem d_X11_value_14 : dec 1 cX11_value 14 .ireturn 15 := ⟨by decide +kernel, rfl⟩
theorem d_X11_value_15 : decAL cX11_value 15 0 16 := Or.inr ⟨0, rfl, by decide +kernel, rfl⟩
theorem d_X11_value_16 : dec 3 cX11_value 16 (.invokevirtual 251) 19 := ⟨by decide +kernel, rfl⟩
theorem d_X11_value_19 : decAL cX11_value 19 0 20 := Or.inr ⟨0, rfl, by decide +kernel, rfl⟩
theorem d_X11_value_20 : decIL cX11_value 20 1 21 := Or.inr ⟨1, rfl, by decide +kernel, rfl⟩
theorem d_X11_value_21 : dec 3 cX11_value 21 (.invokevirtual 266) 24 := ⟨by decide +kernel, rfl⟩
theorem d_X11_value_24 : dec 1 cX11_value 24 .ireturn 25 := ⟨by decide +kernel, rfl⟩
def f_X11_value (F : Nat)  (v0 : Nat) (v1 : Int32) (n : Nat) (G : GH) : Option (Int32 × Nat × GH) :=
  Option.bind (pV G v0 11 0 (.int (0 : Int32))) (fun (G1 : GH) =>
  cvP G1 v0 11 (f_X11_isThing F v0 v1 G1) (fun (x2 : Int32) =>
  if x2 = 0 then
  (some ((-1 : Int32), n, G1))
  else (cvU G1 v0 11 (f_X11_keeps F v0 n G1) (fun (n3 : Nat) (G4 : GH) =>
  cvI G4 v0 11 (f_X11_reckons F v0 v1 n3 G4) (fun (x7 : Int32) (n5 : Nat) (G6 : GH) =>
  some (x7, n5, G6))))))
set_option maxRecDepth 100000 in
set_option maxHeartbeats 4000000 in
theorem s_X11_value {E : GE} {F : Nat}  {v0 : Nat} {v1 : Int32} {n : Nat} {G : GH} {z : Int32 × Nat × GH}  (h : f_X11_value F  v0 v1 n G = some z) : GM E yX11_value cX11_value 2 (some .int) 6 142 0 0 [.ref v0, .int v1] n G (some (.int z.1), z.2.1, z.2.2) := by
  refine GM.of (by decide) (Nat.le_of_ble_eq_true rfl) ?_
  show WG E RX11 "value" cX11_value 2 (some .int) 6 142 0 0 0 [(0, .ref v0), (1, .int v1)] [] n G (g_O E (some (.int z.1), z.2.1, z.2.2))
  unfold f_X11_value at h
  refine r_aload d_X11_value_0 rfl ?_
  refine r_iconst d_X11_value_1 ic_0 ?_
  refine r_put h d_X11_value_2 pw_X11_72 rfl rfl (fun G1 h => ?_)
  refine r_aload d_X11_value_5 rfl ?_
  refine r_iload d_X11_value_6 rfl ?_
  refine r_invP [_] h (fun _ hq => s_X11_isThing hq) d_X11_value_7 pl_X11_263 py_X11_isThing pi_X11_isThing rfl rfl rfl (fun x2 h => ?_)
  refine r_if_ne h d_X11_value_10 (fun h => ?_) (fun h => ?_)
  · refine r_aload d_X11_value_15 rfl ?_
    refine r_invU [] h (fun _ hq => s_X11_keeps hq) d_X11_value_16 pl_X11_251 py_X11_keeps pi_X11_keeps rfl rfl rfl (fun n3 G4 h => ?_)
    refine r_aload d_X11_value_19 rfl ?_
    refine r_iload d_X11_value_20 rfl ?_
    refine r_invI [_] h (fun _ hq => s_X11_reckons hq) d_X11_value_21 pl_X11_266 py_X11_reckons pi_X11_reckons rfl rfl rfl (fun x7 n5 G6 h => ?_)
    exact r_iret h d_X11_value_24
  · refine r_iconst d_X11_value_13 ic_m1 ?_
    exact r_iret h d_X11_value_14
/-! X11_undo -/
theorem d_X11_undo_0 : decAL cX11_undo 0 0 1 := Or.inr ⟨0, rfl, by decide +kernel, rfl⟩
theorem d_X11_undo_1 : dec 1 cX11_undo 1 (.iconst 0) 2 := ⟨by decide +kernel, rfl⟩
theorem d_X11_undo_2 : dec 3 cX11_undo 2 (.putfield 72) 5 := ⟨by decide +kernel, rfl⟩
theorem d_X11_undo_5 : decAL cX11_undo 5 0 6 := Or.inr ⟨0, rfl, by decide +kernel, rfl⟩
theorem d_X11_undo_6 : dec 3 cX11_undo 6 (.getfield 193) 9 := ⟨by decide +kernel, rfl⟩
theorem d_X11_undo_9 : decB cX11_undo 9 (.ifCond .ne 5) (5) 12 14 := ⟨by decide +kernel, rfl, by decide⟩
theorem d_X11_undo_12 : dec 1 cX11_undo 12 (.iconst (-1)) 13 := ⟨by decide +kernel, rfl⟩
theorem d_X11_undo_13 : dec 1 cX11_undo 13 .ireturn 14 := ⟨by decide +kernel, rfl⟩
theorem d_X11_undo_14 : decAL cX11_undo 14 0 15 := Or.inr ⟨0, rfl, by decide +kernel, rfl⟩
theorem d_X11_undo_15 : dec 1 cX11_undo 15 .dup 16 := ⟨by decide +kernel, rfl⟩
theorem d_X11_undo_16 : dec 3 cX11_undo 16 (.getfield 193) 19 := ⟨by decide +kernel, rfl⟩
theorem d_X11_undo_19 : dec 1 cX11_undo 19 (.iconst 1) 20 := ⟨by decide +kernel, rfl⟩
theorem d_X11_undo_20 : dec 1 cX11_undo 20 .isub 21 := ⟨by decide +kernel, rfl⟩
theorem d_X11_undo_21 : dec 3 cX11_undo 21 (.putfield 193) 24 := ⟨by decide +kernel, rfl⟩
theorem d_X11_undo_24 : dec 1 cX11_undo 24 (.iconst 0) 25 := ⟨by decide +kernel, rfl⟩
theorem d_X11_undo_25 : decIS cX11_undo 25 1 26 := Or.inr ⟨1, rfl, by decide +kernel, rfl⟩
theorem d_X11_undo_26 : decIL cX11_undo 26 1 27 := Or.inr ⟨1, rfl, by decide +kernel, rfl⟩
theorem d_X11_undo_27 : dec 3 cX11_undo 27 (.sipush 891) 30 := ⟨by decide +kernel, rfl⟩
theorem d_X11_undo_30 : decB cX11_undo 30 (.if_icmp .ge 30) (30) 33 60 := ⟨by decide +kernel, rfl, by decide⟩
theorem d_X11_undo_33 : decAL cX11_undo 33 0 34 := Or.inr ⟨0, rfl, by decide +kernel, rfl⟩
theorem d_X11_undo_34 : dec 3 cX11_undo 34 (.getfield 7) 37 := ⟨by decide +kernel, rfl⟩
theorem d_X11_undo_37 : decIL cX11_undo 37 1 38 := Or.inr ⟨1, rfl, by decide +kernel, rfl⟩
theorem d_X11_undo_38 : decAL cX11_undo 38 0 39 := Or.inr ⟨0, rfl, by decide +kernel, rfl⟩
theorem d_X11_undo_39 : dec 3 cX11_undo 39 (.getfield 21) 42 := ⟨by decide +kernel, rfl⟩
theorem d_X11_undo_42 : dec 3 cX11_undo 42 (.sipush 891) 45 := ⟨by decide +kernel, rfl⟩
theorem d_X11_undo_45 : decAL cX11_undo 45 0 46 := Or.inr ⟨0, rfl, by decide +kernel, rfl⟩
theorem d_X11_undo_46 : dec 3 cX11_undo 46 (.getfield 193) 49 := ⟨by decide +kernel, rfl⟩
theorem d_X11_undo_49 : dec 1 cX11_undo 49 .imul 50 := ⟨by decide +kernel, rfl⟩
theorem d_X11_undo_50 : decIL cX11_undo 50 1 51 := Or.inr ⟨1, rfl, by decide +kernel, rfl⟩
theorem d_X11_undo_51 : dec 1 cX11_undo 51 .iadd 52 := ⟨by decide +kernel, rfl⟩
theorem d_X11_undo_52 : dec 1 cX11_undo 52 .iaload 53 := ⟨by decide +kernel, rfl⟩
theorem d_X11_undo_53 : dec 1 cX11_undo 53 .iastore 54 := ⟨by decide +kernel, rfl⟩
theorem d_X11_undo_54 : dec 3 cX11_undo 54 (.iinc 1 1) 57 := ⟨by decide +kernel, rfl⟩
theorem d_X11_undo_57 : decB cX11_undo 57 (.goto (-31)) (-31) 60 26 := ⟨by decide +kernel, rfl, by decide⟩
theorem d_X11_undo_60 : decAL cX11_undo 60 0 61 := Or.inr ⟨0, rfl, by decide +kernel, rfl⟩
theorem d_X11_undo_61 : dec 3 cX11_undo 61 (.getfield 193) 64 := ⟨by decide +kernel, rfl⟩
theorem d_X11_undo_64 : dec 1 cX11_undo 64 .ireturn 65 := ⟨by decide +kernel, rfl⟩
def b_X11_undo_26 (F : Nat)   (v0 : Nat) (rec26 : Int32 → Nat → GH → Option (Int32 × Nat × GH)) : Int32 → Nat → GH → Option (Int32 × Nat × GH) := fun v1 n G =>
  if (891 : Int32) ≤ v1 then
  (Option.bind (gI G v0 11 5) (fun (x5 : Int32) =>
  some (x5, n, G)))
  else (Option.bind (gR G v0 11 1) (fun (x6 : Nat) =>
  Option.bind (gR G v0 11 4) (fun (x7 : Nat) =>
  Option.bind (gI G v0 11 5) (fun (x8 : Int32) =>
  Option.bind (aI G x7 0 (((891 : Int32) * x8) + v1)) (fun (x9 : Int32) =>
  Option.bind (aS G x6 0 v1 x9) (fun (G10 : GH) =>
  rec26 (v1 + 1) n G10))))))
def f_X11_undo (F : Nat)  (v0 : Nat) (n : Nat) (G : GH) : Option (Int32 × Nat × GH) :=
  Option.bind (pV G v0 11 0 (.int (0 : Int32))) (fun (G1 : GH) =>
  Option.bind (gI G1 v0 11 5) (fun (x2 : Int32) =>
  if x2 = 0 then
  (some ((-1 : Int32), n, G1))
  else (Option.bind (gI G1 v0 11 5) (fun (x3 : Int32) =>
  Option.bind (pV G1 v0 11 5 (.int (x3 - (1 : Int32)))) (fun (G4 : GH) =>
  fixN (fun _ _ _ => none) (b_X11_undo_26 F   v0) F (0 : Int32) n G4)))))
set_option maxRecDepth 100000 in
set_option maxHeartbeats 4000000 in
theorem l_X11_undo_26 {E : GE} {F : Nat}   {v0 : Nat}   : ∀ (K : Nat) (v1 : Int32) (n : Nat) (G : GH) (z : Int32 × Nat × GH), fixN ((fun _ _ _ => none) : Int32 → Nat → GH → Option (Int32 × Nat × GH)) (b_X11_undo_26 F   v0) K v1 n G = some z → WG E RX11 "undo" cX11_undo 2 (some .int) 0 0 0 0 26 [(0, .ref v0), (1, .int v1)] [] n G (g_O E (some (.int z.1), z.2.1, z.2.2)) := by
  intro K
  refine fixN_ind (P := fun (r : Int32 → Nat → GH → Option (Int32 × Nat × GH)) => ∀ (v1 : Int32) (n : Nat) (G : GH) (z : Int32 × Nat × GH), r v1 n G = some z → WG E RX11 "undo" cX11_undo 2 (some .int) 0 0 0 0 26 [(0, .ref v0), (1, .int v1)] [] n G (g_O E (some (.int z.1), z.2.1, z.2.2))) ?_ ?_ K
  · intro v1 n G z h
    cases h
  · intro rec26 hrec26 v1 n G z h
    unfold b_X11_undo_26 at h
    refine r_iload d_X11_undo_26 rfl ?_
    refine r_sipush d_X11_undo_27 sp_891 ?_
    refine r_icmp_ge h d_X11_undo_30 (fun h => ?_) (fun h => ?_)
    · refine r_aload d_X11_undo_60 rfl ?_
      refine r_getI h d_X11_undo_61 pf_X11_193 (fun x5 h => ?_)
      exact r_iret h d_X11_undo_64
    · refine r_aload d_X11_undo_33 rfl ?_
      refine r_getR h d_X11_undo_34 pf_X11_7 (fun x6 h => ?_)
      refine r_iload d_X11_undo_37 rfl ?_
      refine r_aload d_X11_undo_38 rfl ?_
      refine r_getR h d_X11_undo_39 pf_X11_21 (fun x7 h => ?_)
      refine r_sipush d_X11_undo_42 sp_891 ?_
      refine r_aload d_X11_undo_45 rfl ?_
      refine r_getI h d_X11_undo_46 pf_X11_193 (fun x8 h => ?_)
      refine r_imul d_X11_undo_49 ?_
      refine r_iload d_X11_undo_50 rfl ?_
      refine r_iadd d_X11_undo_51 ?_
      refine r_iald h d_X11_undo_52 (fun x9 h => ?_)
      refine r_iast h d_X11_undo_53 (fun G10 h => ?_)
      refine r_iinc d_X11_undo_54 rfl (ii_1 _) rfl rfl ?_
      refine r_goto d_X11_undo_57 ?_
      refine r_lv [(0, .ref v0), (1, .int (v1 + 1))] (g_allc rfl (g_allc rfl g_alln)) ?_
      exact hrec26 _ _ _ _ h
set_option maxRecDepth 100000 in
set_option maxHeartbeats 4000000 in
theorem s_X11_undo {E : GE} {F : Nat}  {v0 : Nat} {n : Nat} {G : GH} {z : Int32 × Nat × GH}  (h : f_X11_undo F  v0 n G = some z) : GM E yX11_undo cX11_undo 2 (some .int) 0 0 0 0 [.ref v0] n G (some (.int z.1), z.2.1, z.2.2) := by
  refine GM.of (by decide) (Nat.le_of_ble_eq_true rfl) ?_
  show WG E RX11 "undo" cX11_undo 2 (some .int) 0 0 0 0 0 [(0, .ref v0)] [] n G (g_O E (some (.int z.1), z.2.1, z.2.2))
  unfold f_X11_undo at h
  refine r_aload d_X11_undo_0 rfl ?_
  refine r_iconst d_X11_undo_1 ic_0 ?_
  refine r_put h d_X11_undo_2 pw_X11_72 rfl rfl (fun G1 h => ?_)
  refine r_aload d_X11_undo_5 rfl ?_
  refine r_getI h d_X11_undo_6 pf_X11_193 (fun x2 h => ?_)
  refine r_if_ne h d_X11_undo_9 (fun h => ?_) (fun h => ?_)
  · refine r_aload d_X11_undo_14 rfl ?_
    refine r_dup d_X11_undo_15 rfl ?_
    refine r_getI h d_X11_undo_16 pf_X11_193 (fun x3 h => ?_)
    refine r_iconst d_X11_undo_19 ic_1 ?_
    refine r_isub d_X11_undo_20 ?_
    refine r_put h d_X11_undo_21 pw_X11_193 rfl rfl (fun G4 h => ?_)
    refine r_iconst d_X11_undo_24 ic_0 ?_
    refine r_istore d_X11_undo_25 rfl rfl ?_
    refine r_lv [(0, .ref v0), (1, .int (0 : Int32))] (g_allc rfl (g_allc rfl g_alln)) ?_
    exact l_X11_undo_26   _ _ _ _ _ h
  · refine r_iconst d_X11_undo_12 ic_m1 ?_
    exact r_iret h d_X11_undo_13
/-! X11_valueMany -/
theorem d_X11_valueMany_0 : dec 1 cX11_valueMany 0 (.iconst 0) 1 := ⟨by decide +kernel, rfl⟩
theorem d_X11_valueMany_1 : decIS cX11_valueMany 1 1 2 := Or.inr ⟨1, rfl, by decide +kernel, rfl⟩
theorem d_X11_valueMany_2 : dec 1 cX11_valueMany 2 (.iconst 0) 3 := ⟨by decide +kernel, rfl⟩
theorem d_X11_valueMany_3 : decIS cX11_valueMany 3 2 4 := Or.inr ⟨2, rfl, by decide +kernel, rfl⟩
theorem d_X11_valueMany_4 : decIL cX11_valueMany 4 2 5 := Or.inr ⟨2, rfl, by decide +kernel, rfl⟩
theorem d_X11_valueMany_5 : decAL cX11_valueMany 5 0 6 := Or.inr ⟨0, rfl, by decide +kernel, rfl⟩
theorem d_X11_valueMany_6 : dec 3 cX11_valueMany 6 (.getfield 7) 9 := ⟨by decide +kernel, rfl⟩
theorem d_X11_valueMany_9 : dec 3 cX11_valueMany 9 (.sipush 206) 12 := ⟨by decide +kernel, rfl⟩
theorem d_X11_valueMany_12 : dec 1 cX11_valueMany 12 .iaload 13 := ⟨by decide +kernel, rfl⟩
theorem d_X11_valueMany_13 : decB cX11_valueMany 13 (.if_icmp .ge 18) (18) 16 31 := ⟨by decide +kernel, rfl, by decide⟩
theorem d_X11_valueMany_16 : decIL cX11_valueMany 16 1 17 := Or.inr ⟨1, rfl, by decide +kernel, rfl⟩
theorem d_X11_valueMany_17 : decAL cX11_valueMany 17 0 18 := Or.inr ⟨0, rfl, by decide +kernel, rfl⟩
theorem d_X11_valueMany_18 : decIL cX11_valueMany 18 2 19 := Or.inr ⟨2, rfl, by decide +kernel, rfl⟩
theorem d_X11_valueMany_19 : dec 1 cX11_valueMany 19 (.iconst 2) 20 := ⟨by decide +kernel, rfl⟩
theorem d_X11_valueMany_20 : dec 3 cX11_valueMany 20 (.invokevirtual 196) 23 := ⟨by decide +kernel, rfl⟩
theorem d_X11_valueMany_23 : dec 1 cX11_valueMany 23 .iadd 24 := ⟨by decide +kernel, rfl⟩
theorem d_X11_valueMany_24 : decIS cX11_valueMany 24 1 25 := Or.inr ⟨1, rfl, by decide +kernel, rfl⟩
theorem d_X11_valueMany_25 : dec 3 cX11_valueMany 25 (.iinc 2 1) 28 := ⟨by decide +kernel, rfl⟩
theorem d_X11_valueMany_28 : decB cX11_valueMany 28 (.goto (-24)) (-24) 31 4 := ⟨by decide +kernel, rfl, by decide⟩
theorem d_X11_valueMany_31 : decIL cX11_valueMany 31 1 32 := Or.inr ⟨1, rfl, by decide +kernel, rfl⟩
theorem d_X11_valueMany_32 : dec 1 cX11_valueMany 32 .ireturn 33 := ⟨by decide +kernel, rfl⟩
def b_X11_valueMany_4 (F : Nat)   (v0 : Nat) (G : GH) (rec4 : Int32 → Int32 → Option (Int32)) : Int32 → Int32 → Option (Int32) := fun v1 v2 =>
  Option.bind (gR G v0 11 1) (fun (x1 : Nat) =>
  Option.bind (aI G x1 0 (206 : Int32)) (fun (x2 : Int32) =>
  if x2 ≤ v2 then
  (some v1)
  else (cvP G v0 11 (f_X11_its F v0 v2 (2 : Int32) G) (fun (x3 : Int32) =>
  gnm (v1 + x3) (fun (y4 : Int32) =>
  rec4 y4 (v2 + 1))))))
def f_X11_valueMany (F : Nat)  (v0 : Nat) (G : GH) : Option (Int32) :=
  fixN (fun _ _ => none) (b_X11_valueMany_4 F   v0 G) F (0 : Int32) (0 : Int32)
set_option maxRecDepth 100000 in
set_option maxHeartbeats 4000000 in
theorem l_X11_valueMany_4 {E : GE} {F : Nat}   {v0 : Nat} {n : Nat} {G : GH}   : ∀ (K : Nat) (v1 : Int32) (v2 : Int32) (z : Int32), fixN ((fun _ _ => none) : Int32 → Int32 → Option (Int32)) (b_X11_valueMany_4 F   v0 G) K v1 v2 = some z → WG E RX11 "valueMany" cX11_valueMany 3 (some .int) 1 22 0 0 4 [(0, .ref v0), (1, .int v1), (2, .int v2)] [] n G (g_O E (some (.int z), n, G)) := by
  intro K
  refine fixN_ind (P := fun (r : Int32 → Int32 → Option (Int32)) => ∀ (v1 : Int32) (v2 : Int32) (z : Int32), r v1 v2 = some z → WG E RX11 "valueMany" cX11_valueMany 3 (some .int) 1 22 0 0 4 [(0, .ref v0), (1, .int v1), (2, .int v2)] [] n G (g_O E (some (.int z), n, G))) ?_ ?_ K
  · intro v1 v2 z h
    cases h
  · intro rec4 hrec4 v1 v2 z h
    unfold b_X11_valueMany_4 at h
    refine r_iload d_X11_valueMany_4 rfl ?_
    refine r_aload d_X11_valueMany_5 rfl ?_
    refine r_getR h d_X11_valueMany_6 pf_X11_7 (fun x1 h => ?_)
    refine r_sipush d_X11_valueMany_9 sp_206 ?_
    refine r_iald h d_X11_valueMany_12 (fun x2 h => ?_)
    refine r_icmp_ge h d_X11_valueMany_13 (fun h => ?_) (fun h => ?_)
    · refine r_iload d_X11_valueMany_31 rfl ?_
      exact r_pret h d_X11_valueMany_32
    · refine r_iload d_X11_valueMany_16 rfl ?_
      refine r_aload d_X11_valueMany_17 rfl ?_
      refine r_iload d_X11_valueMany_18 rfl ?_
      refine r_iconst d_X11_valueMany_19 ic_2 ?_
      refine r_invP [_, _] h (fun _ hq => s_X11_its hq) d_X11_valueMany_20 pl_X11_196 py_X11_its pi_X11_its rfl rfl rfl (fun x3 h => ?_)
      refine r_iadd d_X11_valueMany_23 ?_
      refine r_nmI h (fun y4 _ h => ?_)
      refine r_istore d_X11_valueMany_24 rfl rfl ?_
      refine r_iinc d_X11_valueMany_25 rfl (ii_1 _) rfl rfl ?_
      refine r_goto d_X11_valueMany_28 ?_
      refine r_lv [(0, .ref v0), (1, .int y4), (2, .int (v2 + 1))] (g_allc rfl (g_allc rfl (g_allc rfl g_alln))) ?_
      exact hrec4 _ _ _ h
set_option maxRecDepth 100000 in
set_option maxHeartbeats 4000000 in
theorem s_X11_valueMany {E : GE} {F : Nat}  {v0 : Nat} {n : Nat} {G : GH} {z : Int32}  (h : f_X11_valueMany F  v0 G = some z) : GM E yX11_valueMany cX11_valueMany 3 (some .int) 1 22 0 0 [.ref v0] n G (some (.int z), n, G) := by
  refine GM.of (by decide) (Nat.le_of_ble_eq_true rfl) ?_
  show WG E RX11 "valueMany" cX11_valueMany 3 (some .int) 1 22 0 0 0 [(0, .ref v0)] [] n G (g_O E (some (.int z), n, G))
  unfold f_X11_valueMany at h
  refine r_iconst d_X11_valueMany_0 ic_0 ?_
  refine r_istore d_X11_valueMany_1 rfl rfl ?_
  refine r_iconst d_X11_valueMany_2 ic_0 ?_
  refine r_istore d_X11_valueMany_3 rfl rfl ?_
  refine r_lv [(0, .ref v0), (1, .int (0 : Int32)), (2, .int (0 : Int32))] (g_allc rfl (g_allc rfl (g_allc rfl g_alln))) ?_
  exact l_X11_valueMany_4   _ _ _ _ h
/-! X11_madeMany -/
theorem d_X11_madeMany_0 : dec 1 cX11_madeMany 0 (.iconst 0) 1 := ⟨by decide +kernel, rfl⟩
theorem d_X11_madeMany_1 : decIS cX11_madeMany 1 1 2 := Or.inr ⟨1, rfl, by decide +kernel, rfl⟩
theorem d_X11_madeMany_2 : dec 1 cX11_madeMany 2 (.iconst 0) 3 := ⟨by decide +kernel, rfl⟩
theorem d_X11_madeMany_3 : decIS cX11_madeMany 3 2 4 := Or.inr ⟨2, rfl, by decide +kernel, rfl⟩
theorem d_X11_madeMany_4 : decIL cX11_madeMany 4 2 5 := Or.inr ⟨2, rfl, by decide +kernel, rfl⟩
theorem d_X11_madeMany_5 : dec 2 cX11_madeMany 5 (.bipush 12) 7 := ⟨by decide +kernel, rfl⟩
theorem d_X11_madeMany_7 : decB cX11_madeMany 7 (.if_icmp .ge 22) (22) 10 29 := ⟨by decide +kernel, rfl, by decide⟩
theorem d_X11_madeMany_10 : decIL cX11_madeMany 10 1 11 := Or.inr ⟨1, rfl, by decide +kernel, rfl⟩
theorem d_X11_madeMany_11 : decAL cX11_madeMany 11 0 12 := Or.inr ⟨0, rfl, by decide +kernel, rfl⟩
theorem d_X11_madeMany_12 : dec 3 cX11_madeMany 12 (.getfield 7) 15 := ⟨by decide +kernel, rfl⟩
theorem d_X11_madeMany_15 : dec 3 cX11_madeMany 15 (.sipush 133) 18 := ⟨by decide +kernel, rfl⟩
theorem d_X11_madeMany_18 : decIL cX11_madeMany 18 2 19 := Or.inr ⟨2, rfl, by decide +kernel, rfl⟩
theorem d_X11_madeMany_19 : dec 1 cX11_madeMany 19 .iadd 20 := ⟨by decide +kernel, rfl⟩
theorem d_X11_madeMany_20 : dec 1 cX11_madeMany 20 .iaload 21 := ⟨by decide +kernel, rfl⟩
theorem d_X11_madeMany_21 : dec 1 cX11_madeMany 21 .iadd 22 := ⟨by decide +kernel, rfl⟩
theorem d_X11_madeMany_22 : decIS cX11_madeMany 22 1 23 := Or.inr ⟨1, rfl, by decide +kernel, rfl⟩
theorem d_X11_madeMany_23 : dec 3 cX11_madeMany 23 (.iinc 2 1) 26 := ⟨by decide +kernel, rfl⟩
theorem d_X11_madeMany_26 : decB cX11_madeMany 26 (.goto (-22)) (-22) 29 4 := ⟨by decide +kernel, rfl, by decide⟩
theorem d_X11_madeMany_29 : decIL cX11_madeMany 29 1 30 := Or.inr ⟨1, rfl, by decide +kernel, rfl⟩
theorem d_X11_madeMany_30 : dec 1 cX11_madeMany 30 .ireturn 31 := ⟨by decide +kernel, rfl⟩
def b_X11_madeMany_4 (F : Nat)   (v0 : Nat) (G : GH) (rec4 : Int32 → Int32 → Option (Int32)) : Int32 → Int32 → Option (Int32) := fun v1 v2 =>
  if (12 : Int32) ≤ v2 then
  (some v1)
  else (Option.bind (gR G v0 11 1) (fun (x1 : Nat) =>
  Option.bind (aI G x1 0 ((133 : Int32) + v2)) (fun (x2 : Int32) =>
  gnm (v1 + x2) (fun (y3 : Int32) =>
  rec4 y3 (v2 + 1)))))
def f_X11_madeMany (F : Nat)  (v0 : Nat) (G : GH) : Option (Int32) :=
  fixN (fun _ _ => none) (b_X11_madeMany_4 F   v0 G) F (0 : Int32) (0 : Int32)
set_option maxRecDepth 100000 in
set_option maxHeartbeats 4000000 in
theorem l_X11_madeMany_4 {E : GE} {F : Nat}   {v0 : Nat} {n : Nat} {G : GH}   : ∀ (K : Nat) (v1 : Int32) (v2 : Int32) (z : Int32), fixN ((fun _ _ => none) : Int32 → Int32 → Option (Int32)) (b_X11_madeMany_4 F   v0 G) K v1 v2 = some z → WG E RX11 "madeMany" cX11_madeMany 3 (some .int) 0 0 0 0 4 [(0, .ref v0), (1, .int v1), (2, .int v2)] [] n G (g_O E (some (.int z), n, G)) := by
  intro K
  refine fixN_ind (P := fun (r : Int32 → Int32 → Option (Int32)) => ∀ (v1 : Int32) (v2 : Int32) (z : Int32), r v1 v2 = some z → WG E RX11 "madeMany" cX11_madeMany 3 (some .int) 0 0 0 0 4 [(0, .ref v0), (1, .int v1), (2, .int v2)] [] n G (g_O E (some (.int z), n, G))) ?_ ?_ K
  · intro v1 v2 z h
    cases h
  · intro rec4 hrec4 v1 v2 z h
    unfold b_X11_madeMany_4 at h
    refine r_iload d_X11_madeMany_4 rfl ?_
    refine r_bipush d_X11_madeMany_5 bp_12 ?_
    refine r_icmp_ge h d_X11_madeMany_7 (fun h => ?_) (fun h => ?_)
    · refine r_iload d_X11_madeMany_29 rfl ?_
      exact r_pret h d_X11_madeMany_30
    · refine r_iload d_X11_madeMany_10 rfl ?_
      refine r_aload d_X11_madeMany_11 rfl ?_
      refine r_getR h d_X11_madeMany_12 pf_X11_7 (fun x1 h => ?_)
      refine r_sipush d_X11_madeMany_15 sp_133 ?_
      refine r_iload d_X11_madeMany_18 rfl ?_
      refine r_iadd d_X11_madeMany_19 ?_
      refine r_iald h d_X11_madeMany_20 (fun x2 h => ?_)
      refine r_iadd d_X11_madeMany_21 ?_
      refine r_nmI h (fun y3 _ h => ?_)
      refine r_istore d_X11_madeMany_22 rfl rfl ?_
      refine r_iinc d_X11_madeMany_23 rfl (ii_1 _) rfl rfl ?_
      refine r_goto d_X11_madeMany_26 ?_
      refine r_lv [(0, .ref v0), (1, .int y3), (2, .int (v2 + 1))] (g_allc rfl (g_allc rfl (g_allc rfl g_alln))) ?_
      exact hrec4 _ _ _ h
set_option maxRecDepth 100000 in
set_option maxHeartbeats 4000000 in
theorem s_X11_madeMany {E : GE} {F : Nat}  {v0 : Nat} {n : Nat} {G : GH} {z : Int32}  (h : f_X11_madeMany F  v0 G = some z) : GM E yX11_madeMany cX11_madeMany 3 (some .int) 0 0 0 0 [.ref v0] n G (some (.int z), n, G) := by
  refine GM.of (by decide) (Nat.le_of_ble_eq_true rfl) ?_
  show WG E RX11 "madeMany" cX11_madeMany 3 (some .int) 0 0 0 0 0 [(0, .ref v0)] [] n G (g_O E (some (.int z), n, G))
  unfold f_X11_madeMany at h
  refine r_iconst d_X11_madeMany_0 ic_0 ?_
  refine r_istore d_X11_madeMany_1 rfl rfl ?_
  refine r_iconst d_X11_madeMany_2 ic_0 ?_
  refine r_istore d_X11_madeMany_3 rfl rfl ?_
  refine r_lv [(0, .ref v0), (1, .int (0 : Int32)), (2, .int (0 : Int32))] (g_allc rfl (g_allc rfl (g_allc rfl g_alln))) ?_
  exact l_X11_madeMany_4   _ _ _ _ h
/-! X11_standMany -/
theorem d_X11_standMany_0 : dec 1 cX11_standMany 0 (.iconst 0) 1 := ⟨by decide +kernel, rfl⟩
theorem d_X11_standMany_1 : decIS cX11_standMany 1 1 2 := Or.inr ⟨1, rfl, by decide +kernel, rfl⟩
theorem d_X11_standMany_2 : dec 1 cX11_standMany 2 (.iconst 0) 3 := ⟨by decide +kernel, rfl⟩
theorem d_X11_standMany_3 : decIS cX11_standMany 3 2 4 := Or.inr ⟨2, rfl, by decide +kernel, rfl⟩
theorem d_X11_standMany_4 : decIL cX11_standMany 4 2 5 := Or.inr ⟨2, rfl, by decide +kernel, rfl⟩
theorem d_X11_standMany_5 : dec 2 cX11_standMany 5 (.bipush 60) 7 := ⟨by decide +kernel, rfl⟩
theorem d_X11_standMany_7 : decB cX11_standMany 7 (.if_icmp .ge 30) (30) 10 37 := ⟨by decide +kernel, rfl, by decide⟩
theorem d_X11_standMany_10 : decIL cX11_standMany 10 1 11 := Or.inr ⟨1, rfl, by decide +kernel, rfl⟩
theorem d_X11_standMany_11 : decAL cX11_standMany 11 0 12 := Or.inr ⟨0, rfl, by decide +kernel, rfl⟩
theorem d_X11_standMany_12 : dec 3 cX11_standMany 12 (.getfield 7) 15 := ⟨by decide +kernel, rfl⟩
theorem d_X11_standMany_15 : dec 3 cX11_standMany 15 (.sipush 146) 18 := ⟨by decide +kernel, rfl⟩
theorem d_X11_standMany_18 : decIL cX11_standMany 18 2 19 := Or.inr ⟨2, rfl, by decide +kernel, rfl⟩
theorem d_X11_standMany_19 : dec 1 cX11_standMany 19 .iadd 20 := ⟨by decide +kernel, rfl⟩
theorem d_X11_standMany_20 : dec 1 cX11_standMany 20 .iaload 21 := ⟨by decide +kernel, rfl⟩
theorem d_X11_standMany_21 : decB cX11_standMany 21 (.ifCond .le 7) (7) 24 28 := ⟨by decide +kernel, rfl, by decide⟩
theorem d_X11_standMany_24 : dec 1 cX11_standMany 24 (.iconst 1) 25 := ⟨by decide +kernel, rfl⟩
theorem d_X11_standMany_25 : decB cX11_standMany 25 (.goto 4) (4) 28 29 := ⟨by decide +kernel, rfl, by decide⟩
theorem d_X11_standMany_28 : dec 1 cX11_standMany 28 (.iconst 0) 29 := ⟨by decide +kernel, rfl⟩
theorem d_X11_standMany_29 : dec 1 cX11_standMany 29 .iadd 30 := ⟨by decide +kernel, rfl⟩
theorem d_X11_standMany_30 : decIS cX11_standMany 30 1 31 := Or.inr ⟨1, rfl, by decide +kernel, rfl⟩
theorem d_X11_standMany_31 : dec 3 cX11_standMany 31 (.iinc 2 1) 34 := ⟨by decide +kernel, rfl⟩
theorem d_X11_standMany_34 : decB cX11_standMany 34 (.goto (-30)) (-30) 37 4 := ⟨by decide +kernel, rfl, by decide⟩
theorem d_X11_standMany_37 : decIL cX11_standMany 37 1 38 := Or.inr ⟨1, rfl, by decide +kernel, rfl⟩
theorem d_X11_standMany_38 : dec 1 cX11_standMany 38 .ireturn 39 := ⟨by decide +kernel, rfl⟩
def b_X11_standMany_4 (F : Nat)   (v0 : Nat) (G : GH) (rec4 : Int32 → Int32 → Option (Int32)) : Int32 → Int32 → Option (Int32) := fun v1 v2 =>
  if (60 : Int32) ≤ v2 then
  (some v1)
  else (Option.bind (gR G v0 11 1) (fun (x1 : Nat) =>
  Option.bind (aI G x1 0 ((146 : Int32) + v2)) (fun (x2 : Int32) =>
  if x2 ≤ 0 then
  (gnm (v1 + (0 : Int32)) (fun (y3 : Int32) =>
  rec4 y3 (v2 + 1)))
  else (gnm (v1 + (1 : Int32)) (fun (y4 : Int32) =>
  rec4 y4 (v2 + 1))))))
def f_X11_standMany (F : Nat)  (v0 : Nat) (G : GH) : Option (Int32) :=
  fixN (fun _ _ => none) (b_X11_standMany_4 F   v0 G) F (0 : Int32) (0 : Int32)
set_option maxRecDepth 100000 in
set_option maxHeartbeats 4000000 in
theorem l_X11_standMany_4 {E : GE} {F : Nat}   {v0 : Nat} {n : Nat} {G : GH}   : ∀ (K : Nat) (v1 : Int32) (v2 : Int32) (z : Int32), fixN ((fun _ _ => none) : Int32 → Int32 → Option (Int32)) (b_X11_standMany_4 F   v0 G) K v1 v2 = some z → WG E RX11 "standMany" cX11_standMany 3 (some .int) 0 0 0 0 4 [(0, .ref v0), (1, .int v1), (2, .int v2)] [] n G (g_O E (some (.int z), n, G)) := by
  intro K
  refine fixN_ind (P := fun (r : Int32 → Int32 → Option (Int32)) => ∀ (v1 : Int32) (v2 : Int32) (z : Int32), r v1 v2 = some z → WG E RX11 "standMany" cX11_standMany 3 (some .int) 0 0 0 0 4 [(0, .ref v0), (1, .int v1), (2, .int v2)] [] n G (g_O E (some (.int z), n, G))) ?_ ?_ K
  · intro v1 v2 z h
    cases h
  · intro rec4 hrec4 v1 v2 z h
    unfold b_X11_standMany_4 at h
    refine r_iload d_X11_standMany_4 rfl ?_
    refine r_bipush d_X11_standMany_5 bp_60 ?_
    refine r_icmp_ge h d_X11_standMany_7 (fun h => ?_) (fun h => ?_)
    · refine r_iload d_X11_standMany_37 rfl ?_
      exact r_pret h d_X11_standMany_38
    · refine r_iload d_X11_standMany_10 rfl ?_
      refine r_aload d_X11_standMany_11 rfl ?_
      refine r_getR h d_X11_standMany_12 pf_X11_7 (fun x1 h => ?_)
      refine r_sipush d_X11_standMany_15 sp_146 ?_
      refine r_iload d_X11_standMany_18 rfl ?_
      refine r_iadd d_X11_standMany_19 ?_
      refine r_iald h d_X11_standMany_20 (fun x2 h => ?_)
      refine r_if_le h d_X11_standMany_21 (fun h => ?_) (fun h => ?_)
      · refine r_iconst d_X11_standMany_28 ic_0 ?_
        refine r_iadd d_X11_standMany_29 ?_
        refine r_nmI h (fun y3 _ h => ?_)
        refine r_istore d_X11_standMany_30 rfl rfl ?_
        refine r_iinc d_X11_standMany_31 rfl (ii_1 _) rfl rfl ?_
        refine r_goto d_X11_standMany_34 ?_
        refine r_lv [(0, .ref v0), (1, .int y3), (2, .int (v2 + 1))] (g_allc rfl (g_allc rfl (g_allc rfl g_alln))) ?_
        exact hrec4 _ _ _ h
      · refine r_iconst d_X11_standMany_24 ic_1 ?_
        refine r_goto d_X11_standMany_25 ?_
        refine r_iadd d_X11_standMany_29 ?_
        refine r_nmI h (fun y4 _ h => ?_)
        refine r_istore d_X11_standMany_30 rfl rfl ?_
        refine r_iinc d_X11_standMany_31 rfl (ii_1 _) rfl rfl ?_
        refine r_goto d_X11_standMany_34 ?_
        refine r_lv [(0, .ref v0), (1, .int y4), (2, .int (v2 + 1))] (g_allc rfl (g_allc rfl (g_allc rfl g_alln))) ?_
        exact hrec4 _ _ _ h
set_option maxRecDepth 100000 in
set_option maxHeartbeats 4000000 in
theorem s_X11_standMany {E : GE} {F : Nat}  {v0 : Nat} {n : Nat} {G : GH} {z : Int32}  (h : f_X11_standMany F  v0 G = some z) : GM E yX11_standMany cX11_standMany 3 (some .int) 0 0 0 0 [.ref v0] n G (some (.int z), n, G) := by
  refine GM.of (by decide) (Nat.le_of_ble_eq_true rfl) ?_
  show WG E RX11 "standMany" cX11_standMany 3 (some .int) 0 0 0 0 0 [(0, .ref v0)] [] n G (g_O E (some (.int z), n, G))
  unfold f_X11_standMany at h
  refine r_iconst d_X11_standMany_0 ic_0 ?_
  refine r_istore d_X11_standMany_1 rfl rfl ?_
  refine r_iconst d_X11_standMany_2 ic_0 ?_
  refine r_istore d_X11_standMany_3 rfl rfl ?_
  refine r_lv [(0, .ref v0), (1, .int (0 : Int32)), (2, .int (0 : Int32))] (g_allc rfl (g_allc rfl (g_allc rfl g_alln))) ?_
  exact l_X11_standMany_4   _ _ _ _ h
/-! X11_count -/
theorem py_X11_valueMany : pY yX11_valueMany cX11_valueMany 3 (some .int) 0 := ⟨g_in 1459 (by decide +kernel) rfl, g_in 104 (by decide +kernel) rfl, by decide, by decide, by decide +kernel⟩
theorem pi_X11_valueMany : pI yX11_valueMany 11 := ⟨g_in 1458 (by decide +kernel) rfl, g_in 72 (by decide +kernel) rfl, (RX11, TX11, 37), rfl, rfl⟩
theorem pl_X11_269 : pL RX11 269 yX11_valueMany := Or.inl (g_in 1456 (by decide +kernel) rfl)
theorem py_X11_madeMany : pY yX11_madeMany cX11_madeMany 3 (some .int) 0 := ⟨g_in 1463 (by decide +kernel) rfl, g_in 104 (by decide +kernel) rfl, by decide, by decide, by decide +kernel⟩
theorem pi_X11_madeMany : pI yX11_madeMany 11 := ⟨g_in 1462 (by decide +kernel) rfl, g_in 73 (by decide +kernel) rfl, (RX11, TX11, 37), rfl, rfl⟩
theorem pl_X11_272 : pL RX11 272 yX11_madeMany := Or.inl (g_in 1460 (by decide +kernel) rfl)
theorem py_X11_standMany : pY yX11_standMany cX11_standMany 3 (some .int) 0 := ⟨g_in 1467 (by decide +kernel) rfl, g_in 104 (by decide +kernel) rfl, by decide, by decide, by decide +kernel⟩
theorem pi_X11_standMany : pI yX11_standMany 11 := ⟨g_in 1466 (by decide +kernel) rfl, g_in 74 (by decide +kernel) rfl, (RX11, TX11, 37), rfl, rfl⟩
theorem pl_X11_275 : pL RX11 275 yX11_standMany := Or.inl (g_in 1464 (by decide +kernel) rfl)
theorem d_X11_count_0 : decAL cX11_count 0 0 1 := Or.inr ⟨0, rfl, by decide +kernel, rfl⟩
theorem d_X11_count_1 : dec 1 cX11_count 1 (.iconst 0) 2 := ⟨by decide +kernel, rfl⟩
theorem d_X11_count_2 : dec 3 cX11_count 2 (.putfield 72) 5 := ⟨by decide +kernel, rfl⟩
theorem d_X11_count_5 : decIL cX11_count 5 1 6 := Or.inr ⟨1, rfl, by decide +kernel, rfl⟩
theorem d_X11_count_6 : decode cX11_count 6 = .ok (.tableswitch 139 0 10 #[58, 65, 74, 83, 88, 93, 98, 103, 112, 121, 130], 58) := by decide +kernel
theorem d_X11_count_64 : decAL cX11_count 64 0 65 := Or.inr ⟨0, rfl, by decide +kernel, rfl⟩
theorem d_X11_count_65 : dec 3 cX11_count 65 (.getfield 7) 68 := ⟨by decide +kernel, rfl⟩
theorem d_X11_count_68 : dec 1 cX11_count 68 (.iconst 0) 69 := ⟨by decide +kernel, rfl⟩
theorem d_X11_count_69 : dec 1 cX11_count 69 .iaload 70 := ⟨by decide +kernel, rfl⟩
theorem d_X11_count_70 : dec 1 cX11_count 70 .ireturn 71 := ⟨by decide +kernel, rfl⟩
theorem d_X11_count_71 : decAL cX11_count 71 0 72 := Or.inr ⟨0, rfl, by decide +kernel, rfl⟩
theorem d_X11_count_72 : dec 3 cX11_count 72 (.getfield 7) 75 := ⟨by decide +kernel, rfl⟩
theorem d_X11_count_75 : dec 3 cX11_count 75 (.sipush 145) 78 := ⟨by decide +kernel, rfl⟩
theorem d_X11_count_78 : dec 1 cX11_count 78 .iaload 79 := ⟨by decide +kernel, rfl⟩
theorem d_X11_count_79 : dec 1 cX11_count 79 .ireturn 80 := ⟨by decide +kernel, rfl⟩
theorem d_X11_count_80 : decAL cX11_count 80 0 81 := Or.inr ⟨0, rfl, by decide +kernel, rfl⟩
theorem d_X11_count_81 : dec 3 cX11_count 81 (.getfield 7) 84 := ⟨by decide +kernel, rfl⟩
theorem d_X11_count_84 : dec 3 cX11_count 84 (.sipush 206) 87 := ⟨by decide +kernel, rfl⟩
theorem d_X11_count_87 : dec 1 cX11_count 87 .iaload 88 := ⟨by decide +kernel, rfl⟩
theorem d_X11_count_88 : dec 1 cX11_count 88 .ireturn 89 := ⟨by decide +kernel, rfl⟩
theorem d_X11_count_89 : decAL cX11_count 89 0 90 := Or.inr ⟨0, rfl, by decide +kernel, rfl⟩
theorem d_X11_count_90 : dec 3 cX11_count 90 (.invokevirtual 269) 93 := ⟨by decide +kernel, rfl⟩
theorem d_X11_count_93 : dec 1 cX11_count 93 .ireturn 94 := ⟨by decide +kernel, rfl⟩
theorem d_X11_count_94 : decAL cX11_count 94 0 95 := Or.inr ⟨0, rfl, by decide +kernel, rfl⟩
theorem d_X11_count_95 : dec 3 cX11_count 95 (.invokevirtual 272) 98 := ⟨by decide +kernel, rfl⟩
theorem d_X11_count_98 : dec 1 cX11_count 98 .ireturn 99 := ⟨by decide +kernel, rfl⟩
theorem d_X11_count_99 : decAL cX11_count 99 0 100 := Or.inr ⟨0, rfl, by decide +kernel, rfl⟩
theorem d_X11_count_100 : dec 3 cX11_count 100 (.invokevirtual 275) 103 := ⟨by decide +kernel, rfl⟩
theorem d_X11_count_103 : dec 1 cX11_count 103 .ireturn 104 := ⟨by decide +kernel, rfl⟩
theorem d_X11_count_104 : decAL cX11_count 104 0 105 := Or.inr ⟨0, rfl, by decide +kernel, rfl⟩
theorem d_X11_count_105 : dec 3 cX11_count 105 (.getfield 193) 108 := ⟨by decide +kernel, rfl⟩
theorem d_X11_count_108 : dec 1 cX11_count 108 .ireturn 109 := ⟨by decide +kernel, rfl⟩
theorem d_X11_count_109 : decAL cX11_count 109 0 110 := Or.inr ⟨0, rfl, by decide +kernel, rfl⟩
theorem d_X11_count_110 : dec 3 cX11_count 110 (.getfield 7) 113 := ⟨by decide +kernel, rfl⟩
theorem d_X11_count_113 : dec 3 cX11_count 113 (.sipush 891) 116 := ⟨by decide +kernel, rfl⟩
theorem d_X11_count_116 : dec 1 cX11_count 116 .iaload 117 := ⟨by decide +kernel, rfl⟩
theorem d_X11_count_117 : dec 1 cX11_count 117 .ireturn 118 := ⟨by decide +kernel, rfl⟩
theorem d_X11_count_118 : decAL cX11_count 118 0 119 := Or.inr ⟨0, rfl, by decide +kernel, rfl⟩
theorem d_X11_count_119 : dec 3 cX11_count 119 (.getfield 7) 122 := ⟨by decide +kernel, rfl⟩
theorem d_X11_count_122 : dec 3 cX11_count 122 (.sipush 748) 125 := ⟨by decide +kernel, rfl⟩
theorem d_X11_count_125 : dec 1 cX11_count 125 .iaload 126 := ⟨by decide +kernel, rfl⟩
theorem d_X11_count_126 : dec 1 cX11_count 126 .ireturn 127 := ⟨by decide +kernel, rfl⟩
theorem d_X11_count_127 : decAL cX11_count 127 0 128 := Or.inr ⟨0, rfl, by decide +kernel, rfl⟩
theorem d_X11_count_128 : dec 3 cX11_count 128 (.getfield 7) 131 := ⟨by decide +kernel, rfl⟩
theorem d_X11_count_131 : dec 3 cX11_count 131 (.sipush 809) 134 := ⟨by decide +kernel, rfl⟩
theorem d_X11_count_134 : dec 1 cX11_count 134 .iaload 135 := ⟨by decide +kernel, rfl⟩
theorem d_X11_count_135 : dec 1 cX11_count 135 .ireturn 136 := ⟨by decide +kernel, rfl⟩
theorem d_X11_count_136 : decAL cX11_count 136 0 137 := Or.inr ⟨0, rfl, by decide +kernel, rfl⟩
theorem d_X11_count_137 : dec 3 cX11_count 137 (.getfield 7) 140 := ⟨by decide +kernel, rfl⟩
theorem d_X11_count_140 : dec 3 cX11_count 140 (.sipush 810) 143 := ⟨by decide +kernel, rfl⟩
theorem d_X11_count_143 : dec 1 cX11_count 143 .iaload 144 := ⟨by decide +kernel, rfl⟩
theorem d_X11_count_144 : dec 1 cX11_count 144 .ireturn 145 := ⟨by decide +kernel, rfl⟩
theorem d_X11_count_145 : dec 1 cX11_count 145 (.iconst (-1)) 146 := ⟨by decide +kernel, rfl⟩
theorem d_X11_count_146 : dec 1 cX11_count 146 .ireturn 147 := ⟨by decide +kernel, rfl⟩
def f_X11_count (F : Nat)  (v0 : Nat) (v1 : Int32) (n : Nat) (G : GH) : Option (Int32 × Nat × GH) :=
  Option.bind (pV G v0 11 0 (.int (0 : Int32))) (fun (G1 : GH) =>
  g_sw v1 [Option.bind (gR G1 v0 11 1) (fun (x2 : Nat) =>
  Option.bind (aI G1 x2 0 (0 : Int32)) (fun (x3 : Int32) =>
  some (x3, n, G1))),
  Option.bind (gR G1 v0 11 1) (fun (x4 : Nat) =>
  Option.bind (aI G1 x4 0 (145 : Int32)) (fun (x5 : Int32) =>
  some (x5, n, G1))),
  Option.bind (gR G1 v0 11 1) (fun (x6 : Nat) =>
  Option.bind (aI G1 x6 0 (206 : Int32)) (fun (x7 : Int32) =>
  some (x7, n, G1))),
  cvP G1 v0 11 (f_X11_valueMany F v0 G1) (fun (x8 : Int32) =>
  some (x8, n, G1)),
  cvP G1 v0 11 (f_X11_madeMany F v0 G1) (fun (x9 : Int32) =>
  some (x9, n, G1)),
  cvP G1 v0 11 (f_X11_standMany F v0 G1) (fun (x10 : Int32) =>
  some (x10, n, G1)),
  Option.bind (gI G1 v0 11 5) (fun (x11 : Int32) =>
  some (x11, n, G1)),
  Option.bind (gR G1 v0 11 1) (fun (x12 : Nat) =>
  Option.bind (aI G1 x12 0 (891 : Int32)) (fun (x13 : Int32) =>
  some (x13, n, G1))),
  Option.bind (gR G1 v0 11 1) (fun (x14 : Nat) =>
  Option.bind (aI G1 x14 0 (748 : Int32)) (fun (x15 : Int32) =>
  some (x15, n, G1))),
  Option.bind (gR G1 v0 11 1) (fun (x16 : Nat) =>
  Option.bind (aI G1 x16 0 (809 : Int32)) (fun (x17 : Int32) =>
  some (x17, n, G1))),
  Option.bind (gR G1 v0 11 1) (fun (x18 : Nat) =>
  Option.bind (aI G1 x18 0 (810 : Int32)) (fun (x19 : Int32) =>
  some (x19, n, G1)))] (some ((-1 : Int32), n, G1)) 0)
set_option maxRecDepth 100000 in
set_option maxHeartbeats 4000000 in
theorem s_X11_count {E : GE} {F : Nat}  {v0 : Nat} {v1 : Int32} {n : Nat} {G : GH} {z : Int32 × Nat × GH}  (h : f_X11_count F  v0 v1 n G = some z) : GM E yX11_count cX11_count 2 (some .int) 2 44 0 0 [.ref v0, .int v1] n G (some (.int z.1), z.2.1, z.2.2) := by
  refine GM.of (by decide) (Nat.le_of_ble_eq_true rfl) ?_
  show WG E RX11 "count" cX11_count 2 (some .int) 2 44 0 0 0 [(0, .ref v0), (1, .int v1)] [] n G (g_O E (some (.int z.1), z.2.1, z.2.2))
  unfold f_X11_count at h
  refine r_aload d_X11_count_0 rfl ?_
  refine r_iconst d_X11_count_1 ic_0 ?_
  refine r_put h d_X11_count_2 pw_X11_72 rfl rfl (fun G1 h => ?_)
  refine r_iload d_X11_count_5 rfl ?_
  refine r_switch (tg := 145) h [64, 71, 80, 89, 94, 99, 104, 109, 118, 127, 136] d_X11_count_6 rfl rfl rfl (by decide) rfl (by decide) (g_swPc (fun h => ?_) (g_swPc (fun h => ?_) (g_swPc (fun h => ?_) (g_swPc (fun h => ?_) (g_swPc (fun h => ?_) (g_swPc (fun h => ?_) (g_swPc (fun h => ?_) (g_swPc (fun h => ?_) (g_swPc (fun h => ?_) (g_swPc (fun h => ?_) (g_swPc (fun h => ?_) (g_swPn)))))))))))) (fun h => ?_)
  · refine r_aload d_X11_count_64 rfl ?_
    refine r_getR h d_X11_count_65 pf_X11_7 (fun x2 h => ?_)
    refine r_iconst d_X11_count_68 ic_0 ?_
    refine r_iald h d_X11_count_69 (fun x3 h => ?_)
    exact r_iret h d_X11_count_70
  · refine r_aload d_X11_count_71 rfl ?_
    refine r_getR h d_X11_count_72 pf_X11_7 (fun x4 h => ?_)
    refine r_sipush d_X11_count_75 sp_145 ?_
    refine r_iald h d_X11_count_78 (fun x5 h => ?_)
    exact r_iret h d_X11_count_79
  · refine r_aload d_X11_count_80 rfl ?_
    refine r_getR h d_X11_count_81 pf_X11_7 (fun x6 h => ?_)
    refine r_sipush d_X11_count_84 sp_206 ?_
    refine r_iald h d_X11_count_87 (fun x7 h => ?_)
    exact r_iret h d_X11_count_88
  · refine r_aload d_X11_count_89 rfl ?_
    refine r_invP [] h (fun _ hq => s_X11_valueMany hq) d_X11_count_90 pl_X11_269 py_X11_valueMany pi_X11_valueMany rfl rfl rfl (fun x8 h => ?_)
    exact r_iret h d_X11_count_93
  · refine r_aload d_X11_count_94 rfl ?_
    refine r_invP [] h (fun _ hq => s_X11_madeMany hq) d_X11_count_95 pl_X11_272 py_X11_madeMany pi_X11_madeMany rfl rfl rfl (fun x9 h => ?_)
    exact r_iret h d_X11_count_98
  · refine r_aload d_X11_count_99 rfl ?_
    refine r_invP [] h (fun _ hq => s_X11_standMany hq) d_X11_count_100 pl_X11_275 py_X11_standMany pi_X11_standMany rfl rfl rfl (fun x10 h => ?_)
    exact r_iret h d_X11_count_103
  · refine r_aload d_X11_count_104 rfl ?_
    refine r_getI h d_X11_count_105 pf_X11_193 (fun x11 h => ?_)
    exact r_iret h d_X11_count_108
  · refine r_aload d_X11_count_109 rfl ?_
    refine r_getR h d_X11_count_110 pf_X11_7 (fun x12 h => ?_)
    refine r_sipush d_X11_count_113 sp_891 ?_
    refine r_iald h d_X11_count_116 (fun x13 h => ?_)
    exact r_iret h d_X11_count_117
  · refine r_aload d_X11_count_118 rfl ?_
    refine r_getR h d_X11_count_119 pf_X11_7 (fun x14 h => ?_)
    refine r_sipush d_X11_count_122 sp_748 ?_
    refine r_iald h d_X11_count_125 (fun x15 h => ?_)
    exact r_iret h d_X11_count_126
  · refine r_aload d_X11_count_127 rfl ?_
    refine r_getR h d_X11_count_128 pf_X11_7 (fun x16 h => ?_)
    refine r_sipush d_X11_count_131 sp_809 ?_
    refine r_iald h d_X11_count_134 (fun x17 h => ?_)
    exact r_iret h d_X11_count_135
  · refine r_aload d_X11_count_136 rfl ?_
    refine r_getR h d_X11_count_137 pf_X11_7 (fun x18 h => ?_)
    refine r_sipush d_X11_count_140 sp_810 ?_
    refine r_iald h d_X11_count_143 (fun x19 h => ?_)
    exact r_iret h d_X11_count_144
  · refine r_iconst d_X11_count_145 ic_m1 ?_
    exact r_iret h d_X11_count_146
/-! X11_thingsOf -/
theorem d_X11_thingsOf_0 : dec 1 cX11_thingsOf 0 (.iconst 0) 1 := ⟨by decide +kernel, rfl⟩
theorem d_X11_thingsOf_1 : decIS cX11_thingsOf 1 2 2 := Or.inr ⟨2, rfl, by decide +kernel, rfl⟩
theorem d_X11_thingsOf_2 : dec 1 cX11_thingsOf 2 (.iconst 0) 3 := ⟨by decide +kernel, rfl⟩
theorem d_X11_thingsOf_3 : decIS cX11_thingsOf 3 3 4 := Or.inr ⟨3, rfl, by decide +kernel, rfl⟩
theorem d_X11_thingsOf_4 : decIL cX11_thingsOf 4 3 5 := Or.inr ⟨3, rfl, by decide +kernel, rfl⟩
theorem d_X11_thingsOf_5 : decAL cX11_thingsOf 5 0 6 := Or.inr ⟨0, rfl, by decide +kernel, rfl⟩
theorem d_X11_thingsOf_6 : dec 3 cX11_thingsOf 6 (.getfield 7) 9 := ⟨by decide +kernel, rfl⟩
theorem d_X11_thingsOf_9 : dec 3 cX11_thingsOf 9 (.sipush 206) 12 := ⟨by decide +kernel, rfl⟩
theorem d_X11_thingsOf_12 : dec 1 cX11_thingsOf 12 .iaload 13 := ⟨by decide +kernel, rfl⟩
theorem d_X11_thingsOf_13 : decB cX11_thingsOf 13 (.if_icmp .ge 27) (27) 16 40 := ⟨by decide +kernel, rfl, by decide⟩
theorem d_X11_thingsOf_16 : decIL cX11_thingsOf 16 2 17 := Or.inr ⟨2, rfl, by decide +kernel, rfl⟩
theorem d_X11_thingsOf_17 : decAL cX11_thingsOf 17 0 18 := Or.inr ⟨0, rfl, by decide +kernel, rfl⟩
theorem d_X11_thingsOf_18 : decIL cX11_thingsOf 18 3 19 := Or.inr ⟨3, rfl, by decide +kernel, rfl⟩
theorem d_X11_thingsOf_19 : dec 1 cX11_thingsOf 19 (.iconst 0) 20 := ⟨by decide +kernel, rfl⟩
theorem d_X11_thingsOf_20 : dec 3 cX11_thingsOf 20 (.invokevirtual 196) 23 := ⟨by decide +kernel, rfl⟩
theorem d_X11_thingsOf_23 : decIL cX11_thingsOf 23 1 24 := Or.inr ⟨1, rfl, by decide +kernel, rfl⟩
theorem d_X11_thingsOf_24 : decB cX11_thingsOf 24 (.if_icmp .ne 7) (7) 27 31 := ⟨by decide +kernel, rfl, by decide⟩
theorem d_X11_thingsOf_27 : dec 1 cX11_thingsOf 27 (.iconst 1) 28 := ⟨by decide +kernel, rfl⟩
theorem d_X11_thingsOf_28 : decB cX11_thingsOf 28 (.goto 4) (4) 31 32 := ⟨by decide +kernel, rfl, by decide⟩
theorem d_X11_thingsOf_31 : dec 1 cX11_thingsOf 31 (.iconst 0) 32 := ⟨by decide +kernel, rfl⟩
theorem d_X11_thingsOf_32 : dec 1 cX11_thingsOf 32 .iadd 33 := ⟨by decide +kernel, rfl⟩
theorem d_X11_thingsOf_33 : decIS cX11_thingsOf 33 2 34 := Or.inr ⟨2, rfl, by decide +kernel, rfl⟩
theorem d_X11_thingsOf_34 : dec 3 cX11_thingsOf 34 (.iinc 3 1) 37 := ⟨by decide +kernel, rfl⟩
theorem d_X11_thingsOf_37 : decB cX11_thingsOf 37 (.goto (-33)) (-33) 40 4 := ⟨by decide +kernel, rfl, by decide⟩
theorem d_X11_thingsOf_40 : decIL cX11_thingsOf 40 2 41 := Or.inr ⟨2, rfl, by decide +kernel, rfl⟩
theorem d_X11_thingsOf_41 : dec 1 cX11_thingsOf 41 .ireturn 42 := ⟨by decide +kernel, rfl⟩
def b_X11_thingsOf_4 (F : Nat)   (v0 : Nat) (v1 : Int32) (G : GH) (rec4 : Int32 → Int32 → Option (Int32)) : Int32 → Int32 → Option (Int32) := fun v2 v3 =>
  Option.bind (gR G v0 11 1) (fun (x1 : Nat) =>
  Option.bind (aI G x1 0 (206 : Int32)) (fun (x2 : Int32) =>
  if x2 ≤ v3 then
  (some v2)
  else (cvP G v0 11 (f_X11_its F v0 v3 (0 : Int32) G) (fun (x3 : Int32) =>
  if x3 = v1 then
  (gnm (v2 + (1 : Int32)) (fun (y5 : Int32) =>
  rec4 y5 (v3 + 1)))
  else (gnm (v2 + (0 : Int32)) (fun (y4 : Int32) =>
  rec4 y4 (v3 + 1)))))))
def f_X11_thingsOf (F : Nat)  (v0 : Nat) (v1 : Int32) (G : GH) : Option (Int32) :=
  fixN (fun _ _ => none) (b_X11_thingsOf_4 F   v0 v1 G) F (0 : Int32) (0 : Int32)
set_option maxRecDepth 100000 in
set_option maxHeartbeats 4000000 in
theorem l_X11_thingsOf_4 {E : GE} {F : Nat}   {v0 : Nat} {v1 : Int32} {n : Nat} {G : GH}   : ∀ (K : Nat) (v2 : Int32) (v3 : Int32) (z : Int32), fixN ((fun _ _ => none) : Int32 → Int32 → Option (Int32)) (b_X11_thingsOf_4 F   v0 v1 G) K v2 v3 = some z → WG E RX11 "thingsOf" cX11_thingsOf 4 (some .int) 1 22 0 0 4 [(0, .ref v0), (1, .int v1), (2, .int v2), (3, .int v3)] [] n G (g_O E (some (.int z), n, G)) := by
  intro K
  refine fixN_ind (P := fun (r : Int32 → Int32 → Option (Int32)) => ∀ (v2 : Int32) (v3 : Int32) (z : Int32), r v2 v3 = some z → WG E RX11 "thingsOf" cX11_thingsOf 4 (some .int) 1 22 0 0 4 [(0, .ref v0), (1, .int v1), (2, .int v2), (3, .int v3)] [] n G (g_O E (some (.int z), n, G))) ?_ ?_ K
  · intro v2 v3 z h
    cases h
  · intro rec4 hrec4 v2 v3 z h
    unfold b_X11_thingsOf_4 at h
    refine r_iload d_X11_thingsOf_4 rfl ?_
    refine r_aload d_X11_thingsOf_5 rfl ?_
    refine r_getR h d_X11_thingsOf_6 pf_X11_7 (fun x1 h => ?_)
    refine r_sipush d_X11_thingsOf_9 sp_206 ?_
    refine r_iald h d_X11_thingsOf_12 (fun x2 h => ?_)
    refine r_icmp_ge h d_X11_thingsOf_13 (fun h => ?_) (fun h => ?_)
    · refine r_iload d_X11_thingsOf_40 rfl ?_
      exact r_pret h d_X11_thingsOf_41
    · refine r_iload d_X11_thingsOf_16 rfl ?_
      refine r_aload d_X11_thingsOf_17 rfl ?_
      refine r_iload d_X11_thingsOf_18 rfl ?_
      refine r_iconst d_X11_thingsOf_19 ic_0 ?_
      refine r_invP [_, _] h (fun _ hq => s_X11_its hq) d_X11_thingsOf_20 pl_X11_196 py_X11_its pi_X11_its rfl rfl rfl (fun x3 h => ?_)
      refine r_iload d_X11_thingsOf_23 rfl ?_
      refine r_icmp_ne h d_X11_thingsOf_24 (fun h => ?_) (fun h => ?_)
      · refine r_iconst d_X11_thingsOf_31 ic_0 ?_
        refine r_iadd d_X11_thingsOf_32 ?_
        refine r_nmI h (fun y4 _ h => ?_)
        refine r_istore d_X11_thingsOf_33 rfl rfl ?_
        refine r_iinc d_X11_thingsOf_34 rfl (ii_1 _) rfl rfl ?_
        refine r_goto d_X11_thingsOf_37 ?_
        refine r_lv [(0, .ref v0), (1, .int v1), (2, .int y4), (3, .int (v3 + 1))] (g_allc rfl (g_allc rfl (g_allc rfl (g_allc rfl g_alln)))) ?_
        exact hrec4 _ _ _ h
      · refine r_iconst d_X11_thingsOf_27 ic_1 ?_
        refine r_goto d_X11_thingsOf_28 ?_
        refine r_iadd d_X11_thingsOf_32 ?_
        refine r_nmI h (fun y5 _ h => ?_)
        refine r_istore d_X11_thingsOf_33 rfl rfl ?_
        refine r_iinc d_X11_thingsOf_34 rfl (ii_1 _) rfl rfl ?_
        refine r_goto d_X11_thingsOf_37 ?_
        refine r_lv [(0, .ref v0), (1, .int v1), (2, .int y5), (3, .int (v3 + 1))] (g_allc rfl (g_allc rfl (g_allc rfl (g_allc rfl g_alln)))) ?_
        exact hrec4 _ _ _ h
set_option maxRecDepth 100000 in
set_option maxHeartbeats 4000000 in
theorem s_X11_thingsOf {E : GE} {F : Nat}  {v0 : Nat} {v1 : Int32} {n : Nat} {G : GH} {z : Int32}  (h : f_X11_thingsOf F  v0 v1 G = some z) : GM E yX11_thingsOf cX11_thingsOf 4 (some .int) 1 22 0 0 [.ref v0, .int v1] n G (some (.int z), n, G) := by
  refine GM.of (by decide) (Nat.le_of_ble_eq_true rfl) ?_
  show WG E RX11 "thingsOf" cX11_thingsOf 4 (some .int) 1 22 0 0 0 [(0, .ref v0), (1, .int v1)] [] n G (g_O E (some (.int z), n, G))
  unfold f_X11_thingsOf at h
  refine r_iconst d_X11_thingsOf_0 ic_0 ?_
  refine r_istore d_X11_thingsOf_1 rfl rfl ?_
  refine r_iconst d_X11_thingsOf_2 ic_0 ?_
  refine r_istore d_X11_thingsOf_3 rfl rfl ?_
  refine r_lv [(0, .ref v0), (1, .int v1), (2, .int (0 : Int32)), (3, .int (0 : Int32))] (g_allc rfl (g_allc rfl (g_allc rfl (g_allc rfl g_alln)))) ?_
  exact l_X11_thingsOf_4   _ _ _ _ h
/-! X11_part -/
theorem py_X11_thingsOf : pY yX11_thingsOf cX11_thingsOf 4 (some .int) 1 := ⟨g_in 1475 (by decide +kernel) rfl, g_in 104 (by decide +kernel) rfl, by decide, by decide, by decide +kernel⟩
theorem pi_X11_thingsOf : pI yX11_thingsOf 11 := ⟨g_in 1474 (by decide +kernel) rfl, g_in 75 (by decide +kernel) rfl, (RX11, TX11, 37), rfl, rfl⟩
theorem pl_X11_278 : pL RX11 278 yX11_thingsOf := Or.inl (g_in 1472 (by decide +kernel) rfl)
theorem d_X11_part_0 : decAL cX11_part 0 0 1 := Or.inr ⟨0, rfl, by decide +kernel, rfl⟩
theorem d_X11_part_1 : decAL cX11_part 1 0 2 := Or.inr ⟨0, rfl, by decide +kernel, rfl⟩
theorem d_X11_part_2 : decIL cX11_part 2 1 3 := Or.inr ⟨1, rfl, by decide +kernel, rfl⟩
theorem d_X11_part_3 : dec 3 cX11_part 3 (.invokevirtual 260) 6 := ⟨by decide +kernel, rfl⟩
theorem d_X11_part_6 : decB cX11_part 6 (.ifCond .eq 17) (17) 9 23 := ⟨by decide +kernel, rfl, by decide⟩
theorem d_X11_part_9 : decIL cX11_part 9 2 10 := Or.inr ⟨2, rfl, by decide +kernel, rfl⟩
theorem d_X11_part_10 : dec 1 cX11_part 10 (.iconst 0) 11 := ⟨by decide +kernel, rfl⟩
theorem d_X11_part_11 : dec 2 cX11_part 11 (.bipush 8) 13 := ⟨by decide +kernel, rfl⟩
theorem d_X11_part_13 : dec 3 cX11_part 13 (.invokestatic 80) 16 := ⟨by decide +kernel, rfl⟩
theorem d_X11_part_16 : decB cX11_part 16 (.ifCond .eq 7) (7) 19 23 := ⟨by decide +kernel, rfl, by decide⟩
theorem d_X11_part_19 : dec 1 cX11_part 19 (.iconst 0) 20 := ⟨by decide +kernel, rfl⟩
theorem d_X11_part_20 : decB cX11_part 20 (.goto 4) (4) 23 24 := ⟨by decide +kernel, rfl, by decide⟩
theorem d_X11_part_23 : dec 1 cX11_part 23 (.iconst 1) 24 := ⟨by decide +kernel, rfl⟩
theorem d_X11_part_24 : dec 3 cX11_part 24 (.putfield 72) 27 := ⟨by decide +kernel, rfl⟩
theorem d_X11_part_27 : decAL cX11_part 27 0 28 := Or.inr ⟨0, rfl, by decide +kernel, rfl⟩
theorem d_X11_part_28 : dec 3 cX11_part 28 (.getfield 72) 31 := ⟨by decide +kernel, rfl⟩
theorem d_X11_part_31 : decB cX11_part 31 (.ifCond .le 5) (5) 34 36 := ⟨by decide +kernel, rfl, by decide⟩
theorem d_X11_part_34 : dec 1 cX11_part 34 (.iconst 0) 35 := ⟨by decide +kernel, rfl⟩
theorem d_X11_part_35 : dec 1 cX11_part 35 .ireturn 36 := ⟨by decide +kernel, rfl⟩
theorem d_X11_part_36 : decIL cX11_part 36 2 37 := Or.inr ⟨2, rfl, by decide +kernel, rfl⟩
theorem d_X11_part_37 : decode cX11_part 37 = .ok (.tableswitch 111 0 7 #[47, 54, 61, 68, 76, 84, 92, 103], 47) := by decide +kernel
theorem d_X11_part_84 : decAL cX11_part 84 0 85 := Or.inr ⟨0, rfl, by decide +kernel, rfl⟩
theorem d_X11_part_85 : decIL cX11_part 85 1 86 := Or.inr ⟨1, rfl, by decide +kernel, rfl⟩
theorem d_X11_part_86 : dec 1 cX11_part 86 (.iconst 0) 87 := ⟨by decide +kernel, rfl⟩
theorem d_X11_part_87 : dec 3 cX11_part 87 (.invokevirtual 76) 90 := ⟨by decide +kernel, rfl⟩
theorem d_X11_part_90 : dec 1 cX11_part 90 .ireturn 91 := ⟨by decide +kernel, rfl⟩
theorem d_X11_part_91 : decAL cX11_part 91 0 92 := Or.inr ⟨0, rfl, by decide +kernel, rfl⟩
theorem d_X11_part_92 : decIL cX11_part 92 1 93 := Or.inr ⟨1, rfl, by decide +kernel, rfl⟩
theorem d_X11_part_93 : dec 1 cX11_part 93 (.iconst 1) 94 := ⟨by decide +kernel, rfl⟩
theorem d_X11_part_94 : dec 3 cX11_part 94 (.invokevirtual 76) 97 := ⟨by decide +kernel, rfl⟩
theorem d_X11_part_97 : dec 1 cX11_part 97 .ireturn 98 := ⟨by decide +kernel, rfl⟩
theorem d_X11_part_98 : decAL cX11_part 98 0 99 := Or.inr ⟨0, rfl, by decide +kernel, rfl⟩
theorem d_X11_part_99 : decIL cX11_part 99 1 100 := Or.inr ⟨1, rfl, by decide +kernel, rfl⟩
theorem d_X11_part_100 : dec 1 cX11_part 100 (.iconst 2) 101 := ⟨by decide +kernel, rfl⟩
theorem d_X11_part_101 : dec 3 cX11_part 101 (.invokevirtual 76) 104 := ⟨by decide +kernel, rfl⟩
theorem d_X11_part_104 : dec 1 cX11_part 104 .ireturn 105 := ⟨by decide +kernel, rfl⟩
theorem d_X11_part_105 : decAL cX11_part 105 0 106 := Or.inr ⟨0, rfl, by decide +kernel, rfl⟩
theorem d_X11_part_106 : decIL cX11_part 106 1 107 := Or.inr ⟨1, rfl, by decide +kernel, rfl⟩
theorem d_X11_part_107 : dec 2 cX11_part 107 (.bipush 8) 109 := ⟨by decide +kernel, rfl⟩
theorem d_X11_part_109 : dec 3 cX11_part 109 (.invokevirtual 76) 112 := ⟨by decide +kernel, rfl⟩
theorem d_X11_part_112 : dec 1 cX11_part 112 .ireturn 113 := ⟨by decide +kernel, rfl⟩
theorem d_X11_part_113 : decAL cX11_part 113 0 114 := Or.inr ⟨0, rfl, by decide +kernel, rfl⟩
theorem d_X11_part_114 : decIL cX11_part 114 1 115 := Or.inr ⟨1, rfl, by decide +kernel, rfl⟩
theorem d_X11_part_115 : dec 2 cX11_part 115 (.bipush 9) 117 := ⟨by decide +kernel, rfl⟩
theorem d_X11_part_117 : dec 3 cX11_part 117 (.invokevirtual 76) 120 := ⟨by decide +kernel, rfl⟩
theorem d_X11_part_120 : dec 1 cX11_part 120 .ireturn 121 := ⟨by decide +kernel, rfl⟩
theorem d_X11_part_121 : decAL cX11_part 121 0 122 := Or.inr ⟨0, rfl, by decide +kernel, rfl⟩
theorem d_X11_part_122 : decIL cX11_part 122 1 123 := Or.inr ⟨1, rfl, by decide +kernel, rfl⟩
theorem d_X11_part_123 : dec 2 cX11_part 123 (.bipush 10) 125 := ⟨by decide +kernel, rfl⟩
theorem d_X11_part_125 : dec 3 cX11_part 125 (.invokevirtual 76) 128 := ⟨by decide +kernel, rfl⟩
theorem d_X11_part_128 : dec 1 cX11_part 128 .ireturn 129 := ⟨by decide +kernel, rfl⟩
theorem d_X11_part_129 : decAL cX11_part 129 0 130 := Or.inr ⟨0, rfl, by decide +kernel, rfl⟩
theorem d_X11_part_130 : dec 3 cX11_part 130 (.getfield 7) 133 := ⟨by decide +kernel, rfl⟩
theorem d_X11_part_133 : dec 3 cX11_part 133 (.sipush 133) 136 := ⟨by decide +kernel, rfl⟩
theorem d_X11_part_136 : decIL cX11_part 136 1 137 := Or.inr ⟨1, rfl, by decide +kernel, rfl⟩
theorem d_X11_part_137 : dec 1 cX11_part 137 .iadd 138 := ⟨by decide +kernel, rfl⟩
theorem d_X11_part_138 : dec 1 cX11_part 138 .iaload 139 := ⟨by decide +kernel, rfl⟩
theorem d_X11_part_139 : dec 1 cX11_part 139 .ireturn 140 := ⟨by decide +kernel, rfl⟩
theorem d_X11_part_140 : decAL cX11_part 140 0 141 := Or.inr ⟨0, rfl, by decide +kernel, rfl⟩
theorem d_X11_part_141 : decIL cX11_part 141 1 142 := Or.inr ⟨1, rfl, by decide +kernel, rfl⟩
theorem d_X11_part_142 : dec 2 cX11_part 142 (.bipush 7) 144 := ⟨by decide +kernel, rfl⟩
theorem d_X11_part_144 : dec 3 cX11_part 144 (.invokevirtual 76) 147 := ⟨by decide +kernel, rfl⟩
theorem d_X11_part_147 : dec 1 cX11_part 147 .ireturn 148 := ⟨by decide +kernel, rfl⟩
theorem d_X11_part_148 : decAL cX11_part 148 0 149 := Or.inr ⟨0, rfl, by decide +kernel, rfl⟩
theorem d_X11_part_149 : decIL cX11_part 149 1 150 := Or.inr ⟨1, rfl, by decide +kernel, rfl⟩
theorem d_X11_part_150 : dec 3 cX11_part 150 (.invokevirtual 278) 153 := ⟨by decide +kernel, rfl⟩
theorem d_X11_part_153 : dec 1 cX11_part 153 .ireturn 154 := ⟨by decide +kernel, rfl⟩
def k_X11_part_24 (F : Nat)   (v0 : Nat) (v1 : Int32) (v2 : Int32) (s0 : Nat) (s1 : Int32) (n : Nat) (G : GH) : Option (Int32 × Nat × GH) :=
  Option.bind (pV G s0 11 0 (.int s1)) (fun (G2 : GH) =>
  Option.bind (gI G2 v0 11 0) (fun (x3 : Int32) =>
  if x3 ≤ 0 then
  (g_sw v2 [cvP G2 v0 11 (f_X11_of F v0 v1 (0 : Int32) G2) (fun (x4 : Int32) =>
  some (x4, n, G2)),
  cvP G2 v0 11 (f_X11_of F v0 v1 (1 : Int32) G2) (fun (x5 : Int32) =>
  some (x5, n, G2)),
  cvP G2 v0 11 (f_X11_of F v0 v1 (2 : Int32) G2) (fun (x6 : Int32) =>
  some (x6, n, G2)),
  cvP G2 v0 11 (f_X11_of F v0 v1 (8 : Int32) G2) (fun (x7 : Int32) =>
  some (x7, n, G2)),
  cvP G2 v0 11 (f_X11_of F v0 v1 (9 : Int32) G2) (fun (x8 : Int32) =>
  some (x8, n, G2)),
  cvP G2 v0 11 (f_X11_of F v0 v1 (10 : Int32) G2) (fun (x9 : Int32) =>
  some (x9, n, G2)),
  Option.bind (gR G2 v0 11 1) (fun (x10 : Nat) =>
  Option.bind (aI G2 x10 0 ((133 : Int32) + v1)) (fun (x11 : Int32) =>
  some (x11, n, G2))),
  cvP G2 v0 11 (f_X11_of F v0 v1 (7 : Int32) G2) (fun (x12 : Int32) =>
  some (x12, n, G2))] (cvP G2 v0 11 (f_X11_thingsOf F v0 v1 G2) (fun (x13 : Int32) =>
  some (x13, n, G2))) 0)
  else (some ((0 : Int32), n, G2))))
def k_X11_part_23 (F : Nat)   (v0 : Nat) (v1 : Int32) (v2 : Int32) (s0 : Nat) (n : Nat) (G : GH) : Option (Int32 × Nat × GH) :=
  k_X11_part_24 F   v0 v1 v2 s0 (1 : Int32) n G
def f_X11_part (F : Nat)  (v0 : Nat) (v1 : Int32) (v2 : Int32) (n : Nat) (G : GH) : Option (Int32 × Nat × GH) :=
  cvP G v0 11 (f_X11_isPart F v0 v1 G) (fun (x1 : Int32) =>
  if x1 = 0 then
  (k_X11_part_23 F   v0 v1 v2 v0 n G)
  else (Option.bind (f_X11_in F v2 (0 : Int32) (8 : Int32) G) (fun (x14 : Int32) =>
  if x14 = 0 then
  (k_X11_part_23 F   v0 v1 v2 v0 n G)
  else (k_X11_part_24 F   v0 v1 v2 v0 (0 : Int32) n G))))
set_option maxRecDepth 100000 in
set_option maxHeartbeats 4000000 in
theorem c_X11_part_24 {E : GE} {F : Nat}   {v0 : Nat} {v1 : Int32} {v2 : Int32} {s0 : Nat} {s1 : Int32} {n : Nat} {G : GH} {z : Int32 × Nat × GH}   (h : k_X11_part_24 F   v0 v1 v2 s0 s1 n G = some z) : WG E RX11 "part" cX11_part 3 (some .int) 2 45 0 0 24 [(0, .ref v0), (1, .int v1), (2, .int v2)] [.int s1, .ref s0] n G (g_O E (some (.int z.1), z.2.1, z.2.2)) := by
  unfold k_X11_part_24 at h
  refine r_put h d_X11_part_24 pw_X11_72 rfl rfl (fun G2 h => ?_)
  refine r_aload d_X11_part_27 rfl ?_
  refine r_getI h d_X11_part_28 pf_X11_72 (fun x3 h => ?_)
  refine r_if_le h d_X11_part_31 (fun h => ?_) (fun h => ?_)
  · refine r_iload d_X11_part_36 rfl ?_
    refine r_switch (tg := 148) h [84, 91, 98, 105, 113, 121, 129, 140] d_X11_part_37 rfl rfl rfl (by decide) rfl (by decide) (g_swPc (fun h => ?_) (g_swPc (fun h => ?_) (g_swPc (fun h => ?_) (g_swPc (fun h => ?_) (g_swPc (fun h => ?_) (g_swPc (fun h => ?_) (g_swPc (fun h => ?_) (g_swPc (fun h => ?_) (g_swPn))))))))) (fun h => ?_)
    · refine r_aload d_X11_part_84 rfl ?_
      refine r_iload d_X11_part_85 rfl ?_
      refine r_iconst d_X11_part_86 ic_0 ?_
      refine r_invP [_, _] h (fun _ hq => s_X11_of hq) d_X11_part_87 pl_X11_76 py_X11_of pi_X11_of rfl rfl rfl (fun x4 h => ?_)
      exact r_iret h d_X11_part_90
    · refine r_aload d_X11_part_91 rfl ?_
      refine r_iload d_X11_part_92 rfl ?_
      refine r_iconst d_X11_part_93 ic_1 ?_
      refine r_invP [_, _] h (fun _ hq => s_X11_of hq) d_X11_part_94 pl_X11_76 py_X11_of pi_X11_of rfl rfl rfl (fun x5 h => ?_)
      exact r_iret h d_X11_part_97
    · refine r_aload d_X11_part_98 rfl ?_
      refine r_iload d_X11_part_99 rfl ?_
      refine r_iconst d_X11_part_100 ic_2 ?_
      refine r_invP [_, _] h (fun _ hq => s_X11_of hq) d_X11_part_101 pl_X11_76 py_X11_of pi_X11_of rfl rfl rfl (fun x6 h => ?_)
      exact r_iret h d_X11_part_104
    · refine r_aload d_X11_part_105 rfl ?_
      refine r_iload d_X11_part_106 rfl ?_
      refine r_bipush d_X11_part_107 bp_8 ?_
      refine r_invP [_, _] h (fun _ hq => s_X11_of hq) d_X11_part_109 pl_X11_76 py_X11_of pi_X11_of rfl rfl rfl (fun x7 h => ?_)
      exact r_iret h d_X11_part_112
    · refine r_aload d_X11_part_113 rfl ?_
      refine r_iload d_X11_part_114 rfl ?_
      refine r_bipush d_X11_part_115 bp_9 ?_
      refine r_invP [_, _] h (fun _ hq => s_X11_of hq) d_X11_part_117 pl_X11_76 py_X11_of pi_X11_of rfl rfl rfl (fun x8 h => ?_)
      exact r_iret h d_X11_part_120
    · refine r_aload d_X11_part_121 rfl ?_
      refine r_iload d_X11_part_122 rfl ?_
      refine r_bipush d_X11_part_123 bp_10 ?_
      refine r_invP [_, _] h (fun _ hq => s_X11_of hq) d_X11_part_125 pl_X11_76 py_X11_of pi_X11_of rfl rfl rfl (fun x9 h => ?_)
      exact r_iret h d_X11_part_128
    · refine r_aload d_X11_part_129 rfl ?_
      refine r_getR h d_X11_part_130 pf_X11_7 (fun x10 h => ?_)
      refine r_sipush d_X11_part_133 sp_133 ?_
      refine r_iload d_X11_part_136 rfl ?_
      refine r_iadd d_X11_part_137 ?_
      refine r_iald h d_X11_part_138 (fun x11 h => ?_)
      exact r_iret h d_X11_part_139
    · refine r_aload d_X11_part_140 rfl ?_
      refine r_iload d_X11_part_141 rfl ?_
      refine r_bipush d_X11_part_142 bp_7 ?_
      refine r_invP [_, _] h (fun _ hq => s_X11_of hq) d_X11_part_144 pl_X11_76 py_X11_of pi_X11_of rfl rfl rfl (fun x12 h => ?_)
      exact r_iret h d_X11_part_147
    · refine r_aload d_X11_part_148 rfl ?_
      refine r_iload d_X11_part_149 rfl ?_
      refine r_invP [_] h (fun _ hq => s_X11_thingsOf hq) d_X11_part_150 pl_X11_278 py_X11_thingsOf pi_X11_thingsOf rfl rfl rfl (fun x13 h => ?_)
      exact r_iret h d_X11_part_153
  · refine r_iconst d_X11_part_34 ic_0 ?_
    exact r_iret h d_X11_part_35
set_option maxRecDepth 100000 in
set_option maxHeartbeats 4000000 in
theorem c_X11_part_23 {E : GE} {F : Nat}   {v0 : Nat} {v1 : Int32} {v2 : Int32} {s0 : Nat} {n : Nat} {G : GH} {z : Int32 × Nat × GH}   (h : k_X11_part_23 F   v0 v1 v2 s0 n G = some z) : WG E RX11 "part" cX11_part 3 (some .int) 2 45 0 0 23 [(0, .ref v0), (1, .int v1), (2, .int v2)] [.ref s0] n G (g_O E (some (.int z.1), z.2.1, z.2.2)) := by
  unfold k_X11_part_23 at h
  refine r_iconst d_X11_part_23 ic_1 ?_
  refine r_lv [(0, .ref v0), (1, .int v1), (2, .int v2)] (g_allc rfl (g_allc rfl (g_allc rfl g_alln))) ?_
  exact c_X11_part_24   h
set_option maxRecDepth 100000 in
set_option maxHeartbeats 4000000 in
theorem s_X11_part {E : GE} {F : Nat}  {v0 : Nat} {v1 : Int32} {v2 : Int32} {n : Nat} {G : GH} {z : Int32 × Nat × GH}  (h : f_X11_part F  v0 v1 v2 n G = some z) : GM E yX11_part cX11_part 3 (some .int) 2 45 0 0 [.ref v0, .int v1, .int v2] n G (some (.int z.1), z.2.1, z.2.2) := by
  refine GM.of (by decide) (Nat.le_of_ble_eq_true rfl) ?_
  show WG E RX11 "part" cX11_part 3 (some .int) 2 45 0 0 0 [(0, .ref v0), (1, .int v1), (2, .int v2)] [] n G (g_O E (some (.int z.1), z.2.1, z.2.2))
  unfold f_X11_part at h
  refine r_aload d_X11_part_0 rfl ?_
  refine r_aload d_X11_part_1 rfl ?_
  refine r_iload d_X11_part_2 rfl ?_
  refine r_invP [_] h (fun _ hq => s_X11_isPart hq) d_X11_part_3 pl_X11_260 py_X11_isPart pi_X11_isPart rfl rfl rfl (fun x1 h => ?_)
  refine r_if_eq h d_X11_part_6 (fun h => ?_) (fun h => ?_)
  · refine r_lv [(0, .ref v0), (1, .int v1), (2, .int v2)] (g_allc rfl (g_allc rfl (g_allc rfl g_alln))) ?_
    exact c_X11_part_23   h
  · refine r_iload d_X11_part_9 rfl ?_
    refine r_iconst d_X11_part_10 ic_0 ?_
    refine r_bipush d_X11_part_11 bp_8 ?_
    refine r_invSP [_, _, _] h (fun _ hq => s_X11_in hq) d_X11_part_13 pl_X11_80 py_X11_in ps_X11_in rfl rfl rfl (fun x14 h => ?_)
    refine r_if_eq h d_X11_part_16 (fun h => ?_) (fun h => ?_)
    · refine r_lv [(0, .ref v0), (1, .int v1), (2, .int v2)] (g_allc rfl (g_allc rfl (g_allc rfl g_alln))) ?_
      exact c_X11_part_23   h
    · refine r_iconst d_X11_part_19 ic_0 ?_
      refine r_goto d_X11_part_20 ?_
      refine r_lv [(0, .ref v0), (1, .int v1), (2, .int v2)] (g_allc rfl (g_allc rfl (g_allc rfl g_alln))) ?_
      exact c_X11_part_24   h
/-! X11_need -/
theorem d_X11_need_0 : decAL cX11_need 0 0 1 := Or.inr ⟨0, rfl, by decide +kernel, rfl⟩
theorem d_X11_need_1 : dec 1 cX11_need 1 (.iconst 0) 2 := ⟨by decide +kernel, rfl⟩
theorem d_X11_need_2 : dec 3 cX11_need 2 (.putfield 72) 5 := ⟨by decide +kernel, rfl⟩
theorem d_X11_need_5 : decAL cX11_need 5 0 6 := Or.inr ⟨0, rfl, by decide +kernel, rfl⟩
theorem d_X11_need_6 : decIL cX11_need 6 1 7 := Or.inr ⟨1, rfl, by decide +kernel, rfl⟩
theorem d_X11_need_7 : dec 3 cX11_need 7 (.invokevirtual 260) 10 := ⟨by decide +kernel, rfl⟩
theorem d_X11_need_10 : decB cX11_need 10 (.ifCond .eq 30) (30) 13 40 := ⟨by decide +kernel, rfl, by decide⟩
theorem d_X11_need_13 : decIL cX11_need 13 2 14 := Or.inr ⟨2, rfl, by decide +kernel, rfl⟩
theorem d_X11_need_14 : dec 1 cX11_need 14 (.iconst 0) 15 := ⟨by decide +kernel, rfl⟩
theorem d_X11_need_15 : decAL cX11_need 15 0 16 := Or.inr ⟨0, rfl, by decide +kernel, rfl⟩
theorem d_X11_need_16 : decIL cX11_need 16 1 17 := Or.inr ⟨1, rfl, by decide +kernel, rfl⟩
theorem d_X11_need_17 : dec 1 cX11_need 17 (.iconst 2) 18 := ⟨by decide +kernel, rfl⟩
theorem d_X11_need_18 : dec 3 cX11_need 18 (.invokevirtual 76) 21 := ⟨by decide +kernel, rfl⟩
theorem d_X11_need_21 : dec 1 cX11_need 21 (.iconst 1) 22 := ⟨by decide +kernel, rfl⟩
theorem d_X11_need_22 : dec 1 cX11_need 22 .isub 23 := ⟨by decide +kernel, rfl⟩
theorem d_X11_need_23 : dec 3 cX11_need 23 (.invokestatic 80) 26 := ⟨by decide +kernel, rfl⟩
theorem d_X11_need_26 : decB cX11_need 26 (.ifCond .eq 14) (14) 29 40 := ⟨by decide +kernel, rfl, by decide⟩
theorem d_X11_need_29 : decAL cX11_need 29 0 30 := Or.inr ⟨0, rfl, by decide +kernel, rfl⟩
theorem d_X11_need_30 : decIL cX11_need 30 1 31 := Or.inr ⟨1, rfl, by decide +kernel, rfl⟩
theorem d_X11_need_31 : dec 1 cX11_need 31 (.iconst 3) 32 := ⟨by decide +kernel, rfl⟩
theorem d_X11_need_32 : decIL cX11_need 32 2 33 := Or.inr ⟨2, rfl, by decide +kernel, rfl⟩
theorem d_X11_need_33 : dec 1 cX11_need 33 .iadd 34 := ⟨by decide +kernel, rfl⟩
theorem d_X11_need_34 : dec 3 cX11_need 34 (.invokevirtual 76) 37 := ⟨by decide +kernel, rfl⟩
theorem d_X11_need_37 : decB cX11_need 37 (.goto 4) (4) 40 41 := ⟨by decide +kernel, rfl, by decide⟩
theorem d_X11_need_40 : dec 1 cX11_need 40 (.iconst (-1)) 41 := ⟨by decide +kernel, rfl⟩
theorem d_X11_need_41 : dec 1 cX11_need 41 .ireturn 42 := ⟨by decide +kernel, rfl⟩
def f_X11_need (F : Nat)  (v0 : Nat) (v1 : Int32) (v2 : Int32) (n : Nat) (G : GH) : Option (Int32 × Nat × GH) :=
  Option.bind (pV G v0 11 0 (.int (0 : Int32))) (fun (G1 : GH) =>
  cvP G1 v0 11 (f_X11_isPart F v0 v1 G1) (fun (x2 : Int32) =>
  if x2 = 0 then
  (some ((-1 : Int32), n, G1))
  else (cvP G1 v0 11 (f_X11_of F v0 v1 (2 : Int32) G1) (fun (x3 : Int32) =>
  Option.bind (f_X11_in F v2 (0 : Int32) (x3 - (1 : Int32)) G1) (fun (x4 : Int32) =>
  if x4 = 0 then
  (some ((-1 : Int32), n, G1))
  else (cvP G1 v0 11 (f_X11_of F v0 v1 ((3 : Int32) + v2) G1) (fun (x5 : Int32) =>
  some (x5, n, G1))))))))
set_option maxRecDepth 100000 in
set_option maxHeartbeats 4000000 in
theorem s_X11_need {E : GE} {F : Nat}  {v0 : Nat} {v1 : Int32} {v2 : Int32} {n : Nat} {G : GH} {z : Int32 × Nat × GH}  (h : f_X11_need F  v0 v1 v2 n G = some z) : GM E yX11_need cX11_need 3 (some .int) 2 43 0 0 [.ref v0, .int v1, .int v2] n G (some (.int z.1), z.2.1, z.2.2) := by
  refine GM.of (by decide) (Nat.le_of_ble_eq_true rfl) ?_
  show WG E RX11 "need" cX11_need 3 (some .int) 2 43 0 0 0 [(0, .ref v0), (1, .int v1), (2, .int v2)] [] n G (g_O E (some (.int z.1), z.2.1, z.2.2))
  unfold f_X11_need at h
  refine r_aload d_X11_need_0 rfl ?_
  refine r_iconst d_X11_need_1 ic_0 ?_
  refine r_put h d_X11_need_2 pw_X11_72 rfl rfl (fun G1 h => ?_)
  refine r_aload d_X11_need_5 rfl ?_
  refine r_iload d_X11_need_6 rfl ?_
  refine r_invP [_] h (fun _ hq => s_X11_isPart hq) d_X11_need_7 pl_X11_260 py_X11_isPart pi_X11_isPart rfl rfl rfl (fun x2 h => ?_)
  refine r_if_eq h d_X11_need_10 (fun h => ?_) (fun h => ?_)
  · refine r_iconst d_X11_need_40 ic_m1 ?_
    exact r_iret h d_X11_need_41
  · refine r_iload d_X11_need_13 rfl ?_
    refine r_iconst d_X11_need_14 ic_0 ?_
    refine r_aload d_X11_need_15 rfl ?_
    refine r_iload d_X11_need_16 rfl ?_
    refine r_iconst d_X11_need_17 ic_2 ?_
    refine r_invP [_, _] h (fun _ hq => s_X11_of hq) d_X11_need_18 pl_X11_76 py_X11_of pi_X11_of rfl rfl rfl (fun x3 h => ?_)
    refine r_iconst d_X11_need_21 ic_1 ?_
    refine r_isub d_X11_need_22 ?_
    refine r_invSP [_, _, _] h (fun _ hq => s_X11_in hq) d_X11_need_23 pl_X11_80 py_X11_in ps_X11_in rfl rfl rfl (fun x4 h => ?_)
    refine r_if_eq h d_X11_need_26 (fun h => ?_) (fun h => ?_)
    · refine r_iconst d_X11_need_40 ic_m1 ?_
      exact r_iret h d_X11_need_41
    · refine r_aload d_X11_need_29 rfl ?_
      refine r_iload d_X11_need_30 rfl ?_
      refine r_iconst d_X11_need_31 ic_3 ?_
      refine r_iload d_X11_need_32 rfl ?_
      refine r_iadd d_X11_need_33 ?_
      refine r_invP [_, _] h (fun _ hq => s_X11_of hq) d_X11_need_34 pl_X11_76 py_X11_of pi_X11_of rfl rfl rfl (fun x5 h => ?_)
      refine r_goto d_X11_need_37 ?_
      exact r_iret h d_X11_need_41
/-! X11_hasMany -/
theorem d_X11_hasMany_0 : dec 1 cX11_hasMany 0 (.iconst 0) 1 := ⟨by decide +kernel, rfl⟩
theorem d_X11_hasMany_1 : decIS cX11_hasMany 1 2 2 := Or.inr ⟨2, rfl, by decide +kernel, rfl⟩
theorem d_X11_hasMany_2 : dec 1 cX11_hasMany 2 (.iconst 0) 3 := ⟨by decide +kernel, rfl⟩
theorem d_X11_hasMany_3 : decIS cX11_hasMany 3 3 4 := Or.inr ⟨3, rfl, by decide +kernel, rfl⟩
theorem d_X11_hasMany_4 : decIL cX11_hasMany 4 3 5 := Or.inr ⟨3, rfl, by decide +kernel, rfl⟩
theorem d_X11_hasMany_5 : dec 1 cX11_hasMany 5 (.iconst 4) 6 := ⟨by decide +kernel, rfl⟩
theorem d_X11_hasMany_6 : decB cX11_hasMany 6 (.if_icmp .ge 28) (28) 9 34 := ⟨by decide +kernel, rfl, by decide⟩
theorem d_X11_hasMany_9 : decIL cX11_hasMany 9 2 10 := Or.inr ⟨2, rfl, by decide +kernel, rfl⟩
theorem d_X11_hasMany_10 : decAL cX11_hasMany 10 0 11 := Or.inr ⟨0, rfl, by decide +kernel, rfl⟩
theorem d_X11_hasMany_11 : decIL cX11_hasMany 11 1 12 := Or.inr ⟨1, rfl, by decide +kernel, rfl⟩
theorem d_X11_hasMany_12 : dec 1 cX11_hasMany 12 (.iconst 4) 13 := ⟨by decide +kernel, rfl⟩
theorem d_X11_hasMany_13 : decIL cX11_hasMany 13 3 14 := Or.inr ⟨3, rfl, by decide +kernel, rfl⟩
theorem d_X11_hasMany_14 : dec 1 cX11_hasMany 14 .iadd 15 := ⟨by decide +kernel, rfl⟩
theorem d_X11_hasMany_15 : dec 3 cX11_hasMany 15 (.invokevirtual 196) 18 := ⟨by decide +kernel, rfl⟩
theorem d_X11_hasMany_18 : decB cX11_hasMany 18 (.ifCond .le 7) (7) 21 25 := ⟨by decide +kernel, rfl, by decide⟩
theorem d_X11_hasMany_21 : dec 1 cX11_hasMany 21 (.iconst 1) 22 := ⟨by decide +kernel, rfl⟩
theorem d_X11_hasMany_22 : decB cX11_hasMany 22 (.goto 4) (4) 25 26 := ⟨by decide +kernel, rfl, by decide⟩
theorem d_X11_hasMany_25 : dec 1 cX11_hasMany 25 (.iconst 0) 26 := ⟨by decide +kernel, rfl⟩
theorem d_X11_hasMany_26 : dec 1 cX11_hasMany 26 .iadd 27 := ⟨by decide +kernel, rfl⟩
theorem d_X11_hasMany_27 : decIS cX11_hasMany 27 2 28 := Or.inr ⟨2, rfl, by decide +kernel, rfl⟩
theorem d_X11_hasMany_28 : dec 3 cX11_hasMany 28 (.iinc 3 1) 31 := ⟨by decide +kernel, rfl⟩
theorem d_X11_hasMany_31 : decB cX11_hasMany 31 (.goto (-27)) (-27) 34 4 := ⟨by decide +kernel, rfl, by decide⟩
theorem d_X11_hasMany_34 : decIL cX11_hasMany 34 2 35 := Or.inr ⟨2, rfl, by decide +kernel, rfl⟩
theorem d_X11_hasMany_35 : dec 1 cX11_hasMany 35 .ireturn 36 := ⟨by decide +kernel, rfl⟩
def b_X11_hasMany_4 (F : Nat)   (v0 : Nat) (v1 : Int32) (G : GH) (rec4 : Int32 → Int32 → Option (Int32)) : Int32 → Int32 → Option (Int32) := fun v2 v3 =>
  if (4 : Int32) ≤ v3 then
  (some v2)
  else (cvP G v0 11 (f_X11_its F v0 v1 ((4 : Int32) + v3) G) (fun (x1 : Int32) =>
  if x1 ≤ 0 then
  (gnm (v2 + (0 : Int32)) (fun (y2 : Int32) =>
  rec4 y2 (v3 + 1)))
  else (gnm (v2 + (1 : Int32)) (fun (y3 : Int32) =>
  rec4 y3 (v3 + 1)))))
def f_X11_hasMany (F : Nat)  (v0 : Nat) (v1 : Int32) (G : GH) : Option (Int32) :=
  fixN (fun _ _ => none) (b_X11_hasMany_4 F   v0 v1 G) F (0 : Int32) (0 : Int32)
set_option maxRecDepth 100000 in
set_option maxHeartbeats 4000000 in
theorem l_X11_hasMany_4 {E : GE} {F : Nat}   {v0 : Nat} {v1 : Int32} {n : Nat} {G : GH}   : ∀ (K : Nat) (v2 : Int32) (v3 : Int32) (z : Int32), fixN ((fun _ _ => none) : Int32 → Int32 → Option (Int32)) (b_X11_hasMany_4 F   v0 v1 G) K v2 v3 = some z → WG E RX11 "hasMany" cX11_hasMany 4 (some .int) 1 22 0 0 4 [(0, .ref v0), (1, .int v1), (2, .int v2), (3, .int v3)] [] n G (g_O E (some (.int z), n, G)) := by
  intro K
  refine fixN_ind (P := fun (r : Int32 → Int32 → Option (Int32)) => ∀ (v2 : Int32) (v3 : Int32) (z : Int32), r v2 v3 = some z → WG E RX11 "hasMany" cX11_hasMany 4 (some .int) 1 22 0 0 4 [(0, .ref v0), (1, .int v1), (2, .int v2), (3, .int v3)] [] n G (g_O E (some (.int z), n, G))) ?_ ?_ K
  · intro v2 v3 z h
    cases h
  · intro rec4 hrec4 v2 v3 z h
    unfold b_X11_hasMany_4 at h
    refine r_iload d_X11_hasMany_4 rfl ?_
    refine r_iconst d_X11_hasMany_5 ic_4 ?_
    refine r_icmp_ge h d_X11_hasMany_6 (fun h => ?_) (fun h => ?_)
    · refine r_iload d_X11_hasMany_34 rfl ?_
      exact r_pret h d_X11_hasMany_35
    · refine r_iload d_X11_hasMany_9 rfl ?_
      refine r_aload d_X11_hasMany_10 rfl ?_
      refine r_iload d_X11_hasMany_11 rfl ?_
      refine r_iconst d_X11_hasMany_12 ic_4 ?_
      refine r_iload d_X11_hasMany_13 rfl ?_
      refine r_iadd d_X11_hasMany_14 ?_
      refine r_invP [_, _] h (fun _ hq => s_X11_its hq) d_X11_hasMany_15 pl_X11_196 py_X11_its pi_X11_its rfl rfl rfl (fun x1 h => ?_)
      refine r_if_le h d_X11_hasMany_18 (fun h => ?_) (fun h => ?_)
      · refine r_iconst d_X11_hasMany_25 ic_0 ?_
        refine r_iadd d_X11_hasMany_26 ?_
        refine r_nmI h (fun y2 _ h => ?_)
        refine r_istore d_X11_hasMany_27 rfl rfl ?_
        refine r_iinc d_X11_hasMany_28 rfl (ii_1 _) rfl rfl ?_
        refine r_goto d_X11_hasMany_31 ?_
        refine r_lv [(0, .ref v0), (1, .int v1), (2, .int y2), (3, .int (v3 + 1))] (g_allc rfl (g_allc rfl (g_allc rfl (g_allc rfl g_alln)))) ?_
        exact hrec4 _ _ _ h
      · refine r_iconst d_X11_hasMany_21 ic_1 ?_
        refine r_goto d_X11_hasMany_22 ?_
        refine r_iadd d_X11_hasMany_26 ?_
        refine r_nmI h (fun y3 _ h => ?_)
        refine r_istore d_X11_hasMany_27 rfl rfl ?_
        refine r_iinc d_X11_hasMany_28 rfl (ii_1 _) rfl rfl ?_
        refine r_goto d_X11_hasMany_31 ?_
        refine r_lv [(0, .ref v0), (1, .int v1), (2, .int y3), (3, .int (v3 + 1))] (g_allc rfl (g_allc rfl (g_allc rfl (g_allc rfl g_alln)))) ?_
        exact hrec4 _ _ _ h
set_option maxRecDepth 100000 in
set_option maxHeartbeats 4000000 in
theorem s_X11_hasMany {E : GE} {F : Nat}  {v0 : Nat} {v1 : Int32} {n : Nat} {G : GH} {z : Int32}  (h : f_X11_hasMany F  v0 v1 G = some z) : GM E yX11_hasMany cX11_hasMany 4 (some .int) 1 22 0 0 [.ref v0, .int v1] n G (some (.int z), n, G) := by
  refine GM.of (by decide) (Nat.le_of_ble_eq_true rfl) ?_
  show WG E RX11 "hasMany" cX11_hasMany 4 (some .int) 1 22 0 0 0 [(0, .ref v0), (1, .int v1)] [] n G (g_O E (some (.int z), n, G))
  unfold f_X11_hasMany at h
  refine r_iconst d_X11_hasMany_0 ic_0 ?_
  refine r_istore d_X11_hasMany_1 rfl rfl ?_
  refine r_iconst d_X11_hasMany_2 ic_0 ?_
  refine r_istore d_X11_hasMany_3 rfl rfl ?_
  refine r_lv [(0, .ref v0), (1, .int v1), (2, .int (0 : Int32)), (3, .int (0 : Int32))] (g_allc rfl (g_allc rfl (g_allc rfl (g_allc rfl g_alln)))) ?_
  exact l_X11_hasMany_4   _ _ _ _ h
/-! X11_thing -/
theorem py_X11_hasMany : pY yX11_hasMany cX11_hasMany 4 (some .int) 1 := ⟨g_in 1487 (by decide +kernel) rfl, g_in 104 (by decide +kernel) rfl, by decide, by decide, by decide +kernel⟩
theorem pi_X11_hasMany : pI yX11_hasMany 11 := ⟨g_in 1486 (by decide +kernel) rfl, g_in 76 (by decide +kernel) rfl, (RX11, TX11, 37), rfl, rfl⟩
theorem pl_X11_281 : pL RX11 281 yX11_hasMany := Or.inl (g_in 1484 (by decide +kernel) rfl)
theorem d_X11_thing_0 : decAL cX11_thing 0 0 1 := Or.inr ⟨0, rfl, by decide +kernel, rfl⟩
theorem d_X11_thing_1 : decAL cX11_thing 1 0 2 := Or.inr ⟨0, rfl, by decide +kernel, rfl⟩
theorem d_X11_thing_2 : decIL cX11_thing 2 1 3 := Or.inr ⟨1, rfl, by decide +kernel, rfl⟩
theorem d_X11_thing_3 : dec 3 cX11_thing 3 (.invokevirtual 263) 6 := ⟨by decide +kernel, rfl⟩
theorem d_X11_thing_6 : decB cX11_thing 6 (.ifCond .eq 16) (16) 9 22 := ⟨by decide +kernel, rfl, by decide⟩
theorem d_X11_thing_9 : decIL cX11_thing 9 2 10 := Or.inr ⟨2, rfl, by decide +kernel, rfl⟩
theorem d_X11_thing_10 : dec 1 cX11_thing 10 (.iconst 0) 11 := ⟨by decide +kernel, rfl⟩
theorem d_X11_thing_11 : dec 1 cX11_thing 11 (.iconst 4) 12 := ⟨by decide +kernel, rfl⟩
theorem d_X11_thing_12 : dec 3 cX11_thing 12 (.invokestatic 80) 15 := ⟨by decide +kernel, rfl⟩
theorem d_X11_thing_15 : decB cX11_thing 15 (.ifCond .eq 7) (7) 18 22 := ⟨by decide +kernel, rfl, by decide⟩
theorem d_X11_thing_18 : dec 1 cX11_thing 18 (.iconst 0) 19 := ⟨by decide +kernel, rfl⟩
theorem d_X11_thing_19 : decB cX11_thing 19 (.goto 4) (4) 22 23 := ⟨by decide +kernel, rfl, by decide⟩
theorem d_X11_thing_22 : dec 1 cX11_thing 22 (.iconst 1) 23 := ⟨by decide +kernel, rfl⟩
theorem d_X11_thing_23 : dec 3 cX11_thing 23 (.putfield 72) 26 := ⟨by decide +kernel, rfl⟩
theorem d_X11_thing_26 : decAL cX11_thing 26 0 27 := Or.inr ⟨0, rfl, by decide +kernel, rfl⟩
theorem d_X11_thing_27 : dec 3 cX11_thing 27 (.getfield 72) 30 := ⟨by decide +kernel, rfl⟩
theorem d_X11_thing_30 : decB cX11_thing 30 (.ifCond .le 5) (5) 33 35 := ⟨by decide +kernel, rfl, by decide⟩
theorem d_X11_thing_33 : dec 1 cX11_thing 33 (.iconst 0) 34 := ⟨by decide +kernel, rfl⟩
theorem d_X11_thing_34 : dec 1 cX11_thing 34 .ireturn 35 := ⟨by decide +kernel, rfl⟩
theorem d_X11_thing_35 : decIL cX11_thing 35 2 36 := Or.inr ⟨2, rfl, by decide +kernel, rfl⟩
theorem d_X11_thing_36 : dec 1 cX11_thing 36 (.iconst 4) 37 := ⟨by decide +kernel, rfl⟩
theorem d_X11_thing_37 : decB cX11_thing 37 (.if_icmp .ge 12) (12) 40 49 := ⟨by decide +kernel, rfl, by decide⟩
theorem d_X11_thing_40 : decAL cX11_thing 40 0 41 := Or.inr ⟨0, rfl, by decide +kernel, rfl⟩
theorem d_X11_thing_41 : decIL cX11_thing 41 1 42 := Or.inr ⟨1, rfl, by decide +kernel, rfl⟩
theorem d_X11_thing_42 : decIL cX11_thing 42 2 43 := Or.inr ⟨2, rfl, by decide +kernel, rfl⟩
theorem d_X11_thing_43 : dec 3 cX11_thing 43 (.invokevirtual 196) 46 := ⟨by decide +kernel, rfl⟩
theorem d_X11_thing_46 : decB cX11_thing 46 (.goto 8) (8) 49 54 := ⟨by decide +kernel, rfl, by decide⟩
theorem d_X11_thing_49 : decAL cX11_thing 49 0 50 := Or.inr ⟨0, rfl, by decide +kernel, rfl⟩
theorem d_X11_thing_50 : decIL cX11_thing 50 1 51 := Or.inr ⟨1, rfl, by decide +kernel, rfl⟩
theorem d_X11_thing_51 : dec 3 cX11_thing 51 (.invokevirtual 281) 54 := ⟨by decide +kernel, rfl⟩
theorem d_X11_thing_54 : dec 1 cX11_thing 54 .ireturn 55 := ⟨by decide +kernel, rfl⟩
def k_X11_thing_23 (F : Nat)   (v0 : Nat) (v1 : Int32) (v2 : Int32) (s0 : Nat) (s1 : Int32) (n : Nat) (G : GH) : Option (Int32 × Nat × GH) :=
  Option.bind (pV G s0 11 0 (.int s1)) (fun (G2 : GH) =>
  Option.bind (gI G2 v0 11 0) (fun (x3 : Int32) =>
  if x3 ≤ 0 then
  (if (4 : Int32) ≤ v2 then
  (cvP G2 v0 11 (f_X11_hasMany F v0 v1 G2) (fun (x4 : Int32) =>
  some (x4, n, G2)))
  else (cvP G2 v0 11 (f_X11_its F v0 v1 v2 G2) (fun (x5 : Int32) =>
  some (x5, n, G2))))
  else (some ((0 : Int32), n, G2))))
def k_X11_thing_22 (F : Nat)   (v0 : Nat) (v1 : Int32) (v2 : Int32) (s0 : Nat) (n : Nat) (G : GH) : Option (Int32 × Nat × GH) :=
  k_X11_thing_23 F   v0 v1 v2 s0 (1 : Int32) n G
def f_X11_thing (F : Nat)  (v0 : Nat) (v1 : Int32) (v2 : Int32) (n : Nat) (G : GH) : Option (Int32 × Nat × GH) :=
  cvP G v0 11 (f_X11_isThing F v0 v1 G) (fun (x1 : Int32) =>
  if x1 = 0 then
  (k_X11_thing_22 F   v0 v1 v2 v0 n G)
  else (Option.bind (f_X11_in F v2 (0 : Int32) (4 : Int32) G) (fun (x6 : Int32) =>
  if x6 = 0 then
  (k_X11_thing_22 F   v0 v1 v2 v0 n G)
  else (k_X11_thing_23 F   v0 v1 v2 v0 (0 : Int32) n G))))
set_option maxRecDepth 100000 in
set_option maxHeartbeats 4000000 in
theorem c_X11_thing_23 {E : GE} {F : Nat}   {v0 : Nat} {v1 : Int32} {v2 : Int32} {s0 : Nat} {s1 : Int32} {n : Nat} {G : GH} {z : Int32 × Nat × GH}   (h : k_X11_thing_23 F   v0 v1 v2 s0 s1 n G = some z) : WG E RX11 "thing" cX11_thing 3 (some .int) 2 45 0 0 23 [(0, .ref v0), (1, .int v1), (2, .int v2)] [.int s1, .ref s0] n G (g_O E (some (.int z.1), z.2.1, z.2.2)) := by
  unfold k_X11_thing_23 at h
  refine r_put h d_X11_thing_23 pw_X11_72 rfl rfl (fun G2 h => ?_)
  refine r_aload d_X11_thing_26 rfl ?_
  refine r_getI h d_X11_thing_27 pf_X11_72 (fun x3 h => ?_)
  refine r_if_le h d_X11_thing_30 (fun h => ?_) (fun h => ?_)
  · refine r_iload d_X11_thing_35 rfl ?_
    refine r_iconst d_X11_thing_36 ic_4 ?_
    refine r_icmp_ge h d_X11_thing_37 (fun h => ?_) (fun h => ?_)
    · refine r_aload d_X11_thing_49 rfl ?_
      refine r_iload d_X11_thing_50 rfl ?_
      refine r_invP [_] h (fun _ hq => s_X11_hasMany hq) d_X11_thing_51 pl_X11_281 py_X11_hasMany pi_X11_hasMany rfl rfl rfl (fun x4 h => ?_)
      exact r_iret h d_X11_thing_54
    · refine r_aload d_X11_thing_40 rfl ?_
      refine r_iload d_X11_thing_41 rfl ?_
      refine r_iload d_X11_thing_42 rfl ?_
      refine r_invP [_, _] h (fun _ hq => s_X11_its hq) d_X11_thing_43 pl_X11_196 py_X11_its pi_X11_its rfl rfl rfl (fun x5 h => ?_)
      refine r_goto d_X11_thing_46 ?_
      exact r_iret h d_X11_thing_54
  · refine r_iconst d_X11_thing_33 ic_0 ?_
    exact r_iret h d_X11_thing_34
set_option maxRecDepth 100000 in
set_option maxHeartbeats 4000000 in
theorem c_X11_thing_22 {E : GE} {F : Nat}   {v0 : Nat} {v1 : Int32} {v2 : Int32} {s0 : Nat} {n : Nat} {G : GH} {z : Int32 × Nat × GH}   (h : k_X11_thing_22 F   v0 v1 v2 s0 n G = some z) : WG E RX11 "thing" cX11_thing 3 (some .int) 2 45 0 0 22 [(0, .ref v0), (1, .int v1), (2, .int v2)] [.ref s0] n G (g_O E (some (.int z.1), z.2.1, z.2.2)) := by
  unfold k_X11_thing_22 at h
  refine r_iconst d_X11_thing_22 ic_1 ?_
  refine r_lv [(0, .ref v0), (1, .int v1), (2, .int v2)] (g_allc rfl (g_allc rfl (g_allc rfl g_alln))) ?_
  exact c_X11_thing_23   h
set_option maxRecDepth 100000 in
set_option maxHeartbeats 4000000 in
theorem s_X11_thing {E : GE} {F : Nat}  {v0 : Nat} {v1 : Int32} {v2 : Int32} {n : Nat} {G : GH} {z : Int32 × Nat × GH}  (h : f_X11_thing F  v0 v1 v2 n G = some z) : GM E yX11_thing cX11_thing 3 (some .int) 2 45 0 0 [.ref v0, .int v1, .int v2] n G (some (.int z.1), z.2.1, z.2.2) := by
  refine GM.of (by decide) (Nat.le_of_ble_eq_true rfl) ?_
  show WG E RX11 "thing" cX11_thing 3 (some .int) 2 45 0 0 0 [(0, .ref v0), (1, .int v1), (2, .int v2)] [] n G (g_O E (some (.int z.1), z.2.1, z.2.2))
  unfold f_X11_thing at h
  refine r_aload d_X11_thing_0 rfl ?_
  refine r_aload d_X11_thing_1 rfl ?_
  refine r_iload d_X11_thing_2 rfl ?_
  refine r_invP [_] h (fun _ hq => s_X11_isThing hq) d_X11_thing_3 pl_X11_263 py_X11_isThing pi_X11_isThing rfl rfl rfl (fun x1 h => ?_)
  refine r_if_eq h d_X11_thing_6 (fun h => ?_) (fun h => ?_)
  · refine r_lv [(0, .ref v0), (1, .int v1), (2, .int v2)] (g_allc rfl (g_allc rfl (g_allc rfl g_alln))) ?_
    exact c_X11_thing_22   h
  · refine r_iload d_X11_thing_9 rfl ?_
    refine r_iconst d_X11_thing_10 ic_0 ?_
    refine r_iconst d_X11_thing_11 ic_4 ?_
    refine r_invSP [_, _, _] h (fun _ hq => s_X11_in hq) d_X11_thing_12 pl_X11_80 py_X11_in ps_X11_in rfl rfl rfl (fun x6 h => ?_)
    refine r_if_eq h d_X11_thing_15 (fun h => ?_) (fun h => ?_)
    · refine r_lv [(0, .ref v0), (1, .int v1), (2, .int v2)] (g_allc rfl (g_allc rfl (g_allc rfl g_alln))) ?_
      exact c_X11_thing_22   h
    · refine r_iconst d_X11_thing_18 ic_0 ?_
      refine r_goto d_X11_thing_19 ?_
      refine r_lv [(0, .ref v0), (1, .int v1), (2, .int v2)] (g_allc rfl (g_allc rfl (g_allc rfl g_alln))) ?_
      exact c_X11_thing_23   h
/-! X11_has -/
theorem d_X11_has_0 : decAL cX11_has 0 0 1 := Or.inr ⟨0, rfl, by decide +kernel, rfl⟩
theorem d_X11_has_1 : dec 1 cX11_has 1 (.iconst 0) 2 := ⟨by decide +kernel, rfl⟩
theorem d_X11_has_2 : dec 3 cX11_has 2 (.putfield 72) 5 := ⟨by decide +kernel, rfl⟩
theorem d_X11_has_5 : decAL cX11_has 5 0 6 := Or.inr ⟨0, rfl, by decide +kernel, rfl⟩
theorem d_X11_has_6 : decIL cX11_has 6 1 7 := Or.inr ⟨1, rfl, by decide +kernel, rfl⟩
theorem d_X11_has_7 : dec 3 cX11_has 7 (.invokevirtual 263) 10 := ⟨by decide +kernel, rfl⟩
theorem d_X11_has_10 : decB cX11_has 10 (.ifCond .eq 25) (25) 13 35 := ⟨by decide +kernel, rfl, by decide⟩
theorem d_X11_has_13 : decIL cX11_has 13 2 14 := Or.inr ⟨2, rfl, by decide +kernel, rfl⟩
theorem d_X11_has_14 : dec 1 cX11_has 14 (.iconst 0) 15 := ⟨by decide +kernel, rfl⟩
theorem d_X11_has_15 : dec 1 cX11_has 15 (.iconst 3) 16 := ⟨by decide +kernel, rfl⟩
theorem d_X11_has_16 : dec 3 cX11_has 16 (.invokestatic 80) 19 := ⟨by decide +kernel, rfl⟩
theorem d_X11_has_19 : decB cX11_has 19 (.ifCond .eq 16) (16) 22 35 := ⟨by decide +kernel, rfl, by decide⟩
theorem d_X11_has_22 : decAL cX11_has 22 0 23 := Or.inr ⟨0, rfl, by decide +kernel, rfl⟩
theorem d_X11_has_23 : decIL cX11_has 23 1 24 := Or.inr ⟨1, rfl, by decide +kernel, rfl⟩
theorem d_X11_has_24 : dec 1 cX11_has 24 (.iconst 4) 25 := ⟨by decide +kernel, rfl⟩
theorem d_X11_has_25 : decIL cX11_has 25 2 26 := Or.inr ⟨2, rfl, by decide +kernel, rfl⟩
theorem d_X11_has_26 : dec 1 cX11_has 26 .iadd 27 := ⟨by decide +kernel, rfl⟩
theorem d_X11_has_27 : dec 3 cX11_has 27 (.invokevirtual 196) 30 := ⟨by decide +kernel, rfl⟩
theorem d_X11_has_30 : dec 1 cX11_has 30 (.iconst 1) 31 := ⟨by decide +kernel, rfl⟩
theorem d_X11_has_31 : dec 1 cX11_has 31 .isub 32 := ⟨by decide +kernel, rfl⟩
theorem d_X11_has_32 : decB cX11_has 32 (.goto 4) (4) 35 36 := ⟨by decide +kernel, rfl, by decide⟩
theorem d_X11_has_35 : dec 1 cX11_has 35 (.iconst (-1)) 36 := ⟨by decide +kernel, rfl⟩
theorem d_X11_has_36 : dec 1 cX11_has 36 .ireturn 37 := ⟨by decide +kernel, rfl⟩
def f_X11_has (F : Nat)  (v0 : Nat) (v1 : Int32) (v2 : Int32) (n : Nat) (G : GH) : Option (Int32 × Nat × GH) :=
  Option.bind (pV G v0 11 0 (.int (0 : Int32))) (fun (G1 : GH) =>
  cvP G1 v0 11 (f_X11_isThing F v0 v1 G1) (fun (x2 : Int32) =>
  if x2 = 0 then
  (some ((-1 : Int32), n, G1))
  else (Option.bind (f_X11_in F v2 (0 : Int32) (3 : Int32) G1) (fun (x3 : Int32) =>
  if x3 = 0 then
  (some ((-1 : Int32), n, G1))
  else (cvP G1 v0 11 (f_X11_its F v0 v1 ((4 : Int32) + v2) G1) (fun (x4 : Int32) =>
  some (x4 - (1 : Int32), n, G1)))))))
set_option maxRecDepth 100000 in
set_option maxHeartbeats 4000000 in
theorem s_X11_has {E : GE} {F : Nat}  {v0 : Nat} {v1 : Int32} {v2 : Int32} {n : Nat} {G : GH} {z : Int32 × Nat × GH}  (h : f_X11_has F  v0 v1 v2 n G = some z) : GM E yX11_has cX11_has 3 (some .int) 2 43 0 0 [.ref v0, .int v1, .int v2] n G (some (.int z.1), z.2.1, z.2.2) := by
  refine GM.of (by decide) (Nat.le_of_ble_eq_true rfl) ?_
  show WG E RX11 "has" cX11_has 3 (some .int) 2 43 0 0 0 [(0, .ref v0), (1, .int v1), (2, .int v2)] [] n G (g_O E (some (.int z.1), z.2.1, z.2.2))
  unfold f_X11_has at h
  refine r_aload d_X11_has_0 rfl ?_
  refine r_iconst d_X11_has_1 ic_0 ?_
  refine r_put h d_X11_has_2 pw_X11_72 rfl rfl (fun G1 h => ?_)
  refine r_aload d_X11_has_5 rfl ?_
  refine r_iload d_X11_has_6 rfl ?_
  refine r_invP [_] h (fun _ hq => s_X11_isThing hq) d_X11_has_7 pl_X11_263 py_X11_isThing pi_X11_isThing rfl rfl rfl (fun x2 h => ?_)
  refine r_if_eq h d_X11_has_10 (fun h => ?_) (fun h => ?_)
  · refine r_iconst d_X11_has_35 ic_m1 ?_
    exact r_iret h d_X11_has_36
  · refine r_iload d_X11_has_13 rfl ?_
    refine r_iconst d_X11_has_14 ic_0 ?_
    refine r_iconst d_X11_has_15 ic_3 ?_
    refine r_invSP [_, _, _] h (fun _ hq => s_X11_in hq) d_X11_has_16 pl_X11_80 py_X11_in ps_X11_in rfl rfl rfl (fun x3 h => ?_)
    refine r_if_eq h d_X11_has_19 (fun h => ?_) (fun h => ?_)
    · refine r_iconst d_X11_has_35 ic_m1 ?_
      exact r_iret h d_X11_has_36
    · refine r_aload d_X11_has_22 rfl ?_
      refine r_iload d_X11_has_23 rfl ?_
      refine r_iconst d_X11_has_24 ic_4 ?_
      refine r_iload d_X11_has_25 rfl ?_
      refine r_iadd d_X11_has_26 ?_
      refine r_invP [_, _] h (fun _ hq => s_X11_its hq) d_X11_has_27 pl_X11_196 py_X11_its pi_X11_its rfl rfl rfl (fun x4 h => ?_)
      refine r_iconst d_X11_has_30 ic_1 ?_
      refine r_isub d_X11_has_31 ?_
      refine r_goto d_X11_has_32 ?_
      exact r_iret h d_X11_has_36
/-! X11_stands -/
theorem d_X11_stands_0 : decAL cX11_stands 0 0 1 := Or.inr ⟨0, rfl, by decide +kernel, rfl⟩
theorem d_X11_stands_1 : dec 1 cX11_stands 1 (.iconst 0) 2 := ⟨by decide +kernel, rfl⟩
theorem d_X11_stands_2 : dec 3 cX11_stands 2 (.putfield 72) 5 := ⟨by decide +kernel, rfl⟩
theorem d_X11_stands_5 : decAL cX11_stands 5 0 6 := Or.inr ⟨0, rfl, by decide +kernel, rfl⟩
theorem d_X11_stands_6 : decIL cX11_stands 6 1 7 := Or.inr ⟨1, rfl, by decide +kernel, rfl⟩
theorem d_X11_stands_7 : dec 3 cX11_stands 7 (.invokevirtual 260) 10 := ⟨by decide +kernel, rfl⟩
theorem d_X11_stands_10 : decB cX11_stands 10 (.ifCond .eq 28) (28) 13 38 := ⟨by decide +kernel, rfl, by decide⟩
theorem d_X11_stands_13 : decIL cX11_stands 13 2 14 := Or.inr ⟨2, rfl, by decide +kernel, rfl⟩
theorem d_X11_stands_14 : dec 1 cX11_stands 14 (.iconst 0) 15 := ⟨by decide +kernel, rfl⟩
theorem d_X11_stands_15 : decAL cX11_stands 15 0 16 := Or.inr ⟨0, rfl, by decide +kernel, rfl⟩
theorem d_X11_stands_16 : dec 3 cX11_stands 16 (.getfield 7) 19 := ⟨by decide +kernel, rfl⟩
theorem d_X11_stands_19 : dec 3 cX11_stands 19 (.sipush 145) 22 := ⟨by decide +kernel, rfl⟩
theorem d_X11_stands_22 : dec 1 cX11_stands 22 .iaload 23 := ⟨by decide +kernel, rfl⟩
theorem d_X11_stands_23 : dec 3 cX11_stands 23 (.invokestatic 80) 26 := ⟨by decide +kernel, rfl⟩
theorem d_X11_stands_26 : decB cX11_stands 26 (.ifCond .eq 12) (12) 29 38 := ⟨by decide +kernel, rfl, by decide⟩
theorem d_X11_stands_29 : decAL cX11_stands 29 0 30 := Or.inr ⟨0, rfl, by decide +kernel, rfl⟩
theorem d_X11_stands_30 : decIL cX11_stands 30 1 31 := Or.inr ⟨1, rfl, by decide +kernel, rfl⟩
theorem d_X11_stands_31 : decIL cX11_stands 31 2 32 := Or.inr ⟨2, rfl, by decide +kernel, rfl⟩
theorem d_X11_stands_32 : dec 3 cX11_stands 32 (.invokevirtual 209) 35 := ⟨by decide +kernel, rfl⟩
theorem d_X11_stands_35 : decB cX11_stands 35 (.goto 4) (4) 38 39 := ⟨by decide +kernel, rfl, by decide⟩
theorem d_X11_stands_38 : dec 1 cX11_stands 38 (.iconst (-1)) 39 := ⟨by decide +kernel, rfl⟩
theorem d_X11_stands_39 : dec 1 cX11_stands 39 .ireturn 40 := ⟨by decide +kernel, rfl⟩
def f_X11_stands (F : Nat)  (v0 : Nat) (v1 : Int32) (v2 : Int32) (n : Nat) (G : GH) : Option (Int32 × Nat × GH) :=
  Option.bind (pV G v0 11 0 (.int (0 : Int32))) (fun (G1 : GH) =>
  cvP G1 v0 11 (f_X11_isPart F v0 v1 G1) (fun (x2 : Int32) =>
  if x2 = 0 then
  (some ((-1 : Int32), n, G1))
  else (Option.bind (gR G1 v0 11 1) (fun (x3 : Nat) =>
  Option.bind (aI G1 x3 0 (145 : Int32)) (fun (x4 : Int32) =>
  Option.bind (f_X11_in F v2 (0 : Int32) x4 G1) (fun (x5 : Int32) =>
  if x5 = 0 then
  (some ((-1 : Int32), n, G1))
  else (cvP G1 v0 11 (f_X11_standsFor F v0 v1 v2 G1) (fun (x6 : Int32) =>
  some (x6, n, G1)))))))))
set_option maxRecDepth 100000 in
set_option maxHeartbeats 4000000 in
theorem s_X11_stands {E : GE} {F : Nat}  {v0 : Nat} {v1 : Int32} {v2 : Int32} {n : Nat} {G : GH} {z : Int32 × Nat × GH}  (h : f_X11_stands F  v0 v1 v2 n G = some z) : GM E yX11_stands cX11_stands 3 (some .int) 2 43 0 0 [.ref v0, .int v1, .int v2] n G (some (.int z.1), z.2.1, z.2.2) := by
  refine GM.of (by decide) (Nat.le_of_ble_eq_true rfl) ?_
  show WG E RX11 "stands" cX11_stands 3 (some .int) 2 43 0 0 0 [(0, .ref v0), (1, .int v1), (2, .int v2)] [] n G (g_O E (some (.int z.1), z.2.1, z.2.2))
  unfold f_X11_stands at h
  refine r_aload d_X11_stands_0 rfl ?_
  refine r_iconst d_X11_stands_1 ic_0 ?_
  refine r_put h d_X11_stands_2 pw_X11_72 rfl rfl (fun G1 h => ?_)
  refine r_aload d_X11_stands_5 rfl ?_
  refine r_iload d_X11_stands_6 rfl ?_
  refine r_invP [_] h (fun _ hq => s_X11_isPart hq) d_X11_stands_7 pl_X11_260 py_X11_isPart pi_X11_isPart rfl rfl rfl (fun x2 h => ?_)
  refine r_if_eq h d_X11_stands_10 (fun h => ?_) (fun h => ?_)
  · refine r_iconst d_X11_stands_38 ic_m1 ?_
    exact r_iret h d_X11_stands_39
  · refine r_iload d_X11_stands_13 rfl ?_
    refine r_iconst d_X11_stands_14 ic_0 ?_
    refine r_aload d_X11_stands_15 rfl ?_
    refine r_getR h d_X11_stands_16 pf_X11_7 (fun x3 h => ?_)
    refine r_sipush d_X11_stands_19 sp_145 ?_
    refine r_iald h d_X11_stands_22 (fun x4 h => ?_)
    refine r_invSP [_, _, _] h (fun _ hq => s_X11_in hq) d_X11_stands_23 pl_X11_80 py_X11_in ps_X11_in rfl rfl rfl (fun x5 h => ?_)
    refine r_if_eq h d_X11_stands_26 (fun h => ?_) (fun h => ?_)
    · refine r_iconst d_X11_stands_38 ic_m1 ?_
      exact r_iret h d_X11_stands_39
    · refine r_aload d_X11_stands_29 rfl ?_
      refine r_iload d_X11_stands_30 rfl ?_
      refine r_iload d_X11_stands_31 rfl ?_
      refine r_invP [_, _] h (fun _ hq => s_X11_standsFor hq) d_X11_stands_32 pl_X11_209 py_X11_standsFor pi_X11_standsFor rfl rfl rfl (fun x6 h => ?_)
      refine r_goto d_X11_stands_35 ?_
      exact r_iret h d_X11_stands_39
/-! X11_why -/
theorem d_X11_why_0 : decAL cX11_why 0 0 1 := Or.inr ⟨0, rfl, by decide +kernel, rfl⟩
theorem d_X11_why_1 : dec 1 cX11_why 1 (.iconst 0) 2 := ⟨by decide +kernel, rfl⟩
theorem d_X11_why_2 : dec 3 cX11_why 2 (.putfield 72) 5 := ⟨by decide +kernel, rfl⟩
theorem d_X11_why_5 : decIL cX11_why 5 1 6 := Or.inr ⟨1, rfl, by decide +kernel, rfl⟩
theorem d_X11_why_6 : dec 1 cX11_why 6 (.iconst 0) 7 := ⟨by decide +kernel, rfl⟩
theorem d_X11_why_7 : decAL cX11_why 7 0 8 := Or.inr ⟨0, rfl, by decide +kernel, rfl⟩
theorem d_X11_why_8 : dec 3 cX11_why 8 (.getfield 7) 11 := ⟨by decide +kernel, rfl⟩
theorem d_X11_why_11 : dec 3 cX11_why 11 (.sipush 809) 14 := ⟨by decide +kernel, rfl⟩
theorem d_X11_why_14 : dec 1 cX11_why 14 .iaload 15 := ⟨by decide +kernel, rfl⟩
theorem d_X11_why_15 : dec 1 cX11_why 15 (.iconst 1) 16 := ⟨by decide +kernel, rfl⟩
theorem d_X11_why_16 : dec 1 cX11_why 16 .isub 17 := ⟨by decide +kernel, rfl⟩
theorem d_X11_why_17 : dec 3 cX11_why 17 (.invokestatic 80) 20 := ⟨by decide +kernel, rfl⟩
theorem d_X11_why_20 : decB cX11_why 20 (.ifCond .eq 16) (16) 23 36 := ⟨by decide +kernel, rfl, by decide⟩
theorem d_X11_why_23 : decAL cX11_why 23 0 24 := Or.inr ⟨0, rfl, by decide +kernel, rfl⟩
theorem d_X11_why_24 : dec 3 cX11_why 24 (.getfield 7) 27 := ⟨by decide +kernel, rfl⟩
theorem d_X11_why_27 : dec 3 cX11_why 27 (.sipush 811) 30 := ⟨by decide +kernel, rfl⟩
theorem d_X11_why_30 : decIL cX11_why 30 1 31 := Or.inr ⟨1, rfl, by decide +kernel, rfl⟩
theorem d_X11_why_31 : dec 1 cX11_why 31 .iadd 32 := ⟨by decide +kernel, rfl⟩
theorem d_X11_why_32 : dec 1 cX11_why 32 .iaload 33 := ⟨by decide +kernel, rfl⟩
theorem d_X11_why_33 : decB cX11_why 33 (.goto 4) (4) 36 37 := ⟨by decide +kernel, rfl, by decide⟩
theorem d_X11_why_36 : dec 1 cX11_why 36 (.iconst (-1)) 37 := ⟨by decide +kernel, rfl⟩
theorem d_X11_why_37 : dec 1 cX11_why 37 .ireturn 38 := ⟨by decide +kernel, rfl⟩
def f_X11_why (F : Nat)  (v0 : Nat) (v1 : Int32) (n : Nat) (G : GH) : Option (Int32 × Nat × GH) :=
  Option.bind (pV G v0 11 0 (.int (0 : Int32))) (fun (G1 : GH) =>
  Option.bind (gR G1 v0 11 1) (fun (x2 : Nat) =>
  Option.bind (aI G1 x2 0 (809 : Int32)) (fun (x3 : Int32) =>
  Option.bind (f_X11_in F v1 (0 : Int32) (x3 - (1 : Int32)) G1) (fun (x4 : Int32) =>
  if x4 = 0 then
  (some ((-1 : Int32), n, G1))
  else (Option.bind (gR G1 v0 11 1) (fun (x5 : Nat) =>
  Option.bind (aI G1 x5 0 ((811 : Int32) + v1)) (fun (x6 : Int32) =>
  some (x6, n, G1))))))))
set_option maxRecDepth 100000 in
set_option maxHeartbeats 4000000 in
theorem s_X11_why {E : GE} {F : Nat}  {v0 : Nat} {v1 : Int32} {n : Nat} {G : GH} {z : Int32 × Nat × GH}  (h : f_X11_why F  v0 v1 n G = some z) : GM E yX11_why cX11_why 2 (some .int) 1 22 0 0 [.ref v0, .int v1] n G (some (.int z.1), z.2.1, z.2.2) := by
  refine GM.of (by decide) (Nat.le_of_ble_eq_true rfl) ?_
  show WG E RX11 "why" cX11_why 2 (some .int) 1 22 0 0 0 [(0, .ref v0), (1, .int v1)] [] n G (g_O E (some (.int z.1), z.2.1, z.2.2))
  unfold f_X11_why at h
  refine r_aload d_X11_why_0 rfl ?_
  refine r_iconst d_X11_why_1 ic_0 ?_
  refine r_put h d_X11_why_2 pw_X11_72 rfl rfl (fun G1 h => ?_)
  refine r_iload d_X11_why_5 rfl ?_
  refine r_iconst d_X11_why_6 ic_0 ?_
  refine r_aload d_X11_why_7 rfl ?_
  refine r_getR h d_X11_why_8 pf_X11_7 (fun x2 h => ?_)
  refine r_sipush d_X11_why_11 sp_809 ?_
  refine r_iald h d_X11_why_14 (fun x3 h => ?_)
  refine r_iconst d_X11_why_15 ic_1 ?_
  refine r_isub d_X11_why_16 ?_
  refine r_invSP [_, _, _] h (fun _ hq => s_X11_in hq) d_X11_why_17 pl_X11_80 py_X11_in ps_X11_in rfl rfl rfl (fun x4 h => ?_)
  refine r_if_eq h d_X11_why_20 (fun h => ?_) (fun h => ?_)
  · refine r_iconst d_X11_why_36 ic_m1 ?_
    exact r_iret h d_X11_why_37
  · refine r_aload d_X11_why_23 rfl ?_
    refine r_getR h d_X11_why_24 pf_X11_7 (fun x5 h => ?_)
    refine r_sipush d_X11_why_27 sp_811 ?_
    refine r_iload d_X11_why_30 rfl ?_
    refine r_iadd d_X11_why_31 ?_
    refine r_iald h d_X11_why_32 (fun x6 h => ?_)
    refine r_goto d_X11_why_33 ?_
    exact r_iret h d_X11_why_37
/-! X11_ended -/
theorem d_X11_ended_0 : decAL cX11_ended 0 0 1 := Or.inr ⟨0, rfl, by decide +kernel, rfl⟩
theorem d_X11_ended_1 : dec 1 cX11_ended 1 (.iconst 0) 2 := ⟨by decide +kernel, rfl⟩
theorem d_X11_ended_2 : dec 3 cX11_ended 2 (.putfield 72) 5 := ⟨by decide +kernel, rfl⟩
theorem d_X11_ended_5 : decIL cX11_ended 5 2 6 := Or.inr ⟨2, rfl, by decide +kernel, rfl⟩
theorem d_X11_ended_6 : decB cX11_ended 6 (.ifCond .eq 36) (36) 9 42 := ⟨by decide +kernel, rfl, by decide⟩
theorem d_X11_ended_9 : decIL cX11_ended 9 1 10 := Or.inr ⟨1, rfl, by decide +kernel, rfl⟩
theorem d_X11_ended_10 : dec 1 cX11_ended 10 (.iconst 0) 11 := ⟨by decide +kernel, rfl⟩
theorem d_X11_ended_11 : decAL cX11_ended 11 0 12 := Or.inr ⟨0, rfl, by decide +kernel, rfl⟩
theorem d_X11_ended_12 : dec 3 cX11_ended 12 (.getfield 7) 15 := ⟨by decide +kernel, rfl⟩
theorem d_X11_ended_15 : dec 3 cX11_ended 15 (.sipush 748) 18 := ⟨by decide +kernel, rfl⟩
theorem d_X11_ended_18 : dec 1 cX11_ended 18 .iaload 19 := ⟨by decide +kernel, rfl⟩
theorem d_X11_ended_19 : dec 1 cX11_ended 19 (.iconst 1) 20 := ⟨by decide +kernel, rfl⟩
theorem d_X11_ended_20 : dec 1 cX11_ended 20 .isub 21 := ⟨by decide +kernel, rfl⟩
theorem d_X11_ended_21 : dec 3 cX11_ended 21 (.invokestatic 80) 24 := ⟨by decide +kernel, rfl⟩
theorem d_X11_ended_24 : decB cX11_ended 24 (.ifCond .eq 16) (16) 27 40 := ⟨by decide +kernel, rfl, by decide⟩
theorem d_X11_ended_27 : decAL cX11_ended 27 0 28 := Or.inr ⟨0, rfl, by decide +kernel, rfl⟩
theorem d_X11_ended_28 : dec 3 cX11_ended 28 (.getfield 7) 31 := ⟨by decide +kernel, rfl⟩
theorem d_X11_ended_31 : dec 3 cX11_ended 31 (.sipush 749) 34 := ⟨by decide +kernel, rfl⟩
theorem d_X11_ended_34 : decIL cX11_ended 34 1 35 := Or.inr ⟨1, rfl, by decide +kernel, rfl⟩
theorem d_X11_ended_35 : dec 1 cX11_ended 35 .iadd 36 := ⟨by decide +kernel, rfl⟩
theorem d_X11_ended_36 : dec 1 cX11_ended 36 .iaload 37 := ⟨by decide +kernel, rfl⟩
theorem d_X11_ended_37 : decB cX11_ended 37 (.goto 4) (4) 40 41 := ⟨by decide +kernel, rfl, by decide⟩
theorem d_X11_ended_40 : dec 1 cX11_ended 40 (.iconst (-1)) 41 := ⟨by decide +kernel, rfl⟩
theorem d_X11_ended_41 : dec 1 cX11_ended 41 .ireturn 42 := ⟨by decide +kernel, rfl⟩
theorem d_X11_ended_42 : decIL cX11_ended 42 1 43 := Or.inr ⟨1, rfl, by decide +kernel, rfl⟩
theorem d_X11_ended_43 : dec 1 cX11_ended 43 (.iconst 0) 44 := ⟨by decide +kernel, rfl⟩
theorem d_X11_ended_44 : decAL cX11_ended 44 0 45 := Or.inr ⟨0, rfl, by decide +kernel, rfl⟩
theorem d_X11_ended_45 : dec 3 cX11_ended 45 (.getfield 7) 48 := ⟨by decide +kernel, rfl⟩
theorem d_X11_ended_48 : dec 3 cX11_ended 48 (.sipush 687) 51 := ⟨by decide +kernel, rfl⟩
theorem d_X11_ended_51 : dec 1 cX11_ended 51 .iaload 52 := ⟨by decide +kernel, rfl⟩
theorem d_X11_ended_52 : dec 1 cX11_ended 52 (.iconst 1) 53 := ⟨by decide +kernel, rfl⟩
theorem d_X11_ended_53 : dec 1 cX11_ended 53 .isub 54 := ⟨by decide +kernel, rfl⟩
theorem d_X11_ended_54 : dec 3 cX11_ended 54 (.invokestatic 80) 57 := ⟨by decide +kernel, rfl⟩
theorem d_X11_ended_57 : decB cX11_ended 57 (.ifCond .eq 16) (16) 60 73 := ⟨by decide +kernel, rfl, by decide⟩
theorem d_X11_ended_60 : decAL cX11_ended 60 0 61 := Or.inr ⟨0, rfl, by decide +kernel, rfl⟩
theorem d_X11_ended_61 : dec 3 cX11_ended 61 (.getfield 7) 64 := ⟨by decide +kernel, rfl⟩
theorem d_X11_ended_64 : dec 3 cX11_ended 64 (.sipush 688) 67 := ⟨by decide +kernel, rfl⟩
theorem d_X11_ended_67 : decIL cX11_ended 67 1 68 := Or.inr ⟨1, rfl, by decide +kernel, rfl⟩
theorem d_X11_ended_68 : dec 1 cX11_ended 68 .iadd 69 := ⟨by decide +kernel, rfl⟩
theorem d_X11_ended_69 : dec 1 cX11_ended 69 .iaload 70 := ⟨by decide +kernel, rfl⟩
theorem d_X11_ended_70 : decB cX11_ended 70 (.goto 4) (4) 73 74 := ⟨by decide +kernel, rfl, by decide⟩
theorem d_X11_ended_73 : dec 1 cX11_ended 73 (.iconst (-1)) 74 := ⟨by decide +kernel, rfl⟩
theorem d_X11_ended_74 : dec 1 cX11_ended 74 .ireturn 75 := ⟨by decide +kernel, rfl⟩
def f_X11_ended (F : Nat)  (v0 : Nat) (v1 : Int32) (v2 : Int32) (n : Nat) (G : GH) : Option (Int32 × Nat × GH) :=
  Option.bind (pV G v0 11 0 (.int (0 : Int32))) (fun (G1 : GH) =>
  if v2 = 0 then
  (Option.bind (gR G1 v0 11 1) (fun (x2 : Nat) =>
  Option.bind (aI G1 x2 0 (687 : Int32)) (fun (x3 : Int32) =>
  Option.bind (f_X11_in F v1 (0 : Int32) (x3 - (1 : Int32)) G1) (fun (x4 : Int32) =>
  if x4 = 0 then
  (some ((-1 : Int32), n, G1))
  else (Option.bind (gR G1 v0 11 1) (fun (x5 : Nat) =>
  Option.bind (aI G1 x5 0 ((688 : Int32) + v1)) (fun (x6 : Int32) =>
  some (x6, n, G1))))))))
  else (Option.bind (gR G1 v0 11 1) (fun (x7 : Nat) =>
  Option.bind (aI G1 x7 0 (748 : Int32)) (fun (x8 : Int32) =>
  Option.bind (f_X11_in F v1 (0 : Int32) (x8 - (1 : Int32)) G1) (fun (x9 : Int32) =>
  if x9 = 0 then
  (some ((-1 : Int32), n, G1))
  else (Option.bind (gR G1 v0 11 1) (fun (x10 : Nat) =>
  Option.bind (aI G1 x10 0 ((749 : Int32) + v1)) (fun (x11 : Int32) =>
  some (x11, n, G1)))))))))
set_option maxRecDepth 100000 in
set_option maxHeartbeats 4000000 in
theorem s_X11_ended {E : GE} {F : Nat}  {v0 : Nat} {v1 : Int32} {v2 : Int32} {n : Nat} {G : GH} {z : Int32 × Nat × GH}  (h : f_X11_ended F  v0 v1 v2 n G = some z) : GM E yX11_ended cX11_ended 3 (some .int) 1 22 0 0 [.ref v0, .int v1, .int v2] n G (some (.int z.1), z.2.1, z.2.2) := by
  refine GM.of (by decide) (Nat.le_of_ble_eq_true rfl) ?_
  show WG E RX11 "ended" cX11_ended 3 (some .int) 1 22 0 0 0 [(0, .ref v0), (1, .int v1), (2, .int v2)] [] n G (g_O E (some (.int z.1), z.2.1, z.2.2))
  unfold f_X11_ended at h
  refine r_aload d_X11_ended_0 rfl ?_
  refine r_iconst d_X11_ended_1 ic_0 ?_
  refine r_put h d_X11_ended_2 pw_X11_72 rfl rfl (fun G1 h => ?_)
  refine r_iload d_X11_ended_5 rfl ?_
  refine r_if_eq h d_X11_ended_6 (fun h => ?_) (fun h => ?_)
  · refine r_iload d_X11_ended_42 rfl ?_
    refine r_iconst d_X11_ended_43 ic_0 ?_
    refine r_aload d_X11_ended_44 rfl ?_
    refine r_getR h d_X11_ended_45 pf_X11_7 (fun x2 h => ?_)
    refine r_sipush d_X11_ended_48 sp_687 ?_
    refine r_iald h d_X11_ended_51 (fun x3 h => ?_)
    refine r_iconst d_X11_ended_52 ic_1 ?_
    refine r_isub d_X11_ended_53 ?_
    refine r_invSP [_, _, _] h (fun _ hq => s_X11_in hq) d_X11_ended_54 pl_X11_80 py_X11_in ps_X11_in rfl rfl rfl (fun x4 h => ?_)
    refine r_if_eq h d_X11_ended_57 (fun h => ?_) (fun h => ?_)
    · refine r_iconst d_X11_ended_73 ic_m1 ?_
      exact r_iret h d_X11_ended_74
    · refine r_aload d_X11_ended_60 rfl ?_
      refine r_getR h d_X11_ended_61 pf_X11_7 (fun x5 h => ?_)
      refine r_sipush d_X11_ended_64 sp_688 ?_
      refine r_iload d_X11_ended_67 rfl ?_
      refine r_iadd d_X11_ended_68 ?_
      refine r_iald h d_X11_ended_69 (fun x6 h => ?_)
      refine r_goto d_X11_ended_70 ?_
      exact r_iret h d_X11_ended_74
  · refine r_iload d_X11_ended_9 rfl ?_
    refine r_iconst d_X11_ended_10 ic_0 ?_
    refine r_aload d_X11_ended_11 rfl ?_
    refine r_getR h d_X11_ended_12 pf_X11_7 (fun x7 h => ?_)
    refine r_sipush d_X11_ended_15 sp_748 ?_
    refine r_iald h d_X11_ended_18 (fun x8 h => ?_)
    refine r_iconst d_X11_ended_19 ic_1 ?_
    refine r_isub d_X11_ended_20 ?_
    refine r_invSP [_, _, _] h (fun _ hq => s_X11_in hq) d_X11_ended_21 pl_X11_80 py_X11_in ps_X11_in rfl rfl rfl (fun x9 h => ?_)
    refine r_if_eq h d_X11_ended_24 (fun h => ?_) (fun h => ?_)
    · refine r_iconst d_X11_ended_40 ic_m1 ?_
      exact r_iret h d_X11_ended_41
    · refine r_aload d_X11_ended_27 rfl ?_
      refine r_getR h d_X11_ended_28 pf_X11_7 (fun x10 h => ?_)
      refine r_sipush d_X11_ended_31 sp_749 ?_
      refine r_iload d_X11_ended_34 rfl ?_
      refine r_iadd d_X11_ended_35 ?_
      refine r_iald h d_X11_ended_36 (fun x11 h => ?_)
      refine r_goto d_X11_ended_37 ?_
      exact r_iret h d_X11_ended_41
/-! X11_mayStart -/
theorem pf_X11_63 : pF RX11 63 11 33 := ⟨RX11, TX11, 37, rfl, by decide, rfl, Or.inl (g_in 1178 (by decide +kernel) rfl)⟩
theorem d_X11_mayStart_0 : dec 1 cX11_mayStart 0 (.iconst 0) 1 := ⟨by decide +kernel, rfl⟩
theorem d_X11_mayStart_1 : decIS cX11_mayStart 1 2 2 := Or.inr ⟨2, rfl, by decide +kernel, rfl⟩
theorem d_X11_mayStart_2 : decIL cX11_mayStart 2 2 3 := Or.inr ⟨2, rfl, by decide +kernel, rfl⟩
theorem d_X11_mayStart_3 : decAL cX11_mayStart 3 0 4 := Or.inr ⟨0, rfl, by decide +kernel, rfl⟩
theorem d_X11_mayStart_4 : decIL cX11_mayStart 4 1 5 := Or.inr ⟨1, rfl, by decide +kernel, rfl⟩
theorem d_X11_mayStart_5 : dec 1 cX11_mayStart 5 (.iconst 2) 6 := ⟨by decide +kernel, rfl⟩
theorem d_X11_mayStart_6 : dec 3 cX11_mayStart 6 (.invokevirtual 76) 9 := ⟨by decide +kernel, rfl⟩
theorem d_X11_mayStart_9 : decB cX11_mayStart 9 (.if_icmp .ge 37) (37) 12 46 := ⟨by decide +kernel, rfl, by decide⟩
theorem d_X11_mayStart_12 : decAL cX11_mayStart 12 0 13 := Or.inr ⟨0, rfl, by decide +kernel, rfl⟩
theorem d_X11_mayStart_13 : decIL cX11_mayStart 13 1 14 := Or.inr ⟨1, rfl, by decide +kernel, rfl⟩
theorem d_X11_mayStart_14 : decIL cX11_mayStart 14 2 15 := Or.inr ⟨2, rfl, by decide +kernel, rfl⟩
theorem d_X11_mayStart_15 : dec 3 cX11_mayStart 15 (.invokevirtual 228) 18 := ⟨by decide +kernel, rfl⟩
theorem d_X11_mayStart_18 : decB cX11_mayStart 18 (.ifCond .ne 22) (22) 21 40 := ⟨by decide +kernel, rfl, by decide⟩
theorem d_X11_mayStart_21 : decAL cX11_mayStart 21 0 22 := Or.inr ⟨0, rfl, by decide +kernel, rfl⟩
theorem d_X11_mayStart_22 : dec 3 cX11_mayStart 22 (.getfield 63) 25 := ⟨by decide +kernel, rfl⟩
theorem d_X11_mayStart_25 : decAL cX11_mayStart 25 0 26 := Or.inr ⟨0, rfl, by decide +kernel, rfl⟩
theorem d_X11_mayStart_26 : decIL cX11_mayStart 26 1 27 := Or.inr ⟨1, rfl, by decide +kernel, rfl⟩
theorem d_X11_mayStart_27 : dec 1 cX11_mayStart 27 (.iconst 3) 28 := ⟨by decide +kernel, rfl⟩
theorem d_X11_mayStart_28 : decIL cX11_mayStart 28 2 29 := Or.inr ⟨2, rfl, by decide +kernel, rfl⟩
theorem d_X11_mayStart_29 : dec 1 cX11_mayStart 29 .iadd 30 := ⟨by decide +kernel, rfl⟩
theorem d_X11_mayStart_30 : dec 3 cX11_mayStart 30 (.invokevirtual 76) 33 := ⟨by decide +kernel, rfl⟩
theorem d_X11_mayStart_33 : dec 1 cX11_mayStart 33 .iaload 34 := ⟨by decide +kernel, rfl⟩
theorem d_X11_mayStart_34 : dec 1 cX11_mayStart 34 (.iconst (-1)) 35 := ⟨by decide +kernel, rfl⟩
theorem d_X11_mayStart_35 : decB cX11_mayStart 35 (.if_icmp .ne 5) (5) 38 40 := ⟨by decide +kernel, rfl, by decide⟩
theorem d_X11_mayStart_38 : dec 1 cX11_mayStart 38 (.iconst 0) 39 := ⟨by decide +kernel, rfl⟩
theorem d_X11_mayStart_39 : dec 1 cX11_mayStart 39 .ireturn 40 := ⟨by decide +kernel, rfl⟩
theorem d_X11_mayStart_40 : dec 3 cX11_mayStart 40 (.iinc 2 1) 43 := ⟨by decide +kernel, rfl⟩
theorem d_X11_mayStart_43 : decB cX11_mayStart 43 (.goto (-41)) (-41) 46 2 := ⟨by decide +kernel, rfl, by decide⟩
theorem d_X11_mayStart_46 : dec 1 cX11_mayStart 46 (.iconst 1) 47 := ⟨by decide +kernel, rfl⟩
theorem d_X11_mayStart_47 : dec 1 cX11_mayStart 47 .ireturn 48 := ⟨by decide +kernel, rfl⟩
def b_X11_mayStart_2 (F : Nat)   (v0 : Nat) (v1 : Int32) (G : GH) (rec2 : Int32 → Option (Int32)) : Int32 → Option (Int32) := fun v2 =>
  cvP G v0 11 (f_X11_of F v0 v1 (2 : Int32) G) (fun (x1 : Int32) =>
  if x1 ≤ v2 then
  (rP .boolean (1 : Int32))
  else (cvP G v0 11 (f_X11_isLazy F v0 v1 v2 G) (fun (x2 : Int32) =>
  if x2 = 0 then
  (Option.bind (gR G v0 11 33) (fun (x3 : Nat) =>
  cvP G v0 11 (f_X11_of F v0 v1 ((3 : Int32) + v2) G) (fun (x4 : Int32) =>
  Option.bind (aI G x3 0 x4) (fun (x5 : Int32) =>
  if x5 = (-1 : Int32) then
  (rP .boolean (0 : Int32))
  else (rec2 (v2 + 1))))))
  else (rec2 (v2 + 1)))))
def f_X11_mayStart (F : Nat)  (v0 : Nat) (v1 : Int32) (G : GH) : Option (Int32) :=
  fixN (fun _ => none) (b_X11_mayStart_2 F   v0 v1 G) F (0 : Int32)
set_option maxRecDepth 100000 in
set_option maxHeartbeats 4000000 in
theorem l_X11_mayStart_2 {E : GE} {F : Nat}   {v0 : Nat} {v1 : Int32} {n : Nat} {G : GH}   : ∀ (K : Nat) (v2 : Int32) (z : Int32), fixN ((fun _ => none) : Int32 → Option (Int32)) (b_X11_mayStart_2 F   v0 v1 G) K v2 = some z → WG E RX11 "mayStart" cX11_mayStart 3 (some .boolean) 2 44 0 0 2 [(0, .ref v0), (1, .int v1), (2, .int v2)] [] n G (g_O E (some (.int z), n, G)) := by
  intro K
  refine fixN_ind (P := fun (r : Int32 → Option (Int32)) => ∀ (v2 : Int32) (z : Int32), r v2 = some z → WG E RX11 "mayStart" cX11_mayStart 3 (some .boolean) 2 44 0 0 2 [(0, .ref v0), (1, .int v1), (2, .int v2)] [] n G (g_O E (some (.int z), n, G))) ?_ ?_ K
  · intro v2 z h
    cases h
  · intro rec2 hrec2 v2 z h
    unfold b_X11_mayStart_2 at h
    refine r_iload d_X11_mayStart_2 rfl ?_
    refine r_aload d_X11_mayStart_3 rfl ?_
    refine r_iload d_X11_mayStart_4 rfl ?_
    refine r_iconst d_X11_mayStart_5 ic_2 ?_
    refine r_invP [_, _] h (fun _ hq => s_X11_of hq) d_X11_mayStart_6 pl_X11_76 py_X11_of pi_X11_of rfl rfl rfl (fun x1 h => ?_)
    refine r_icmp_ge h d_X11_mayStart_9 (fun h => ?_) (fun h => ?_)
    · refine r_iconst d_X11_mayStart_46 ic_1 ?_
      exact r_pzret h d_X11_mayStart_47
    · refine r_aload d_X11_mayStart_12 rfl ?_
      refine r_iload d_X11_mayStart_13 rfl ?_
      refine r_iload d_X11_mayStart_14 rfl ?_
      refine r_invP [_, _] h (fun _ hq => s_X11_isLazy hq) d_X11_mayStart_15 pl_X11_228 py_X11_isLazy pi_X11_isLazy rfl rfl rfl (fun x2 h => ?_)
      refine r_if_ne h d_X11_mayStart_18 (fun h => ?_) (fun h => ?_)
      · refine r_iinc d_X11_mayStart_40 rfl (ii_1 _) rfl rfl ?_
        refine r_goto d_X11_mayStart_43 ?_
        refine r_lv [(0, .ref v0), (1, .int v1), (2, .int (v2 + 1))] (g_allc rfl (g_allc rfl (g_allc rfl g_alln))) ?_
        exact hrec2 _ _ h
      · refine r_aload d_X11_mayStart_21 rfl ?_
        refine r_getR h d_X11_mayStart_22 pf_X11_63 (fun x3 h => ?_)
        refine r_aload d_X11_mayStart_25 rfl ?_
        refine r_iload d_X11_mayStart_26 rfl ?_
        refine r_iconst d_X11_mayStart_27 ic_3 ?_
        refine r_iload d_X11_mayStart_28 rfl ?_
        refine r_iadd d_X11_mayStart_29 ?_
        refine r_invP [_, _] h (fun _ hq => s_X11_of hq) d_X11_mayStart_30 pl_X11_76 py_X11_of pi_X11_of rfl rfl rfl (fun x4 h => ?_)
        refine r_iald h d_X11_mayStart_33 (fun x5 h => ?_)
        refine r_iconst d_X11_mayStart_34 ic_m1 ?_
        refine r_icmp_ne h d_X11_mayStart_35 (fun h => ?_) (fun h => ?_)
        · refine r_iinc d_X11_mayStart_40 rfl (ii_1 _) rfl rfl ?_
          refine r_goto d_X11_mayStart_43 ?_
          refine r_lv [(0, .ref v0), (1, .int v1), (2, .int (v2 + 1))] (g_allc rfl (g_allc rfl (g_allc rfl g_alln))) ?_
          exact hrec2 _ _ h
        · refine r_iconst d_X11_mayStart_38 ic_0 ?_
          exact r_pzret h d_X11_mayStart_39
set_option maxRecDepth 100000 in
set_option maxHeartbeats 4000000 in
theorem s_X11_mayStart {E : GE} {F : Nat}  {v0 : Nat} {v1 : Int32} {n : Nat} {G : GH} {z : Int32}  (h : f_X11_mayStart F  v0 v1 G = some z) : GM E yX11_mayStart cX11_mayStart 3 (some .boolean) 2 44 0 0 [.ref v0, .int v1] n G (some (.int z), n, G) := by
  refine GM.of (by decide) (Nat.le_of_ble_eq_true rfl) ?_
  show WG E RX11 "mayStart" cX11_mayStart 3 (some .boolean) 2 44 0 0 0 [(0, .ref v0), (1, .int v1)] [] n G (g_O E (some (.int z), n, G))
  unfold f_X11_mayStart at h
  refine r_iconst d_X11_mayStart_0 ic_0 ?_
  refine r_istore d_X11_mayStart_1 rfl rfl ?_
  refine r_lv [(0, .ref v0), (1, .int v1), (2, .int (0 : Int32))] (g_allc rfl (g_allc rfl (g_allc rfl g_alln))) ?_
  exact l_X11_mayStart_2   _ _ _ h
/-! X11_waveOf -/
theorem d_X11_waveOf_0 : dec 1 cX11_waveOf 0 (.iconst 0) 1 := ⟨by decide +kernel, rfl⟩
theorem d_X11_waveOf_1 : decIS cX11_waveOf 1 2 2 := Or.inr ⟨2, rfl, by decide +kernel, rfl⟩
theorem d_X11_waveOf_2 : dec 1 cX11_waveOf 2 (.iconst 0) 3 := ⟨by decide +kernel, rfl⟩
theorem d_X11_waveOf_3 : decIS cX11_waveOf 3 3 4 := Or.inr ⟨3, rfl, by decide +kernel, rfl⟩
theorem d_X11_waveOf_4 : decIL cX11_waveOf 4 3 5 := Or.inr ⟨3, rfl, by decide +kernel, rfl⟩
theorem d_X11_waveOf_5 : decAL cX11_waveOf 5 0 6 := Or.inr ⟨0, rfl, by decide +kernel, rfl⟩
theorem d_X11_waveOf_6 : decIL cX11_waveOf 6 1 7 := Or.inr ⟨1, rfl, by decide +kernel, rfl⟩
theorem d_X11_waveOf_7 : dec 1 cX11_waveOf 7 (.iconst 2) 8 := ⟨by decide +kernel, rfl⟩
theorem d_X11_waveOf_8 : dec 3 cX11_waveOf 8 (.invokevirtual 76) 11 := ⟨by decide +kernel, rfl⟩
theorem d_X11_waveOf_11 : decB cX11_waveOf 11 (.if_icmp .ge 51) (51) 14 62 := ⟨by decide +kernel, rfl, by decide⟩
theorem d_X11_waveOf_14 : decAL cX11_waveOf 14 0 15 := Or.inr ⟨0, rfl, by decide +kernel, rfl⟩
theorem d_X11_waveOf_15 : decIL cX11_waveOf 15 1 16 := Or.inr ⟨1, rfl, by decide +kernel, rfl⟩
theorem d_X11_waveOf_16 : decIL cX11_waveOf 16 3 17 := Or.inr ⟨3, rfl, by decide +kernel, rfl⟩
theorem d_X11_waveOf_17 : dec 3 cX11_waveOf 17 (.invokevirtual 228) 20 := ⟨by decide +kernel, rfl⟩
theorem d_X11_waveOf_20 : decB cX11_waveOf 20 (.ifCond .ne 36) (36) 23 56 := ⟨by decide +kernel, rfl, by decide⟩
theorem d_X11_waveOf_23 : decAL cX11_waveOf 23 0 24 := Or.inr ⟨0, rfl, by decide +kernel, rfl⟩
theorem d_X11_waveOf_24 : dec 3 cX11_waveOf 24 (.getfield 63) 27 := ⟨by decide +kernel, rfl⟩
theorem d_X11_waveOf_27 : decAL cX11_waveOf 27 0 28 := Or.inr ⟨0, rfl, by decide +kernel, rfl⟩
theorem d_X11_waveOf_28 : decIL cX11_waveOf 28 1 29 := Or.inr ⟨1, rfl, by decide +kernel, rfl⟩
theorem d_X11_waveOf_29 : dec 1 cX11_waveOf 29 (.iconst 3) 30 := ⟨by decide +kernel, rfl⟩
theorem d_X11_waveOf_30 : decIL cX11_waveOf 30 3 31 := Or.inr ⟨3, rfl, by decide +kernel, rfl⟩
theorem d_X11_waveOf_31 : dec 1 cX11_waveOf 31 .iadd 32 := ⟨by decide +kernel, rfl⟩
theorem d_X11_waveOf_32 : dec 3 cX11_waveOf 32 (.invokevirtual 76) 35 := ⟨by decide +kernel, rfl⟩
theorem d_X11_waveOf_35 : dec 1 cX11_waveOf 35 .iaload 36 := ⟨by decide +kernel, rfl⟩
theorem d_X11_waveOf_36 : decIL cX11_waveOf 36 2 37 := Or.inr ⟨2, rfl, by decide +kernel, rfl⟩
theorem d_X11_waveOf_37 : decB cX11_waveOf 37 (.if_icmp .lt 19) (19) 40 56 := ⟨by decide +kernel, rfl, by decide⟩
theorem d_X11_waveOf_40 : decAL cX11_waveOf 40 0 41 := Or.inr ⟨0, rfl, by decide +kernel, rfl⟩
theorem d_X11_waveOf_41 : dec 3 cX11_waveOf 41 (.getfield 63) 44 := ⟨by decide +kernel, rfl⟩
theorem d_X11_waveOf_44 : decAL cX11_waveOf 44 0 45 := Or.inr ⟨0, rfl, by decide +kernel, rfl⟩
theorem d_X11_waveOf_45 : decIL cX11_waveOf 45 1 46 := Or.inr ⟨1, rfl, by decide +kernel, rfl⟩
theorem d_X11_waveOf_46 : dec 1 cX11_waveOf 46 (.iconst 3) 47 := ⟨by decide +kernel, rfl⟩
theorem d_X11_waveOf_47 : decIL cX11_waveOf 47 3 48 := Or.inr ⟨3, rfl, by decide +kernel, rfl⟩
theorem d_X11_waveOf_48 : dec 1 cX11_waveOf 48 .iadd 49 := ⟨by decide +kernel, rfl⟩
theorem d_X11_waveOf_49 : dec 3 cX11_waveOf 49 (.invokevirtual 76) 52 := ⟨by decide +kernel, rfl⟩
theorem d_X11_waveOf_52 : dec 1 cX11_waveOf 52 .iaload 53 := ⟨by decide +kernel, rfl⟩
theorem d_X11_waveOf_53 : dec 1 cX11_waveOf 53 (.iconst 1) 54 := ⟨by decide +kernel, rfl⟩
theorem d_X11_waveOf_54 : dec 1 cX11_waveOf 54 .iadd 55 := ⟨by decide +kernel, rfl⟩
theorem d_X11_waveOf_55 : decIS cX11_waveOf 55 2 56 := Or.inr ⟨2, rfl, by decide +kernel, rfl⟩
theorem d_X11_waveOf_56 : dec 3 cX11_waveOf 56 (.iinc 3 1) 59 := ⟨by decide +kernel, rfl⟩
theorem d_X11_waveOf_59 : decB cX11_waveOf 59 (.goto (-55)) (-55) 62 4 := ⟨by decide +kernel, rfl, by decide⟩
theorem d_X11_waveOf_62 : decIL cX11_waveOf 62 2 63 := Or.inr ⟨2, rfl, by decide +kernel, rfl⟩
theorem d_X11_waveOf_63 : dec 1 cX11_waveOf 63 .ireturn 64 := ⟨by decide +kernel, rfl⟩
def b_X11_waveOf_4 (F : Nat)   (v0 : Nat) (v1 : Int32) (G : GH) (rec4 : Int32 → Int32 → Option (Int32)) : Int32 → Int32 → Option (Int32) := fun v2 v3 =>
  cvP G v0 11 (f_X11_of F v0 v1 (2 : Int32) G) (fun (x1 : Int32) =>
  if x1 ≤ v3 then
  (some v2)
  else (cvP G v0 11 (f_X11_isLazy F v0 v1 v3 G) (fun (x2 : Int32) =>
  if x2 = 0 then
  (Option.bind (gR G v0 11 33) (fun (x3 : Nat) =>
  cvP G v0 11 (f_X11_of F v0 v1 ((3 : Int32) + v3) G) (fun (x4 : Int32) =>
  Option.bind (aI G x3 0 x4) (fun (x5 : Int32) =>
  if x5 < v2 then
  (rec4 v2 (v3 + 1))
  else (Option.bind (gR G v0 11 33) (fun (x6 : Nat) =>
  cvP G v0 11 (f_X11_of F v0 v1 ((3 : Int32) + v3) G) (fun (x7 : Int32) =>
  Option.bind (aI G x6 0 x7) (fun (x8 : Int32) =>
  gnm (x8 + (1 : Int32)) (fun (y9 : Int32) =>
  rec4 y9 (v3 + 1))))))))))
  else (rec4 v2 (v3 + 1)))))
def f_X11_waveOf (F : Nat)  (v0 : Nat) (v1 : Int32) (G : GH) : Option (Int32) :=
  fixN (fun _ _ => none) (b_X11_waveOf_4 F   v0 v1 G) F (0 : Int32) (0 : Int32)
set_option maxRecDepth 100000 in
set_option maxHeartbeats 4000000 in
theorem l_X11_waveOf_4 {E : GE} {F : Nat}   {v0 : Nat} {v1 : Int32} {n : Nat} {G : GH}   : ∀ (K : Nat) (v2 : Int32) (v3 : Int32) (z : Int32), fixN ((fun _ _ => none) : Int32 → Int32 → Option (Int32)) (b_X11_waveOf_4 F   v0 v1 G) K v2 v3 = some z → WG E RX11 "waveOf" cX11_waveOf 4 (some .int) 2 44 0 0 4 [(0, .ref v0), (1, .int v1), (2, .int v2), (3, .int v3)] [] n G (g_O E (some (.int z), n, G)) := by
  intro K
  refine fixN_ind (P := fun (r : Int32 → Int32 → Option (Int32)) => ∀ (v2 : Int32) (v3 : Int32) (z : Int32), r v2 v3 = some z → WG E RX11 "waveOf" cX11_waveOf 4 (some .int) 2 44 0 0 4 [(0, .ref v0), (1, .int v1), (2, .int v2), (3, .int v3)] [] n G (g_O E (some (.int z), n, G))) ?_ ?_ K
  · intro v2 v3 z h
    cases h
  · intro rec4 hrec4 v2 v3 z h
    unfold b_X11_waveOf_4 at h
    refine r_iload d_X11_waveOf_4 rfl ?_
    refine r_aload d_X11_waveOf_5 rfl ?_
    refine r_iload d_X11_waveOf_6 rfl ?_
    refine r_iconst d_X11_waveOf_7 ic_2 ?_
    refine r_invP [_, _] h (fun _ hq => s_X11_of hq) d_X11_waveOf_8 pl_X11_76 py_X11_of pi_X11_of rfl rfl rfl (fun x1 h => ?_)
    refine r_icmp_ge h d_X11_waveOf_11 (fun h => ?_) (fun h => ?_)
    · refine r_iload d_X11_waveOf_62 rfl ?_
      exact r_pret h d_X11_waveOf_63
    · refine r_aload d_X11_waveOf_14 rfl ?_
      refine r_iload d_X11_waveOf_15 rfl ?_
      refine r_iload d_X11_waveOf_16 rfl ?_
      refine r_invP [_, _] h (fun _ hq => s_X11_isLazy hq) d_X11_waveOf_17 pl_X11_228 py_X11_isLazy pi_X11_isLazy rfl rfl rfl (fun x2 h => ?_)
      refine r_if_ne h d_X11_waveOf_20 (fun h => ?_) (fun h => ?_)
      · refine r_iinc d_X11_waveOf_56 rfl (ii_1 _) rfl rfl ?_
        refine r_goto d_X11_waveOf_59 ?_
        refine r_lv [(0, .ref v0), (1, .int v1), (2, .int v2), (3, .int (v3 + 1))] (g_allc rfl (g_allc rfl (g_allc rfl (g_allc rfl g_alln)))) ?_
        exact hrec4 _ _ _ h
      · refine r_aload d_X11_waveOf_23 rfl ?_
        refine r_getR h d_X11_waveOf_24 pf_X11_63 (fun x3 h => ?_)
        refine r_aload d_X11_waveOf_27 rfl ?_
        refine r_iload d_X11_waveOf_28 rfl ?_
        refine r_iconst d_X11_waveOf_29 ic_3 ?_
        refine r_iload d_X11_waveOf_30 rfl ?_
        refine r_iadd d_X11_waveOf_31 ?_
        refine r_invP [_, _] h (fun _ hq => s_X11_of hq) d_X11_waveOf_32 pl_X11_76 py_X11_of pi_X11_of rfl rfl rfl (fun x4 h => ?_)
        refine r_iald h d_X11_waveOf_35 (fun x5 h => ?_)
        refine r_iload d_X11_waveOf_36 rfl ?_
        refine r_icmp_lt h d_X11_waveOf_37 (fun h => ?_) (fun h => ?_)
        · refine r_iinc d_X11_waveOf_56 rfl (ii_1 _) rfl rfl ?_
          refine r_goto d_X11_waveOf_59 ?_
          refine r_lv [(0, .ref v0), (1, .int v1), (2, .int v2), (3, .int (v3 + 1))] (g_allc rfl (g_allc rfl (g_allc rfl (g_allc rfl g_alln)))) ?_
          exact hrec4 _ _ _ h
        · refine r_aload d_X11_waveOf_40 rfl ?_
          refine r_getR h d_X11_waveOf_41 pf_X11_63 (fun x6 h => ?_)
          refine r_aload d_X11_waveOf_44 rfl ?_
          refine r_iload d_X11_waveOf_45 rfl ?_
          refine r_iconst d_X11_waveOf_46 ic_3 ?_
          refine r_iload d_X11_waveOf_47 rfl ?_
          refine r_iadd d_X11_waveOf_48 ?_
          refine r_invP [_, _] h (fun _ hq => s_X11_of hq) d_X11_waveOf_49 pl_X11_76 py_X11_of pi_X11_of rfl rfl rfl (fun x7 h => ?_)
          refine r_iald h d_X11_waveOf_52 (fun x8 h => ?_)
          refine r_iconst d_X11_waveOf_53 ic_1 ?_
          refine r_iadd d_X11_waveOf_54 ?_
          refine r_nmI h (fun y9 _ h => ?_)
          refine r_istore d_X11_waveOf_55 rfl rfl ?_
          refine r_iinc d_X11_waveOf_56 rfl (ii_1 _) rfl rfl ?_
          refine r_goto d_X11_waveOf_59 ?_
          refine r_lv [(0, .ref v0), (1, .int v1), (2, .int y9), (3, .int (v3 + 1))] (g_allc rfl (g_allc rfl (g_allc rfl (g_allc rfl g_alln)))) ?_
          exact hrec4 _ _ _ h
set_option maxRecDepth 100000 in
set_option maxHeartbeats 4000000 in
theorem s_X11_waveOf {E : GE} {F : Nat}  {v0 : Nat} {v1 : Int32} {n : Nat} {G : GH} {z : Int32}  (h : f_X11_waveOf F  v0 v1 G = some z) : GM E yX11_waveOf cX11_waveOf 4 (some .int) 2 44 0 0 [.ref v0, .int v1] n G (some (.int z), n, G) := by
  refine GM.of (by decide) (Nat.le_of_ble_eq_true rfl) ?_
  show WG E RX11 "waveOf" cX11_waveOf 4 (some .int) 2 44 0 0 0 [(0, .ref v0), (1, .int v1)] [] n G (g_O E (some (.int z), n, G))
  unfold f_X11_waveOf at h
  refine r_iconst d_X11_waveOf_0 ic_0 ?_
  refine r_istore d_X11_waveOf_1 rfl rfl ?_
  refine r_iconst d_X11_waveOf_2 ic_0 ?_
  refine r_istore d_X11_waveOf_3 rfl rfl ?_
  refine r_lv [(0, .ref v0), (1, .int v1), (2, .int (0 : Int32)), (3, .int (0 : Int32))] (g_allc rfl (g_allc rfl (g_allc rfl (g_allc rfl g_alln)))) ?_
  exact l_X11_waveOf_4   _ _ _ _ h
/-! X11_laysOrder -/
theorem pw_X11_284 {nm : String} : pW RX11 nm 284 11 32 .int := ⟨RX11, TX11, 37, rfl, by decide, rfl, Or.inl ⟨g_in 1177 (by decide +kernel) rfl, Or.inl rfl⟩, by decide +kernel⟩
theorem py_X11_waveOf : pY yX11_waveOf cX11_waveOf 4 (some .int) 1 := ⟨g_in 1519 (by decide +kernel) rfl, g_in 104 (by decide +kernel) rfl, by decide, by decide, by decide +kernel⟩
theorem pi_X11_waveOf : pI yX11_waveOf 11 := ⟨g_in 1518 (by decide +kernel) rfl, g_in 79 (by decide +kernel) rfl, (RX11, TX11, 37), rfl, rfl⟩
theorem pl_X11_290 : pL RX11 290 yX11_waveOf := Or.inl (g_in 1516 (by decide +kernel) rfl)
theorem pf_X11_60 : pF RX11 60 11 31 := ⟨RX11, TX11, 37, rfl, by decide, rfl, Or.inl (g_in 1176 (by decide +kernel) rfl)⟩
theorem pf_X11_284 : pF RX11 284 11 32 := ⟨RX11, TX11, 37, rfl, by decide, rfl, Or.inl (g_in 1177 (by decide +kernel) rfl)⟩
theorem py_X11_mayStart : pY yX11_mayStart cX11_mayStart 3 (some .boolean) 1 := ⟨g_in 1515 (by decide +kernel) rfl, g_in 104 (by decide +kernel) rfl, by decide, by decide, by decide +kernel⟩
theorem pi_X11_mayStart : pI yX11_mayStart 11 := ⟨g_in 1514 (by decide +kernel) rfl, g_in 78 (by decide +kernel) rfl, (RX11, TX11, 37), rfl, rfl⟩
theorem pl_X11_287 : pL RX11 287 yX11_mayStart := Or.inl (g_in 1512 (by decide +kernel) rfl)
theorem d_X11_laysOrder_0 : decAL cX11_laysOrder 0 0 1 := Or.inr ⟨0, rfl, by decide +kernel, rfl⟩
theorem d_X11_laysOrder_1 : dec 1 cX11_laysOrder 1 (.iconst 0) 2 := ⟨by decide +kernel, rfl⟩
theorem d_X11_laysOrder_2 : dec 3 cX11_laysOrder 2 (.putfield 284) 5 := ⟨by decide +kernel, rfl⟩
theorem d_X11_laysOrder_5 : dec 1 cX11_laysOrder 5 (.iconst 0) 6 := ⟨by decide +kernel, rfl⟩
theorem d_X11_laysOrder_6 : decIS cX11_laysOrder 6 1 7 := Or.inr ⟨1, rfl, by decide +kernel, rfl⟩
theorem d_X11_laysOrder_7 : decIL cX11_laysOrder 7 1 8 := Or.inr ⟨1, rfl, by decide +kernel, rfl⟩
theorem d_X11_laysOrder_8 : dec 2 cX11_laysOrder 8 (.bipush 12) 10 := ⟨by decide +kernel, rfl⟩
theorem d_X11_laysOrder_10 : decB cX11_laysOrder 10 (.if_icmp .ge 16) (16) 13 26 := ⟨by decide +kernel, rfl, by decide⟩
theorem d_X11_laysOrder_13 : decAL cX11_laysOrder 13 0 14 := Or.inr ⟨0, rfl, by decide +kernel, rfl⟩
theorem d_X11_laysOrder_14 : dec 3 cX11_laysOrder 14 (.getfield 63) 17 := ⟨by decide +kernel, rfl⟩
theorem d_X11_laysOrder_17 : decIL cX11_laysOrder 17 1 18 := Or.inr ⟨1, rfl, by decide +kernel, rfl⟩
theorem d_X11_laysOrder_18 : dec 1 cX11_laysOrder 18 (.iconst (-1)) 19 := ⟨by decide +kernel, rfl⟩
theorem d_X11_laysOrder_19 : dec 1 cX11_laysOrder 19 .iastore 20 := ⟨by decide +kernel, rfl⟩
theorem d_X11_laysOrder_20 : dec 3 cX11_laysOrder 20 (.iinc 1 1) 23 := ⟨by decide +kernel, rfl⟩
theorem d_X11_laysOrder_23 : decB cX11_laysOrder 23 (.goto (-16)) (-16) 26 7 := ⟨by decide +kernel, rfl, by decide⟩
theorem d_X11_laysOrder_26 : dec 1 cX11_laysOrder 26 (.iconst 1) 27 := ⟨by decide +kernel, rfl⟩
theorem d_X11_laysOrder_27 : decIS cX11_laysOrder 27 1 28 := Or.inr ⟨1, rfl, by decide +kernel, rfl⟩
theorem d_X11_laysOrder_28 : decIL cX11_laysOrder 28 1 29 := Or.inr ⟨1, rfl, by decide +kernel, rfl⟩
theorem d_X11_laysOrder_29 : decB cX11_laysOrder 29 (.ifCond .eq 89) (89) 32 118 := ⟨by decide +kernel, rfl, by decide⟩
theorem d_X11_laysOrder_32 : dec 1 cX11_laysOrder 32 (.iconst 0) 33 := ⟨by decide +kernel, rfl⟩
theorem d_X11_laysOrder_33 : decIS cX11_laysOrder 33 1 34 := Or.inr ⟨1, rfl, by decide +kernel, rfl⟩
theorem d_X11_laysOrder_34 : dec 1 cX11_laysOrder 34 (.iconst 0) 35 := ⟨by decide +kernel, rfl⟩
theorem d_X11_laysOrder_35 : decIS cX11_laysOrder 35 2 36 := Or.inr ⟨2, rfl, by decide +kernel, rfl⟩
theorem d_X11_laysOrder_36 : decIL cX11_laysOrder 36 2 37 := Or.inr ⟨2, rfl, by decide +kernel, rfl⟩
theorem d_X11_laysOrder_37 : decAL cX11_laysOrder 37 0 38 := Or.inr ⟨0, rfl, by decide +kernel, rfl⟩
theorem d_X11_laysOrder_38 : dec 3 cX11_laysOrder 38 (.getfield 7) 41 := ⟨by decide +kernel, rfl⟩
theorem d_X11_laysOrder_41 : dec 1 cX11_laysOrder 41 (.iconst 0) 42 := ⟨by decide +kernel, rfl⟩
theorem d_X11_laysOrder_42 : dec 1 cX11_laysOrder 42 .iaload 43 := ⟨by decide +kernel, rfl⟩
theorem d_X11_laysOrder_43 : decB cX11_laysOrder 43 (.if_icmp .ge 72) (72) 46 115 := ⟨by decide +kernel, rfl, by decide⟩
theorem d_X11_laysOrder_46 : decIL cX11_laysOrder 46 1 47 := Or.inr ⟨1, rfl, by decide +kernel, rfl⟩
theorem d_X11_laysOrder_47 : decB cX11_laysOrder 47 (.ifCond .ne 68) (68) 50 115 := ⟨by decide +kernel, rfl, by decide⟩
theorem d_X11_laysOrder_50 : decAL cX11_laysOrder 50 0 51 := Or.inr ⟨0, rfl, by decide +kernel, rfl⟩
theorem d_X11_laysOrder_51 : dec 3 cX11_laysOrder 51 (.getfield 63) 54 := ⟨by decide +kernel, rfl⟩
theorem d_X11_laysOrder_54 : decIL cX11_laysOrder 54 2 55 := Or.inr ⟨2, rfl, by decide +kernel, rfl⟩
theorem d_X11_laysOrder_55 : dec 1 cX11_laysOrder 55 .iaload 56 := ⟨by decide +kernel, rfl⟩
theorem d_X11_laysOrder_56 : dec 1 cX11_laysOrder 56 (.iconst (-1)) 57 := ⟨by decide +kernel, rfl⟩
theorem d_X11_laysOrder_57 : decB cX11_laysOrder 57 (.if_icmp .ne 15) (15) 60 72 := ⟨by decide +kernel, rfl, by decide⟩
theorem d_X11_laysOrder_60 : decAL cX11_laysOrder 60 0 61 := Or.inr ⟨0, rfl, by decide +kernel, rfl⟩
theorem d_X11_laysOrder_61 : decIL cX11_laysOrder 61 2 62 := Or.inr ⟨2, rfl, by decide +kernel, rfl⟩
theorem d_X11_laysOrder_62 : dec 3 cX11_laysOrder 62 (.invokevirtual 287) 65 := ⟨by decide +kernel, rfl⟩
theorem d_X11_laysOrder_65 : decB cX11_laysOrder 65 (.ifCond .eq 7) (7) 68 72 := ⟨by decide +kernel, rfl, by decide⟩
theorem d_X11_laysOrder_68 : dec 1 cX11_laysOrder 68 (.iconst 1) 69 := ⟨by decide +kernel, rfl⟩
theorem d_X11_laysOrder_69 : decB cX11_laysOrder 69 (.goto 4) (4) 72 73 := ⟨by decide +kernel, rfl, by decide⟩
theorem d_X11_laysOrder_72 : dec 1 cX11_laysOrder 72 (.iconst 0) 73 := ⟨by decide +kernel, rfl⟩
theorem d_X11_laysOrder_73 : decIS cX11_laysOrder 73 1 74 := Or.inr ⟨1, rfl, by decide +kernel, rfl⟩
theorem d_X11_laysOrder_74 : decIL cX11_laysOrder 74 1 75 := Or.inr ⟨1, rfl, by decide +kernel, rfl⟩
theorem d_X11_laysOrder_75 : decB cX11_laysOrder 75 (.ifCond .eq 34) (34) 78 109 := ⟨by decide +kernel, rfl, by decide⟩
theorem d_X11_laysOrder_78 : decAL cX11_laysOrder 78 0 79 := Or.inr ⟨0, rfl, by decide +kernel, rfl⟩
theorem d_X11_laysOrder_79 : dec 3 cX11_laysOrder 79 (.getfield 63) 82 := ⟨by decide +kernel, rfl⟩
theorem d_X11_laysOrder_82 : decIL cX11_laysOrder 82 2 83 := Or.inr ⟨2, rfl, by decide +kernel, rfl⟩
theorem d_X11_laysOrder_83 : decAL cX11_laysOrder 83 0 84 := Or.inr ⟨0, rfl, by decide +kernel, rfl⟩
theorem d_X11_laysOrder_84 : decIL cX11_laysOrder 84 2 85 := Or.inr ⟨2, rfl, by decide +kernel, rfl⟩
theorem d_X11_laysOrder_85 : dec 3 cX11_laysOrder 85 (.invokevirtual 290) 88 := ⟨by decide +kernel, rfl⟩
theorem d_X11_laysOrder_88 : dec 1 cX11_laysOrder 88 .iastore 89 := ⟨by decide +kernel, rfl⟩
theorem d_X11_laysOrder_89 : decAL cX11_laysOrder 89 0 90 := Or.inr ⟨0, rfl, by decide +kernel, rfl⟩
theorem d_X11_laysOrder_90 : dec 3 cX11_laysOrder 90 (.getfield 60) 93 := ⟨by decide +kernel, rfl⟩
theorem d_X11_laysOrder_93 : decAL cX11_laysOrder 93 0 94 := Or.inr ⟨0, rfl, by decide +kernel, rfl⟩
theorem d_X11_laysOrder_94 : dec 3 cX11_laysOrder 94 (.getfield 284) 97 := ⟨by decide +kernel, rfl⟩
theorem d_X11_laysOrder_97 : decIL cX11_laysOrder 97 2 98 := Or.inr ⟨2, rfl, by decide +kernel, rfl⟩
theorem d_X11_laysOrder_98 : dec 1 cX11_laysOrder 98 .iastore 99 := ⟨by decide +kernel, rfl⟩
theorem d_X11_laysOrder_99 : decAL cX11_laysOrder 99 0 100 := Or.inr ⟨0, rfl, by decide +kernel, rfl⟩
theorem d_X11_laysOrder_100 : dec 1 cX11_laysOrder 100 .dup 101 := ⟨by decide +kernel, rfl⟩
theorem d_X11_laysOrder_101 : dec 3 cX11_laysOrder 101 (.getfield 284) 104 := ⟨by decide +kernel, rfl⟩
theorem d_X11_laysOrder_104 : dec 1 cX11_laysOrder 104 (.iconst 1) 105 := ⟨by decide +kernel, rfl⟩
theorem d_X11_laysOrder_105 : dec 1 cX11_laysOrder 105 .iadd 106 := ⟨by decide +kernel, rfl⟩
theorem d_X11_laysOrder_106 : dec 3 cX11_laysOrder 106 (.putfield 284) 109 := ⟨by decide +kernel, rfl⟩
theorem d_X11_laysOrder_109 : dec 3 cX11_laysOrder 109 (.iinc 2 1) 112 := ⟨by decide +kernel, rfl⟩
theorem d_X11_laysOrder_112 : decB cX11_laysOrder 112 (.goto (-76)) (-76) 115 36 := ⟨by decide +kernel, rfl, by decide⟩
theorem d_X11_laysOrder_115 : decB cX11_laysOrder 115 (.goto (-87)) (-87) 118 28 := ⟨by decide +kernel, rfl, by decide⟩
theorem d_X11_laysOrder_118 : dec 1 cX11_laysOrder 118 .return_ 119 := ⟨by decide +kernel, rfl⟩
def k_X11_laysOrder_73 (F : Nat)  (rec36 : Int32 → Int32 → Nat → GH → Option (Nat × GH)) (v0 : Nat) (v2 : Int32) (s0 : Int32) (n : Nat) (G : GH) : Option (Nat × GH) :=
  if s0 = 0 then
  (rec36 s0 (v2 + 1) n G)
  else (Option.bind (gR G v0 11 33) (fun (x6 : Nat) =>
  cvP G v0 11 (f_X11_waveOf F v0 v2 G) (fun (x7 : Int32) =>
  Option.bind (aS G x6 0 v2 x7) (fun (G8 : GH) =>
  Option.bind (gR G8 v0 11 31) (fun (x9 : Nat) =>
  Option.bind (gI G8 v0 11 32) (fun (x10 : Int32) =>
  Option.bind (aS G8 x9 0 x10 v2) (fun (G11 : GH) =>
  Option.bind (gI G11 v0 11 32) (fun (x12 : Int32) =>
  Option.bind (pV G11 v0 11 32 (.int (x12 + (1 : Int32)))) (fun (G13 : GH) =>
  rec36 s0 (v2 + 1) n G13)))))))))
def k_X11_laysOrder_72 (F : Nat)  (rec36 : Int32 → Int32 → Nat → GH → Option (Nat × GH)) (v0 : Nat) (v2 : Int32)  (n : Nat) (G : GH) : Option (Nat × GH) :=
  k_X11_laysOrder_73 F  rec36 v0 v2 (0 : Int32) n G
def b_X11_laysOrder_36 (F : Nat)  (rec28 : Int32 → Nat → GH → Option (Nat × GH)) (v0 : Nat) (rec36 : Int32 → Int32 → Nat → GH → Option (Nat × GH)) : Int32 → Int32 → Nat → GH → Option (Nat × GH) := fun v1 v2 n G =>
  Option.bind (gR G v0 11 1) (fun (x2 : Nat) =>
  Option.bind (aI G x2 0 (0 : Int32)) (fun (x3 : Int32) =>
  if x3 ≤ v2 then
  (rec28 v1 n G)
  else (if v1 = 0 then
  (Option.bind (gR G v0 11 33) (fun (x4 : Nat) =>
  Option.bind (aI G x4 0 v2) (fun (x5 : Int32) =>
  if x5 = (-1 : Int32) then
  (cvP G v0 11 (f_X11_mayStart F v0 v2 G) (fun (x14 : Int32) =>
  if x14 = 0 then
  (k_X11_laysOrder_72 F  rec36 v0 v2 n G)
  else (k_X11_laysOrder_73 F  rec36 v0 v2 (1 : Int32) n G)))
  else (k_X11_laysOrder_72 F  rec36 v0 v2 n G))))
  else (rec28 v1 n G))))
def b_X11_laysOrder_28 (F : Nat)   (v0 : Nat) (rec28 : Int32 → Nat → GH → Option (Nat × GH)) : Int32 → Nat → GH → Option (Nat × GH) := fun v1 n G =>
  if v1 = 0 then
  (some (n, G))
  else (fixN (fun _ _ _ _ => none) (b_X11_laysOrder_36 F  rec28 v0) F (0 : Int32) (0 : Int32) n G)
def k_X11_laysOrder_26 (F : Nat)   (v0 : Nat)  (n : Nat) (G : GH) : Option (Nat × GH) :=
  fixN (fun _ _ _ => none) (b_X11_laysOrder_28 F   v0) F (1 : Int32) n G
def b_X11_laysOrder_7 (F : Nat)   (v0 : Nat) (rec7 : Int32 → Nat → GH → Option (Nat × GH)) : Int32 → Nat → GH → Option (Nat × GH) := fun v1 n G =>
  if (12 : Int32) ≤ v1 then
  (k_X11_laysOrder_26 F   v0 n G)
  else (Option.bind (gR G v0 11 33) (fun (x15 : Nat) =>
  Option.bind (aS G x15 0 v1 (-1 : Int32)) (fun (G16 : GH) =>
  rec7 (v1 + 1) n G16)))
def f_X11_laysOrder (F : Nat)  (v0 : Nat) (n : Nat) (G : GH) : Option (Nat × GH) :=
  Option.bind (pV G v0 11 32 (.int (0 : Int32))) (fun (G1 : GH) =>
  fixN (fun _ _ _ => none) (b_X11_laysOrder_7 F   v0) F (0 : Int32) n G1)
set_option maxRecDepth 100000 in
set_option maxHeartbeats 4000000 in
theorem c_X11_laysOrder_73 {E : GE} {F : Nat}  {rec36 : Int32 → Int32 → Nat → GH → Option (Nat × GH)} {v0 : Nat} {v2 : Int32} {s0 : Int32} {n : Nat} {G : GH} {z : Nat × GH}  (hrec36 : ∀ (w1 : Int32) (w2 : Int32) (n : Nat) (G : GH) (z : Nat × GH), rec36 w1 w2 n G = some z → WG E RX11 "laysOrder" cX11_laysOrder 3 none 3 67 0 0 36 [(0, .ref v0), (1, .int w1), (2, .int w2)] [] n G (g_O E (none, z.1, z.2))) (h : k_X11_laysOrder_73 F  rec36 v0 v2 s0 n G = some z) : WG E RX11 "laysOrder" cX11_laysOrder 3 none 3 67 0 0 73 [(0, .ref v0), (2, .int v2)] [.int s0] n G (g_O E (none, z.1, z.2)) := by
  unfold k_X11_laysOrder_73 at h
  refine r_istore d_X11_laysOrder_73 rfl rfl ?_
  refine r_iload d_X11_laysOrder_74 rfl ?_
  refine r_if_eq h d_X11_laysOrder_75 (fun h => ?_) (fun h => ?_)
  · refine r_iinc d_X11_laysOrder_109 rfl (ii_1 _) rfl rfl ?_
    refine r_goto d_X11_laysOrder_112 ?_
    refine r_lv [(0, .ref v0), (1, .int s0), (2, .int (v2 + 1))] (g_allc rfl (g_allc rfl (g_allc rfl g_alln))) ?_
    exact hrec36 _ _ _ _ _ h
  · refine r_aload d_X11_laysOrder_78 rfl ?_
    refine r_getR h d_X11_laysOrder_79 pf_X11_63 (fun x6 h => ?_)
    refine r_iload d_X11_laysOrder_82 rfl ?_
    refine r_aload d_X11_laysOrder_83 rfl ?_
    refine r_iload d_X11_laysOrder_84 rfl ?_
    refine r_invP [_] h (fun _ hq => s_X11_waveOf hq) d_X11_laysOrder_85 pl_X11_290 py_X11_waveOf pi_X11_waveOf rfl rfl rfl (fun x7 h => ?_)
    refine r_iast h d_X11_laysOrder_88 (fun G8 h => ?_)
    refine r_aload d_X11_laysOrder_89 rfl ?_
    refine r_getR h d_X11_laysOrder_90 pf_X11_60 (fun x9 h => ?_)
    refine r_aload d_X11_laysOrder_93 rfl ?_
    refine r_getI h d_X11_laysOrder_94 pf_X11_284 (fun x10 h => ?_)
    refine r_iload d_X11_laysOrder_97 rfl ?_
    refine r_iast h d_X11_laysOrder_98 (fun G11 h => ?_)
    refine r_aload d_X11_laysOrder_99 rfl ?_
    refine r_dup d_X11_laysOrder_100 rfl ?_
    refine r_getI h d_X11_laysOrder_101 pf_X11_284 (fun x12 h => ?_)
    refine r_iconst d_X11_laysOrder_104 ic_1 ?_
    refine r_iadd d_X11_laysOrder_105 ?_
    refine r_put h d_X11_laysOrder_106 pw_X11_284 rfl rfl (fun G13 h => ?_)
    refine r_iinc d_X11_laysOrder_109 rfl (ii_1 _) rfl rfl ?_
    refine r_goto d_X11_laysOrder_112 ?_
    refine r_lv [(0, .ref v0), (1, .int s0), (2, .int (v2 + 1))] (g_allc rfl (g_allc rfl (g_allc rfl g_alln))) ?_
    exact hrec36 _ _ _ _ _ h
set_option maxRecDepth 100000 in
set_option maxHeartbeats 4000000 in
theorem c_X11_laysOrder_72 {E : GE} {F : Nat}  {rec36 : Int32 → Int32 → Nat → GH → Option (Nat × GH)} {v0 : Nat} {v2 : Int32}  {n : Nat} {G : GH} {z : Nat × GH}  (hrec36 : ∀ (w1 : Int32) (w2 : Int32) (n : Nat) (G : GH) (z : Nat × GH), rec36 w1 w2 n G = some z → WG E RX11 "laysOrder" cX11_laysOrder 3 none 3 67 0 0 36 [(0, .ref v0), (1, .int w1), (2, .int w2)] [] n G (g_O E (none, z.1, z.2))) (h : k_X11_laysOrder_72 F  rec36 v0 v2  n G = some z) : WG E RX11 "laysOrder" cX11_laysOrder 3 none 3 67 0 0 72 [(0, .ref v0), (2, .int v2)] [] n G (g_O E (none, z.1, z.2)) := by
  unfold k_X11_laysOrder_72 at h
  refine r_iconst d_X11_laysOrder_72 ic_0 ?_
  refine r_lv [(0, .ref v0), (2, .int v2)] (g_allc rfl (g_allc rfl g_alln)) ?_
  exact c_X11_laysOrder_73  hrec36 h
set_option maxRecDepth 100000 in
set_option maxHeartbeats 4000000 in
theorem l_X11_laysOrder_36 {E : GE} {F : Nat}  {rec28 : Int32 → Nat → GH → Option (Nat × GH)} {v0 : Nat}  (hrec28 : ∀ (w1 : Int32) (n : Nat) (G : GH) (z : Nat × GH), rec28 w1 n G = some z → WG E RX11 "laysOrder" cX11_laysOrder 3 none 3 67 0 0 28 [(0, .ref v0), (1, .int w1)] [] n G (g_O E (none, z.1, z.2))) : ∀ (K : Nat) (v1 : Int32) (v2 : Int32) (n : Nat) (G : GH) (z : Nat × GH), fixN ((fun _ _ _ _ => none) : Int32 → Int32 → Nat → GH → Option (Nat × GH)) (b_X11_laysOrder_36 F  rec28 v0) K v1 v2 n G = some z → WG E RX11 "laysOrder" cX11_laysOrder 3 none 3 67 0 0 36 [(0, .ref v0), (1, .int v1), (2, .int v2)] [] n G (g_O E (none, z.1, z.2)) := by
  intro K
  refine fixN_ind (P := fun (r : Int32 → Int32 → Nat → GH → Option (Nat × GH)) => ∀ (v1 : Int32) (v2 : Int32) (n : Nat) (G : GH) (z : Nat × GH), r v1 v2 n G = some z → WG E RX11 "laysOrder" cX11_laysOrder 3 none 3 67 0 0 36 [(0, .ref v0), (1, .int v1), (2, .int v2)] [] n G (g_O E (none, z.1, z.2))) ?_ ?_ K
  · intro v1 v2 n G z h
    cases h
  · intro rec36 hrec36 v1 v2 n G z h
    unfold b_X11_laysOrder_36 at h
    refine r_iload d_X11_laysOrder_36 rfl ?_
    refine r_aload d_X11_laysOrder_37 rfl ?_
    refine r_getR h d_X11_laysOrder_38 pf_X11_7 (fun x2 h => ?_)
    refine r_iconst d_X11_laysOrder_41 ic_0 ?_
    refine r_iald h d_X11_laysOrder_42 (fun x3 h => ?_)
    refine r_icmp_ge h d_X11_laysOrder_43 (fun h => ?_) (fun h => ?_)
    · refine r_goto d_X11_laysOrder_115 ?_
      refine r_lv [(0, .ref v0), (1, .int v1)] (g_allc rfl (g_allc rfl g_alln)) ?_
      exact hrec28 _ _ _ _ h
    · refine r_iload d_X11_laysOrder_46 rfl ?_
      refine r_if_ne h d_X11_laysOrder_47 (fun h => ?_) (fun h => ?_)
      · refine r_goto d_X11_laysOrder_115 ?_
        refine r_lv [(0, .ref v0), (1, .int v1)] (g_allc rfl (g_allc rfl g_alln)) ?_
        exact hrec28 _ _ _ _ h
      · refine r_aload d_X11_laysOrder_50 rfl ?_
        refine r_getR h d_X11_laysOrder_51 pf_X11_63 (fun x4 h => ?_)
        refine r_iload d_X11_laysOrder_54 rfl ?_
        refine r_iald h d_X11_laysOrder_55 (fun x5 h => ?_)
        refine r_iconst d_X11_laysOrder_56 ic_m1 ?_
        refine r_icmp_ne h d_X11_laysOrder_57 (fun h => ?_) (fun h => ?_)
        · refine r_lv [(0, .ref v0), (2, .int v2)] (g_allc rfl (g_allc rfl g_alln)) ?_
          exact c_X11_laysOrder_72  hrec36 h
        · refine r_aload d_X11_laysOrder_60 rfl ?_
          refine r_iload d_X11_laysOrder_61 rfl ?_
          refine r_invP [_] h (fun _ hq => s_X11_mayStart hq) d_X11_laysOrder_62 pl_X11_287 py_X11_mayStart pi_X11_mayStart rfl rfl rfl (fun x14 h => ?_)
          refine r_if_eq h d_X11_laysOrder_65 (fun h => ?_) (fun h => ?_)
          · refine r_lv [(0, .ref v0), (2, .int v2)] (g_allc rfl (g_allc rfl g_alln)) ?_
            exact c_X11_laysOrder_72  hrec36 h
          · refine r_iconst d_X11_laysOrder_68 ic_1 ?_
            refine r_goto d_X11_laysOrder_69 ?_
            refine r_lv [(0, .ref v0), (2, .int v2)] (g_allc rfl (g_allc rfl g_alln)) ?_
            exact c_X11_laysOrder_73  hrec36 h
set_option maxRecDepth 100000 in
set_option maxHeartbeats 4000000 in
theorem l_X11_laysOrder_28 {E : GE} {F : Nat}   {v0 : Nat}   : ∀ (K : Nat) (v1 : Int32) (n : Nat) (G : GH) (z : Nat × GH), fixN ((fun _ _ _ => none) : Int32 → Nat → GH → Option (Nat × GH)) (b_X11_laysOrder_28 F   v0) K v1 n G = some z → WG E RX11 "laysOrder" cX11_laysOrder 3 none 3 67 0 0 28 [(0, .ref v0), (1, .int v1)] [] n G (g_O E (none, z.1, z.2)) := by
  intro K
  refine fixN_ind (P := fun (r : Int32 → Nat → GH → Option (Nat × GH)) => ∀ (v1 : Int32) (n : Nat) (G : GH) (z : Nat × GH), r v1 n G = some z → WG E RX11 "laysOrder" cX11_laysOrder 3 none 3 67 0 0 28 [(0, .ref v0), (1, .int v1)] [] n G (g_O E (none, z.1, z.2))) ?_ ?_ K
  · intro v1 n G z h
    cases h
  · intro rec28 hrec28 v1 n G z h
    unfold b_X11_laysOrder_28 at h
    refine r_iload d_X11_laysOrder_28 rfl ?_
    refine r_if_eq h d_X11_laysOrder_29 (fun h => ?_) (fun h => ?_)
    · exact r_vret h d_X11_laysOrder_118
    · refine r_iconst d_X11_laysOrder_32 ic_0 ?_
      refine r_istore d_X11_laysOrder_33 rfl rfl ?_
      refine r_iconst d_X11_laysOrder_34 ic_0 ?_
      refine r_istore d_X11_laysOrder_35 rfl rfl ?_
      refine r_lv [(0, .ref v0), (1, .int (0 : Int32)), (2, .int (0 : Int32))] (g_allc rfl (g_allc rfl (g_allc rfl g_alln))) ?_
      exact l_X11_laysOrder_36  hrec28 _ _ _ _ _ _ h
set_option maxRecDepth 100000 in
set_option maxHeartbeats 4000000 in
theorem c_X11_laysOrder_26 {E : GE} {F : Nat}   {v0 : Nat}  {n : Nat} {G : GH} {z : Nat × GH}   (h : k_X11_laysOrder_26 F   v0  n G = some z) : WG E RX11 "laysOrder" cX11_laysOrder 3 none 3 67 0 0 26 [(0, .ref v0)] [] n G (g_O E (none, z.1, z.2)) := by
  unfold k_X11_laysOrder_26 at h
  refine r_iconst d_X11_laysOrder_26 ic_1 ?_
  refine r_istore d_X11_laysOrder_27 rfl rfl ?_
  refine r_lv [(0, .ref v0), (1, .int (1 : Int32))] (g_allc rfl (g_allc rfl g_alln)) ?_
  exact l_X11_laysOrder_28   _ _ _ _ _ h
set_option maxRecDepth 100000 in
set_option maxHeartbeats 4000000 in
theorem l_X11_laysOrder_7 {E : GE} {F : Nat}   {v0 : Nat}   : ∀ (K : Nat) (v1 : Int32) (n : Nat) (G : GH) (z : Nat × GH), fixN ((fun _ _ _ => none) : Int32 → Nat → GH → Option (Nat × GH)) (b_X11_laysOrder_7 F   v0) K v1 n G = some z → WG E RX11 "laysOrder" cX11_laysOrder 3 none 3 67 0 0 7 [(0, .ref v0), (1, .int v1)] [] n G (g_O E (none, z.1, z.2)) := by
  intro K
  refine fixN_ind (P := fun (r : Int32 → Nat → GH → Option (Nat × GH)) => ∀ (v1 : Int32) (n : Nat) (G : GH) (z : Nat × GH), r v1 n G = some z → WG E RX11 "laysOrder" cX11_laysOrder 3 none 3 67 0 0 7 [(0, .ref v0), (1, .int v1)] [] n G (g_O E (none, z.1, z.2))) ?_ ?_ K
  · intro v1 n G z h
    cases h
  · intro rec7 hrec7 v1 n G z h
    unfold b_X11_laysOrder_7 at h
    refine r_iload d_X11_laysOrder_7 rfl ?_
    refine r_bipush d_X11_laysOrder_8 bp_12 ?_
    refine r_icmp_ge h d_X11_laysOrder_10 (fun h => ?_) (fun h => ?_)
    · refine r_lv [(0, .ref v0)] (g_allc rfl g_alln) ?_
      exact c_X11_laysOrder_26   h
    · refine r_aload d_X11_laysOrder_13 rfl ?_
      refine r_getR h d_X11_laysOrder_14 pf_X11_63 (fun x15 h => ?_)
      refine r_iload d_X11_laysOrder_17 rfl ?_
      refine r_iconst d_X11_laysOrder_18 ic_m1 ?_
      refine r_iast h d_X11_laysOrder_19 (fun G16 h => ?_)
      refine r_iinc d_X11_laysOrder_20 rfl (ii_1 _) rfl rfl ?_
      refine r_goto d_X11_laysOrder_23 ?_
      refine r_lv [(0, .ref v0), (1, .int (v1 + 1))] (g_allc rfl (g_allc rfl g_alln)) ?_
      exact hrec7 _ _ _ _ h
set_option maxRecDepth 100000 in
set_option maxHeartbeats 4000000 in
theorem s_X11_laysOrder {E : GE} {F : Nat}  {v0 : Nat} {n : Nat} {G : GH} {z : Nat × GH}  (h : f_X11_laysOrder F  v0 n G = some z) : GM E yX11_laysOrder cX11_laysOrder 3 none 3 67 0 0 [.ref v0] n G (none, z.1, z.2) := by
  refine GM.of (by decide) (Nat.le_of_ble_eq_true rfl) ?_
  show WG E RX11 "laysOrder" cX11_laysOrder 3 none 3 67 0 0 0 [(0, .ref v0)] [] n G (g_O E (none, z.1, z.2))
  unfold f_X11_laysOrder at h
  refine r_aload d_X11_laysOrder_0 rfl ?_
  refine r_iconst d_X11_laysOrder_1 ic_0 ?_
  refine r_put h d_X11_laysOrder_2 pw_X11_284 rfl rfl (fun G1 h => ?_)
  refine r_iconst d_X11_laysOrder_5 ic_0 ?_
  refine r_istore d_X11_laysOrder_6 rfl rfl ?_
  refine r_lv [(0, .ref v0), (1, .int (0 : Int32))] (g_allc rfl (g_allc rfl g_alln)) ?_
  exact l_X11_laysOrder_7   _ _ _ _ _ h
/-! X11_start -/
theorem py_X11_laysOrder : pY yX11_laysOrder cX11_laysOrder 3 none 0 := ⟨g_in 1511 (by decide +kernel) rfl, g_in 104 (by decide +kernel) rfl, by decide, by decide, by decide +kernel⟩
theorem pi_X11_laysOrder : pI yX11_laysOrder 11 := ⟨g_in 1510 (by decide +kernel) rfl, g_in 77 (by decide +kernel) rfl, (RX11, TX11, 37), rfl, rfl⟩
theorem pl_X11_293 : pL RX11 293 yX11_laysOrder := Or.inl (g_in 1508 (by decide +kernel) rfl)
theorem d_X11_start_0 : decAL cX11_start 0 0 1 := Or.inr ⟨0, rfl, by decide +kernel, rfl⟩
theorem d_X11_start_1 : dec 1 cX11_start 1 (.iconst 0) 2 := ⟨by decide +kernel, rfl⟩
theorem d_X11_start_2 : dec 3 cX11_start 2 (.putfield 72) 5 := ⟨by decide +kernel, rfl⟩
theorem d_X11_start_5 : decAL cX11_start 5 0 6 := Or.inr ⟨0, rfl, by decide +kernel, rfl⟩
theorem d_X11_start_6 : dec 3 cX11_start 6 (.invokevirtual 293) 9 := ⟨by decide +kernel, rfl⟩
theorem d_X11_start_9 : decIL cX11_start 9 1 10 := Or.inr ⟨1, rfl, by decide +kernel, rfl⟩
theorem d_X11_start_10 : dec 1 cX11_start 10 (.iconst (-1)) 11 := ⟨by decide +kernel, rfl⟩
theorem d_X11_start_11 : decB cX11_start 11 (.if_icmp .ne 8) (8) 14 19 := ⟨by decide +kernel, rfl, by decide⟩
theorem d_X11_start_14 : decAL cX11_start 14 0 15 := Or.inr ⟨0, rfl, by decide +kernel, rfl⟩
theorem d_X11_start_15 : dec 3 cX11_start 15 (.getfield 284) 18 := ⟨by decide +kernel, rfl⟩
theorem d_X11_start_18 : dec 1 cX11_start 18 .ireturn 19 := ⟨by decide +kernel, rfl⟩
theorem d_X11_start_19 : decIL cX11_start 19 1 20 := Or.inr ⟨1, rfl, by decide +kernel, rfl⟩
theorem d_X11_start_20 : dec 1 cX11_start 20 (.iconst 0) 21 := ⟨by decide +kernel, rfl⟩
theorem d_X11_start_21 : decAL cX11_start 21 0 22 := Or.inr ⟨0, rfl, by decide +kernel, rfl⟩
theorem d_X11_start_22 : dec 3 cX11_start 22 (.getfield 284) 25 := ⟨by decide +kernel, rfl⟩
theorem d_X11_start_25 : dec 1 cX11_start 25 (.iconst 1) 26 := ⟨by decide +kernel, rfl⟩
theorem d_X11_start_26 : dec 1 cX11_start 26 .isub 27 := ⟨by decide +kernel, rfl⟩
theorem d_X11_start_27 : dec 3 cX11_start 27 (.invokestatic 80) 30 := ⟨by decide +kernel, rfl⟩
theorem d_X11_start_30 : decB cX11_start 30 (.ifCond .eq 12) (12) 33 42 := ⟨by decide +kernel, rfl, by decide⟩
theorem d_X11_start_33 : decAL cX11_start 33 0 34 := Or.inr ⟨0, rfl, by decide +kernel, rfl⟩
theorem d_X11_start_34 : dec 3 cX11_start 34 (.getfield 60) 37 := ⟨by decide +kernel, rfl⟩
theorem d_X11_start_37 : decIL cX11_start 37 1 38 := Or.inr ⟨1, rfl, by decide +kernel, rfl⟩
theorem d_X11_start_38 : dec 1 cX11_start 38 .iaload 39 := ⟨by decide +kernel, rfl⟩
theorem d_X11_start_39 : decB cX11_start 39 (.goto 4) (4) 42 43 := ⟨by decide +kernel, rfl, by decide⟩
theorem d_X11_start_42 : dec 1 cX11_start 42 (.iconst (-1)) 43 := ⟨by decide +kernel, rfl⟩
theorem d_X11_start_43 : dec 1 cX11_start 43 .ireturn 44 := ⟨by decide +kernel, rfl⟩
def f_X11_start (F : Nat)  (v0 : Nat) (v1 : Int32) (n : Nat) (G : GH) : Option (Int32 × Nat × GH) :=
  Option.bind (pV G v0 11 0 (.int (0 : Int32))) (fun (G1 : GH) =>
  cvU G1 v0 11 (f_X11_laysOrder F v0 n G1) (fun (n2 : Nat) (G3 : GH) =>
  if v1 = (-1 : Int32) then
  (Option.bind (gI G3 v0 11 32) (fun (x8 : Int32) =>
  some (x8, n2, G3)))
  else (Option.bind (gI G3 v0 11 32) (fun (x4 : Int32) =>
  Option.bind (f_X11_in F v1 (0 : Int32) (x4 - (1 : Int32)) G3) (fun (x5 : Int32) =>
  if x5 = 0 then
  (some ((-1 : Int32), n2, G3))
  else (Option.bind (gR G3 v0 11 31) (fun (x6 : Nat) =>
  Option.bind (aI G3 x6 0 v1) (fun (x7 : Int32) =>
  some (x7, n2, G3)))))))))
set_option maxRecDepth 100000 in
set_option maxHeartbeats 4000000 in
theorem s_X11_start {E : GE} {F : Nat}  {v0 : Nat} {v1 : Int32} {n : Nat} {G : GH} {z : Int32 × Nat × GH}  (h : f_X11_start F  v0 v1 n G = some z) : GM E yX11_start cX11_start 2 (some .int) 4 89 0 0 [.ref v0, .int v1] n G (some (.int z.1), z.2.1, z.2.2) := by
  refine GM.of (by decide) (Nat.le_of_ble_eq_true rfl) ?_
  show WG E RX11 "start" cX11_start 2 (some .int) 4 89 0 0 0 [(0, .ref v0), (1, .int v1)] [] n G (g_O E (some (.int z.1), z.2.1, z.2.2))
  unfold f_X11_start at h
  refine r_aload d_X11_start_0 rfl ?_
  refine r_iconst d_X11_start_1 ic_0 ?_
  refine r_put h d_X11_start_2 pw_X11_72 rfl rfl (fun G1 h => ?_)
  refine r_aload d_X11_start_5 rfl ?_
  refine r_invU [] h (fun _ hq => s_X11_laysOrder hq) d_X11_start_6 pl_X11_293 py_X11_laysOrder pi_X11_laysOrder rfl rfl rfl (fun n2 G3 h => ?_)
  refine r_iload d_X11_start_9 rfl ?_
  refine r_iconst d_X11_start_10 ic_m1 ?_
  refine r_icmp_ne h d_X11_start_11 (fun h => ?_) (fun h => ?_)
  · refine r_iload d_X11_start_19 rfl ?_
    refine r_iconst d_X11_start_20 ic_0 ?_
    refine r_aload d_X11_start_21 rfl ?_
    refine r_getI h d_X11_start_22 pf_X11_284 (fun x4 h => ?_)
    refine r_iconst d_X11_start_25 ic_1 ?_
    refine r_isub d_X11_start_26 ?_
    refine r_invSP [_, _, _] h (fun _ hq => s_X11_in hq) d_X11_start_27 pl_X11_80 py_X11_in ps_X11_in rfl rfl rfl (fun x5 h => ?_)
    refine r_if_eq h d_X11_start_30 (fun h => ?_) (fun h => ?_)
    · refine r_iconst d_X11_start_42 ic_m1 ?_
      exact r_iret h d_X11_start_43
    · refine r_aload d_X11_start_33 rfl ?_
      refine r_getR h d_X11_start_34 pf_X11_60 (fun x6 h => ?_)
      refine r_iload d_X11_start_37 rfl ?_
      refine r_iald h d_X11_start_38 (fun x7 h => ?_)
      refine r_goto d_X11_start_39 ?_
      exact r_iret h d_X11_start_43
  · refine r_aload d_X11_start_14 rfl ?_
    refine r_getI h d_X11_start_15 pf_X11_284 (fun x8 h => ?_)
    exact r_iret h d_X11_start_18
/-! X11_firstThatCanNot -/
theorem d_X11_firstThatCanNot_0 : dec 1 cX11_firstThatCanNot 0 (.iconst 0) 1 := ⟨by decide +kernel, rfl⟩
theorem d_X11_firstThatCanNot_1 : decIS cX11_firstThatCanNot 1 2 2 := Or.inr ⟨2, rfl, by decide +kernel, rfl⟩
theorem d_X11_firstThatCanNot_2 : decAL cX11_firstThatCanNot 2 0 3 := Or.inr ⟨0, rfl, by decide +kernel, rfl⟩
theorem d_X11_firstThatCanNot_3 : decIL cX11_firstThatCanNot 3 1 4 := Or.inr ⟨1, rfl, by decide +kernel, rfl⟩
theorem d_X11_firstThatCanNot_4 : decIL cX11_firstThatCanNot 4 2 5 := Or.inr ⟨2, rfl, by decide +kernel, rfl⟩
theorem d_X11_firstThatCanNot_5 : dec 3 cX11_firstThatCanNot 5 (.invokevirtual 228) 8 := ⟨by decide +kernel, rfl⟩
theorem d_X11_firstThatCanNot_8 : decB cX11_firstThatCanNot 8 (.ifCond .ne 20) (20) 11 28 := ⟨by decide +kernel, rfl, by decide⟩
theorem d_X11_firstThatCanNot_11 : decAL cX11_firstThatCanNot 11 0 12 := Or.inr ⟨0, rfl, by decide +kernel, rfl⟩
theorem d_X11_firstThatCanNot_12 : dec 3 cX11_firstThatCanNot 12 (.getfield 63) 15 := ⟨by decide +kernel, rfl⟩
theorem d_X11_firstThatCanNot_15 : decAL cX11_firstThatCanNot 15 0 16 := Or.inr ⟨0, rfl, by decide +kernel, rfl⟩
theorem d_X11_firstThatCanNot_16 : decIL cX11_firstThatCanNot 16 1 17 := Or.inr ⟨1, rfl, by decide +kernel, rfl⟩
theorem d_X11_firstThatCanNot_17 : dec 1 cX11_firstThatCanNot 17 (.iconst 3) 18 := ⟨by decide +kernel, rfl⟩
theorem d_X11_firstThatCanNot_18 : decIL cX11_firstThatCanNot 18 2 19 := Or.inr ⟨2, rfl, by decide +kernel, rfl⟩
theorem d_X11_firstThatCanNot_19 : dec 1 cX11_firstThatCanNot 19 .iadd 20 := ⟨by decide +kernel, rfl⟩
theorem d_X11_firstThatCanNot_20 : dec 3 cX11_firstThatCanNot 20 (.invokevirtual 76) 23 := ⟨by decide +kernel, rfl⟩
theorem d_X11_firstThatCanNot_23 : dec 1 cX11_firstThatCanNot 23 .iaload 24 := ⟨by decide +kernel, rfl⟩
theorem d_X11_firstThatCanNot_24 : dec 1 cX11_firstThatCanNot 24 (.iconst (-1)) 25 := ⟨by decide +kernel, rfl⟩
theorem d_X11_firstThatCanNot_25 : decB cX11_firstThatCanNot 25 (.if_icmp .eq 9) (9) 28 34 := ⟨by decide +kernel, rfl, by decide⟩
theorem d_X11_firstThatCanNot_28 : dec 3 cX11_firstThatCanNot 28 (.iinc 2 1) 31 := ⟨by decide +kernel, rfl⟩
theorem d_X11_firstThatCanNot_31 : decB cX11_firstThatCanNot 31 (.goto (-29)) (-29) 34 2 := ⟨by decide +kernel, rfl, by decide⟩
theorem d_X11_firstThatCanNot_34 : decAL cX11_firstThatCanNot 34 0 35 := Or.inr ⟨0, rfl, by decide +kernel, rfl⟩
theorem d_X11_firstThatCanNot_35 : decIL cX11_firstThatCanNot 35 1 36 := Or.inr ⟨1, rfl, by decide +kernel, rfl⟩
theorem d_X11_firstThatCanNot_36 : dec 1 cX11_firstThatCanNot 36 (.iconst 3) 37 := ⟨by decide +kernel, rfl⟩
theorem d_X11_firstThatCanNot_37 : decIL cX11_firstThatCanNot 37 2 38 := Or.inr ⟨2, rfl, by decide +kernel, rfl⟩
theorem d_X11_firstThatCanNot_38 : dec 1 cX11_firstThatCanNot 38 .iadd 39 := ⟨by decide +kernel, rfl⟩
theorem d_X11_firstThatCanNot_39 : dec 3 cX11_firstThatCanNot 39 (.invokevirtual 76) 42 := ⟨by decide +kernel, rfl⟩
theorem d_X11_firstThatCanNot_42 : dec 1 cX11_firstThatCanNot 42 .ireturn 43 := ⟨by decide +kernel, rfl⟩
def k_X11_firstThatCanNot_34 (F : Nat)   (v0 : Nat) (v1 : Int32) (v2 : Int32)  (G : GH) : Option (Int32) :=
  cvP G v0 11 (f_X11_of F v0 v1 ((3 : Int32) + v2) G) (fun (x5 : Int32) =>
  some x5)
def b_X11_firstThatCanNot_2 (F : Nat)   (v0 : Nat) (v1 : Int32) (G : GH) (rec2 : Int32 → Option (Int32)) : Int32 → Option (Int32) := fun v2 =>
  cvP G v0 11 (f_X11_isLazy F v0 v1 v2 G) (fun (x1 : Int32) =>
  if x1 = 0 then
  (Option.bind (gR G v0 11 33) (fun (x2 : Nat) =>
  cvP G v0 11 (f_X11_of F v0 v1 ((3 : Int32) + v2) G) (fun (x3 : Int32) =>
  Option.bind (aI G x2 0 x3) (fun (x4 : Int32) =>
  if x4 = (-1 : Int32) then
  (k_X11_firstThatCanNot_34 F   v0 v1 v2 G)
  else (rec2 (v2 + 1))))))
  else (rec2 (v2 + 1)))
def f_X11_firstThatCanNot (F : Nat)  (v0 : Nat) (v1 : Int32) (G : GH) : Option (Int32) :=
  fixN (fun _ => none) (b_X11_firstThatCanNot_2 F   v0 v1 G) F (0 : Int32)
set_option maxRecDepth 100000 in
set_option maxHeartbeats 4000000 in
theorem c_X11_firstThatCanNot_34 {E : GE} {F : Nat}   {v0 : Nat} {v1 : Int32} {v2 : Int32}  {n : Nat} {G : GH} {z : Int32}   (h : k_X11_firstThatCanNot_34 F   v0 v1 v2  G = some z) : WG E RX11 "firstThatCanNot" cX11_firstThatCanNot 3 (some .int) 2 44 0 0 34 [(0, .ref v0), (1, .int v1), (2, .int v2)] [] n G (g_O E (some (.int z), n, G)) := by
  unfold k_X11_firstThatCanNot_34 at h
  refine r_aload d_X11_firstThatCanNot_34 rfl ?_
  refine r_iload d_X11_firstThatCanNot_35 rfl ?_
  refine r_iconst d_X11_firstThatCanNot_36 ic_3 ?_
  refine r_iload d_X11_firstThatCanNot_37 rfl ?_
  refine r_iadd d_X11_firstThatCanNot_38 ?_
  refine r_invP [_, _] h (fun _ hq => s_X11_of hq) d_X11_firstThatCanNot_39 pl_X11_76 py_X11_of pi_X11_of rfl rfl rfl (fun x5 h => ?_)
  exact r_pret h d_X11_firstThatCanNot_42
set_option maxRecDepth 100000 in
set_option maxHeartbeats 4000000 in
theorem l_X11_firstThatCanNot_2 {E : GE} {F : Nat}   {v0 : Nat} {v1 : Int32} {n : Nat} {G : GH}   : ∀ (K : Nat) (v2 : Int32) (z : Int32), fixN ((fun _ => none) : Int32 → Option (Int32)) (b_X11_firstThatCanNot_2 F   v0 v1 G) K v2 = some z → WG E RX11 "firstThatCanNot" cX11_firstThatCanNot 3 (some .int) 2 44 0 0 2 [(0, .ref v0), (1, .int v1), (2, .int v2)] [] n G (g_O E (some (.int z), n, G)) := by
  intro K
  refine fixN_ind (P := fun (r : Int32 → Option (Int32)) => ∀ (v2 : Int32) (z : Int32), r v2 = some z → WG E RX11 "firstThatCanNot" cX11_firstThatCanNot 3 (some .int) 2 44 0 0 2 [(0, .ref v0), (1, .int v1), (2, .int v2)] [] n G (g_O E (some (.int z), n, G))) ?_ ?_ K
  · intro v2 z h
    cases h
  · intro rec2 hrec2 v2 z h
    unfold b_X11_firstThatCanNot_2 at h
    refine r_aload d_X11_firstThatCanNot_2 rfl ?_
    refine r_iload d_X11_firstThatCanNot_3 rfl ?_
    refine r_iload d_X11_firstThatCanNot_4 rfl ?_
    refine r_invP [_, _] h (fun _ hq => s_X11_isLazy hq) d_X11_firstThatCanNot_5 pl_X11_228 py_X11_isLazy pi_X11_isLazy rfl rfl rfl (fun x1 h => ?_)
    refine r_if_ne h d_X11_firstThatCanNot_8 (fun h => ?_) (fun h => ?_)
    · refine r_iinc d_X11_firstThatCanNot_28 rfl (ii_1 _) rfl rfl ?_
      refine r_goto d_X11_firstThatCanNot_31 ?_
      refine r_lv [(0, .ref v0), (1, .int v1), (2, .int (v2 + 1))] (g_allc rfl (g_allc rfl (g_allc rfl g_alln))) ?_
      exact hrec2 _ _ h
    · refine r_aload d_X11_firstThatCanNot_11 rfl ?_
      refine r_getR h d_X11_firstThatCanNot_12 pf_X11_63 (fun x2 h => ?_)
      refine r_aload d_X11_firstThatCanNot_15 rfl ?_
      refine r_iload d_X11_firstThatCanNot_16 rfl ?_
      refine r_iconst d_X11_firstThatCanNot_17 ic_3 ?_
      refine r_iload d_X11_firstThatCanNot_18 rfl ?_
      refine r_iadd d_X11_firstThatCanNot_19 ?_
      refine r_invP [_, _] h (fun _ hq => s_X11_of hq) d_X11_firstThatCanNot_20 pl_X11_76 py_X11_of pi_X11_of rfl rfl rfl (fun x3 h => ?_)
      refine r_iald h d_X11_firstThatCanNot_23 (fun x4 h => ?_)
      refine r_iconst d_X11_firstThatCanNot_24 ic_m1 ?_
      refine r_icmp_eq h d_X11_firstThatCanNot_25 (fun h => ?_) (fun h => ?_)
      · refine r_lv [(0, .ref v0), (1, .int v1), (2, .int v2)] (g_allc rfl (g_allc rfl (g_allc rfl g_alln))) ?_
        exact c_X11_firstThatCanNot_34   h
      · refine r_iinc d_X11_firstThatCanNot_28 rfl (ii_1 _) rfl rfl ?_
        refine r_goto d_X11_firstThatCanNot_31 ?_
        refine r_lv [(0, .ref v0), (1, .int v1), (2, .int (v2 + 1))] (g_allc rfl (g_allc rfl (g_allc rfl g_alln))) ?_
        exact hrec2 _ _ h
set_option maxRecDepth 100000 in
set_option maxHeartbeats 4000000 in
theorem s_X11_firstThatCanNot {E : GE} {F : Nat}  {v0 : Nat} {v1 : Int32} {n : Nat} {G : GH} {z : Int32}  (h : f_X11_firstThatCanNot F  v0 v1 G = some z) : GM E yX11_firstThatCanNot cX11_firstThatCanNot 3 (some .int) 2 44 0 0 [.ref v0, .int v1] n G (some (.int z), n, G) := by
  refine GM.of (by decide) (Nat.le_of_ble_eq_true rfl) ?_
  show WG E RX11 "firstThatCanNot" cX11_firstThatCanNot 3 (some .int) 2 44 0 0 0 [(0, .ref v0), (1, .int v1)] [] n G (g_O E (some (.int z), n, G))
  unfold f_X11_firstThatCanNot at h
  refine r_iconst d_X11_firstThatCanNot_0 ic_0 ?_
  refine r_istore d_X11_firstThatCanNot_1 rfl rfl ?_
  refine r_lv [(0, .ref v0), (1, .int v1), (2, .int (0 : Int32))] (g_allc rfl (g_allc rfl (g_allc rfl g_alln))) ?_
  exact l_X11_firstThatCanNot_2   _ _ _ h
/-! X11_laysLoop -/
theorem pw_X11_296 {nm : String} : pW RX11 nm 296 11 35 .int := ⟨RX11, TX11, 37, rfl, by decide, rfl, Or.inl ⟨g_in 1180 (by decide +kernel) rfl, Or.inl rfl⟩, by decide +kernel⟩
theorem pf_X11_66 : pF RX11 66 11 34 := ⟨RX11, TX11, 37, rfl, by decide, rfl, Or.inl (g_in 1179 (by decide +kernel) rfl)⟩
theorem pf_X11_296 : pF RX11 296 11 35 := ⟨RX11, TX11, 37, rfl, by decide, rfl, Or.inl (g_in 1180 (by decide +kernel) rfl)⟩
theorem py_X11_firstThatCanNot : pY yX11_firstThatCanNot cX11_firstThatCanNot 3 (some .int) 1 := ⟨g_in 1531 (by decide +kernel) rfl, g_in 104 (by decide +kernel) rfl, by decide, by decide, by decide +kernel⟩
theorem pi_X11_firstThatCanNot : pI yX11_firstThatCanNot 11 := ⟨g_in 1530 (by decide +kernel) rfl, g_in 81 (by decide +kernel) rfl, (RX11, TX11, 37), rfl, rfl⟩
theorem pl_X11_299 : pL RX11 299 yX11_firstThatCanNot := Or.inl (g_in 1528 (by decide +kernel) rfl)
theorem d_X11_laysLoop_0 : decAL cX11_laysLoop 0 0 1 := Or.inr ⟨0, rfl, by decide +kernel, rfl⟩
theorem d_X11_laysLoop_1 : dec 3 cX11_laysLoop 1 (.invokevirtual 293) 4 := ⟨by decide +kernel, rfl⟩
theorem d_X11_laysLoop_4 : decAL cX11_laysLoop 4 0 5 := Or.inr ⟨0, rfl, by decide +kernel, rfl⟩
theorem d_X11_laysLoop_5 : dec 1 cX11_laysLoop 5 (.iconst 0) 6 := ⟨by decide +kernel, rfl⟩
theorem d_X11_laysLoop_6 : dec 3 cX11_laysLoop 6 (.putfield 296) 9 := ⟨by decide +kernel, rfl⟩
theorem d_X11_laysLoop_9 : dec 1 cX11_laysLoop 9 (.iconst 0) 10 := ⟨by decide +kernel, rfl⟩
theorem d_X11_laysLoop_10 : decIS cX11_laysLoop 10 1 11 := Or.inr ⟨1, rfl, by decide +kernel, rfl⟩
theorem d_X11_laysLoop_11 : decIL cX11_laysLoop 11 1 12 := Or.inr ⟨1, rfl, by decide +kernel, rfl⟩
theorem d_X11_laysLoop_12 : decAL cX11_laysLoop 12 0 13 := Or.inr ⟨0, rfl, by decide +kernel, rfl⟩
theorem d_X11_laysLoop_13 : dec 3 cX11_laysLoop 13 (.getfield 7) 16 := ⟨by decide +kernel, rfl⟩
theorem d_X11_laysLoop_16 : dec 1 cX11_laysLoop 16 (.iconst 0) 17 := ⟨by decide +kernel, rfl⟩
theorem d_X11_laysLoop_17 : dec 1 cX11_laysLoop 17 .iaload 18 := ⟨by decide +kernel, rfl⟩
theorem d_X11_laysLoop_18 : decB cX11_laysLoop 18 (.if_icmp .ge 19) (19) 21 37 := ⟨by decide +kernel, rfl, by decide⟩
theorem d_X11_laysLoop_21 : decAL cX11_laysLoop 21 0 22 := Or.inr ⟨0, rfl, by decide +kernel, rfl⟩
theorem d_X11_laysLoop_22 : dec 3 cX11_laysLoop 22 (.getfield 63) 25 := ⟨by decide +kernel, rfl⟩
theorem d_X11_laysLoop_25 : decIL cX11_laysLoop 25 1 26 := Or.inr ⟨1, rfl, by decide +kernel, rfl⟩
theorem d_X11_laysLoop_26 : dec 1 cX11_laysLoop 26 .iaload 27 := ⟨by decide +kernel, rfl⟩
theorem d_X11_laysLoop_27 : dec 1 cX11_laysLoop 27 (.iconst (-1)) 28 := ⟨by decide +kernel, rfl⟩
theorem d_X11_laysLoop_28 : decB cX11_laysLoop 28 (.if_icmp .eq 9) (9) 31 37 := ⟨by decide +kernel, rfl, by decide⟩
theorem d_X11_laysLoop_31 : dec 3 cX11_laysLoop 31 (.iinc 1 1) 34 := ⟨by decide +kernel, rfl⟩
theorem d_X11_laysLoop_34 : decB cX11_laysLoop 34 (.goto (-23)) (-23) 37 11 := ⟨by decide +kernel, rfl, by decide⟩
theorem d_X11_laysLoop_37 : decIL cX11_laysLoop 37 1 38 := Or.inr ⟨1, rfl, by decide +kernel, rfl⟩
theorem d_X11_laysLoop_38 : decAL cX11_laysLoop 38 0 39 := Or.inr ⟨0, rfl, by decide +kernel, rfl⟩
theorem d_X11_laysLoop_39 : dec 3 cX11_laysLoop 39 (.getfield 7) 42 := ⟨by decide +kernel, rfl⟩
theorem d_X11_laysLoop_42 : dec 1 cX11_laysLoop 42 (.iconst 0) 43 := ⟨by decide +kernel, rfl⟩
theorem d_X11_laysLoop_43 : dec 1 cX11_laysLoop 43 .iaload 44 := ⟨by decide +kernel, rfl⟩
theorem d_X11_laysLoop_44 : decB cX11_laysLoop 44 (.if_icmp .ne 4) (4) 47 48 := ⟨by decide +kernel, rfl, by decide⟩
theorem d_X11_laysLoop_47 : dec 1 cX11_laysLoop 47 .return_ 48 := ⟨by decide +kernel, rfl⟩
theorem d_X11_laysLoop_48 : dec 1 cX11_laysLoop 48 (.iconst 0) 49 := ⟨by decide +kernel, rfl⟩
theorem d_X11_laysLoop_49 : decIS cX11_laysLoop 49 2 50 := Or.inr ⟨2, rfl, by decide +kernel, rfl⟩
theorem d_X11_laysLoop_50 : decIL cX11_laysLoop 50 2 51 := Or.inr ⟨2, rfl, by decide +kernel, rfl⟩
theorem d_X11_laysLoop_51 : decIL cX11_laysLoop 51 1 52 := Or.inr ⟨1, rfl, by decide +kernel, rfl⟩
theorem d_X11_laysLoop_52 : dec 1 cX11_laysLoop 52 .ishr 53 := ⟨by decide +kernel, rfl⟩
theorem d_X11_laysLoop_53 : dec 1 cX11_laysLoop 53 (.iconst 1) 54 := ⟨by decide +kernel, rfl⟩
theorem d_X11_laysLoop_54 : dec 1 cX11_laysLoop 54 .iand 55 := ⟨by decide +kernel, rfl⟩
theorem d_X11_laysLoop_55 : decB cX11_laysLoop 55 (.ifCond .ne 18) (18) 58 73 := ⟨by decide +kernel, rfl, by decide⟩
theorem d_X11_laysLoop_58 : decIL cX11_laysLoop 58 2 59 := Or.inr ⟨2, rfl, by decide +kernel, rfl⟩
theorem d_X11_laysLoop_59 : dec 1 cX11_laysLoop 59 (.iconst 1) 60 := ⟨by decide +kernel, rfl⟩
theorem d_X11_laysLoop_60 : decIL cX11_laysLoop 60 1 61 := Or.inr ⟨1, rfl, by decide +kernel, rfl⟩
theorem d_X11_laysLoop_61 : dec 1 cX11_laysLoop 61 .ishl 62 := ⟨by decide +kernel, rfl⟩
theorem d_X11_laysLoop_62 : dec 1 cX11_laysLoop 62 .ior 63 := ⟨by decide +kernel, rfl⟩
theorem d_X11_laysLoop_63 : decIS cX11_laysLoop 63 2 64 := Or.inr ⟨2, rfl, by decide +kernel, rfl⟩
theorem d_X11_laysLoop_64 : decAL cX11_laysLoop 64 0 65 := Or.inr ⟨0, rfl, by decide +kernel, rfl⟩
theorem d_X11_laysLoop_65 : decIL cX11_laysLoop 65 1 66 := Or.inr ⟨1, rfl, by decide +kernel, rfl⟩
theorem d_X11_laysLoop_66 : dec 3 cX11_laysLoop 66 (.invokevirtual 299) 69 := ⟨by decide +kernel, rfl⟩
theorem d_X11_laysLoop_69 : decIS cX11_laysLoop 69 1 70 := Or.inr ⟨1, rfl, by decide +kernel, rfl⟩
theorem d_X11_laysLoop_70 : decB cX11_laysLoop 70 (.goto (-20)) (-20) 73 50 := ⟨by decide +kernel, rfl, by decide⟩
theorem d_X11_laysLoop_73 : decIL cX11_laysLoop 73 1 74 := Or.inr ⟨1, rfl, by decide +kernel, rfl⟩
theorem d_X11_laysLoop_74 : decIS cX11_laysLoop 74 3 75 := Or.inr ⟨3, rfl, by decide +kernel, rfl⟩
theorem d_X11_laysLoop_75 : decAL cX11_laysLoop 75 0 76 := Or.inr ⟨0, rfl, by decide +kernel, rfl⟩
theorem d_X11_laysLoop_76 : dec 3 cX11_laysLoop 76 (.getfield 66) 79 := ⟨by decide +kernel, rfl⟩
theorem d_X11_laysLoop_79 : decAL cX11_laysLoop 79 0 80 := Or.inr ⟨0, rfl, by decide +kernel, rfl⟩
theorem d_X11_laysLoop_80 : dec 3 cX11_laysLoop 80 (.getfield 296) 83 := ⟨by decide +kernel, rfl⟩
theorem d_X11_laysLoop_83 : decIL cX11_laysLoop 83 1 84 := Or.inr ⟨1, rfl, by decide +kernel, rfl⟩
theorem d_X11_laysLoop_84 : dec 1 cX11_laysLoop 84 .iastore 85 := ⟨by decide +kernel, rfl⟩
theorem d_X11_laysLoop_85 : decAL cX11_laysLoop 85 0 86 := Or.inr ⟨0, rfl, by decide +kernel, rfl⟩
theorem d_X11_laysLoop_86 : dec 1 cX11_laysLoop 86 .dup 87 := ⟨by decide +kernel, rfl⟩
theorem d_X11_laysLoop_87 : dec 3 cX11_laysLoop 87 (.getfield 296) 90 := ⟨by decide +kernel, rfl⟩
theorem d_X11_laysLoop_90 : dec 1 cX11_laysLoop 90 (.iconst 1) 91 := ⟨by decide +kernel, rfl⟩
theorem d_X11_laysLoop_91 : dec 1 cX11_laysLoop 91 .iadd 92 := ⟨by decide +kernel, rfl⟩
theorem d_X11_laysLoop_92 : dec 3 cX11_laysLoop 92 (.putfield 296) 95 := ⟨by decide +kernel, rfl⟩
theorem d_X11_laysLoop_95 : decAL cX11_laysLoop 95 0 96 := Or.inr ⟨0, rfl, by decide +kernel, rfl⟩
theorem d_X11_laysLoop_96 : decIL cX11_laysLoop 96 1 97 := Or.inr ⟨1, rfl, by decide +kernel, rfl⟩
theorem d_X11_laysLoop_97 : dec 3 cX11_laysLoop 97 (.invokevirtual 299) 100 := ⟨by decide +kernel, rfl⟩
theorem d_X11_laysLoop_100 : decIS cX11_laysLoop 100 1 101 := Or.inr ⟨1, rfl, by decide +kernel, rfl⟩
theorem d_X11_laysLoop_101 : decIL cX11_laysLoop 101 1 102 := Or.inr ⟨1, rfl, by decide +kernel, rfl⟩
theorem d_X11_laysLoop_102 : decIL cX11_laysLoop 102 3 103 := Or.inr ⟨3, rfl, by decide +kernel, rfl⟩
theorem d_X11_laysLoop_103 : decB cX11_laysLoop 103 (.if_icmp .ne (-28)) (-28) 106 75 := ⟨by decide +kernel, rfl, by decide⟩
theorem d_X11_laysLoop_106 : dec 1 cX11_laysLoop 106 .return_ 107 := ⟨by decide +kernel, rfl⟩
def b_X11_laysLoop_75 (F : Nat)   (v0 : Nat) (v3 : Int32) (rec75 : Int32 → Nat → GH → Option (Nat × GH)) : Int32 → Nat → GH → Option (Nat × GH) := fun v1 n G =>
  Option.bind (gR G v0 11 34) (fun (x8 : Nat) =>
  Option.bind (gI G v0 11 35) (fun (x9 : Int32) =>
  Option.bind (aS G x8 0 x9 v1) (fun (G10 : GH) =>
  Option.bind (gI G10 v0 11 35) (fun (x11 : Int32) =>
  Option.bind (pV G10 v0 11 35 (.int (x11 + (1 : Int32)))) (fun (G12 : GH) =>
  cvP G12 v0 11 (f_X11_firstThatCanNot F v0 v1 G12) (fun (x13 : Int32) =>
  if x13 = v3 then
  (some (n, G12))
  else (rec75 x13 n G12)))))))
def k_X11_laysLoop_73 (F : Nat)   (v0 : Nat) (v1 : Int32)  (n : Nat) (G : GH) : Option (Nat × GH) :=
  fixN (fun _ _ _ => none) (b_X11_laysLoop_75 F   v0 v1) F v1 n G
def b_X11_laysLoop_50 (F : Nat)   (v0 : Nat) (n : Nat) (G : GH) (rec50 : Int32 → Int32 → Option (Nat × GH)) : Int32 → Int32 → Option (Nat × GH) := fun v1 v2 =>
  if ((v2 >>> (v1 &&& 31)) &&& (1 : Int32)) = 0 then
  (gnm (v2 ||| ((1 : Int32) <<< (v1 &&& 31))) (fun (y14 : Int32) =>
  cvP G v0 11 (f_X11_firstThatCanNot F v0 v1 G) (fun (x15 : Int32) =>
  rec50 x15 y14)))
  else (k_X11_laysLoop_73 F   v0 v1 n G)
def k_X11_laysLoop_37 (F : Nat)   (v0 : Nat) (v1 : Int32)  (n : Nat) (G : GH) : Option (Nat × GH) :=
  Option.bind (gR G v0 11 1) (fun (x6 : Nat) =>
  Option.bind (aI G x6 0 (0 : Int32)) (fun (x7 : Int32) =>
  if v1 = x7 then
  (some (n, G))
  else (fixN (fun _ _ => none) (b_X11_laysLoop_50 F   v0 n G) F v1 (0 : Int32))))
def b_X11_laysLoop_11 (F : Nat)   (v0 : Nat) (n : Nat) (G : GH) (rec11 : Int32 → Option (Nat × GH)) : Int32 → Option (Nat × GH) := fun v1 =>
  Option.bind (gR G v0 11 1) (fun (x4 : Nat) =>
  Option.bind (aI G x4 0 (0 : Int32)) (fun (x5 : Int32) =>
  if x5 ≤ v1 then
  (k_X11_laysLoop_37 F   v0 v1 n G)
  else (Option.bind (gR G v0 11 33) (fun (x16 : Nat) =>
  Option.bind (aI G x16 0 v1) (fun (x17 : Int32) =>
  if x17 = (-1 : Int32) then
  (k_X11_laysLoop_37 F   v0 v1 n G)
  else (rec11 (v1 + 1)))))))
def f_X11_laysLoop (F : Nat)  (v0 : Nat) (n : Nat) (G : GH) : Option (Nat × GH) :=
  cvU G v0 11 (f_X11_laysOrder F v0 n G) (fun (n1 : Nat) (G2 : GH) =>
  Option.bind (pV G2 v0 11 35 (.int (0 : Int32))) (fun (G3 : GH) =>
  fixN (fun _ => none) (b_X11_laysLoop_11 F   v0 n1 G3) F (0 : Int32)))
set_option maxRecDepth 100000 in
set_option maxHeartbeats 4000000 in
theorem l_X11_laysLoop_75 {E : GE} {F : Nat}   {v0 : Nat} {v3 : Int32}   : ∀ (K : Nat) (v1 : Int32) (n : Nat) (G : GH) (z : Nat × GH), fixN ((fun _ _ _ => none) : Int32 → Nat → GH → Option (Nat × GH)) (b_X11_laysLoop_75 F   v0 v3) K v1 n G = some z → WG E RX11 "laysLoop" cX11_laysLoop 4 none 4 89 0 0 75 [(0, .ref v0), (1, .int v1), (3, .int v3)] [] n G (g_O E (none, z.1, z.2)) := by
  intro K
  refine fixN_ind (P := fun (r : Int32 → Nat → GH → Option (Nat × GH)) => ∀ (v1 : Int32) (n : Nat) (G : GH) (z : Nat × GH), r v1 n G = some z → WG E RX11 "laysLoop" cX11_laysLoop 4 none 4 89 0 0 75 [(0, .ref v0), (1, .int v1), (3, .int v3)] [] n G (g_O E (none, z.1, z.2))) ?_ ?_ K
  · intro v1 n G z h
    cases h
  · intro rec75 hrec75 v1 n G z h
    unfold b_X11_laysLoop_75 at h
    refine r_aload d_X11_laysLoop_75 rfl ?_
    refine r_getR h d_X11_laysLoop_76 pf_X11_66 (fun x8 h => ?_)
    refine r_aload d_X11_laysLoop_79 rfl ?_
    refine r_getI h d_X11_laysLoop_80 pf_X11_296 (fun x9 h => ?_)
    refine r_iload d_X11_laysLoop_83 rfl ?_
    refine r_iast h d_X11_laysLoop_84 (fun G10 h => ?_)
    refine r_aload d_X11_laysLoop_85 rfl ?_
    refine r_dup d_X11_laysLoop_86 rfl ?_
    refine r_getI h d_X11_laysLoop_87 pf_X11_296 (fun x11 h => ?_)
    refine r_iconst d_X11_laysLoop_90 ic_1 ?_
    refine r_iadd d_X11_laysLoop_91 ?_
    refine r_put h d_X11_laysLoop_92 pw_X11_296 rfl rfl (fun G12 h => ?_)
    refine r_aload d_X11_laysLoop_95 rfl ?_
    refine r_iload d_X11_laysLoop_96 rfl ?_
    refine r_invP [_] h (fun _ hq => s_X11_firstThatCanNot hq) d_X11_laysLoop_97 pl_X11_299 py_X11_firstThatCanNot pi_X11_firstThatCanNot rfl rfl rfl (fun x13 h => ?_)
    refine r_istore d_X11_laysLoop_100 rfl rfl ?_
    refine r_iload d_X11_laysLoop_101 rfl ?_
    refine r_iload d_X11_laysLoop_102 rfl ?_
    refine r_icmp_ne h d_X11_laysLoop_103 (fun h => ?_) (fun h => ?_)
    · refine r_lv [(0, .ref v0), (1, .int x13), (3, .int v3)] (g_allc rfl (g_allc rfl (g_allc rfl g_alln))) ?_
      exact hrec75 _ _ _ _ h
    · exact r_vret h d_X11_laysLoop_106
set_option maxRecDepth 100000 in
set_option maxHeartbeats 4000000 in
theorem c_X11_laysLoop_73 {E : GE} {F : Nat}   {v0 : Nat} {v1 : Int32}  {n : Nat} {G : GH} {z : Nat × GH}   (h : k_X11_laysLoop_73 F   v0 v1  n G = some z) : WG E RX11 "laysLoop" cX11_laysLoop 4 none 4 89 0 0 73 [(0, .ref v0), (1, .int v1)] [] n G (g_O E (none, z.1, z.2)) := by
  unfold k_X11_laysLoop_73 at h
  refine r_iload d_X11_laysLoop_73 rfl ?_
  refine r_istore d_X11_laysLoop_74 rfl rfl ?_
  refine r_lv [(0, .ref v0), (1, .int v1), (3, .int v1)] (g_allc rfl (g_allc rfl (g_allc rfl g_alln))) ?_
  exact l_X11_laysLoop_75   _ _ _ _ _ h
set_option maxRecDepth 100000 in
set_option maxHeartbeats 4000000 in
theorem l_X11_laysLoop_50 {E : GE} {F : Nat}   {v0 : Nat} {n : Nat} {G : GH}   : ∀ (K : Nat) (v1 : Int32) (v2 : Int32) (z : Nat × GH), fixN ((fun _ _ => none) : Int32 → Int32 → Option (Nat × GH)) (b_X11_laysLoop_50 F   v0 n G) K v1 v2 = some z → WG E RX11 "laysLoop" cX11_laysLoop 4 none 4 89 0 0 50 [(0, .ref v0), (1, .int v1), (2, .int v2)] [] n G (g_O E (none, z.1, z.2)) := by
  intro K
  refine fixN_ind (P := fun (r : Int32 → Int32 → Option (Nat × GH)) => ∀ (v1 : Int32) (v2 : Int32) (z : Nat × GH), r v1 v2 = some z → WG E RX11 "laysLoop" cX11_laysLoop 4 none 4 89 0 0 50 [(0, .ref v0), (1, .int v1), (2, .int v2)] [] n G (g_O E (none, z.1, z.2))) ?_ ?_ K
  · intro v1 v2 z h
    cases h
  · intro rec50 hrec50 v1 v2 z h
    unfold b_X11_laysLoop_50 at h
    refine r_iload d_X11_laysLoop_50 rfl ?_
    refine r_iload d_X11_laysLoop_51 rfl ?_
    refine r_ishr d_X11_laysLoop_52 ?_
    refine r_iconst d_X11_laysLoop_53 ic_1 ?_
    refine r_iand d_X11_laysLoop_54 ?_
    refine r_if_ne h d_X11_laysLoop_55 (fun h => ?_) (fun h => ?_)
    · refine r_lv [(0, .ref v0), (1, .int v1)] (g_allc rfl (g_allc rfl g_alln)) ?_
      exact c_X11_laysLoop_73   h
    · refine r_iload d_X11_laysLoop_58 rfl ?_
      refine r_iconst d_X11_laysLoop_59 ic_1 ?_
      refine r_iload d_X11_laysLoop_60 rfl ?_
      refine r_ishl d_X11_laysLoop_61 ?_
      refine r_ior d_X11_laysLoop_62 ?_
      refine r_nmI h (fun y14 _ h => ?_)
      refine r_istore d_X11_laysLoop_63 rfl rfl ?_
      refine r_aload d_X11_laysLoop_64 rfl ?_
      refine r_iload d_X11_laysLoop_65 rfl ?_
      refine r_invP [_] h (fun _ hq => s_X11_firstThatCanNot hq) d_X11_laysLoop_66 pl_X11_299 py_X11_firstThatCanNot pi_X11_firstThatCanNot rfl rfl rfl (fun x15 h => ?_)
      refine r_istore d_X11_laysLoop_69 rfl rfl ?_
      refine r_goto d_X11_laysLoop_70 ?_
      refine r_lv [(0, .ref v0), (1, .int x15), (2, .int y14)] (g_allc rfl (g_allc rfl (g_allc rfl g_alln))) ?_
      exact hrec50 _ _ _ h
set_option maxRecDepth 100000 in
set_option maxHeartbeats 4000000 in
theorem c_X11_laysLoop_37 {E : GE} {F : Nat}   {v0 : Nat} {v1 : Int32}  {n : Nat} {G : GH} {z : Nat × GH}   (h : k_X11_laysLoop_37 F   v0 v1  n G = some z) : WG E RX11 "laysLoop" cX11_laysLoop 4 none 4 89 0 0 37 [(0, .ref v0), (1, .int v1)] [] n G (g_O E (none, z.1, z.2)) := by
  unfold k_X11_laysLoop_37 at h
  refine r_iload d_X11_laysLoop_37 rfl ?_
  refine r_aload d_X11_laysLoop_38 rfl ?_
  refine r_getR h d_X11_laysLoop_39 pf_X11_7 (fun x6 h => ?_)
  refine r_iconst d_X11_laysLoop_42 ic_0 ?_
  refine r_iald h d_X11_laysLoop_43 (fun x7 h => ?_)
  refine r_icmp_ne h d_X11_laysLoop_44 (fun h => ?_) (fun h => ?_)
  · refine r_iconst d_X11_laysLoop_48 ic_0 ?_
    refine r_istore d_X11_laysLoop_49 rfl rfl ?_
    refine r_lv [(0, .ref v0), (1, .int v1), (2, .int (0 : Int32))] (g_allc rfl (g_allc rfl (g_allc rfl g_alln))) ?_
    exact l_X11_laysLoop_50   _ _ _ _ h
  · exact r_vret h d_X11_laysLoop_47
set_option maxRecDepth 100000 in
set_option maxHeartbeats 4000000 in
theorem l_X11_laysLoop_11 {E : GE} {F : Nat}   {v0 : Nat} {n : Nat} {G : GH}   : ∀ (K : Nat) (v1 : Int32) (z : Nat × GH), fixN ((fun _ => none) : Int32 → Option (Nat × GH)) (b_X11_laysLoop_11 F   v0 n G) K v1 = some z → WG E RX11 "laysLoop" cX11_laysLoop 4 none 4 89 0 0 11 [(0, .ref v0), (1, .int v1)] [] n G (g_O E (none, z.1, z.2)) := by
  intro K
  refine fixN_ind (P := fun (r : Int32 → Option (Nat × GH)) => ∀ (v1 : Int32) (z : Nat × GH), r v1 = some z → WG E RX11 "laysLoop" cX11_laysLoop 4 none 4 89 0 0 11 [(0, .ref v0), (1, .int v1)] [] n G (g_O E (none, z.1, z.2))) ?_ ?_ K
  · intro v1 z h
    cases h
  · intro rec11 hrec11 v1 z h
    unfold b_X11_laysLoop_11 at h
    refine r_iload d_X11_laysLoop_11 rfl ?_
    refine r_aload d_X11_laysLoop_12 rfl ?_
    refine r_getR h d_X11_laysLoop_13 pf_X11_7 (fun x4 h => ?_)
    refine r_iconst d_X11_laysLoop_16 ic_0 ?_
    refine r_iald h d_X11_laysLoop_17 (fun x5 h => ?_)
    refine r_icmp_ge h d_X11_laysLoop_18 (fun h => ?_) (fun h => ?_)
    · refine r_lv [(0, .ref v0), (1, .int v1)] (g_allc rfl (g_allc rfl g_alln)) ?_
      exact c_X11_laysLoop_37   h
    · refine r_aload d_X11_laysLoop_21 rfl ?_
      refine r_getR h d_X11_laysLoop_22 pf_X11_63 (fun x16 h => ?_)
      refine r_iload d_X11_laysLoop_25 rfl ?_
      refine r_iald h d_X11_laysLoop_26 (fun x17 h => ?_)
      refine r_iconst d_X11_laysLoop_27 ic_m1 ?_
      refine r_icmp_eq h d_X11_laysLoop_28 (fun h => ?_) (fun h => ?_)
      · refine r_lv [(0, .ref v0), (1, .int v1)] (g_allc rfl (g_allc rfl g_alln)) ?_
        exact c_X11_laysLoop_37   h
      · refine r_iinc d_X11_laysLoop_31 rfl (ii_1 _) rfl rfl ?_
        refine r_goto d_X11_laysLoop_34 ?_
        refine r_lv [(0, .ref v0), (1, .int (v1 + 1))] (g_allc rfl (g_allc rfl g_alln)) ?_
        exact hrec11 _ _ h
set_option maxRecDepth 100000 in
set_option maxHeartbeats 4000000 in
theorem s_X11_laysLoop {E : GE} {F : Nat}  {v0 : Nat} {n : Nat} {G : GH} {z : Nat × GH}  (h : f_X11_laysLoop F  v0 n G = some z) : GM E yX11_laysLoop cX11_laysLoop 4 none 4 89 0 0 [.ref v0] n G (none, z.1, z.2) := by
  refine GM.of (by decide) (Nat.le_of_ble_eq_true rfl) ?_
  show WG E RX11 "laysLoop" cX11_laysLoop 4 none 4 89 0 0 0 [(0, .ref v0)] [] n G (g_O E (none, z.1, z.2))
  unfold f_X11_laysLoop at h
  refine r_aload d_X11_laysLoop_0 rfl ?_
  refine r_invU [] h (fun _ hq => s_X11_laysOrder hq) d_X11_laysLoop_1 pl_X11_293 py_X11_laysOrder pi_X11_laysOrder rfl rfl rfl (fun n1 G2 h => ?_)
  refine r_aload d_X11_laysLoop_4 rfl ?_
  refine r_iconst d_X11_laysLoop_5 ic_0 ?_
  refine r_put h d_X11_laysLoop_6 pw_X11_296 rfl rfl (fun G3 h => ?_)
  refine r_iconst d_X11_laysLoop_9 ic_0 ?_
  refine r_istore d_X11_laysLoop_10 rfl rfl ?_
  refine r_lv [(0, .ref v0), (1, .int (0 : Int32))] (g_allc rfl (g_allc rfl g_alln)) ?_
  exact l_X11_laysLoop_11   _ _ _ h
/-! X11_loop -/
theorem py_X11_laysLoop : pY yX11_laysLoop cX11_laysLoop 4 none 0 := ⟨g_in 1527 (by decide +kernel) rfl, g_in 104 (by decide +kernel) rfl, by decide, by decide, by decide +kernel⟩
theorem pi_X11_laysLoop : pI yX11_laysLoop 11 := ⟨g_in 1526 (by decide +kernel) rfl, g_in 80 (by decide +kernel) rfl, (RX11, TX11, 37), rfl, rfl⟩
theorem pl_X11_302 : pL RX11 302 yX11_laysLoop := Or.inl (g_in 1524 (by decide +kernel) rfl)
theorem d_X11_loop_0 : decAL cX11_loop 0 0 1 := Or.inr ⟨0, rfl, by decide +kernel, rfl⟩
theorem d_X11_loop_1 : dec 1 cX11_loop 1 (.iconst 0) 2 := ⟨by decide +kernel, rfl⟩
theorem d_X11_loop_2 : dec 3 cX11_loop 2 (.putfield 72) 5 := ⟨by decide +kernel, rfl⟩
theorem d_X11_loop_5 : decAL cX11_loop 5 0 6 := Or.inr ⟨0, rfl, by decide +kernel, rfl⟩
theorem d_X11_loop_6 : dec 3 cX11_loop 6 (.invokevirtual 302) 9 := ⟨by decide +kernel, rfl⟩
theorem d_X11_loop_9 : decIL cX11_loop 9 1 10 := Or.inr ⟨1, rfl, by decide +kernel, rfl⟩
theorem d_X11_loop_10 : dec 1 cX11_loop 10 (.iconst (-1)) 11 := ⟨by decide +kernel, rfl⟩
theorem d_X11_loop_11 : decB cX11_loop 11 (.if_icmp .ne 10) (10) 14 21 := ⟨by decide +kernel, rfl, by decide⟩
theorem d_X11_loop_14 : decAL cX11_loop 14 0 15 := Or.inr ⟨0, rfl, by decide +kernel, rfl⟩
theorem d_X11_loop_15 : dec 3 cX11_loop 15 (.getfield 296) 18 := ⟨by decide +kernel, rfl⟩
theorem d_X11_loop_18 : decB cX11_loop 18 (.goto 27) (27) 21 45 := ⟨by decide +kernel, rfl, by decide⟩
theorem d_X11_loop_21 : decIL cX11_loop 21 1 22 := Or.inr ⟨1, rfl, by decide +kernel, rfl⟩
theorem d_X11_loop_22 : dec 1 cX11_loop 22 (.iconst 0) 23 := ⟨by decide +kernel, rfl⟩
theorem d_X11_loop_23 : decAL cX11_loop 23 0 24 := Or.inr ⟨0, rfl, by decide +kernel, rfl⟩
theorem d_X11_loop_24 : dec 3 cX11_loop 24 (.getfield 296) 27 := ⟨by decide +kernel, rfl⟩
theorem d_X11_loop_27 : dec 1 cX11_loop 27 (.iconst 1) 28 := ⟨by decide +kernel, rfl⟩
theorem d_X11_loop_28 : dec 1 cX11_loop 28 .isub 29 := ⟨by decide +kernel, rfl⟩
theorem d_X11_loop_29 : dec 3 cX11_loop 29 (.invokestatic 80) 32 := ⟨by decide +kernel, rfl⟩
theorem d_X11_loop_32 : decB cX11_loop 32 (.ifCond .eq 12) (12) 35 44 := ⟨by decide +kernel, rfl, by decide⟩
theorem d_X11_loop_35 : decAL cX11_loop 35 0 36 := Or.inr ⟨0, rfl, by decide +kernel, rfl⟩
theorem d_X11_loop_36 : dec 3 cX11_loop 36 (.getfield 66) 39 := ⟨by decide +kernel, rfl⟩
theorem d_X11_loop_39 : decIL cX11_loop 39 1 40 := Or.inr ⟨1, rfl, by decide +kernel, rfl⟩
theorem d_X11_loop_40 : dec 1 cX11_loop 40 .iaload 41 := ⟨by decide +kernel, rfl⟩
theorem d_X11_loop_41 : decB cX11_loop 41 (.goto 4) (4) 44 45 := ⟨by decide +kernel, rfl, by decide⟩
theorem d_X11_loop_44 : dec 1 cX11_loop 44 (.iconst (-1)) 45 := ⟨by decide +kernel, rfl⟩
theorem d_X11_loop_45 : dec 1 cX11_loop 45 .ireturn 46 := ⟨by decide +kernel, rfl⟩
def f_X11_loop (F : Nat)  (v0 : Nat) (v1 : Int32) (n : Nat) (G : GH) : Option (Int32 × Nat × GH) :=
  Option.bind (pV G v0 11 0 (.int (0 : Int32))) (fun (G1 : GH) =>
  cvU G1 v0 11 (f_X11_laysLoop F v0 n G1) (fun (n2 : Nat) (G3 : GH) =>
  if v1 = (-1 : Int32) then
  (Option.bind (gI G3 v0 11 35) (fun (x8 : Int32) =>
  some (x8, n2, G3)))
  else (Option.bind (gI G3 v0 11 35) (fun (x4 : Int32) =>
  Option.bind (f_X11_in F v1 (0 : Int32) (x4 - (1 : Int32)) G3) (fun (x5 : Int32) =>
  if x5 = 0 then
  (some ((-1 : Int32), n2, G3))
  else (Option.bind (gR G3 v0 11 34) (fun (x6 : Nat) =>
  Option.bind (aI G3 x6 0 v1) (fun (x7 : Int32) =>
  some (x7, n2, G3)))))))))
set_option maxRecDepth 100000 in
set_option maxHeartbeats 4000000 in
theorem s_X11_loop {E : GE} {F : Nat}  {v0 : Nat} {v1 : Int32} {n : Nat} {G : GH} {z : Int32 × Nat × GH}  (h : f_X11_loop F  v0 v1 n G = some z) : GM E yX11_loop cX11_loop 2 (some .int) 5 112 0 0 [.ref v0, .int v1] n G (some (.int z.1), z.2.1, z.2.2) := by
  refine GM.of (by decide) (Nat.le_of_ble_eq_true rfl) ?_
  show WG E RX11 "loop" cX11_loop 2 (some .int) 5 112 0 0 0 [(0, .ref v0), (1, .int v1)] [] n G (g_O E (some (.int z.1), z.2.1, z.2.2))
  unfold f_X11_loop at h
  refine r_aload d_X11_loop_0 rfl ?_
  refine r_iconst d_X11_loop_1 ic_0 ?_
  refine r_put h d_X11_loop_2 pw_X11_72 rfl rfl (fun G1 h => ?_)
  refine r_aload d_X11_loop_5 rfl ?_
  refine r_invU [] h (fun _ hq => s_X11_laysLoop hq) d_X11_loop_6 pl_X11_302 py_X11_laysLoop pi_X11_laysLoop rfl rfl rfl (fun n2 G3 h => ?_)
  refine r_iload d_X11_loop_9 rfl ?_
  refine r_iconst d_X11_loop_10 ic_m1 ?_
  refine r_icmp_ne h d_X11_loop_11 (fun h => ?_) (fun h => ?_)
  · refine r_iload d_X11_loop_21 rfl ?_
    refine r_iconst d_X11_loop_22 ic_0 ?_
    refine r_aload d_X11_loop_23 rfl ?_
    refine r_getI h d_X11_loop_24 pf_X11_296 (fun x4 h => ?_)
    refine r_iconst d_X11_loop_27 ic_1 ?_
    refine r_isub d_X11_loop_28 ?_
    refine r_invSP [_, _, _] h (fun _ hq => s_X11_in hq) d_X11_loop_29 pl_X11_80 py_X11_in ps_X11_in rfl rfl rfl (fun x5 h => ?_)
    refine r_if_eq h d_X11_loop_32 (fun h => ?_) (fun h => ?_)
    · refine r_iconst d_X11_loop_44 ic_m1 ?_
      exact r_iret h d_X11_loop_45
    · refine r_aload d_X11_loop_35 rfl ?_
      refine r_getR h d_X11_loop_36 pf_X11_66 (fun x6 h => ?_)
      refine r_iload d_X11_loop_39 rfl ?_
      refine r_iald h d_X11_loop_40 (fun x7 h => ?_)
      refine r_goto d_X11_loop_41 ?_
      exact r_iret h d_X11_loop_45
  · refine r_aload d_X11_loop_14 rfl ?_
    refine r_getI h d_X11_loop_15 pf_X11_296 (fun x8 h => ?_)
    refine r_goto d_X11_loop_18 ?_
    exact r_iret h d_X11_loop_45
/-! X11_needsOf -/
theorem d_X11_needsOf_0 : dec 1 cX11_needsOf 0 (.iconst 0) 1 := ⟨by decide +kernel, rfl⟩
theorem d_X11_needsOf_1 : decIS cX11_needsOf 1 3 2 := Or.inr ⟨3, rfl, by decide +kernel, rfl⟩
theorem d_X11_needsOf_2 : dec 1 cX11_needsOf 2 (.iconst 0) 3 := ⟨by decide +kernel, rfl⟩
theorem d_X11_needsOf_3 : decIS cX11_needsOf 3 4 5 := Or.inl ⟨by decide +kernel, rfl⟩
theorem d_X11_needsOf_5 : decIL cX11_needsOf 5 4 7 := Or.inl ⟨by decide +kernel, rfl⟩
theorem d_X11_needsOf_7 : decAL cX11_needsOf 7 0 8 := Or.inr ⟨0, rfl, by decide +kernel, rfl⟩
theorem d_X11_needsOf_8 : decIL cX11_needsOf 8 1 9 := Or.inr ⟨1, rfl, by decide +kernel, rfl⟩
theorem d_X11_needsOf_9 : dec 1 cX11_needsOf 9 (.iconst 2) 10 := ⟨by decide +kernel, rfl⟩
theorem d_X11_needsOf_10 : dec 3 cX11_needsOf 10 (.invokevirtual 76) 13 := ⟨by decide +kernel, rfl⟩
theorem d_X11_needsOf_13 : decB cX11_needsOf 13 (.if_icmp .ge 41) (41) 16 54 := ⟨by decide +kernel, rfl, by decide⟩
theorem d_X11_needsOf_16 : decIL cX11_needsOf 16 3 17 := Or.inr ⟨3, rfl, by decide +kernel, rfl⟩
theorem d_X11_needsOf_17 : decIL cX11_needsOf 17 2 18 := Or.inr ⟨2, rfl, by decide +kernel, rfl⟩
theorem d_X11_needsOf_18 : decB cX11_needsOf 18 (.ifCond .ne 13) (13) 21 31 := ⟨by decide +kernel, rfl, by decide⟩
theorem d_X11_needsOf_21 : decAL cX11_needsOf 21 0 22 := Or.inr ⟨0, rfl, by decide +kernel, rfl⟩
theorem d_X11_needsOf_22 : decIL cX11_needsOf 22 1 23 := Or.inr ⟨1, rfl, by decide +kernel, rfl⟩
theorem d_X11_needsOf_23 : decIL cX11_needsOf 23 4 25 := Or.inl ⟨by decide +kernel, rfl⟩
theorem d_X11_needsOf_25 : dec 3 cX11_needsOf 25 (.invokevirtual 228) 28 := ⟨by decide +kernel, rfl⟩
theorem d_X11_needsOf_28 : decB cX11_needsOf 28 (.ifCond .ne 17) (17) 31 45 := ⟨by decide +kernel, rfl, by decide⟩
theorem d_X11_needsOf_31 : dec 1 cX11_needsOf 31 (.iconst 1) 32 := ⟨by decide +kernel, rfl⟩
theorem d_X11_needsOf_32 : decAL cX11_needsOf 32 0 33 := Or.inr ⟨0, rfl, by decide +kernel, rfl⟩
theorem d_X11_needsOf_33 : decIL cX11_needsOf 33 1 34 := Or.inr ⟨1, rfl, by decide +kernel, rfl⟩
theorem d_X11_needsOf_34 : dec 1 cX11_needsOf 34 (.iconst 3) 35 := ⟨by decide +kernel, rfl⟩
theorem d_X11_needsOf_35 : decIL cX11_needsOf 35 4 37 := Or.inl ⟨by decide +kernel, rfl⟩
theorem d_X11_needsOf_37 : dec 1 cX11_needsOf 37 .iadd 38 := ⟨by decide +kernel, rfl⟩
theorem d_X11_needsOf_38 : dec 3 cX11_needsOf 38 (.invokevirtual 76) 41 := ⟨by decide +kernel, rfl⟩
theorem d_X11_needsOf_41 : dec 1 cX11_needsOf 41 .ishl 42 := ⟨by decide +kernel, rfl⟩
theorem d_X11_needsOf_42 : decB cX11_needsOf 42 (.goto 4) (4) 45 46 := ⟨by decide +kernel, rfl, by decide⟩
theorem d_X11_needsOf_45 : dec 1 cX11_needsOf 45 (.iconst 0) 46 := ⟨by decide +kernel, rfl⟩
theorem d_X11_needsOf_46 : dec 1 cX11_needsOf 46 .ior 47 := ⟨by decide +kernel, rfl⟩
theorem d_X11_needsOf_47 : decIS cX11_needsOf 47 3 48 := Or.inr ⟨3, rfl, by decide +kernel, rfl⟩
theorem d_X11_needsOf_48 : dec 3 cX11_needsOf 48 (.iinc 4 1) 51 := ⟨by decide +kernel, rfl⟩
theorem d_X11_needsOf_51 : decB cX11_needsOf 51 (.goto (-46)) (-46) 54 5 := ⟨by decide +kernel, rfl, by decide⟩
theorem d_X11_needsOf_54 : decIL cX11_needsOf 54 3 55 := Or.inr ⟨3, rfl, by decide +kernel, rfl⟩
theorem d_X11_needsOf_55 : dec 1 cX11_needsOf 55 .ireturn 56 := ⟨by decide +kernel, rfl⟩
def k_X11_needsOf_31 (F : Nat)  (rec5 : Int32 → Int32 → Option (Int32)) (v0 : Nat) (v1 : Int32) (v2 : Int32) (v4 : Int32) (s0 : Int32) (G : GH) : Option (Int32) :=
  cvP G v0 11 (f_X11_of F v0 v1 ((3 : Int32) + v4) G) (fun (x2 : Int32) =>
  gnm (s0 ||| ((1 : Int32) <<< (x2 &&& 31))) (fun (y3 : Int32) =>
  rec5 y3 (v4 + 1)))
def b_X11_needsOf_5 (F : Nat)   (v0 : Nat) (v1 : Int32) (v2 : Int32) (G : GH) (rec5 : Int32 → Int32 → Option (Int32)) : Int32 → Int32 → Option (Int32) := fun v3 v4 =>
  cvP G v0 11 (f_X11_of F v0 v1 (2 : Int32) G) (fun (x1 : Int32) =>
  if x1 ≤ v4 then
  (some v3)
  else (if v2 = 0 then
  (cvP G v0 11 (f_X11_isLazy F v0 v1 v4 G) (fun (x4 : Int32) =>
  if x4 = 0 then
  (k_X11_needsOf_31 F  rec5 v0 v1 v2 v4 v3 G)
  else (gnm (v3 ||| (0 : Int32)) (fun (y5 : Int32) =>
  rec5 y5 (v4 + 1)))))
  else (k_X11_needsOf_31 F  rec5 v0 v1 v2 v4 v3 G)))
def f_X11_needsOf (F : Nat)  (v0 : Nat) (v1 : Int32) (v2 : Int32) (G : GH) : Option (Int32) :=
  fixN (fun _ _ => none) (b_X11_needsOf_5 F   v0 v1 v2 G) F (0 : Int32) (0 : Int32)
set_option maxRecDepth 100000 in
set_option maxHeartbeats 4000000 in
theorem c_X11_needsOf_31 {E : GE} {F : Nat}  {rec5 : Int32 → Int32 → Option (Int32)} {v0 : Nat} {v1 : Int32} {v2 : Int32} {v4 : Int32} {s0 : Int32} {n : Nat} {G : GH} {z : Int32}  (hrec5 : ∀ (w3 : Int32) (w4 : Int32) (z : Int32), rec5 w3 w4 = some z → WG E RX11 "needsOf" cX11_needsOf 5 (some .int) 2 44 0 0 5 [(0, .ref v0), (1, .int v1), (2, .int v2), (3, .int w3), (4, .int w4)] [] n G (g_O E (some (.int z), n, G))) (h : k_X11_needsOf_31 F  rec5 v0 v1 v2 v4 s0 G = some z) : WG E RX11 "needsOf" cX11_needsOf 5 (some .int) 2 44 0 0 31 [(0, .ref v0), (1, .int v1), (2, .int v2), (4, .int v4)] [.int s0] n G (g_O E (some (.int z), n, G)) := by
  unfold k_X11_needsOf_31 at h
  refine r_iconst d_X11_needsOf_31 ic_1 ?_
  refine r_aload d_X11_needsOf_32 rfl ?_
  refine r_iload d_X11_needsOf_33 rfl ?_
  refine r_iconst d_X11_needsOf_34 ic_3 ?_
  refine r_iload d_X11_needsOf_35 rfl ?_
  refine r_iadd d_X11_needsOf_37 ?_
  refine r_invP [_, _] h (fun _ hq => s_X11_of hq) d_X11_needsOf_38 pl_X11_76 py_X11_of pi_X11_of rfl rfl rfl (fun x2 h => ?_)
  refine r_ishl d_X11_needsOf_41 ?_
  refine r_goto d_X11_needsOf_42 ?_
  refine r_ior d_X11_needsOf_46 ?_
  refine r_nmI h (fun y3 _ h => ?_)
  refine r_istore d_X11_needsOf_47 rfl rfl ?_
  refine r_iinc d_X11_needsOf_48 rfl (ii_1 _) rfl rfl ?_
  refine r_goto d_X11_needsOf_51 ?_
  refine r_lv [(0, .ref v0), (1, .int v1), (2, .int v2), (3, .int y3), (4, .int (v4 + 1))] (g_allc rfl (g_allc rfl (g_allc rfl (g_allc rfl (g_allc rfl g_alln))))) ?_
  exact hrec5 _ _ _ h
set_option maxRecDepth 100000 in
set_option maxHeartbeats 4000000 in
theorem l_X11_needsOf_5 {E : GE} {F : Nat}   {v0 : Nat} {v1 : Int32} {v2 : Int32} {n : Nat} {G : GH}   : ∀ (K : Nat) (v3 : Int32) (v4 : Int32) (z : Int32), fixN ((fun _ _ => none) : Int32 → Int32 → Option (Int32)) (b_X11_needsOf_5 F   v0 v1 v2 G) K v3 v4 = some z → WG E RX11 "needsOf" cX11_needsOf 5 (some .int) 2 44 0 0 5 [(0, .ref v0), (1, .int v1), (2, .int v2), (3, .int v3), (4, .int v4)] [] n G (g_O E (some (.int z), n, G)) := by
  intro K
  refine fixN_ind (P := fun (r : Int32 → Int32 → Option (Int32)) => ∀ (v3 : Int32) (v4 : Int32) (z : Int32), r v3 v4 = some z → WG E RX11 "needsOf" cX11_needsOf 5 (some .int) 2 44 0 0 5 [(0, .ref v0), (1, .int v1), (2, .int v2), (3, .int v3), (4, .int v4)] [] n G (g_O E (some (.int z), n, G))) ?_ ?_ K
  · intro v3 v4 z h
    cases h
  · intro rec5 hrec5 v3 v4 z h
    unfold b_X11_needsOf_5 at h
    refine r_iload d_X11_needsOf_5 rfl ?_
    refine r_aload d_X11_needsOf_7 rfl ?_
    refine r_iload d_X11_needsOf_8 rfl ?_
    refine r_iconst d_X11_needsOf_9 ic_2 ?_
    refine r_invP [_, _] h (fun _ hq => s_X11_of hq) d_X11_needsOf_10 pl_X11_76 py_X11_of pi_X11_of rfl rfl rfl (fun x1 h => ?_)
    refine r_icmp_ge h d_X11_needsOf_13 (fun h => ?_) (fun h => ?_)
    · refine r_iload d_X11_needsOf_54 rfl ?_
      exact r_pret h d_X11_needsOf_55
    · refine r_iload d_X11_needsOf_16 rfl ?_
      refine r_iload d_X11_needsOf_17 rfl ?_
      refine r_if_ne h d_X11_needsOf_18 (fun h => ?_) (fun h => ?_)
      · refine r_lv [(0, .ref v0), (1, .int v1), (2, .int v2), (4, .int v4)] (g_allc rfl (g_allc rfl (g_allc rfl (g_allc rfl g_alln)))) ?_
        exact c_X11_needsOf_31  hrec5 h
      · refine r_aload d_X11_needsOf_21 rfl ?_
        refine r_iload d_X11_needsOf_22 rfl ?_
        refine r_iload d_X11_needsOf_23 rfl ?_
        refine r_invP [_, _] h (fun _ hq => s_X11_isLazy hq) d_X11_needsOf_25 pl_X11_228 py_X11_isLazy pi_X11_isLazy rfl rfl rfl (fun x4 h => ?_)
        refine r_if_ne h d_X11_needsOf_28 (fun h => ?_) (fun h => ?_)
        · refine r_iconst d_X11_needsOf_45 ic_0 ?_
          refine r_ior d_X11_needsOf_46 ?_
          refine r_nmI h (fun y5 _ h => ?_)
          refine r_istore d_X11_needsOf_47 rfl rfl ?_
          refine r_iinc d_X11_needsOf_48 rfl (ii_1 _) rfl rfl ?_
          refine r_goto d_X11_needsOf_51 ?_
          refine r_lv [(0, .ref v0), (1, .int v1), (2, .int v2), (3, .int y5), (4, .int (v4 + 1))] (g_allc rfl (g_allc rfl (g_allc rfl (g_allc rfl (g_allc rfl g_alln))))) ?_
          exact hrec5 _ _ _ h
        · refine r_lv [(0, .ref v0), (1, .int v1), (2, .int v2), (4, .int v4)] (g_allc rfl (g_allc rfl (g_allc rfl (g_allc rfl g_alln)))) ?_
          exact c_X11_needsOf_31  hrec5 h
set_option maxRecDepth 100000 in
set_option maxHeartbeats 4000000 in
theorem s_X11_needsOf {E : GE} {F : Nat}  {v0 : Nat} {v1 : Int32} {v2 : Int32} {n : Nat} {G : GH} {z : Int32}  (h : f_X11_needsOf F  v0 v1 v2 G = some z) : GM E yX11_needsOf cX11_needsOf 5 (some .int) 2 44 0 0 [.ref v0, .int v1, .int v2] n G (some (.int z), n, G) := by
  refine GM.of (by decide) (Nat.le_of_ble_eq_true rfl) ?_
  show WG E RX11 "needsOf" cX11_needsOf 5 (some .int) 2 44 0 0 0 [(0, .ref v0), (1, .int v1), (2, .int v2)] [] n G (g_O E (some (.int z), n, G))
  unfold f_X11_needsOf at h
  refine r_iconst d_X11_needsOf_0 ic_0 ?_
  refine r_istore d_X11_needsOf_1 rfl rfl ?_
  refine r_iconst d_X11_needsOf_2 ic_0 ?_
  refine r_istore d_X11_needsOf_3 rfl rfl ?_
  refine r_lv [(0, .ref v0), (1, .int v1), (2, .int v2), (3, .int (0 : Int32)), (4, .int (0 : Int32))] (g_allc rfl (g_allc rfl (g_allc rfl (g_allc rfl (g_allc rfl g_alln))))) ?_
  exact l_X11_needsOf_5   _ _ _ _ h
/-! X11_needsOfAll -/
theorem py_X11_needsOf : pY yX11_needsOf cX11_needsOf 5 (some .int) 2 := ⟨g_in 1543 (by decide +kernel) rfl, g_in 104 (by decide +kernel) rfl, by decide, by decide, by decide +kernel⟩
theorem pi_X11_needsOf : pI yX11_needsOf 11 := ⟨g_in 1542 (by decide +kernel) rfl, g_in 83 (by decide +kernel) rfl, (RX11, TX11, 37), rfl, rfl⟩
theorem pl_X11_305 : pL RX11 305 yX11_needsOf := Or.inl (g_in 1540 (by decide +kernel) rfl)
theorem d_X11_needsOfAll_0 : decIL cX11_needsOfAll 0 1 1 := Or.inr ⟨1, rfl, by decide +kernel, rfl⟩
theorem d_X11_needsOfAll_1 : decIS cX11_needsOfAll 1 3 2 := Or.inr ⟨3, rfl, by decide +kernel, rfl⟩
theorem d_X11_needsOfAll_2 : dec 1 cX11_needsOfAll 2 (.iconst 0) 3 := ⟨by decide +kernel, rfl⟩
theorem d_X11_needsOfAll_3 : decIS cX11_needsOfAll 3 4 5 := Or.inl ⟨by decide +kernel, rfl⟩
theorem d_X11_needsOfAll_5 : decIL cX11_needsOfAll 5 4 7 := Or.inl ⟨by decide +kernel, rfl⟩
theorem d_X11_needsOfAll_7 : dec 2 cX11_needsOfAll 7 (.bipush 12) 9 := ⟨by decide +kernel, rfl⟩
theorem d_X11_needsOfAll_9 : decB cX11_needsOfAll 9 (.if_icmp .ge 33) (33) 12 42 := ⟨by decide +kernel, rfl, by decide⟩
theorem d_X11_needsOfAll_12 : decIL cX11_needsOfAll 12 3 13 := Or.inr ⟨3, rfl, by decide +kernel, rfl⟩
theorem d_X11_needsOfAll_13 : decIL cX11_needsOfAll 13 1 14 := Or.inr ⟨1, rfl, by decide +kernel, rfl⟩
theorem d_X11_needsOfAll_14 : decIL cX11_needsOfAll 14 4 16 := Or.inl ⟨by decide +kernel, rfl⟩
theorem d_X11_needsOfAll_16 : dec 1 cX11_needsOfAll 16 .ishr 17 := ⟨by decide +kernel, rfl⟩
theorem d_X11_needsOfAll_17 : dec 1 cX11_needsOfAll 17 (.iconst 1) 18 := ⟨by decide +kernel, rfl⟩
theorem d_X11_needsOfAll_18 : dec 1 cX11_needsOfAll 18 .iand 19 := ⟨by decide +kernel, rfl⟩
theorem d_X11_needsOfAll_19 : dec 1 cX11_needsOfAll 19 (.iconst 1) 20 := ⟨by decide +kernel, rfl⟩
theorem d_X11_needsOfAll_20 : decB cX11_needsOfAll 20 (.if_icmp .ne 13) (13) 23 33 := ⟨by decide +kernel, rfl, by decide⟩
theorem d_X11_needsOfAll_23 : decAL cX11_needsOfAll 23 0 24 := Or.inr ⟨0, rfl, by decide +kernel, rfl⟩
theorem d_X11_needsOfAll_24 : decIL cX11_needsOfAll 24 4 26 := Or.inl ⟨by decide +kernel, rfl⟩
theorem d_X11_needsOfAll_26 : decIL cX11_needsOfAll 26 2 27 := Or.inr ⟨2, rfl, by decide +kernel, rfl⟩
theorem d_X11_needsOfAll_27 : dec 3 cX11_needsOfAll 27 (.invokevirtual 305) 30 := ⟨by decide +kernel, rfl⟩
theorem d_X11_needsOfAll_30 : decB cX11_needsOfAll 30 (.goto 4) (4) 33 34 := ⟨by decide +kernel, rfl, by decide⟩
theorem d_X11_needsOfAll_33 : dec 1 cX11_needsOfAll 33 (.iconst 0) 34 := ⟨by decide +kernel, rfl⟩
theorem d_X11_needsOfAll_34 : dec 1 cX11_needsOfAll 34 .ior 35 := ⟨by decide +kernel, rfl⟩
theorem d_X11_needsOfAll_35 : decIS cX11_needsOfAll 35 3 36 := Or.inr ⟨3, rfl, by decide +kernel, rfl⟩
theorem d_X11_needsOfAll_36 : dec 3 cX11_needsOfAll 36 (.iinc 4 1) 39 := ⟨by decide +kernel, rfl⟩
theorem d_X11_needsOfAll_39 : decB cX11_needsOfAll 39 (.goto (-34)) (-34) 42 5 := ⟨by decide +kernel, rfl, by decide⟩
theorem d_X11_needsOfAll_42 : decIL cX11_needsOfAll 42 3 43 := Or.inr ⟨3, rfl, by decide +kernel, rfl⟩
theorem d_X11_needsOfAll_43 : dec 1 cX11_needsOfAll 43 .ireturn 44 := ⟨by decide +kernel, rfl⟩
def b_X11_needsOfAll_5 (F : Nat)   (v0 : Nat) (v1 : Int32) (v2 : Int32) (G : GH) (rec5 : Int32 → Int32 → Option (Int32)) : Int32 → Int32 → Option (Int32) := fun v3 v4 =>
  if (12 : Int32) ≤ v4 then
  (some v3)
  else (if ((v1 >>> (v4 &&& 31)) &&& (1 : Int32)) = (1 : Int32) then
  (cvP G v0 11 (f_X11_needsOf F v0 v4 v2 G) (fun (x2 : Int32) =>
  gnm (v3 ||| x2) (fun (y3 : Int32) =>
  rec5 y3 (v4 + 1))))
  else (gnm (v3 ||| (0 : Int32)) (fun (y1 : Int32) =>
  rec5 y1 (v4 + 1))))
def f_X11_needsOfAll (F : Nat)  (v0 : Nat) (v1 : Int32) (v2 : Int32) (G : GH) : Option (Int32) :=
  fixN (fun _ _ => none) (b_X11_needsOfAll_5 F   v0 v1 v2 G) F v1 (0 : Int32)
set_option maxRecDepth 100000 in
set_option maxHeartbeats 4000000 in
theorem l_X11_needsOfAll_5 {E : GE} {F : Nat}   {v0 : Nat} {v1 : Int32} {v2 : Int32} {n : Nat} {G : GH}   : ∀ (K : Nat) (v3 : Int32) (v4 : Int32) (z : Int32), fixN ((fun _ _ => none) : Int32 → Int32 → Option (Int32)) (b_X11_needsOfAll_5 F   v0 v1 v2 G) K v3 v4 = some z → WG E RX11 "needsOfAll" cX11_needsOfAll 5 (some .int) 3 68 0 0 5 [(0, .ref v0), (1, .int v1), (2, .int v2), (3, .int v3), (4, .int v4)] [] n G (g_O E (some (.int z), n, G)) := by
  intro K
  refine fixN_ind (P := fun (r : Int32 → Int32 → Option (Int32)) => ∀ (v3 : Int32) (v4 : Int32) (z : Int32), r v3 v4 = some z → WG E RX11 "needsOfAll" cX11_needsOfAll 5 (some .int) 3 68 0 0 5 [(0, .ref v0), (1, .int v1), (2, .int v2), (3, .int v3), (4, .int v4)] [] n G (g_O E (some (.int z), n, G))) ?_ ?_ K
  · intro v3 v4 z h
    cases h
  · intro rec5 hrec5 v3 v4 z h
    unfold b_X11_needsOfAll_5 at h
    refine r_iload d_X11_needsOfAll_5 rfl ?_
    refine r_bipush d_X11_needsOfAll_7 bp_12 ?_
    refine r_icmp_ge h d_X11_needsOfAll_9 (fun h => ?_) (fun h => ?_)
    · refine r_iload d_X11_needsOfAll_42 rfl ?_
      exact r_pret h d_X11_needsOfAll_43
    · refine r_iload d_X11_needsOfAll_12 rfl ?_
      refine r_iload d_X11_needsOfAll_13 rfl ?_
      refine r_iload d_X11_needsOfAll_14 rfl ?_
      refine r_ishr d_X11_needsOfAll_16 ?_
      refine r_iconst d_X11_needsOfAll_17 ic_1 ?_
      refine r_iand d_X11_needsOfAll_18 ?_
      refine r_iconst d_X11_needsOfAll_19 ic_1 ?_
      refine r_icmp_ne h d_X11_needsOfAll_20 (fun h => ?_) (fun h => ?_)
      · refine r_iconst d_X11_needsOfAll_33 ic_0 ?_
        refine r_ior d_X11_needsOfAll_34 ?_
        refine r_nmI h (fun y1 _ h => ?_)
        refine r_istore d_X11_needsOfAll_35 rfl rfl ?_
        refine r_iinc d_X11_needsOfAll_36 rfl (ii_1 _) rfl rfl ?_
        refine r_goto d_X11_needsOfAll_39 ?_
        refine r_lv [(0, .ref v0), (1, .int v1), (2, .int v2), (3, .int y1), (4, .int (v4 + 1))] (g_allc rfl (g_allc rfl (g_allc rfl (g_allc rfl (g_allc rfl g_alln))))) ?_
        exact hrec5 _ _ _ h
      · refine r_aload d_X11_needsOfAll_23 rfl ?_
        refine r_iload d_X11_needsOfAll_24 rfl ?_
        refine r_iload d_X11_needsOfAll_26 rfl ?_
        refine r_invP [_, _] h (fun _ hq => s_X11_needsOf hq) d_X11_needsOfAll_27 pl_X11_305 py_X11_needsOf pi_X11_needsOf rfl rfl rfl (fun x2 h => ?_)
        refine r_goto d_X11_needsOfAll_30 ?_
        refine r_ior d_X11_needsOfAll_34 ?_
        refine r_nmI h (fun y3 _ h => ?_)
        refine r_istore d_X11_needsOfAll_35 rfl rfl ?_
        refine r_iinc d_X11_needsOfAll_36 rfl (ii_1 _) rfl rfl ?_
        refine r_goto d_X11_needsOfAll_39 ?_
        refine r_lv [(0, .ref v0), (1, .int v1), (2, .int v2), (3, .int y3), (4, .int (v4 + 1))] (g_allc rfl (g_allc rfl (g_allc rfl (g_allc rfl (g_allc rfl g_alln))))) ?_
        exact hrec5 _ _ _ h
set_option maxRecDepth 100000 in
set_option maxHeartbeats 4000000 in
theorem s_X11_needsOfAll {E : GE} {F : Nat}  {v0 : Nat} {v1 : Int32} {v2 : Int32} {n : Nat} {G : GH} {z : Int32}  (h : f_X11_needsOfAll F  v0 v1 v2 G = some z) : GM E yX11_needsOfAll cX11_needsOfAll 5 (some .int) 3 68 0 0 [.ref v0, .int v1, .int v2] n G (some (.int z), n, G) := by
  refine GM.of (by decide) (Nat.le_of_ble_eq_true rfl) ?_
  show WG E RX11 "needsOfAll" cX11_needsOfAll 5 (some .int) 3 68 0 0 0 [(0, .ref v0), (1, .int v1), (2, .int v2)] [] n G (g_O E (some (.int z), n, G))
  unfold f_X11_needsOfAll at h
  refine r_iload d_X11_needsOfAll_0 rfl ?_
  refine r_istore d_X11_needsOfAll_1 rfl rfl ?_
  refine r_iconst d_X11_needsOfAll_2 ic_0 ?_
  refine r_istore d_X11_needsOfAll_3 rfl rfl ?_
  refine r_lv [(0, .ref v0), (1, .int v1), (2, .int v2), (3, .int v1), (4, .int (0 : Int32))] (g_allc rfl (g_allc rfl (g_allc rfl (g_allc rfl (g_allc rfl g_alln))))) ?_
  exact l_X11_needsOfAll_5   _ _ _ _ h
/-! X11_allNeeds -/
theorem py_X11_needsOfAll : pY yX11_needsOfAll cX11_needsOfAll 5 (some .int) 2 := ⟨g_in 1547 (by decide +kernel) rfl, g_in 104 (by decide +kernel) rfl, by decide, by decide, by decide +kernel⟩
theorem pi_X11_needsOfAll : pI yX11_needsOfAll 11 := ⟨g_in 1546 (by decide +kernel) rfl, g_in 84 (by decide +kernel) rfl, (RX11, TX11, 37), rfl, rfl⟩
theorem pl_X11_309 : pL RX11 309 yX11_needsOfAll := Or.inl (g_in 1544 (by decide +kernel) rfl)
theorem d_X11_allNeeds_0 : decAL cX11_allNeeds 0 0 1 := Or.inr ⟨0, rfl, by decide +kernel, rfl⟩
theorem d_X11_allNeeds_1 : decIL cX11_allNeeds 1 1 2 := Or.inr ⟨1, rfl, by decide +kernel, rfl⟩
theorem d_X11_allNeeds_2 : decIL cX11_allNeeds 2 2 3 := Or.inr ⟨2, rfl, by decide +kernel, rfl⟩
theorem d_X11_allNeeds_3 : dec 3 cX11_allNeeds 3 (.invokevirtual 305) 6 := ⟨by decide +kernel, rfl⟩
theorem d_X11_allNeeds_6 : decIS cX11_allNeeds 6 3 7 := Or.inr ⟨3, rfl, by decide +kernel, rfl⟩
theorem d_X11_allNeeds_7 : decAL cX11_allNeeds 7 0 8 := Or.inr ⟨0, rfl, by decide +kernel, rfl⟩
theorem d_X11_allNeeds_8 : decIL cX11_allNeeds 8 3 9 := Or.inr ⟨3, rfl, by decide +kernel, rfl⟩
theorem d_X11_allNeeds_9 : decIL cX11_allNeeds 9 2 10 := Or.inr ⟨2, rfl, by decide +kernel, rfl⟩
theorem d_X11_allNeeds_10 : dec 3 cX11_allNeeds 10 (.invokevirtual 309) 13 := ⟨by decide +kernel, rfl⟩
theorem d_X11_allNeeds_13 : decIL cX11_allNeeds 13 3 14 := Or.inr ⟨3, rfl, by decide +kernel, rfl⟩
theorem d_X11_allNeeds_14 : decB cX11_allNeeds 14 (.if_icmp .eq 13) (13) 17 27 := ⟨by decide +kernel, rfl, by decide⟩
theorem d_X11_allNeeds_17 : decAL cX11_allNeeds 17 0 18 := Or.inr ⟨0, rfl, by decide +kernel, rfl⟩
theorem d_X11_allNeeds_18 : decIL cX11_allNeeds 18 3 19 := Or.inr ⟨3, rfl, by decide +kernel, rfl⟩
theorem d_X11_allNeeds_19 : decIL cX11_allNeeds 19 2 20 := Or.inr ⟨2, rfl, by decide +kernel, rfl⟩
theorem d_X11_allNeeds_20 : dec 3 cX11_allNeeds 20 (.invokevirtual 309) 23 := ⟨by decide +kernel, rfl⟩
theorem d_X11_allNeeds_23 : decIS cX11_allNeeds 23 3 24 := Or.inr ⟨3, rfl, by decide +kernel, rfl⟩
theorem d_X11_allNeeds_24 : decB cX11_allNeeds 24 (.goto (-17)) (-17) 27 7 := ⟨by decide +kernel, rfl, by decide⟩
theorem d_X11_allNeeds_27 : decIL cX11_allNeeds 27 3 28 := Or.inr ⟨3, rfl, by decide +kernel, rfl⟩
theorem d_X11_allNeeds_28 : dec 1 cX11_allNeeds 28 .ireturn 29 := ⟨by decide +kernel, rfl⟩
def b_X11_allNeeds_7 (F : Nat)   (v0 : Nat) (v2 : Int32) (G : GH) (rec7 : Int32 → Option (Int32)) : Int32 → Option (Int32) := fun v3 =>
  cvP G v0 11 (f_X11_needsOfAll F v0 v3 v2 G) (fun (x2 : Int32) =>
  if x2 = v3 then
  (some v3)
  else (cvP G v0 11 (f_X11_needsOfAll F v0 v3 v2 G) (fun (x3 : Int32) =>
  rec7 x3)))
def f_X11_allNeeds (F : Nat)  (v0 : Nat) (v1 : Int32) (v2 : Int32) (G : GH) : Option (Int32) :=
  cvP G v0 11 (f_X11_needsOf F v0 v1 v2 G) (fun (x1 : Int32) =>
  fixN (fun _ => none) (b_X11_allNeeds_7 F   v0 v2 G) F x1)
set_option maxRecDepth 100000 in
set_option maxHeartbeats 4000000 in
theorem l_X11_allNeeds_7 {E : GE} {F : Nat}   {v0 : Nat} {v2 : Int32} {n : Nat} {G : GH}   : ∀ (K : Nat) (v3 : Int32) (z : Int32), fixN ((fun _ => none) : Int32 → Option (Int32)) (b_X11_allNeeds_7 F   v0 v2 G) K v3 = some z → WG E RX11 "allNeeds" cX11_allNeeds 4 (some .int) 4 92 0 0 7 [(0, .ref v0), (2, .int v2), (3, .int v3)] [] n G (g_O E (some (.int z), n, G)) := by
  intro K
  refine fixN_ind (P := fun (r : Int32 → Option (Int32)) => ∀ (v3 : Int32) (z : Int32), r v3 = some z → WG E RX11 "allNeeds" cX11_allNeeds 4 (some .int) 4 92 0 0 7 [(0, .ref v0), (2, .int v2), (3, .int v3)] [] n G (g_O E (some (.int z), n, G))) ?_ ?_ K
  · intro v3 z h
    cases h
  · intro rec7 hrec7 v3 z h
    unfold b_X11_allNeeds_7 at h
    refine r_aload d_X11_allNeeds_7 rfl ?_
    refine r_iload d_X11_allNeeds_8 rfl ?_
    refine r_iload d_X11_allNeeds_9 rfl ?_
    refine r_invP [_, _] h (fun _ hq => s_X11_needsOfAll hq) d_X11_allNeeds_10 pl_X11_309 py_X11_needsOfAll pi_X11_needsOfAll rfl rfl rfl (fun x2 h => ?_)
    refine r_iload d_X11_allNeeds_13 rfl ?_
    refine r_icmp_eq h d_X11_allNeeds_14 (fun h => ?_) (fun h => ?_)
    · refine r_iload d_X11_allNeeds_27 rfl ?_
      exact r_pret h d_X11_allNeeds_28
    · refine r_aload d_X11_allNeeds_17 rfl ?_
      refine r_iload d_X11_allNeeds_18 rfl ?_
      refine r_iload d_X11_allNeeds_19 rfl ?_
      refine r_invP [_, _] h (fun _ hq => s_X11_needsOfAll hq) d_X11_allNeeds_20 pl_X11_309 py_X11_needsOfAll pi_X11_needsOfAll rfl rfl rfl (fun x3 h => ?_)
      refine r_istore d_X11_allNeeds_23 rfl rfl ?_
      refine r_goto d_X11_allNeeds_24 ?_
      refine r_lv [(0, .ref v0), (2, .int v2), (3, .int x3)] (g_allc rfl (g_allc rfl (g_allc rfl g_alln))) ?_
      exact hrec7 _ _ h
set_option maxRecDepth 100000 in
set_option maxHeartbeats 4000000 in
theorem s_X11_allNeeds {E : GE} {F : Nat}  {v0 : Nat} {v1 : Int32} {v2 : Int32} {n : Nat} {G : GH} {z : Int32}  (h : f_X11_allNeeds F  v0 v1 v2 G = some z) : GM E yX11_allNeeds cX11_allNeeds 4 (some .int) 4 92 0 0 [.ref v0, .int v1, .int v2] n G (some (.int z), n, G) := by
  refine GM.of (by decide) (Nat.le_of_ble_eq_true rfl) ?_
  show WG E RX11 "allNeeds" cX11_allNeeds 4 (some .int) 4 92 0 0 0 [(0, .ref v0), (1, .int v1), (2, .int v2)] [] n G (g_O E (some (.int z), n, G))
  unfold f_X11_allNeeds at h
  refine r_aload d_X11_allNeeds_0 rfl ?_
  refine r_iload d_X11_allNeeds_1 rfl ?_
  refine r_iload d_X11_allNeeds_2 rfl ?_
  refine r_invP [_, _] h (fun _ hq => s_X11_needsOf hq) d_X11_allNeeds_3 pl_X11_305 py_X11_needsOf pi_X11_needsOf rfl rfl rfl (fun x1 h => ?_)
  refine r_istore d_X11_allNeeds_6 rfl rfl ?_
  refine r_lv [(0, .ref v0), (2, .int v2), (3, .int x1)] (g_allc rfl (g_allc rfl (g_allc rfl g_alln))) ?_
  exact l_X11_allNeeds_7   _ _ _ h
/-! X11_needs -/
theorem py_X11_allNeeds : pY yX11_allNeeds cX11_allNeeds 4 (some .int) 2 := ⟨g_in 1539 (by decide +kernel) rfl, g_in 104 (by decide +kernel) rfl, by decide, by decide, by decide +kernel⟩
theorem pi_X11_allNeeds : pI yX11_allNeeds 11 := ⟨g_in 1538 (by decide +kernel) rfl, g_in 82 (by decide +kernel) rfl, (RX11, TX11, 37), rfl, rfl⟩
theorem pl_X11_312 : pL RX11 312 yX11_allNeeds := Or.inl (g_in 1536 (by decide +kernel) rfl)
theorem d_X11_needs_0 : decAL cX11_needs 0 0 1 := Or.inr ⟨0, rfl, by decide +kernel, rfl⟩
theorem d_X11_needs_1 : dec 1 cX11_needs 1 (.iconst 0) 2 := ⟨by decide +kernel, rfl⟩
theorem d_X11_needs_2 : dec 3 cX11_needs 2 (.putfield 72) 5 := ⟨by decide +kernel, rfl⟩
theorem d_X11_needs_5 : decAL cX11_needs 5 0 6 := Or.inr ⟨0, rfl, by decide +kernel, rfl⟩
theorem d_X11_needs_6 : decIL cX11_needs 6 1 7 := Or.inr ⟨1, rfl, by decide +kernel, rfl⟩
theorem d_X11_needs_7 : dec 3 cX11_needs 7 (.invokevirtual 260) 10 := ⟨by decide +kernel, rfl⟩
theorem d_X11_needs_10 : decB cX11_needs 10 (.ifCond .eq 12) (12) 13 22 := ⟨by decide +kernel, rfl, by decide⟩
theorem d_X11_needs_13 : decAL cX11_needs 13 0 14 := Or.inr ⟨0, rfl, by decide +kernel, rfl⟩
theorem d_X11_needs_14 : decIL cX11_needs 14 1 15 := Or.inr ⟨1, rfl, by decide +kernel, rfl⟩
theorem d_X11_needs_15 : decIL cX11_needs 15 2 16 := Or.inr ⟨2, rfl, by decide +kernel, rfl⟩
theorem d_X11_needs_16 : dec 3 cX11_needs 16 (.invokevirtual 312) 19 := ⟨by decide +kernel, rfl⟩
theorem d_X11_needs_19 : decB cX11_needs 19 (.goto 4) (4) 22 23 := ⟨by decide +kernel, rfl, by decide⟩
theorem d_X11_needs_22 : dec 1 cX11_needs 22 (.iconst (-1)) 23 := ⟨by decide +kernel, rfl⟩
theorem d_X11_needs_23 : dec 1 cX11_needs 23 .ireturn 24 := ⟨by decide +kernel, rfl⟩
def f_X11_needs (F : Nat)  (v0 : Nat) (v1 : Int32) (v2 : Int32) (n : Nat) (G : GH) : Option (Int32 × Nat × GH) :=
  Option.bind (pV G v0 11 0 (.int (0 : Int32))) (fun (G1 : GH) =>
  cvP G1 v0 11 (f_X11_isPart F v0 v1 G1) (fun (x2 : Int32) =>
  if x2 = 0 then
  (some ((-1 : Int32), n, G1))
  else (cvP G1 v0 11 (f_X11_allNeeds F v0 v1 v2 G1) (fun (x3 : Int32) =>
  some (x3, n, G1)))))
set_option maxRecDepth 100000 in
set_option maxHeartbeats 4000000 in
theorem s_X11_needs {E : GE} {F : Nat}  {v0 : Nat} {v1 : Int32} {v2 : Int32} {n : Nat} {G : GH} {z : Int32 × Nat × GH}  (h : f_X11_needs F  v0 v1 v2 n G = some z) : GM E yX11_needs cX11_needs 3 (some .int) 5 115 0 0 [.ref v0, .int v1, .int v2] n G (some (.int z.1), z.2.1, z.2.2) := by
  refine GM.of (by decide) (Nat.le_of_ble_eq_true rfl) ?_
  show WG E RX11 "needs" cX11_needs 3 (some .int) 5 115 0 0 0 [(0, .ref v0), (1, .int v1), (2, .int v2)] [] n G (g_O E (some (.int z.1), z.2.1, z.2.2))
  unfold f_X11_needs at h
  refine r_aload d_X11_needs_0 rfl ?_
  refine r_iconst d_X11_needs_1 ic_0 ?_
  refine r_put h d_X11_needs_2 pw_X11_72 rfl rfl (fun G1 h => ?_)
  refine r_aload d_X11_needs_5 rfl ?_
  refine r_iload d_X11_needs_6 rfl ?_
  refine r_invP [_] h (fun _ hq => s_X11_isPart hq) d_X11_needs_7 pl_X11_260 py_X11_isPart pi_X11_isPart rfl rfl rfl (fun x2 h => ?_)
  refine r_if_eq h d_X11_needs_10 (fun h => ?_) (fun h => ?_)
  · refine r_iconst d_X11_needs_22 ic_m1 ?_
    exact r_iret h d_X11_needs_23
  · refine r_aload d_X11_needs_13 rfl ?_
    refine r_iload d_X11_needs_14 rfl ?_
    refine r_iload d_X11_needs_15 rfl ?_
    refine r_invP [_, _] h (fun _ hq => s_X11_allNeeds hq) d_X11_needs_16 pl_X11_312 py_X11_allNeeds pi_X11_allNeeds rfl rfl rfl (fun x3 h => ?_)
    refine r_goto d_X11_needs_19 ?_
    exact r_iret h d_X11_needs_23
/-! X11_deep -/
theorem d_X11_deep_0 : decAL cX11_deep 0 0 1 := Or.inr ⟨0, rfl, by decide +kernel, rfl⟩
theorem d_X11_deep_1 : dec 1 cX11_deep 1 (.iconst 0) 2 := ⟨by decide +kernel, rfl⟩
theorem d_X11_deep_2 : dec 3 cX11_deep 2 (.putfield 72) 5 := ⟨by decide +kernel, rfl⟩
theorem d_X11_deep_5 : decAL cX11_deep 5 0 6 := Or.inr ⟨0, rfl, by decide +kernel, rfl⟩
theorem d_X11_deep_6 : dec 3 cX11_deep 6 (.invokevirtual 293) 9 := ⟨by decide +kernel, rfl⟩
theorem d_X11_deep_9 : decAL cX11_deep 9 0 10 := Or.inr ⟨0, rfl, by decide +kernel, rfl⟩
theorem d_X11_deep_10 : dec 3 cX11_deep 10 (.getfield 284) 13 := ⟨by decide +kernel, rfl⟩
theorem d_X11_deep_13 : decAL cX11_deep 13 0 14 := Or.inr ⟨0, rfl, by decide +kernel, rfl⟩
theorem d_X11_deep_14 : dec 3 cX11_deep 14 (.getfield 7) 17 := ⟨by decide +kernel, rfl⟩
theorem d_X11_deep_17 : dec 1 cX11_deep 17 (.iconst 0) 18 := ⟨by decide +kernel, rfl⟩
theorem d_X11_deep_18 : dec 1 cX11_deep 18 .iaload 19 := ⟨by decide +kernel, rfl⟩
theorem d_X11_deep_19 : decB cX11_deep 19 (.if_icmp .ge 5) (5) 22 24 := ⟨by decide +kernel, rfl, by decide⟩
theorem d_X11_deep_22 : dec 1 cX11_deep 22 (.iconst (-1)) 23 := ⟨by decide +kernel, rfl⟩
theorem d_X11_deep_23 : dec 1 cX11_deep 23 .ireturn 24 := ⟨by decide +kernel, rfl⟩
theorem d_X11_deep_24 : dec 1 cX11_deep 24 (.iconst 0) 25 := ⟨by decide +kernel, rfl⟩
theorem d_X11_deep_25 : decIS cX11_deep 25 1 26 := Or.inr ⟨1, rfl, by decide +kernel, rfl⟩
theorem d_X11_deep_26 : dec 1 cX11_deep 26 (.iconst 0) 27 := ⟨by decide +kernel, rfl⟩
theorem d_X11_deep_27 : decIS cX11_deep 27 2 28 := Or.inr ⟨2, rfl, by decide +kernel, rfl⟩
theorem d_X11_deep_28 : decIL cX11_deep 28 2 29 := Or.inr ⟨2, rfl, by decide +kernel, rfl⟩
theorem d_X11_deep_29 : decAL cX11_deep 29 0 30 := Or.inr ⟨0, rfl, by decide +kernel, rfl⟩
theorem d_X11_deep_30 : dec 3 cX11_deep 30 (.getfield 7) 33 := ⟨by decide +kernel, rfl⟩
theorem d_X11_deep_33 : dec 1 cX11_deep 33 (.iconst 0) 34 := ⟨by decide +kernel, rfl⟩
theorem d_X11_deep_34 : dec 1 cX11_deep 34 .iaload 35 := ⟨by decide +kernel, rfl⟩
theorem d_X11_deep_35 : decB cX11_deep 35 (.if_icmp .ge 34) (34) 38 69 := ⟨by decide +kernel, rfl, by decide⟩
theorem d_X11_deep_38 : decAL cX11_deep 38 0 39 := Or.inr ⟨0, rfl, by decide +kernel, rfl⟩
theorem d_X11_deep_39 : dec 3 cX11_deep 39 (.getfield 63) 42 := ⟨by decide +kernel, rfl⟩
theorem d_X11_deep_42 : decIL cX11_deep 42 2 43 := Or.inr ⟨2, rfl, by decide +kernel, rfl⟩
theorem d_X11_deep_43 : dec 1 cX11_deep 43 .iaload 44 := ⟨by decide +kernel, rfl⟩
theorem d_X11_deep_44 : dec 1 cX11_deep 44 (.iconst 1) 45 := ⟨by decide +kernel, rfl⟩
theorem d_X11_deep_45 : dec 1 cX11_deep 45 .iadd 46 := ⟨by decide +kernel, rfl⟩
theorem d_X11_deep_46 : decIL cX11_deep 46 1 47 := Or.inr ⟨1, rfl, by decide +kernel, rfl⟩
theorem d_X11_deep_47 : decB cX11_deep 47 (.if_icmp .le 14) (14) 50 61 := ⟨by decide +kernel, rfl, by decide⟩
theorem d_X11_deep_50 : decAL cX11_deep 50 0 51 := Or.inr ⟨0, rfl, by decide +kernel, rfl⟩
theorem d_X11_deep_51 : dec 3 cX11_deep 51 (.getfield 63) 54 := ⟨by decide +kernel, rfl⟩
theorem d_X11_deep_54 : decIL cX11_deep 54 2 55 := Or.inr ⟨2, rfl, by decide +kernel, rfl⟩
theorem d_X11_deep_55 : dec 1 cX11_deep 55 .iaload 56 := ⟨by decide +kernel, rfl⟩
theorem d_X11_deep_56 : dec 1 cX11_deep 56 (.iconst 1) 57 := ⟨by decide +kernel, rfl⟩
theorem d_X11_deep_57 : dec 1 cX11_deep 57 .iadd 58 := ⟨by decide +kernel, rfl⟩
theorem d_X11_deep_58 : decB cX11_deep 58 (.goto 4) (4) 61 62 := ⟨by decide +kernel, rfl, by decide⟩
theorem d_X11_deep_61 : decIL cX11_deep 61 1 62 := Or.inr ⟨1, rfl, by decide +kernel, rfl⟩
theorem d_X11_deep_62 : decIS cX11_deep 62 1 63 := Or.inr ⟨1, rfl, by decide +kernel, rfl⟩
theorem d_X11_deep_63 : dec 3 cX11_deep 63 (.iinc 2 1) 66 := ⟨by decide +kernel, rfl⟩
theorem d_X11_deep_66 : decB cX11_deep 66 (.goto (-38)) (-38) 69 28 := ⟨by decide +kernel, rfl, by decide⟩
theorem d_X11_deep_69 : decIL cX11_deep 69 1 70 := Or.inr ⟨1, rfl, by decide +kernel, rfl⟩
theorem d_X11_deep_70 : dec 1 cX11_deep 70 .ireturn 71 := ⟨by decide +kernel, rfl⟩
def b_X11_deep_28 (F : Nat)   (v0 : Nat) (n : Nat) (G : GH) (rec28 : Int32 → Int32 → Option (Int32 × Nat × GH)) : Int32 → Int32 → Option (Int32 × Nat × GH) := fun v1 v2 =>
  Option.bind (gR G v0 11 1) (fun (x7 : Nat) =>
  Option.bind (aI G x7 0 (0 : Int32)) (fun (x8 : Int32) =>
  if x8 ≤ v2 then
  (some (v1, n, G))
  else (Option.bind (gR G v0 11 33) (fun (x9 : Nat) =>
  Option.bind (aI G x9 0 v2) (fun (x10 : Int32) =>
  if (x10 + (1 : Int32)) ≤ v1 then
  (rec28 v1 (v2 + 1))
  else (Option.bind (gR G v0 11 33) (fun (x11 : Nat) =>
  Option.bind (aI G x11 0 v2) (fun (x12 : Int32) =>
  gnm (x12 + (1 : Int32)) (fun (y13 : Int32) =>
  rec28 y13 (v2 + 1))))))))))
def f_X11_deep (F : Nat)  (v0 : Nat) (n : Nat) (G : GH) : Option (Int32 × Nat × GH) :=
  Option.bind (pV G v0 11 0 (.int (0 : Int32))) (fun (G1 : GH) =>
  cvU G1 v0 11 (f_X11_laysOrder F v0 n G1) (fun (n2 : Nat) (G3 : GH) =>
  Option.bind (gI G3 v0 11 32) (fun (x4 : Int32) =>
  Option.bind (gR G3 v0 11 1) (fun (x5 : Nat) =>
  Option.bind (aI G3 x5 0 (0 : Int32)) (fun (x6 : Int32) =>
  if x6 ≤ x4 then
  (fixN (fun _ _ => none) (b_X11_deep_28 F   v0 n2 G3) F (0 : Int32) (0 : Int32))
  else (some ((-1 : Int32), n2, G3)))))))
set_option maxRecDepth 100000 in
set_option maxHeartbeats 4000000 in
theorem l_X11_deep_28 {E : GE} {F : Nat}   {v0 : Nat} {n : Nat} {G : GH}   : ∀ (K : Nat) (v1 : Int32) (v2 : Int32) (z : Int32 × Nat × GH), fixN ((fun _ _ => none) : Int32 → Int32 → Option (Int32 × Nat × GH)) (b_X11_deep_28 F   v0 n G) K v1 v2 = some z → WG E RX11 "deep" cX11_deep 3 (some .int) 4 89 0 0 28 [(0, .ref v0), (1, .int v1), (2, .int v2)] [] n G (g_O E (some (.int z.1), z.2.1, z.2.2)) := by
  intro K
  refine fixN_ind (P := fun (r : Int32 → Int32 → Option (Int32 × Nat × GH)) => ∀ (v1 : Int32) (v2 : Int32) (z : Int32 × Nat × GH), r v1 v2 = some z → WG E RX11 "deep" cX11_deep 3 (some .int) 4 89 0 0 28 [(0, .ref v0), (1, .int v1), (2, .int v2)] [] n G (g_O E (some (.int z.1), z.2.1, z.2.2))) ?_ ?_ K
  · intro v1 v2 z h
    cases h
  · intro rec28 hrec28 v1 v2 z h
    unfold b_X11_deep_28 at h
    refine r_iload d_X11_deep_28 rfl ?_
    refine r_aload d_X11_deep_29 rfl ?_
    refine r_getR h d_X11_deep_30 pf_X11_7 (fun x7 h => ?_)
    refine r_iconst d_X11_deep_33 ic_0 ?_
    refine r_iald h d_X11_deep_34 (fun x8 h => ?_)
    refine r_icmp_ge h d_X11_deep_35 (fun h => ?_) (fun h => ?_)
    · refine r_iload d_X11_deep_69 rfl ?_
      exact r_iret h d_X11_deep_70
    · refine r_aload d_X11_deep_38 rfl ?_
      refine r_getR h d_X11_deep_39 pf_X11_63 (fun x9 h => ?_)
      refine r_iload d_X11_deep_42 rfl ?_
      refine r_iald h d_X11_deep_43 (fun x10 h => ?_)
      refine r_iconst d_X11_deep_44 ic_1 ?_
      refine r_iadd d_X11_deep_45 ?_
      refine r_iload d_X11_deep_46 rfl ?_
      refine r_icmp_le h d_X11_deep_47 (fun h => ?_) (fun h => ?_)
      · refine r_iload d_X11_deep_61 rfl ?_
        refine r_istore d_X11_deep_62 rfl rfl ?_
        refine r_iinc d_X11_deep_63 rfl (ii_1 _) rfl rfl ?_
        refine r_goto d_X11_deep_66 ?_
        refine r_lv [(0, .ref v0), (1, .int v1), (2, .int (v2 + 1))] (g_allc rfl (g_allc rfl (g_allc rfl g_alln))) ?_
        exact hrec28 _ _ _ h
      · refine r_aload d_X11_deep_50 rfl ?_
        refine r_getR h d_X11_deep_51 pf_X11_63 (fun x11 h => ?_)
        refine r_iload d_X11_deep_54 rfl ?_
        refine r_iald h d_X11_deep_55 (fun x12 h => ?_)
        refine r_iconst d_X11_deep_56 ic_1 ?_
        refine r_iadd d_X11_deep_57 ?_
        refine r_goto d_X11_deep_58 ?_
        refine r_nmI h (fun y13 _ h => ?_)
        refine r_istore d_X11_deep_62 rfl rfl ?_
        refine r_iinc d_X11_deep_63 rfl (ii_1 _) rfl rfl ?_
        refine r_goto d_X11_deep_66 ?_
        refine r_lv [(0, .ref v0), (1, .int y13), (2, .int (v2 + 1))] (g_allc rfl (g_allc rfl (g_allc rfl g_alln))) ?_
        exact hrec28 _ _ _ h
set_option maxRecDepth 100000 in
set_option maxHeartbeats 4000000 in
theorem s_X11_deep {E : GE} {F : Nat}  {v0 : Nat} {n : Nat} {G : GH} {z : Int32 × Nat × GH}  (h : f_X11_deep F  v0 n G = some z) : GM E yX11_deep cX11_deep 3 (some .int) 4 89 0 0 [.ref v0] n G (some (.int z.1), z.2.1, z.2.2) := by
  refine GM.of (by decide) (Nat.le_of_ble_eq_true rfl) ?_
  show WG E RX11 "deep" cX11_deep 3 (some .int) 4 89 0 0 0 [(0, .ref v0)] [] n G (g_O E (some (.int z.1), z.2.1, z.2.2))
  unfold f_X11_deep at h
  refine r_aload d_X11_deep_0 rfl ?_
  refine r_iconst d_X11_deep_1 ic_0 ?_
  refine r_put h d_X11_deep_2 pw_X11_72 rfl rfl (fun G1 h => ?_)
  refine r_aload d_X11_deep_5 rfl ?_
  refine r_invU [] h (fun _ hq => s_X11_laysOrder hq) d_X11_deep_6 pl_X11_293 py_X11_laysOrder pi_X11_laysOrder rfl rfl rfl (fun n2 G3 h => ?_)
  refine r_aload d_X11_deep_9 rfl ?_
  refine r_getI h d_X11_deep_10 pf_X11_284 (fun x4 h => ?_)
  refine r_aload d_X11_deep_13 rfl ?_
  refine r_getR h d_X11_deep_14 pf_X11_7 (fun x5 h => ?_)
  refine r_iconst d_X11_deep_17 ic_0 ?_
  refine r_iald h d_X11_deep_18 (fun x6 h => ?_)
  refine r_icmp_ge h d_X11_deep_19 (fun h => ?_) (fun h => ?_)
  · refine r_iconst d_X11_deep_24 ic_0 ?_
    refine r_istore d_X11_deep_25 rfl rfl ?_
    refine r_iconst d_X11_deep_26 ic_0 ?_
    refine r_istore d_X11_deep_27 rfl rfl ?_
    refine r_lv [(0, .ref v0), (1, .int (0 : Int32)), (2, .int (0 : Int32))] (g_allc rfl (g_allc rfl (g_allc rfl g_alln))) ?_
    exact l_X11_deep_28   _ _ _ _ h
  · refine r_iconst d_X11_deep_22 ic_m1 ?_
    exact r_iret h d_X11_deep_23
/-! X11_wave -/
theorem d_X11_wave_0 : decAL cX11_wave 0 0 1 := Or.inr ⟨0, rfl, by decide +kernel, rfl⟩
theorem d_X11_wave_1 : dec 1 cX11_wave 1 (.iconst 0) 2 := ⟨by decide +kernel, rfl⟩
theorem d_X11_wave_2 : dec 3 cX11_wave 2 (.putfield 72) 5 := ⟨by decide +kernel, rfl⟩
theorem d_X11_wave_5 : decAL cX11_wave 5 0 6 := Or.inr ⟨0, rfl, by decide +kernel, rfl⟩
theorem d_X11_wave_6 : dec 3 cX11_wave 6 (.invokevirtual 293) 9 := ⟨by decide +kernel, rfl⟩
theorem d_X11_wave_9 : decAL cX11_wave 9 0 10 := Or.inr ⟨0, rfl, by decide +kernel, rfl⟩
theorem d_X11_wave_10 : decIL cX11_wave 10 1 11 := Or.inr ⟨1, rfl, by decide +kernel, rfl⟩
theorem d_X11_wave_11 : dec 3 cX11_wave 11 (.invokevirtual 260) 14 := ⟨by decide +kernel, rfl⟩
theorem d_X11_wave_14 : decB cX11_wave 14 (.ifCond .eq 12) (12) 17 26 := ⟨by decide +kernel, rfl, by decide⟩
theorem d_X11_wave_17 : decAL cX11_wave 17 0 18 := Or.inr ⟨0, rfl, by decide +kernel, rfl⟩
theorem d_X11_wave_18 : dec 3 cX11_wave 18 (.getfield 63) 21 := ⟨by decide +kernel, rfl⟩
theorem d_X11_wave_21 : decIL cX11_wave 21 1 22 := Or.inr ⟨1, rfl, by decide +kernel, rfl⟩
theorem d_X11_wave_22 : dec 1 cX11_wave 22 .iaload 23 := ⟨by decide +kernel, rfl⟩
theorem d_X11_wave_23 : decB cX11_wave 23 (.goto 4) (4) 26 27 := ⟨by decide +kernel, rfl, by decide⟩
theorem d_X11_wave_26 : dec 1 cX11_wave 26 (.iconst (-1)) 27 := ⟨by decide +kernel, rfl⟩
theorem d_X11_wave_27 : dec 1 cX11_wave 27 .ireturn 28 := ⟨by decide +kernel, rfl⟩
def f_X11_wave (F : Nat)  (v0 : Nat) (v1 : Int32) (n : Nat) (G : GH) : Option (Int32 × Nat × GH) :=
  Option.bind (pV G v0 11 0 (.int (0 : Int32))) (fun (G1 : GH) =>
  cvU G1 v0 11 (f_X11_laysOrder F v0 n G1) (fun (n2 : Nat) (G3 : GH) =>
  cvP G3 v0 11 (f_X11_isPart F v0 v1 G3) (fun (x4 : Int32) =>
  if x4 = 0 then
  (some ((-1 : Int32), n2, G3))
  else (Option.bind (gR G3 v0 11 33) (fun (x5 : Nat) =>
  Option.bind (aI G3 x5 0 v1) (fun (x6 : Int32) =>
  some (x6, n2, G3)))))))
set_option maxRecDepth 100000 in
set_option maxHeartbeats 4000000 in
theorem s_X11_wave {E : GE} {F : Nat}  {v0 : Nat} {v1 : Int32} {n : Nat} {G : GH} {z : Int32 × Nat × GH}  (h : f_X11_wave F  v0 v1 n G = some z) : GM E yX11_wave cX11_wave 2 (some .int) 4 89 0 0 [.ref v0, .int v1] n G (some (.int z.1), z.2.1, z.2.2) := by
  refine GM.of (by decide) (Nat.le_of_ble_eq_true rfl) ?_
  show WG E RX11 "wave" cX11_wave 2 (some .int) 4 89 0 0 0 [(0, .ref v0), (1, .int v1)] [] n G (g_O E (some (.int z.1), z.2.1, z.2.2))
  unfold f_X11_wave at h
  refine r_aload d_X11_wave_0 rfl ?_
  refine r_iconst d_X11_wave_1 ic_0 ?_
  refine r_put h d_X11_wave_2 pw_X11_72 rfl rfl (fun G1 h => ?_)
  refine r_aload d_X11_wave_5 rfl ?_
  refine r_invU [] h (fun _ hq => s_X11_laysOrder hq) d_X11_wave_6 pl_X11_293 py_X11_laysOrder pi_X11_laysOrder rfl rfl rfl (fun n2 G3 h => ?_)
  refine r_aload d_X11_wave_9 rfl ?_
  refine r_iload d_X11_wave_10 rfl ?_
  refine r_invP [_] h (fun _ hq => s_X11_isPart hq) d_X11_wave_11 pl_X11_260 py_X11_isPart pi_X11_isPart rfl rfl rfl (fun x4 h => ?_)
  refine r_if_eq h d_X11_wave_14 (fun h => ?_) (fun h => ?_)
  · refine r_iconst d_X11_wave_26 ic_m1 ?_
    exact r_iret h d_X11_wave_27
  · refine r_aload d_X11_wave_17 rfl ?_
    refine r_getR h d_X11_wave_18 pf_X11_63 (fun x5 h => ?_)
    refine r_iload d_X11_wave_21 rfl ?_
    refine r_iald h d_X11_wave_22 (fun x6 h => ?_)
    refine r_goto d_X11_wave_23 ?_
    exact r_iret h d_X11_wave_27
/-! X11_lost -/
theorem d_X11_lost_0 : decAL cX11_lost 0 0 1 := Or.inr ⟨0, rfl, by decide +kernel, rfl⟩
theorem d_X11_lost_1 : dec 1 cX11_lost 1 (.iconst 0) 2 := ⟨by decide +kernel, rfl⟩
theorem d_X11_lost_2 : dec 3 cX11_lost 2 (.putfield 72) 5 := ⟨by decide +kernel, rfl⟩
theorem d_X11_lost_5 : decAL cX11_lost 5 0 6 := Or.inr ⟨0, rfl, by decide +kernel, rfl⟩
theorem d_X11_lost_6 : decIL cX11_lost 6 1 7 := Or.inr ⟨1, rfl, by decide +kernel, rfl⟩
theorem d_X11_lost_7 : dec 3 cX11_lost 7 (.invokevirtual 260) 10 := ⟨by decide +kernel, rfl⟩
theorem d_X11_lost_10 : decB cX11_lost 10 (.ifCond .ne 5) (5) 13 15 := ⟨by decide +kernel, rfl, by decide⟩
theorem d_X11_lost_13 : dec 1 cX11_lost 13 (.iconst (-1)) 14 := ⟨by decide +kernel, rfl⟩
theorem d_X11_lost_14 : dec 1 cX11_lost 14 .ireturn 15 := ⟨by decide +kernel, rfl⟩
theorem d_X11_lost_15 : dec 1 cX11_lost 15 (.iconst 1) 16 := ⟨by decide +kernel, rfl⟩
theorem d_X11_lost_16 : decIL cX11_lost 16 1 17 := Or.inr ⟨1, rfl, by decide +kernel, rfl⟩
theorem d_X11_lost_17 : dec 1 cX11_lost 17 .ishl 18 := ⟨by decide +kernel, rfl⟩
theorem d_X11_lost_18 : decIS cX11_lost 18 2 19 := Or.inr ⟨2, rfl, by decide +kernel, rfl⟩
theorem d_X11_lost_19 : dec 1 cX11_lost 19 (.iconst 0) 20 := ⟨by decide +kernel, rfl⟩
theorem d_X11_lost_20 : decIS cX11_lost 20 3 21 := Or.inr ⟨3, rfl, by decide +kernel, rfl⟩
theorem d_X11_lost_21 : decIL cX11_lost 21 3 22 := Or.inr ⟨3, rfl, by decide +kernel, rfl⟩
theorem d_X11_lost_22 : decAL cX11_lost 22 0 23 := Or.inr ⟨0, rfl, by decide +kernel, rfl⟩
theorem d_X11_lost_23 : dec 3 cX11_lost 23 (.getfield 7) 26 := ⟨by decide +kernel, rfl⟩
theorem d_X11_lost_26 : dec 1 cX11_lost 26 (.iconst 0) 27 := ⟨by decide +kernel, rfl⟩
theorem d_X11_lost_27 : dec 1 cX11_lost 27 .iaload 28 := ⟨by decide +kernel, rfl⟩
theorem d_X11_lost_28 : decB cX11_lost 28 (.if_icmp .ge 33) (33) 31 61 := ⟨by decide +kernel, rfl, by decide⟩
theorem d_X11_lost_31 : decIL cX11_lost 31 2 32 := Or.inr ⟨2, rfl, by decide +kernel, rfl⟩
theorem d_X11_lost_32 : decAL cX11_lost 32 0 33 := Or.inr ⟨0, rfl, by decide +kernel, rfl⟩
theorem d_X11_lost_33 : decIL cX11_lost 33 3 34 := Or.inr ⟨3, rfl, by decide +kernel, rfl⟩
theorem d_X11_lost_34 : dec 1 cX11_lost 34 (.iconst 0) 35 := ⟨by decide +kernel, rfl⟩
theorem d_X11_lost_35 : dec 3 cX11_lost 35 (.invokevirtual 312) 38 := ⟨by decide +kernel, rfl⟩
theorem d_X11_lost_38 : decIL cX11_lost 38 1 39 := Or.inr ⟨1, rfl, by decide +kernel, rfl⟩
theorem d_X11_lost_39 : dec 1 cX11_lost 39 .ishr 40 := ⟨by decide +kernel, rfl⟩
theorem d_X11_lost_40 : dec 1 cX11_lost 40 (.iconst 1) 41 := ⟨by decide +kernel, rfl⟩
theorem d_X11_lost_41 : dec 1 cX11_lost 41 .iand 42 := ⟨by decide +kernel, rfl⟩
theorem d_X11_lost_42 : dec 1 cX11_lost 42 (.iconst 1) 43 := ⟨by decide +kernel, rfl⟩
theorem d_X11_lost_43 : decB cX11_lost 43 (.if_icmp .ne 9) (9) 46 52 := ⟨by decide +kernel, rfl, by decide⟩
theorem d_X11_lost_46 : dec 1 cX11_lost 46 (.iconst 1) 47 := ⟨by decide +kernel, rfl⟩
theorem d_X11_lost_47 : decIL cX11_lost 47 3 48 := Or.inr ⟨3, rfl, by decide +kernel, rfl⟩
theorem d_X11_lost_48 : dec 1 cX11_lost 48 .ishl 49 := ⟨by decide +kernel, rfl⟩
theorem d_X11_lost_49 : decB cX11_lost 49 (.goto 4) (4) 52 53 := ⟨by decide +kernel, rfl, by decide⟩
theorem d_X11_lost_52 : dec 1 cX11_lost 52 (.iconst 0) 53 := ⟨by decide +kernel, rfl⟩
theorem d_X11_lost_53 : dec 1 cX11_lost 53 .ior 54 := ⟨by decide +kernel, rfl⟩
theorem d_X11_lost_54 : decIS cX11_lost 54 2 55 := Or.inr ⟨2, rfl, by decide +kernel, rfl⟩
theorem d_X11_lost_55 : dec 3 cX11_lost 55 (.iinc 3 1) 58 := ⟨by decide +kernel, rfl⟩
theorem d_X11_lost_58 : decB cX11_lost 58 (.goto (-37)) (-37) 61 21 := ⟨by decide +kernel, rfl, by decide⟩
theorem d_X11_lost_61 : decIL cX11_lost 61 2 62 := Or.inr ⟨2, rfl, by decide +kernel, rfl⟩
theorem d_X11_lost_62 : dec 1 cX11_lost 62 .ireturn 63 := ⟨by decide +kernel, rfl⟩
def b_X11_lost_21 (F : Nat)   (v0 : Nat) (v1 : Int32) (n : Nat) (G : GH) (rec21 : Int32 → Int32 → Option (Int32 × Nat × GH)) : Int32 → Int32 → Option (Int32 × Nat × GH) := fun v2 v3 =>
  Option.bind (gR G v0 11 1) (fun (x4 : Nat) =>
  Option.bind (aI G x4 0 (0 : Int32)) (fun (x5 : Int32) =>
  if x5 ≤ v3 then
  (some (v2, n, G))
  else (cvP G v0 11 (f_X11_allNeeds F v0 v3 (0 : Int32) G) (fun (x6 : Int32) =>
  if ((x6 >>> (v1 &&& 31)) &&& (1 : Int32)) = (1 : Int32) then
  (gnm (v2 ||| ((1 : Int32) <<< (v3 &&& 31))) (fun (y8 : Int32) =>
  rec21 y8 (v3 + 1)))
  else (gnm (v2 ||| (0 : Int32)) (fun (y7 : Int32) =>
  rec21 y7 (v3 + 1)))))))
def f_X11_lost (F : Nat)  (v0 : Nat) (v1 : Int32) (n : Nat) (G : GH) : Option (Int32 × Nat × GH) :=
  Option.bind (pV G v0 11 0 (.int (0 : Int32))) (fun (G1 : GH) =>
  cvP G1 v0 11 (f_X11_isPart F v0 v1 G1) (fun (x2 : Int32) =>
  if x2 = 0 then
  (some ((-1 : Int32), n, G1))
  else (gnm ((1 : Int32) <<< (v1 &&& 31)) (fun (y3 : Int32) =>
  fixN (fun _ _ => none) (b_X11_lost_21 F   v0 v1 n G1) F y3 (0 : Int32)))))
set_option maxRecDepth 100000 in
set_option maxHeartbeats 4000000 in
theorem l_X11_lost_21 {E : GE} {F : Nat}   {v0 : Nat} {v1 : Int32} {n : Nat} {G : GH}   : ∀ (K : Nat) (v2 : Int32) (v3 : Int32) (z : Int32 × Nat × GH), fixN ((fun _ _ => none) : Int32 → Int32 → Option (Int32 × Nat × GH)) (b_X11_lost_21 F   v0 v1 n G) K v2 v3 = some z → WG E RX11 "lost" cX11_lost 4 (some .int) 5 115 0 0 21 [(0, .ref v0), (1, .int v1), (2, .int v2), (3, .int v3)] [] n G (g_O E (some (.int z.1), z.2.1, z.2.2)) := by
  intro K
  refine fixN_ind (P := fun (r : Int32 → Int32 → Option (Int32 × Nat × GH)) => ∀ (v2 : Int32) (v3 : Int32) (z : Int32 × Nat × GH), r v2 v3 = some z → WG E RX11 "lost" cX11_lost 4 (some .int) 5 115 0 0 21 [(0, .ref v0), (1, .int v1), (2, .int v2), (3, .int v3)] [] n G (g_O E (some (.int z.1), z.2.1, z.2.2))) ?_ ?_ K
  · intro v2 v3 z h
    cases h
  · intro rec21 hrec21 v2 v3 z h
    unfold b_X11_lost_21 at h
    refine r_iload d_X11_lost_21 rfl ?_
    refine r_aload d_X11_lost_22 rfl ?_
    refine r_getR h d_X11_lost_23 pf_X11_7 (fun x4 h => ?_)
    refine r_iconst d_X11_lost_26 ic_0 ?_
    refine r_iald h d_X11_lost_27 (fun x5 h => ?_)
    refine r_icmp_ge h d_X11_lost_28 (fun h => ?_) (fun h => ?_)
    · refine r_iload d_X11_lost_61 rfl ?_
      exact r_iret h d_X11_lost_62
    · refine r_iload d_X11_lost_31 rfl ?_
      refine r_aload d_X11_lost_32 rfl ?_
      refine r_iload d_X11_lost_33 rfl ?_
      refine r_iconst d_X11_lost_34 ic_0 ?_
      refine r_invP [_, _] h (fun _ hq => s_X11_allNeeds hq) d_X11_lost_35 pl_X11_312 py_X11_allNeeds pi_X11_allNeeds rfl rfl rfl (fun x6 h => ?_)
      refine r_iload d_X11_lost_38 rfl ?_
      refine r_ishr d_X11_lost_39 ?_
      refine r_iconst d_X11_lost_40 ic_1 ?_
      refine r_iand d_X11_lost_41 ?_
      refine r_iconst d_X11_lost_42 ic_1 ?_
      refine r_icmp_ne h d_X11_lost_43 (fun h => ?_) (fun h => ?_)
      · refine r_iconst d_X11_lost_52 ic_0 ?_
        refine r_ior d_X11_lost_53 ?_
        refine r_nmI h (fun y7 _ h => ?_)
        refine r_istore d_X11_lost_54 rfl rfl ?_
        refine r_iinc d_X11_lost_55 rfl (ii_1 _) rfl rfl ?_
        refine r_goto d_X11_lost_58 ?_
        refine r_lv [(0, .ref v0), (1, .int v1), (2, .int y7), (3, .int (v3 + 1))] (g_allc rfl (g_allc rfl (g_allc rfl (g_allc rfl g_alln)))) ?_
        exact hrec21 _ _ _ h
      · refine r_iconst d_X11_lost_46 ic_1 ?_
        refine r_iload d_X11_lost_47 rfl ?_
        refine r_ishl d_X11_lost_48 ?_
        refine r_goto d_X11_lost_49 ?_
        refine r_ior d_X11_lost_53 ?_
        refine r_nmI h (fun y8 _ h => ?_)
        refine r_istore d_X11_lost_54 rfl rfl ?_
        refine r_iinc d_X11_lost_55 rfl (ii_1 _) rfl rfl ?_
        refine r_goto d_X11_lost_58 ?_
        refine r_lv [(0, .ref v0), (1, .int v1), (2, .int y8), (3, .int (v3 + 1))] (g_allc rfl (g_allc rfl (g_allc rfl (g_allc rfl g_alln)))) ?_
        exact hrec21 _ _ _ h
set_option maxRecDepth 100000 in
set_option maxHeartbeats 4000000 in
theorem s_X11_lost {E : GE} {F : Nat}  {v0 : Nat} {v1 : Int32} {n : Nat} {G : GH} {z : Int32 × Nat × GH}  (h : f_X11_lost F  v0 v1 n G = some z) : GM E yX11_lost cX11_lost 4 (some .int) 5 115 0 0 [.ref v0, .int v1] n G (some (.int z.1), z.2.1, z.2.2) := by
  refine GM.of (by decide) (Nat.le_of_ble_eq_true rfl) ?_
  show WG E RX11 "lost" cX11_lost 4 (some .int) 5 115 0 0 0 [(0, .ref v0), (1, .int v1)] [] n G (g_O E (some (.int z.1), z.2.1, z.2.2))
  unfold f_X11_lost at h
  refine r_aload d_X11_lost_0 rfl ?_
  refine r_iconst d_X11_lost_1 ic_0 ?_
  refine r_put h d_X11_lost_2 pw_X11_72 rfl rfl (fun G1 h => ?_)
  refine r_aload d_X11_lost_5 rfl ?_
  refine r_iload d_X11_lost_6 rfl ?_
  refine r_invP [_] h (fun _ hq => s_X11_isPart hq) d_X11_lost_7 pl_X11_260 py_X11_isPart pi_X11_isPart rfl rfl rfl (fun x2 h => ?_)
  refine r_if_ne h d_X11_lost_10 (fun h => ?_) (fun h => ?_)
  · refine r_iconst d_X11_lost_15 ic_1 ?_
    refine r_iload d_X11_lost_16 rfl ?_
    refine r_ishl d_X11_lost_17 ?_
    refine r_nmI h (fun y3 _ h => ?_)
    refine r_istore d_X11_lost_18 rfl rfl ?_
    refine r_iconst d_X11_lost_19 ic_0 ?_
    refine r_istore d_X11_lost_20 rfl rfl ?_
    refine r_lv [(0, .ref v0), (1, .int v1), (2, .int y3), (3, .int (0 : Int32))] (g_allc rfl (g_allc rfl (g_allc rfl (g_allc rfl g_alln)))) ?_
    exact l_X11_lost_21   _ _ _ _ h
  · refine r_iconst d_X11_lost_13 ic_m1 ?_
    exact r_iret h d_X11_lost_14
/-! X11_isEager -/
theorem d_X11_isEager_0 : decIL cX11_isEager 0 1 1 := Or.inr ⟨1, rfl, by decide +kernel, rfl⟩
theorem d_X11_isEager_1 : dec 1 cX11_isEager 1 (.iconst 4) 2 := ⟨by decide +kernel, rfl⟩
theorem d_X11_isEager_2 : dec 1 cX11_isEager 2 .idiv 3 := ⟨by decide +kernel, rfl⟩
theorem d_X11_isEager_3 : decIS cX11_isEager 3 2 4 := Or.inr ⟨2, rfl, by decide +kernel, rfl⟩
theorem d_X11_isEager_4 : decIL cX11_isEager 4 2 5 := Or.inr ⟨2, rfl, by decide +kernel, rfl⟩
theorem d_X11_isEager_5 : decAL cX11_isEager 5 0 6 := Or.inr ⟨0, rfl, by decide +kernel, rfl⟩
theorem d_X11_isEager_6 : dec 3 cX11_isEager 6 (.getfield 7) 9 := ⟨by decide +kernel, rfl⟩
theorem d_X11_isEager_9 : dec 1 cX11_isEager 9 (.iconst 0) 10 := ⟨by decide +kernel, rfl⟩
theorem d_X11_isEager_10 : dec 1 cX11_isEager 10 .iaload 11 := ⟨by decide +kernel, rfl⟩
theorem d_X11_isEager_11 : decB cX11_isEager 11 (.if_icmp .ge 30) (30) 14 41 := ⟨by decide +kernel, rfl, by decide⟩
theorem d_X11_isEager_14 : decIL cX11_isEager 14 1 15 := Or.inr ⟨1, rfl, by decide +kernel, rfl⟩
theorem d_X11_isEager_15 : dec 1 cX11_isEager 15 (.iconst 4) 16 := ⟨by decide +kernel, rfl⟩
theorem d_X11_isEager_16 : dec 1 cX11_isEager 16 .irem 17 := ⟨by decide +kernel, rfl⟩
theorem d_X11_isEager_17 : decAL cX11_isEager 17 0 18 := Or.inr ⟨0, rfl, by decide +kernel, rfl⟩
theorem d_X11_isEager_18 : decIL cX11_isEager 18 2 19 := Or.inr ⟨2, rfl, by decide +kernel, rfl⟩
theorem d_X11_isEager_19 : dec 1 cX11_isEager 19 (.iconst 2) 20 := ⟨by decide +kernel, rfl⟩
theorem d_X11_isEager_20 : dec 3 cX11_isEager 20 (.invokevirtual 76) 23 := ⟨by decide +kernel, rfl⟩
theorem d_X11_isEager_23 : decB cX11_isEager 23 (.if_icmp .ge 18) (18) 26 41 := ⟨by decide +kernel, rfl, by decide⟩
theorem d_X11_isEager_26 : decAL cX11_isEager 26 0 27 := Or.inr ⟨0, rfl, by decide +kernel, rfl⟩
theorem d_X11_isEager_27 : decIL cX11_isEager 27 2 28 := Or.inr ⟨2, rfl, by decide +kernel, rfl⟩
theorem d_X11_isEager_28 : decIL cX11_isEager 28 1 29 := Or.inr ⟨1, rfl, by decide +kernel, rfl⟩
theorem d_X11_isEager_29 : dec 1 cX11_isEager 29 (.iconst 4) 30 := ⟨by decide +kernel, rfl⟩
theorem d_X11_isEager_30 : dec 1 cX11_isEager 30 .irem 31 := ⟨by decide +kernel, rfl⟩
theorem d_X11_isEager_31 : dec 3 cX11_isEager 31 (.invokevirtual 228) 34 := ⟨by decide +kernel, rfl⟩
theorem d_X11_isEager_34 : decB cX11_isEager 34 (.ifCond .ne 7) (7) 37 41 := ⟨by decide +kernel, rfl, by decide⟩
theorem d_X11_isEager_37 : dec 1 cX11_isEager 37 (.iconst 1) 38 := ⟨by decide +kernel, rfl⟩
theorem d_X11_isEager_38 : decB cX11_isEager 38 (.goto 4) (4) 41 42 := ⟨by decide +kernel, rfl, by decide⟩
theorem d_X11_isEager_41 : dec 1 cX11_isEager 41 (.iconst 0) 42 := ⟨by decide +kernel, rfl⟩
theorem d_X11_isEager_42 : dec 1 cX11_isEager 42 .ireturn 43 := ⟨by decide +kernel, rfl⟩
def f_X11_isEager (F : Nat)  (v0 : Nat) (v1 : Int32) (G : GH) : Option (Int32) :=
  gnm (v1 / (4 : Int32)) (fun (y1 : Int32) =>
  Option.bind (gR G v0 11 1) (fun (x2 : Nat) =>
  Option.bind (aI G x2 0 (0 : Int32)) (fun (x3 : Int32) =>
  if x3 ≤ y1 then
  (rP .boolean (0 : Int32))
  else (cvP G v0 11 (f_X11_of F v0 y1 (2 : Int32) G) (fun (x4 : Int32) =>
  if x4 ≤ (v1 - v1 / (4 : Int32) * (4 : Int32)) then
  (rP .boolean (0 : Int32))
  else (cvP G v0 11 (f_X11_isLazy F v0 y1 (v1 - v1 / (4 : Int32) * (4 : Int32)) G) (fun (x5 : Int32) =>
  if x5 = 0 then
  (rP .boolean (1 : Int32))
  else (rP .boolean (0 : Int32)))))))))
set_option maxRecDepth 100000 in
set_option maxHeartbeats 4000000 in
theorem s_X11_isEager {E : GE} {F : Nat}  {v0 : Nat} {v1 : Int32} {n : Nat} {G : GH} {z : Int32}  (h : f_X11_isEager F  v0 v1 G = some z) : GM E yX11_isEager cX11_isEager 3 (some .boolean) 2 44 0 0 [.ref v0, .int v1] n G (some (.int z), n, G) := by
  refine GM.of (by decide) (Nat.le_of_ble_eq_true rfl) ?_
  show WG E RX11 "isEager" cX11_isEager 3 (some .boolean) 2 44 0 0 0 [(0, .ref v0), (1, .int v1)] [] n G (g_O E (some (.int z), n, G))
  unfold f_X11_isEager at h
  refine r_iload d_X11_isEager_0 rfl ?_
  refine r_iconst d_X11_isEager_1 ic_4 ?_
  refine r_idiv d_X11_isEager_2 (by decide) ?_
  refine r_nmI h (fun y1 _ h => ?_)
  refine r_istore d_X11_isEager_3 rfl rfl ?_
  refine r_iload d_X11_isEager_4 rfl ?_
  refine r_aload d_X11_isEager_5 rfl ?_
  refine r_getR h d_X11_isEager_6 pf_X11_7 (fun x2 h => ?_)
  refine r_iconst d_X11_isEager_9 ic_0 ?_
  refine r_iald h d_X11_isEager_10 (fun x3 h => ?_)
  refine r_icmp_ge h d_X11_isEager_11 (fun h => ?_) (fun h => ?_)
  · refine r_iconst d_X11_isEager_41 ic_0 ?_
    exact r_pzret h d_X11_isEager_42
  · refine r_iload d_X11_isEager_14 rfl ?_
    refine r_iconst d_X11_isEager_15 ic_4 ?_
    refine r_irem d_X11_isEager_16 (by decide) ?_
    refine r_aload d_X11_isEager_17 rfl ?_
    refine r_iload d_X11_isEager_18 rfl ?_
    refine r_iconst d_X11_isEager_19 ic_2 ?_
    refine r_invP [_, _] h (fun _ hq => s_X11_of hq) d_X11_isEager_20 pl_X11_76 py_X11_of pi_X11_of rfl rfl rfl (fun x4 h => ?_)
    refine r_icmp_ge h d_X11_isEager_23 (fun h => ?_) (fun h => ?_)
    · refine r_iconst d_X11_isEager_41 ic_0 ?_
      exact r_pzret h d_X11_isEager_42
    · refine r_aload d_X11_isEager_26 rfl ?_
      refine r_iload d_X11_isEager_27 rfl ?_
      refine r_iload d_X11_isEager_28 rfl ?_
      refine r_iconst d_X11_isEager_29 ic_4 ?_
      refine r_irem d_X11_isEager_30 (by decide) ?_
      refine r_invP [_, _] h (fun _ hq => s_X11_isLazy hq) d_X11_isEager_31 pl_X11_228 py_X11_isLazy pi_X11_isLazy rfl rfl rfl (fun x5 h => ?_)
      refine r_if_ne h d_X11_isEager_34 (fun h => ?_) (fun h => ?_)
      · refine r_iconst d_X11_isEager_41 ic_0 ?_
        exact r_pzret h d_X11_isEager_42
      · refine r_iconst d_X11_isEager_37 ic_1 ?_
        refine r_goto d_X11_isEager_38 ?_
        exact r_pzret h d_X11_isEager_42
/-! X11_turns -/
theorem d_X11_turns_0 : decAL cX11_turns 0 0 1 := Or.inr ⟨0, rfl, by decide +kernel, rfl⟩
theorem d_X11_turns_1 : dec 3 cX11_turns 1 (.getfield 7) 4 := ⟨by decide +kernel, rfl⟩
theorem d_X11_turns_4 : dec 1 cX11_turns 4 (.iconst 1) 5 := ⟨by decide +kernel, rfl⟩
theorem d_X11_turns_5 : dec 2 cX11_turns 5 (.bipush 11) 7 := ⟨by decide +kernel, rfl⟩
theorem d_X11_turns_7 : decIL cX11_turns 7 1 8 := Or.inr ⟨1, rfl, by decide +kernel, rfl⟩
theorem d_X11_turns_8 : dec 1 cX11_turns 8 (.iconst 4) 9 := ⟨by decide +kernel, rfl⟩
theorem d_X11_turns_9 : dec 1 cX11_turns 9 .idiv 10 := ⟨by decide +kernel, rfl⟩
theorem d_X11_turns_10 : dec 1 cX11_turns 10 .imul 11 := ⟨by decide +kernel, rfl⟩
theorem d_X11_turns_11 : dec 1 cX11_turns 11 .iadd 12 := ⟨by decide +kernel, rfl⟩
theorem d_X11_turns_12 : dec 2 cX11_turns 12 (.bipush 7) 14 := ⟨by decide +kernel, rfl⟩
theorem d_X11_turns_14 : dec 1 cX11_turns 14 .iadd 15 := ⟨by decide +kernel, rfl⟩
theorem d_X11_turns_15 : dec 1 cX11_turns 15 .dup2 16 := ⟨by decide +kernel, rfl⟩
theorem d_X11_turns_16 : dec 1 cX11_turns 16 .iaload 17 := ⟨by decide +kernel, rfl⟩
theorem d_X11_turns_17 : dec 1 cX11_turns 17 (.iconst 1) 18 := ⟨by decide +kernel, rfl⟩
theorem d_X11_turns_18 : decIL cX11_turns 18 1 19 := Or.inr ⟨1, rfl, by decide +kernel, rfl⟩
theorem d_X11_turns_19 : dec 1 cX11_turns 19 (.iconst 4) 20 := ⟨by decide +kernel, rfl⟩
theorem d_X11_turns_20 : dec 1 cX11_turns 20 .irem 21 := ⟨by decide +kernel, rfl⟩
theorem d_X11_turns_21 : dec 1 cX11_turns 21 .ishl 22 := ⟨by decide +kernel, rfl⟩
theorem d_X11_turns_22 : dec 1 cX11_turns 22 .ixor 23 := ⟨by decide +kernel, rfl⟩
theorem d_X11_turns_23 : dec 1 cX11_turns 23 .iastore 24 := ⟨by decide +kernel, rfl⟩
theorem d_X11_turns_24 : dec 1 cX11_turns 24 .return_ 25 := ⟨by decide +kernel, rfl⟩
def f_X11_turns (F : Nat)  (v0 : Nat) (v1 : Int32) (n : Nat) (G : GH) : Option (Nat × GH) :=
  Option.bind (gR G v0 11 1) (fun (x1 : Nat) =>
  Option.bind (aI G x1 0 (((1 : Int32) + ((11 : Int32) * (v1 / (4 : Int32)))) + (7 : Int32))) (fun (x2 : Int32) =>
  Option.bind (aS G x1 0 (((1 : Int32) + ((11 : Int32) * (v1 / (4 : Int32)))) + (7 : Int32)) (x2 ^^^ ((1 : Int32) <<< ((v1 - v1 / (4 : Int32) * (4 : Int32)) &&& 31)))) (fun (G3 : GH) =>
  some (n, G3))))
set_option maxRecDepth 100000 in
set_option maxHeartbeats 4000000 in
theorem s_X11_turns {E : GE} {F : Nat}  {v0 : Nat} {v1 : Int32} {n : Nat} {G : GH} {z : Nat × GH}  (h : f_X11_turns F  v0 v1 n G = some z) : GM E yX11_turns cX11_turns 2 none 0 0 0 0 [.ref v0, .int v1] n G (none, z.1, z.2) := by
  refine GM.of (by decide) (Nat.le_of_ble_eq_true rfl) ?_
  show WG E RX11 "turns" cX11_turns 2 none 0 0 0 0 0 [(0, .ref v0), (1, .int v1)] [] n G (g_O E (none, z.1, z.2))
  unfold f_X11_turns at h
  refine r_aload d_X11_turns_0 rfl ?_
  refine r_getR h d_X11_turns_1 pf_X11_7 (fun x1 h => ?_)
  refine r_iconst d_X11_turns_4 ic_1 ?_
  refine r_bipush d_X11_turns_5 bp_11 ?_
  refine r_iload d_X11_turns_7 rfl ?_
  refine r_iconst d_X11_turns_8 ic_4 ?_
  refine r_idiv d_X11_turns_9 (by decide) ?_
  refine r_imul d_X11_turns_10 ?_
  refine r_iadd d_X11_turns_11 ?_
  refine r_bipush d_X11_turns_12 bp_7 ?_
  refine r_iadd d_X11_turns_14 ?_
  refine r_dup2 d_X11_turns_15 rfl rfl ?_
  refine r_iald h d_X11_turns_16 (fun x2 h => ?_)
  refine r_iconst d_X11_turns_17 ic_1 ?_
  refine r_iload d_X11_turns_18 rfl ?_
  refine r_iconst d_X11_turns_19 ic_4 ?_
  refine r_irem d_X11_turns_20 (by decide) ?_
  refine r_ishl d_X11_turns_21 ?_
  refine r_ixor d_X11_turns_22 ?_
  refine r_iast h d_X11_turns_23 (fun G3 h => ?_)
  exact r_vret h d_X11_turns_24
/-! X11_isLoose -/
theorem d_X11_isLoose_0 : decAL cX11_isLoose 0 0 1 := Or.inr ⟨0, rfl, by decide +kernel, rfl⟩
theorem d_X11_isLoose_1 : dec 3 cX11_isLoose 1 (.invokevirtual 293) 4 := ⟨by decide +kernel, rfl⟩
theorem d_X11_isLoose_4 : decAL cX11_isLoose 4 0 5 := Or.inr ⟨0, rfl, by decide +kernel, rfl⟩
theorem d_X11_isLoose_5 : dec 3 cX11_isLoose 5 (.getfield 284) 8 := ⟨by decide +kernel, rfl⟩
theorem d_X11_isLoose_8 : decAL cX11_isLoose 8 0 9 := Or.inr ⟨0, rfl, by decide +kernel, rfl⟩
theorem d_X11_isLoose_9 : dec 3 cX11_isLoose 9 (.getfield 7) 12 := ⟨by decide +kernel, rfl⟩
theorem d_X11_isLoose_12 : dec 1 cX11_isLoose 12 (.iconst 0) 13 := ⟨by decide +kernel, rfl⟩
theorem d_X11_isLoose_13 : dec 1 cX11_isLoose 13 .iaload 14 := ⟨by decide +kernel, rfl⟩
theorem d_X11_isLoose_14 : decB cX11_isLoose 14 (.if_icmp .ne 7) (7) 17 21 := ⟨by decide +kernel, rfl, by decide⟩
theorem d_X11_isLoose_17 : dec 1 cX11_isLoose 17 (.iconst 1) 18 := ⟨by decide +kernel, rfl⟩
theorem d_X11_isLoose_18 : decB cX11_isLoose 18 (.goto 4) (4) 21 22 := ⟨by decide +kernel, rfl, by decide⟩
theorem d_X11_isLoose_21 : dec 1 cX11_isLoose 21 (.iconst 0) 22 := ⟨by decide +kernel, rfl⟩
theorem d_X11_isLoose_22 : dec 1 cX11_isLoose 22 .ireturn 23 := ⟨by decide +kernel, rfl⟩
def f_X11_isLoose (F : Nat)  (v0 : Nat) (n : Nat) (G : GH) : Option (Int32 × Nat × GH) :=
  cvU G v0 11 (f_X11_laysOrder F v0 n G) (fun (n1 : Nat) (G2 : GH) =>
  Option.bind (gI G2 v0 11 32) (fun (x3 : Int32) =>
  Option.bind (gR G2 v0 11 1) (fun (x4 : Nat) =>
  Option.bind (aI G2 x4 0 (0 : Int32)) (fun (x5 : Int32) =>
  if x3 = x5 then
  (rN .boolean (1 : Int32) n1 G2)
  else (rN .boolean (0 : Int32) n1 G2)))))
set_option maxRecDepth 100000 in
set_option maxHeartbeats 4000000 in
theorem s_X11_isLoose {E : GE} {F : Nat}  {v0 : Nat} {n : Nat} {G : GH} {z : Int32 × Nat × GH}  (h : f_X11_isLoose F  v0 n G = some z) : GM E yX11_isLoose cX11_isLoose 1 (some .boolean) 4 89 0 0 [.ref v0] n G (some (.int z.1), z.2.1, z.2.2) := by
  refine GM.of (by decide) (Nat.le_of_ble_eq_true rfl) ?_
  show WG E RX11 "isLoose" cX11_isLoose 1 (some .boolean) 4 89 0 0 0 [(0, .ref v0)] [] n G (g_O E (some (.int z.1), z.2.1, z.2.2))
  unfold f_X11_isLoose at h
  refine r_aload d_X11_isLoose_0 rfl ?_
  refine r_invU [] h (fun _ hq => s_X11_laysOrder hq) d_X11_isLoose_1 pl_X11_293 py_X11_laysOrder pi_X11_laysOrder rfl rfl rfl (fun n1 G2 h => ?_)
  refine r_aload d_X11_isLoose_4 rfl ?_
  refine r_getI h d_X11_isLoose_5 pf_X11_284 (fun x3 h => ?_)
  refine r_aload d_X11_isLoose_8 rfl ?_
  refine r_getR h d_X11_isLoose_9 pf_X11_7 (fun x4 h => ?_)
  refine r_iconst d_X11_isLoose_12 ic_0 ?_
  refine r_iald h d_X11_isLoose_13 (fun x5 h => ?_)
  refine r_icmp_ne h d_X11_isLoose_14 (fun h => ?_) (fun h => ?_)
  · refine r_iconst d_X11_isLoose_21 ic_0 ?_
    exact r_zret h d_X11_isLoose_22
  · refine r_iconst d_X11_isLoose_17 ic_1 ?_
    refine r_goto d_X11_isLoose_18 ?_
    exact r_zret h d_X11_isLoose_22
/-! X11_isLastEnough -/
theorem py_X11_isEager : pY yX11_isEager cX11_isEager 3 (some .boolean) 1 := ⟨g_in 1575 (by decide +kernel) rfl, g_in 104 (by decide +kernel) rfl, by decide, by decide, by decide +kernel⟩
theorem pi_X11_isEager : pI yX11_isEager 11 := ⟨g_in 1574 (by decide +kernel) rfl, g_in 87 (by decide +kernel) rfl, (RX11, TX11, 37), rfl, rfl⟩
theorem pl_X11_315 : pL RX11 315 yX11_isEager := Or.inl (g_in 1572 (by decide +kernel) rfl)
theorem py_X11_turns : pY yX11_turns cX11_turns 2 none 1 := ⟨g_in 1579 (by decide +kernel) rfl, g_in 104 (by decide +kernel) rfl, by decide, by decide, by decide +kernel⟩
theorem pi_X11_turns : pI yX11_turns 11 := ⟨g_in 1578 (by decide +kernel) rfl, g_in 88 (by decide +kernel) rfl, (RX11, TX11, 37), rfl, rfl⟩
theorem pl_X11_318 : pL RX11 318 yX11_turns := Or.inl (g_in 1576 (by decide +kernel) rfl)
theorem py_X11_isLoose : pY yX11_isLoose cX11_isLoose 1 (some .boolean) 0 := ⟨g_in 1567 (by decide +kernel) rfl, g_in 104 (by decide +kernel) rfl, by decide, by decide, by decide +kernel⟩
theorem pi_X11_isLoose : pI yX11_isLoose 11 := ⟨g_in 1566 (by decide +kernel) rfl, g_in 85 (by decide +kernel) rfl, (RX11, TX11, 37), rfl, rfl⟩
theorem pl_X11_321 : pL RX11 321 yX11_isLoose := Or.inl (g_in 1564 (by decide +kernel) rfl)
theorem pf_X11_69 : pF RX11 69 11 36 := ⟨RX11, TX11, 37, rfl, by decide, rfl, Or.inl (g_in 1181 (by decide +kernel) rfl)⟩
theorem d_X11_isLastEnough_0 : decIL cX11_isLastEnough 0 1 1 := Or.inr ⟨1, rfl, by decide +kernel, rfl⟩
theorem d_X11_isLastEnough_1 : decIS cX11_isLastEnough 1 2 2 := Or.inr ⟨2, rfl, by decide +kernel, rfl⟩
theorem d_X11_isLastEnough_2 : decIL cX11_isLastEnough 2 2 3 := Or.inr ⟨2, rfl, by decide +kernel, rfl⟩
theorem d_X11_isLastEnough_3 : dec 2 cX11_isLastEnough 3 (.bipush 48) 5 := ⟨by decide +kernel, rfl⟩
theorem d_X11_isLastEnough_5 : decB cX11_isLastEnough 5 (.if_icmp .ge 48) (48) 8 53 := ⟨by decide +kernel, rfl, by decide⟩
theorem d_X11_isLastEnough_8 : decAL cX11_isLastEnough 8 0 9 := Or.inr ⟨0, rfl, by decide +kernel, rfl⟩
theorem d_X11_isLastEnough_9 : decIL cX11_isLastEnough 9 2 10 := Or.inr ⟨2, rfl, by decide +kernel, rfl⟩
theorem d_X11_isLastEnough_10 : dec 3 cX11_isLastEnough 10 (.invokevirtual 315) 13 := ⟨by decide +kernel, rfl⟩
theorem d_X11_isLastEnough_13 : decB cX11_isLastEnough 13 (.ifCond .ne 6) (6) 16 19 := ⟨by decide +kernel, rfl, by decide⟩
theorem d_X11_isLastEnough_16 : decB cX11_isLastEnough 16 (.goto 31) (31) 19 47 := ⟨by decide +kernel, rfl, by decide⟩
theorem d_X11_isLastEnough_19 : decAL cX11_isLastEnough 19 0 20 := Or.inr ⟨0, rfl, by decide +kernel, rfl⟩
theorem d_X11_isLastEnough_20 : decIL cX11_isLastEnough 20 2 21 := Or.inr ⟨2, rfl, by decide +kernel, rfl⟩
theorem d_X11_isLastEnough_21 : dec 3 cX11_isLastEnough 21 (.invokevirtual 318) 24 := ⟨by decide +kernel, rfl⟩
theorem d_X11_isLastEnough_24 : decAL cX11_isLastEnough 24 0 25 := Or.inr ⟨0, rfl, by decide +kernel, rfl⟩
theorem d_X11_isLastEnough_25 : dec 3 cX11_isLastEnough 25 (.invokevirtual 321) 28 := ⟨by decide +kernel, rfl⟩
theorem d_X11_isLastEnough_28 : decIS cX11_isLastEnough 28 3 29 := Or.inr ⟨3, rfl, by decide +kernel, rfl⟩
theorem d_X11_isLastEnough_29 : decAL cX11_isLastEnough 29 0 30 := Or.inr ⟨0, rfl, by decide +kernel, rfl⟩
theorem d_X11_isLastEnough_30 : decIL cX11_isLastEnough 30 2 31 := Or.inr ⟨2, rfl, by decide +kernel, rfl⟩
theorem d_X11_isLastEnough_31 : dec 3 cX11_isLastEnough 31 (.invokevirtual 318) 34 := ⟨by decide +kernel, rfl⟩
theorem d_X11_isLastEnough_34 : decIL cX11_isLastEnough 34 3 35 := Or.inr ⟨3, rfl, by decide +kernel, rfl⟩
theorem d_X11_isLastEnough_35 : decB cX11_isLastEnough 35 (.ifCond .eq 12) (12) 38 47 := ⟨by decide +kernel, rfl, by decide⟩
theorem d_X11_isLastEnough_38 : decAL cX11_isLastEnough 38 0 39 := Or.inr ⟨0, rfl, by decide +kernel, rfl⟩
theorem d_X11_isLastEnough_39 : dec 3 cX11_isLastEnough 39 (.getfield 69) 42 := ⟨by decide +kernel, rfl⟩
theorem d_X11_isLastEnough_42 : dec 1 cX11_isLastEnough 42 (.iconst 2) 43 := ⟨by decide +kernel, rfl⟩
theorem d_X11_isLastEnough_43 : decIL cX11_isLastEnough 43 2 44 := Or.inr ⟨2, rfl, by decide +kernel, rfl⟩
theorem d_X11_isLastEnough_44 : dec 1 cX11_isLastEnough 44 .iastore 45 := ⟨by decide +kernel, rfl⟩
theorem d_X11_isLastEnough_45 : dec 1 cX11_isLastEnough 45 (.iconst 1) 46 := ⟨by decide +kernel, rfl⟩
theorem d_X11_isLastEnough_46 : dec 1 cX11_isLastEnough 46 .ireturn 47 := ⟨by decide +kernel, rfl⟩
theorem d_X11_isLastEnough_47 : dec 3 cX11_isLastEnough 47 (.iinc 2 1) 50 := ⟨by decide +kernel, rfl⟩
theorem d_X11_isLastEnough_50 : decB cX11_isLastEnough 50 (.goto (-48)) (-48) 53 2 := ⟨by decide +kernel, rfl, by decide⟩
theorem d_X11_isLastEnough_53 : dec 1 cX11_isLastEnough 53 (.iconst 0) 54 := ⟨by decide +kernel, rfl⟩
theorem d_X11_isLastEnough_54 : dec 1 cX11_isLastEnough 54 .ireturn 55 := ⟨by decide +kernel, rfl⟩
def k_X11_isLastEnough_38 (F : Nat)   (v0 : Nat) (v2 : Int32)  (n : Nat) (G : GH) : Option (Int32 × Nat × GH) :=
  Option.bind (gR G v0 11 36) (fun (x9 : Nat) =>
  Option.bind (aS G x9 0 (2 : Int32) v2) (fun (G10 : GH) =>
  rN .boolean (1 : Int32) n G10))
def b_X11_isLastEnough_2 (F : Nat)   (v0 : Nat) (rec2 : Int32 → Nat → GH → Option (Int32 × Nat × GH)) : Int32 → Nat → GH → Option (Int32 × Nat × GH) := fun v2 n G =>
  if (48 : Int32) ≤ v2 then
  (rN .boolean (0 : Int32) n G)
  else (cvP G v0 11 (f_X11_isEager F v0 v2 G) (fun (x1 : Int32) =>
  if x1 = 0 then
  (rec2 (v2 + 1) n G)
  else (cvU G v0 11 (f_X11_turns F v0 v2 n G) (fun (n2 : Nat) (G3 : GH) =>
  cvI G3 v0 11 (f_X11_isLoose F v0 n2 G3) (fun (x6 : Int32) (n4 : Nat) (G5 : GH) =>
  cvU G5 v0 11 (f_X11_turns F v0 v2 n4 G5) (fun (n7 : Nat) (G8 : GH) =>
  if x6 = 0 then
  (rec2 (v2 + 1) n7 G8)
  else (k_X11_isLastEnough_38 F   v0 v2 n7 G8)))))))
def f_X11_isLastEnough (F : Nat)  (v0 : Nat) (v1 : Int32) (n : Nat) (G : GH) : Option (Int32 × Nat × GH) :=
  fixN (fun _ _ _ => none) (b_X11_isLastEnough_2 F   v0) F v1 n G
set_option maxRecDepth 100000 in
set_option maxHeartbeats 4000000 in
theorem c_X11_isLastEnough_38 {E : GE} {F : Nat}   {v0 : Nat} {v2 : Int32}  {n : Nat} {G : GH} {z : Int32 × Nat × GH}   (h : k_X11_isLastEnough_38 F   v0 v2  n G = some z) : WG E RX11 "isLastEnough" cX11_isLastEnough 4 (some .boolean) 5 109 0 0 38 [(0, .ref v0), (2, .int v2)] [] n G (g_O E (some (.int z.1), z.2.1, z.2.2)) := by
  unfold k_X11_isLastEnough_38 at h
  refine r_aload d_X11_isLastEnough_38 rfl ?_
  refine r_getR h d_X11_isLastEnough_39 pf_X11_69 (fun x9 h => ?_)
  refine r_iconst d_X11_isLastEnough_42 ic_2 ?_
  refine r_iload d_X11_isLastEnough_43 rfl ?_
  refine r_iast h d_X11_isLastEnough_44 (fun G10 h => ?_)
  refine r_iconst d_X11_isLastEnough_45 ic_1 ?_
  exact r_zret h d_X11_isLastEnough_46
set_option maxRecDepth 100000 in
set_option maxHeartbeats 4000000 in
theorem l_X11_isLastEnough_2 {E : GE} {F : Nat}   {v0 : Nat}   : ∀ (K : Nat) (v2 : Int32) (n : Nat) (G : GH) (z : Int32 × Nat × GH), fixN ((fun _ _ _ => none) : Int32 → Nat → GH → Option (Int32 × Nat × GH)) (b_X11_isLastEnough_2 F   v0) K v2 n G = some z → WG E RX11 "isLastEnough" cX11_isLastEnough 4 (some .boolean) 5 109 0 0 2 [(0, .ref v0), (2, .int v2)] [] n G (g_O E (some (.int z.1), z.2.1, z.2.2)) := by
  intro K
  refine fixN_ind (P := fun (r : Int32 → Nat → GH → Option (Int32 × Nat × GH)) => ∀ (v2 : Int32) (n : Nat) (G : GH) (z : Int32 × Nat × GH), r v2 n G = some z → WG E RX11 "isLastEnough" cX11_isLastEnough 4 (some .boolean) 5 109 0 0 2 [(0, .ref v0), (2, .int v2)] [] n G (g_O E (some (.int z.1), z.2.1, z.2.2))) ?_ ?_ K
  · intro v2 n G z h
    cases h
  · intro rec2 hrec2 v2 n G z h
    unfold b_X11_isLastEnough_2 at h
    refine r_iload d_X11_isLastEnough_2 rfl ?_
    refine r_bipush d_X11_isLastEnough_3 bp_48 ?_
    refine r_icmp_ge h d_X11_isLastEnough_5 (fun h => ?_) (fun h => ?_)
    · refine r_iconst d_X11_isLastEnough_53 ic_0 ?_
      exact r_zret h d_X11_isLastEnough_54
    · refine r_aload d_X11_isLastEnough_8 rfl ?_
      refine r_iload d_X11_isLastEnough_9 rfl ?_
      refine r_invP [_] h (fun _ hq => s_X11_isEager hq) d_X11_isLastEnough_10 pl_X11_315 py_X11_isEager pi_X11_isEager rfl rfl rfl (fun x1 h => ?_)
      refine r_if_ne h d_X11_isLastEnough_13 (fun h => ?_) (fun h => ?_)
      · refine r_aload d_X11_isLastEnough_19 rfl ?_
        refine r_iload d_X11_isLastEnough_20 rfl ?_
        refine r_invU [_] h (fun _ hq => s_X11_turns hq) d_X11_isLastEnough_21 pl_X11_318 py_X11_turns pi_X11_turns rfl rfl rfl (fun n2 G3 h => ?_)
        refine r_aload d_X11_isLastEnough_24 rfl ?_
        refine r_invI [] h (fun _ hq => s_X11_isLoose hq) d_X11_isLastEnough_25 pl_X11_321 py_X11_isLoose pi_X11_isLoose rfl rfl rfl (fun x6 n4 G5 h => ?_)
        refine r_istore d_X11_isLastEnough_28 rfl rfl ?_
        refine r_aload d_X11_isLastEnough_29 rfl ?_
        refine r_iload d_X11_isLastEnough_30 rfl ?_
        refine r_invU [_] h (fun _ hq => s_X11_turns hq) d_X11_isLastEnough_31 pl_X11_318 py_X11_turns pi_X11_turns rfl rfl rfl (fun n7 G8 h => ?_)
        refine r_iload d_X11_isLastEnough_34 rfl ?_
        refine r_if_eq h d_X11_isLastEnough_35 (fun h => ?_) (fun h => ?_)
        · refine r_iinc d_X11_isLastEnough_47 rfl (ii_1 _) rfl rfl ?_
          refine r_goto d_X11_isLastEnough_50 ?_
          refine r_lv [(0, .ref v0), (2, .int (v2 + 1))] (g_allc rfl (g_allc rfl g_alln)) ?_
          exact hrec2 _ _ _ _ h
        · refine r_lv [(0, .ref v0), (2, .int v2)] (g_allc rfl (g_allc rfl g_alln)) ?_
          exact c_X11_isLastEnough_38   h
      · refine r_goto d_X11_isLastEnough_16 ?_
        refine r_iinc d_X11_isLastEnough_47 rfl (ii_1 _) rfl rfl ?_
        refine r_goto d_X11_isLastEnough_50 ?_
        refine r_lv [(0, .ref v0), (2, .int (v2 + 1))] (g_allc rfl (g_allc rfl g_alln)) ?_
        exact hrec2 _ _ _ _ h
set_option maxRecDepth 100000 in
set_option maxHeartbeats 4000000 in
theorem s_X11_isLastEnough {E : GE} {F : Nat}  {v0 : Nat} {v1 : Int32} {n : Nat} {G : GH} {z : Int32 × Nat × GH}  (h : f_X11_isLastEnough F  v0 v1 n G = some z) : GM E yX11_isLastEnough cX11_isLastEnough 4 (some .boolean) 5 109 0 0 [.ref v0, .int v1] n G (some (.int z.1), z.2.1, z.2.2) := by
  refine GM.of (by decide) (Nat.le_of_ble_eq_true rfl) ?_
  show WG E RX11 "isLastEnough" cX11_isLastEnough 4 (some .boolean) 5 109 0 0 0 [(0, .ref v0), (1, .int v1)] [] n G (g_O E (some (.int z.1), z.2.1, z.2.2))
  unfold f_X11_isLastEnough at h
  refine r_iload d_X11_isLastEnough_0 rfl ?_
  refine r_istore d_X11_isLastEnough_1 rfl rfl ?_
  refine r_lv [(0, .ref v0), (2, .int v1)] (g_allc rfl (g_allc rfl g_alln)) ?_
  exact l_X11_isLastEnough_2   _ _ _ _ _ h
/-! X11_areTwoEnough -/
theorem py_X11_isLastEnough : pY yX11_isLastEnough cX11_isLastEnough 4 (some .boolean) 1 := ⟨g_in 1587 (by decide +kernel) rfl, g_in 104 (by decide +kernel) rfl, by decide, by decide, by decide +kernel⟩
theorem pi_X11_isLastEnough : pI yX11_isLastEnough 11 := ⟨g_in 1586 (by decide +kernel) rfl, g_in 90 (by decide +kernel) rfl, (RX11, TX11, 37), rfl, rfl⟩
theorem pl_X11_327 : pL RX11 327 yX11_isLastEnough := Or.inl (g_in 1584 (by decide +kernel) rfl)
theorem d_X11_areTwoEnough_0 : decIL cX11_areTwoEnough 0 2 1 := Or.inr ⟨2, rfl, by decide +kernel, rfl⟩
theorem d_X11_areTwoEnough_1 : decIS cX11_areTwoEnough 1 3 2 := Or.inr ⟨3, rfl, by decide +kernel, rfl⟩
theorem d_X11_areTwoEnough_2 : decIL cX11_areTwoEnough 2 3 3 := Or.inr ⟨3, rfl, by decide +kernel, rfl⟩
theorem d_X11_areTwoEnough_3 : dec 2 cX11_areTwoEnough 3 (.bipush 48) 5 := ⟨by decide +kernel, rfl⟩
theorem d_X11_areTwoEnough_5 : decB cX11_areTwoEnough 5 (.if_icmp .ge 65) (65) 8 70 := ⟨by decide +kernel, rfl, by decide⟩
theorem d_X11_areTwoEnough_8 : decAL cX11_areTwoEnough 8 0 9 := Or.inr ⟨0, rfl, by decide +kernel, rfl⟩
theorem d_X11_areTwoEnough_9 : decIL cX11_areTwoEnough 9 3 10 := Or.inr ⟨3, rfl, by decide +kernel, rfl⟩
theorem d_X11_areTwoEnough_10 : dec 3 cX11_areTwoEnough 10 (.invokevirtual 315) 13 := ⟨by decide +kernel, rfl⟩
theorem d_X11_areTwoEnough_13 : decB cX11_areTwoEnough 13 (.ifCond .ne 6) (6) 16 19 := ⟨by decide +kernel, rfl, by decide⟩
theorem d_X11_areTwoEnough_16 : decB cX11_areTwoEnough 16 (.goto 48) (48) 19 64 := ⟨by decide +kernel, rfl, by decide⟩
theorem d_X11_areTwoEnough_19 : decAL cX11_areTwoEnough 19 0 20 := Or.inr ⟨0, rfl, by decide +kernel, rfl⟩
theorem d_X11_areTwoEnough_20 : decIL cX11_areTwoEnough 20 3 21 := Or.inr ⟨3, rfl, by decide +kernel, rfl⟩
theorem d_X11_areTwoEnough_21 : dec 3 cX11_areTwoEnough 21 (.invokevirtual 318) 24 := ⟨by decide +kernel, rfl⟩
theorem d_X11_areTwoEnough_24 : decIL cX11_areTwoEnough 24 1 25 := Or.inr ⟨1, rfl, by decide +kernel, rfl⟩
theorem d_X11_areTwoEnough_25 : dec 1 cX11_areTwoEnough 25 (.iconst 2) 26 := ⟨by decide +kernel, rfl⟩
theorem d_X11_areTwoEnough_26 : decB cX11_areTwoEnough 26 (.if_icmp .ne 10) (10) 29 36 := ⟨by decide +kernel, rfl, by decide⟩
theorem d_X11_areTwoEnough_29 : decAL cX11_areTwoEnough 29 0 30 := Or.inr ⟨0, rfl, by decide +kernel, rfl⟩
theorem d_X11_areTwoEnough_30 : dec 3 cX11_areTwoEnough 30 (.invokevirtual 321) 33 := ⟨by decide +kernel, rfl⟩
theorem d_X11_areTwoEnough_33 : decB cX11_areTwoEnough 33 (.goto 10) (10) 36 43 := ⟨by decide +kernel, rfl, by decide⟩
theorem d_X11_areTwoEnough_36 : decAL cX11_areTwoEnough 36 0 37 := Or.inr ⟨0, rfl, by decide +kernel, rfl⟩
theorem d_X11_areTwoEnough_37 : decIL cX11_areTwoEnough 37 3 38 := Or.inr ⟨3, rfl, by decide +kernel, rfl⟩
theorem d_X11_areTwoEnough_38 : dec 1 cX11_areTwoEnough 38 (.iconst 1) 39 := ⟨by decide +kernel, rfl⟩
theorem d_X11_areTwoEnough_39 : dec 1 cX11_areTwoEnough 39 .iadd 40 := ⟨by decide +kernel, rfl⟩
theorem d_X11_areTwoEnough_40 : dec 3 cX11_areTwoEnough 40 (.invokevirtual 327) 43 := ⟨by decide +kernel, rfl⟩
theorem d_X11_areTwoEnough_43 : decIS cX11_areTwoEnough 43 4 45 := Or.inl ⟨by decide +kernel, rfl⟩
theorem d_X11_areTwoEnough_45 : decAL cX11_areTwoEnough 45 0 46 := Or.inr ⟨0, rfl, by decide +kernel, rfl⟩
theorem d_X11_areTwoEnough_46 : decIL cX11_areTwoEnough 46 3 47 := Or.inr ⟨3, rfl, by decide +kernel, rfl⟩
theorem d_X11_areTwoEnough_47 : dec 3 cX11_areTwoEnough 47 (.invokevirtual 318) 50 := ⟨by decide +kernel, rfl⟩
theorem d_X11_areTwoEnough_50 : decIL cX11_areTwoEnough 50 4 52 := Or.inl ⟨by decide +kernel, rfl⟩
theorem d_X11_areTwoEnough_52 : decB cX11_areTwoEnough 52 (.ifCond .eq 12) (12) 55 64 := ⟨by decide +kernel, rfl, by decide⟩
theorem d_X11_areTwoEnough_55 : decAL cX11_areTwoEnough 55 0 56 := Or.inr ⟨0, rfl, by decide +kernel, rfl⟩
theorem d_X11_areTwoEnough_56 : dec 3 cX11_areTwoEnough 56 (.getfield 69) 59 := ⟨by decide +kernel, rfl⟩
theorem d_X11_areTwoEnough_59 : dec 1 cX11_areTwoEnough 59 (.iconst 1) 60 := ⟨by decide +kernel, rfl⟩
theorem d_X11_areTwoEnough_60 : decIL cX11_areTwoEnough 60 3 61 := Or.inr ⟨3, rfl, by decide +kernel, rfl⟩
theorem d_X11_areTwoEnough_61 : dec 1 cX11_areTwoEnough 61 .iastore 62 := ⟨by decide +kernel, rfl⟩
theorem d_X11_areTwoEnough_62 : dec 1 cX11_areTwoEnough 62 (.iconst 1) 63 := ⟨by decide +kernel, rfl⟩
theorem d_X11_areTwoEnough_63 : dec 1 cX11_areTwoEnough 63 .ireturn 64 := ⟨by decide +kernel, rfl⟩
theorem d_X11_areTwoEnough_64 : dec 3 cX11_areTwoEnough 64 (.iinc 3 1) 67 := ⟨by decide +kernel, rfl⟩
theorem d_X11_areTwoEnough_67 : decB cX11_areTwoEnough 67 (.goto (-65)) (-65) 70 2 := ⟨by decide +kernel, rfl, by decide⟩
theorem d_X11_areTwoEnough_70 : dec 1 cX11_areTwoEnough 70 (.iconst 0) 71 := ⟨by decide +kernel, rfl⟩
theorem d_X11_areTwoEnough_71 : dec 1 cX11_areTwoEnough 71 .ireturn 72 := ⟨by decide +kernel, rfl⟩
def k_X11_areTwoEnough_55 (F : Nat)   (v0 : Nat) (v3 : Int32)  (n : Nat) (G : GH) : Option (Int32 × Nat × GH) :=
  Option.bind (gR G v0 11 36) (fun (x9 : Nat) =>
  Option.bind (aS G x9 0 (1 : Int32) v3) (fun (G10 : GH) =>
  rN .boolean (1 : Int32) n G10))
def k_X11_areTwoEnough_43 (F : Nat)  (rec2 : Int32 → Nat → GH → Option (Int32 × Nat × GH)) (v0 : Nat) (v1 : Int32) (v3 : Int32) (s0 : Int32) (n : Nat) (G : GH) : Option (Int32 × Nat × GH) :=
  cvU G v0 11 (f_X11_turns F v0 v3 n G) (fun (n7 : Nat) (G8 : GH) =>
  if s0 = 0 then
  (rec2 (v3 + 1) n7 G8)
  else (k_X11_areTwoEnough_55 F   v0 v3 n7 G8))
def b_X11_areTwoEnough_2 (F : Nat)   (v0 : Nat) (v1 : Int32) (rec2 : Int32 → Nat → GH → Option (Int32 × Nat × GH)) : Int32 → Nat → GH → Option (Int32 × Nat × GH) := fun v3 n G =>
  if (48 : Int32) ≤ v3 then
  (rN .boolean (0 : Int32) n G)
  else (cvP G v0 11 (f_X11_isEager F v0 v3 G) (fun (x1 : Int32) =>
  if x1 = 0 then
  (rec2 (v3 + 1) n G)
  else (cvU G v0 11 (f_X11_turns F v0 v3 n G) (fun (n2 : Nat) (G3 : GH) =>
  if v1 = (2 : Int32) then
  (cvI G3 v0 11 (f_X11_isLoose F v0 n2 G3) (fun (x13 : Int32) (n11 : Nat) (G12 : GH) =>
  k_X11_areTwoEnough_43 F  rec2 v0 v1 v3 x13 n11 G12))
  else (cvI G3 v0 11 (f_X11_isLastEnough F v0 (v3 + (1 : Int32)) n2 G3) (fun (x6 : Int32) (n4 : Nat) (G5 : GH) =>
  k_X11_areTwoEnough_43 F  rec2 v0 v1 v3 x6 n4 G5))))))
def f_X11_areTwoEnough (F : Nat)  (v0 : Nat) (v1 : Int32) (v2 : Int32) (n : Nat) (G : GH) : Option (Int32 × Nat × GH) :=
  fixN (fun _ _ _ => none) (b_X11_areTwoEnough_2 F   v0 v1) F v2 n G
set_option maxRecDepth 100000 in
set_option maxHeartbeats 4000000 in
theorem c_X11_areTwoEnough_55 {E : GE} {F : Nat}   {v0 : Nat} {v3 : Int32}  {n : Nat} {G : GH} {z : Int32 × Nat × GH}   (h : k_X11_areTwoEnough_55 F   v0 v3  n G = some z) : WG E RX11 "areTwoEnough" cX11_areTwoEnough 5 (some .boolean) 6 132 0 0 55 [(0, .ref v0), (3, .int v3)] [] n G (g_O E (some (.int z.1), z.2.1, z.2.2)) := by
  unfold k_X11_areTwoEnough_55 at h
  refine r_aload d_X11_areTwoEnough_55 rfl ?_
  refine r_getR h d_X11_areTwoEnough_56 pf_X11_69 (fun x9 h => ?_)
  refine r_iconst d_X11_areTwoEnough_59 ic_1 ?_
  refine r_iload d_X11_areTwoEnough_60 rfl ?_
  refine r_iast h d_X11_areTwoEnough_61 (fun G10 h => ?_)
  refine r_iconst d_X11_areTwoEnough_62 ic_1 ?_
  exact r_zret h d_X11_areTwoEnough_63
set_option maxRecDepth 100000 in
set_option maxHeartbeats 4000000 in
theorem c_X11_areTwoEnough_43 {E : GE} {F : Nat}  {rec2 : Int32 → Nat → GH → Option (Int32 × Nat × GH)} {v0 : Nat} {v1 : Int32} {v3 : Int32} {s0 : Int32} {n : Nat} {G : GH} {z : Int32 × Nat × GH}  (hrec2 : ∀ (w3 : Int32) (n : Nat) (G : GH) (z : Int32 × Nat × GH), rec2 w3 n G = some z → WG E RX11 "areTwoEnough" cX11_areTwoEnough 5 (some .boolean) 6 132 0 0 2 [(0, .ref v0), (1, .int v1), (3, .int w3)] [] n G (g_O E (some (.int z.1), z.2.1, z.2.2))) (h : k_X11_areTwoEnough_43 F  rec2 v0 v1 v3 s0 n G = some z) : WG E RX11 "areTwoEnough" cX11_areTwoEnough 5 (some .boolean) 6 132 0 0 43 [(0, .ref v0), (1, .int v1), (3, .int v3)] [.int s0] n G (g_O E (some (.int z.1), z.2.1, z.2.2)) := by
  unfold k_X11_areTwoEnough_43 at h
  refine r_istore d_X11_areTwoEnough_43 rfl rfl ?_
  refine r_aload d_X11_areTwoEnough_45 rfl ?_
  refine r_iload d_X11_areTwoEnough_46 rfl ?_
  refine r_invU [_] h (fun _ hq => s_X11_turns hq) d_X11_areTwoEnough_47 pl_X11_318 py_X11_turns pi_X11_turns rfl rfl rfl (fun n7 G8 h => ?_)
  refine r_iload d_X11_areTwoEnough_50 rfl ?_
  refine r_if_eq h d_X11_areTwoEnough_52 (fun h => ?_) (fun h => ?_)
  · refine r_iinc d_X11_areTwoEnough_64 rfl (ii_1 _) rfl rfl ?_
    refine r_goto d_X11_areTwoEnough_67 ?_
    refine r_lv [(0, .ref v0), (1, .int v1), (3, .int (v3 + 1))] (g_allc rfl (g_allc rfl (g_allc rfl g_alln))) ?_
    exact hrec2 _ _ _ _ h
  · refine r_lv [(0, .ref v0), (3, .int v3)] (g_allc rfl (g_allc rfl g_alln)) ?_
    exact c_X11_areTwoEnough_55   h
set_option maxRecDepth 100000 in
set_option maxHeartbeats 4000000 in
theorem l_X11_areTwoEnough_2 {E : GE} {F : Nat}   {v0 : Nat} {v1 : Int32}   : ∀ (K : Nat) (v3 : Int32) (n : Nat) (G : GH) (z : Int32 × Nat × GH), fixN ((fun _ _ _ => none) : Int32 → Nat → GH → Option (Int32 × Nat × GH)) (b_X11_areTwoEnough_2 F   v0 v1) K v3 n G = some z → WG E RX11 "areTwoEnough" cX11_areTwoEnough 5 (some .boolean) 6 132 0 0 2 [(0, .ref v0), (1, .int v1), (3, .int v3)] [] n G (g_O E (some (.int z.1), z.2.1, z.2.2)) := by
  intro K
  refine fixN_ind (P := fun (r : Int32 → Nat → GH → Option (Int32 × Nat × GH)) => ∀ (v3 : Int32) (n : Nat) (G : GH) (z : Int32 × Nat × GH), r v3 n G = some z → WG E RX11 "areTwoEnough" cX11_areTwoEnough 5 (some .boolean) 6 132 0 0 2 [(0, .ref v0), (1, .int v1), (3, .int v3)] [] n G (g_O E (some (.int z.1), z.2.1, z.2.2))) ?_ ?_ K
  · intro v3 n G z h
    cases h
  · intro rec2 hrec2 v3 n G z h
    unfold b_X11_areTwoEnough_2 at h
    refine r_iload d_X11_areTwoEnough_2 rfl ?_
    refine r_bipush d_X11_areTwoEnough_3 bp_48 ?_
    refine r_icmp_ge h d_X11_areTwoEnough_5 (fun h => ?_) (fun h => ?_)
    · refine r_iconst d_X11_areTwoEnough_70 ic_0 ?_
      exact r_zret h d_X11_areTwoEnough_71
    · refine r_aload d_X11_areTwoEnough_8 rfl ?_
      refine r_iload d_X11_areTwoEnough_9 rfl ?_
      refine r_invP [_] h (fun _ hq => s_X11_isEager hq) d_X11_areTwoEnough_10 pl_X11_315 py_X11_isEager pi_X11_isEager rfl rfl rfl (fun x1 h => ?_)
      refine r_if_ne h d_X11_areTwoEnough_13 (fun h => ?_) (fun h => ?_)
      · refine r_aload d_X11_areTwoEnough_19 rfl ?_
        refine r_iload d_X11_areTwoEnough_20 rfl ?_
        refine r_invU [_] h (fun _ hq => s_X11_turns hq) d_X11_areTwoEnough_21 pl_X11_318 py_X11_turns pi_X11_turns rfl rfl rfl (fun n2 G3 h => ?_)
        refine r_iload d_X11_areTwoEnough_24 rfl ?_
        refine r_iconst d_X11_areTwoEnough_25 ic_2 ?_
        refine r_icmp_ne h d_X11_areTwoEnough_26 (fun h => ?_) (fun h => ?_)
        · refine r_aload d_X11_areTwoEnough_36 rfl ?_
          refine r_iload d_X11_areTwoEnough_37 rfl ?_
          refine r_iconst d_X11_areTwoEnough_38 ic_1 ?_
          refine r_iadd d_X11_areTwoEnough_39 ?_
          refine r_invI [_] h (fun _ hq => s_X11_isLastEnough hq) d_X11_areTwoEnough_40 pl_X11_327 py_X11_isLastEnough pi_X11_isLastEnough rfl rfl rfl (fun x6 n4 G5 h => ?_)
          refine r_lv [(0, .ref v0), (1, .int v1), (3, .int v3)] (g_allc rfl (g_allc rfl (g_allc rfl g_alln))) ?_
          exact c_X11_areTwoEnough_43  hrec2 h
        · refine r_aload d_X11_areTwoEnough_29 rfl ?_
          refine r_invI [] h (fun _ hq => s_X11_isLoose hq) d_X11_areTwoEnough_30 pl_X11_321 py_X11_isLoose pi_X11_isLoose rfl rfl rfl (fun x13 n11 G12 h => ?_)
          refine r_goto d_X11_areTwoEnough_33 ?_
          refine r_lv [(0, .ref v0), (1, .int v1), (3, .int v3)] (g_allc rfl (g_allc rfl (g_allc rfl g_alln))) ?_
          exact c_X11_areTwoEnough_43  hrec2 h
      · refine r_goto d_X11_areTwoEnough_16 ?_
        refine r_iinc d_X11_areTwoEnough_64 rfl (ii_1 _) rfl rfl ?_
        refine r_goto d_X11_areTwoEnough_67 ?_
        refine r_lv [(0, .ref v0), (1, .int v1), (3, .int (v3 + 1))] (g_allc rfl (g_allc rfl (g_allc rfl g_alln))) ?_
        exact hrec2 _ _ _ _ h
set_option maxRecDepth 100000 in
set_option maxHeartbeats 4000000 in
theorem s_X11_areTwoEnough {E : GE} {F : Nat}  {v0 : Nat} {v1 : Int32} {v2 : Int32} {n : Nat} {G : GH} {z : Int32 × Nat × GH}  (h : f_X11_areTwoEnough F  v0 v1 v2 n G = some z) : GM E yX11_areTwoEnough cX11_areTwoEnough 5 (some .boolean) 6 132 0 0 [.ref v0, .int v1, .int v2] n G (some (.int z.1), z.2.1, z.2.2) := by
  refine GM.of (by decide) (Nat.le_of_ble_eq_true rfl) ?_
  show WG E RX11 "areTwoEnough" cX11_areTwoEnough 5 (some .boolean) 6 132 0 0 0 [(0, .ref v0), (1, .int v1), (2, .int v2)] [] n G (g_O E (some (.int z.1), z.2.1, z.2.2))
  unfold f_X11_areTwoEnough at h
  refine r_iload d_X11_areTwoEnough_0 rfl ?_
  refine r_istore d_X11_areTwoEnough_1 rfl rfl ?_
  refine r_lv [(0, .ref v0), (1, .int v1), (3, .int v2)] (g_allc rfl (g_allc rfl (g_allc rfl g_alln))) ?_
  exact l_X11_areTwoEnough_2   _ _ _ _ _ h
/-! X11_areEnough -/
theorem py_X11_areTwoEnough : pY yX11_areTwoEnough cX11_areTwoEnough 5 (some .boolean) 2 := ⟨g_in 1583 (by decide +kernel) rfl, g_in 104 (by decide +kernel) rfl, by decide, by decide, by decide +kernel⟩
theorem pi_X11_areTwoEnough : pI yX11_areTwoEnough 11 := ⟨g_in 1582 (by decide +kernel) rfl, g_in 89 (by decide +kernel) rfl, (RX11, TX11, 37), rfl, rfl⟩
theorem pl_X11_324 : pL RX11 324 yX11_areTwoEnough := Or.inl (g_in 1580 (by decide +kernel) rfl)
theorem d_X11_areEnough_0 : dec 1 cX11_areEnough 0 (.iconst 0) 1 := ⟨by decide +kernel, rfl⟩
theorem d_X11_areEnough_1 : decIS cX11_areEnough 1 2 2 := Or.inr ⟨2, rfl, by decide +kernel, rfl⟩
theorem d_X11_areEnough_2 : decIL cX11_areEnough 2 2 3 := Or.inr ⟨2, rfl, by decide +kernel, rfl⟩
theorem d_X11_areEnough_3 : dec 2 cX11_areEnough 3 (.bipush 48) 5 := ⟨by decide +kernel, rfl⟩
theorem d_X11_areEnough_5 : decB cX11_areEnough 5 (.if_icmp .ge 64) (64) 8 69 := ⟨by decide +kernel, rfl, by decide⟩
theorem d_X11_areEnough_8 : decAL cX11_areEnough 8 0 9 := Or.inr ⟨0, rfl, by decide +kernel, rfl⟩
theorem d_X11_areEnough_9 : decIL cX11_areEnough 9 2 10 := Or.inr ⟨2, rfl, by decide +kernel, rfl⟩
theorem d_X11_areEnough_10 : dec 3 cX11_areEnough 10 (.invokevirtual 315) 13 := ⟨by decide +kernel, rfl⟩
theorem d_X11_areEnough_13 : decB cX11_areEnough 13 (.ifCond .ne 6) (6) 16 19 := ⟨by decide +kernel, rfl, by decide⟩
theorem d_X11_areEnough_16 : decB cX11_areEnough 16 (.goto 47) (47) 19 63 := ⟨by decide +kernel, rfl, by decide⟩
theorem d_X11_areEnough_19 : decAL cX11_areEnough 19 0 20 := Or.inr ⟨0, rfl, by decide +kernel, rfl⟩
theorem d_X11_areEnough_20 : decIL cX11_areEnough 20 2 21 := Or.inr ⟨2, rfl, by decide +kernel, rfl⟩
theorem d_X11_areEnough_21 : dec 3 cX11_areEnough 21 (.invokevirtual 318) 24 := ⟨by decide +kernel, rfl⟩
theorem d_X11_areEnough_24 : decIL cX11_areEnough 24 1 25 := Or.inr ⟨1, rfl, by decide +kernel, rfl⟩
theorem d_X11_areEnough_25 : dec 1 cX11_areEnough 25 (.iconst 1) 26 := ⟨by decide +kernel, rfl⟩
theorem d_X11_areEnough_26 : decB cX11_areEnough 26 (.if_icmp .ne 10) (10) 29 36 := ⟨by decide +kernel, rfl, by decide⟩
theorem d_X11_areEnough_29 : decAL cX11_areEnough 29 0 30 := Or.inr ⟨0, rfl, by decide +kernel, rfl⟩
theorem d_X11_areEnough_30 : dec 3 cX11_areEnough 30 (.invokevirtual 321) 33 := ⟨by decide +kernel, rfl⟩
theorem d_X11_areEnough_33 : decB cX11_areEnough 33 (.goto 11) (11) 36 44 := ⟨by decide +kernel, rfl, by decide⟩
theorem d_X11_areEnough_36 : decAL cX11_areEnough 36 0 37 := Or.inr ⟨0, rfl, by decide +kernel, rfl⟩
theorem d_X11_areEnough_37 : decIL cX11_areEnough 37 1 38 := Or.inr ⟨1, rfl, by decide +kernel, rfl⟩
theorem d_X11_areEnough_38 : decIL cX11_areEnough 38 2 39 := Or.inr ⟨2, rfl, by decide +kernel, rfl⟩
theorem d_X11_areEnough_39 : dec 1 cX11_areEnough 39 (.iconst 1) 40 := ⟨by decide +kernel, rfl⟩
theorem d_X11_areEnough_40 : dec 1 cX11_areEnough 40 .iadd 41 := ⟨by decide +kernel, rfl⟩
theorem d_X11_areEnough_41 : dec 3 cX11_areEnough 41 (.invokevirtual 324) 44 := ⟨by decide +kernel, rfl⟩
theorem d_X11_areEnough_44 : decIS cX11_areEnough 44 3 45 := Or.inr ⟨3, rfl, by decide +kernel, rfl⟩
theorem d_X11_areEnough_45 : decAL cX11_areEnough 45 0 46 := Or.inr ⟨0, rfl, by decide +kernel, rfl⟩
theorem d_X11_areEnough_46 : decIL cX11_areEnough 46 2 47 := Or.inr ⟨2, rfl, by decide +kernel, rfl⟩
theorem d_X11_areEnough_47 : dec 3 cX11_areEnough 47 (.invokevirtual 318) 50 := ⟨by decide +kernel, rfl⟩
theorem d_X11_areEnough_50 : decIL cX11_areEnough 50 3 51 := Or.inr ⟨3, rfl, by decide +kernel, rfl⟩
theorem d_X11_areEnough_51 : decB cX11_areEnough 51 (.ifCond .eq 12) (12) 54 63 := ⟨by decide +kernel, rfl, by decide⟩
theorem d_X11_areEnough_54 : decAL cX11_areEnough 54 0 55 := Or.inr ⟨0, rfl, by decide +kernel, rfl⟩
theorem d_X11_areEnough_55 : dec 3 cX11_areEnough 55 (.getfield 69) 58 := ⟨by decide +kernel, rfl⟩
theorem d_X11_areEnough_58 : dec 1 cX11_areEnough 58 (.iconst 0) 59 := ⟨by decide +kernel, rfl⟩
theorem d_X11_areEnough_59 : decIL cX11_areEnough 59 2 60 := Or.inr ⟨2, rfl, by decide +kernel, rfl⟩
theorem d_X11_areEnough_60 : dec 1 cX11_areEnough 60 .iastore 61 := ⟨by decide +kernel, rfl⟩
theorem d_X11_areEnough_61 : dec 1 cX11_areEnough 61 (.iconst 1) 62 := ⟨by decide +kernel, rfl⟩
theorem d_X11_areEnough_62 : dec 1 cX11_areEnough 62 .ireturn 63 := ⟨by decide +kernel, rfl⟩
theorem d_X11_areEnough_63 : dec 3 cX11_areEnough 63 (.iinc 2 1) 66 := ⟨by decide +kernel, rfl⟩
theorem d_X11_areEnough_66 : decB cX11_areEnough 66 (.goto (-64)) (-64) 69 2 := ⟨by decide +kernel, rfl, by decide⟩
theorem d_X11_areEnough_69 : dec 1 cX11_areEnough 69 (.iconst 0) 70 := ⟨by decide +kernel, rfl⟩
theorem d_X11_areEnough_70 : dec 1 cX11_areEnough 70 .ireturn 71 := ⟨by decide +kernel, rfl⟩
def k_X11_areEnough_54 (F : Nat)   (v0 : Nat) (v2 : Int32)  (n : Nat) (G : GH) : Option (Int32 × Nat × GH) :=
  Option.bind (gR G v0 11 36) (fun (x9 : Nat) =>
  Option.bind (aS G x9 0 (0 : Int32) v2) (fun (G10 : GH) =>
  rN .boolean (1 : Int32) n G10))
def k_X11_areEnough_44 (F : Nat)  (rec2 : Int32 → Nat → GH → Option (Int32 × Nat × GH)) (v0 : Nat) (v1 : Int32) (v2 : Int32) (s0 : Int32) (n : Nat) (G : GH) : Option (Int32 × Nat × GH) :=
  cvU G v0 11 (f_X11_turns F v0 v2 n G) (fun (n7 : Nat) (G8 : GH) =>
  if s0 = 0 then
  (rec2 (v2 + 1) n7 G8)
  else (k_X11_areEnough_54 F   v0 v2 n7 G8))
def b_X11_areEnough_2 (F : Nat)   (v0 : Nat) (v1 : Int32) (rec2 : Int32 → Nat → GH → Option (Int32 × Nat × GH)) : Int32 → Nat → GH → Option (Int32 × Nat × GH) := fun v2 n G =>
  if (48 : Int32) ≤ v2 then
  (rN .boolean (0 : Int32) n G)
  else (cvP G v0 11 (f_X11_isEager F v0 v2 G) (fun (x1 : Int32) =>
  if x1 = 0 then
  (rec2 (v2 + 1) n G)
  else (cvU G v0 11 (f_X11_turns F v0 v2 n G) (fun (n2 : Nat) (G3 : GH) =>
  if v1 = (1 : Int32) then
  (cvI G3 v0 11 (f_X11_isLoose F v0 n2 G3) (fun (x13 : Int32) (n11 : Nat) (G12 : GH) =>
  k_X11_areEnough_44 F  rec2 v0 v1 v2 x13 n11 G12))
  else (cvI G3 v0 11 (f_X11_areTwoEnough F v0 v1 (v2 + (1 : Int32)) n2 G3) (fun (x6 : Int32) (n4 : Nat) (G5 : GH) =>
  k_X11_areEnough_44 F  rec2 v0 v1 v2 x6 n4 G5))))))
def f_X11_areEnough (F : Nat)  (v0 : Nat) (v1 : Int32) (n : Nat) (G : GH) : Option (Int32 × Nat × GH) :=
  fixN (fun _ _ _ => none) (b_X11_areEnough_2 F   v0 v1) F (0 : Int32) n G
set_option maxRecDepth 100000 in
set_option maxHeartbeats 4000000 in
theorem c_X11_areEnough_54 {E : GE} {F : Nat}   {v0 : Nat} {v2 : Int32}  {n : Nat} {G : GH} {z : Int32 × Nat × GH}   (h : k_X11_areEnough_54 F   v0 v2  n G = some z) : WG E RX11 "areEnough" cX11_areEnough 4 (some .boolean) 7 156 0 0 54 [(0, .ref v0), (2, .int v2)] [] n G (g_O E (some (.int z.1), z.2.1, z.2.2)) := by
  unfold k_X11_areEnough_54 at h
  refine r_aload d_X11_areEnough_54 rfl ?_
  refine r_getR h d_X11_areEnough_55 pf_X11_69 (fun x9 h => ?_)
  refine r_iconst d_X11_areEnough_58 ic_0 ?_
  refine r_iload d_X11_areEnough_59 rfl ?_
  refine r_iast h d_X11_areEnough_60 (fun G10 h => ?_)
  refine r_iconst d_X11_areEnough_61 ic_1 ?_
  exact r_zret h d_X11_areEnough_62
set_option maxRecDepth 100000 in
set_option maxHeartbeats 4000000 in
theorem c_X11_areEnough_44 {E : GE} {F : Nat}  {rec2 : Int32 → Nat → GH → Option (Int32 × Nat × GH)} {v0 : Nat} {v1 : Int32} {v2 : Int32} {s0 : Int32} {n : Nat} {G : GH} {z : Int32 × Nat × GH}  (hrec2 : ∀ (w2 : Int32) (n : Nat) (G : GH) (z : Int32 × Nat × GH), rec2 w2 n G = some z → WG E RX11 "areEnough" cX11_areEnough 4 (some .boolean) 7 156 0 0 2 [(0, .ref v0), (1, .int v1), (2, .int w2)] [] n G (g_O E (some (.int z.1), z.2.1, z.2.2))) (h : k_X11_areEnough_44 F  rec2 v0 v1 v2 s0 n G = some z) : WG E RX11 "areEnough" cX11_areEnough 4 (some .boolean) 7 156 0 0 44 [(0, .ref v0), (1, .int v1), (2, .int v2)] [.int s0] n G (g_O E (some (.int z.1), z.2.1, z.2.2)) := by
  unfold k_X11_areEnough_44 at h
  refine r_istore d_X11_areEnough_44 rfl rfl ?_
  refine r_aload d_X11_areEnough_45 rfl ?_
  refine r_iload d_X11_areEnough_46 rfl ?_
  refine r_invU [_] h (fun _ hq => s_X11_turns hq) d_X11_areEnough_47 pl_X11_318 py_X11_turns pi_X11_turns rfl rfl rfl (fun n7 G8 h => ?_)
  refine r_iload d_X11_areEnough_50 rfl ?_
  refine r_if_eq h d_X11_areEnough_51 (fun h => ?_) (fun h => ?_)
  · refine r_iinc d_X11_areEnough_63 rfl (ii_1 _) rfl rfl ?_
    refine r_goto d_X11_areEnough_66 ?_
    refine r_lv [(0, .ref v0), (1, .int v1), (2, .int (v2 + 1))] (g_allc rfl (g_allc rfl (g_allc rfl g_alln))) ?_
    exact hrec2 _ _ _ _ h
  · refine r_lv [(0, .ref v0), (2, .int v2)] (g_allc rfl (g_allc rfl g_alln)) ?_
    exact c_X11_areEnough_54   h
set_option maxRecDepth 100000 in
set_option maxHeartbeats 4000000 in
theorem l_X11_areEnough_2 {E : GE} {F : Nat}   {v0 : Nat} {v1 : Int32}   : ∀ (K : Nat) (v2 : Int32) (n : Nat) (G : GH) (z : Int32 × Nat × GH), fixN ((fun _ _ _ => none) : Int32 → Nat → GH → Option (Int32 × Nat × GH)) (b_X11_areEnough_2 F   v0 v1) K v2 n G = some z → WG E RX11 "areEnough" cX11_areEnough 4 (some .boolean) 7 156 0 0 2 [(0, .ref v0), (1, .int v1), (2, .int v2)] [] n G (g_O E (some (.int z.1), z.2.1, z.2.2)) := by
  intro K
  refine fixN_ind (P := fun (r : Int32 → Nat → GH → Option (Int32 × Nat × GH)) => ∀ (v2 : Int32) (n : Nat) (G : GH) (z : Int32 × Nat × GH), r v2 n G = some z → WG E RX11 "areEnough" cX11_areEnough 4 (some .boolean) 7 156 0 0 2 [(0, .ref v0), (1, .int v1), (2, .int v2)] [] n G (g_O E (some (.int z.1), z.2.1, z.2.2))) ?_ ?_ K
  · intro v2 n G z h
    cases h
  · intro rec2 hrec2 v2 n G z h
    unfold b_X11_areEnough_2 at h
    refine r_iload d_X11_areEnough_2 rfl ?_
    refine r_bipush d_X11_areEnough_3 bp_48 ?_
    refine r_icmp_ge h d_X11_areEnough_5 (fun h => ?_) (fun h => ?_)
    · refine r_iconst d_X11_areEnough_69 ic_0 ?_
      exact r_zret h d_X11_areEnough_70
    · refine r_aload d_X11_areEnough_8 rfl ?_
      refine r_iload d_X11_areEnough_9 rfl ?_
      refine r_invP [_] h (fun _ hq => s_X11_isEager hq) d_X11_areEnough_10 pl_X11_315 py_X11_isEager pi_X11_isEager rfl rfl rfl (fun x1 h => ?_)
      refine r_if_ne h d_X11_areEnough_13 (fun h => ?_) (fun h => ?_)
      · refine r_aload d_X11_areEnough_19 rfl ?_
        refine r_iload d_X11_areEnough_20 rfl ?_
        refine r_invU [_] h (fun _ hq => s_X11_turns hq) d_X11_areEnough_21 pl_X11_318 py_X11_turns pi_X11_turns rfl rfl rfl (fun n2 G3 h => ?_)
        refine r_iload d_X11_areEnough_24 rfl ?_
        refine r_iconst d_X11_areEnough_25 ic_1 ?_
        refine r_icmp_ne h d_X11_areEnough_26 (fun h => ?_) (fun h => ?_)
        · refine r_aload d_X11_areEnough_36 rfl ?_
          refine r_iload d_X11_areEnough_37 rfl ?_
          refine r_iload d_X11_areEnough_38 rfl ?_
          refine r_iconst d_X11_areEnough_39 ic_1 ?_
          refine r_iadd d_X11_areEnough_40 ?_
          refine r_invI [_, _] h (fun _ hq => s_X11_areTwoEnough hq) d_X11_areEnough_41 pl_X11_324 py_X11_areTwoEnough pi_X11_areTwoEnough rfl rfl rfl (fun x6 n4 G5 h => ?_)
          refine r_lv [(0, .ref v0), (1, .int v1), (2, .int v2)] (g_allc rfl (g_allc rfl (g_allc rfl g_alln))) ?_
          exact c_X11_areEnough_44  hrec2 h
        · refine r_aload d_X11_areEnough_29 rfl ?_
          refine r_invI [] h (fun _ hq => s_X11_isLoose hq) d_X11_areEnough_30 pl_X11_321 py_X11_isLoose pi_X11_isLoose rfl rfl rfl (fun x13 n11 G12 h => ?_)
          refine r_goto d_X11_areEnough_33 ?_
          refine r_lv [(0, .ref v0), (1, .int v1), (2, .int v2)] (g_allc rfl (g_allc rfl (g_allc rfl g_alln))) ?_
          exact c_X11_areEnough_44  hrec2 h
      · refine r_goto d_X11_areEnough_16 ?_
        refine r_iinc d_X11_areEnough_63 rfl (ii_1 _) rfl rfl ?_
        refine r_goto d_X11_areEnough_66 ?_
        refine r_lv [(0, .ref v0), (1, .int v1), (2, .int (v2 + 1))] (g_allc rfl (g_allc rfl (g_allc rfl g_alln))) ?_
        exact hrec2 _ _ _ _ h
set_option maxRecDepth 100000 in
set_option maxHeartbeats 4000000 in
theorem s_X11_areEnough {E : GE} {F : Nat}  {v0 : Nat} {v1 : Int32} {n : Nat} {G : GH} {z : Int32 × Nat × GH}  (h : f_X11_areEnough F  v0 v1 n G = some z) : GM E yX11_areEnough cX11_areEnough 4 (some .boolean) 7 156 0 0 [.ref v0, .int v1] n G (some (.int z.1), z.2.1, z.2.2) := by
  refine GM.of (by decide) (Nat.le_of_ble_eq_true rfl) ?_
  show WG E RX11 "areEnough" cX11_areEnough 4 (some .boolean) 7 156 0 0 0 [(0, .ref v0), (1, .int v1)] [] n G (g_O E (some (.int z.1), z.2.1, z.2.2))
  unfold f_X11_areEnough at h
  refine r_iconst d_X11_areEnough_0 ic_0 ?_
  refine r_istore d_X11_areEnough_1 rfl rfl ?_
  refine r_lv [(0, .ref v0), (1, .int v1), (2, .int (0 : Int32))] (g_allc rfl (g_allc rfl (g_allc rfl g_alln))) ?_
  exact l_X11_areEnough_2   _ _ _ _ _ h
/-! X11_looser -/
theorem py_X11_areEnough : pY yX11_areEnough cX11_areEnough 4 (some .boolean) 1 := ⟨g_in 1571 (by decide +kernel) rfl, g_in 104 (by decide +kernel) rfl, by decide, by decide, by decide +kernel⟩
theorem pi_X11_areEnough : pI yX11_areEnough 11 := ⟨g_in 1570 (by decide +kernel) rfl, g_in 86 (by decide +kernel) rfl, (RX11, TX11, 37), rfl, rfl⟩
theorem pl_X11_330 : pL RX11 330 yX11_areEnough := Or.inl (g_in 1568 (by decide +kernel) rfl)
theorem d_X11_looser_0 : decAL cX11_looser 0 0 1 := Or.inr ⟨0, rfl, by decide +kernel, rfl⟩
theorem d_X11_looser_1 : dec 1 cX11_looser 1 (.iconst 0) 2 := ⟨by decide +kernel, rfl⟩
theorem d_X11_looser_2 : dec 3 cX11_looser 2 (.putfield 72) 5 := ⟨by decide +kernel, rfl⟩
theorem d_X11_looser_5 : decAL cX11_looser 5 0 6 := Or.inr ⟨0, rfl, by decide +kernel, rfl⟩
theorem d_X11_looser_6 : dec 3 cX11_looser 6 (.invokevirtual 321) 9 := ⟨by decide +kernel, rfl⟩
theorem d_X11_looser_9 : decB cX11_looser 9 (.ifCond .eq 7) (7) 12 16 := ⟨by decide +kernel, rfl, by decide⟩
theorem d_X11_looser_12 : dec 1 cX11_looser 12 (.iconst 0) 13 := ⟨by decide +kernel, rfl⟩
theorem d_X11_looser_13 : decB cX11_looser 13 (.goto 4) (4) 16 17 := ⟨by decide +kernel, rfl, by decide⟩
theorem d_X11_looser_16 : dec 1 cX11_looser 16 (.iconst 1) 17 := ⟨by decide +kernel, rfl⟩
theorem d_X11_looser_17 : decIS cX11_looser 17 2 18 := Or.inr ⟨2, rfl, by decide +kernel, rfl⟩
theorem d_X11_looser_18 : decIL cX11_looser 18 2 19 := Or.inr ⟨2, rfl, by decide +kernel, rfl⟩
theorem d_X11_looser_19 : decB cX11_looser 19 (.ifCond .le 22) (22) 22 41 := ⟨by decide +kernel, rfl, by decide⟩
theorem d_X11_looser_22 : decIL cX11_looser 22 2 23 := Or.inr ⟨2, rfl, by decide +kernel, rfl⟩
theorem d_X11_looser_23 : dec 1 cX11_looser 23 (.iconst 4) 24 := ⟨by decide +kernel, rfl⟩
theorem d_X11_looser_24 : decB cX11_looser 24 (.if_icmp .ge 17) (17) 27 41 := ⟨by decide +kernel, rfl, by decide⟩
theorem d_X11_looser_27 : decAL cX11_looser 27 0 28 := Or.inr ⟨0, rfl, by decide +kernel, rfl⟩
theorem d_X11_looser_28 : decIL cX11_looser 28 2 29 := Or.inr ⟨2, rfl, by decide +kernel, rfl⟩
theorem d_X11_looser_29 : dec 3 cX11_looser 29 (.invokevirtual 330) 32 := ⟨by decide +kernel, rfl⟩
theorem d_X11_looser_32 : decB cX11_looser 32 (.ifCond .ne 9) (9) 35 41 := ⟨by decide +kernel, rfl, by decide⟩
theorem d_X11_looser_35 : dec 3 cX11_looser 35 (.iinc 2 1) 38 := ⟨by decide +kernel, rfl⟩
theorem d_X11_looser_38 : decB cX11_looser 38 (.goto (-20)) (-20) 41 18 := ⟨by decide +kernel, rfl, by decide⟩
theorem d_X11_looser_41 : decIL cX11_looser 41 2 42 := Or.inr ⟨2, rfl, by decide +kernel, rfl⟩
theorem d_X11_looser_42 : dec 1 cX11_looser 42 (.iconst 4) 43 := ⟨by decide +kernel, rfl⟩
theorem d_X11_looser_43 : decB cX11_looser 43 (.if_icmp .ne 6) (6) 46 49 := ⟨by decide +kernel, rfl, by decide⟩
theorem d_X11_looser_46 : dec 2 cX11_looser 46 (.bipush (-2)) 48 := ⟨by decide +kernel, rfl⟩
theorem d_X11_looser_48 : dec 1 cX11_looser 48 .ireturn 49 := ⟨by decide +kernel, rfl⟩
theorem d_X11_looser_49 : decIL cX11_looser 49 1 50 := Or.inr ⟨1, rfl, by decide +kernel, rfl⟩
theorem d_X11_looser_50 : dec 1 cX11_looser 50 (.iconst (-1)) 51 := ⟨by decide +kernel, rfl⟩
theorem d_X11_looser_51 : decB cX11_looser 51 (.if_icmp .ne 7) (7) 54 58 := ⟨by decide +kernel, rfl, by decide⟩
theorem d_X11_looser_54 : decIL cX11_looser 54 2 55 := Or.inr ⟨2, rfl, by decide +kernel, rfl⟩
theorem d_X11_looser_55 : decB cX11_looser 55 (.goto 24) (24) 58 79 := ⟨by decide +kernel, rfl, by decide⟩
theorem d_X11_looser_58 : decIL cX11_looser 58 1 59 := Or.inr ⟨1, rfl, by decide +kernel, rfl⟩
theorem d_X11_looser_59 : dec 1 cX11_looser 59 (.iconst 0) 60 := ⟨by decide +kernel, rfl⟩
theorem d_X11_looser_60 : decIL cX11_looser 60 2 61 := Or.inr ⟨2, rfl, by decide +kernel, rfl⟩
theorem d_X11_looser_61 : dec 1 cX11_looser 61 (.iconst 1) 62 := ⟨by decide +kernel, rfl⟩
theorem d_X11_looser_62 : dec 1 cX11_looser 62 .isub 63 := ⟨by decide +kernel, rfl⟩
theorem d_X11_looser_63 : dec 3 cX11_looser 63 (.invokestatic 80) 66 := ⟨by decide +kernel, rfl⟩
theorem d_X11_looser_66 : decB cX11_looser 66 (.ifCond .eq 12) (12) 69 78 := ⟨by decide +kernel, rfl, by decide⟩
theorem d_X11_looser_69 : decAL cX11_looser 69 0 70 := Or.inr ⟨0, rfl, by decide +kernel, rfl⟩
theorem d_X11_looser_70 : dec 3 cX11_looser 70 (.getfield 69) 73 := ⟨by decide +kernel, rfl⟩
theorem d_X11_looser_73 : decIL cX11_looser 73 1 74 := Or.inr ⟨1, rfl, by decide +kernel, rfl⟩
theorem d_X11_looser_74 : dec 1 cX11_looser 74 .iaload 75 := ⟨by decide +kernel, rfl⟩
theorem d_X11_looser_75 : decB cX11_looser 75 (.goto 4) (4) 78 79 := ⟨by decide +kernel, rfl, by decide⟩
theorem d_X11_looser_78 : dec 1 cX11_looser 78 (.iconst (-1)) 79 := ⟨by decide +kernel, rfl⟩
theorem d_X11_looser_79 : dec 1 cX11_looser 79 .ireturn 80 := ⟨by decide +kernel, rfl⟩
def k_X11_looser_41 (F : Nat)   (v0 : Nat) (v1 : Int32) (v2 : Int32)  (n : Nat) (G : GH) : Option (Int32 × Nat × GH) :=
  if v2 = (4 : Int32) then
  (some ((-2 : Int32), n, G))
  else (if v1 = (-1 : Int32) then
  (some (v2, n, G))
  else (Option.bind (f_X11_in F v1 (0 : Int32) (v2 - (1 : Int32)) G) (fun (x5 : Int32) =>
  if x5 = 0 then
  (some ((-1 : Int32), n, G))
  else (Option.bind (gR G v0 11 36) (fun (x6 : Nat) =>
  Option.bind (aI G x6 0 v1) (fun (x7 : Int32) =>
  some (x7, n, G)))))))
def b_X11_looser_18 (F : Nat)   (v0 : Nat) (v1 : Int32) (rec18 : Int32 → Nat → GH → Option (Int32 × Nat × GH)) : Int32 → Nat → GH → Option (Int32 × Nat × GH) := fun v2 n G =>
  if v2 ≤ 0 then
  (k_X11_looser_41 F   v0 v1 v2 n G)
  else (if (4 : Int32) ≤ v2 then
  (k_X11_looser_41 F   v0 v1 v2 n G)
  else (cvI G v0 11 (f_X11_areEnough F v0 v2 n G) (fun (x10 : Int32) (n8 : Nat) (G9 : GH) =>
  if x10 = 0 then
  (rec18 (v2 + 1) n8 G9)
  else (k_X11_looser_41 F   v0 v1 v2 n8 G9))))
def k_X11_looser_17 (F : Nat)   (v0 : Nat) (v1 : Int32) (s0 : Int32) (n : Nat) (G : GH) : Option (Int32 × Nat × GH) :=
  fixN (fun _ _ _ => none) (b_X11_looser_18 F   v0 v1) F s0 n G
def f_X11_looser (F : Nat)  (v0 : Nat) (v1 : Int32) (n : Nat) (G : GH) : Option (Int32 × Nat × GH) :=
  Option.bind (pV G v0 11 0 (.int (0 : Int32))) (fun (G1 : GH) =>
  cvI G1 v0 11 (f_X11_isLoose F v0 n G1) (fun (x4 : Int32) (n2 : Nat) (G3 : GH) =>
  if x4 = 0 then
  (k_X11_looser_17 F   v0 v1 (1 : Int32) n2 G3)
  else (k_X11_looser_17 F   v0 v1 (0 : Int32) n2 G3)))
set_option maxRecDepth 100000 in
set_option maxHeartbeats 4000000 in
theorem c_X11_looser_41 {E : GE} {F : Nat}   {v0 : Nat} {v1 : Int32} {v2 : Int32}  {n : Nat} {G : GH} {z : Int32 × Nat × GH}   (h : k_X11_looser_41 F   v0 v1 v2  n G = some z) : WG E RX11 "looser" cX11_looser 3 (some .int) 8 179 0 0 41 [(0, .ref v0), (1, .int v1), (2, .int v2)] [] n G (g_O E (some (.int z.1), z.2.1, z.2.2)) := by
  unfold k_X11_looser_41 at h
  refine r_iload d_X11_looser_41 rfl ?_
  refine r_iconst d_X11_looser_42 ic_4 ?_
  refine r_icmp_ne h d_X11_looser_43 (fun h => ?_) (fun h => ?_)
  · refine r_iload d_X11_looser_49 rfl ?_
    refine r_iconst d_X11_looser_50 ic_m1 ?_
    refine r_icmp_ne h d_X11_looser_51 (fun h => ?_) (fun h => ?_)
    · refine r_iload d_X11_looser_58 rfl ?_
      refine r_iconst d_X11_looser_59 ic_0 ?_
      refine r_iload d_X11_looser_60 rfl ?_
      refine r_iconst d_X11_looser_61 ic_1 ?_
      refine r_isub d_X11_looser_62 ?_
      refine r_invSP [_, _, _] h (fun _ hq => s_X11_in hq) d_X11_looser_63 pl_X11_80 py_X11_in ps_X11_in rfl rfl rfl (fun x5 h => ?_)
      refine r_if_eq h d_X11_looser_66 (fun h => ?_) (fun h => ?_)
      · refine r_iconst d_X11_looser_78 ic_m1 ?_
        exact r_iret h d_X11_looser_79
      · refine r_aload d_X11_looser_69 rfl ?_
        refine r_getR h d_X11_looser_70 pf_X11_69 (fun x6 h => ?_)
        refine r_iload d_X11_looser_73 rfl ?_
        refine r_iald h d_X11_looser_74 (fun x7 h => ?_)
        refine r_goto d_X11_looser_75 ?_
        exact r_iret h d_X11_looser_79
    · refine r_iload d_X11_looser_54 rfl ?_
      refine r_goto d_X11_looser_55 ?_
      exact r_iret h d_X11_looser_79
  · refine r_bipush d_X11_looser_46 bp_m2 ?_
    exact r_iret h d_X11_looser_48
set_option maxRecDepth 100000 in
set_option maxHeartbeats 4000000 in
theorem l_X11_looser_18 {E : GE} {F : Nat}   {v0 : Nat} {v1 : Int32}   : ∀ (K : Nat) (v2 : Int32) (n : Nat) (G : GH) (z : Int32 × Nat × GH), fixN ((fun _ _ _ => none) : Int32 → Nat → GH → Option (Int32 × Nat × GH)) (b_X11_looser_18 F   v0 v1) K v2 n G = some z → WG E RX11 "looser" cX11_looser 3 (some .int) 8 179 0 0 18 [(0, .ref v0), (1, .int v1), (2, .int v2)] [] n G (g_O E (some (.int z.1), z.2.1, z.2.2)) := by
  intro K
  refine fixN_ind (P := fun (r : Int32 → Nat → GH → Option (Int32 × Nat × GH)) => ∀ (v2 : Int32) (n : Nat) (G : GH) (z : Int32 × Nat × GH), r v2 n G = some z → WG E RX11 "looser" cX11_looser 3 (some .int) 8 179 0 0 18 [(0, .ref v0), (1, .int v1), (2, .int v2)] [] n G (g_O E (some (.int z.1), z.2.1, z.2.2))) ?_ ?_ K
  · intro v2 n G z h
    cases h
  · intro rec18 hrec18 v2 n G z h
    unfold b_X11_looser_18 at h
    refine r_iload d_X11_looser_18 rfl ?_
    refine r_if_le h d_X11_looser_19 (fun h => ?_) (fun h => ?_)
    · refine r_lv [(0, .ref v0), (1, .int v1), (2, .int v2)] (g_allc rfl (g_allc rfl (g_allc rfl g_alln))) ?_
      exact c_X11_looser_41   h
    · refine r_iload d_X11_looser_22 rfl ?_
      refine r_iconst d_X11_looser_23 ic_4 ?_
      refine r_icmp_ge h d_X11_looser_24 (fun h => ?_) (fun h => ?_)
      · refine r_lv [(0, .ref v0), (1, .int v1), (2, .int v2)] (g_allc rfl (g_allc rfl (g_allc rfl g_alln))) ?_
        exact c_X11_looser_41   h
      · refine r_aload d_X11_looser_27 rfl ?_
        refine r_iload d_X11_looser_28 rfl ?_
        refine r_invI [_] h (fun _ hq => s_X11_areEnough hq) d_X11_looser_29 pl_X11_330 py_X11_areEnough pi_X11_areEnough rfl rfl rfl (fun x10 n8 G9 h => ?_)
        refine r_if_ne h d_X11_looser_32 (fun h => ?_) (fun h => ?_)
        · refine r_lv [(0, .ref v0), (1, .int v1), (2, .int v2)] (g_allc rfl (g_allc rfl (g_allc rfl g_alln))) ?_
          exact c_X11_looser_41   h
        · refine r_iinc d_X11_looser_35 rfl (ii_1 _) rfl rfl ?_
          refine r_goto d_X11_looser_38 ?_
          refine r_lv [(0, .ref v0), (1, .int v1), (2, .int (v2 + 1))] (g_allc rfl (g_allc rfl (g_allc rfl g_alln))) ?_
          exact hrec18 _ _ _ _ h
set_option maxRecDepth 100000 in
set_option maxHeartbeats 4000000 in
theorem c_X11_looser_17 {E : GE} {F : Nat}   {v0 : Nat} {v1 : Int32} {s0 : Int32} {n : Nat} {G : GH} {z : Int32 × Nat × GH}   (h : k_X11_looser_17 F   v0 v1 s0 n G = some z) : WG E RX11 "looser" cX11_looser 3 (some .int) 8 179 0 0 17 [(0, .ref v0), (1, .int v1)] [.int s0] n G (g_O E (some (.int z.1), z.2.1, z.2.2)) := by
  unfold k_X11_looser_17 at h
  refine r_istore d_X11_looser_17 rfl rfl ?_
  refine r_lv [(0, .ref v0), (1, .int v1), (2, .int s0)] (g_allc rfl (g_allc rfl (g_allc rfl g_alln))) ?_
  exact l_X11_looser_18   _ _ _ _ _ h
set_option maxRecDepth 100000 in
set_option maxHeartbeats 4000000 in
theorem s_X11_looser {E : GE} {F : Nat}  {v0 : Nat} {v1 : Int32} {n : Nat} {G : GH} {z : Int32 × Nat × GH}  (h : f_X11_looser F  v0 v1 n G = some z) : GM E yX11_looser cX11_looser 3 (some .int) 8 179 0 0 [.ref v0, .int v1] n G (some (.int z.1), z.2.1, z.2.2) := by
  refine GM.of (by decide) (Nat.le_of_ble_eq_true rfl) ?_
  show WG E RX11 "looser" cX11_looser 3 (some .int) 8 179 0 0 0 [(0, .ref v0), (1, .int v1)] [] n G (g_O E (some (.int z.1), z.2.1, z.2.2))
  unfold f_X11_looser at h
  refine r_aload d_X11_looser_0 rfl ?_
  refine r_iconst d_X11_looser_1 ic_0 ?_
  refine r_put h d_X11_looser_2 pw_X11_72 rfl rfl (fun G1 h => ?_)
  refine r_aload d_X11_looser_5 rfl ?_
  refine r_invI [] h (fun _ hq => s_X11_isLoose hq) d_X11_looser_6 pl_X11_321 py_X11_isLoose pi_X11_isLoose rfl rfl rfl (fun x4 n2 G3 h => ?_)
  refine r_if_eq h d_X11_looser_9 (fun h => ?_) (fun h => ?_)
  · refine r_iconst d_X11_looser_16 ic_1 ?_
    refine r_lv [(0, .ref v0), (1, .int v1)] (g_allc rfl (g_allc rfl g_alln)) ?_
    exact c_X11_looser_17   h
  · refine r_iconst d_X11_looser_12 ic_0 ?_
    refine r_goto d_X11_looser_13 ?_
    refine r_lv [(0, .ref v0), (1, .int v1)] (g_allc rfl (g_allc rfl g_alln)) ?_
    exact c_X11_looser_17   h
/-! X11_copies -/
theorem d_X11_copies_0 : dec 1 cX11_copies 0 (.iconst 0) 1 := ⟨by decide +kernel, rfl⟩
theorem d_X11_copies_1 : decIS cX11_copies 1 3 2 := Or.inr ⟨3, rfl, by decide +kernel, rfl⟩
theorem d_X11_copies_2 : decIL cX11_copies 2 3 3 := Or.inr ⟨3, rfl, by decide +kernel, rfl⟩
theorem d_X11_copies_3 : dec 3 cX11_copies 3 (.sipush 894) 6 := ⟨by decide +kernel, rfl⟩
theorem d_X11_copies_6 : decB cX11_copies 6 (.if_icmp .ge 33) (33) 9 39 := ⟨by decide +kernel, rfl, by decide⟩
theorem d_X11_copies_9 : decAL cX11_copies 9 0 10 := Or.inr ⟨0, rfl, by decide +kernel, rfl⟩
theorem d_X11_copies_10 : dec 3 cX11_copies 10 (.getfield 7) 13 := ⟨by decide +kernel, rfl⟩
theorem d_X11_copies_13 : dec 3 cX11_copies 13 (.sipush 894) 16 := ⟨by decide +kernel, rfl⟩
theorem d_X11_copies_16 : decIL cX11_copies 16 2 17 := Or.inr ⟨2, rfl, by decide +kernel, rfl⟩
theorem d_X11_copies_17 : dec 1 cX11_copies 17 .imul 18 := ⟨by decide +kernel, rfl⟩
theorem d_X11_copies_18 : decIL cX11_copies 18 3 19 := Or.inr ⟨3, rfl, by decide +kernel, rfl⟩
theorem d_X11_copies_19 : dec 1 cX11_copies 19 .iadd 20 := ⟨by decide +kernel, rfl⟩
theorem d_X11_copies_20 : decAL cX11_copies 20 0 21 := Or.inr ⟨0, rfl, by decide +kernel, rfl⟩
theorem d_X11_copies_21 : dec 3 cX11_copies 21 (.getfield 7) 24 := ⟨by decide +kernel, rfl⟩
theorem d_X11_copies_24 : dec 3 cX11_copies 24 (.sipush 894) 27 := ⟨by decide +kernel, rfl⟩
theorem d_X11_copies_27 : decIL cX11_copies 27 1 28 := Or.inr ⟨1, rfl, by decide +kernel, rfl⟩
theorem d_X11_copies_28 : dec 1 cX11_copies 28 .imul 29 := ⟨by decide +kernel, rfl⟩
theorem d_X11_copies_29 : decIL cX11_copies 29 3 30 := Or.inr ⟨3, rfl, by decide +kernel, rfl⟩
theorem d_X11_copies_30 : dec 1 cX11_copies 30 .iadd 31 := ⟨by decide +kernel, rfl⟩
theorem d_X11_copies_31 : dec 1 cX11_copies 31 .iaload 32 := ⟨by decide +kernel, rfl⟩
theorem d_X11_copies_32 : dec 1 cX11_copies 32 .iastore 33 := ⟨by decide +kernel, rfl⟩
theorem d_X11_copies_33 : dec 3 cX11_copies 33 (.iinc 3 1) 36 := ⟨by decide +kernel, rfl⟩
theorem d_X11_copies_36 : decB cX11_copies 36 (.goto (-34)) (-34) 39 2 := ⟨by decide +kernel, rfl, by decide⟩
theorem d_X11_copies_39 : dec 1 cX11_copies 39 .return_ 40 := ⟨by decide +kernel, rfl⟩
def b_X11_copies_2 (F : Nat)   (v0 : Nat) (v1 : Int32) (v2 : Int32) (rec2 : Int32 → Nat → GH → Option (Nat × GH)) : Int32 → Nat → GH → Option (Nat × GH) := fun v3 n G =>
  if (894 : Int32) ≤ v3 then
  (some (n, G))
  else (Option.bind (gR G v0 11 1) (fun (x1 : Nat) =>
  Option.bind (gR G v0 11 1) (fun (x2 : Nat) =>
  Option.bind (aI G x2 0 (((894 : Int32) * v1) + v3)) (fun (x3 : Int32) =>
  Option.bind (aS G x1 0 (((894 : Int32) * v2) + v3) x3) (fun (G4 : GH) =>
  rec2 (v3 + 1) n G4)))))
def f_X11_copies (F : Nat)  (v0 : Nat) (v1 : Int32) (v2 : Int32) (n : Nat) (G : GH) : Option (Nat × GH) :=
  fixN (fun _ _ _ => none) (b_X11_copies_2 F   v0 v1 v2) F (0 : Int32) n G
set_option maxRecDepth 100000 in
set_option maxHeartbeats 4000000 in
theorem l_X11_copies_2 {E : GE} {F : Nat}   {v0 : Nat} {v1 : Int32} {v2 : Int32}   : ∀ (K : Nat) (v3 : Int32) (n : Nat) (G : GH) (z : Nat × GH), fixN ((fun _ _ _ => none) : Int32 → Nat → GH → Option (Nat × GH)) (b_X11_copies_2 F   v0 v1 v2) K v3 n G = some z → WG E RX11 "copies" cX11_copies 4 none 0 0 0 0 2 [(0, .ref v0), (1, .int v1), (2, .int v2), (3, .int v3)] [] n G (g_O E (none, z.1, z.2)) := by
  intro K
  refine fixN_ind (P := fun (r : Int32 → Nat → GH → Option (Nat × GH)) => ∀ (v3 : Int32) (n : Nat) (G : GH) (z : Nat × GH), r v3 n G = some z → WG E RX11 "copies" cX11_copies 4 none 0 0 0 0 2 [(0, .ref v0), (1, .int v1), (2, .int v2), (3, .int v3)] [] n G (g_O E (none, z.1, z.2))) ?_ ?_ K
  · intro v3 n G z h
    cases h
  · intro rec2 hrec2 v3 n G z h
    unfold b_X11_copies_2 at h
    refine r_iload d_X11_copies_2 rfl ?_
    refine r_sipush d_X11_copies_3 sp_894 ?_
    refine r_icmp_ge h d_X11_copies_6 (fun h => ?_) (fun h => ?_)
    · exact r_vret h d_X11_copies_39
    · refine r_aload d_X11_copies_9 rfl ?_
      refine r_getR h d_X11_copies_10 pf_X11_7 (fun x1 h => ?_)
      refine r_sipush d_X11_copies_13 sp_894 ?_
      refine r_iload d_X11_copies_16 rfl ?_
      refine r_imul d_X11_copies_17 ?_
      refine r_iload d_X11_copies_18 rfl ?_
      refine r_iadd d_X11_copies_19 ?_
      refine r_aload d_X11_copies_20 rfl ?_
      refine r_getR h d_X11_copies_21 pf_X11_7 (fun x2 h => ?_)
      refine r_sipush d_X11_copies_24 sp_894 ?_
      refine r_iload d_X11_copies_27 rfl ?_
      refine r_imul d_X11_copies_28 ?_
      refine r_iload d_X11_copies_29 rfl ?_
      refine r_iadd d_X11_copies_30 ?_
      refine r_iald h d_X11_copies_31 (fun x3 h => ?_)
      refine r_iast h d_X11_copies_32 (fun G4 h => ?_)
      refine r_iinc d_X11_copies_33 rfl (ii_1 _) rfl rfl ?_
      refine r_goto d_X11_copies_36 ?_
      refine r_lv [(0, .ref v0), (1, .int v1), (2, .int v2), (3, .int (v3 + 1))] (g_allc rfl (g_allc rfl (g_allc rfl (g_allc rfl g_alln)))) ?_
      exact hrec2 _ _ _ _ h
set_option maxRecDepth 100000 in
set_option maxHeartbeats 4000000 in
theorem s_X11_copies {E : GE} {F : Nat}  {v0 : Nat} {v1 : Int32} {v2 : Int32} {n : Nat} {G : GH} {z : Nat × GH}  (h : f_X11_copies F  v0 v1 v2 n G = some z) : GM E yX11_copies cX11_copies 4 none 0 0 0 0 [.ref v0, .int v1, .int v2] n G (none, z.1, z.2) := by
  refine GM.of (by decide) (Nat.le_of_ble_eq_true rfl) ?_
  show WG E RX11 "copies" cX11_copies 4 none 0 0 0 0 0 [(0, .ref v0), (1, .int v1), (2, .int v2)] [] n G (g_O E (none, z.1, z.2))
  unfold f_X11_copies at h
  refine r_iconst d_X11_copies_0 ic_0 ?_
  refine r_istore d_X11_copies_1 rfl rfl ?_
  refine r_lv [(0, .ref v0), (1, .int v1), (2, .int v2), (3, .int (0 : Int32))] (g_allc rfl (g_allc rfl (g_allc rfl (g_allc rfl g_alln)))) ?_
  exact l_X11_copies_2   _ _ _ _ _ h
/-! X11_would -/
theorem py_X11_copies : pY yX11_copies cX11_copies 4 none 2 := ⟨g_in 1595 (by decide +kernel) rfl, g_in 104 (by decide +kernel) rfl, by decide, by decide, by decide +kernel⟩
theorem pi_X11_copies : pI yX11_copies 11 := ⟨g_in 1594 (by decide +kernel) rfl, g_in 91 (by decide +kernel) rfl, (RX11, TX11, 37), rfl, rfl⟩
theorem pl_X11_333 : pL RX11 333 yX11_copies := Or.inl (g_in 1592 (by decide +kernel) rfl)
theorem d_X11_would_0 : decAL cX11_would 0 0 1 := Or.inr ⟨0, rfl, by decide +kernel, rfl⟩
theorem d_X11_would_1 : dec 1 cX11_would 1 (.iconst 0) 2 := ⟨by decide +kernel, rfl⟩
theorem d_X11_would_2 : dec 3 cX11_would 2 (.putfield 72) 5 := ⟨by decide +kernel, rfl⟩
theorem d_X11_would_5 : decAL cX11_would 5 0 6 := Or.inr ⟨0, rfl, by decide +kernel, rfl⟩
theorem d_X11_would_6 : decIL cX11_would 6 1 7 := Or.inr ⟨1, rfl, by decide +kernel, rfl⟩
theorem d_X11_would_7 : dec 3 cX11_would 7 (.invokevirtual 260) 10 := ⟨by decide +kernel, rfl⟩
theorem d_X11_would_10 : decB cX11_would 10 (.ifCond .eq 12) (12) 13 22 := ⟨by decide +kernel, rfl, by decide⟩
theorem d_X11_would_13 : decIL cX11_would 13 2 14 := Or.inr ⟨2, rfl, by decide +kernel, rfl⟩
theorem d_X11_would_14 : dec 1 cX11_would 14 (.iconst 0) 15 := ⟨by decide +kernel, rfl⟩
theorem d_X11_would_15 : dec 1 cX11_would 15 (.iconst 1) 16 := ⟨by decide +kernel, rfl⟩
theorem d_X11_would_16 : dec 3 cX11_would 16 (.invokestatic 80) 19 := ⟨by decide +kernel, rfl⟩
theorem d_X11_would_19 : decB cX11_would 19 (.ifCond .ne 5) (5) 22 24 := ⟨by decide +kernel, rfl, by decide⟩
theorem d_X11_would_22 : dec 1 cX11_would 22 (.iconst (-1)) 23 := ⟨by decide +kernel, rfl⟩
theorem d_X11_would_23 : dec 1 cX11_would 23 .ireturn 24 := ⟨by decide +kernel, rfl⟩
theorem d_X11_would_24 : decAL cX11_would 24 0 25 := Or.inr ⟨0, rfl, by decide +kernel, rfl⟩
theorem d_X11_would_25 : dec 1 cX11_would 25 (.iconst 0) 26 := ⟨by decide +kernel, rfl⟩
theorem d_X11_would_26 : dec 1 cX11_would 26 (.iconst 4) 27 := ⟨by decide +kernel, rfl⟩
theorem d_X11_would_27 : dec 3 cX11_would 27 (.invokevirtual 333) 30 := ⟨by decide +kernel, rfl⟩
theorem d_X11_would_30 : decAL cX11_would 30 0 31 := Or.inr ⟨0, rfl, by decide +kernel, rfl⟩
theorem d_X11_would_31 : dec 1 cX11_would 31 (.iconst 0) 32 := ⟨by decide +kernel, rfl⟩
theorem d_X11_would_32 : dec 3 cX11_would 32 (.putfield 202) 35 := ⟨by decide +kernel, rfl⟩
theorem d_X11_would_35 : decAL cX11_would 35 0 36 := Or.inr ⟨0, rfl, by decide +kernel, rfl⟩
theorem d_X11_would_36 : dec 3 cX11_would 36 (.getfield 7) 39 := ⟨by decide +kernel, rfl⟩
theorem d_X11_would_39 : dec 3 cX11_would 39 (.sipush 206) 42 := ⟨by decide +kernel, rfl⟩
theorem d_X11_would_42 : dec 1 cX11_would 42 .iaload 43 := ⟨by decide +kernel, rfl⟩
theorem d_X11_would_43 : decIS cX11_would 43 3 44 := Or.inr ⟨3, rfl, by decide +kernel, rfl⟩
theorem d_X11_would_44 : decAL cX11_would 44 0 45 := Or.inr ⟨0, rfl, by decide +kernel, rfl⟩
theorem d_X11_would_45 : decIL cX11_would 45 1 46 := Or.inr ⟨1, rfl, by decide +kernel, rfl⟩
theorem d_X11_would_46 : decAL cX11_would 46 0 47 := Or.inr ⟨0, rfl, by decide +kernel, rfl⟩
theorem d_X11_would_47 : dec 3 cX11_would 47 (.getfield 7) 50 := ⟨by decide +kernel, rfl⟩
theorem d_X11_would_50 : dec 3 cX11_would 50 (.sipush 145) 53 := ⟨by decide +kernel, rfl⟩
theorem d_X11_would_53 : dec 1 cX11_would 53 .iaload 54 := ⟨by decide +kernel, rfl⟩
theorem d_X11_would_54 : dec 3 cX11_would 54 (.invokevirtual 239) 57 := ⟨by decide +kernel, rfl⟩
theorem d_X11_would_57 : decIS cX11_would 57 4 59 := Or.inl ⟨by decide +kernel, rfl⟩
theorem d_X11_would_59 : decAL cX11_would 59 0 60 := Or.inr ⟨0, rfl, by decide +kernel, rfl⟩
theorem d_X11_would_60 : dec 3 cX11_would 60 (.getfield 7) 63 := ⟨by decide +kernel, rfl⟩
theorem d_X11_would_63 : dec 3 cX11_would 63 (.sipush 206) 66 := ⟨by decide +kernel, rfl⟩
theorem d_X11_would_66 : dec 1 cX11_would 66 .iaload 67 := ⟨by decide +kernel, rfl⟩
theorem d_X11_would_67 : decIL cX11_would 67 3 68 := Or.inr ⟨3, rfl, by decide +kernel, rfl⟩
theorem d_X11_would_68 : dec 1 cX11_would 68 .isub 69 := ⟨by decide +kernel, rfl⟩
theorem d_X11_would_69 : decIS cX11_would 69 5 71 := Or.inl ⟨by decide +kernel, rfl⟩
theorem d_X11_would_71 : decAL cX11_would 71 0 72 := Or.inr ⟨0, rfl, by decide +kernel, rfl⟩
theorem d_X11_would_72 : dec 1 cX11_would 72 (.iconst 4) 73 := ⟨by decide +kernel, rfl⟩
theorem d_X11_would_73 : dec 1 cX11_would 73 (.iconst 0) 74 := ⟨by decide +kernel, rfl⟩
theorem d_X11_would_74 : dec 3 cX11_would 74 (.invokevirtual 333) 77 := ⟨by decide +kernel, rfl⟩
theorem d_X11_would_77 : decIL cX11_would 77 2 78 := Or.inr ⟨2, rfl, by decide +kernel, rfl⟩
theorem d_X11_would_78 : decB cX11_would 78 (.ifCond .ne 8) (8) 81 86 := ⟨by decide +kernel, rfl, by decide⟩
theorem d_X11_would_81 : decIL cX11_would 81 5 83 := Or.inl ⟨by decide +kernel, rfl⟩
theorem d_X11_would_83 : decB cX11_would 83 (.goto 5) (5) 86 88 := ⟨by decide +kernel, rfl, by decide⟩
theorem d_X11_would_86 : decIL cX11_would 86 4 88 := Or.inl ⟨by decide +kernel, rfl⟩
theorem d_X11_would_88 : dec 1 cX11_would 88 .ireturn 89 := ⟨by decide +kernel, rfl⟩
def f_X11_would (F : Nat)  (v0 : Nat) (v1 : Int32) (v2 : Int32) (n : Nat) (G : GH) : Option (Int32 × Nat × GH) :=
  Option.bind (pV G v0 11 0 (.int (0 : Int32))) (fun (G1 : GH) =>
  cvP G1 v0 11 (f_X11_isPart F v0 v1 G1) (fun (x2 : Int32) =>
  if x2 = 0 then
  (some ((-1 : Int32), n, G1))
  else (Option.bind (f_X11_in F v2 (0 : Int32) (1 : Int32) G1) (fun (x3 : Int32) =>
  if x3 = 0 then
  (some ((-1 : Int32), n, G1))
  else (cvU G1 v0 11 (f_X11_copies F v0 (0 : Int32) (4 : Int32) n G1) (fun (n4 : Nat) (G5 : GH) =>
  Option.bind (pV G5 v0 11 29 (.int (0 : Int32))) (fun (G6 : GH) =>
  Option.bind (gR G6 v0 11 1) (fun (x7 : Nat) =>
  Option.bind (aI G6 x7 0 (206 : Int32)) (fun (x8 : Int32) =>
  Option.bind (gR G6 v0 11 1) (fun (x9 : Nat) =>
  Option.bind (aI G6 x9 0 (145 : Int32)) (fun (x10 : Int32) =>
  cvI G6 v0 11 (f_X11_asks F v0 v1 x10 n4 G6) (fun (x13 : Int32) (n11 : Nat) (G12 : GH) =>
  Option.bind (gR G12 v0 11 1) (fun (x14 : Nat) =>
  Option.bind (aI G12 x14 0 (206 : Int32)) (fun (x15 : Int32) =>
  gnm (x15 - x8) (fun (y16 : Int32) =>
  cvU G12 v0 11 (f_X11_copies F v0 (4 : Int32) (0 : Int32) n11 G12) (fun (n17 : Nat) (G18 : GH) =>
  if v2 = 0 then
  (some (y16, n17, G18))
  else (some (x13, n17, G18))))))))))))))))))
set_option maxRecDepth 100000 in
set_option maxHeartbeats 4000000 in
theorem s_X11_would {E : GE} {F : Nat}  {v0 : Nat} {v1 : Int32} {v2 : Int32} {n : Nat} {G : GH} {z : Int32 × Nat × GH}  (h : f_X11_would F  v0 v1 v2 n G = some z) : GM E yX11_would cX11_would 6 (some .int) 4 95 0 0 [.ref v0, .int v1, .int v2] n G (some (.int z.1), z.2.1, z.2.2) := by
  refine GM.of (by decide) (Nat.le_of_ble_eq_true rfl) ?_
  show WG E RX11 "would" cX11_would 6 (some .int) 4 95 0 0 0 [(0, .ref v0), (1, .int v1), (2, .int v2)] [] n G (g_O E (some (.int z.1), z.2.1, z.2.2))
  unfold f_X11_would at h
  refine r_aload d_X11_would_0 rfl ?_
  refine r_iconst d_X11_would_1 ic_0 ?_
  refine r_put h d_X11_would_2 pw_X11_72 rfl rfl (fun G1 h => ?_)
  refine r_aload d_X11_would_5 rfl ?_
  refine r_iload d_X11_would_6 rfl ?_
  refine r_invP [_] h (fun _ hq => s_X11_isPart hq) d_X11_would_7 pl_X11_260 py_X11_isPart pi_X11_isPart rfl rfl rfl (fun x2 h => ?_)
  refine r_if_eq h d_X11_would_10 (fun h => ?_) (fun h => ?_)
  · refine r_iconst d_X11_would_22 ic_m1 ?_
    exact r_iret h d_X11_would_23
  · refine r_iload d_X11_would_13 rfl ?_
    refine r_iconst d_X11_would_14 ic_0 ?_
    refine r_iconst d_X11_would_15 ic_1 ?_
    refine r_invSP [_, _, _] h (fun _ hq => s_X11_in hq) d_X11_would_16 pl_X11_80 py_X11_in ps_X11_in rfl rfl rfl (fun x3 h => ?_)
    refine r_if_ne h d_X11_would_19 (fun h => ?_) (fun h => ?_)
    · refine r_aload d_X11_would_24 rfl ?_
      refine r_iconst d_X11_would_25 ic_0 ?_
      refine r_iconst d_X11_would_26 ic_4 ?_
      refine r_invU [_, _] h (fun _ hq => s_X11_copies hq) d_X11_would_27 pl_X11_333 py_X11_copies pi_X11_copies rfl rfl rfl (fun n4 G5 h => ?_)
      refine r_aload d_X11_would_30 rfl ?_
      refine r_iconst d_X11_would_31 ic_0 ?_
      refine r_put h d_X11_would_32 pw_X11_202 rfl rfl (fun G6 h => ?_)
      refine r_aload d_X11_would_35 rfl ?_
      refine r_getR h d_X11_would_36 pf_X11_7 (fun x7 h => ?_)
      refine r_sipush d_X11_would_39 sp_206 ?_
      refine r_iald h d_X11_would_42 (fun x8 h => ?_)
      refine r_istore d_X11_would_43 rfl rfl ?_
      refine r_aload d_X11_would_44 rfl ?_
      refine r_iload d_X11_would_45 rfl ?_
      refine r_aload d_X11_would_46 rfl ?_
      refine r_getR h d_X11_would_47 pf_X11_7 (fun x9 h => ?_)
      refine r_sipush d_X11_would_50 sp_145 ?_
      refine r_iald h d_X11_would_53 (fun x10 h => ?_)
      refine r_invI [_, _] h (fun _ hq => s_X11_asks hq) d_X11_would_54 pl_X11_239 py_X11_asks pi_X11_asks rfl rfl rfl (fun x13 n11 G12 h => ?_)
      refine r_istore d_X11_would_57 rfl rfl ?_
      refine r_aload d_X11_would_59 rfl ?_
      refine r_getR h d_X11_would_60 pf_X11_7 (fun x14 h => ?_)
      refine r_sipush d_X11_would_63 sp_206 ?_
      refine r_iald h d_X11_would_66 (fun x15 h => ?_)
      refine r_iload d_X11_would_67 rfl ?_
      refine r_isub d_X11_would_68 ?_
      refine r_nmI h (fun y16 _ h => ?_)
      refine r_istore d_X11_would_69 rfl rfl ?_
      refine r_aload d_X11_would_71 rfl ?_
      refine r_iconst d_X11_would_72 ic_4 ?_
      refine r_iconst d_X11_would_73 ic_0 ?_
      refine r_invU [_, _] h (fun _ hq => s_X11_copies hq) d_X11_would_74 pl_X11_333 py_X11_copies pi_X11_copies rfl rfl rfl (fun n17 G18 h => ?_)
      refine r_iload d_X11_would_77 rfl ?_
      refine r_if_ne h d_X11_would_78 (fun h => ?_) (fun h => ?_)
      · refine r_iload d_X11_would_86 rfl ?_
        exact r_iret h d_X11_would_88
      · refine r_iload d_X11_would_81 rfl ?_
        refine r_goto d_X11_would_83 ?_
        exact r_iret h d_X11_would_88
    · refine r_iconst d_X11_would_22 ic_m1 ?_
      exact r_iret h d_X11_would_23
/-! X11_worth -/
theorem d_X11_worth_0 : decAL cX11_worth 0 0 1 := Or.inr ⟨0, rfl, by decide +kernel, rfl⟩
theorem d_X11_worth_1 : dec 1 cX11_worth 1 (.iconst 0) 2 := ⟨by decide +kernel, rfl⟩
theorem d_X11_worth_2 : dec 3 cX11_worth 2 (.putfield 72) 5 := ⟨by decide +kernel, rfl⟩
theorem d_X11_worth_5 : decAL cX11_worth 5 0 6 := Or.inr ⟨0, rfl, by decide +kernel, rfl⟩
theorem d_X11_worth_6 : decIL cX11_worth 6 1 7 := Or.inr ⟨1, rfl, by decide +kernel, rfl⟩
theorem d_X11_worth_7 : dec 3 cX11_worth 7 (.invokevirtual 260) 10 := ⟨by decide +kernel, rfl⟩
theorem d_X11_worth_10 : decB cX11_worth 10 (.ifCond .ne 5) (5) 13 15 := ⟨by decide +kernel, rfl, by decide⟩
theorem d_X11_worth_13 : dec 1 cX11_worth 13 (.iconst 0) 14 := ⟨by decide +kernel, rfl⟩
theorem d_X11_worth_14 : dec 1 cX11_worth 14 .ireturn 15 := ⟨by decide +kernel, rfl⟩
theorem d_X11_worth_15 : decAL cX11_worth 15 0 16 := Or.inr ⟨0, rfl, by decide +kernel, rfl⟩
theorem d_X11_worth_16 : dec 1 cX11_worth 16 (.iconst 0) 17 := ⟨by decide +kernel, rfl⟩
theorem d_X11_worth_17 : dec 1 cX11_worth 17 (.iconst 4) 18 := ⟨by decide +kernel, rfl⟩
theorem d_X11_worth_18 : dec 3 cX11_worth 18 (.invokevirtual 333) 21 := ⟨by decide +kernel, rfl⟩
theorem d_X11_worth_21 : decAL cX11_worth 21 0 22 := Or.inr ⟨0, rfl, by decide +kernel, rfl⟩
theorem d_X11_worth_22 : dec 1 cX11_worth 22 (.iconst 0) 23 := ⟨by decide +kernel, rfl⟩
theorem d_X11_worth_23 : dec 3 cX11_worth 23 (.putfield 202) 26 := ⟨by decide +kernel, rfl⟩
theorem d_X11_worth_26 : decAL cX11_worth 26 0 27 := Or.inr ⟨0, rfl, by decide +kernel, rfl⟩
theorem d_X11_worth_27 : decIL cX11_worth 27 1 28 := Or.inr ⟨1, rfl, by decide +kernel, rfl⟩
theorem d_X11_worth_28 : decAL cX11_worth 28 0 29 := Or.inr ⟨0, rfl, by decide +kernel, rfl⟩
theorem d_X11_worth_29 : dec 3 cX11_worth 29 (.getfield 7) 32 := ⟨by decide +kernel, rfl⟩
theorem d_X11_worth_32 : dec 3 cX11_worth 32 (.sipush 145) 35 := ⟨by decide +kernel, rfl⟩
theorem d_X11_worth_35 : dec 1 cX11_worth 35 .iaload 36 := ⟨by decide +kernel, rfl⟩
theorem d_X11_worth_36 : dec 3 cX11_worth 36 (.invokevirtual 239) 39 := ⟨by decide +kernel, rfl⟩
theorem d_X11_worth_39 : decIS cX11_worth 39 2 40 := Or.inr ⟨2, rfl, by decide +kernel, rfl⟩
theorem d_X11_worth_40 : decIL cX11_worth 40 2 41 := Or.inr ⟨2, rfl, by decide +kernel, rfl⟩
theorem d_X11_worth_41 : decB cX11_worth 41 (.ifCond .lt 21) (21) 44 62 := ⟨by decide +kernel, rfl, by decide⟩
theorem d_X11_worth_44 : decAL cX11_worth 44 0 45 := Or.inr ⟨0, rfl, by decide +kernel, rfl⟩
theorem d_X11_worth_45 : decIL cX11_worth 45 2 46 := Or.inr ⟨2, rfl, by decide +kernel, rfl⟩
theorem d_X11_worth_46 : dec 3 cX11_worth 46 (.invokevirtual 266) 49 := ⟨by decide +kernel, rfl⟩
theorem d_X11_worth_49 : dec 1 cX11_worth 49 (.iconst 1) 50 := ⟨by decide +kernel, rfl⟩
theorem d_X11_worth_50 : decB cX11_worth 50 (.if_icmp .ne 12) (12) 53 62 := ⟨by decide +kernel, rfl, by decide⟩
theorem d_X11_worth_53 : decAL cX11_worth 53 0 54 := Or.inr ⟨0, rfl, by decide +kernel, rfl⟩
theorem d_X11_worth_54 : decIL cX11_worth 54 2 55 := Or.inr ⟨2, rfl, by decide +kernel, rfl⟩
theorem d_X11_worth_55 : dec 1 cX11_worth 55 (.iconst 3) 56 := ⟨by decide +kernel, rfl⟩
theorem d_X11_worth_56 : dec 3 cX11_worth 56 (.invokevirtual 196) 59 := ⟨by decide +kernel, rfl⟩
theorem d_X11_worth_59 : decB cX11_worth 59 (.goto 4) (4) 62 63 := ⟨by decide +kernel, rfl, by decide⟩
theorem d_X11_worth_62 : dec 1 cX11_worth 62 (.iconst 0) 63 := ⟨by decide +kernel, rfl⟩
theorem d_X11_worth_63 : decIS cX11_worth 63 3 64 := Or.inr ⟨3, rfl, by decide +kernel, rfl⟩
theorem d_X11_worth_64 : decAL cX11_worth 64 0 65 := Or.inr ⟨0, rfl, by decide +kernel, rfl⟩
theorem d_X11_worth_65 : dec 1 cX11_worth 65 (.iconst 4) 66 := ⟨by decide +kernel, rfl⟩
theorem d_X11_worth_66 : dec 1 cX11_worth 66 (.iconst 0) 67 := ⟨by decide +kernel, rfl⟩
theorem d_X11_worth_67 : dec 3 cX11_worth 67 (.invokevirtual 333) 70 := ⟨by decide +kernel, rfl⟩
theorem d_X11_worth_70 : decIL cX11_worth 70 3 71 := Or.inr ⟨3, rfl, by decide +kernel, rfl⟩
theorem d_X11_worth_71 : dec 1 cX11_worth 71 .ireturn 72 := ⟨by decide +kernel, rfl⟩
def k_X11_worth_63 (F : Nat)   (v0 : Nat) (s0 : Int32) (n : Nat) (G : GH) : Option (Int32 × Nat × GH) :=
  cvU G v0 11 (f_X11_copies F v0 (4 : Int32) (0 : Int32) n G) (fun (n11 : Nat) (G12 : GH) =>
  some (s0, n11, G12))
def k_X11_worth_62 (F : Nat)   (v0 : Nat)  (n : Nat) (G : GH) : Option (Int32 × Nat × GH) :=
  k_X11_worth_63 F   v0 (0 : Int32) n G
def f_X11_worth (F : Nat)  (v0 : Nat) (v1 : Int32) (n : Nat) (G : GH) : Option (Int32 × Nat × GH) :=
  Option.bind (pV G v0 11 0 (.int (0 : Int32))) (fun (G1 : GH) =>
  cvP G1 v0 11 (f_X11_isPart F v0 v1 G1) (fun (x2 : Int32) =>
  if x2 = 0 then
  (some ((0 : Int32), n, G1))
  else (cvU G1 v0 11 (f_X11_copies F v0 (0 : Int32) (4 : Int32) n G1) (fun (n3 : Nat) (G4 : GH) =>
  Option.bind (pV G4 v0 11 29 (.int (0 : Int32))) (fun (G5 : GH) =>
  Option.bind (gR G5 v0 11 1) (fun (x6 : Nat) =>
  Option.bind (aI G5 x6 0 (145 : Int32)) (fun (x7 : Int32) =>
  cvI G5 v0 11 (f_X11_asks F v0 v1 x7 n3 G5) (fun (x10 : Int32) (n8 : Nat) (G9 : GH) =>
  if x10 < 0 then
  (k_X11_worth_62 F   v0 n8 G9)
  else (cvI G9 v0 11 (f_X11_reckons F v0 x10 n8 G9) (fun (x15 : Int32) (n13 : Nat) (G14 : GH) =>
  if x15 = (1 : Int32) then
  (cvP G14 v0 11 (f_X11_its F v0 x10 (3 : Int32) G14) (fun (x16 : Int32) =>
  k_X11_worth_63 F   v0 x16 n13 G14))
  else (k_X11_worth_62 F   v0 n13 G14)))))))))))
set_option maxRecDepth 100000 in
set_option maxHeartbeats 4000000 in
theorem c_X11_worth_63 {E : GE} {F : Nat}   {v0 : Nat} {s0 : Int32} {n : Nat} {G : GH} {z : Int32 × Nat × GH}   (h : k_X11_worth_63 F   v0 s0 n G = some z) : WG E RX11 "worth" cX11_worth 4 (some .int) 6 142 0 0 63 [(0, .ref v0)] [.int s0] n G (g_O E (some (.int z.1), z.2.1, z.2.2)) := by
  unfold k_X11_worth_63 at h
  refine r_istore d_X11_worth_63 rfl rfl ?_
  refine r_aload d_X11_worth_64 rfl ?_
  refine r_iconst d_X11_worth_65 ic_4 ?_
  refine r_iconst d_X11_worth_66 ic_0 ?_
  refine r_invU [_, _] h (fun _ hq => s_X11_copies hq) d_X11_worth_67 pl_X11_333 py_X11_copies pi_X11_copies rfl rfl rfl (fun n11 G12 h => ?_)
  refine r_iload d_X11_worth_70 rfl ?_
  exact r_iret h d_X11_worth_71
set_option maxRecDepth 100000 in
set_option maxHeartbeats 4000000 in
theorem c_X11_worth_62 {E : GE} {F : Nat}   {v0 : Nat}  {n : Nat} {G : GH} {z : Int32 × Nat × GH}   (h : k_X11_worth_62 F   v0  n G = some z) : WG E RX11 "worth" cX11_worth 4 (some .int) 6 142 0 0 62 [(0, .ref v0)] [] n G (g_O E (some (.int z.1), z.2.1, z.2.2)) := by
  unfold k_X11_worth_62 at h
  refine r_iconst d_X11_worth_62 ic_0 ?_
  refine r_lv [(0, .ref v0)] (g_allc rfl g_alln) ?_
  exact c_X11_worth_63   h
set_option maxRecDepth 100000 in
set_option maxHeartbeats 4000000 in
theorem s_X11_worth {E : GE} {F : Nat}  {v0 : Nat} {v1 : Int32} {n : Nat} {G : GH} {z : Int32 × Nat × GH}  (h : f_X11_worth F  v0 v1 n G = some z) : GM E yX11_worth cX11_worth 4 (some .int) 6 142 0 0 [.ref v0, .int v1] n G (some (.int z.1), z.2.1, z.2.2) := by
  refine GM.of (by decide) (Nat.le_of_ble_eq_true rfl) ?_
  show WG E RX11 "worth" cX11_worth 4 (some .int) 6 142 0 0 0 [(0, .ref v0), (1, .int v1)] [] n G (g_O E (some (.int z.1), z.2.1, z.2.2))
  unfold f_X11_worth at h
  refine r_aload d_X11_worth_0 rfl ?_
  refine r_iconst d_X11_worth_1 ic_0 ?_
  refine r_put h d_X11_worth_2 pw_X11_72 rfl rfl (fun G1 h => ?_)
  refine r_aload d_X11_worth_5 rfl ?_
  refine r_iload d_X11_worth_6 rfl ?_
  refine r_invP [_] h (fun _ hq => s_X11_isPart hq) d_X11_worth_7 pl_X11_260 py_X11_isPart pi_X11_isPart rfl rfl rfl (fun x2 h => ?_)
  refine r_if_ne h d_X11_worth_10 (fun h => ?_) (fun h => ?_)
  · refine r_aload d_X11_worth_15 rfl ?_
    refine r_iconst d_X11_worth_16 ic_0 ?_
    refine r_iconst d_X11_worth_17 ic_4 ?_
    refine r_invU [_, _] h (fun _ hq => s_X11_copies hq) d_X11_worth_18 pl_X11_333 py_X11_copies pi_X11_copies rfl rfl rfl (fun n3 G4 h => ?_)
    refine r_aload d_X11_worth_21 rfl ?_
    refine r_iconst d_X11_worth_22 ic_0 ?_
    refine r_put h d_X11_worth_23 pw_X11_202 rfl rfl (fun G5 h => ?_)
    refine r_aload d_X11_worth_26 rfl ?_
    refine r_iload d_X11_worth_27 rfl ?_
    refine r_aload d_X11_worth_28 rfl ?_
    refine r_getR h d_X11_worth_29 pf_X11_7 (fun x6 h => ?_)
    refine r_sipush d_X11_worth_32 sp_145 ?_
    refine r_iald h d_X11_worth_35 (fun x7 h => ?_)
    refine r_invI [_, _] h (fun _ hq => s_X11_asks hq) d_X11_worth_36 pl_X11_239 py_X11_asks pi_X11_asks rfl rfl rfl (fun x10 n8 G9 h => ?_)
    refine r_istore d_X11_worth_39 rfl rfl ?_
    refine r_iload d_X11_worth_40 rfl ?_
    refine r_if_lt h d_X11_worth_41 (fun h => ?_) (fun h => ?_)
    · refine r_lv [(0, .ref v0)] (g_allc rfl g_alln) ?_
      exact c_X11_worth_62   h
    · refine r_aload d_X11_worth_44 rfl ?_
      refine r_iload d_X11_worth_45 rfl ?_
      refine r_invI [_] h (fun _ hq => s_X11_reckons hq) d_X11_worth_46 pl_X11_266 py_X11_reckons pi_X11_reckons rfl rfl rfl (fun x15 n13 G14 h => ?_)
      refine r_iconst d_X11_worth_49 ic_1 ?_
      refine r_icmp_ne h d_X11_worth_50 (fun h => ?_) (fun h => ?_)
      · refine r_lv [(0, .ref v0)] (g_allc rfl g_alln) ?_
        exact c_X11_worth_62   h
      · refine r_aload d_X11_worth_53 rfl ?_
        refine r_iload d_X11_worth_54 rfl ?_
        refine r_iconst d_X11_worth_55 ic_3 ?_
        refine r_invP [_, _] h (fun _ hq => s_X11_its hq) d_X11_worth_56 pl_X11_196 py_X11_its pi_X11_its rfl rfl rfl (fun x16 h => ?_)
        refine r_goto d_X11_worth_59 ?_
        refine r_lv [(0, .ref v0)] (g_allc rfl g_alln) ?_
        exact c_X11_worth_63   h
  · refine r_iconst d_X11_worth_13 ic_0 ?_
    exact r_iret h d_X11_worth_14
/-! X11_copiesText -/
theorem d_X11_copiesText_0 : decAL cX11_copiesText 0 0 1 := Or.inr ⟨0, rfl, by decide +kernel, rfl⟩
theorem d_X11_copiesText_1 : decIL cX11_copiesText 1 1 2 := Or.inr ⟨1, rfl, by decide +kernel, rfl⟩
theorem d_X11_copiesText_2 : decIL cX11_copiesText 2 2 3 := Or.inr ⟨2, rfl, by decide +kernel, rfl⟩
theorem d_X11_copiesText_3 : dec 3 cX11_copiesText 3 (.invokevirtual 333) 6 := ⟨by decide +kernel, rfl⟩
theorem d_X11_copiesText_6 : dec 1 cX11_copiesText 6 (.iconst 0) 7 := ⟨by decide +kernel, rfl⟩
theorem d_X11_copiesText_7 : decIS cX11_copiesText 7 3 8 := Or.inr ⟨3, rfl, by decide +kernel, rfl⟩
theorem d_X11_copiesText_8 : decIL cX11_copiesText 8 3 9 := Or.inr ⟨3, rfl, by decide +kernel, rfl⟩
theorem d_X11_copiesText_9 : dec 3 cX11_copiesText 9 (.sipush 600) 12 := ⟨by decide +kernel, rfl⟩
theorem d_X11_copiesText_12 : decB cX11_copiesText 12 (.if_icmp .ge 33) (33) 15 45 := ⟨by decide +kernel, rfl, by decide⟩
theorem d_X11_copiesText_15 : decAL cX11_copiesText 15 0 16 := Or.inr ⟨0, rfl, by decide +kernel, rfl⟩
theorem d_X11_copiesText_16 : dec 3 cX11_copiesText 16 (.getfield 13) 19 := ⟨by decide +kernel, rfl⟩
theorem d_X11_copiesText_19 : dec 3 cX11_copiesText 19 (.sipush 600) 22 := ⟨by decide +kernel, rfl⟩
theorem d_X11_copiesText_22 : decIL cX11_copiesText 22 2 23 := Or.inr ⟨2, rfl, by decide +kernel, rfl⟩
theorem d_X11_copiesText_23 : dec 1 cX11_copiesText 23 .imul 24 := ⟨by decide +kernel, rfl⟩
theorem d_X11_copiesText_24 : decIL cX11_copiesText 24 3 25 := Or.inr ⟨3, rfl, by decide +kernel, rfl⟩
theorem d_X11_copiesText_25 : dec 1 cX11_copiesText 25 .iadd 26 := ⟨by decide +kernel, rfl⟩
theorem d_X11_copiesText_26 : decAL cX11_copiesText 26 0 27 := Or.inr ⟨0, rfl, by decide +kernel, rfl⟩
theorem d_X11_copiesText_27 : dec 3 cX11_copiesText 27 (.getfield 13) 30 := ⟨by decide +kernel, rfl⟩
theorem d_X11_copiesText_30 : dec 3 cX11_copiesText 30 (.sipush 600) 33 := ⟨by decide +kernel, rfl⟩
theorem d_X11_copiesText_33 : decIL cX11_copiesText 33 1 34 := Or.inr ⟨1, rfl, by decide +kernel, rfl⟩
theorem d_X11_copiesText_34 : dec 1 cX11_copiesText 34 .imul 35 := ⟨by decide +kernel, rfl⟩
theorem d_X11_copiesText_35 : decIL cX11_copiesText 35 3 36 := Or.inr ⟨3, rfl, by decide +kernel, rfl⟩
theorem d_X11_copiesText_36 : dec 1 cX11_copiesText 36 .iadd 37 := ⟨by decide +kernel, rfl⟩
theorem d_X11_copiesText_37 : dec 1 cX11_copiesText 37 .baload 38 := ⟨by decide +kernel, rfl⟩
theorem d_X11_copiesText_38 : dec 1 cX11_copiesText 38 .bastore 39 := ⟨by decide +kernel, rfl⟩
theorem d_X11_copiesText_39 : dec 3 cX11_copiesText 39 (.iinc 3 1) 42 := ⟨by decide +kernel, rfl⟩
theorem d_X11_copiesText_42 : decB cX11_copiesText 42 (.goto (-34)) (-34) 45 8 := ⟨by decide +kernel, rfl, by decide⟩
theorem d_X11_copiesText_45 : dec 1 cX11_copiesText 45 .return_ 46 := ⟨by decide +kernel, rfl⟩
def b_X11_copiesText_8 (F : Nat)   (v0 : Nat) (v1 : Int32) (v2 : Int32) (rec8 : Int32 → Nat → GH → Option (Nat × GH)) : Int32 → Nat → GH → Option (Nat × GH) := fun v3 n G =>
  if (600 : Int32) ≤ v3 then
  (some (n, G))
  else (Option.bind (gR G v0 11 2) (fun (x3 : Nat) =>
  Option.bind (gR G v0 11 2) (fun (x4 : Nat) =>
  Option.bind (aI G x4 1 (((600 : Int32) * v1) + v3)) (fun (x5 : Int32) =>
  Option.bind (aS G x3 1 (((600 : Int32) * v2) + v3) (vp_nar .byte x5)) (fun (G6 : GH) =>
  rec8 (v3 + 1) n G6)))))
def f_X11_copiesText (F : Nat)  (v0 : Nat) (v1 : Int32) (v2 : Int32) (n : Nat) (G : GH) : Option (Nat × GH) :=
  cvU G v0 11 (f_X11_copies F v0 v1 v2 n G) (fun (n1 : Nat) (G2 : GH) =>
  fixN (fun _ _ _ => none) (b_X11_copiesText_8 F   v0 v1 v2) F (0 : Int32) n1 G2)
set_option maxRecDepth 100000 in
set_option maxHeartbeats 4000000 in
theorem l_X11_copiesText_8 {E : GE} {F : Nat}   {v0 : Nat} {v1 : Int32} {v2 : Int32}   : ∀ (K : Nat) (v3 : Int32) (n : Nat) (G : GH) (z : Nat × GH), fixN ((fun _ _ _ => none) : Int32 → Nat → GH → Option (Nat × GH)) (b_X11_copiesText_8 F   v0 v1 v2) K v3 n G = some z → WG E RX11 "copiesText" cX11_copiesText 4 none 1 23 0 0 8 [(0, .ref v0), (1, .int v1), (2, .int v2), (3, .int v3)] [] n G (g_O E (none, z.1, z.2)) := by
  intro K
  refine fixN_ind (P := fun (r : Int32 → Nat → GH → Option (Nat × GH)) => ∀ (v3 : Int32) (n : Nat) (G : GH) (z : Nat × GH), r v3 n G = some z → WG E RX11 "copiesText" cX11_copiesText 4 none 1 23 0 0 8 [(0, .ref v0), (1, .int v1), (2, .int v2), (3, .int v3)] [] n G (g_O E (none, z.1, z.2))) ?_ ?_ K
  · intro v3 n G z h
    cases h
  · intro rec8 hrec8 v3 n G z h
    unfold b_X11_copiesText_8 at h
    refine r_iload d_X11_copiesText_8 rfl ?_
    refine r_sipush d_X11_copiesText_9 sp_600 ?_
    refine r_icmp_ge h d_X11_copiesText_12 (fun h => ?_) (fun h => ?_)
    · exact r_vret h d_X11_copiesText_45
    · refine r_aload d_X11_copiesText_15 rfl ?_
      refine r_getR h d_X11_copiesText_16 pf_X11_13 (fun x3 h => ?_)
      refine r_sipush d_X11_copiesText_19 sp_600 ?_
      refine r_iload d_X11_copiesText_22 rfl ?_
      refine r_imul d_X11_copiesText_23 ?_
      refine r_iload d_X11_copiesText_24 rfl ?_
      refine r_iadd d_X11_copiesText_25 ?_
      refine r_aload d_X11_copiesText_26 rfl ?_
      refine r_getR h d_X11_copiesText_27 pf_X11_13 (fun x4 h => ?_)
      refine r_sipush d_X11_copiesText_30 sp_600 ?_
      refine r_iload d_X11_copiesText_33 rfl ?_
      refine r_imul d_X11_copiesText_34 ?_
      refine r_iload d_X11_copiesText_35 rfl ?_
      refine r_iadd d_X11_copiesText_36 ?_
      refine r_bald h d_X11_copiesText_37 (fun x5 h => ?_)
      refine r_bast h d_X11_copiesText_38 (fun G6 h => ?_)
      refine r_iinc d_X11_copiesText_39 rfl (ii_1 _) rfl rfl ?_
      refine r_goto d_X11_copiesText_42 ?_
      refine r_lv [(0, .ref v0), (1, .int v1), (2, .int v2), (3, .int (v3 + 1))] (g_allc rfl (g_allc rfl (g_allc rfl (g_allc rfl g_alln)))) ?_
      exact hrec8 _ _ _ _ h
set_option maxRecDepth 100000 in
set_option maxHeartbeats 4000000 in
theorem s_X11_copiesText {E : GE} {F : Nat}  {v0 : Nat} {v1 : Int32} {v2 : Int32} {n : Nat} {G : GH} {z : Nat × GH}  (h : f_X11_copiesText F  v0 v1 v2 n G = some z) : GM E yX11_copiesText cX11_copiesText 4 none 1 23 0 0 [.ref v0, .int v1, .int v2] n G (none, z.1, z.2) := by
  refine GM.of (by decide) (Nat.le_of_ble_eq_true rfl) ?_
  show WG E RX11 "copiesText" cX11_copiesText 4 none 1 23 0 0 0 [(0, .ref v0), (1, .int v1), (2, .int v2)] [] n G (g_O E (none, z.1, z.2))
  unfold f_X11_copiesText at h
  refine r_aload d_X11_copiesText_0 rfl ?_
  refine r_iload d_X11_copiesText_1 rfl ?_
  refine r_iload d_X11_copiesText_2 rfl ?_
  refine r_invU [_, _] h (fun _ hq => s_X11_copies hq) d_X11_copiesText_3 pl_X11_333 py_X11_copies pi_X11_copies rfl rfl rfl (fun n1 G2 h => ?_)
  refine r_iconst d_X11_copiesText_6 ic_0 ?_
  refine r_istore d_X11_copiesText_7 rfl rfl ?_
  refine r_lv [(0, .ref v0), (1, .int v1), (2, .int v2), (3, .int (0 : Int32))] (g_allc rfl (g_allc rfl (g_allc rfl (g_allc rfl g_alln)))) ?_
  exact l_X11_copiesText_8   _ _ _ _ _ h
/-! X11_image -/
theorem py_X11_copiesText : pY yX11_copiesText cX11_copiesText 4 none 2 := ⟨g_in 1607 (by decide +kernel) rfl, g_in 104 (by decide +kernel) rfl, by decide, by decide, by decide +kernel⟩
theorem pi_X11_copiesText : pI yX11_copiesText 11 := ⟨g_in 1606 (by decide +kernel) rfl, g_in 92 (by decide +kernel) rfl, (RX11, TX11, 37), rfl, rfl⟩
theorem pl_X11_336 : pL RX11 336 yX11_copiesText := Or.inl (g_in 1604 (by decide +kernel) rfl)
theorem pf_X11_17 : pF RX11 17 11 3 := ⟨RX11, TX11, 37, rfl, by decide, rfl, Or.inl (g_in 1148 (by decide +kernel) rfl)⟩
theorem d_X11_image_0 : decAL cX11_image 0 0 1 := Or.inr ⟨0, rfl, by decide +kernel, rfl⟩
theorem d_X11_image_1 : dec 1 cX11_image 1 (.iconst 0) 2 := ⟨by decide +kernel, rfl⟩
theorem d_X11_image_2 : dec 3 cX11_image 2 (.putfield 72) 5 := ⟨by decide +kernel, rfl⟩
theorem d_X11_image_5 : decIL cX11_image 5 1 6 := Or.inr ⟨1, rfl, by decide +kernel, rfl⟩
theorem d_X11_image_6 : dec 1 cX11_image 6 (.iconst 0) 7 := ⟨by decide +kernel, rfl⟩
theorem d_X11_image_7 : dec 1 cX11_image 7 (.iconst 2) 8 := ⟨by decide +kernel, rfl⟩
theorem d_X11_image_8 : dec 3 cX11_image 8 (.invokestatic 80) 11 := ⟨by decide +kernel, rfl⟩
theorem d_X11_image_11 : decB cX11_image 11 (.ifCond .ne 5) (5) 14 16 := ⟨by decide +kernel, rfl, by decide⟩
theorem d_X11_image_14 : dec 1 cX11_image 14 (.iconst 0) 15 := ⟨by decide +kernel, rfl⟩
theorem d_X11_image_15 : dec 1 cX11_image 15 .ireturn 16 := ⟨by decide +kernel, rfl⟩
theorem d_X11_image_16 : decAL cX11_image 16 0 17 := Or.inr ⟨0, rfl, by decide +kernel, rfl⟩
theorem d_X11_image_17 : dec 1 cX11_image 17 (.iconst 0) 18 := ⟨by decide +kernel, rfl⟩
theorem d_X11_image_18 : decIL cX11_image 18 1 19 := Or.inr ⟨1, rfl, by decide +kernel, rfl⟩
theorem d_X11_image_19 : dec 1 cX11_image 19 (.iconst 1) 20 := ⟨by decide +kernel, rfl⟩
theorem d_X11_image_20 : dec 1 cX11_image 20 .iadd 21 := ⟨by decide +kernel, rfl⟩
theorem d_X11_image_21 : dec 3 cX11_image 21 (.invokevirtual 336) 24 := ⟨by decide +kernel, rfl⟩
theorem d_X11_image_24 : decAL cX11_image 24 0 25 := Or.inr ⟨0, rfl, by decide +kernel, rfl⟩
theorem d_X11_image_25 : dec 3 cX11_image 25 (.getfield 17) 28 := ⟨by decide +kernel, rfl⟩
theorem d_X11_image_28 : decIL cX11_image 28 1 29 := Or.inr ⟨1, rfl, by decide +kernel, rfl⟩
theorem d_X11_image_29 : dec 1 cX11_image 29 (.iconst 1) 30 := ⟨by decide +kernel, rfl⟩
theorem d_X11_image_30 : dec 1 cX11_image 30 .bastore 31 := ⟨by decide +kernel, rfl⟩
theorem d_X11_image_31 : dec 1 cX11_image 31 (.iconst 1) 32 := ⟨by decide +kernel, rfl⟩
theorem d_X11_image_32 : dec 1 cX11_image 32 .ireturn 33 := ⟨by decide +kernel, rfl⟩
def f_X11_image (F : Nat)  (v0 : Nat) (v1 : Int32) (n : Nat) (G : GH) : Option (Int32 × Nat × GH) :=
  Option.bind (pV G v0 11 0 (.int (0 : Int32))) (fun (G1 : GH) =>
  Option.bind (f_X11_in F v1 (0 : Int32) (2 : Int32) G1) (fun (x2 : Int32) =>
  if x2 = 0 then
  (rN .boolean (0 : Int32) n G1)
  else (cvU G1 v0 11 (f_X11_copiesText F v0 (0 : Int32) (v1 + (1 : Int32)) n G1) (fun (n3 : Nat) (G4 : GH) =>
  Option.bind (gR G4 v0 11 3) (fun (x5 : Nat) =>
  Option.bind (aS G4 x5 2 v1 (vp_nar .boolean (1 : Int32))) (fun (G6 : GH) =>
  rN .boolean (1 : Int32) n3 G6))))))
set_option maxRecDepth 100000 in
set_option maxHeartbeats 4000000 in
theorem s_X11_image {E : GE} {F : Nat}  {v0 : Nat} {v1 : Int32} {n : Nat} {G : GH} {z : Int32 × Nat × GH}  (h : f_X11_image F  v0 v1 n G = some z) : GM E yX11_image cX11_image 2 (some .boolean) 2 46 0 0 [.ref v0, .int v1] n G (some (.int z.1), z.2.1, z.2.2) := by
  refine GM.of (by decide) (Nat.le_of_ble_eq_true rfl) ?_
  show WG E RX11 "image" cX11_image 2 (some .boolean) 2 46 0 0 0 [(0, .ref v0), (1, .int v1)] [] n G (g_O E (some (.int z.1), z.2.1, z.2.2))
  unfold f_X11_image at h
  refine r_aload d_X11_image_0 rfl ?_
  refine r_iconst d_X11_image_1 ic_0 ?_
  refine r_put h d_X11_image_2 pw_X11_72 rfl rfl (fun G1 h => ?_)
  refine r_iload d_X11_image_5 rfl ?_
  refine r_iconst d_X11_image_6 ic_0 ?_
  refine r_iconst d_X11_image_7 ic_2 ?_
  refine r_invSP [_, _, _] h (fun _ hq => s_X11_in hq) d_X11_image_8 pl_X11_80 py_X11_in ps_X11_in rfl rfl rfl (fun x2 h => ?_)
  refine r_if_ne h d_X11_image_11 (fun h => ?_) (fun h => ?_)
  · refine r_aload d_X11_image_16 rfl ?_
    refine r_iconst d_X11_image_17 ic_0 ?_
    refine r_iload d_X11_image_18 rfl ?_
    refine r_iconst d_X11_image_19 ic_1 ?_
    refine r_iadd d_X11_image_20 ?_
    refine r_invU [_, _] h (fun _ hq => s_X11_copiesText hq) d_X11_image_21 pl_X11_336 py_X11_copiesText pi_X11_copiesText rfl rfl rfl (fun n3 G4 h => ?_)
    refine r_aload d_X11_image_24 rfl ?_
    refine r_getR h d_X11_image_25 pf_X11_17 (fun x5 h => ?_)
    refine r_iload d_X11_image_28 rfl ?_
    refine r_iconst d_X11_image_29 ic_1 ?_
    refine r_zast h d_X11_image_30 (fun G6 h => ?_)
    refine r_iconst d_X11_image_31 ic_1 ?_
    exact r_zret h d_X11_image_32
  · refine r_iconst d_X11_image_14 ic_0 ?_
    exact r_zret h d_X11_image_15
/-! X11_again -/
theorem d_X11_again_0 : decAL cX11_again 0 0 1 := Or.inr ⟨0, rfl, by decide +kernel, rfl⟩
theorem d_X11_again_1 : dec 1 cX11_again 1 (.iconst 0) 2 := ⟨by decide +kernel, rfl⟩
theorem d_X11_again_2 : dec 3 cX11_again 2 (.putfield 72) 5 := ⟨by decide +kernel, rfl⟩
theorem d_X11_again_5 : decIL cX11_again 5 1 6 := Or.inr ⟨1, rfl, by decide +kernel, rfl⟩
theorem d_X11_again_6 : dec 1 cX11_again 6 (.iconst 0) 7 := ⟨by decide +kernel, rfl⟩
theorem d_X11_again_7 : dec 1 cX11_again 7 (.iconst 2) 8 := ⟨by decide +kernel, rfl⟩
theorem d_X11_again_8 : dec 3 cX11_again 8 (.invokestatic 80) 11 := ⟨by decide +kernel, rfl⟩
theorem d_X11_again_11 : decB cX11_again 11 (.ifCond .eq 12) (12) 14 23 := ⟨by decide +kernel, rfl, by decide⟩
theorem d_X11_again_14 : decAL cX11_again 14 0 15 := Or.inr ⟨0, rfl, by decide +kernel, rfl⟩
theorem d_X11_again_15 : dec 3 cX11_again 15 (.getfield 17) 18 := ⟨by decide +kernel, rfl⟩
theorem d_X11_again_18 : decIL cX11_again 18 1 19 := Or.inr ⟨1, rfl, by decide +kernel, rfl⟩
theorem d_X11_again_19 : dec 1 cX11_again 19 .baload 20 := ⟨by decide +kernel, rfl⟩
theorem d_X11_again_20 : decB cX11_again 20 (.ifCond .ne 5) (5) 23 25 := ⟨by decide +kernel, rfl, by decide⟩
theorem d_X11_again_23 : dec 1 cX11_again 23 (.iconst 0) 24 := ⟨by decide +kernel, rfl⟩
theorem d_X11_again_24 : dec 1 cX11_again 24 .ireturn 25 := ⟨by decide +kernel, rfl⟩
theorem d_X11_again_25 : decAL cX11_again 25 0 26 := Or.inr ⟨0, rfl, by decide +kernel, rfl⟩
theorem d_X11_again_26 : decIL cX11_again 26 1 27 := Or.inr ⟨1, rfl, by decide +kernel, rfl⟩
theorem d_X11_again_27 : dec 1 cX11_again 27 (.iconst 1) 28 := ⟨by decide +kernel, rfl⟩
theorem d_X11_again_28 : dec 1 cX11_again 28 .iadd 29 := ⟨by decide +kernel, rfl⟩
theorem d_X11_again_29 : dec 1 cX11_again 29 (.iconst 0) 30 := ⟨by decide +kernel, rfl⟩
theorem d_X11_again_30 : dec 3 cX11_again 30 (.invokevirtual 336) 33 := ⟨by decide +kernel, rfl⟩
theorem d_X11_again_33 : decAL cX11_again 33 0 34 := Or.inr ⟨0, rfl, by decide +kernel, rfl⟩
theorem d_X11_again_34 : dec 1 cX11_again 34 (.iconst 0) 35 := ⟨by decide +kernel, rfl⟩
theorem d_X11_again_35 : dec 3 cX11_again 35 (.putfield 193) 38 := ⟨by decide +kernel, rfl⟩
theorem d_X11_again_38 : dec 1 cX11_again 38 (.iconst 1) 39 := ⟨by decide +kernel, rfl⟩
theorem d_X11_again_39 : dec 1 cX11_again 39 .ireturn 40 := ⟨by decide +kernel, rfl⟩
def f_X11_again (F : Nat)  (v0 : Nat) (v1 : Int32) (n : Nat) (G : GH) : Option (Int32 × Nat × GH) :=
  Option.bind (pV G v0 11 0 (.int (0 : Int32))) (fun (G1 : GH) =>
  Option.bind (f_X11_in F v1 (0 : Int32) (2 : Int32) G1) (fun (x2 : Int32) =>
  if x2 = 0 then
  (rN .boolean (0 : Int32) n G1)
  else (Option.bind (gR G1 v0 11 3) (fun (x3 : Nat) =>
  Option.bind (aI G1 x3 2 v1) (fun (x4 : Int32) =>
  if x4 = 0 then
  (rN .boolean (0 : Int32) n G1)
  else (cvU G1 v0 11 (f_X11_copiesText F v0 (v1 + (1 : Int32)) (0 : Int32) n G1) (fun (n5 : Nat) (G6 : GH) =>
  Option.bind (pV G6 v0 11 5 (.int (0 : Int32))) (fun (G7 : GH) =>
  rN .boolean (1 : Int32) n5 G7))))))))
set_option maxRecDepth 100000 in
set_option maxHeartbeats 4000000 in
theorem s_X11_again {E : GE} {F : Nat}  {v0 : Nat} {v1 : Int32} {n : Nat} {G : GH} {z : Int32 × Nat × GH}  (h : f_X11_again F  v0 v1 n G = some z) : GM E yX11_again cX11_again 2 (some .boolean) 2 46 0 0 [.ref v0, .int v1] n G (some (.int z.1), z.2.1, z.2.2) := by
  refine GM.of (by decide) (Nat.le_of_ble_eq_true rfl) ?_
  show WG E RX11 "again" cX11_again 2 (some .boolean) 2 46 0 0 0 [(0, .ref v0), (1, .int v1)] [] n G (g_O E (some (.int z.1), z.2.1, z.2.2))
  unfold f_X11_again at h
  refine r_aload d_X11_again_0 rfl ?_
  refine r_iconst d_X11_again_1 ic_0 ?_
  refine r_put h d_X11_again_2 pw_X11_72 rfl rfl (fun G1 h => ?_)
  refine r_iload d_X11_again_5 rfl ?_
  refine r_iconst d_X11_again_6 ic_0 ?_
  refine r_iconst d_X11_again_7 ic_2 ?_
  refine r_invSP [_, _, _] h (fun _ hq => s_X11_in hq) d_X11_again_8 pl_X11_80 py_X11_in ps_X11_in rfl rfl rfl (fun x2 h => ?_)
  refine r_if_eq h d_X11_again_11 (fun h => ?_) (fun h => ?_)
  · refine r_iconst d_X11_again_23 ic_0 ?_
    exact r_zret h d_X11_again_24
  · refine r_aload d_X11_again_14 rfl ?_
    refine r_getR h d_X11_again_15 pf_X11_17 (fun x3 h => ?_)
    refine r_iload d_X11_again_18 rfl ?_
    refine r_zald h d_X11_again_19 (fun x4 h => ?_)
    refine r_if_ne h d_X11_again_20 (fun h => ?_) (fun h => ?_)
    · refine r_aload d_X11_again_25 rfl ?_
      refine r_iload d_X11_again_26 rfl ?_
      refine r_iconst d_X11_again_27 ic_1 ?_
      refine r_iadd d_X11_again_28 ?_
      refine r_iconst d_X11_again_29 ic_0 ?_
      refine r_invU [_, _] h (fun _ hq => s_X11_copiesText hq) d_X11_again_30 pl_X11_336 py_X11_copiesText pi_X11_copiesText rfl rfl rfl (fun n5 G6 h => ?_)
      refine r_aload d_X11_again_33 rfl ?_
      refine r_iconst d_X11_again_34 ic_0 ?_
      refine r_put h d_X11_again_35 pw_X11_193 rfl rfl (fun G7 h => ?_)
      refine r_iconst d_X11_again_38 ic_1 ?_
      exact r_zret h d_X11_again_39
    · refine r_iconst d_X11_again_23 ic_0 ?_
      exact r_zret h d_X11_again_24
