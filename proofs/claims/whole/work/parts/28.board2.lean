/-! X10_init -/
theorem qol_X10_3 : Cond.methodLink RX10 3 objectInit ∈ g_tbl := g_in 122 (by decide +kernel) rfl
def df_X2 : List Value := [.null, .int 0, .int 0, .int 0]
theorem dv_X2 : ∀ j, j < 4 → defaultValue (tyX2 j) = vp_V df_X2 j := by decide +kernel
theorem pn_X10_9 : pN RX10 9 2 df_X2 := ⟨RX2, TX2, 4, rfl, g_in 125 (by decide +kernel) rfl, g_in 126 (by decide +kernel) rfl, g_in 95 (by decide +kernel) rfl, rfl, tyX2, tyX2_ok, dv_X2⟩
theorem py_X2_init : pY yX2_init cX2_init 1 none 0 := ⟨g_in 129 (by decide +kernel) rfl, g_in 95 (by decide +kernel) rfl, by decide, by decide, by decide +kernel⟩
theorem pm_X2_init : Cond.instanceMethod yX2_init ∈ g_tbl := g_in 128 (by decide +kernel) rfl
theorem pl_X10_11 : pL RX10 11 yX2_init := Or.inr ⟨"PlugBoard", g_in 127 (by decide +kernel) rfl⟩
theorem pw_X10_12 : pW RX10 "<init>" 12 10 0 (.object "PlugBoard$Paper") := ⟨RX10, TX10, 9, rfl, by decide, rfl, Or.inl ⟨g_in 402 (by decide +kernel) rfl, Or.inr ⟨rfl, rfl, rfl⟩⟩, by decide +kernel⟩
def df_X4 : List Value := [.null, .int 0, .int 0]
theorem dv_X4 : ∀ j, j < 3 → defaultValue (tyX4 j) = vp_V df_X4 j := by decide +kernel
theorem pn_X10_16 : pN RX10 16 4 df_X4 := ⟨RX4, TX4, 3, rfl, g_in 150 (by decide +kernel) rfl, g_in 151 (by decide +kernel) rfl, g_in 96 (by decide +kernel) rfl, rfl, tyX4, tyX4_ok, dv_X4⟩
theorem py_X4_init : pY yX4_init cX4_init 1 none 0 := ⟨g_in 154 (by decide +kernel) rfl, g_in 96 (by decide +kernel) rfl, by decide, by decide, by decide +kernel⟩
theorem pm_X4_init : Cond.instanceMethod yX4_init ∈ g_tbl := g_in 153 (by decide +kernel) rfl
theorem pl_X10_18 : pL RX10 18 yX4_init := Or.inr ⟨"PlugBoard", g_in 152 (by decide +kernel) rfl⟩
theorem pw_X10_19 : pW RX10 "<init>" 19 10 6 (.object "PlugBoard$Past") := ⟨RX10, TX10, 9, rfl, by decide, rfl, Or.inl ⟨g_in 408 (by decide +kernel) rfl, Or.inr ⟨rfl, rfl, rfl⟩⟩, by decide +kernel⟩
theorem qc_X10_23 : Cond.classLink RX10 23 RX0 ∈ g_tbl := g_in 169 (by decide +kernel) rfl
theorem pw_X10_25 : pW RX10 "<init>" 25 10 7 (.array (.object "PlugBoard$Board")) := ⟨RX10, TX10, 9, rfl, by decide, rfl, Or.inl ⟨g_in 409 (by decide +kernel) rfl, Or.inr ⟨rfl, rfl, rfl⟩⟩, by decide +kernel⟩
theorem qc_X10_9 : Cond.classLink RX10 9 RX2 ∈ g_tbl := g_in 125 (by decide +kernel) rfl
theorem pw_X10_29 : pW RX10 "<init>" 29 10 8 (.array (.object "PlugBoard$Paper")) := ⟨RX10, TX10, 9, rfl, by decide, rfl, Or.inl ⟨g_in 410 (by decide +kernel) rfl, Or.inr ⟨rfl, rfl, rfl⟩⟩, by decide +kernel⟩
theorem pn_X10_33 : pN RX10 33 3 df_X3 := ⟨RX3, TX3, 9, rfl, g_in 171 (by decide +kernel) rfl, g_in 172 (by decide +kernel) rfl, g_in 97 (by decide +kernel) rfl, rfl, tyX3, tyX3_ok, dv_X3⟩
theorem pl_X10_35 : pL RX10 35 yX3_init := Or.inr ⟨"PlugBoard", g_in 173 (by decide +kernel) rfl⟩
theorem pn_X10_23 : pN RX10 23 0 df_X0 := ⟨RX0, TX0, 6, rfl, g_in 169 (by decide +kernel) rfl, g_in 231 (by decide +kernel) rfl, g_in 98 (by decide +kernel) rfl, rfl, tyX0, tyX0_ok, dv_X0⟩
theorem pl_X10_36 : pL RX10 36 yX0_init := Or.inl (g_in 232 (by decide +kernel) rfl)
theorem pw_X10_39 : pW RX10 "<init>" 39 10 1 (.object "PlugBoard$Board") := ⟨RX10, TX10, 9, rfl, by decide, rfl, Or.inl ⟨g_in 403 (by decide +kernel) rfl, Or.inr ⟨rfl, rfl, rfl⟩⟩, by decide +kernel⟩
def df_X1 : List Value := [.null, .null, .null, .int 0, .int 0, .long 0, .null]
theorem dv_X1 : ∀ j, j < 7 → defaultValue (tyX1 j) = vp_V df_X1 j := by decide +kernel
theorem pn_X10_43 : pN RX10 43 1 df_X1 := ⟨RX1, TX1, 7, rfl, g_in 335 (by decide +kernel) rfl, g_in 336 (by decide +kernel) rfl, g_in 102 (by decide +kernel) rfl, rfl, tyX1, tyX1_ok, dv_X1⟩
theorem pf_X10_39 : pF RX10 39 10 1 := ⟨RX10, TX10, 9, rfl, by decide, rfl, Or.inl (g_in 403 (by decide +kernel) rfl)⟩
theorem py_X1_init : pY yX1_init cX1_init 2 none 1 := ⟨g_in 339 (by decide +kernel) rfl, g_in 102 (by decide +kernel) rfl, by decide, by decide, by decide +kernel⟩
theorem pm_X1_init : Cond.instanceMethod yX1_init ∈ g_tbl := g_in 338 (by decide +kernel) rfl
theorem pl_X10_45 : pL RX10 45 yX1_init := Or.inl (g_in 337 (by decide +kernel) rfl)
theorem pw_X10_48 : pW RX10 "<init>" 48 10 2 (.object "PlugBoard$Maker") := ⟨RX10, TX10, 9, rfl, by decide, rfl, Or.inl ⟨g_in 404 (by decide +kernel) rfl, Or.inr ⟨rfl, rfl, rfl⟩⟩, by decide +kernel⟩
theorem pw_X10_52 : pW RX10 "<init>" 52 10 3 (.object "PlugBoard$Board") := ⟨RX10, TX10, 9, rfl, by decide, rfl, Or.inl ⟨g_in 405 (by decide +kernel) rfl, Or.inr ⟨rfl, rfl, rfl⟩⟩, by decide +kernel⟩
theorem pf_X10_52 : pF RX10 52 10 3 := ⟨RX10, TX10, 9, rfl, by decide, rfl, Or.inl (g_in 405 (by decide +kernel) rfl)⟩
theorem pw_X10_55 : pW RX10 "<init>" 55 10 4 (.object "PlugBoard$Maker") := ⟨RX10, TX10, 9, rfl, by decide, rfl, Or.inl ⟨g_in 406 (by decide +kernel) rfl, Or.inr ⟨rfl, rfl, rfl⟩⟩, by decide +kernel⟩
def df_X5 : List Value := [.null, .int 0, .null, .null, .int 0, .null, .int 0, .long 0, .int 0]
theorem dv_X5 : ∀ j, j < 9 → defaultValue (tyX5 j) = vp_V df_X5 j := by decide +kernel
theorem pn_X10_58 : pN RX10 58 5 df_X5 := ⟨RX5, TX5, 9, rfl, g_in 363 (by decide +kernel) rfl, g_in 364 (by decide +kernel) rfl, g_in 103 (by decide +kernel) rfl, rfl, tyX5, tyX5_ok, dv_X5⟩
theorem py_X5_init : pY yX5_init cX5_init 2 none 1 := ⟨g_in 367 (by decide +kernel) rfl, g_in 103 (by decide +kernel) rfl, by decide, by decide, by decide +kernel⟩
theorem pm_X5_init : Cond.instanceMethod yX5_init ∈ g_tbl := g_in 366 (by decide +kernel) rfl
theorem pl_X10_60 : pL RX10 60 yX5_init := Or.inl (g_in 365 (by decide +kernel) rfl)
theorem pw_X10_61 : pW RX10 "<init>" 61 10 5 (.object "PlugBoard$Plan") := ⟨RX10, TX10, 9, rfl, by decide, rfl, Or.inl ⟨g_in 407 (by decide +kernel) rfl, Or.inr ⟨rfl, rfl, rfl⟩⟩, by decide +kernel⟩
theorem d_X10_init_0 : decAL cX10_init 0 0 1 := Or.inr ⟨0, rfl, by decide +kernel, rfl⟩
theorem d_X10_init_1 : dec 3 cX10_init 1 (.invokespecial 3) 4 := ⟨by decide +kernel, rfl⟩
theorem d_X10_init_4 : decAL cX10_init 4 0 5 := Or.inr ⟨0, rfl, by decide +kernel, rfl⟩
theorem d_X10_init_5 : dec 3 cX10_init 5 (.new 9) 8 := ⟨by decide +kernel, rfl⟩
theorem d_X10_init_8 : dec 1 cX10_init 8 .dup 9 := ⟨by decide +kernel, rfl⟩
theorem d_X10_init_9 : dec 3 cX10_init 9 (.invokespecial 11) 12 := ⟨by decide +kernel, rfl⟩
theorem d_X10_init_12 : dec 3 cX10_init 12 (.putfield 12) 15 := ⟨by decide +kernel, rfl⟩
theorem d_X10_init_15 : decAL cX10_init 15 0 16 := Or.inr ⟨0, rfl, by decide +kernel, rfl⟩
theorem d_X10_init_16 : dec 3 cX10_init 16 (.new 16) 19 := ⟨by decide +kernel, rfl⟩
theorem d_X10_init_19 : dec 1 cX10_init 19 .dup 20 := ⟨by decide +kernel, rfl⟩
theorem d_X10_init_20 : dec 3 cX10_init 20 (.invokespecial 18) 23 := ⟨by decide +kernel, rfl⟩
theorem d_X10_init_23 : dec 3 cX10_init 23 (.putfield 19) 26 := ⟨by decide +kernel, rfl⟩
theorem d_X10_init_26 : decAL cX10_init 26 0 27 := Or.inr ⟨0, rfl, by decide +kernel, rfl⟩
theorem d_X10_init_27 : dec 1 cX10_init 27 (.iconst 3) 28 := ⟨by decide +kernel, rfl⟩
theorem d_X10_init_28 : dec 3 cX10_init 28 (.anewarray 23) 31 := ⟨by decide +kernel, rfl⟩
theorem d_X10_init_31 : dec 3 cX10_init 31 (.putfield 25) 34 := ⟨by decide +kernel, rfl⟩
theorem d_X10_init_34 : decAL cX10_init 34 0 35 := Or.inr ⟨0, rfl, by decide +kernel, rfl⟩
theorem d_X10_init_35 : dec 1 cX10_init 35 (.iconst 3) 36 := ⟨by decide +kernel, rfl⟩
theorem d_X10_init_36 : dec 3 cX10_init 36 (.anewarray 9) 39 := ⟨by decide +kernel, rfl⟩
theorem d_X10_init_39 : dec 3 cX10_init 39 (.putfield 29) 42 := ⟨by decide +kernel, rfl⟩
theorem d_X10_init_42 : dec 3 cX10_init 42 (.new 33) 45 := ⟨by decide +kernel, rfl⟩
theorem d_X10_init_45 : dec 1 cX10_init 45 .dup 46 := ⟨by decide +kernel, rfl⟩
theorem d_X10_init_46 : dec 3 cX10_init 46 (.invokespecial 35) 49 := ⟨by decide +kernel, rfl⟩
theorem d_X10_init_49 : decAS cX10_init 49 1 50 := Or.inr ⟨1, rfl, by decide +kernel, rfl⟩
theorem d_X10_init_50 : decAL cX10_init 50 0 51 := Or.inr ⟨0, rfl, by decide +kernel, rfl⟩
theorem d_X10_init_51 : dec 3 cX10_init 51 (.new 23) 54 := ⟨by decide +kernel, rfl⟩
theorem d_X10_init_54 : dec 1 cX10_init 54 .dup 55 := ⟨by decide +kernel, rfl⟩
theorem d_X10_init_55 : decAL cX10_init 55 1 56 := Or.inr ⟨1, rfl, by decide +kernel, rfl⟩
theorem d_X10_init_56 : dec 3 cX10_init 56 (.invokespecial 36) 59 := ⟨by decide +kernel, rfl⟩
theorem d_X10_init_59 : dec 3 cX10_init 59 (.putfield 39) 62 := ⟨by decide +kernel, rfl⟩
theorem d_X10_init_62 : decAL cX10_init 62 0 63 := Or.inr ⟨0, rfl, by decide +kernel, rfl⟩
theorem d_X10_init_63 : dec 3 cX10_init 63 (.new 43) 66 := ⟨by decide +kernel, rfl⟩
theorem d_X10_init_66 : dec 1 cX10_init 66 .dup 67 := ⟨by decide +kernel, rfl⟩
theorem d_X10_init_67 : decAL cX10_init 67 0 68 := Or.inr ⟨0, rfl, by decide +kernel, rfl⟩
theorem d_X10_init_68 : dec 3 cX10_init 68 (.getfield 39) 71 := ⟨by decide +kernel, rfl⟩
theorem d_X10_init_71 : dec 3 cX10_init 71 (.invokespecial 45) 74 := ⟨by decide +kernel, rfl⟩
theorem d_X10_init_74 : dec 3 cX10_init 74 (.putfield 48) 77 := ⟨by decide +kernel, rfl⟩
theorem d_X10_init_77 : decAL cX10_init 77 0 78 := Or.inr ⟨0, rfl, by decide +kernel, rfl⟩
theorem d_X10_init_78 : dec 3 cX10_init 78 (.new 23) 81 := ⟨by decide +kernel, rfl⟩
theorem d_X10_init_81 : dec 1 cX10_init 81 .dup 82 := ⟨by decide +kernel, rfl⟩
theorem d_X10_init_82 : decAL cX10_init 82 1 83 := Or.inr ⟨1, rfl, by decide +kernel, rfl⟩
theorem d_X10_init_83 : dec 3 cX10_init 83 (.invokespecial 36) 86 := ⟨by decide +kernel, rfl⟩
theorem d_X10_init_86 : dec 3 cX10_init 86 (.putfield 52) 89 := ⟨by decide +kernel, rfl⟩
theorem d_X10_init_89 : decAL cX10_init 89 0 90 := Or.inr ⟨0, rfl, by decide +kernel, rfl⟩
theorem d_X10_init_90 : dec 3 cX10_init 90 (.new 43) 93 := ⟨by decide +kernel, rfl⟩
theorem d_X10_init_93 : dec 1 cX10_init 93 .dup 94 := ⟨by decide +kernel, rfl⟩
theorem d_X10_init_94 : decAL cX10_init 94 0 95 := Or.inr ⟨0, rfl, by decide +kernel, rfl⟩
theorem d_X10_init_95 : dec 3 cX10_init 95 (.getfield 52) 98 := ⟨by decide +kernel, rfl⟩
theorem d_X10_init_98 : dec 3 cX10_init 98 (.invokespecial 45) 101 := ⟨by decide +kernel, rfl⟩
theorem d_X10_init_101 : dec 3 cX10_init 101 (.putfield 55) 104 := ⟨by decide +kernel, rfl⟩
theorem d_X10_init_104 : decAL cX10_init 104 0 105 := Or.inr ⟨0, rfl, by decide +kernel, rfl⟩
theorem d_X10_init_105 : dec 3 cX10_init 105 (.new 58) 108 := ⟨by decide +kernel, rfl⟩
theorem d_X10_init_108 : dec 1 cX10_init 108 .dup 109 := ⟨by decide +kernel, rfl⟩
theorem d_X10_init_109 : decAL cX10_init 109 1 110 := Or.inr ⟨1, rfl, by decide +kernel, rfl⟩
theorem d_X10_init_110 : dec 3 cX10_init 110 (.invokespecial 60) 113 := ⟨by decide +kernel, rfl⟩
theorem d_X10_init_113 : dec 3 cX10_init 113 (.putfield 61) 116 := ⟨by decide +kernel, rfl⟩
theorem d_X10_init_116 : dec 1 cX10_init 116 .return_ 117 := ⟨by decide +kernel, rfl⟩
def f_X10_init (F : Nat)  (v0 : Nat) (n : Nat) (G : GH) : Option (Nat × GH) :=
  csU (f_X2_init F n (n + 1) (gset G n (.inr (2, df_X2)))) (fun (n1 : Nat) (G2 : GH) =>
  Option.bind (pV G2 v0 10 0 (.ref n)) (fun (G3 : GH) =>
  csU (f_X4_init F n1 (n1 + 1) (gset G3 n1 (.inr (4, df_X4)))) (fun (n4 : Nat) (G5 : GH) =>
  Option.bind (pV G5 v0 10 6 (.ref n1)) (fun (G6 : GH) =>
  Option.bind (pV (gset G6 n4 (.inl (4, 3, .inr (.inr (.inr (.inr (fun _ => none))))))) v0 10 7 (.ref n4)) (fun (G7 : GH) =>
  Option.bind (pV (gset G7 (n4 + 1) (.inl (5, 3, .inr (.inr (.inr (.inr (fun _ => none))))))) v0 10 8 (.ref (n4 + 1))) (fun (G8 : GH) =>
  csU (f_X3_init F ((n4 + 1) + 1) (((n4 + 1) + 1) + 1) (gset G8 ((n4 + 1) + 1) (.inr (3, df_X3)))) (fun (n9 : Nat) (G10 : GH) =>
  csU (f_X0_init F n9 ((n4 + 1) + 1) (n9 + 1) (gset G10 n9 (.inr (0, df_X0)))) (fun (n11 : Nat) (G12 : GH) =>
  Option.bind (pV G12 v0 10 1 (.ref n9)) (fun (G13 : GH) =>
  Option.bind (gR (gset G13 n11 (.inr (1, df_X1))) v0 10 1) (fun (x14 : Nat) =>
  csU (f_X1_init F n11 x14 (n11 + 1) (gset G13 n11 (.inr (1, df_X1)))) (fun (n15 : Nat) (G16 : GH) =>
  Option.bind (pV G16 v0 10 2 (.ref n11)) (fun (G17 : GH) =>
  csU (f_X0_init F n15 ((n4 + 1) + 1) (n15 + 1) (gset G17 n15 (.inr (0, df_X0)))) (fun (n18 : Nat) (G19 : GH) =>
  Option.bind (pV G19 v0 10 3 (.ref n15)) (fun (G20 : GH) =>
  Option.bind (gR (gset G20 n18 (.inr (1, df_X1))) v0 10 3) (fun (x21 : Nat) =>
  csU (f_X1_init F n18 x21 (n18 + 1) (gset G20 n18 (.inr (1, df_X1)))) (fun (n22 : Nat) (G23 : GH) =>
  Option.bind (pV G23 v0 10 4 (.ref n18)) (fun (G24 : GH) =>
  csU (f_X5_init F n22 ((n4 + 1) + 1) (n22 + 1) (gset G24 n22 (.inr (5, df_X5)))) (fun (n25 : Nat) (G26 : GH) =>
  Option.bind (pV G26 v0 10 5 (.ref n22)) (fun (G27 : GH) =>
  some (n25, G27))))))))))))))))))))
set_option maxRecDepth 100000 in
set_option maxHeartbeats 4000000 in
theorem s_X10_init {E : GE} {F : Nat}  {v0 : Nat} {n : Nat} {G : GH} {z : Nat × GH}  (h : f_X10_init F  v0 n G = some z) : GM E yX10_init cX10_init 2 none 3 81 51 2589 [.ref v0] n G (none, z.1, z.2) := by
  refine GM.of (by decide) (Nat.le_of_ble_eq_true rfl) ?_
  show WG E RX10 "<init>" cX10_init 2 none 3 81 51 2589 0 [(0, .ref v0)] [] n G (g_O E (none, z.1, z.2))
  unfold f_X10_init at h
  refine r_aload d_X10_init_0 rfl ?_
  refine r_obj d_X10_init_1 qol_X10_3 qoi qoc rfl rfl ?_
  refine r_aload d_X10_init_4 rfl ?_
  refine r_new d_X10_init_5 pn_X10_9 rfl rfl ?_
  refine r_dup d_X10_init_8 rfl ?_
  refine r_invN [] h (fun _ hq => s_X2_init hq) d_X10_init_9 pl_X10_11 py_X2_init pm_X2_init rfl rfl rfl rfl (fun n1 G2 h => ?_)
  refine r_put h d_X10_init_12 pw_X10_12 rfl rfl (fun G3 h => ?_)
  refine r_aload d_X10_init_15 rfl ?_
  refine r_new d_X10_init_16 pn_X10_16 rfl rfl ?_
  refine r_dup d_X10_init_19 rfl ?_
  refine r_invN [] h (fun _ hq => s_X4_init hq) d_X10_init_20 pl_X10_18 py_X4_init pm_X4_init rfl rfl rfl rfl (fun n4 G5 h => ?_)
  refine r_put h d_X10_init_23 pw_X10_19 rfl rfl (fun G6 h => ?_)
  refine r_aload d_X10_init_26 rfl ?_
  refine r_iconst d_X10_init_27 ic_3 ?_
  refine r_anew4 (N := 3) d_X10_init_28 qc_X10_23 (by decide) (by decide) rfl rfl rfl ?_
  refine r_put h d_X10_init_31 pw_X10_25 rfl rfl (fun G7 h => ?_)
  refine r_aload d_X10_init_34 rfl ?_
  refine r_iconst d_X10_init_35 ic_3 ?_
  refine r_anew5 (N := 3) d_X10_init_36 qc_X10_9 (by decide) (by decide) rfl rfl rfl ?_
  refine r_put h d_X10_init_39 pw_X10_29 rfl rfl (fun G8 h => ?_)
  refine r_new d_X10_init_42 pn_X10_33 rfl rfl ?_
  refine r_dup d_X10_init_45 rfl ?_
  refine r_invN [] h (fun _ hq => s_X3_init hq) d_X10_init_46 pl_X10_35 py_X3_init pm_X3_init rfl rfl rfl rfl (fun n9 G10 h => ?_)
  refine r_astore d_X10_init_49 rfl rfl ?_
  refine r_aload d_X10_init_50 rfl ?_
  refine r_new d_X10_init_51 pn_X10_23 rfl rfl ?_
  refine r_dup d_X10_init_54 rfl ?_
  refine r_aload d_X10_init_55 rfl ?_
  refine r_invN [_] h (fun _ hq => s_X0_init hq) d_X10_init_56 pl_X10_36 py_X0_init pm_X0_init rfl rfl rfl rfl (fun n11 G12 h => ?_)
  refine r_put h d_X10_init_59 pw_X10_39 rfl rfl (fun G13 h => ?_)
  refine r_aload d_X10_init_62 rfl ?_
  refine r_new d_X10_init_63 pn_X10_43 rfl rfl ?_
  refine r_dup d_X10_init_66 rfl ?_
  refine r_aload d_X10_init_67 rfl ?_
  refine r_getR h d_X10_init_68 pf_X10_39 (fun x14 h => ?_)
  refine r_invN [_] h (fun _ hq => s_X1_init hq) d_X10_init_71 pl_X10_45 py_X1_init pm_X1_init rfl rfl rfl rfl (fun n15 G16 h => ?_)
  refine r_put h d_X10_init_74 pw_X10_48 rfl rfl (fun G17 h => ?_)
  refine r_aload d_X10_init_77 rfl ?_
  refine r_new d_X10_init_78 pn_X10_23 rfl rfl ?_
  refine r_dup d_X10_init_81 rfl ?_
  refine r_aload d_X10_init_82 rfl ?_
  refine r_invN [_] h (fun _ hq => s_X0_init hq) d_X10_init_83 pl_X10_36 py_X0_init pm_X0_init rfl rfl rfl rfl (fun n18 G19 h => ?_)
  refine r_put h d_X10_init_86 pw_X10_52 rfl rfl (fun G20 h => ?_)
  refine r_aload d_X10_init_89 rfl ?_
  refine r_new d_X10_init_90 pn_X10_43 rfl rfl ?_
  refine r_dup d_X10_init_93 rfl ?_
  refine r_aload d_X10_init_94 rfl ?_
  refine r_getR h d_X10_init_95 pf_X10_52 (fun x21 h => ?_)
  refine r_invN [_] h (fun _ hq => s_X1_init hq) d_X10_init_98 pl_X10_45 py_X1_init pm_X1_init rfl rfl rfl rfl (fun n22 G23 h => ?_)
  refine r_put h d_X10_init_101 pw_X10_55 rfl rfl (fun G24 h => ?_)
  refine r_aload d_X10_init_104 rfl ?_
  refine r_new d_X10_init_105 pn_X10_58 rfl rfl ?_
  refine r_dup d_X10_init_108 rfl ?_
  refine r_aload d_X10_init_109 rfl ?_
  refine r_invN [_] h (fun _ hq => s_X5_init hq) d_X10_init_110 pl_X10_60 py_X5_init pm_X5_init rfl rfl rfl rfl (fun n25 G26 h => ?_)
  refine r_put h d_X10_init_113 pw_X10_61 rfl rfl (fun G27 h => ?_)
  exact r_vret h d_X10_init_116
/-! X10_type -/
theorem pf_X10_12 : pF RX10 12 10 0 := ⟨RX10, TX10, 9, rfl, by decide, rfl, Or.inl (g_in 402 (by decide +kernel) rfl)⟩
theorem py_X2_append : pY yX2_append cX2_append 5 (some .int) 1 := ⟨g_in 437 (by decide +kernel) rfl, g_in 95 (by decide +kernel) rfl, by decide, by decide, by decide +kernel⟩
theorem pi_X2_append : pI yX2_append 2 := ⟨g_in 435 (by decide +kernel) rfl, g_in 436 (by decide +kernel) rfl, (RX2, TX2, 4), rfl, rfl⟩
theorem pl_X10_65 : pL RX10 65 yX2_append := Or.inl (g_in 434 (by decide +kernel) rfl)
theorem d_X10_type_0 : decAL cX10_type 0 0 1 := Or.inr ⟨0, rfl, by decide +kernel, rfl⟩
theorem d_X10_type_1 : dec 3 cX10_type 1 (.getfield 12) 4 := ⟨by decide +kernel, rfl⟩
theorem d_X10_type_4 : decLL cX10_type 4 1 5 := Or.inr ⟨1, rfl, by decide +kernel, rfl⟩
theorem d_X10_type_5 : dec 3 cX10_type 5 (.invokevirtual 65) 8 := ⟨by decide +kernel, rfl⟩
theorem d_X10_type_8 : dec 1 cX10_type 8 .ireturn 9 := ⟨by decide +kernel, rfl⟩
def f_X10_type (F : Nat)  (v0 : Nat) (v1 : Int64) (n : Nat) (G : GH) : Option (Int32 × Nat × GH) :=
  Option.bind (gR G v0 10 0) (fun (x1 : Nat) =>
  cvI G x1 2 (f_X2_append F x1 v1 n G) (fun (x4 : Int32) (n2 : Nat) (G3 : GH) =>
  some (x4, n2, G3)))
set_option maxRecDepth 100000 in
set_option maxHeartbeats 4000000 in
theorem s_X10_type {E : GE} {F : Nat}  {v0 : Nat} {v1 : Int64} {n : Nat} {G : GH} {z : Int32 × Nat × GH}  (h : f_X10_type F  v0 v1 n G = some z) : GM E yX10_type cX10_type 3 (some .int) 2 46 0 0 [.ref v0, .long v1] n G (some (.int z.1), z.2.1, z.2.2) := by
  refine GM.of (by decide) (Nat.le_of_ble_eq_true rfl) ?_
  show WG E RX10 "type" cX10_type 3 (some .int) 2 46 0 0 0 [(0, .ref v0), (1, .long v1)] [] n G (g_O E (some (.int z.1), z.2.1, z.2.2))
  unfold f_X10_type at h
  refine r_aload d_X10_type_0 rfl ?_
  refine r_getR h d_X10_type_1 pf_X10_12 (fun x1 h => ?_)
  refine r_lload d_X10_type_4 rfl ?_
  refine r_invI [_] h (fun _ hq => s_X2_append hq) d_X10_type_5 pl_X10_65 py_X2_append pi_X2_append rfl rfl rfl (fun x4 n2 G3 h => ?_)
  exact r_iret h d_X10_type_8
/-! X10_read -/
def df_X6 : List Value := [.null, .null, .null, .int 0, .int 0, .int 0, .int 0, .int 0]
theorem dv_X6 : ∀ j, j < 8 → defaultValue (tyX6 j) = vp_V df_X6 j := by decide +kernel
theorem pn_X10_69 : pN RX10 69 6 df_X6 := ⟨RX6, TX6, 8, rfl, g_in 445 (by decide +kernel) rfl, g_in 446 (by decide +kernel) rfl, g_in 105 (by decide +kernel) rfl, rfl, tyX6, tyX6_ok, dv_X6⟩
theorem py_X6_init : pY yX6_init cX6_init 2 none 1 := ⟨g_in 449 (by decide +kernel) rfl, g_in 105 (by decide +kernel) rfl, by decide, by decide, by decide +kernel⟩
theorem pm_X6_init : Cond.instanceMethod yX6_init ∈ g_tbl := g_in 448 (by decide +kernel) rfl
theorem pl_X10_71 : pL RX10 71 yX6_init := Or.inl (g_in 447 (by decide +kernel) rfl)
theorem py_X6_readAll : pY yX6_readAll cX6_readAll 2 none 0 := ⟨g_in 513 (by decide +kernel) rfl, g_in 105 (by decide +kernel) rfl, by decide, by decide, by decide +kernel⟩
theorem pi_X6_readAll : pI yX6_readAll 6 := ⟨g_in 511 (by decide +kernel) rfl, g_in 512 (by decide +kernel) rfl, (RX6, TX6, 8), rfl, rfl⟩
theorem pl_X10_74 : pL RX10 74 yX6_readAll := Or.inl (g_in 510 (by decide +kernel) rfl)
theorem pf_X10_77 : pF RX10 77 6 6 := ⟨RX6, TX6, 8, rfl, by decide, rfl, Or.inr ⟨"PlugBoard", g_in 490 (by decide +kernel) rfl⟩⟩
theorem pf_X10_81 : pF RX10 81 6 7 := ⟨RX6, TX6, 8, rfl, by decide, rfl, Or.inr ⟨"PlugBoard", g_in 492 (by decide +kernel) rfl⟩⟩
theorem py_X2_clear : pY yX2_clear cX2_clear 3 none 2 := ⟨g_in 657 (by decide +kernel) rfl, g_in 95 (by decide +kernel) rfl, by decide, by decide, by decide +kernel⟩
theorem pi_X2_clear : pI yX2_clear 2 := ⟨g_in 655 (by decide +kernel) rfl, g_in 656 (by decide +kernel) rfl, (RX2, TX2, 4), rfl, rfl⟩
theorem pl_X10_84 : pL RX10 84 yX2_clear := Or.inl (g_in 654 (by decide +kernel) rfl)
theorem pf_X10_88 : pF RX10 88 6 1 := ⟨RX6, TX6, 8, rfl, by decide, rfl, Or.inr ⟨"PlugBoard", g_in 484 (by decide +kernel) rfl⟩⟩
theorem py_X0_reset : pY yX0_reset cX0_reset 2 none 1 := ⟨g_in 661 (by decide +kernel) rfl, g_in 98 (by decide +kernel) rfl, by decide, by decide, by decide +kernel⟩
theorem pi_X0_reset : pI yX0_reset 0 := ⟨g_in 659 (by decide +kernel) rfl, g_in 660 (by decide +kernel) rfl, (RX0, TX0, 6), rfl, rfl⟩
theorem pl_X10_92 : pL RX10 92 yX0_reset := Or.inl (g_in 658 (by decide +kernel) rfl)
theorem pf_X10_19 : pF RX10 19 10 6 := ⟨RX10, TX10, 9, rfl, by decide, rfl, Or.inl (g_in 408 (by decide +kernel) rfl)⟩
theorem py_X4_clear : pY yX4_clear cX4_clear 1 none 0 := ⟨g_in 669 (by decide +kernel) rfl, g_in 96 (by decide +kernel) rfl, by decide, by decide, by decide +kernel⟩
theorem pi_X4_clear : pI yX4_clear 4 := ⟨g_in 667 (by decide +kernel) rfl, g_in 668 (by decide +kernel) rfl, (RX4, TX4, 3), rfl, rfl⟩
theorem pl_X10_95 : pL RX10 95 yX4_clear := Or.inl (g_in 666 (by decide +kernel) rfl)
theorem pf_X10_97 : pF RX10 97 0 0 := ⟨RX0, TX0, 6, rfl, by decide, rfl, Or.inr ⟨"PlugBoard", g_in 307 (by decide +kernel) rfl⟩⟩
theorem pf_X10_98 : pF RX10 98 3 0 := ⟨RX3, TX3, 9, rfl, by decide, rfl, Or.inr ⟨"PlugBoard", g_in 180 (by decide +kernel) rfl⟩⟩
theorem d_X10_read_0 : dec 3 cX10_read 0 (.new 69) 3 := ⟨by decide +kernel, rfl⟩
theorem d_X10_read_3 : dec 1 cX10_read 3 .dup 4 := ⟨by decide +kernel, rfl⟩
theorem d_X10_read_4 : decAL cX10_read 4 0 5 := Or.inr ⟨0, rfl, by decide +kernel, rfl⟩
theorem d_X10_read_5 : dec 3 cX10_read 5 (.getfield 12) 8 := ⟨by decide +kernel, rfl⟩
theorem d_X10_read_8 : dec 3 cX10_read 8 (.invokespecial 71) 11 := ⟨by decide +kernel, rfl⟩
theorem d_X10_read_11 : decAS cX10_read 11 1 12 := Or.inr ⟨1, rfl, by decide +kernel, rfl⟩
theorem d_X10_read_12 : decAL cX10_read 12 1 13 := Or.inr ⟨1, rfl, by decide +kernel, rfl⟩
theorem d_X10_read_13 : dec 3 cX10_read 13 (.invokevirtual 74) 16 := ⟨by decide +kernel, rfl⟩
theorem d_X10_read_16 : decAL cX10_read 16 0 17 := Or.inr ⟨0, rfl, by decide +kernel, rfl⟩
theorem d_X10_read_17 : dec 3 cX10_read 17 (.getfield 12) 20 := ⟨by decide +kernel, rfl⟩
theorem d_X10_read_20 : decAL cX10_read 20 1 21 := Or.inr ⟨1, rfl, by decide +kernel, rfl⟩
theorem d_X10_read_21 : dec 3 cX10_read 21 (.getfield 77) 24 := ⟨by decide +kernel, rfl⟩
theorem d_X10_read_24 : decAL cX10_read 24 1 25 := Or.inr ⟨1, rfl, by decide +kernel, rfl⟩
theorem d_X10_read_25 : dec 3 cX10_read 25 (.getfield 81) 28 := ⟨by decide +kernel, rfl⟩
theorem d_X10_read_28 : dec 3 cX10_read 28 (.invokevirtual 84) 31 := ⟨by decide +kernel, rfl⟩
theorem d_X10_read_31 : decAL cX10_read 31 1 32 := Or.inr ⟨1, rfl, by decide +kernel, rfl⟩
theorem d_X10_read_32 : dec 3 cX10_read 32 (.getfield 77) 35 := ⟨by decide +kernel, rfl⟩
theorem d_X10_read_35 : decB cX10_read 35 (.ifCond .eq 5) (5) 38 40 := ⟨by decide +kernel, rfl, by decide⟩
theorem d_X10_read_38 : dec 1 cX10_read 38 (.iconst (-1)) 39 := ⟨by decide +kernel, rfl⟩
theorem d_X10_read_39 : dec 1 cX10_read 39 .ireturn 40 := ⟨by decide +kernel, rfl⟩
theorem d_X10_read_40 : decAL cX10_read 40 0 41 := Or.inr ⟨0, rfl, by decide +kernel, rfl⟩
theorem d_X10_read_41 : dec 3 cX10_read 41 (.getfield 39) 44 := ⟨by decide +kernel, rfl⟩
theorem d_X10_read_44 : decAL cX10_read 44 1 45 := Or.inr ⟨1, rfl, by decide +kernel, rfl⟩
theorem d_X10_read_45 : dec 3 cX10_read 45 (.getfield 88) 48 := ⟨by decide +kernel, rfl⟩
theorem d_X10_read_48 : dec 3 cX10_read 48 (.invokevirtual 92) 51 := ⟨by decide +kernel, rfl⟩
theorem d_X10_read_51 : decAL cX10_read 51 0 52 := Or.inr ⟨0, rfl, by decide +kernel, rfl⟩
theorem d_X10_read_52 : dec 3 cX10_read 52 (.getfield 19) 55 := ⟨by decide +kernel, rfl⟩
theorem d_X10_read_55 : dec 3 cX10_read 55 (.invokevirtual 95) 58 := ⟨by decide +kernel, rfl⟩
theorem d_X10_read_58 : decAL cX10_read 58 0 59 := Or.inr ⟨0, rfl, by decide +kernel, rfl⟩
theorem d_X10_read_59 : dec 3 cX10_read 59 (.getfield 39) 62 := ⟨by decide +kernel, rfl⟩
theorem d_X10_read_62 : dec 3 cX10_read 62 (.getfield 97) 65 := ⟨by decide +kernel, rfl⟩
theorem d_X10_read_65 : dec 3 cX10_read 65 (.getfield 98) 68 := ⟨by decide +kernel, rfl⟩
theorem d_X10_read_68 : dec 1 cX10_read 68 .ireturn 69 := ⟨by decide +kernel, rfl⟩
def f_X10_read (F : Nat)  (v0 : Nat) (n : Nat) (G : GH) : Option (Int32 × Nat × GH) :=
  Option.bind (gR (gset G n (.inr (6, df_X6))) v0 10 0) (fun (x1 : Nat) =>
  csU (f_X6_init F n x1 (n + 1) (gset G n (.inr (6, df_X6)))) (fun (n2 : Nat) (G3 : GH) =>
  cvU G3 n 6 (f_X6_readAll F n n2 G3) (fun (n4 : Nat) (G5 : GH) =>
  Option.bind (gR G5 v0 10 0) (fun (x6 : Nat) =>
  Option.bind (gI G5 n 6 6) (fun (x7 : Int32) =>
  Option.bind (gI G5 n 6 7) (fun (x8 : Int32) =>
  cvU G5 x6 2 (f_X2_clear F x6 x7 x8 n4 G5) (fun (n9 : Nat) (G10 : GH) =>
  Option.bind (gI G10 n 6 6) (fun (x11 : Int32) =>
  if x11 = 0 then
  (Option.bind (gR G10 v0 10 1) (fun (x12 : Nat) =>
  Option.bind (gR G10 n 6 1) (fun (x13 : Nat) =>
  cvU G10 x12 0 (f_X0_reset F x12 x13 n9 G10) (fun (n14 : Nat) (G15 : GH) =>
  Option.bind (gR G15 v0 10 6) (fun (x16 : Nat) =>
  cvU G15 x16 4 (f_X4_clear F x16 n14 G15) (fun (n17 : Nat) (G18 : GH) =>
  Option.bind (gR G18 v0 10 1) (fun (x19 : Nat) =>
  Option.bind (gR G18 x19 0 0) (fun (x20 : Nat) =>
  Option.bind (gI G18 x20 3 0) (fun (x21 : Int32) =>
  some (x21, n17, G18))))))))))
  else (some ((-1 : Int32), n9, G10))))))))))
set_option maxRecDepth 100000 in
set_option maxHeartbeats 4000000 in
theorem s_X10_read {E : GE} {F : Nat}  {v0 : Nat} {n : Nat} {G : GH} {z : Int32 × Nat × GH}  (h : f_X10_read F  v0 n G = some z) : GM E yX10_read cX10_read 2 (some .int) 9 191 12 167 [.ref v0] n G (some (.int z.1), z.2.1, z.2.2) := by
  refine GM.of (by decide) (Nat.le_of_ble_eq_true rfl) ?_
  show WG E RX10 "read" cX10_read 2 (some .int) 9 191 12 167 0 [(0, .ref v0)] [] n G (g_O E (some (.int z.1), z.2.1, z.2.2))
  unfold f_X10_read at h
  refine r_new d_X10_read_0 pn_X10_69 rfl rfl ?_
  refine r_dup d_X10_read_3 rfl ?_
  refine r_aload d_X10_read_4 rfl ?_
  refine r_getR h d_X10_read_5 pf_X10_12 (fun x1 h => ?_)
  refine r_invN [_] h (fun _ hq => s_X6_init hq) d_X10_read_8 pl_X10_71 py_X6_init pm_X6_init rfl rfl rfl rfl (fun n2 G3 h => ?_)
  refine r_astore d_X10_read_11 rfl rfl ?_
  refine r_aload d_X10_read_12 rfl ?_
  refine r_invU [] h (fun _ hq => s_X6_readAll hq) d_X10_read_13 pl_X10_74 py_X6_readAll pi_X6_readAll rfl rfl rfl (fun n4 G5 h => ?_)
  refine r_aload d_X10_read_16 rfl ?_
  refine r_getR h d_X10_read_17 pf_X10_12 (fun x6 h => ?_)
  refine r_aload d_X10_read_20 rfl ?_
  refine r_getI h d_X10_read_21 pf_X10_77 (fun x7 h => ?_)
  refine r_aload d_X10_read_24 rfl ?_
  refine r_getI h d_X10_read_25 pf_X10_81 (fun x8 h => ?_)
  refine r_invU [_, _] h (fun _ hq => s_X2_clear hq) d_X10_read_28 pl_X10_84 py_X2_clear pi_X2_clear rfl rfl rfl (fun n9 G10 h => ?_)
  refine r_aload d_X10_read_31 rfl ?_
  refine r_getI h d_X10_read_32 pf_X10_77 (fun x11 h => ?_)
  refine r_if_eq h d_X10_read_35 (fun h => ?_) (fun h => ?_)
  · refine r_aload d_X10_read_40 rfl ?_
    refine r_getR h d_X10_read_41 pf_X10_39 (fun x12 h => ?_)
    refine r_aload d_X10_read_44 rfl ?_
    refine r_getR h d_X10_read_45 pf_X10_88 (fun x13 h => ?_)
    refine r_invU [_] h (fun _ hq => s_X0_reset hq) d_X10_read_48 pl_X10_92 py_X0_reset pi_X0_reset rfl rfl rfl (fun n14 G15 h => ?_)
    refine r_aload d_X10_read_51 rfl ?_
    refine r_getR h d_X10_read_52 pf_X10_19 (fun x16 h => ?_)
    refine r_invU [] h (fun _ hq => s_X4_clear hq) d_X10_read_55 pl_X10_95 py_X4_clear pi_X4_clear rfl rfl rfl (fun n17 G18 h => ?_)
    refine r_aload d_X10_read_58 rfl ?_
    refine r_getR h d_X10_read_59 pf_X10_39 (fun x19 h => ?_)
    refine r_getR h d_X10_read_62 pf_X10_97 (fun x20 h => ?_)
    refine r_getI h d_X10_read_65 pf_X10_98 (fun x21 h => ?_)
    exact r_iret h d_X10_read_68
  · refine r_iconst d_X10_read_38 ic_m1 ?_
    exact r_iret h d_X10_read_39
/-! X10_fault -/
theorem pf_X10_102 : pF RX10 102 2 2 := ⟨RX2, TX2, 4, rfl, by decide, rfl, Or.inr ⟨"PlugBoard", g_in 137 (by decide +kernel) rfl⟩⟩
theorem pf_X10_101 : pF RX10 101 2 3 := ⟨RX2, TX2, 4, rfl, by decide, rfl, Or.inr ⟨"PlugBoard", g_in 139 (by decide +kernel) rfl⟩⟩
theorem d_X10_fault_0 : decIL cX10_fault 0 1 1 := Or.inr ⟨1, rfl, by decide +kernel, rfl⟩
theorem d_X10_fault_1 : decB cX10_fault 1 (.ifCond .eq 13) (13) 4 14 := ⟨by decide +kernel, rfl, by decide⟩
theorem d_X10_fault_4 : decAL cX10_fault 4 0 5 := Or.inr ⟨0, rfl, by decide +kernel, rfl⟩
theorem d_X10_fault_5 : dec 3 cX10_fault 5 (.getfield 12) 8 := ⟨by decide +kernel, rfl⟩
theorem d_X10_fault_8 : dec 3 cX10_fault 8 (.getfield 101) 11 := ⟨by decide +kernel, rfl⟩
theorem d_X10_fault_11 : decB cX10_fault 11 (.goto 10) (10) 14 21 := ⟨by decide +kernel, rfl, by decide⟩
theorem d_X10_fault_14 : decAL cX10_fault 14 0 15 := Or.inr ⟨0, rfl, by decide +kernel, rfl⟩
theorem d_X10_fault_15 : dec 3 cX10_fault 15 (.getfield 12) 18 := ⟨by decide +kernel, rfl⟩
theorem d_X10_fault_18 : dec 3 cX10_fault 18 (.getfield 102) 21 := ⟨by decide +kernel, rfl⟩
theorem d_X10_fault_21 : dec 1 cX10_fault 21 .ireturn 22 := ⟨by decide +kernel, rfl⟩
def f_X10_fault (F : Nat)  (v0 : Nat) (v1 : Int32) (G : GH) : Option (Int32) :=
  if v1 = 0 then
  (Option.bind (gR G v0 10 0) (fun (x1 : Nat) =>
  Option.bind (gI G x1 2 2) (fun (x2 : Int32) =>
  some x2)))
  else (Option.bind (gR G v0 10 0) (fun (x3 : Nat) =>
  Option.bind (gI G x3 2 3) (fun (x4 : Int32) =>
  some x4)))
set_option maxRecDepth 100000 in
set_option maxHeartbeats 4000000 in
theorem s_X10_fault {E : GE} {F : Nat}  {v0 : Nat} {v1 : Int32} {n : Nat} {G : GH} {z : Int32}  (h : f_X10_fault F  v0 v1 G = some z) : GM E yX10_fault cX10_fault 2 (some .int) 0 0 0 0 [.ref v0, .int v1] n G (some (.int z), n, G) := by
  refine GM.of (by decide) (Nat.le_of_ble_eq_true rfl) ?_
  show WG E RX10 "fault" cX10_fault 2 (some .int) 0 0 0 0 0 [(0, .ref v0), (1, .int v1)] [] n G (g_O E (some (.int z), n, G))
  unfold f_X10_fault at h
  refine r_iload d_X10_fault_0 rfl ?_
  refine r_if_eq h d_X10_fault_1 (fun h => ?_) (fun h => ?_)
  · refine r_aload d_X10_fault_14 rfl ?_
    refine r_getR h d_X10_fault_15 pf_X10_12 (fun x1 h => ?_)
    refine r_getI h d_X10_fault_18 pf_X10_102 (fun x2 h => ?_)
    exact r_pret h d_X10_fault_21
  · refine r_aload d_X10_fault_4 rfl ?_
    refine r_getR h d_X10_fault_5 pf_X10_12 (fun x3 h => ?_)
    refine r_getI h d_X10_fault_8 pf_X10_101 (fun x4 h => ?_)
    refine r_goto d_X10_fault_11 ?_
    exact r_pret h d_X10_fault_21
/-! X10_enter -/
theorem pf_X10_103 : pF RX10 103 0 1 := ⟨RX0, TX0, 6, rfl, by decide, rfl, Or.inr ⟨"PlugBoard", g_in 311 (by decide +kernel) rfl⟩⟩
theorem py_X4_keep : pY yX4_keep cX4_keep 2 none 1 := ⟨g_in 681 (by decide +kernel) rfl, g_in 96 (by decide +kernel) rfl, by decide, by decide, by decide +kernel⟩
theorem pi_X4_keep : pI yX4_keep 4 := ⟨g_in 679 (by decide +kernel) rfl, g_in 680 (by decide +kernel) rfl, (RX4, TX4, 3), rfl, rfl⟩
theorem pl_X10_106 : pL RX10 106 yX4_keep := Or.inl (g_in 678 (by decide +kernel) rfl)
theorem pw_X10_103 {nm : String} : pW RX10 nm 103 0 1 .int := ⟨RX0, TX0, 6, rfl, by decide, rfl, Or.inr ⟨rfl, "PlugBoard", g_in 311 (by decide +kernel) rfl⟩, by decide +kernel⟩
theorem d_X10_enter_0 : decAL cX10_enter 0 0 1 := Or.inr ⟨0, rfl, by decide +kernel, rfl⟩
theorem d_X10_enter_1 : dec 3 cX10_enter 1 (.getfield 39) 4 := ⟨by decide +kernel, rfl⟩
theorem d_X10_enter_4 : dec 3 cX10_enter 4 (.getfield 103) 7 := ⟨by decide +kernel, rfl⟩
theorem d_X10_enter_7 : dec 1 cX10_enter 7 (.iconst 4) 8 := ⟨by decide +kernel, rfl⟩
theorem d_X10_enter_8 : decB cX10_enter 8 (.if_icmp .lt 5) (5) 11 13 := ⟨by decide +kernel, rfl, by decide⟩
theorem d_X10_enter_11 : dec 1 cX10_enter 11 (.iconst (-1)) 12 := ⟨by decide +kernel, rfl⟩
theorem d_X10_enter_12 : dec 1 cX10_enter 12 .ireturn 13 := ⟨by decide +kernel, rfl⟩
theorem d_X10_enter_13 : decAL cX10_enter 13 0 14 := Or.inr ⟨0, rfl, by decide +kernel, rfl⟩
theorem d_X10_enter_14 : dec 3 cX10_enter 14 (.getfield 19) 17 := ⟨by decide +kernel, rfl⟩
theorem d_X10_enter_17 : decAL cX10_enter 17 0 18 := Or.inr ⟨0, rfl, by decide +kernel, rfl⟩
theorem d_X10_enter_18 : dec 3 cX10_enter 18 (.getfield 39) 21 := ⟨by decide +kernel, rfl⟩
theorem d_X10_enter_21 : dec 3 cX10_enter 21 (.invokevirtual 106) 24 := ⟨by decide +kernel, rfl⟩
theorem d_X10_enter_24 : decAL cX10_enter 24 0 25 := Or.inr ⟨0, rfl, by decide +kernel, rfl⟩
theorem d_X10_enter_25 : dec 3 cX10_enter 25 (.getfield 39) 28 := ⟨by decide +kernel, rfl⟩
theorem d_X10_enter_28 : dec 1 cX10_enter 28 .dup 29 := ⟨by decide +kernel, rfl⟩
theorem d_X10_enter_29 : dec 3 cX10_enter 29 (.getfield 103) 32 := ⟨by decide +kernel, rfl⟩
theorem d_X10_enter_32 : dec 1 cX10_enter 32 (.iconst 1) 33 := ⟨by decide +kernel, rfl⟩
theorem d_X10_enter_33 : dec 1 cX10_enter 33 .iadd 34 := ⟨by decide +kernel, rfl⟩
theorem d_X10_enter_34 : dec 3 cX10_enter 34 (.putfield 103) 37 := ⟨by decide +kernel, rfl⟩
theorem d_X10_enter_37 : decAL cX10_enter 37 0 38 := Or.inr ⟨0, rfl, by decide +kernel, rfl⟩
theorem d_X10_enter_38 : dec 3 cX10_enter 38 (.getfield 39) 41 := ⟨by decide +kernel, rfl⟩
theorem d_X10_enter_41 : dec 3 cX10_enter 41 (.getfield 103) 44 := ⟨by decide +kernel, rfl⟩
theorem d_X10_enter_44 : dec 1 cX10_enter 44 .ireturn 45 := ⟨by decide +kernel, rfl⟩
def f_X10_enter (F : Nat)  (v0 : Nat) (n : Nat) (G : GH) : Option (Int32 × Nat × GH) :=
  Option.bind (gR G v0 10 1) (fun (x1 : Nat) =>
  Option.bind (gI G x1 0 1) (fun (x2 : Int32) =>
  if x2 < (4 : Int32) then
  (Option.bind (gR G v0 10 6) (fun (x3 : Nat) =>
  Option.bind (gR G v0 10 1) (fun (x4 : Nat) =>
  cvU G x3 4 (f_X4_keep F x3 x4 n G) (fun (n5 : Nat) (G6 : GH) =>
  Option.bind (gR G6 v0 10 1) (fun (x7 : Nat) =>
  Option.bind (gI G6 x7 0 1) (fun (x8 : Int32) =>
  Option.bind (pV G6 x7 0 1 (.int (x8 + (1 : Int32)))) (fun (G9 : GH) =>
  Option.bind (gR G9 v0 10 1) (fun (x10 : Nat) =>
  Option.bind (gI G9 x10 0 1) (fun (x11 : Int32) =>
  some (x11, n5, G9))))))))))
  else (some ((-1 : Int32), n, G))))
set_option maxRecDepth 100000 in
set_option maxHeartbeats 4000000 in
theorem s_X10_enter {E : GE} {F : Nat}  {v0 : Nat} {n : Nat} {G : GH} {z : Int32 × Nat × GH}  (h : f_X10_enter F  v0 n G = some z) : GM E yX10_enter cX10_enter 1 (some .int) 4 103 13 763 [.ref v0] n G (some (.int z.1), z.2.1, z.2.2) := by
  refine GM.of (by decide) (Nat.le_of_ble_eq_true rfl) ?_
  show WG E RX10 "enter" cX10_enter 1 (some .int) 4 103 13 763 0 [(0, .ref v0)] [] n G (g_O E (some (.int z.1), z.2.1, z.2.2))
  unfold f_X10_enter at h
  refine r_aload d_X10_enter_0 rfl ?_
  refine r_getR h d_X10_enter_1 pf_X10_39 (fun x1 h => ?_)
  refine r_getI h d_X10_enter_4 pf_X10_103 (fun x2 h => ?_)
  refine r_iconst d_X10_enter_7 ic_4 ?_
  refine r_icmp_lt h d_X10_enter_8 (fun h => ?_) (fun h => ?_)
  · refine r_aload d_X10_enter_13 rfl ?_
    refine r_getR h d_X10_enter_14 pf_X10_19 (fun x3 h => ?_)
    refine r_aload d_X10_enter_17 rfl ?_
    refine r_getR h d_X10_enter_18 pf_X10_39 (fun x4 h => ?_)
    refine r_invU [_] h (fun _ hq => s_X4_keep hq) d_X10_enter_21 pl_X10_106 py_X4_keep pi_X4_keep rfl rfl rfl (fun n5 G6 h => ?_)
    refine r_aload d_X10_enter_24 rfl ?_
    refine r_getR h d_X10_enter_25 pf_X10_39 (fun x7 h => ?_)
    refine r_dup d_X10_enter_28 rfl ?_
    refine r_getI h d_X10_enter_29 pf_X10_103 (fun x8 h => ?_)
    refine r_iconst d_X10_enter_32 ic_1 ?_
    refine r_iadd d_X10_enter_33 ?_
    refine r_put h d_X10_enter_34 pw_X10_103 rfl rfl (fun G9 h => ?_)
    refine r_aload d_X10_enter_37 rfl ?_
    refine r_getR h d_X10_enter_38 pf_X10_39 (fun x10 h => ?_)
    refine r_getI h d_X10_enter_41 pf_X10_103 (fun x11 h => ?_)
    exact r_iret h d_X10_enter_44
  · refine r_iconst d_X10_enter_11 ic_m1 ?_
    exact r_iret h d_X10_enter_12
/-! X10_leave -/
theorem py_X0_leaveScope : pY yX0_leaveScope cX0_leaveScope 2 (some .int) 0 := ⟨g_in 708 (by decide +kernel) rfl, g_in 98 (by decide +kernel) rfl, by decide, by decide, by decide +kernel⟩
theorem pi_X0_leaveScope : pI yX0_leaveScope 0 := ⟨g_in 706 (by decide +kernel) rfl, g_in 707 (by decide +kernel) rfl, (RX0, TX0, 6), rfl, rfl⟩
theorem pl_X10_109 : pL RX10 109 yX0_leaveScope := Or.inl (g_in 705 (by decide +kernel) rfl)
theorem d_X10_leave_0 : decAL cX10_leave 0 0 1 := Or.inr ⟨0, rfl, by decide +kernel, rfl⟩
theorem d_X10_leave_1 : dec 3 cX10_leave 1 (.getfield 19) 4 := ⟨by decide +kernel, rfl⟩
theorem d_X10_leave_4 : decAL cX10_leave 4 0 5 := Or.inr ⟨0, rfl, by decide +kernel, rfl⟩
theorem d_X10_leave_5 : dec 3 cX10_leave 5 (.getfield 39) 8 := ⟨by decide +kernel, rfl⟩
theorem d_X10_leave_8 : dec 3 cX10_leave 8 (.invokevirtual 106) 11 := ⟨by decide +kernel, rfl⟩
theorem d_X10_leave_11 : decAL cX10_leave 11 0 12 := Or.inr ⟨0, rfl, by decide +kernel, rfl⟩
theorem d_X10_leave_12 : dec 3 cX10_leave 12 (.getfield 39) 15 := ⟨by decide +kernel, rfl⟩
theorem d_X10_leave_15 : dec 3 cX10_leave 15 (.invokevirtual 109) 18 := ⟨by decide +kernel, rfl⟩
theorem d_X10_leave_18 : dec 1 cX10_leave 18 .ireturn 19 := ⟨by decide +kernel, rfl⟩
def f_X10_leave (F : Nat)  (v0 : Nat) (n : Nat) (G : GH) : Option (Int32 × Nat × GH) :=
  Option.bind (gR G v0 10 6) (fun (x1 : Nat) =>
  Option.bind (gR G v0 10 1) (fun (x2 : Nat) =>
  cvU G x1 4 (f_X4_keep F x1 x2 n G) (fun (n3 : Nat) (G4 : GH) =>
  Option.bind (gR G4 v0 10 1) (fun (x5 : Nat) =>
  cvI G4 x5 0 (f_X0_leaveScope F x5 n3 G4) (fun (x8 : Int32) (n6 : Nat) (G7 : GH) =>
  some (x8, n6, G7))))))
set_option maxRecDepth 100000 in
set_option maxHeartbeats 4000000 in
theorem s_X10_leave {E : GE} {F : Nat}  {v0 : Nat} {n : Nat} {G : GH} {z : Int32 × Nat × GH}  (h : f_X10_leave F  v0 n G = some z) : GM E yX10_leave cX10_leave 1 (some .int) 4 103 13 763 [.ref v0] n G (some (.int z.1), z.2.1, z.2.2) := by
  refine GM.of (by decide) (Nat.le_of_ble_eq_true rfl) ?_
  show WG E RX10 "leave" cX10_leave 1 (some .int) 4 103 13 763 0 [(0, .ref v0)] [] n G (g_O E (some (.int z.1), z.2.1, z.2.2))
  unfold f_X10_leave at h
  refine r_aload d_X10_leave_0 rfl ?_
  refine r_getR h d_X10_leave_1 pf_X10_19 (fun x1 h => ?_)
  refine r_aload d_X10_leave_4 rfl ?_
  refine r_getR h d_X10_leave_5 pf_X10_39 (fun x2 h => ?_)
  refine r_invU [_] h (fun _ hq => s_X4_keep hq) d_X10_leave_8 pl_X10_106 py_X4_keep pi_X4_keep rfl rfl rfl (fun n3 G4 h => ?_)
  refine r_aload d_X10_leave_11 rfl ?_
  refine r_getR h d_X10_leave_12 pf_X10_39 (fun x5 h => ?_)
  refine r_invI [] h (fun _ hq => s_X0_leaveScope hq) d_X10_leave_15 pl_X10_109 py_X0_leaveScope pi_X0_leaveScope rfl rfl rfl (fun x8 n6 G7 h => ?_)
  exact r_iret h d_X10_leave_18
/-! X10_stand -/
theorem pl_X10_113 : pL RX10 113 yX3_holds := Or.inl (g_in 733 (by decide +kernel) rfl)
theorem pl_X10_117 : pL RX10 117 yX0_standInAt := Or.inl (g_in 737 (by decide +kernel) rfl)
theorem pl_X10_121 : pL RX10 121 yX0_setStandIn := Or.inl (g_in 741 (by decide +kernel) rfl)
theorem d_X10_stand_0 : decAL cX10_stand 0 0 1 := Or.inr ⟨0, rfl, by decide +kernel, rfl⟩
theorem d_X10_stand_1 : dec 3 cX10_stand 1 (.getfield 39) 4 := ⟨by decide +kernel, rfl⟩
theorem d_X10_stand_4 : dec 3 cX10_stand 4 (.getfield 97) 7 := ⟨by decide +kernel, rfl⟩
theorem d_X10_stand_7 : decIL cX10_stand 7 1 8 := Or.inr ⟨1, rfl, by decide +kernel, rfl⟩
theorem d_X10_stand_8 : dec 3 cX10_stand 8 (.invokevirtual 113) 11 := ⟨by decide +kernel, rfl⟩
theorem d_X10_stand_11 : decB cX10_stand 11 (.ifCond .eq 17) (17) 14 28 := ⟨by decide +kernel, rfl, by decide⟩
theorem d_X10_stand_14 : decAL cX10_stand 14 0 15 := Or.inr ⟨0, rfl, by decide +kernel, rfl⟩
theorem d_X10_stand_15 : dec 3 cX10_stand 15 (.getfield 39) 18 := ⟨by decide +kernel, rfl⟩
theorem d_X10_stand_18 : dec 3 cX10_stand 18 (.getfield 97) 21 := ⟨by decide +kernel, rfl⟩
theorem d_X10_stand_21 : decIL cX10_stand 21 2 22 := Or.inr ⟨2, rfl, by decide +kernel, rfl⟩
theorem d_X10_stand_22 : dec 3 cX10_stand 22 (.invokevirtual 113) 25 := ⟨by decide +kernel, rfl⟩
theorem d_X10_stand_25 : decB cX10_stand 25 (.ifCond .ne 5) (5) 28 30 := ⟨by decide +kernel, rfl, by decide⟩
theorem d_X10_stand_28 : dec 1 cX10_stand 28 (.iconst 0) 29 := ⟨by decide +kernel, rfl⟩
theorem d_X10_stand_29 : dec 1 cX10_stand 29 .ireturn 30 := ⟨by decide +kernel, rfl⟩
theorem d_X10_stand_30 : decIL cX10_stand 30 2 31 := Or.inr ⟨2, rfl, by decide +kernel, rfl⟩
theorem d_X10_stand_31 : decIL cX10_stand 31 1 32 := Or.inr ⟨1, rfl, by decide +kernel, rfl⟩
theorem d_X10_stand_32 : decB cX10_stand 32 (.if_icmp .ne 7) (7) 35 39 := ⟨by decide +kernel, rfl, by decide⟩
theorem d_X10_stand_35 : dec 1 cX10_stand 35 (.iconst (-1)) 36 := ⟨by decide +kernel, rfl⟩
theorem d_X10_stand_36 : decB cX10_stand 36 (.goto 4) (4) 39 40 := ⟨by decide +kernel, rfl, by decide⟩
theorem d_X10_stand_39 : decIL cX10_stand 39 2 40 := Or.inr ⟨2, rfl, by decide +kernel, rfl⟩
theorem d_X10_stand_40 : decIS cX10_stand 40 3 41 := Or.inr ⟨3, rfl, by decide +kernel, rfl⟩
theorem d_X10_stand_41 : decAL cX10_stand 41 0 42 := Or.inr ⟨0, rfl, by decide +kernel, rfl⟩
theorem d_X10_stand_42 : dec 3 cX10_stand 42 (.getfield 39) 45 := ⟨by decide +kernel, rfl⟩
theorem d_X10_stand_45 : decIL cX10_stand 45 1 46 := Or.inr ⟨1, rfl, by decide +kernel, rfl⟩
theorem d_X10_stand_46 : decAL cX10_stand 46 0 47 := Or.inr ⟨0, rfl, by decide +kernel, rfl⟩
theorem d_X10_stand_47 : dec 3 cX10_stand 47 (.getfield 39) 50 := ⟨by decide +kernel, rfl⟩
theorem d_X10_stand_50 : dec 3 cX10_stand 50 (.getfield 103) 53 := ⟨by decide +kernel, rfl⟩
theorem d_X10_stand_53 : dec 3 cX10_stand 53 (.invokevirtual 117) 56 := ⟨by decide +kernel, rfl⟩
theorem d_X10_stand_56 : decIL cX10_stand 56 3 57 := Or.inr ⟨3, rfl, by decide +kernel, rfl⟩
theorem d_X10_stand_57 : decB cX10_stand 57 (.if_icmp .ne 5) (5) 60 62 := ⟨by decide +kernel, rfl, by decide⟩
theorem d_X10_stand_60 : dec 1 cX10_stand 60 (.iconst 0) 61 := ⟨by decide +kernel, rfl⟩
theorem d_X10_stand_61 : dec 1 cX10_stand 61 .ireturn 62 := ⟨by decide +kernel, rfl⟩
theorem d_X10_stand_62 : decAL cX10_stand 62 0 63 := Or.inr ⟨0, rfl, by decide +kernel, rfl⟩
theorem d_X10_stand_63 : dec 3 cX10_stand 63 (.getfield 19) 66 := ⟨by decide +kernel, rfl⟩
theorem d_X10_stand_66 : decAL cX10_stand 66 0 67 := Or.inr ⟨0, rfl, by decide +kernel, rfl⟩
theorem d_X10_stand_67 : dec 3 cX10_stand 67 (.getfield 39) 70 := ⟨by decide +kernel, rfl⟩
theorem d_X10_stand_70 : dec 3 cX10_stand 70 (.invokevirtual 106) 73 := ⟨by decide +kernel, rfl⟩
theorem d_X10_stand_73 : decAL cX10_stand 73 0 74 := Or.inr ⟨0, rfl, by decide +kernel, rfl⟩
theorem d_X10_stand_74 : dec 3 cX10_stand 74 (.getfield 39) 77 := ⟨by decide +kernel, rfl⟩
theorem d_X10_stand_77 : decIL cX10_stand 77 1 78 := Or.inr ⟨1, rfl, by decide +kernel, rfl⟩
theorem d_X10_stand_78 : decIL cX10_stand 78 3 79 := Or.inr ⟨3, rfl, by decide +kernel, rfl⟩
theorem d_X10_stand_79 : dec 3 cX10_stand 79 (.invokevirtual 121) 82 := ⟨by decide +kernel, rfl⟩
theorem d_X10_stand_82 : dec 1 cX10_stand 82 (.iconst 1) 83 := ⟨by decide +kernel, rfl⟩
theorem d_X10_stand_83 : dec 1 cX10_stand 83 .ireturn 84 := ⟨by decide +kernel, rfl⟩
def k_X10_stand_40 (F : Nat)   (v0 : Nat) (v1 : Int32) (s0 : Int32) (n : Nat) (G : GH) : Option (Int32 × Nat × GH) :=
  Option.bind (gR G v0 10 1) (fun (x7 : Nat) =>
  Option.bind (gR G v0 10 1) (fun (x8 : Nat) =>
  Option.bind (gI G x8 0 1) (fun (x9 : Int32) =>
  cvP G x7 0 (f_X0_standInAt F x7 v1 x9 G) (fun (x10 : Int32) =>
  if x10 = s0 then
  (rN .boolean (0 : Int32) n G)
  else (Option.bind (gR G v0 10 6) (fun (x11 : Nat) =>
  Option.bind (gR G v0 10 1) (fun (x12 : Nat) =>
  cvU G x11 4 (f_X4_keep F x11 x12 n G) (fun (n13 : Nat) (G14 : GH) =>
  Option.bind (gR G14 v0 10 1) (fun (x15 : Nat) =>
  cvU G14 x15 0 (f_X0_setStandIn F x15 v1 s0 n13 G14) (fun (n16 : Nat) (G17 : GH) =>
  rN .boolean (1 : Int32) n16 G17))))))))))
def f_X10_stand (F : Nat)  (v0 : Nat) (v1 : Int32) (v2 : Int32) (n : Nat) (G : GH) : Option (Int32 × Nat × GH) :=
  Option.bind (gR G v0 10 1) (fun (x1 : Nat) =>
  Option.bind (gR G x1 0 0) (fun (x2 : Nat) =>
  cvP G x2 3 (f_X3_holds F x2 v1 G) (fun (x3 : Int32) =>
  if x3 = 0 then
  (rN .boolean (0 : Int32) n G)
  else (Option.bind (gR G v0 10 1) (fun (x4 : Nat) =>
  Option.bind (gR G x4 0 0) (fun (x5 : Nat) =>
  cvP G x5 3 (f_X3_holds F x5 v2 G) (fun (x6 : Int32) =>
  if x6 = 0 then
  (rN .boolean (0 : Int32) n G)
  else (if v2 = v1 then
  (k_X10_stand_40 F   v0 v1 (-1 : Int32) n G)
  else (k_X10_stand_40 F   v0 v1 v2 n G)))))))))
set_option maxRecDepth 100000 in
set_option maxHeartbeats 4000000 in
theorem c_X10_stand_40 {E : GE} {F : Nat}   {v0 : Nat} {v1 : Int32} {s0 : Int32} {n : Nat} {G : GH} {z : Int32 × Nat × GH}   (h : k_X10_stand_40 F   v0 v1 s0 n G = some z) : WG E RX10 "stand" cX10_stand 4 (some .boolean) 4 103 13 763 40 [(0, .ref v0), (1, .int v1)] [.int s0] n G (g_O E (some (.int z.1), z.2.1, z.2.2)) := by
  unfold k_X10_stand_40 at h
  refine r_istore d_X10_stand_40 rfl rfl ?_
  refine r_aload d_X10_stand_41 rfl ?_
  refine r_getR h d_X10_stand_42 pf_X10_39 (fun x7 h => ?_)
  refine r_iload d_X10_stand_45 rfl ?_
  refine r_aload d_X10_stand_46 rfl ?_
  refine r_getR h d_X10_stand_47 pf_X10_39 (fun x8 h => ?_)
  refine r_getI h d_X10_stand_50 pf_X10_103 (fun x9 h => ?_)
  refine r_invP [_, _] h (fun _ hq => s_X0_standInAt hq) d_X10_stand_53 pl_X10_117 py_X0_standInAt pi_X0_standInAt rfl rfl rfl (fun x10 h => ?_)
  refine r_iload d_X10_stand_56 rfl ?_
  refine r_icmp_ne h d_X10_stand_57 (fun h => ?_) (fun h => ?_)
  · refine r_aload d_X10_stand_62 rfl ?_
    refine r_getR h d_X10_stand_63 pf_X10_19 (fun x11 h => ?_)
    refine r_aload d_X10_stand_66 rfl ?_
    refine r_getR h d_X10_stand_67 pf_X10_39 (fun x12 h => ?_)
    refine r_invU [_] h (fun _ hq => s_X4_keep hq) d_X10_stand_70 pl_X10_106 py_X4_keep pi_X4_keep rfl rfl rfl (fun n13 G14 h => ?_)
    refine r_aload d_X10_stand_73 rfl ?_
    refine r_getR h d_X10_stand_74 pf_X10_39 (fun x15 h => ?_)
    refine r_iload d_X10_stand_77 rfl ?_
    refine r_iload d_X10_stand_78 rfl ?_
    refine r_invU [_, _] h (fun _ hq => s_X0_setStandIn hq) d_X10_stand_79 pl_X10_121 py_X0_setStandIn pi_X0_setStandIn rfl rfl rfl (fun n16 G17 h => ?_)
    refine r_iconst d_X10_stand_82 ic_1 ?_
    exact r_zret h d_X10_stand_83
  · refine r_iconst d_X10_stand_60 ic_0 ?_
    exact r_zret h d_X10_stand_61
set_option maxRecDepth 100000 in
set_option maxHeartbeats 4000000 in
theorem s_X10_stand {E : GE} {F : Nat}  {v0 : Nat} {v1 : Int32} {v2 : Int32} {n : Nat} {G : GH} {z : Int32 × Nat × GH}  (h : f_X10_stand F  v0 v1 v2 n G = some z) : GM E yX10_stand cX10_stand 4 (some .boolean) 4 103 13 763 [.ref v0, .int v1, .int v2] n G (some (.int z.1), z.2.1, z.2.2) := by
  refine GM.of (by decide) (Nat.le_of_ble_eq_true rfl) ?_
  show WG E RX10 "stand" cX10_stand 4 (some .boolean) 4 103 13 763 0 [(0, .ref v0), (1, .int v1), (2, .int v2)] [] n G (g_O E (some (.int z.1), z.2.1, z.2.2))
  unfold f_X10_stand at h
  refine r_aload d_X10_stand_0 rfl ?_
  refine r_getR h d_X10_stand_1 pf_X10_39 (fun x1 h => ?_)
  refine r_getR h d_X10_stand_4 pf_X10_97 (fun x2 h => ?_)
  refine r_iload d_X10_stand_7 rfl ?_
  refine r_invP [_] h (fun _ hq => s_X3_holds hq) d_X10_stand_8 pl_X10_113 py_X3_holds pi_X3_holds rfl rfl rfl (fun x3 h => ?_)
  refine r_if_eq h d_X10_stand_11 (fun h => ?_) (fun h => ?_)
  · refine r_iconst d_X10_stand_28 ic_0 ?_
    exact r_zret h d_X10_stand_29
  · refine r_aload d_X10_stand_14 rfl ?_
    refine r_getR h d_X10_stand_15 pf_X10_39 (fun x4 h => ?_)
    refine r_getR h d_X10_stand_18 pf_X10_97 (fun x5 h => ?_)
    refine r_iload d_X10_stand_21 rfl ?_
    refine r_invP [_] h (fun _ hq => s_X3_holds hq) d_X10_stand_22 pl_X10_113 py_X3_holds pi_X3_holds rfl rfl rfl (fun x6 h => ?_)
    refine r_if_ne h d_X10_stand_25 (fun h => ?_) (fun h => ?_)
    · refine r_iload d_X10_stand_30 rfl ?_
      refine r_iload d_X10_stand_31 rfl ?_
      refine r_icmp_ne h d_X10_stand_32 (fun h => ?_) (fun h => ?_)
      · refine r_iload d_X10_stand_39 rfl ?_
        refine r_lv [(0, .ref v0), (1, .int v1)] (g_allc rfl (g_allc rfl g_alln)) ?_
        exact c_X10_stand_40   h
      · refine r_iconst d_X10_stand_35 ic_m1 ?_
        refine r_goto d_X10_stand_36 ?_
        refine r_lv [(0, .ref v0), (1, .int v1)] (g_allc rfl (g_allc rfl g_alln)) ?_
        exact c_X10_stand_40   h
    · refine r_iconst d_X10_stand_28 ic_0 ?_
      exact r_zret h d_X10_stand_29
/-! X10_ask -/
theorem pf_X10_48 : pF RX10 48 10 2 := ⟨RX10, TX10, 9, rfl, by decide, rfl, Or.inl (g_in 404 (by decide +kernel) rfl)⟩
theorem py_X1_askFor : pY yX1_askFor cX1_askFor 2 (some .int) 1 := ⟨g_in 749 (by decide +kernel) rfl, g_in 102 (by decide +kernel) rfl, by decide, by decide, by decide +kernel⟩
theorem pi_X1_askFor : pI yX1_askFor 1 := ⟨g_in 747 (by decide +kernel) rfl, g_in 748 (by decide +kernel) rfl, (RX1, TX1, 7), rfl, rfl⟩
theorem pl_X10_124 : pL RX10 124 yX1_askFor := Or.inl (g_in 746 (by decide +kernel) rfl)
theorem d_X10_ask_0 : decAL cX10_ask 0 0 1 := Or.inr ⟨0, rfl, by decide +kernel, rfl⟩
theorem d_X10_ask_1 : dec 3 cX10_ask 1 (.getfield 39) 4 := ⟨by decide +kernel, rfl⟩
theorem d_X10_ask_4 : dec 3 cX10_ask 4 (.getfield 97) 7 := ⟨by decide +kernel, rfl⟩
theorem d_X10_ask_7 : decIL cX10_ask 7 1 8 := Or.inr ⟨1, rfl, by decide +kernel, rfl⟩
theorem d_X10_ask_8 : dec 3 cX10_ask 8 (.invokevirtual 113) 11 := ⟨by decide +kernel, rfl⟩
theorem d_X10_ask_11 : decB cX10_ask 11 (.ifCond .ne 5) (5) 14 16 := ⟨by decide +kernel, rfl, by decide⟩
theorem d_X10_ask_14 : dec 1 cX10_ask 14 (.iconst (-1)) 15 := ⟨by decide +kernel, rfl⟩
theorem d_X10_ask_15 : dec 1 cX10_ask 15 .ireturn 16 := ⟨by decide +kernel, rfl⟩
theorem d_X10_ask_16 : decAL cX10_ask 16 0 17 := Or.inr ⟨0, rfl, by decide +kernel, rfl⟩
theorem d_X10_ask_17 : dec 3 cX10_ask 17 (.getfield 19) 20 := ⟨by decide +kernel, rfl⟩
theorem d_X10_ask_20 : decAL cX10_ask 20 0 21 := Or.inr ⟨0, rfl, by decide +kernel, rfl⟩
theorem d_X10_ask_21 : dec 3 cX10_ask 21 (.getfield 39) 24 := ⟨by decide +kernel, rfl⟩
theorem d_X10_ask_24 : dec 3 cX10_ask 24 (.invokevirtual 106) 27 := ⟨by decide +kernel, rfl⟩
theorem d_X10_ask_27 : decAL cX10_ask 27 0 28 := Or.inr ⟨0, rfl, by decide +kernel, rfl⟩
theorem d_X10_ask_28 : dec 3 cX10_ask 28 (.getfield 48) 31 := ⟨by decide +kernel, rfl⟩
theorem d_X10_ask_31 : decIL cX10_ask 31 1 32 := Or.inr ⟨1, rfl, by decide +kernel, rfl⟩
theorem d_X10_ask_32 : dec 3 cX10_ask 32 (.invokevirtual 124) 35 := ⟨by decide +kernel, rfl⟩
theorem d_X10_ask_35 : dec 1 cX10_ask 35 .ireturn 36 := ⟨by decide +kernel, rfl⟩
def f_X10_ask (F : Nat)  (v0 : Nat) (v1 : Int32) (n : Nat) (G : GH) : Option (Int32 × Nat × GH) :=
  Option.bind (gR G v0 10 1) (fun (x1 : Nat) =>
  Option.bind (gR G x1 0 0) (fun (x2 : Nat) =>
  cvP G x2 3 (f_X3_holds F x2 v1 G) (fun (x3 : Int32) =>
  if x3 = 0 then
  (some ((-1 : Int32), n, G))
  else (Option.bind (gR G v0 10 6) (fun (x4 : Nat) =>
  Option.bind (gR G v0 10 1) (fun (x5 : Nat) =>
  cvU G x4 4 (f_X4_keep F x4 x5 n G) (fun (n6 : Nat) (G7 : GH) =>
  Option.bind (gR G7 v0 10 2) (fun (x8 : Nat) =>
  cvI G7 x8 1 (f_X1_askFor F x8 v1 n6 G7) (fun (x11 : Int32) (n9 : Nat) (G10 : GH) =>
  some (x11, n9, G10))))))))))
set_option maxRecDepth 100000 in
set_option maxHeartbeats 4000000 in
theorem s_X10_ask {E : GE} {F : Nat}  {v0 : Nat} {v1 : Int32} {n : Nat} {G : GH} {z : Int32 × Nat × GH}  (h : f_X10_ask F  v0 v1 n G = some z) : GM E yX10_ask cX10_ask 2 (some .int) 54 1927 13 763 [.ref v0, .int v1] n G (some (.int z.1), z.2.1, z.2.2) := by
  refine GM.of (by decide) (Nat.le_of_ble_eq_true rfl) ?_
  show WG E RX10 "ask" cX10_ask 2 (some .int) 54 1927 13 763 0 [(0, .ref v0), (1, .int v1)] [] n G (g_O E (some (.int z.1), z.2.1, z.2.2))
  unfold f_X10_ask at h
  refine r_aload d_X10_ask_0 rfl ?_
  refine r_getR h d_X10_ask_1 pf_X10_39 (fun x1 h => ?_)
  refine r_getR h d_X10_ask_4 pf_X10_97 (fun x2 h => ?_)
  refine r_iload d_X10_ask_7 rfl ?_
  refine r_invP [_] h (fun _ hq => s_X3_holds hq) d_X10_ask_8 pl_X10_113 py_X3_holds pi_X3_holds rfl rfl rfl (fun x3 h => ?_)
  refine r_if_ne h d_X10_ask_11 (fun h => ?_) (fun h => ?_)
  · refine r_aload d_X10_ask_16 rfl ?_
    refine r_getR h d_X10_ask_17 pf_X10_19 (fun x4 h => ?_)
    refine r_aload d_X10_ask_20 rfl ?_
    refine r_getR h d_X10_ask_21 pf_X10_39 (fun x5 h => ?_)
    refine r_invU [_] h (fun _ hq => s_X4_keep hq) d_X10_ask_24 pl_X10_106 py_X4_keep pi_X4_keep rfl rfl rfl (fun n6 G7 h => ?_)
    refine r_aload d_X10_ask_27 rfl ?_
    refine r_getR h d_X10_ask_28 pf_X10_48 (fun x8 h => ?_)
    refine r_iload d_X10_ask_31 rfl ?_
    refine r_invI [_] h (fun _ hq => s_X1_askFor hq) d_X10_ask_32 pl_X10_124 py_X1_askFor pi_X1_askFor rfl rfl rfl (fun x11 n9 G10 h => ?_)
    exact r_iret h d_X10_ask_35
  · refine r_iconst d_X10_ask_14 ic_m1 ?_
    exact r_iret h d_X10_ask_15
/-! X10_value -/
theorem pf_X10_128 : pF RX10 128 0 4 := ⟨RX0, TX0, 6, rfl, by decide, rfl, Or.inr ⟨"PlugBoard", g_in 318 (by decide +kernel) rfl⟩⟩
theorem pl_X10_132 : pL RX10 132 yX7_holds := Or.inl (g_in 816 (by decide +kernel) rfl)
theorem py_X1_reckonFor : pY yX1_reckonFor cX1_reckonFor 2 (some .int) 1 := ⟨g_in 820 (by decide +kernel) rfl, g_in 102 (by decide +kernel) rfl, by decide, by decide, by decide +kernel⟩
theorem pi_X1_reckonFor : pI yX1_reckonFor 1 := ⟨g_in 818 (by decide +kernel) rfl, g_in 819 (by decide +kernel) rfl, (RX1, TX1, 7), rfl, rfl⟩
theorem pl_X10_135 : pL RX10 135 yX1_reckonFor := Or.inl (g_in 817 (by decide +kernel) rfl)
theorem d_X10_value_0 : decAL cX10_value 0 0 1 := Or.inr ⟨0, rfl, by decide +kernel, rfl⟩
theorem d_X10_value_1 : dec 3 cX10_value 1 (.getfield 39) 4 := ⟨by decide +kernel, rfl⟩
theorem d_X10_value_4 : dec 3 cX10_value 4 (.getfield 128) 7 := ⟨by decide +kernel, rfl⟩
theorem d_X10_value_7 : decIL cX10_value 7 1 8 := Or.inr ⟨1, rfl, by decide +kernel, rfl⟩
theorem d_X10_value_8 : dec 3 cX10_value 8 (.invokevirtual 132) 11 := ⟨by decide +kernel, rfl⟩
theorem d_X10_value_11 : decB cX10_value 11 (.ifCond .ne 5) (5) 14 16 := ⟨by decide +kernel, rfl, by decide⟩
theorem d_X10_value_14 : dec 1 cX10_value 14 (.iconst (-1)) 15 := ⟨by decide +kernel, rfl⟩
theorem d_X10_value_15 : dec 1 cX10_value 15 .ireturn 16 := ⟨by decide +kernel, rfl⟩
theorem d_X10_value_16 : decAL cX10_value 16 0 17 := Or.inr ⟨0, rfl, by decide +kernel, rfl⟩
theorem d_X10_value_17 : dec 3 cX10_value 17 (.getfield 19) 20 := ⟨by decide +kernel, rfl⟩
theorem d_X10_value_20 : decAL cX10_value 20 0 21 := Or.inr ⟨0, rfl, by decide +kernel, rfl⟩
theorem d_X10_value_21 : dec 3 cX10_value 21 (.getfield 39) 24 := ⟨by decide +kernel, rfl⟩
theorem d_X10_value_24 : dec 3 cX10_value 24 (.invokevirtual 106) 27 := ⟨by decide +kernel, rfl⟩
theorem d_X10_value_27 : decAL cX10_value 27 0 28 := Or.inr ⟨0, rfl, by decide +kernel, rfl⟩
theorem d_X10_value_28 : dec 3 cX10_value 28 (.getfield 48) 31 := ⟨by decide +kernel, rfl⟩
theorem d_X10_value_31 : decIL cX10_value 31 1 32 := Or.inr ⟨1, rfl, by decide +kernel, rfl⟩
theorem d_X10_value_32 : dec 3 cX10_value 32 (.invokevirtual 135) 35 := ⟨by decide +kernel, rfl⟩
theorem d_X10_value_35 : dec 1 cX10_value 35 .ireturn 36 := ⟨by decide +kernel, rfl⟩
def f_X10_value (F : Nat)  (v0 : Nat) (v1 : Int32) (n : Nat) (G : GH) : Option (Int32 × Nat × GH) :=
  Option.bind (gR G v0 10 1) (fun (x1 : Nat) =>
  Option.bind (gR G x1 0 4) (fun (x2 : Nat) =>
  cvP G x2 7 (f_X7_holds F x2 v1 G) (fun (x3 : Int32) =>
  if x3 = 0 then
  (some ((-1 : Int32), n, G))
  else (Option.bind (gR G v0 10 6) (fun (x4 : Nat) =>
  Option.bind (gR G v0 10 1) (fun (x5 : Nat) =>
  cvU G x4 4 (f_X4_keep F x4 x5 n G) (fun (n6 : Nat) (G7 : GH) =>
  Option.bind (gR G7 v0 10 2) (fun (x8 : Nat) =>
  cvI G7 x8 1 (f_X1_reckonFor F x8 v1 n6 G7) (fun (x11 : Int32) (n9 : Nat) (G10 : GH) =>
  some (x11, n9, G10))))))))))
set_option maxRecDepth 100000 in
set_option maxHeartbeats 4000000 in
theorem s_X10_value {E : GE} {F : Nat}  {v0 : Nat} {v1 : Int32} {n : Nat} {G : GH} {z : Int32 × Nat × GH}  (h : f_X10_value F  v0 v1 n G = some z) : GM E yX10_value cX10_value 2 (some .int) 124 4531 13 763 [.ref v0, .int v1] n G (some (.int z.1), z.2.1, z.2.2) := by
  refine GM.of (by decide) (Nat.le_of_ble_eq_true rfl) ?_
  show WG E RX10 "value" cX10_value 2 (some .int) 124 4531 13 763 0 [(0, .ref v0), (1, .int v1)] [] n G (g_O E (some (.int z.1), z.2.1, z.2.2))
  unfold f_X10_value at h
  refine r_aload d_X10_value_0 rfl ?_
  refine r_getR h d_X10_value_1 pf_X10_39 (fun x1 h => ?_)
  refine r_getR h d_X10_value_4 pf_X10_128 (fun x2 h => ?_)
  refine r_iload d_X10_value_7 rfl ?_
  refine r_invP [_] h (fun _ hq => s_X7_holds hq) d_X10_value_8 pl_X10_132 py_X7_holds pi_X7_holds rfl rfl rfl (fun x3 h => ?_)
  refine r_if_ne h d_X10_value_11 (fun h => ?_) (fun h => ?_)
  · refine r_aload d_X10_value_16 rfl ?_
    refine r_getR h d_X10_value_17 pf_X10_19 (fun x4 h => ?_)
    refine r_aload d_X10_value_20 rfl ?_
    refine r_getR h d_X10_value_21 pf_X10_39 (fun x5 h => ?_)
    refine r_invU [_] h (fun _ hq => s_X4_keep hq) d_X10_value_24 pl_X10_106 py_X4_keep pi_X4_keep rfl rfl rfl (fun n6 G7 h => ?_)
    refine r_aload d_X10_value_27 rfl ?_
    refine r_getR h d_X10_value_28 pf_X10_48 (fun x8 h => ?_)
    refine r_iload d_X10_value_31 rfl ?_
    refine r_invI [_] h (fun _ hq => s_X1_reckonFor hq) d_X10_value_32 pl_X10_135 py_X1_reckonFor pi_X1_reckonFor rfl rfl rfl (fun x11 n9 G10 h => ?_)
    exact r_iret h d_X10_value_35
  · refine r_iconst d_X10_value_14 ic_m1 ?_
    exact r_iret h d_X10_value_15
/-! X10_undo -/
theorem py_X4_giveBack : pY yX4_giveBack cX4_giveBack 3 (some .int) 1 := ⟨g_in 862 (by decide +kernel) rfl, g_in 96 (by decide +kernel) rfl, by decide, by decide, by decide +kernel⟩
theorem pi_X4_giveBack : pI yX4_giveBack 4 := ⟨g_in 860 (by decide +kernel) rfl, g_in 861 (by decide +kernel) rfl, (RX4, TX4, 3), rfl, rfl⟩
theorem pl_X10_138 : pL RX10 138 yX4_giveBack := Or.inl (g_in 859 (by decide +kernel) rfl)
theorem d_X10_undo_0 : decAL cX10_undo 0 0 1 := Or.inr ⟨0, rfl, by decide +kernel, rfl⟩
theorem d_X10_undo_1 : dec 3 cX10_undo 1 (.getfield 19) 4 := ⟨by decide +kernel, rfl⟩
theorem d_X10_undo_4 : decAL cX10_undo 4 0 5 := Or.inr ⟨0, rfl, by decide +kernel, rfl⟩
theorem d_X10_undo_5 : dec 3 cX10_undo 5 (.getfield 39) 8 := ⟨by decide +kernel, rfl⟩
theorem d_X10_undo_8 : dec 3 cX10_undo 8 (.invokevirtual 138) 11 := ⟨by decide +kernel, rfl⟩
theorem d_X10_undo_11 : dec 1 cX10_undo 11 .ireturn 12 := ⟨by decide +kernel, rfl⟩
def f_X10_undo (F : Nat)  (v0 : Nat) (n : Nat) (G : GH) : Option (Int32 × Nat × GH) :=
  Option.bind (gR G v0 10 6) (fun (x1 : Nat) =>
  Option.bind (gR G v0 10 1) (fun (x2 : Nat) =>
  cvI G x1 4 (f_X4_giveBack F x1 x2 n G) (fun (x5 : Int32) (n3 : Nat) (G4 : GH) =>
  some (x5, n3, G4))))
set_option maxRecDepth 100000 in
set_option maxHeartbeats 4000000 in
theorem s_X10_undo {E : GE} {F : Nat}  {v0 : Nat} {n : Nat} {G : GH} {z : Int32 × Nat × GH}  (h : f_X10_undo F  v0 n G = some z) : GM E yX10_undo cX10_undo 1 (some .int) 4 104 0 0 [.ref v0] n G (some (.int z.1), z.2.1, z.2.2) := by
  refine GM.of (by decide) (Nat.le_of_ble_eq_true rfl) ?_
  show WG E RX10 "undo" cX10_undo 1 (some .int) 4 104 0 0 0 [(0, .ref v0)] [] n G (g_O E (some (.int z.1), z.2.1, z.2.2))
  unfold f_X10_undo at h
  refine r_aload d_X10_undo_0 rfl ?_
  refine r_getR h d_X10_undo_1 pf_X10_19 (fun x1 h => ?_)
  refine r_aload d_X10_undo_4 rfl ?_
  refine r_getR h d_X10_undo_5 pf_X10_39 (fun x2 h => ?_)
  refine r_invI [_] h (fun _ hq => s_X4_giveBack hq) d_X10_undo_8 pl_X10_138 py_X4_giveBack pi_X4_giveBack rfl rfl rfl (fun x5 n3 G4 h => ?_)
  exact r_iret h d_X10_undo_11
/-! X10_count -/
theorem pf_X10_142 : pF RX10 142 7 0 := ⟨RX7, TX7, 7, rfl, by decide, rfl, Or.inr ⟨"PlugBoard", g_in 245 (by decide +kernel) rfl⟩⟩
theorem py_X7_countValued : pY yX7_countValued cX7_countValued 3 (some .int) 0 := ⟨g_in 870 (by decide +kernel) rfl, g_in 99 (by decide +kernel) rfl, by decide, by decide, by decide +kernel⟩
theorem pi_X7_countValued : pI yX7_countValued 7 := ⟨g_in 868 (by decide +kernel) rfl, g_in 869 (by decide +kernel) rfl, (RX7, TX7, 7), rfl, rfl⟩
theorem pl_X10_143 : pL RX10 143 yX7_countValued := Or.inl (g_in 867 (by decide +kernel) rfl)
theorem py_X0_countMade : pY yX0_countMade cX0_countMade 6 (some .int) 0 := ⟨g_in 874 (by decide +kernel) rfl, g_in 98 (by decide +kernel) rfl, by decide, by decide, by decide +kernel⟩
theorem pi_X0_countMade : pI yX0_countMade 0 := ⟨g_in 872 (by decide +kernel) rfl, g_in 873 (by decide +kernel) rfl, (RX0, TX0, 6), rfl, rfl⟩
theorem pl_X10_146 : pL RX10 146 yX0_countMade := Or.inl (g_in 871 (by decide +kernel) rfl)
theorem py_X0_countStandIns : pY yX0_countStandIns cX0_countStandIns 6 (some .int) 0 := ⟨g_in 878 (by decide +kernel) rfl, g_in 98 (by decide +kernel) rfl, by decide, by decide, by decide +kernel⟩
theorem pi_X0_countStandIns : pI yX0_countStandIns 0 := ⟨g_in 876 (by decide +kernel) rfl, g_in 877 (by decide +kernel) rfl, (RX0, TX0, 6), rfl, rfl⟩
theorem pl_X10_149 : pL RX10 149 yX0_countStandIns := Or.inl (g_in 875 (by decide +kernel) rfl)
theorem pf_X10_152 : pF RX10 152 4 1 := ⟨RX4, TX4, 3, rfl, by decide, rfl, Or.inr ⟨"PlugBoard", g_in 160 (by decide +kernel) rfl⟩⟩
theorem pf_X10_153 : pF RX10 153 2 1 := ⟨RX2, TX2, 4, rfl, by decide, rfl, Or.inr ⟨"PlugBoard", g_in 135 (by decide +kernel) rfl⟩⟩
theorem pf_X10_156 : pF RX10 156 0 5 := ⟨RX0, TX0, 6, rfl, by decide, rfl, Or.inr ⟨"PlugBoard", g_in 321 (by decide +kernel) rfl⟩⟩
theorem py_X9_countBad : pY yX9_countBad cX9_countBad 4 (some .int) 1 := ⟨g_in 882 (by decide +kernel) rfl, g_in 100 (by decide +kernel) rfl, by decide, by decide, by decide +kernel⟩
theorem pi_X9_countBad : pI yX9_countBad 9 := ⟨g_in 880 (by decide +kernel) rfl, g_in 881 (by decide +kernel) rfl, (RX9, TX9, 5), rfl, rfl⟩
theorem pl_X10_160 : pL RX10 160 yX9_countBad := Or.inl (g_in 879 (by decide +kernel) rfl)
theorem pf_X10_166 : pF RX10 166 9 1 := ⟨RX9, TX9, 5, rfl, by decide, rfl, Or.inr ⟨"PlugBoard", g_in 286 (by decide +kernel) rfl⟩⟩
theorem pf_X10_169 : pF RX10 169 9 0 := ⟨RX9, TX9, 5, rfl, by decide, rfl, Or.inr ⟨"PlugBoard", g_in 284 (by decide +kernel) rfl⟩⟩
theorem d_X10_count_0 : decIL cX10_count 0 1 1 := Or.inr ⟨1, rfl, by decide +kernel, rfl⟩
theorem d_X10_count_1 : decode cX10_count 1 = .ok (.tableswitch 172 0 10 #[59, 70, 78, 89, 100, 108, 116, 124, 132, 150, 161], 59) := by decide +kernel
theorem d_X10_count_60 : decAL cX10_count 60 0 61 := Or.inr ⟨0, rfl, by decide +kernel, rfl⟩
theorem d_X10_count_61 : dec 3 cX10_count 61 (.getfield 39) 64 := ⟨by decide +kernel, rfl⟩
theorem d_X10_count_64 : dec 3 cX10_count 64 (.getfield 97) 67 := ⟨by decide +kernel, rfl⟩
theorem d_X10_count_67 : dec 3 cX10_count 67 (.getfield 98) 70 := ⟨by decide +kernel, rfl⟩
theorem d_X10_count_70 : dec 1 cX10_count 70 .ireturn 71 := ⟨by decide +kernel, rfl⟩
theorem d_X10_count_71 : decAL cX10_count 71 0 72 := Or.inr ⟨0, rfl, by decide +kernel, rfl⟩
theorem d_X10_count_72 : dec 3 cX10_count 72 (.getfield 39) 75 := ⟨by decide +kernel, rfl⟩
theorem d_X10_count_75 : dec 3 cX10_count 75 (.getfield 103) 78 := ⟨by decide +kernel, rfl⟩
theorem d_X10_count_78 : dec 1 cX10_count 78 .ireturn 79 := ⟨by decide +kernel, rfl⟩
theorem d_X10_count_79 : decAL cX10_count 79 0 80 := Or.inr ⟨0, rfl, by decide +kernel, rfl⟩
theorem d_X10_count_80 : dec 3 cX10_count 80 (.getfield 39) 83 := ⟨by decide +kernel, rfl⟩
theorem d_X10_count_83 : dec 3 cX10_count 83 (.getfield 128) 86 := ⟨by decide +kernel, rfl⟩
theorem d_X10_count_86 : dec 3 cX10_count 86 (.getfield 142) 89 := ⟨by decide +kernel, rfl⟩
theorem d_X10_count_89 : dec 1 cX10_count 89 .ireturn 90 := ⟨by decide +kernel, rfl⟩
theorem d_X10_count_90 : decAL cX10_count 90 0 91 := Or.inr ⟨0, rfl, by decide +kernel, rfl⟩
theorem d_X10_count_91 : dec 3 cX10_count 91 (.getfield 39) 94 := ⟨by decide +kernel, rfl⟩
theorem d_X10_count_94 : dec 3 cX10_count 94 (.getfield 128) 97 := ⟨by decide +kernel, rfl⟩
theorem d_X10_count_97 : dec 3 cX10_count 97 (.invokevirtual 143) 100 := ⟨by decide +kernel, rfl⟩
theorem d_X10_count_100 : dec 1 cX10_count 100 .ireturn 101 := ⟨by decide +kernel, rfl⟩
theorem d_X10_count_101 : decAL cX10_count 101 0 102 := Or.inr ⟨0, rfl, by decide +kernel, rfl⟩
theorem d_X10_count_102 : dec 3 cX10_count 102 (.getfield 39) 105 := ⟨by decide +kernel, rfl⟩
theorem d_X10_count_105 : dec 3 cX10_count 105 (.invokevirtual 146) 108 := ⟨by decide +kernel, rfl⟩
theorem d_X10_count_108 : dec 1 cX10_count 108 .ireturn 109 := ⟨by decide +kernel, rfl⟩
theorem d_X10_count_109 : decAL cX10_count 109 0 110 := Or.inr ⟨0, rfl, by decide +kernel, rfl⟩
theorem d_X10_count_110 : dec 3 cX10_count 110 (.getfield 39) 113 := ⟨by decide +kernel, rfl⟩
theorem d_X10_count_113 : dec 3 cX10_count 113 (.invokevirtual 149) 116 := ⟨by decide +kernel, rfl⟩
theorem d_X10_count_116 : dec 1 cX10_count 116 .ireturn 117 := ⟨by decide +kernel, rfl⟩
theorem d_X10_count_117 : decAL cX10_count 117 0 118 := Or.inr ⟨0, rfl, by decide +kernel, rfl⟩
theorem d_X10_count_118 : dec 3 cX10_count 118 (.getfield 19) 121 := ⟨by decide +kernel, rfl⟩
theorem d_X10_count_121 : dec 3 cX10_count 121 (.getfield 152) 124 := ⟨by decide +kernel, rfl⟩
theorem d_X10_count_124 : dec 1 cX10_count 124 .ireturn 125 := ⟨by decide +kernel, rfl⟩
theorem d_X10_count_125 : decAL cX10_count 125 0 126 := Or.inr ⟨0, rfl, by decide +kernel, rfl⟩
theorem d_X10_count_126 : dec 3 cX10_count 126 (.getfield 12) 129 := ⟨by decide +kernel, rfl⟩
theorem d_X10_count_129 : dec 3 cX10_count 129 (.getfield 153) 132 := ⟨by decide +kernel, rfl⟩
theorem d_X10_count_132 : dec 1 cX10_count 132 .ireturn 133 := ⟨by decide +kernel, rfl⟩
theorem d_X10_count_133 : decAL cX10_count 133 0 134 := Or.inr ⟨0, rfl, by decide +kernel, rfl⟩
theorem d_X10_count_134 : dec 3 cX10_count 134 (.getfield 39) 137 := ⟨by decide +kernel, rfl⟩
theorem d_X10_count_137 : dec 3 cX10_count 137 (.getfield 156) 140 := ⟨by decide +kernel, rfl⟩
theorem d_X10_count_140 : decAL cX10_count 140 0 141 := Or.inr ⟨0, rfl, by decide +kernel, rfl⟩
theorem d_X10_count_141 : dec 3 cX10_count 141 (.getfield 39) 144 := ⟨by decide +kernel, rfl⟩
theorem d_X10_count_144 : dec 3 cX10_count 144 (.getfield 97) 147 := ⟨by decide +kernel, rfl⟩
theorem d_X10_count_147 : dec 3 cX10_count 147 (.invokevirtual 160) 150 := ⟨by decide +kernel, rfl⟩
theorem d_X10_count_150 : dec 1 cX10_count 150 .ireturn 151 := ⟨by decide +kernel, rfl⟩
theorem d_X10_count_151 : decAL cX10_count 151 0 152 := Or.inr ⟨0, rfl, by decide +kernel, rfl⟩
theorem d_X10_count_152 : dec 3 cX10_count 152 (.getfield 39) 155 := ⟨by decide +kernel, rfl⟩
theorem d_X10_count_155 : dec 3 cX10_count 155 (.getfield 156) 158 := ⟨by decide +kernel, rfl⟩
theorem d_X10_count_158 : dec 3 cX10_count 158 (.getfield 166) 161 := ⟨by decide +kernel, rfl⟩
theorem d_X10_count_161 : dec 1 cX10_count 161 .ireturn 162 := ⟨by decide +kernel, rfl⟩
theorem d_X10_count_162 : decAL cX10_count 162 0 163 := Or.inr ⟨0, rfl, by decide +kernel, rfl⟩
theorem d_X10_count_163 : dec 3 cX10_count 163 (.getfield 39) 166 := ⟨by decide +kernel, rfl⟩
theorem d_X10_count_166 : dec 3 cX10_count 166 (.getfield 156) 169 := ⟨by decide +kernel, rfl⟩
theorem d_X10_count_169 : dec 3 cX10_count 169 (.getfield 169) 172 := ⟨by decide +kernel, rfl⟩
theorem d_X10_count_172 : dec 1 cX10_count 172 .ireturn 173 := ⟨by decide +kernel, rfl⟩
theorem d_X10_count_173 : dec 1 cX10_count 173 (.iconst (-1)) 174 := ⟨by decide +kernel, rfl⟩
theorem d_X10_count_174 : dec 1 cX10_count 174 .ireturn 175 := ⟨by decide +kernel, rfl⟩
def f_X10_count (F : Nat)  (v0 : Nat) (v1 : Int32) (G : GH) : Option (Int32) :=
  g_sw v1 [Option.bind (gR G v0 10 1) (fun (x1 : Nat) =>
  Option.bind (gR G x1 0 0) (fun (x2 : Nat) =>
  Option.bind (gI G x2 3 0) (fun (x3 : Int32) =>
  some x3))),
  Option.bind (gR G v0 10 1) (fun (x4 : Nat) =>
  Option.bind (gI G x4 0 1) (fun (x5 : Int32) =>
  some x5)),
  Option.bind (gR G v0 10 1) (fun (x6 : Nat) =>
  Option.bind (gR G x6 0 4) (fun (x7 : Nat) =>
  Option.bind (gI G x7 7 0) (fun (x8 : Int32) =>
  some x8))),
  Option.bind (gR G v0 10 1) (fun (x9 : Nat) =>
  Option.bind (gR G x9 0 4) (fun (x10 : Nat) =>
  cvP G x10 7 (f_X7_countValued F x10 G) (fun (x11 : Int32) =>
  some x11))),
  Option.bind (gR G v0 10 1) (fun (x12 : Nat) =>
  cvP G x12 0 (f_X0_countMade F x12 G) (fun (x13 : Int32) =>
  some x13)),
  Option.bind (gR G v0 10 1) (fun (x14 : Nat) =>
  cvP G x14 0 (f_X0_countStandIns F x14 G) (fun (x15 : Int32) =>
  some x15)),
  Option.bind (gR G v0 10 6) (fun (x16 : Nat) =>
  Option.bind (gI G x16 4 1) (fun (x17 : Int32) =>
  some x17)),
  Option.bind (gR G v0 10 0) (fun (x18 : Nat) =>
  Option.bind (gI G x18 2 1) (fun (x19 : Int32) =>
  some x19)),
  Option.bind (gR G v0 10 1) (fun (x20 : Nat) =>
  Option.bind (gR G x20 0 5) (fun (x21 : Nat) =>
  Option.bind (gR G v0 10 1) (fun (x22 : Nat) =>
  Option.bind (gR G x22 0 0) (fun (x23 : Nat) =>
  cvP G x21 9 (f_X9_countBad F x21 x23 G) (fun (x24 : Int32) =>
  some x24))))),
  Option.bind (gR G v0 10 1) (fun (x25 : Nat) =>
  Option.bind (gR G x25 0 5) (fun (x26 : Nat) =>
  Option.bind (gI G x26 9 1) (fun (x27 : Int32) =>
  some x27))),
  Option.bind (gR G v0 10 1) (fun (x28 : Nat) =>
  Option.bind (gR G x28 0 5) (fun (x29 : Nat) =>
  Option.bind (gI G x29 9 0) (fun (x30 : Int32) =>
  some x30)))] (some (-1 : Int32)) 0
set_option maxRecDepth 100000 in
set_option maxHeartbeats 4000000 in
theorem s_X10_count {E : GE} {F : Nat}  {v0 : Nat} {v1 : Int32} {n : Nat} {G : GH} {z : Int32}  (h : f_X10_count F  v0 v1 G = some z) : GM E yX10_count cX10_count 2 (some .int) 1 25 0 0 [.ref v0, .int v1] n G (some (.int z), n, G) := by
  refine GM.of (by decide) (Nat.le_of_ble_eq_true rfl) ?_
  show WG E RX10 "count" cX10_count 2 (some .int) 1 25 0 0 0 [(0, .ref v0), (1, .int v1)] [] n G (g_O E (some (.int z), n, G))
  unfold f_X10_count at h
  refine r_iload d_X10_count_0 rfl ?_
  refine r_switch (tg := 173) h [60, 71, 79, 90, 101, 109, 117, 125, 133, 151, 162] d_X10_count_1 rfl rfl rfl (by decide) rfl (by decide) (g_swPc (fun h => ?_) (g_swPc (fun h => ?_) (g_swPc (fun h => ?_) (g_swPc (fun h => ?_) (g_swPc (fun h => ?_) (g_swPc (fun h => ?_) (g_swPc (fun h => ?_) (g_swPc (fun h => ?_) (g_swPc (fun h => ?_) (g_swPc (fun h => ?_) (g_swPc (fun h => ?_) (g_swPn)))))))))))) (fun h => ?_)
  · refine r_aload d_X10_count_60 rfl ?_
    refine r_getR h d_X10_count_61 pf_X10_39 (fun x1 h => ?_)
    refine r_getR h d_X10_count_64 pf_X10_97 (fun x2 h => ?_)
    refine r_getI h d_X10_count_67 pf_X10_98 (fun x3 h => ?_)
    exact r_pret h d_X10_count_70
  · refine r_aload d_X10_count_71 rfl ?_
    refine r_getR h d_X10_count_72 pf_X10_39 (fun x4 h => ?_)
    refine r_getI h d_X10_count_75 pf_X10_103 (fun x5 h => ?_)
    exact r_pret h d_X10_count_78
  · refine r_aload d_X10_count_79 rfl ?_
    refine r_getR h d_X10_count_80 pf_X10_39 (fun x6 h => ?_)
    refine r_getR h d_X10_count_83 pf_X10_128 (fun x7 h => ?_)
    refine r_getI h d_X10_count_86 pf_X10_142 (fun x8 h => ?_)
    exact r_pret h d_X10_count_89
  · refine r_aload d_X10_count_90 rfl ?_
    refine r_getR h d_X10_count_91 pf_X10_39 (fun x9 h => ?_)
    refine r_getR h d_X10_count_94 pf_X10_128 (fun x10 h => ?_)
    refine r_invP [] h (fun _ hq => s_X7_countValued hq) d_X10_count_97 pl_X10_143 py_X7_countValued pi_X7_countValued rfl rfl rfl (fun x11 h => ?_)
    exact r_pret h d_X10_count_100
  · refine r_aload d_X10_count_101 rfl ?_
    refine r_getR h d_X10_count_102 pf_X10_39 (fun x12 h => ?_)
    refine r_invP [] h (fun _ hq => s_X0_countMade hq) d_X10_count_105 pl_X10_146 py_X0_countMade pi_X0_countMade rfl rfl rfl (fun x13 h => ?_)
    exact r_pret h d_X10_count_108
  · refine r_aload d_X10_count_109 rfl ?_
    refine r_getR h d_X10_count_110 pf_X10_39 (fun x14 h => ?_)
    refine r_invP [] h (fun _ hq => s_X0_countStandIns hq) d_X10_count_113 pl_X10_149 py_X0_countStandIns pi_X0_countStandIns rfl rfl rfl (fun x15 h => ?_)
    exact r_pret h d_X10_count_116
  · refine r_aload d_X10_count_117 rfl ?_
    refine r_getR h d_X10_count_118 pf_X10_19 (fun x16 h => ?_)
    refine r_getI h d_X10_count_121 pf_X10_152 (fun x17 h => ?_)
    exact r_pret h d_X10_count_124
  · refine r_aload d_X10_count_125 rfl ?_
    refine r_getR h d_X10_count_126 pf_X10_12 (fun x18 h => ?_)
    refine r_getI h d_X10_count_129 pf_X10_153 (fun x19 h => ?_)
    exact r_pret h d_X10_count_132
  · refine r_aload d_X10_count_133 rfl ?_
    refine r_getR h d_X10_count_134 pf_X10_39 (fun x20 h => ?_)
    refine r_getR h d_X10_count_137 pf_X10_156 (fun x21 h => ?_)
    refine r_aload d_X10_count_140 rfl ?_
    refine r_getR h d_X10_count_141 pf_X10_39 (fun x22 h => ?_)
    refine r_getR h d_X10_count_144 pf_X10_97 (fun x23 h => ?_)
    refine r_invP [_] h (fun _ hq => s_X9_countBad hq) d_X10_count_147 pl_X10_160 py_X9_countBad pi_X9_countBad rfl rfl rfl (fun x24 h => ?_)
    exact r_pret h d_X10_count_150
  · refine r_aload d_X10_count_151 rfl ?_
    refine r_getR h d_X10_count_152 pf_X10_39 (fun x25 h => ?_)
    refine r_getR h d_X10_count_155 pf_X10_156 (fun x26 h => ?_)
    refine r_getI h d_X10_count_158 pf_X10_166 (fun x27 h => ?_)
    exact r_pret h d_X10_count_161
  · refine r_aload d_X10_count_162 rfl ?_
    refine r_getR h d_X10_count_163 pf_X10_39 (fun x28 h => ?_)
    refine r_getR h d_X10_count_166 pf_X10_156 (fun x29 h => ?_)
    refine r_getI h d_X10_count_169 pf_X10_169 (fun x30 h => ?_)
    exact r_pret h d_X10_count_172
  · refine r_iconst d_X10_count_173 ic_m1 ?_
    exact r_pret h d_X10_count_174
/-! X10_need -/
theorem pl_X10_210 : pL RX10 210 yX3_needAt := Or.inl (g_in 887 (by decide +kernel) rfl)
theorem d_X10_need_0 : decAL cX10_need 0 0 1 := Or.inr ⟨0, rfl, by decide +kernel, rfl⟩
theorem d_X10_need_1 : dec 3 cX10_need 1 (.getfield 39) 4 := ⟨by decide +kernel, rfl⟩
theorem d_X10_need_4 : dec 3 cX10_need 4 (.getfield 97) 7 := ⟨by decide +kernel, rfl⟩
theorem d_X10_need_7 : decIL cX10_need 7 1 8 := Or.inr ⟨1, rfl, by decide +kernel, rfl⟩
theorem d_X10_need_8 : decIL cX10_need 8 2 9 := Or.inr ⟨2, rfl, by decide +kernel, rfl⟩
theorem d_X10_need_9 : dec 3 cX10_need 9 (.invokevirtual 210) 12 := ⟨by decide +kernel, rfl⟩
theorem d_X10_need_12 : dec 1 cX10_need 12 .ireturn 13 := ⟨by decide +kernel, rfl⟩
def f_X10_need (F : Nat)  (v0 : Nat) (v1 : Int32) (v2 : Int32) (G : GH) : Option (Int32) :=
  Option.bind (gR G v0 10 1) (fun (x1 : Nat) =>
  Option.bind (gR G x1 0 0) (fun (x2 : Nat) =>
  cvP G x2 3 (f_X3_needAt F x2 v1 v2 G) (fun (x3 : Int32) =>
  some x3)))
set_option maxRecDepth 100000 in
set_option maxHeartbeats 4000000 in
theorem s_X10_need {E : GE} {F : Nat}  {v0 : Nat} {v1 : Int32} {v2 : Int32} {n : Nat} {G : GH} {z : Int32}  (h : f_X10_need F  v0 v1 v2 G = some z) : GM E yX10_need cX10_need 3 (some .int) 2 43 0 0 [.ref v0, .int v1, .int v2] n G (some (.int z), n, G) := by
  refine GM.of (by decide) (Nat.le_of_ble_eq_true rfl) ?_
  show WG E RX10 "need" cX10_need 3 (some .int) 2 43 0 0 0 [(0, .ref v0), (1, .int v1), (2, .int v2)] [] n G (g_O E (some (.int z), n, G))
  unfold f_X10_need at h
  refine r_aload d_X10_need_0 rfl ?_
  refine r_getR h d_X10_need_1 pf_X10_39 (fun x1 h => ?_)
  refine r_getR h d_X10_need_4 pf_X10_97 (fun x2 h => ?_)
  refine r_iload d_X10_need_7 rfl ?_
  refine r_iload d_X10_need_8 rfl ?_
  refine r_invP [_, _] h (fun _ hq => s_X3_needAt hq) d_X10_need_9 pl_X10_210 py_X3_needAt pi_X3_needAt rfl rfl rfl (fun x3 h => ?_)
  exact r_pret h d_X10_need_12
/-! X10_has -/
theorem pl_X10_232 : pL RX10 232 yX7_ownedAt := Or.inl (g_in 892 (by decide +kernel) rfl)
theorem d_X10_has_0 : decAL cX10_has 0 0 1 := Or.inr ⟨0, rfl, by decide +kernel, rfl⟩
theorem d_X10_has_1 : dec 3 cX10_has 1 (.getfield 39) 4 := ⟨by decide +kernel, rfl⟩
theorem d_X10_has_4 : dec 3 cX10_has 4 (.getfield 128) 7 := ⟨by decide +kernel, rfl⟩
theorem d_X10_has_7 : decIL cX10_has 7 1 8 := Or.inr ⟨1, rfl, by decide +kernel, rfl⟩
theorem d_X10_has_8 : decIL cX10_has 8 2 9 := Or.inr ⟨2, rfl, by decide +kernel, rfl⟩
theorem d_X10_has_9 : dec 3 cX10_has 9 (.invokevirtual 232) 12 := ⟨by decide +kernel, rfl⟩
theorem d_X10_has_12 : dec 1 cX10_has 12 .ireturn 13 := ⟨by decide +kernel, rfl⟩
def f_X10_has (F : Nat)  (v0 : Nat) (v1 : Int32) (v2 : Int32) (G : GH) : Option (Int32) :=
  Option.bind (gR G v0 10 1) (fun (x1 : Nat) =>
  Option.bind (gR G x1 0 4) (fun (x2 : Nat) =>
  cvP G x2 7 (f_X7_ownedAt F x2 v1 v2 G) (fun (x3 : Int32) =>
  some x3)))
set_option maxRecDepth 100000 in
set_option maxHeartbeats 4000000 in
theorem s_X10_has {E : GE} {F : Nat}  {v0 : Nat} {v1 : Int32} {v2 : Int32} {n : Nat} {G : GH} {z : Int32}  (h : f_X10_has F  v0 v1 v2 G = some z) : GM E yX10_has cX10_has 3 (some .int) 2 43 0 0 [.ref v0, .int v1, .int v2] n G (some (.int z), n, G) := by
  refine GM.of (by decide) (Nat.le_of_ble_eq_true rfl) ?_
  show WG E RX10 "has" cX10_has 3 (some .int) 2 43 0 0 0 [(0, .ref v0), (1, .int v1), (2, .int v2)] [] n G (g_O E (some (.int z), n, G))
  unfold f_X10_has at h
  refine r_aload d_X10_has_0 rfl ?_
  refine r_getR h d_X10_has_1 pf_X10_39 (fun x1 h => ?_)
  refine r_getR h d_X10_has_4 pf_X10_128 (fun x2 h => ?_)
  refine r_iload d_X10_has_7 rfl ?_
  refine r_iload d_X10_has_8 rfl ?_
  refine r_invP [_, _] h (fun _ hq => s_X7_ownedAt hq) d_X10_has_9 pl_X10_232 py_X7_ownedAt pi_X7_ownedAt rfl rfl rfl (fun x3 h => ?_)
  exact r_pret h d_X10_has_12
/-! X10_stands -/
theorem pl_X10_235 : pL RX10 235 yX0_resolve := Or.inl (g_in 897 (by decide +kernel) rfl)
theorem d_X10_stands_0 : decAL cX10_stands 0 0 1 := Or.inr ⟨0, rfl, by decide +kernel, rfl⟩
theorem d_X10_stands_1 : dec 3 cX10_stands 1 (.getfield 39) 4 := ⟨by decide +kernel, rfl⟩
theorem d_X10_stands_4 : dec 3 cX10_stands 4 (.getfield 97) 7 := ⟨by decide +kernel, rfl⟩
theorem d_X10_stands_7 : decIL cX10_stands 7 1 8 := Or.inr ⟨1, rfl, by decide +kernel, rfl⟩
theorem d_X10_stands_8 : dec 3 cX10_stands 8 (.invokevirtual 113) 11 := ⟨by decide +kernel, rfl⟩
theorem d_X10_stands_11 : decB cX10_stands 11 (.ifCond .eq 18) (18) 14 29 := ⟨by decide +kernel, rfl, by decide⟩
theorem d_X10_stands_14 : decIL cX10_stands 14 2 15 := Or.inr ⟨2, rfl, by decide +kernel, rfl⟩
theorem d_X10_stands_15 : decB cX10_stands 15 (.ifCond .lt 14) (14) 18 29 := ⟨by decide +kernel, rfl, by decide⟩
theorem d_X10_stands_18 : decIL cX10_stands 18 2 19 := Or.inr ⟨2, rfl, by decide +kernel, rfl⟩
theorem d_X10_stands_19 : decAL cX10_stands 19 0 20 := Or.inr ⟨0, rfl, by decide +kernel, rfl⟩
theorem d_X10_stands_20 : dec 3 cX10_stands 20 (.getfield 39) 23 := ⟨by decide +kernel, rfl⟩
theorem d_X10_stands_23 : dec 3 cX10_stands 23 (.getfield 103) 26 := ⟨by decide +kernel, rfl⟩
theorem d_X10_stands_26 : decB cX10_stands 26 (.if_icmp .le 5) (5) 29 31 := ⟨by decide +kernel, rfl, by decide⟩
theorem d_X10_stands_29 : dec 1 cX10_stands 29 (.iconst (-1)) 30 := ⟨by decide +kernel, rfl⟩
theorem d_X10_stands_30 : dec 1 cX10_stands 30 .ireturn 31 := ⟨by decide +kernel, rfl⟩
theorem d_X10_stands_31 : decAL cX10_stands 31 0 32 := Or.inr ⟨0, rfl, by decide +kernel, rfl⟩
theorem d_X10_stands_32 : dec 3 cX10_stands 32 (.getfield 39) 35 := ⟨by decide +kernel, rfl⟩
theorem d_X10_stands_35 : decIL cX10_stands 35 1 36 := Or.inr ⟨1, rfl, by decide +kernel, rfl⟩
theorem d_X10_stands_36 : decIL cX10_stands 36 2 37 := Or.inr ⟨2, rfl, by decide +kernel, rfl⟩
theorem d_X10_stands_37 : dec 3 cX10_stands 37 (.invokevirtual 235) 40 := ⟨by decide +kernel, rfl⟩
theorem d_X10_stands_40 : dec 1 cX10_stands 40 .ireturn 41 := ⟨by decide +kernel, rfl⟩
def f_X10_stands (F : Nat)  (v0 : Nat) (v1 : Int32) (v2 : Int32) (G : GH) : Option (Int32) :=
  Option.bind (gR G v0 10 1) (fun (x1 : Nat) =>
  Option.bind (gR G x1 0 0) (fun (x2 : Nat) =>
  cvP G x2 3 (f_X3_holds F x2 v1 G) (fun (x3 : Int32) =>
  if x3 = 0 then
  (some (-1 : Int32))
  else (if v2 < 0 then
  (some (-1 : Int32))
  else (Option.bind (gR G v0 10 1) (fun (x4 : Nat) =>
  Option.bind (gI G x4 0 1) (fun (x5 : Int32) =>
  if v2 ≤ x5 then
  (Option.bind (gR G v0 10 1) (fun (x6 : Nat) =>
  cvP G x6 0 (f_X0_resolve F x6 v1 v2 G) (fun (x7 : Int32) =>
  some x7)))
  else (some (-1 : Int32)))))))))
set_option maxRecDepth 100000 in
set_option maxHeartbeats 4000000 in
theorem s_X10_stands {E : GE} {F : Nat}  {v0 : Nat} {v1 : Int32} {v2 : Int32} {n : Nat} {G : GH} {z : Int32}  (h : f_X10_stands F  v0 v1 v2 G = some z) : GM E yX10_stands cX10_stands 3 (some .int) 2 46 0 0 [.ref v0, .int v1, .int v2] n G (some (.int z), n, G) := by
  refine GM.of (by decide) (Nat.le_of_ble_eq_true rfl) ?_
  show WG E RX10 "stands" cX10_stands 3 (some .int) 2 46 0 0 0 [(0, .ref v0), (1, .int v1), (2, .int v2)] [] n G (g_O E (some (.int z), n, G))
  unfold f_X10_stands at h
  refine r_aload d_X10_stands_0 rfl ?_
  refine r_getR h d_X10_stands_1 pf_X10_39 (fun x1 h => ?_)
  refine r_getR h d_X10_stands_4 pf_X10_97 (fun x2 h => ?_)
  refine r_iload d_X10_stands_7 rfl ?_
  refine r_invP [_] h (fun _ hq => s_X3_holds hq) d_X10_stands_8 pl_X10_113 py_X3_holds pi_X3_holds rfl rfl rfl (fun x3 h => ?_)
  refine r_if_eq h d_X10_stands_11 (fun h => ?_) (fun h => ?_)
  · refine r_iconst d_X10_stands_29 ic_m1 ?_
    exact r_pret h d_X10_stands_30
  · refine r_iload d_X10_stands_14 rfl ?_
    refine r_if_lt h d_X10_stands_15 (fun h => ?_) (fun h => ?_)
    · refine r_iconst d_X10_stands_29 ic_m1 ?_
      exact r_pret h d_X10_stands_30
    · refine r_iload d_X10_stands_18 rfl ?_
      refine r_aload d_X10_stands_19 rfl ?_
      refine r_getR h d_X10_stands_20 pf_X10_39 (fun x4 h => ?_)
      refine r_getI h d_X10_stands_23 pf_X10_103 (fun x5 h => ?_)
      refine r_icmp_le h d_X10_stands_26 (fun h => ?_) (fun h => ?_)
      · refine r_aload d_X10_stands_31 rfl ?_
        refine r_getR h d_X10_stands_32 pf_X10_39 (fun x6 h => ?_)
        refine r_iload d_X10_stands_35 rfl ?_
        refine r_iload d_X10_stands_36 rfl ?_
        refine r_invP [_, _] h (fun _ hq => s_X0_resolve hq) d_X10_stands_37 pl_X10_235 py_X0_resolve pi_X0_resolve rfl rfl rfl (fun x7 h => ?_)
        exact r_pret h d_X10_stands_40
      · refine r_iconst d_X10_stands_29 ic_m1 ?_
        exact r_pret h d_X10_stands_30
/-! X10_why -/
theorem py_X9_whyAt : pY yX9_whyAt cX9_whyAt 2 (some .int) 1 := ⟨g_in 905 (by decide +kernel) rfl, g_in 100 (by decide +kernel) rfl, by decide, by decide, by decide +kernel⟩
theorem pi_X9_whyAt : pI yX9_whyAt 9 := ⟨g_in 903 (by decide +kernel) rfl, g_in 904 (by decide +kernel) rfl, (RX9, TX9, 5), rfl, rfl⟩
theorem pl_X10_238 : pL RX10 238 yX9_whyAt := Or.inl (g_in 902 (by decide +kernel) rfl)
theorem d_X10_why_0 : decAL cX10_why 0 0 1 := Or.inr ⟨0, rfl, by decide +kernel, rfl⟩
theorem d_X10_why_1 : dec 3 cX10_why 1 (.getfield 39) 4 := ⟨by decide +kernel, rfl⟩
theorem d_X10_why_4 : dec 3 cX10_why 4 (.getfield 156) 7 := ⟨by decide +kernel, rfl⟩
theorem d_X10_why_7 : decIL cX10_why 7 1 8 := Or.inr ⟨1, rfl, by decide +kernel, rfl⟩
theorem d_X10_why_8 : dec 3 cX10_why 8 (.invokevirtual 238) 11 := ⟨by decide +kernel, rfl⟩
theorem d_X10_why_11 : dec 1 cX10_why 11 .ireturn 12 := ⟨by decide +kernel, rfl⟩
def f_X10_why (F : Nat)  (v0 : Nat) (v1 : Int32) (G : GH) : Option (Int32) :=
  Option.bind (gR G v0 10 1) (fun (x1 : Nat) =>
  Option.bind (gR G x1 0 5) (fun (x2 : Nat) =>
  cvP G x2 9 (f_X9_whyAt F x2 v1 G) (fun (x3 : Int32) =>
  some x3)))
set_option maxRecDepth 100000 in
set_option maxHeartbeats 4000000 in
theorem s_X10_why {E : GE} {F : Nat}  {v0 : Nat} {v1 : Int32} {n : Nat} {G : GH} {z : Int32}  (h : f_X10_why F  v0 v1 G = some z) : GM E yX10_why cX10_why 2 (some .int) 1 21 0 0 [.ref v0, .int v1] n G (some (.int z), n, G) := by
  refine GM.of (by decide) (Nat.le_of_ble_eq_true rfl) ?_
  show WG E RX10 "why" cX10_why 2 (some .int) 1 21 0 0 0 [(0, .ref v0), (1, .int v1)] [] n G (g_O E (some (.int z), n, G))
  unfold f_X10_why at h
  refine r_aload d_X10_why_0 rfl ?_
  refine r_getR h d_X10_why_1 pf_X10_39 (fun x1 h => ?_)
  refine r_getR h d_X10_why_4 pf_X10_156 (fun x2 h => ?_)
  refine r_iload d_X10_why_7 rfl ?_
  refine r_invP [_] h (fun _ hq => s_X9_whyAt hq) d_X10_why_8 pl_X10_238 py_X9_whyAt pi_X9_whyAt rfl rfl rfl (fun x3 h => ?_)
  exact r_pret h d_X10_why_11
/-! X10_ended -/
theorem py_X9_endedAt : pY yX9_endedAt cX9_endedAt 2 (some .int) 1 := ⟨g_in 917 (by decide +kernel) rfl, g_in 100 (by decide +kernel) rfl, by decide, by decide, by decide +kernel⟩
theorem pi_X9_endedAt : pI yX9_endedAt 9 := ⟨g_in 915 (by decide +kernel) rfl, g_in 916 (by decide +kernel) rfl, (RX9, TX9, 5), rfl, rfl⟩
theorem pl_X10_245 : pL RX10 245 yX9_endedAt := Or.inl (g_in 914 (by decide +kernel) rfl)
theorem py_X9_badAt : pY yX9_badAt cX9_badAt 5 (some .int) 2 := ⟨g_in 913 (by decide +kernel) rfl, g_in 100 (by decide +kernel) rfl, by decide, by decide, by decide +kernel⟩
theorem pi_X9_badAt : pI yX9_badAt 9 := ⟨g_in 911 (by decide +kernel) rfl, g_in 912 (by decide +kernel) rfl, (RX9, TX9, 5), rfl, rfl⟩
theorem pl_X10_241 : pL RX10 241 yX9_badAt := Or.inl (g_in 910 (by decide +kernel) rfl)
theorem d_X10_ended_0 : decIL cX10_ended 0 2 1 := Or.inr ⟨2, rfl, by decide +kernel, rfl⟩
theorem d_X10_ended_1 : decB cX10_ended 1 (.ifCond .eq 24) (24) 4 25 := ⟨by decide +kernel, rfl, by decide⟩
theorem d_X10_ended_4 : decAL cX10_ended 4 0 5 := Or.inr ⟨0, rfl, by decide +kernel, rfl⟩
theorem d_X10_ended_5 : dec 3 cX10_ended 5 (.getfield 39) 8 := ⟨by decide +kernel, rfl⟩
theorem d_X10_ended_8 : dec 3 cX10_ended 8 (.getfield 156) 11 := ⟨by decide +kernel, rfl⟩
theorem d_X10_ended_11 : decAL cX10_ended 11 0 12 := Or.inr ⟨0, rfl, by decide +kernel, rfl⟩
theorem d_X10_ended_12 : dec 3 cX10_ended 12 (.getfield 39) 15 := ⟨by decide +kernel, rfl⟩
theorem d_X10_ended_15 : dec 3 cX10_ended 15 (.getfield 97) 18 := ⟨by decide +kernel, rfl⟩
theorem d_X10_ended_18 : decIL cX10_ended 18 1 19 := Or.inr ⟨1, rfl, by decide +kernel, rfl⟩
theorem d_X10_ended_19 : dec 3 cX10_ended 19 (.invokevirtual 241) 22 := ⟨by decide +kernel, rfl⟩
theorem d_X10_ended_22 : decB cX10_ended 22 (.goto 14) (14) 25 36 := ⟨by decide +kernel, rfl, by decide⟩
theorem d_X10_ended_25 : decAL cX10_ended 25 0 26 := Or.inr ⟨0, rfl, by decide +kernel, rfl⟩
theorem d_X10_ended_26 : dec 3 cX10_ended 26 (.getfield 39) 29 := ⟨by decide +kernel, rfl⟩
theorem d_X10_ended_29 : dec 3 cX10_ended 29 (.getfield 156) 32 := ⟨by decide +kernel, rfl⟩
theorem d_X10_ended_32 : decIL cX10_ended 32 1 33 := Or.inr ⟨1, rfl, by decide +kernel, rfl⟩
theorem d_X10_ended_33 : dec 3 cX10_ended 33 (.invokevirtual 245) 36 := ⟨by decide +kernel, rfl⟩
theorem d_X10_ended_36 : dec 1 cX10_ended 36 .ireturn 37 := ⟨by decide +kernel, rfl⟩
def f_X10_ended (F : Nat)  (v0 : Nat) (v1 : Int32) (v2 : Int32) (G : GH) : Option (Int32) :=
  if v2 = 0 then
  (Option.bind (gR G v0 10 1) (fun (x1 : Nat) =>
  Option.bind (gR G x1 0 5) (fun (x2 : Nat) =>
  cvP G x2 9 (f_X9_endedAt F x2 v1 G) (fun (x3 : Int32) =>
  some x3))))
  else (Option.bind (gR G v0 10 1) (fun (x4 : Nat) =>
  Option.bind (gR G x4 0 5) (fun (x5 : Nat) =>
  Option.bind (gR G v0 10 1) (fun (x6 : Nat) =>
  Option.bind (gR G x6 0 0) (fun (x7 : Nat) =>
  cvP G x5 9 (f_X9_badAt F x5 x7 v1 G) (fun (x8 : Int32) =>
  some x8))))))
set_option maxRecDepth 100000 in
set_option maxHeartbeats 4000000 in
theorem s_X10_ended {E : GE} {F : Nat}  {v0 : Nat} {v1 : Int32} {v2 : Int32} {n : Nat} {G : GH} {z : Int32}  (h : f_X10_ended F  v0 v1 v2 G = some z) : GM E yX10_ended cX10_ended 3 (some .int) 1 24 0 0 [.ref v0, .int v1, .int v2] n G (some (.int z), n, G) := by
  refine GM.of (by decide) (Nat.le_of_ble_eq_true rfl) ?_
  show WG E RX10 "ended" cX10_ended 3 (some .int) 1 24 0 0 0 [(0, .ref v0), (1, .int v1), (2, .int v2)] [] n G (g_O E (some (.int z), n, G))
  unfold f_X10_ended at h
  refine r_iload d_X10_ended_0 rfl ?_
  refine r_if_eq h d_X10_ended_1 (fun h => ?_) (fun h => ?_)
  · refine r_aload d_X10_ended_25 rfl ?_
    refine r_getR h d_X10_ended_26 pf_X10_39 (fun x1 h => ?_)
    refine r_getR h d_X10_ended_29 pf_X10_156 (fun x2 h => ?_)
    refine r_iload d_X10_ended_32 rfl ?_
    refine r_invP [_] h (fun _ hq => s_X9_endedAt hq) d_X10_ended_33 pl_X10_245 py_X9_endedAt pi_X9_endedAt rfl rfl rfl (fun x3 h => ?_)
    exact r_pret h d_X10_ended_36
  · refine r_aload d_X10_ended_4 rfl ?_
    refine r_getR h d_X10_ended_5 pf_X10_39 (fun x4 h => ?_)
    refine r_getR h d_X10_ended_8 pf_X10_156 (fun x5 h => ?_)
    refine r_aload d_X10_ended_11 rfl ?_
    refine r_getR h d_X10_ended_12 pf_X10_39 (fun x6 h => ?_)
    refine r_getR h d_X10_ended_15 pf_X10_97 (fun x7 h => ?_)
    refine r_iload d_X10_ended_18 rfl ?_
    refine r_invP [_, _] h (fun _ hq => s_X9_badAt hq) d_X10_ended_19 pl_X10_241 py_X9_badAt pi_X9_badAt rfl rfl rfl (fun x8 h => ?_)
    refine r_goto d_X10_ended_22 ?_
    exact r_pret h d_X10_ended_36
/-! X10_pick -/
theorem d_X10_pick_0 : decIL cX10_pick 0 2 1 := Or.inr ⟨2, rfl, by decide +kernel, rfl⟩
theorem d_X10_pick_1 : dec 1 cX10_pick 1 (.iconst (-1)) 2 := ⟨by decide +kernel, rfl⟩
theorem d_X10_pick_2 : decB cX10_pick 2 (.if_icmp .ne 5) (5) 5 7 := ⟨by decide +kernel, rfl, by decide⟩
theorem d_X10_pick_5 : decIL cX10_pick 5 1 6 := Or.inr ⟨1, rfl, by decide +kernel, rfl⟩
theorem d_X10_pick_6 : dec 1 cX10_pick 6 .ireturn 7 := ⟨by decide +kernel, rfl⟩
theorem d_X10_pick_7 : decIL cX10_pick 7 2 8 := Or.inr ⟨2, rfl, by decide +kernel, rfl⟩
theorem d_X10_pick_8 : decB cX10_pick 8 (.ifCond .lt 20) (20) 11 28 := ⟨by decide +kernel, rfl, by decide⟩
theorem d_X10_pick_11 : decIL cX10_pick 11 2 12 := Or.inr ⟨2, rfl, by decide +kernel, rfl⟩
theorem d_X10_pick_12 : decIL cX10_pick 12 1 13 := Or.inr ⟨1, rfl, by decide +kernel, rfl⟩
theorem d_X10_pick_13 : decB cX10_pick 13 (.if_icmp .ge 15) (15) 16 28 := ⟨by decide +kernel, rfl, by decide⟩
theorem d_X10_pick_16 : decIL cX10_pick 16 2 17 := Or.inr ⟨2, rfl, by decide +kernel, rfl⟩
theorem d_X10_pick_17 : decAL cX10_pick 17 0 18 := Or.inr ⟨0, rfl, by decide +kernel, rfl⟩
theorem d_X10_pick_18 : dec 1 cX10_pick 18 .arraylength 19 := ⟨by decide +kernel, rfl⟩
theorem d_X10_pick_19 : decB cX10_pick 19 (.if_icmp .ge 9) (9) 22 28 := ⟨by decide +kernel, rfl, by decide⟩
theorem d_X10_pick_22 : decAL cX10_pick 22 0 23 := Or.inr ⟨0, rfl, by decide +kernel, rfl⟩
theorem d_X10_pick_23 : decIL cX10_pick 23 2 24 := Or.inr ⟨2, rfl, by decide +kernel, rfl⟩
theorem d_X10_pick_24 : dec 1 cX10_pick 24 .iaload 25 := ⟨by decide +kernel, rfl⟩
theorem d_X10_pick_25 : decB cX10_pick 25 (.goto 4) (4) 28 29 := ⟨by decide +kernel, rfl, by decide⟩
theorem d_X10_pick_28 : dec 1 cX10_pick 28 (.iconst (-1)) 29 := ⟨by decide +kernel, rfl⟩
theorem d_X10_pick_29 : dec 1 cX10_pick 29 .ireturn 30 := ⟨by decide +kernel, rfl⟩
def f_X10_pick (F : Nat)  (v0 : Nat) (v1 : Int32) (v2 : Int32) (G : GH) : Option (Int32) :=
  if v2 = (-1 : Int32) then
  (some v1)
  else (if v2 < 0 then
  (some (-1 : Int32))
  else (if v1 ≤ v2 then
  (some (-1 : Int32))
  else (Option.bind (aL G v0) (fun (x1 : Int32) =>
  if x1 ≤ v2 then
  (some (-1 : Int32))
  else (Option.bind (aI G v0 0 v2) (fun (x2 : Int32) =>
  some x2))))))
set_option maxRecDepth 100000 in
set_option maxHeartbeats 4000000 in
theorem s_X10_pick {E : GE} {F : Nat}  {v0 : Nat} {v1 : Int32} {v2 : Int32} {n : Nat} {G : GH} {z : Int32}  (h : f_X10_pick F  v0 v1 v2 G = some z) : GM E yX10_pick cX10_pick 3 (some .int) 0 0 0 0 [.ref v0, .int v1, .int v2] n G (some (.int z), n, G) := by
  refine GM.of (by decide) (Nat.le_of_ble_eq_true rfl) ?_
  show WG E RX10 "pick" cX10_pick 3 (some .int) 0 0 0 0 0 [(0, .ref v0), (1, .int v1), (2, .int v2)] [] n G (g_O E (some (.int z), n, G))
  unfold f_X10_pick at h
  refine r_iload d_X10_pick_0 rfl ?_
  refine r_iconst d_X10_pick_1 ic_m1 ?_
  refine r_icmp_ne h d_X10_pick_2 (fun h => ?_) (fun h => ?_)
  · refine r_iload d_X10_pick_7 rfl ?_
    refine r_if_lt h d_X10_pick_8 (fun h => ?_) (fun h => ?_)
    · refine r_iconst d_X10_pick_28 ic_m1 ?_
      exact r_pret h d_X10_pick_29
    · refine r_iload d_X10_pick_11 rfl ?_
      refine r_iload d_X10_pick_12 rfl ?_
      refine r_icmp_ge h d_X10_pick_13 (fun h => ?_) (fun h => ?_)
      · refine r_iconst d_X10_pick_28 ic_m1 ?_
        exact r_pret h d_X10_pick_29
      · refine r_iload d_X10_pick_16 rfl ?_
        refine r_aload d_X10_pick_17 rfl ?_
        refine r_alen h d_X10_pick_18 (fun x1 h => ?_)
        refine r_icmp_ge h d_X10_pick_19 (fun h => ?_) (fun h => ?_)
        · refine r_iconst d_X10_pick_28 ic_m1 ?_
          exact r_pret h d_X10_pick_29
        · refine r_aload d_X10_pick_22 rfl ?_
          refine r_iload d_X10_pick_23 rfl ?_
          refine r_iald h d_X10_pick_24 (fun x2 h => ?_)
          refine r_goto d_X10_pick_25 ?_
          exact r_pret h d_X10_pick_29
  · refine r_iload d_X10_pick_5 rfl ?_
    exact r_pret h d_X10_pick_6
/-! X10_start -/
theorem pf_X10_61 : pF RX10 61 10 5 := ⟨RX10, TX10, 9, rfl, by decide, rfl, Or.inl (g_in 407 (by decide +kernel) rfl)⟩
theorem py_X5_study : pY yX5_study cX5_study 2 none 1 := ⟨g_in 925 (by decide +kernel) rfl, g_in 103 (by decide +kernel) rfl, by decide, by decide, by decide +kernel⟩
theorem pi_X5_study : pI yX5_study 5 := ⟨g_in 923 (by decide +kernel) rfl, g_in 924 (by decide +kernel) rfl, (RX5, TX5, 9), rfl, rfl⟩
theorem pl_X10_248 : pL RX10 248 yX5_study := Or.inl (g_in 922 (by decide +kernel) rfl)
theorem pf_X10_251 : pF RX10 251 5 2 := ⟨RX5, TX5, 9, rfl, by decide, rfl, Or.inr ⟨"PlugBoard", g_in 373 (by decide +kernel) rfl⟩⟩
theorem pf_X10_254 : pF RX10 254 5 1 := ⟨RX5, TX5, 9, rfl, by decide, rfl, Or.inr ⟨"PlugBoard", g_in 371 (by decide +kernel) rfl⟩⟩
theorem py_X10_pick : pY yX10_pick cX10_pick 3 (some .int) 3 := ⟨g_in 972 (by decide +kernel) rfl, g_in 94 (by decide +kernel) rfl, by decide, by decide, by decide +kernel⟩
theorem ps_X10_pick : Cond.static yX10_pick ∈ g_tbl := g_in 971 (by decide +kernel) rfl
theorem pl_X10_257 : pL RX10 257 yX10_pick := Or.inl (g_in 970 (by decide +kernel) rfl)
theorem d_X10_start_0 : decAL cX10_start 0 0 1 := Or.inr ⟨0, rfl, by decide +kernel, rfl⟩
theorem d_X10_start_1 : dec 3 cX10_start 1 (.getfield 61) 4 := ⟨by decide +kernel, rfl⟩
theorem d_X10_start_4 : decAL cX10_start 4 0 5 := Or.inr ⟨0, rfl, by decide +kernel, rfl⟩
theorem d_X10_start_5 : dec 3 cX10_start 5 (.getfield 39) 8 := ⟨by decide +kernel, rfl⟩
theorem d_X10_start_8 : dec 3 cX10_start 8 (.getfield 97) 11 := ⟨by decide +kernel, rfl⟩
theorem d_X10_start_11 : dec 3 cX10_start 11 (.invokevirtual 248) 14 := ⟨by decide +kernel, rfl⟩
theorem d_X10_start_14 : decAL cX10_start 14 0 15 := Or.inr ⟨0, rfl, by decide +kernel, rfl⟩
theorem d_X10_start_15 : dec 3 cX10_start 15 (.getfield 61) 18 := ⟨by decide +kernel, rfl⟩
theorem d_X10_start_18 : dec 3 cX10_start 18 (.getfield 251) 21 := ⟨by decide +kernel, rfl⟩
theorem d_X10_start_21 : decAL cX10_start 21 0 22 := Or.inr ⟨0, rfl, by decide +kernel, rfl⟩
theorem d_X10_start_22 : dec 3 cX10_start 22 (.getfield 61) 25 := ⟨by decide +kernel, rfl⟩
theorem d_X10_start_25 : dec 3 cX10_start 25 (.getfield 254) 28 := ⟨by decide +kernel, rfl⟩
theorem d_X10_start_28 : decIL cX10_start 28 1 29 := Or.inr ⟨1, rfl, by decide +kernel, rfl⟩
theorem d_X10_start_29 : dec 3 cX10_start 29 (.invokestatic 257) 32 := ⟨by decide +kernel, rfl⟩
theorem d_X10_start_32 : dec 1 cX10_start 32 .ireturn 33 := ⟨by decide +kernel, rfl⟩
def f_X10_start (F : Nat)  (v0 : Nat) (v1 : Int32) (n : Nat) (G : GH) : Option (Int32 × Nat × GH) :=
  Option.bind (gR G v0 10 5) (fun (x1 : Nat) =>
  Option.bind (gR G v0 10 1) (fun (x2 : Nat) =>
  Option.bind (gR G x2 0 0) (fun (x3 : Nat) =>
  cvU G x1 5 (f_X5_study F x1 x3 n G) (fun (n4 : Nat) (G5 : GH) =>
  Option.bind (gR G5 v0 10 5) (fun (x6 : Nat) =>
  Option.bind (gR G5 x6 5 2) (fun (x7 : Nat) =>
  Option.bind (gR G5 v0 10 5) (fun (x8 : Nat) =>
  Option.bind (gI G5 x8 5 1) (fun (x9 : Int32) =>
  Option.bind (f_X10_pick F x7 x9 v1 G5) (fun (x10 : Int32) =>
  some (x10, n4, G5))))))))))
set_option maxRecDepth 100000 in
set_option maxHeartbeats 4000000 in
theorem s_X10_start {E : GE} {F : Nat}  {v0 : Nat} {v1 : Int32} {n : Nat} {G : GH} {z : Int32 × Nat × GH}  (h : f_X10_start F  v0 v1 n G = some z) : GM E yX10_start cX10_start 2 (some .int) 5 123 0 0 [.ref v0, .int v1] n G (some (.int z.1), z.2.1, z.2.2) := by
  refine GM.of (by decide) (Nat.le_of_ble_eq_true rfl) ?_
  show WG E RX10 "start" cX10_start 2 (some .int) 5 123 0 0 0 [(0, .ref v0), (1, .int v1)] [] n G (g_O E (some (.int z.1), z.2.1, z.2.2))
  unfold f_X10_start at h
  refine r_aload d_X10_start_0 rfl ?_
  refine r_getR h d_X10_start_1 pf_X10_61 (fun x1 h => ?_)
  refine r_aload d_X10_start_4 rfl ?_
  refine r_getR h d_X10_start_5 pf_X10_39 (fun x2 h => ?_)
  refine r_getR h d_X10_start_8 pf_X10_97 (fun x3 h => ?_)
  refine r_invU [_] h (fun _ hq => s_X5_study hq) d_X10_start_11 pl_X10_248 py_X5_study pi_X5_study rfl rfl rfl (fun n4 G5 h => ?_)
  refine r_aload d_X10_start_14 rfl ?_
  refine r_getR h d_X10_start_15 pf_X10_61 (fun x6 h => ?_)
  refine r_getR h d_X10_start_18 pf_X10_251 (fun x7 h => ?_)
  refine r_aload d_X10_start_21 rfl ?_
  refine r_getR h d_X10_start_22 pf_X10_61 (fun x8 h => ?_)
  refine r_getI h d_X10_start_25 pf_X10_254 (fun x9 h => ?_)
  refine r_iload d_X10_start_28 rfl ?_
  refine r_invSP [_, _, _] h (fun _ hq => s_X10_pick hq) d_X10_start_29 pl_X10_257 py_X10_pick ps_X10_pick rfl rfl rfl (fun x10 h => ?_)
  exact r_iret h d_X10_start_32
/-! X10_loop -/
theorem pf_X10_261 : pF RX10 261 5 5 := ⟨RX5, TX5, 9, rfl, by decide, rfl, Or.inr ⟨"PlugBoard", g_in 379 (by decide +kernel) rfl⟩⟩
theorem pf_X10_264 : pF RX10 264 5 4 := ⟨RX5, TX5, 9, rfl, by decide, rfl, Or.inr ⟨"PlugBoard", g_in 377 (by decide +kernel) rfl⟩⟩
theorem d_X10_loop_0 : decAL cX10_loop 0 0 1 := Or.inr ⟨0, rfl, by decide +kernel, rfl⟩
theorem d_X10_loop_1 : dec 3 cX10_loop 1 (.getfield 61) 4 := ⟨by decide +kernel, rfl⟩
theorem d_X10_loop_4 : decAL cX10_loop 4 0 5 := Or.inr ⟨0, rfl, by decide +kernel, rfl⟩
theorem d_X10_loop_5 : dec 3 cX10_loop 5 (.getfield 39) 8 := ⟨by decide +kernel, rfl⟩
theorem d_X10_loop_8 : dec 3 cX10_loop 8 (.getfield 97) 11 := ⟨by decide +kernel, rfl⟩
theorem d_X10_loop_11 : dec 3 cX10_loop 11 (.invokevirtual 248) 14 := ⟨by decide +kernel, rfl⟩
theorem d_X10_loop_14 : decAL cX10_loop 14 0 15 := Or.inr ⟨0, rfl, by decide +kernel, rfl⟩
theorem d_X10_loop_15 : dec 3 cX10_loop 15 (.getfield 61) 18 := ⟨by decide +kernel, rfl⟩
theorem d_X10_loop_18 : dec 3 cX10_loop 18 (.getfield 261) 21 := ⟨by decide +kernel, rfl⟩
theorem d_X10_loop_21 : decAL cX10_loop 21 0 22 := Or.inr ⟨0, rfl, by decide +kernel, rfl⟩
theorem d_X10_loop_22 : dec 3 cX10_loop 22 (.getfield 61) 25 := ⟨by decide +kernel, rfl⟩
theorem d_X10_loop_25 : dec 3 cX10_loop 25 (.getfield 264) 28 := ⟨by decide +kernel, rfl⟩
theorem d_X10_loop_28 : decIL cX10_loop 28 1 29 := Or.inr ⟨1, rfl, by decide +kernel, rfl⟩
theorem d_X10_loop_29 : dec 3 cX10_loop 29 (.invokestatic 257) 32 := ⟨by decide +kernel, rfl⟩
theorem d_X10_loop_32 : dec 1 cX10_loop 32 .ireturn 33 := ⟨by decide +kernel, rfl⟩
def f_X10_loop (F : Nat)  (v0 : Nat) (v1 : Int32) (n : Nat) (G : GH) : Option (Int32 × Nat × GH) :=
  Option.bind (gR G v0 10 5) (fun (x1 : Nat) =>
  Option.bind (gR G v0 10 1) (fun (x2 : Nat) =>
  Option.bind (gR G x2 0 0) (fun (x3 : Nat) =>
  cvU G x1 5 (f_X5_study F x1 x3 n G) (fun (n4 : Nat) (G5 : GH) =>
  Option.bind (gR G5 v0 10 5) (fun (x6 : Nat) =>
  Option.bind (gR G5 x6 5 5) (fun (x7 : Nat) =>
  Option.bind (gR G5 v0 10 5) (fun (x8 : Nat) =>
  Option.bind (gI G5 x8 5 4) (fun (x9 : Int32) =>
  Option.bind (f_X10_pick F x7 x9 v1 G5) (fun (x10 : Int32) =>
  some (x10, n4, G5))))))))))
set_option maxRecDepth 100000 in
set_option maxHeartbeats 4000000 in
theorem s_X10_loop {E : GE} {F : Nat}  {v0 : Nat} {v1 : Int32} {n : Nat} {G : GH} {z : Int32 × Nat × GH}  (h : f_X10_loop F  v0 v1 n G = some z) : GM E yX10_loop cX10_loop 2 (some .int) 5 123 0 0 [.ref v0, .int v1] n G (some (.int z.1), z.2.1, z.2.2) := by
  refine GM.of (by decide) (Nat.le_of_ble_eq_true rfl) ?_
  show WG E RX10 "loop" cX10_loop 2 (some .int) 5 123 0 0 0 [(0, .ref v0), (1, .int v1)] [] n G (g_O E (some (.int z.1), z.2.1, z.2.2))
  unfold f_X10_loop at h
  refine r_aload d_X10_loop_0 rfl ?_
  refine r_getR h d_X10_loop_1 pf_X10_61 (fun x1 h => ?_)
  refine r_aload d_X10_loop_4 rfl ?_
  refine r_getR h d_X10_loop_5 pf_X10_39 (fun x2 h => ?_)
  refine r_getR h d_X10_loop_8 pf_X10_97 (fun x3 h => ?_)
  refine r_invU [_] h (fun _ hq => s_X5_study hq) d_X10_loop_11 pl_X10_248 py_X5_study pi_X5_study rfl rfl rfl (fun n4 G5 h => ?_)
  refine r_aload d_X10_loop_14 rfl ?_
  refine r_getR h d_X10_loop_15 pf_X10_61 (fun x6 h => ?_)
  refine r_getR h d_X10_loop_18 pf_X10_261 (fun x7 h => ?_)
  refine r_aload d_X10_loop_21 rfl ?_
  refine r_getR h d_X10_loop_22 pf_X10_61 (fun x8 h => ?_)
  refine r_getI h d_X10_loop_25 pf_X10_264 (fun x9 h => ?_)
  refine r_iload d_X10_loop_28 rfl ?_
  refine r_invSP [_, _, _] h (fun _ hq => s_X10_pick hq) d_X10_loop_29 pl_X10_257 py_X10_pick ps_X10_pick rfl rfl rfl (fun x10 h => ?_)
  exact r_iret h d_X10_loop_32
/-! X10_needs -/
theorem py_X5_neededBy : pY yX5_neededBy cX5_neededBy 7 (some .int) 2 := ⟨g_in 984 (by decide +kernel) rfl, g_in 103 (by decide +kernel) rfl, by decide, by decide, by decide +kernel⟩
theorem pi_X5_neededBy : pI yX5_neededBy 5 := ⟨g_in 982 (by decide +kernel) rfl, g_in 983 (by decide +kernel) rfl, (RX5, TX5, 9), rfl, rfl⟩
theorem pl_X10_267 : pL RX10 267 yX5_neededBy := Or.inl (g_in 981 (by decide +kernel) rfl)
theorem d_X10_needs_0 : decAL cX10_needs 0 0 1 := Or.inr ⟨0, rfl, by decide +kernel, rfl⟩
theorem d_X10_needs_1 : dec 3 cX10_needs 1 (.getfield 39) 4 := ⟨by decide +kernel, rfl⟩
theorem d_X10_needs_4 : dec 3 cX10_needs 4 (.getfield 97) 7 := ⟨by decide +kernel, rfl⟩
theorem d_X10_needs_7 : decIL cX10_needs 7 1 8 := Or.inr ⟨1, rfl, by decide +kernel, rfl⟩
theorem d_X10_needs_8 : dec 3 cX10_needs 8 (.invokevirtual 113) 11 := ⟨by decide +kernel, rfl⟩
theorem d_X10_needs_11 : decB cX10_needs 11 (.ifCond .ne 5) (5) 14 16 := ⟨by decide +kernel, rfl, by decide⟩
theorem d_X10_needs_14 : dec 1 cX10_needs 14 (.iconst (-1)) 15 := ⟨by decide +kernel, rfl⟩
theorem d_X10_needs_15 : dec 1 cX10_needs 15 .ireturn 16 := ⟨by decide +kernel, rfl⟩
theorem d_X10_needs_16 : decAL cX10_needs 16 0 17 := Or.inr ⟨0, rfl, by decide +kernel, rfl⟩
theorem d_X10_needs_17 : dec 3 cX10_needs 17 (.getfield 61) 20 := ⟨by decide +kernel, rfl⟩
theorem d_X10_needs_20 : decAL cX10_needs 20 0 21 := Or.inr ⟨0, rfl, by decide +kernel, rfl⟩
theorem d_X10_needs_21 : dec 3 cX10_needs 21 (.getfield 39) 24 := ⟨by decide +kernel, rfl⟩
theorem d_X10_needs_24 : dec 3 cX10_needs 24 (.getfield 97) 27 := ⟨by decide +kernel, rfl⟩
theorem d_X10_needs_27 : dec 3 cX10_needs 27 (.invokevirtual 248) 30 := ⟨by decide +kernel, rfl⟩
theorem d_X10_needs_30 : decAL cX10_needs 30 0 31 := Or.inr ⟨0, rfl, by decide +kernel, rfl⟩
theorem d_X10_needs_31 : dec 3 cX10_needs 31 (.getfield 61) 34 := ⟨by decide +kernel, rfl⟩
theorem d_X10_needs_34 : decIL cX10_needs 34 1 35 := Or.inr ⟨1, rfl, by decide +kernel, rfl⟩
theorem d_X10_needs_35 : decIL cX10_needs 35 2 36 := Or.inr ⟨2, rfl, by decide +kernel, rfl⟩
theorem d_X10_needs_36 : dec 3 cX10_needs 36 (.invokevirtual 267) 39 := ⟨by decide +kernel, rfl⟩
theorem d_X10_needs_39 : dec 1 cX10_needs 39 .ireturn 40 := ⟨by decide +kernel, rfl⟩
def f_X10_needs (F : Nat)  (v0 : Nat) (v1 : Int32) (v2 : Int32) (n : Nat) (G : GH) : Option (Int32 × Nat × GH) :=
  Option.bind (gR G v0 10 1) (fun (x1 : Nat) =>
  Option.bind (gR G x1 0 0) (fun (x2 : Nat) =>
  cvP G x2 3 (f_X3_holds F x2 v1 G) (fun (x3 : Int32) =>
  if x3 = 0 then
  (some ((-1 : Int32), n, G))
  else (Option.bind (gR G v0 10 5) (fun (x4 : Nat) =>
  Option.bind (gR G v0 10 1) (fun (x5 : Nat) =>
  Option.bind (gR G x5 0 0) (fun (x6 : Nat) =>
  cvU G x4 5 (f_X5_study F x4 x6 n G) (fun (n7 : Nat) (G8 : GH) =>
  Option.bind (gR G8 v0 10 5) (fun (x9 : Nat) =>
  cvP G8 x9 5 (f_X5_neededBy F x9 v1 v2 G8) (fun (x10 : Int32) =>
  some (x10, n7, G8)))))))))))
set_option maxRecDepth 100000 in
set_option maxHeartbeats 4000000 in
theorem s_X10_needs {E : GE} {F : Nat}  {v0 : Nat} {v1 : Int32} {v2 : Int32} {n : Nat} {G : GH} {z : Int32 × Nat × GH}  (h : f_X10_needs F  v0 v1 v2 n G = some z) : GM E yX10_needs cX10_needs 3 (some .int) 5 123 0 0 [.ref v0, .int v1, .int v2] n G (some (.int z.1), z.2.1, z.2.2) := by
  refine GM.of (by decide) (Nat.le_of_ble_eq_true rfl) ?_
  show WG E RX10 "needs" cX10_needs 3 (some .int) 5 123 0 0 0 [(0, .ref v0), (1, .int v1), (2, .int v2)] [] n G (g_O E (some (.int z.1), z.2.1, z.2.2))
  unfold f_X10_needs at h
  refine r_aload d_X10_needs_0 rfl ?_
  refine r_getR h d_X10_needs_1 pf_X10_39 (fun x1 h => ?_)
  refine r_getR h d_X10_needs_4 pf_X10_97 (fun x2 h => ?_)
  refine r_iload d_X10_needs_7 rfl ?_
  refine r_invP [_] h (fun _ hq => s_X3_holds hq) d_X10_needs_8 pl_X10_113 py_X3_holds pi_X3_holds rfl rfl rfl (fun x3 h => ?_)
  refine r_if_ne h d_X10_needs_11 (fun h => ?_) (fun h => ?_)
  · refine r_aload d_X10_needs_16 rfl ?_
    refine r_getR h d_X10_needs_17 pf_X10_61 (fun x4 h => ?_)
    refine r_aload d_X10_needs_20 rfl ?_
    refine r_getR h d_X10_needs_21 pf_X10_39 (fun x5 h => ?_)
    refine r_getR h d_X10_needs_24 pf_X10_97 (fun x6 h => ?_)
    refine r_invU [_] h (fun _ hq => s_X5_study hq) d_X10_needs_27 pl_X10_248 py_X5_study pi_X5_study rfl rfl rfl (fun n7 G8 h => ?_)
    refine r_aload d_X10_needs_30 rfl ?_
    refine r_getR h d_X10_needs_31 pf_X10_61 (fun x9 h => ?_)
    refine r_iload d_X10_needs_34 rfl ?_
    refine r_iload d_X10_needs_35 rfl ?_
    refine r_invP [_, _] h (fun _ hq => s_X5_neededBy hq) d_X10_needs_36 pl_X10_267 py_X5_neededBy pi_X5_neededBy rfl rfl rfl (fun x10 h => ?_)
    exact r_iret h d_X10_needs_39
  · refine r_iconst d_X10_needs_14 ic_m1 ?_
    exact r_iret h d_X10_needs_15
/-! X10_would -/
theorem pl_X10_271 : pL RX10 271 yX0_copyFrom := Or.inl (g_in 989 (by decide +kernel) rfl)
theorem pf_X10_55 : pF RX10 55 10 4 := ⟨RX10, TX10, 9, rfl, by decide, rfl, Or.inl (g_in 406 (by decide +kernel) rfl)⟩
theorem d_X10_would_0 : decAL cX10_would 0 0 1 := Or.inr ⟨0, rfl, by decide +kernel, rfl⟩
theorem d_X10_would_1 : dec 3 cX10_would 1 (.getfield 39) 4 := ⟨by decide +kernel, rfl⟩
theorem d_X10_would_4 : dec 3 cX10_would 4 (.getfield 97) 7 := ⟨by decide +kernel, rfl⟩
theorem d_X10_would_7 : decIL cX10_would 7 1 8 := Or.inr ⟨1, rfl, by decide +kernel, rfl⟩
theorem d_X10_would_8 : dec 3 cX10_would 8 (.invokevirtual 113) 11 := ⟨by decide +kernel, rfl⟩
theorem d_X10_would_11 : decB cX10_would 11 (.ifCond .eq 12) (12) 14 23 := ⟨by decide +kernel, rfl, by decide⟩
theorem d_X10_would_14 : decIL cX10_would 14 2 15 := Or.inr ⟨2, rfl, by decide +kernel, rfl⟩
theorem d_X10_would_15 : decB cX10_would 15 (.ifCond .lt 8) (8) 18 23 := ⟨by decide +kernel, rfl, by decide⟩
theorem d_X10_would_18 : decIL cX10_would 18 2 19 := Or.inr ⟨2, rfl, by decide +kernel, rfl⟩
theorem d_X10_would_19 : dec 1 cX10_would 19 (.iconst 1) 20 := ⟨by decide +kernel, rfl⟩
theorem d_X10_would_20 : decB cX10_would 20 (.if_icmp .le 5) (5) 23 25 := ⟨by decide +kernel, rfl, by decide⟩
theorem d_X10_would_23 : dec 1 cX10_would 23 (.iconst (-1)) 24 := ⟨by decide +kernel, rfl⟩
theorem d_X10_would_24 : dec 1 cX10_would 24 .ireturn 25 := ⟨by decide +kernel, rfl⟩
theorem d_X10_would_25 : decAL cX10_would 25 0 26 := Or.inr ⟨0, rfl, by decide +kernel, rfl⟩
theorem d_X10_would_26 : dec 3 cX10_would 26 (.getfield 52) 29 := ⟨by decide +kernel, rfl⟩
theorem d_X10_would_29 : decAL cX10_would 29 0 30 := Or.inr ⟨0, rfl, by decide +kernel, rfl⟩
theorem d_X10_would_30 : dec 3 cX10_would 30 (.getfield 39) 33 := ⟨by decide +kernel, rfl⟩
theorem d_X10_would_33 : dec 3 cX10_would 33 (.invokevirtual 271) 36 := ⟨by decide +kernel, rfl⟩
theorem d_X10_would_36 : decAL cX10_would 36 0 37 := Or.inr ⟨0, rfl, by decide +kernel, rfl⟩
theorem d_X10_would_37 : dec 3 cX10_would 37 (.getfield 55) 40 := ⟨by decide +kernel, rfl⟩
theorem d_X10_would_40 : decIL cX10_would 40 1 41 := Or.inr ⟨1, rfl, by decide +kernel, rfl⟩
theorem d_X10_would_41 : dec 3 cX10_would 41 (.invokevirtual 124) 44 := ⟨by decide +kernel, rfl⟩
theorem d_X10_would_44 : decIS cX10_would 44 3 45 := Or.inr ⟨3, rfl, by decide +kernel, rfl⟩
theorem d_X10_would_45 : decIL cX10_would 45 2 46 := Or.inr ⟨2, rfl, by decide +kernel, rfl⟩
theorem d_X10_would_46 : decB cX10_would 46 (.ifCond .ne 27) (27) 49 73 := ⟨by decide +kernel, rfl, by decide⟩
theorem d_X10_would_49 : decAL cX10_would 49 0 50 := Or.inr ⟨0, rfl, by decide +kernel, rfl⟩
theorem d_X10_would_50 : dec 3 cX10_would 50 (.getfield 52) 53 := ⟨by decide +kernel, rfl⟩
theorem d_X10_would_53 : dec 3 cX10_would 53 (.getfield 128) 56 := ⟨by decide +kernel, rfl⟩
theorem d_X10_would_56 : dec 3 cX10_would 56 (.getfield 142) 59 := ⟨by decide +kernel, rfl⟩
theorem d_X10_would_59 : decAL cX10_would 59 0 60 := Or.inr ⟨0, rfl, by decide +kernel, rfl⟩
theorem d_X10_would_60 : dec 3 cX10_would 60 (.getfield 39) 63 := ⟨by decide +kernel, rfl⟩
theorem d_X10_would_63 : dec 3 cX10_would 63 (.getfield 128) 66 := ⟨by decide +kernel, rfl⟩
theorem d_X10_would_66 : dec 3 cX10_would 66 (.getfield 142) 69 := ⟨by decide +kernel, rfl⟩
theorem d_X10_would_69 : dec 1 cX10_would 69 .isub 70 := ⟨by decide +kernel, rfl⟩
theorem d_X10_would_70 : decB cX10_would 70 (.goto 4) (4) 73 74 := ⟨by decide +kernel, rfl, by decide⟩
theorem d_X10_would_73 : decIL cX10_would 73 3 74 := Or.inr ⟨3, rfl, by decide +kernel, rfl⟩
theorem d_X10_would_74 : dec 1 cX10_would 74 .ireturn 75 := ⟨by decide +kernel, rfl⟩
def f_X10_would (F : Nat)  (v0 : Nat) (v1 : Int32) (v2 : Int32) (n : Nat) (G : GH) : Option (Int32 × Nat × GH) :=
  Option.bind (gR G v0 10 1) (fun (x1 : Nat) =>
  Option.bind (gR G x1 0 0) (fun (x2 : Nat) =>
  cvP G x2 3 (f_X3_holds F x2 v1 G) (fun (x3 : Int32) =>
  if x3 = 0 then
  (some ((-1 : Int32), n, G))
  else (if v2 < 0 then
  (some ((-1 : Int32), n, G))
  else (if v2 ≤ (1 : Int32) then
  (Option.bind (gR G v0 10 3) (fun (x4 : Nat) =>
  Option.bind (gR G v0 10 1) (fun (x5 : Nat) =>
  cvU G x4 0 (f_X0_copyFrom F x4 x5 n G) (fun (n6 : Nat) (G7 : GH) =>
  Option.bind (gR G7 v0 10 4) (fun (x8 : Nat) =>
  cvI G7 x8 1 (f_X1_askFor F x8 v1 n6 G7) (fun (x11 : Int32) (n9 : Nat) (G10 : GH) =>
  if v2 = 0 then
  (Option.bind (gR G10 v0 10 3) (fun (x12 : Nat) =>
  Option.bind (gR G10 x12 0 4) (fun (x13 : Nat) =>
  Option.bind (gI G10 x13 7 0) (fun (x14 : Int32) =>
  Option.bind (gR G10 v0 10 1) (fun (x15 : Nat) =>
  Option.bind (gR G10 x15 0 4) (fun (x16 : Nat) =>
  Option.bind (gI G10 x16 7 0) (fun (x17 : Int32) =>
  some (x14 - x17, n9, G10))))))))
  else (some (x11, n9, G10))))))))
  else (some ((-1 : Int32), n, G)))))))
set_option maxRecDepth 100000 in
set_option maxHeartbeats 4000000 in
theorem s_X10_would {E : GE} {F : Nat}  {v0 : Nat} {v1 : Int32} {v2 : Int32} {n : Nat} {G : GH} {z : Int32 × Nat × GH}  (h : f_X10_would F  v0 v1 v2 n G = some z) : GM E yX10_would cX10_would 4 (some .int) 54 1927 0 0 [.ref v0, .int v1, .int v2] n G (some (.int z.1), z.2.1, z.2.2) := by
  refine GM.of (by decide) (Nat.le_of_ble_eq_true rfl) ?_
  show WG E RX10 "would" cX10_would 4 (some .int) 54 1927 0 0 0 [(0, .ref v0), (1, .int v1), (2, .int v2)] [] n G (g_O E (some (.int z.1), z.2.1, z.2.2))
  unfold f_X10_would at h
  refine r_aload d_X10_would_0 rfl ?_
  refine r_getR h d_X10_would_1 pf_X10_39 (fun x1 h => ?_)
  refine r_getR h d_X10_would_4 pf_X10_97 (fun x2 h => ?_)
  refine r_iload d_X10_would_7 rfl ?_
  refine r_invP [_] h (fun _ hq => s_X3_holds hq) d_X10_would_8 pl_X10_113 py_X3_holds pi_X3_holds rfl rfl rfl (fun x3 h => ?_)
  refine r_if_eq h d_X10_would_11 (fun h => ?_) (fun h => ?_)
  · refine r_iconst d_X10_would_23 ic_m1 ?_
    exact r_iret h d_X10_would_24
  · refine r_iload d_X10_would_14 rfl ?_
    refine r_if_lt h d_X10_would_15 (fun h => ?_) (fun h => ?_)
    · refine r_iconst d_X10_would_23 ic_m1 ?_
      exact r_iret h d_X10_would_24
    · refine r_iload d_X10_would_18 rfl ?_
      refine r_iconst d_X10_would_19 ic_1 ?_
      refine r_icmp_le h d_X10_would_20 (fun h => ?_) (fun h => ?_)
      · refine r_aload d_X10_would_25 rfl ?_
        refine r_getR h d_X10_would_26 pf_X10_52 (fun x4 h => ?_)
        refine r_aload d_X10_would_29 rfl ?_
        refine r_getR h d_X10_would_30 pf_X10_39 (fun x5 h => ?_)
        refine r_invU [_] h (fun _ hq => s_X0_copyFrom hq) d_X10_would_33 pl_X10_271 py_X0_copyFrom pi_X0_copyFrom rfl rfl rfl (fun n6 G7 h => ?_)
        refine r_aload d_X10_would_36 rfl ?_
        refine r_getR h d_X10_would_37 pf_X10_55 (fun x8 h => ?_)
        refine r_iload d_X10_would_40 rfl ?_
        refine r_invI [_] h (fun _ hq => s_X1_askFor hq) d_X10_would_41 pl_X10_124 py_X1_askFor pi_X1_askFor rfl rfl rfl (fun x11 n9 G10 h => ?_)
        refine r_istore d_X10_would_44 rfl rfl ?_
        refine r_iload d_X10_would_45 rfl ?_
        refine r_if_ne h d_X10_would_46 (fun h => ?_) (fun h => ?_)
        · refine r_iload d_X10_would_73 rfl ?_
          exact r_iret h d_X10_would_74
        · refine r_aload d_X10_would_49 rfl ?_
          refine r_getR h d_X10_would_50 pf_X10_52 (fun x12 h => ?_)
          refine r_getR h d_X10_would_53 pf_X10_128 (fun x13 h => ?_)
          refine r_getI h d_X10_would_56 pf_X10_142 (fun x14 h => ?_)
          refine r_aload d_X10_would_59 rfl ?_
          refine r_getR h d_X10_would_60 pf_X10_39 (fun x15 h => ?_)
          refine r_getR h d_X10_would_63 pf_X10_128 (fun x16 h => ?_)
          refine r_getI h d_X10_would_66 pf_X10_142 (fun x17 h => ?_)
          refine r_isub d_X10_would_69 ?_
          refine r_goto d_X10_would_70 ?_
          exact r_iret h d_X10_would_74
      · refine r_iconst d_X10_would_23 ic_m1 ?_
        exact r_iret h d_X10_would_24
/-! X10_worth -/
theorem pf_X10_224 : pF RX10 224 7 4 := ⟨RX7, TX7, 7, rfl, by decide, rfl, Or.inr ⟨"PlugBoard", g_in 259 (by decide +kernel) rfl⟩⟩
theorem d_X10_worth_0 : decAL cX10_worth 0 0 1 := Or.inr ⟨0, rfl, by decide +kernel, rfl⟩
theorem d_X10_worth_1 : dec 3 cX10_worth 1 (.getfield 39) 4 := ⟨by decide +kernel, rfl⟩
theorem d_X10_worth_4 : dec 3 cX10_worth 4 (.getfield 97) 7 := ⟨by decide +kernel, rfl⟩
theorem d_X10_worth_7 : decIL cX10_worth 7 1 8 := Or.inr ⟨1, rfl, by decide +kernel, rfl⟩
theorem d_X10_worth_8 : dec 3 cX10_worth 8 (.invokevirtual 113) 11 := ⟨by decide +kernel, rfl⟩
theorem d_X10_worth_11 : decB cX10_worth 11 (.ifCond .ne 5) (5) 14 16 := ⟨by decide +kernel, rfl, by decide⟩
theorem d_X10_worth_14 : dec 1 cX10_worth 14 (.iconst 0) 15 := ⟨by decide +kernel, rfl⟩
theorem d_X10_worth_15 : dec 1 cX10_worth 15 .ireturn 16 := ⟨by decide +kernel, rfl⟩
theorem d_X10_worth_16 : decAL cX10_worth 16 0 17 := Or.inr ⟨0, rfl, by decide +kernel, rfl⟩
theorem d_X10_worth_17 : dec 3 cX10_worth 17 (.getfield 52) 20 := ⟨by decide +kernel, rfl⟩
theorem d_X10_worth_20 : decAL cX10_worth 20 0 21 := Or.inr ⟨0, rfl, by decide +kernel, rfl⟩
theorem d_X10_worth_21 : dec 3 cX10_worth 21 (.getfield 39) 24 := ⟨by decide +kernel, rfl⟩
theorem d_X10_worth_24 : dec 3 cX10_worth 24 (.invokevirtual 271) 27 := ⟨by decide +kernel, rfl⟩
theorem d_X10_worth_27 : decAL cX10_worth 27 0 28 := Or.inr ⟨0, rfl, by decide +kernel, rfl⟩
theorem d_X10_worth_28 : dec 3 cX10_worth 28 (.getfield 55) 31 := ⟨by decide +kernel, rfl⟩
theorem d_X10_worth_31 : decIL cX10_worth 31 1 32 := Or.inr ⟨1, rfl, by decide +kernel, rfl⟩
theorem d_X10_worth_32 : dec 3 cX10_worth 32 (.invokevirtual 124) 35 := ⟨by decide +kernel, rfl⟩
theorem d_X10_worth_35 : decIS cX10_worth 35 2 36 := Or.inr ⟨2, rfl, by decide +kernel, rfl⟩
theorem d_X10_worth_36 : decAL cX10_worth 36 0 37 := Or.inr ⟨0, rfl, by decide +kernel, rfl⟩
theorem d_X10_worth_37 : dec 3 cX10_worth 37 (.getfield 52) 40 := ⟨by decide +kernel, rfl⟩
theorem d_X10_worth_40 : dec 3 cX10_worth 40 (.getfield 128) 43 := ⟨by decide +kernel, rfl⟩
theorem d_X10_worth_43 : decIL cX10_worth 43 2 44 := Or.inr ⟨2, rfl, by decide +kernel, rfl⟩
theorem d_X10_worth_44 : dec 3 cX10_worth 44 (.invokevirtual 132) 47 := ⟨by decide +kernel, rfl⟩
theorem d_X10_worth_47 : decB cX10_worth 47 (.ifCond .eq 15) (15) 50 62 := ⟨by decide +kernel, rfl, by decide⟩
theorem d_X10_worth_50 : decAL cX10_worth 50 0 51 := Or.inr ⟨0, rfl, by decide +kernel, rfl⟩
theorem d_X10_worth_51 : dec 3 cX10_worth 51 (.getfield 55) 54 := ⟨by decide +kernel, rfl⟩
theorem d_X10_worth_54 : decIL cX10_worth 54 2 55 := Or.inr ⟨2, rfl, by decide +kernel, rfl⟩
theorem d_X10_worth_55 : dec 3 cX10_worth 55 (.invokevirtual 135) 58 := ⟨by decide +kernel, rfl⟩
theorem d_X10_worth_58 : dec 1 cX10_worth 58 (.iconst 1) 59 := ⟨by decide +kernel, rfl⟩
theorem d_X10_worth_59 : decB cX10_worth 59 (.if_icmp .eq 5) (5) 62 64 := ⟨by decide +kernel, rfl, by decide⟩
theorem d_X10_worth_62 : dec 1 cX10_worth 62 (.iconst 0) 63 := ⟨by decide +kernel, rfl⟩
theorem d_X10_worth_63 : dec 1 cX10_worth 63 .ireturn 64 := ⟨by decide +kernel, rfl⟩
theorem d_X10_worth_64 : decAL cX10_worth 64 0 65 := Or.inr ⟨0, rfl, by decide +kernel, rfl⟩
theorem d_X10_worth_65 : dec 3 cX10_worth 65 (.getfield 52) 68 := ⟨by decide +kernel, rfl⟩
theorem d_X10_worth_68 : dec 3 cX10_worth 68 (.getfield 128) 71 := ⟨by decide +kernel, rfl⟩
theorem d_X10_worth_71 : dec 3 cX10_worth 71 (.getfield 224) 74 := ⟨by decide +kernel, rfl⟩
theorem d_X10_worth_74 : decIL cX10_worth 74 2 75 := Or.inr ⟨2, rfl, by decide +kernel, rfl⟩
theorem d_X10_worth_75 : dec 1 cX10_worth 75 .iaload 76 := ⟨by decide +kernel, rfl⟩
theorem d_X10_worth_76 : dec 1 cX10_worth 76 .ireturn 77 := ⟨by decide +kernel, rfl⟩
def f_X10_worth (F : Nat)  (v0 : Nat) (v1 : Int32) (n : Nat) (G : GH) : Option (Int32 × Nat × GH) :=
  Option.bind (gR G v0 10 1) (fun (x1 : Nat) =>
  Option.bind (gR G x1 0 0) (fun (x2 : Nat) =>
  cvP G x2 3 (f_X3_holds F x2 v1 G) (fun (x3 : Int32) =>
  if x3 = 0 then
  (some ((0 : Int32), n, G))
  else (Option.bind (gR G v0 10 3) (fun (x4 : Nat) =>
  Option.bind (gR G v0 10 1) (fun (x5 : Nat) =>
  cvU G x4 0 (f_X0_copyFrom F x4 x5 n G) (fun (n6 : Nat) (G7 : GH) =>
  Option.bind (gR G7 v0 10 4) (fun (x8 : Nat) =>
  cvI G7 x8 1 (f_X1_askFor F x8 v1 n6 G7) (fun (x11 : Int32) (n9 : Nat) (G10 : GH) =>
  Option.bind (gR G10 v0 10 3) (fun (x12 : Nat) =>
  Option.bind (gR G10 x12 0 4) (fun (x13 : Nat) =>
  cvP G10 x13 7 (f_X7_holds F x13 x11 G10) (fun (x14 : Int32) =>
  if x14 = 0 then
  (some ((0 : Int32), n9, G10))
  else (Option.bind (gR G10 v0 10 4) (fun (x15 : Nat) =>
  cvI G10 x15 1 (f_X1_reckonFor F x15 x11 n9 G10) (fun (x18 : Int32) (n16 : Nat) (G17 : GH) =>
  if x18 = (1 : Int32) then
  (Option.bind (gR G17 v0 10 3) (fun (x19 : Nat) =>
  Option.bind (gR G17 x19 0 4) (fun (x20 : Nat) =>
  Option.bind (gR G17 x20 7 4) (fun (x21 : Nat) =>
  Option.bind (aI G17 x21 0 x11) (fun (x22 : Int32) =>
  some (x22, n16, G17))))))
  else (some ((0 : Int32), n16, G17)))))))))))))))))
set_option maxRecDepth 100000 in
set_option maxHeartbeats 4000000 in
theorem s_X10_worth {E : GE} {F : Nat}  {v0 : Nat} {v1 : Int32} {n : Nat} {G : GH} {z : Int32 × Nat × GH}  (h : f_X10_worth F  v0 v1 n G = some z) : GM E yX10_worth cX10_worth 3 (some .int) 124 4531 0 0 [.ref v0, .int v1] n G (some (.int z.1), z.2.1, z.2.2) := by
  refine GM.of (by decide) (Nat.le_of_ble_eq_true rfl) ?_
  show WG E RX10 "worth" cX10_worth 3 (some .int) 124 4531 0 0 0 [(0, .ref v0), (1, .int v1)] [] n G (g_O E (some (.int z.1), z.2.1, z.2.2))
  unfold f_X10_worth at h
  refine r_aload d_X10_worth_0 rfl ?_
  refine r_getR h d_X10_worth_1 pf_X10_39 (fun x1 h => ?_)
  refine r_getR h d_X10_worth_4 pf_X10_97 (fun x2 h => ?_)
  refine r_iload d_X10_worth_7 rfl ?_
  refine r_invP [_] h (fun _ hq => s_X3_holds hq) d_X10_worth_8 pl_X10_113 py_X3_holds pi_X3_holds rfl rfl rfl (fun x3 h => ?_)
  refine r_if_ne h d_X10_worth_11 (fun h => ?_) (fun h => ?_)
  · refine r_aload d_X10_worth_16 rfl ?_
    refine r_getR h d_X10_worth_17 pf_X10_52 (fun x4 h => ?_)
    refine r_aload d_X10_worth_20 rfl ?_
    refine r_getR h d_X10_worth_21 pf_X10_39 (fun x5 h => ?_)
    refine r_invU [_] h (fun _ hq => s_X0_copyFrom hq) d_X10_worth_24 pl_X10_271 py_X0_copyFrom pi_X0_copyFrom rfl rfl rfl (fun n6 G7 h => ?_)
    refine r_aload d_X10_worth_27 rfl ?_
    refine r_getR h d_X10_worth_28 pf_X10_55 (fun x8 h => ?_)
    refine r_iload d_X10_worth_31 rfl ?_
    refine r_invI [_] h (fun _ hq => s_X1_askFor hq) d_X10_worth_32 pl_X10_124 py_X1_askFor pi_X1_askFor rfl rfl rfl (fun x11 n9 G10 h => ?_)
    refine r_istore d_X10_worth_35 rfl rfl ?_
    refine r_aload d_X10_worth_36 rfl ?_
    refine r_getR h d_X10_worth_37 pf_X10_52 (fun x12 h => ?_)
    refine r_getR h d_X10_worth_40 pf_X10_128 (fun x13 h => ?_)
    refine r_iload d_X10_worth_43 rfl ?_
    refine r_invP [_] h (fun _ hq => s_X7_holds hq) d_X10_worth_44 pl_X10_132 py_X7_holds pi_X7_holds rfl rfl rfl (fun x14 h => ?_)
    refine r_if_eq h d_X10_worth_47 (fun h => ?_) (fun h => ?_)
    · refine r_iconst d_X10_worth_62 ic_0 ?_
      exact r_iret h d_X10_worth_63
    · refine r_aload d_X10_worth_50 rfl ?_
      refine r_getR h d_X10_worth_51 pf_X10_55 (fun x15 h => ?_)
      refine r_iload d_X10_worth_54 rfl ?_
      refine r_invI [_] h (fun _ hq => s_X1_reckonFor hq) d_X10_worth_55 pl_X10_135 py_X1_reckonFor pi_X1_reckonFor rfl rfl rfl (fun x18 n16 G17 h => ?_)
      refine r_iconst d_X10_worth_58 ic_1 ?_
      refine r_icmp_eq h d_X10_worth_59 (fun h => ?_) (fun h => ?_)
      · refine r_aload d_X10_worth_64 rfl ?_
        refine r_getR h d_X10_worth_65 pf_X10_52 (fun x19 h => ?_)
        refine r_getR h d_X10_worth_68 pf_X10_128 (fun x20 h => ?_)
        refine r_getR h d_X10_worth_71 pf_X10_224 (fun x21 h => ?_)
        refine r_iload d_X10_worth_74 rfl ?_
        refine r_iald h d_X10_worth_75 (fun x22 h => ?_)
        exact r_iret h d_X10_worth_76
      · refine r_iconst d_X10_worth_62 ic_0 ?_
        exact r_iret h d_X10_worth_63
  · refine r_iconst d_X10_worth_14 ic_0 ?_
    exact r_iret h d_X10_worth_15
/-! X10_deep -/
theorem py_X5_longestRow : pY yX5_longestRow cX5_longestRow 3 (some .int) 0 := ⟨g_in 1001 (by decide +kernel) rfl, g_in 103 (by decide +kernel) rfl, by decide, by decide, by decide +kernel⟩
theorem pi_X5_longestRow : pI yX5_longestRow 5 := ⟨g_in 999 (by decide +kernel) rfl, g_in 1000 (by decide +kernel) rfl, (RX5, TX5, 9), rfl, rfl⟩
theorem pl_X10_274 : pL RX10 274 yX5_longestRow := Or.inl (g_in 998 (by decide +kernel) rfl)
theorem d_X10_deep_0 : decAL cX10_deep 0 0 1 := Or.inr ⟨0, rfl, by decide +kernel, rfl⟩
theorem d_X10_deep_1 : dec 3 cX10_deep 1 (.getfield 61) 4 := ⟨by decide +kernel, rfl⟩
theorem d_X10_deep_4 : decAL cX10_deep 4 0 5 := Or.inr ⟨0, rfl, by decide +kernel, rfl⟩
theorem d_X10_deep_5 : dec 3 cX10_deep 5 (.getfield 39) 8 := ⟨by decide +kernel, rfl⟩
theorem d_X10_deep_8 : dec 3 cX10_deep 8 (.getfield 97) 11 := ⟨by decide +kernel, rfl⟩
theorem d_X10_deep_11 : dec 3 cX10_deep 11 (.invokevirtual 248) 14 := ⟨by decide +kernel, rfl⟩
theorem d_X10_deep_14 : decAL cX10_deep 14 0 15 := Or.inr ⟨0, rfl, by decide +kernel, rfl⟩
theorem d_X10_deep_15 : dec 3 cX10_deep 15 (.getfield 61) 18 := ⟨by decide +kernel, rfl⟩
theorem d_X10_deep_18 : dec 3 cX10_deep 18 (.invokevirtual 274) 21 := ⟨by decide +kernel, rfl⟩
theorem d_X10_deep_21 : dec 1 cX10_deep 21 .ireturn 22 := ⟨by decide +kernel, rfl⟩
def f_X10_deep (F : Nat)  (v0 : Nat) (n : Nat) (G : GH) : Option (Int32 × Nat × GH) :=
  Option.bind (gR G v0 10 5) (fun (x1 : Nat) =>
  Option.bind (gR G v0 10 1) (fun (x2 : Nat) =>
  Option.bind (gR G x2 0 0) (fun (x3 : Nat) =>
  cvU G x1 5 (f_X5_study F x1 x3 n G) (fun (n4 : Nat) (G5 : GH) =>
  Option.bind (gR G5 v0 10 5) (fun (x6 : Nat) =>
  cvP G5 x6 5 (f_X5_longestRow F x6 G5) (fun (x7 : Int32) =>
  some (x7, n4, G5)))))))
set_option maxRecDepth 100000 in
set_option maxHeartbeats 4000000 in
theorem s_X10_deep {E : GE} {F : Nat}  {v0 : Nat} {n : Nat} {G : GH} {z : Int32 × Nat × GH}  (h : f_X10_deep F  v0 n G = some z) : GM E yX10_deep cX10_deep 1 (some .int) 5 123 0 0 [.ref v0] n G (some (.int z.1), z.2.1, z.2.2) := by
  refine GM.of (by decide) (Nat.le_of_ble_eq_true rfl) ?_
  show WG E RX10 "deep" cX10_deep 1 (some .int) 5 123 0 0 0 [(0, .ref v0)] [] n G (g_O E (some (.int z.1), z.2.1, z.2.2))
  unfold f_X10_deep at h
  refine r_aload d_X10_deep_0 rfl ?_
  refine r_getR h d_X10_deep_1 pf_X10_61 (fun x1 h => ?_)
  refine r_aload d_X10_deep_4 rfl ?_
  refine r_getR h d_X10_deep_5 pf_X10_39 (fun x2 h => ?_)
  refine r_getR h d_X10_deep_8 pf_X10_97 (fun x3 h => ?_)
  refine r_invU [_] h (fun _ hq => s_X5_study hq) d_X10_deep_11 pl_X10_248 py_X5_study pi_X5_study rfl rfl rfl (fun n4 G5 h => ?_)
  refine r_aload d_X10_deep_14 rfl ?_
  refine r_getR h d_X10_deep_15 pf_X10_61 (fun x6 h => ?_)
  refine r_invP [] h (fun _ hq => s_X5_longestRow hq) d_X10_deep_18 pl_X10_274 py_X5_longestRow pi_X5_longestRow rfl rfl rfl (fun x7 h => ?_)
  exact r_iret h d_X10_deep_21
/-! X10_wave -/
theorem pf_X10_277 : pF RX10 277 5 3 := ⟨RX5, TX5, 9, rfl, by decide, rfl, Or.inr ⟨"PlugBoard", g_in 375 (by decide +kernel) rfl⟩⟩
theorem d_X10_wave_0 : decAL cX10_wave 0 0 1 := Or.inr ⟨0, rfl, by decide +kernel, rfl⟩
theorem d_X10_wave_1 : dec 3 cX10_wave 1 (.getfield 39) 4 := ⟨by decide +kernel, rfl⟩
theorem d_X10_wave_4 : dec 3 cX10_wave 4 (.getfield 97) 7 := ⟨by decide +kernel, rfl⟩
theorem d_X10_wave_7 : decIL cX10_wave 7 1 8 := Or.inr ⟨1, rfl, by decide +kernel, rfl⟩
theorem d_X10_wave_8 : dec 3 cX10_wave 8 (.invokevirtual 113) 11 := ⟨by decide +kernel, rfl⟩
theorem d_X10_wave_11 : decB cX10_wave 11 (.ifCond .ne 5) (5) 14 16 := ⟨by decide +kernel, rfl, by decide⟩
theorem d_X10_wave_14 : dec 1 cX10_wave 14 (.iconst (-1)) 15 := ⟨by decide +kernel, rfl⟩
theorem d_X10_wave_15 : dec 1 cX10_wave 15 .ireturn 16 := ⟨by decide +kernel, rfl⟩
theorem d_X10_wave_16 : decAL cX10_wave 16 0 17 := Or.inr ⟨0, rfl, by decide +kernel, rfl⟩
theorem d_X10_wave_17 : dec 3 cX10_wave 17 (.getfield 61) 20 := ⟨by decide +kernel, rfl⟩
theorem d_X10_wave_20 : decAL cX10_wave 20 0 21 := Or.inr ⟨0, rfl, by decide +kernel, rfl⟩
theorem d_X10_wave_21 : dec 3 cX10_wave 21 (.getfield 39) 24 := ⟨by decide +kernel, rfl⟩
theorem d_X10_wave_24 : dec 3 cX10_wave 24 (.getfield 97) 27 := ⟨by decide +kernel, rfl⟩
theorem d_X10_wave_27 : dec 3 cX10_wave 27 (.invokevirtual 248) 30 := ⟨by decide +kernel, rfl⟩
theorem d_X10_wave_30 : decAL cX10_wave 30 0 31 := Or.inr ⟨0, rfl, by decide +kernel, rfl⟩
theorem d_X10_wave_31 : dec 3 cX10_wave 31 (.getfield 61) 34 := ⟨by decide +kernel, rfl⟩
theorem d_X10_wave_34 : dec 3 cX10_wave 34 (.getfield 277) 37 := ⟨by decide +kernel, rfl⟩
theorem d_X10_wave_37 : decIL cX10_wave 37 1 38 := Or.inr ⟨1, rfl, by decide +kernel, rfl⟩
theorem d_X10_wave_38 : dec 1 cX10_wave 38 .iaload 39 := ⟨by decide +kernel, rfl⟩
theorem d_X10_wave_39 : dec 1 cX10_wave 39 .ireturn 40 := ⟨by decide +kernel, rfl⟩
def f_X10_wave (F : Nat)  (v0 : Nat) (v1 : Int32) (n : Nat) (G : GH) : Option (Int32 × Nat × GH) :=
  Option.bind (gR G v0 10 1) (fun (x1 : Nat) =>
  Option.bind (gR G x1 0 0) (fun (x2 : Nat) =>
  cvP G x2 3 (f_X3_holds F x2 v1 G) (fun (x3 : Int32) =>
  if x3 = 0 then
  (some ((-1 : Int32), n, G))
  else (Option.bind (gR G v0 10 5) (fun (x4 : Nat) =>
  Option.bind (gR G v0 10 1) (fun (x5 : Nat) =>
  Option.bind (gR G x5 0 0) (fun (x6 : Nat) =>
  cvU G x4 5 (f_X5_study F x4 x6 n G) (fun (n7 : Nat) (G8 : GH) =>
  Option.bind (gR G8 v0 10 5) (fun (x9 : Nat) =>
  Option.bind (gR G8 x9 5 3) (fun (x10 : Nat) =>
  Option.bind (aI G8 x10 0 v1) (fun (x11 : Int32) =>
  some (x11, n7, G8))))))))))))
set_option maxRecDepth 100000 in
set_option maxHeartbeats 4000000 in
theorem s_X10_wave {E : GE} {F : Nat}  {v0 : Nat} {v1 : Int32} {n : Nat} {G : GH} {z : Int32 × Nat × GH}  (h : f_X10_wave F  v0 v1 n G = some z) : GM E yX10_wave cX10_wave 2 (some .int) 5 123 0 0 [.ref v0, .int v1] n G (some (.int z.1), z.2.1, z.2.2) := by
  refine GM.of (by decide) (Nat.le_of_ble_eq_true rfl) ?_
  show WG E RX10 "wave" cX10_wave 2 (some .int) 5 123 0 0 0 [(0, .ref v0), (1, .int v1)] [] n G (g_O E (some (.int z.1), z.2.1, z.2.2))
  unfold f_X10_wave at h
  refine r_aload d_X10_wave_0 rfl ?_
  refine r_getR h d_X10_wave_1 pf_X10_39 (fun x1 h => ?_)
  refine r_getR h d_X10_wave_4 pf_X10_97 (fun x2 h => ?_)
  refine r_iload d_X10_wave_7 rfl ?_
  refine r_invP [_] h (fun _ hq => s_X3_holds hq) d_X10_wave_8 pl_X10_113 py_X3_holds pi_X3_holds rfl rfl rfl (fun x3 h => ?_)
  refine r_if_ne h d_X10_wave_11 (fun h => ?_) (fun h => ?_)
  · refine r_aload d_X10_wave_16 rfl ?_
    refine r_getR h d_X10_wave_17 pf_X10_61 (fun x4 h => ?_)
    refine r_aload d_X10_wave_20 rfl ?_
    refine r_getR h d_X10_wave_21 pf_X10_39 (fun x5 h => ?_)
    refine r_getR h d_X10_wave_24 pf_X10_97 (fun x6 h => ?_)
    refine r_invU [_] h (fun _ hq => s_X5_study hq) d_X10_wave_27 pl_X10_248 py_X5_study pi_X5_study rfl rfl rfl (fun n7 G8 h => ?_)
    refine r_aload d_X10_wave_30 rfl ?_
    refine r_getR h d_X10_wave_31 pf_X10_61 (fun x9 h => ?_)
    refine r_getR h d_X10_wave_34 pf_X10_277 (fun x10 h => ?_)
    refine r_iload d_X10_wave_37 rfl ?_
    refine r_iald h d_X10_wave_38 (fun x11 h => ?_)
    exact r_iret h d_X10_wave_39
  · refine r_iconst d_X10_wave_14 ic_m1 ?_
    exact r_iret h d_X10_wave_15
/-! X10_lost -/
theorem py_X5_lostWith : pY yX5_lostWith cX5_lostWith 6 (some .int) 1 := ⟨g_in 1013 (by decide +kernel) rfl, g_in 103 (by decide +kernel) rfl, by decide, by decide, by decide +kernel⟩
theorem pi_X5_lostWith : pI yX5_lostWith 5 := ⟨g_in 1011 (by decide +kernel) rfl, g_in 1012 (by decide +kernel) rfl, (RX5, TX5, 9), rfl, rfl⟩
theorem pl_X10_280 : pL RX10 280 yX5_lostWith := Or.inl (g_in 1010 (by decide +kernel) rfl)
theorem d_X10_lost_0 : decAL cX10_lost 0 0 1 := Or.inr ⟨0, rfl, by decide +kernel, rfl⟩
theorem d_X10_lost_1 : dec 3 cX10_lost 1 (.getfield 39) 4 := ⟨by decide +kernel, rfl⟩
theorem d_X10_lost_4 : dec 3 cX10_lost 4 (.getfield 97) 7 := ⟨by decide +kernel, rfl⟩
theorem d_X10_lost_7 : decIL cX10_lost 7 1 8 := Or.inr ⟨1, rfl, by decide +kernel, rfl⟩
theorem d_X10_lost_8 : dec 3 cX10_lost 8 (.invokevirtual 113) 11 := ⟨by decide +kernel, rfl⟩
theorem d_X10_lost_11 : decB cX10_lost 11 (.ifCond .ne 5) (5) 14 16 := ⟨by decide +kernel, rfl, by decide⟩
theorem d_X10_lost_14 : dec 1 cX10_lost 14 (.iconst (-1)) 15 := ⟨by decide +kernel, rfl⟩
theorem d_X10_lost_15 : dec 1 cX10_lost 15 .ireturn 16 := ⟨by decide +kernel, rfl⟩
theorem d_X10_lost_16 : decAL cX10_lost 16 0 17 := Or.inr ⟨0, rfl, by decide +kernel, rfl⟩
theorem d_X10_lost_17 : dec 3 cX10_lost 17 (.getfield 61) 20 := ⟨by decide +kernel, rfl⟩
theorem d_X10_lost_20 : decAL cX10_lost 20 0 21 := Or.inr ⟨0, rfl, by decide +kernel, rfl⟩
theorem d_X10_lost_21 : dec 3 cX10_lost 21 (.getfield 39) 24 := ⟨by decide +kernel, rfl⟩
theorem d_X10_lost_24 : dec 3 cX10_lost 24 (.getfield 97) 27 := ⟨by decide +kernel, rfl⟩
theorem d_X10_lost_27 : dec 3 cX10_lost 27 (.invokevirtual 248) 30 := ⟨by decide +kernel, rfl⟩
theorem d_X10_lost_30 : decAL cX10_lost 30 0 31 := Or.inr ⟨0, rfl, by decide +kernel, rfl⟩
theorem d_X10_lost_31 : dec 3 cX10_lost 31 (.getfield 61) 34 := ⟨by decide +kernel, rfl⟩
theorem d_X10_lost_34 : decIL cX10_lost 34 1 35 := Or.inr ⟨1, rfl, by decide +kernel, rfl⟩
theorem d_X10_lost_35 : dec 3 cX10_lost 35 (.invokevirtual 280) 38 := ⟨by decide +kernel, rfl⟩
theorem d_X10_lost_38 : dec 1 cX10_lost 38 .ireturn 39 := ⟨by decide +kernel, rfl⟩
def f_X10_lost (F : Nat)  (v0 : Nat) (v1 : Int32) (n : Nat) (G : GH) : Option (Int32 × Nat × GH) :=
  Option.bind (gR G v0 10 1) (fun (x1 : Nat) =>
  Option.bind (gR G x1 0 0) (fun (x2 : Nat) =>
  cvP G x2 3 (f_X3_holds F x2 v1 G) (fun (x3 : Int32) =>
  if x3 = 0 then
  (some ((-1 : Int32), n, G))
  else (Option.bind (gR G v0 10 5) (fun (x4 : Nat) =>
  Option.bind (gR G v0 10 1) (fun (x5 : Nat) =>
  Option.bind (gR G x5 0 0) (fun (x6 : Nat) =>
  cvU G x4 5 (f_X5_study F x4 x6 n G) (fun (n7 : Nat) (G8 : GH) =>
  Option.bind (gR G8 v0 10 5) (fun (x9 : Nat) =>
  cvP G8 x9 5 (f_X5_lostWith F x9 v1 G8) (fun (x10 : Int32) =>
  some (x10, n7, G8)))))))))))
set_option maxRecDepth 100000 in
set_option maxHeartbeats 4000000 in
theorem s_X10_lost {E : GE} {F : Nat}  {v0 : Nat} {v1 : Int32} {n : Nat} {G : GH} {z : Int32 × Nat × GH}  (h : f_X10_lost F  v0 v1 n G = some z) : GM E yX10_lost cX10_lost 2 (some .int) 5 123 0 0 [.ref v0, .int v1] n G (some (.int z.1), z.2.1, z.2.2) := by
  refine GM.of (by decide) (Nat.le_of_ble_eq_true rfl) ?_
  show WG E RX10 "lost" cX10_lost 2 (some .int) 5 123 0 0 0 [(0, .ref v0), (1, .int v1)] [] n G (g_O E (some (.int z.1), z.2.1, z.2.2))
  unfold f_X10_lost at h
  refine r_aload d_X10_lost_0 rfl ?_
  refine r_getR h d_X10_lost_1 pf_X10_39 (fun x1 h => ?_)
  refine r_getR h d_X10_lost_4 pf_X10_97 (fun x2 h => ?_)
  refine r_iload d_X10_lost_7 rfl ?_
  refine r_invP [_] h (fun _ hq => s_X3_holds hq) d_X10_lost_8 pl_X10_113 py_X3_holds pi_X3_holds rfl rfl rfl (fun x3 h => ?_)
  refine r_if_ne h d_X10_lost_11 (fun h => ?_) (fun h => ?_)
  · refine r_aload d_X10_lost_16 rfl ?_
    refine r_getR h d_X10_lost_17 pf_X10_61 (fun x4 h => ?_)
    refine r_aload d_X10_lost_20 rfl ?_
    refine r_getR h d_X10_lost_21 pf_X10_39 (fun x5 h => ?_)
    refine r_getR h d_X10_lost_24 pf_X10_97 (fun x6 h => ?_)
    refine r_invU [_] h (fun _ hq => s_X5_study hq) d_X10_lost_27 pl_X10_248 py_X5_study pi_X5_study rfl rfl rfl (fun n7 G8 h => ?_)
    refine r_aload d_X10_lost_30 rfl ?_
    refine r_getR h d_X10_lost_31 pf_X10_61 (fun x9 h => ?_)
    refine r_iload d_X10_lost_34 rfl ?_
    refine r_invP [_] h (fun _ hq => s_X5_lostWith hq) d_X10_lost_35 pl_X10_280 py_X5_lostWith pi_X5_lostWith rfl rfl rfl (fun x10 h => ?_)
    exact r_iret h d_X10_lost_38
  · refine r_iconst d_X10_lost_14 ic_m1 ?_
    exact r_iret h d_X10_lost_15
/-! X10_looser -/
theorem py_X5_loosenedAt : pY yX5_loosenedAt cX5_loosenedAt 4 (some .int) 1 := ⟨g_in 1021 (by decide +kernel) rfl, g_in 103 (by decide +kernel) rfl, by decide, by decide, by decide +kernel⟩
theorem pi_X5_loosenedAt : pI yX5_loosenedAt 5 := ⟨g_in 1019 (by decide +kernel) rfl, g_in 1020 (by decide +kernel) rfl, (RX5, TX5, 9), rfl, rfl⟩
theorem pl_X10_283 : pL RX10 283 yX5_loosenedAt := Or.inl (g_in 1018 (by decide +kernel) rfl)
theorem d_X10_looser_0 : decAL cX10_looser 0 0 1 := Or.inr ⟨0, rfl, by decide +kernel, rfl⟩
theorem d_X10_looser_1 : dec 3 cX10_looser 1 (.getfield 61) 4 := ⟨by decide +kernel, rfl⟩
theorem d_X10_looser_4 : decAL cX10_looser 4 0 5 := Or.inr ⟨0, rfl, by decide +kernel, rfl⟩
theorem d_X10_looser_5 : dec 3 cX10_looser 5 (.getfield 39) 8 := ⟨by decide +kernel, rfl⟩
theorem d_X10_looser_8 : dec 3 cX10_looser 8 (.getfield 97) 11 := ⟨by decide +kernel, rfl⟩
theorem d_X10_looser_11 : dec 3 cX10_looser 11 (.invokevirtual 248) 14 := ⟨by decide +kernel, rfl⟩
theorem d_X10_looser_14 : decAL cX10_looser 14 0 15 := Or.inr ⟨0, rfl, by decide +kernel, rfl⟩
theorem d_X10_looser_15 : dec 3 cX10_looser 15 (.getfield 61) 18 := ⟨by decide +kernel, rfl⟩
theorem d_X10_looser_18 : decIL cX10_looser 18 1 19 := Or.inr ⟨1, rfl, by decide +kernel, rfl⟩
theorem d_X10_looser_19 : dec 3 cX10_looser 19 (.invokevirtual 283) 22 := ⟨by decide +kernel, rfl⟩
theorem d_X10_looser_22 : dec 1 cX10_looser 22 .ireturn 23 := ⟨by decide +kernel, rfl⟩
def f_X10_looser (F : Nat)  (v0 : Nat) (v1 : Int32) (n : Nat) (G : GH) : Option (Int32 × Nat × GH) :=
  Option.bind (gR G v0 10 5) (fun (x1 : Nat) =>
  Option.bind (gR G v0 10 1) (fun (x2 : Nat) =>
  Option.bind (gR G x2 0 0) (fun (x3 : Nat) =>
  cvU G x1 5 (f_X5_study F x1 x3 n G) (fun (n4 : Nat) (G5 : GH) =>
  Option.bind (gR G5 v0 10 5) (fun (x6 : Nat) =>
  cvI G5 x6 5 (f_X5_loosenedAt F x6 v1 n4 G5) (fun (x9 : Int32) (n7 : Nat) (G8 : GH) =>
  some (x9, n7, G8)))))))
set_option maxRecDepth 100000 in
set_option maxHeartbeats 4000000 in
theorem s_X10_looser {E : GE} {F : Nat}  {v0 : Nat} {v1 : Int32} {n : Nat} {G : GH} {z : Int32 × Nat × GH}  (h : f_X10_looser F  v0 v1 n G = some z) : GM E yX10_looser cX10_looser 2 (some .int) 18 577 0 0 [.ref v0, .int v1] n G (some (.int z.1), z.2.1, z.2.2) := by
  refine GM.of (by decide) (Nat.le_of_ble_eq_true rfl) ?_
  show WG E RX10 "looser" cX10_looser 2 (some .int) 18 577 0 0 0 [(0, .ref v0), (1, .int v1)] [] n G (g_O E (some (.int z.1), z.2.1, z.2.2))
  unfold f_X10_looser at h
  refine r_aload d_X10_looser_0 rfl ?_
  refine r_getR h d_X10_looser_1 pf_X10_61 (fun x1 h => ?_)
  refine r_aload d_X10_looser_4 rfl ?_
  refine r_getR h d_X10_looser_5 pf_X10_39 (fun x2 h => ?_)
  refine r_getR h d_X10_looser_8 pf_X10_97 (fun x3 h => ?_)
  refine r_invU [_] h (fun _ hq => s_X5_study hq) d_X10_looser_11 pl_X10_248 py_X5_study pi_X5_study rfl rfl rfl (fun n4 G5 h => ?_)
  refine r_aload d_X10_looser_14 rfl ?_
  refine r_getR h d_X10_looser_15 pf_X10_61 (fun x6 h => ?_)
  refine r_iload d_X10_looser_18 rfl ?_
  refine r_invI [_] h (fun _ hq => s_X5_loosenedAt hq) d_X10_looser_19 pl_X10_283 py_X5_loosenedAt pi_X5_loosenedAt rfl rfl rfl (fun x9 n7 G8 h => ?_)
  exact r_iret h d_X10_looser_22
/-! X10_image -/
theorem pf_X10_25 : pF RX10 25 10 7 := ⟨RX10, TX10, 9, rfl, by decide, rfl, Or.inl (g_in 409 (by decide +kernel) rfl)⟩
theorem pf_X10_29 : pF RX10 29 10 8 := ⟨RX10, TX10, 9, rfl, by decide, rfl, Or.inl (g_in 410 (by decide +kernel) rfl)⟩
theorem py_X2_copyFrom : pY yX2_copyFrom cX2_copyFrom 2 none 1 := ⟨g_in 1041 (by decide +kernel) rfl, g_in 95 (by decide +kernel) rfl, by decide, by decide, by decide +kernel⟩
theorem pi_X2_copyFrom : pI yX2_copyFrom 2 := ⟨g_in 1039 (by decide +kernel) rfl, g_in 1040 (by decide +kernel) rfl, (RX2, TX2, 4), rfl, rfl⟩
theorem pl_X10_286 : pL RX10 286 yX2_copyFrom := Or.inl (g_in 1038 (by decide +kernel) rfl)
theorem d_X10_image_0 : decIL cX10_image 0 1 1 := Or.inr ⟨1, rfl, by decide +kernel, rfl⟩
theorem d_X10_image_1 : decB cX10_image 1 (.ifCond .lt 8) (8) 4 9 := ⟨by decide +kernel, rfl, by decide⟩
theorem d_X10_image_4 : decIL cX10_image 4 1 5 := Or.inr ⟨1, rfl, by decide +kernel, rfl⟩
theorem d_X10_image_5 : dec 1 cX10_image 5 (.iconst 3) 6 := ⟨by decide +kernel, rfl⟩
theorem d_X10_image_6 : decB cX10_image 6 (.if_icmp .lt 5) (5) 9 11 := ⟨by decide +kernel, rfl, by decide⟩
theorem d_X10_image_9 : dec 1 cX10_image 9 (.iconst 0) 10 := ⟨by decide +kernel, rfl⟩
theorem d_X10_image_10 : dec 1 cX10_image 10 .ireturn 11 := ⟨by decide +kernel, rfl⟩
theorem d_X10_image_11 : decAL cX10_image 11 0 12 := Or.inr ⟨0, rfl, by decide +kernel, rfl⟩
theorem d_X10_image_12 : dec 3 cX10_image 12 (.getfield 25) 15 := ⟨by decide +kernel, rfl⟩
theorem d_X10_image_15 : decIL cX10_image 15 1 16 := Or.inr ⟨1, rfl, by decide +kernel, rfl⟩
theorem d_X10_image_16 : dec 1 cX10_image 16 .aaload 17 := ⟨by decide +kernel, rfl⟩
theorem d_X10_image_17 : decB cX10_image 17 (.ifnonnull 23) (23) 20 40 := ⟨by decide +kernel, rfl, by decide⟩
theorem d_X10_image_20 : decAL cX10_image 20 0 21 := Or.inr ⟨0, rfl, by decide +kernel, rfl⟩
theorem d_X10_image_21 : dec 3 cX10_image 21 (.getfield 25) 24 := ⟨by decide +kernel, rfl⟩
theorem d_X10_image_24 : decIL cX10_image 24 1 25 := Or.inr ⟨1, rfl, by decide +kernel, rfl⟩
theorem d_X10_image_25 : dec 3 cX10_image 25 (.new 23) 28 := ⟨by decide +kernel, rfl⟩
theorem d_X10_image_28 : dec 1 cX10_image 28 .dup 29 := ⟨by decide +kernel, rfl⟩
theorem d_X10_image_29 : decAL cX10_image 29 0 30 := Or.inr ⟨0, rfl, by decide +kernel, rfl⟩
theorem d_X10_image_30 : dec 3 cX10_image 30 (.getfield 39) 33 := ⟨by decide +kernel, rfl⟩
theorem d_X10_image_33 : dec 3 cX10_image 33 (.getfield 97) 36 := ⟨by decide +kernel, rfl⟩
theorem d_X10_image_36 : dec 3 cX10_image 36 (.invokespecial 36) 39 := ⟨by decide +kernel, rfl⟩
theorem d_X10_image_39 : dec 1 cX10_image 39 .aastore 40 := ⟨by decide +kernel, rfl⟩
theorem d_X10_image_40 : decAL cX10_image 40 0 41 := Or.inr ⟨0, rfl, by decide +kernel, rfl⟩
theorem d_X10_image_41 : dec 3 cX10_image 41 (.getfield 29) 44 := ⟨by decide +kernel, rfl⟩
theorem d_X10_image_44 : decIL cX10_image 44 1 45 := Or.inr ⟨1, rfl, by decide +kernel, rfl⟩
theorem d_X10_image_45 : dec 1 cX10_image 45 .aaload 46 := ⟨by decide +kernel, rfl⟩
theorem d_X10_image_46 : decB cX10_image 46 (.ifnonnull 16) (16) 49 62 := ⟨by decide +kernel, rfl, by decide⟩
theorem d_X10_image_49 : decAL cX10_image 49 0 50 := Or.inr ⟨0, rfl, by decide +kernel, rfl⟩
theorem d_X10_image_50 : dec 3 cX10_image 50 (.getfield 29) 53 := ⟨by decide +kernel, rfl⟩
theorem d_X10_image_53 : decIL cX10_image 53 1 54 := Or.inr ⟨1, rfl, by decide +kernel, rfl⟩
theorem d_X10_image_54 : dec 3 cX10_image 54 (.new 9) 57 := ⟨by decide +kernel, rfl⟩
theorem d_X10_image_57 : dec 1 cX10_image 57 .dup 58 := ⟨by decide +kernel, rfl⟩
theorem d_X10_image_58 : dec 3 cX10_image 58 (.invokespecial 11) 61 := ⟨by decide +kernel, rfl⟩
theorem d_X10_image_61 : dec 1 cX10_image 61 .aastore 62 := ⟨by decide +kernel, rfl⟩
theorem d_X10_image_62 : decAL cX10_image 62 0 63 := Or.inr ⟨0, rfl, by decide +kernel, rfl⟩
theorem d_X10_image_63 : dec 3 cX10_image 63 (.getfield 25) 66 := ⟨by decide +kernel, rfl⟩
theorem d_X10_image_66 : decIL cX10_image 66 1 67 := Or.inr ⟨1, rfl, by decide +kernel, rfl⟩
theorem d_X10_image_67 : dec 1 cX10_image 67 .aaload 68 := ⟨by decide +kernel, rfl⟩
theorem d_X10_image_68 : decAL cX10_image 68 0 69 := Or.inr ⟨0, rfl, by decide +kernel, rfl⟩
theorem d_X10_image_69 : dec 3 cX10_image 69 (.getfield 39) 72 := ⟨by decide +kernel, rfl⟩
theorem d_X10_image_72 : dec 3 cX10_image 72 (.invokevirtual 271) 75 := ⟨by decide +kernel, rfl⟩
theorem d_X10_image_75 : decAL cX10_image 75 0 76 := Or.inr ⟨0, rfl, by decide +kernel, rfl⟩
theorem d_X10_image_76 : dec 3 cX10_image 76 (.getfield 29) 79 := ⟨by decide +kernel, rfl⟩
theorem d_X10_image_79 : decIL cX10_image 79 1 80 := Or.inr ⟨1, rfl, by decide +kernel, rfl⟩
theorem d_X10_image_80 : dec 1 cX10_image 80 .aaload 81 := ⟨by decide +kernel, rfl⟩
theorem d_X10_image_81 : decAL cX10_image 81 0 82 := Or.inr ⟨0, rfl, by decide +kernel, rfl⟩
theorem d_X10_image_82 : dec 3 cX10_image 82 (.getfield 12) 85 := ⟨by decide +kernel, rfl⟩
theorem d_X10_image_85 : dec 3 cX10_image 85 (.invokevirtual 286) 88 := ⟨by decide +kernel, rfl⟩
theorem d_X10_image_88 : dec 1 cX10_image 88 (.iconst 1) 89 := ⟨by decide +kernel, rfl⟩
theorem d_X10_image_89 : dec 1 cX10_image 89 .ireturn 90 := ⟨by decide +kernel, rfl⟩
def k_X10_image_62 (F : Nat)   (v0 : Nat) (v1 : Int32)  (n : Nat) (G : GH) : Option (Int32 × Nat × GH) :=
  Option.bind (gR G v0 10 7) (fun (x5 : Nat) =>
  Option.bind (aN G x5 4 v1) (fun (x6 : Nat) =>
  Option.bind (gR G v0 10 1) (fun (x7 : Nat) =>
  cvU G x6 0 (f_X0_copyFrom F x6 x7 n G) (fun (n8 : Nat) (G9 : GH) =>
  Option.bind (gR G9 v0 10 8) (fun (x10 : Nat) =>
  Option.bind (aN G9 x10 5 v1) (fun (x11 : Nat) =>
  Option.bind (gR G9 v0 10 0) (fun (x12 : Nat) =>
  cvU G9 x11 2 (f_X2_copyFrom F x11 x12 n8 G9) (fun (n13 : Nat) (G14 : GH) =>
  rN .boolean (1 : Int32) n13 G14))))))))
def k_X10_image_40 (F : Nat)   (v0 : Nat) (v1 : Int32)  (n : Nat) (G : GH) : Option (Int32 × Nat × GH) :=
  Option.bind (gR G v0 10 8) (fun (x3 : Nat) =>
  Option.bind (aQ G x3 5 v1) (fun (x4 : Option Nat) =>
  if x4 = none then
  (Option.bind (gR G v0 10 8) (fun (x15 : Nat) =>
  csU (f_X2_init F n (n + 1) (gset G n (.inr (2, df_X2)))) (fun (n16 : Nat) (G17 : GH) =>
  Option.bind (aP G17 x15 5 2 v1 n) (fun (G18 : GH) =>
  k_X10_image_62 F   v0 v1 n16 G18))))
  else (k_X10_image_62 F   v0 v1 n G)))
def f_X10_image (F : Nat)  (v0 : Nat) (v1 : Int32) (n : Nat) (G : GH) : Option (Int32 × Nat × GH) :=
  if v1 < 0 then
  (rN .boolean (0 : Int32) n G)
  else (if v1 < (3 : Int32) then
  (Option.bind (gR G v0 10 7) (fun (x1 : Nat) =>
  Option.bind (aQ G x1 4 v1) (fun (x2 : Option Nat) =>
  if x2 = none then
  (Option.bind (gR G v0 10 7) (fun (x19 : Nat) =>
  Option.bind (gR (gset G n (.inr (0, df_X0))) v0 10 1) (fun (x20 : Nat) =>
  Option.bind (gR (gset G n (.inr (0, df_X0))) x20 0 0) (fun (x21 : Nat) =>
  csU (f_X0_init F n x21 (n + 1) (gset G n (.inr (0, df_X0)))) (fun (n22 : Nat) (G23 : GH) =>
  Option.bind (aP G23 x19 4 0 v1 n) (fun (G24 : GH) =>
  k_X10_image_40 F   v0 v1 n22 G24))))))
  else (k_X10_image_40 F   v0 v1 n G))))
  else (rN .boolean (0 : Int32) n G))
set_option maxRecDepth 100000 in
set_option maxHeartbeats 4000000 in
theorem c_X10_image_62 {E : GE} {F : Nat}   {v0 : Nat} {v1 : Int32}  {n : Nat} {G : GH} {z : Int32 × Nat × GH}   (h : k_X10_image_62 F   v0 v1  n G = some z) : WG E RX10 "image" cX10_image 2 (some .boolean) 3 82 0 0 62 [(0, .ref v0), (1, .int v1)] [] n G (g_O E (some (.int z.1), z.2.1, z.2.2)) := by
  unfold k_X10_image_62 at h
  refine r_aload d_X10_image_62 rfl ?_
  refine r_getR h d_X10_image_63 pf_X10_25 (fun x5 h => ?_)
  refine r_iload d_X10_image_66 rfl ?_
  refine r_aaldn h d_X10_image_67 (Or.inl rfl) (fun x6 h => ?_)
  refine r_aload d_X10_image_68 rfl ?_
  refine r_getR h d_X10_image_69 pf_X10_39 (fun x7 h => ?_)
  refine r_invU [_] h (fun _ hq => s_X0_copyFrom hq) d_X10_image_72 pl_X10_271 py_X0_copyFrom pi_X0_copyFrom rfl rfl rfl (fun n8 G9 h => ?_)
  refine r_aload d_X10_image_75 rfl ?_
  refine r_getR h d_X10_image_76 pf_X10_29 (fun x10 h => ?_)
  refine r_iload d_X10_image_79 rfl ?_
  refine r_aaldn h d_X10_image_80 (Or.inr rfl) (fun x11 h => ?_)
  refine r_aload d_X10_image_81 rfl ?_
  refine r_getR h d_X10_image_82 pf_X10_12 (fun x12 h => ?_)
  refine r_invU [_] h (fun _ hq => s_X2_copyFrom hq) d_X10_image_85 pl_X10_286 py_X2_copyFrom pi_X2_copyFrom rfl rfl rfl (fun n13 G14 h => ?_)
  refine r_iconst d_X10_image_88 ic_1 ?_
  exact r_zret h d_X10_image_89
set_option maxRecDepth 100000 in
set_option maxHeartbeats 4000000 in
theorem c_X10_image_40 {E : GE} {F : Nat}   {v0 : Nat} {v1 : Int32}  {n : Nat} {G : GH} {z : Int32 × Nat × GH}   (h : k_X10_image_40 F   v0 v1  n G = some z) : WG E RX10 "image" cX10_image 2 (some .boolean) 3 82 2 604 40 [(0, .ref v0), (1, .int v1)] [] n G (g_O E (some (.int z.1), z.2.1, z.2.2)) := by
  unfold k_X10_image_40 at h
  refine r_aload d_X10_image_40 rfl ?_
  refine r_getR h d_X10_image_41 pf_X10_29 (fun x3 h => ?_)
  refine r_iload d_X10_image_44 rfl ?_
  refine r_aaldq h d_X10_image_45 (Or.inr rfl) (fun x4 h => ?_)
  refine r_ifnonnull h d_X10_image_46 (fun h => ?_) (fun h => ?_)
  · refine r_lv [(0, .ref v0), (1, .int v1)] (g_allc rfl (g_allc rfl g_alln)) ?_
    refine r_wk (rc1 := 0) (rs1 := 0) rfl rfl ?_
    exact c_X10_image_62   h
  · refine r_aload d_X10_image_49 rfl ?_
    refine r_getR h d_X10_image_50 pf_X10_29 (fun x15 h => ?_)
    refine r_iload d_X10_image_53 rfl ?_
    refine r_new d_X10_image_54 pn_X10_9 rfl rfl ?_
    refine r_dup d_X10_image_57 rfl ?_
    refine r_invN [] h (fun _ hq => s_X2_init hq) d_X10_image_58 pl_X10_11 py_X2_init pm_X2_init rfl rfl rfl rfl (fun n16 G17 h => ?_)
    refine r_aast5 h d_X10_image_61 (fun G18 h => ?_)
    refine r_lv [(0, .ref v0), (1, .int v1)] (g_allc rfl (g_allc rfl g_alln)) ?_
    exact c_X10_image_62   h
set_option maxRecDepth 100000 in
set_option maxHeartbeats 4000000 in
theorem s_X10_image {E : GE} {F : Nat}  {v0 : Nat} {v1 : Int32} {n : Nat} {G : GH} {z : Int32 × Nat × GH}  (h : f_X10_image F  v0 v1 n G = some z) : GM E yX10_image cX10_image 2 (some .boolean) 3 82 15 1367 [.ref v0, .int v1] n G (some (.int z.1), z.2.1, z.2.2) := by
  refine GM.of (by decide) (Nat.le_of_ble_eq_true rfl) ?_
  show WG E RX10 "image" cX10_image 2 (some .boolean) 3 82 15 1367 0 [(0, .ref v0), (1, .int v1)] [] n G (g_O E (some (.int z.1), z.2.1, z.2.2))
  unfold f_X10_image at h
  refine r_iload d_X10_image_0 rfl ?_
  refine r_if_lt h d_X10_image_1 (fun h => ?_) (fun h => ?_)
  · refine r_iconst d_X10_image_9 ic_0 ?_
    exact r_zret h d_X10_image_10
  · refine r_iload d_X10_image_4 rfl ?_
    refine r_iconst d_X10_image_5 ic_3 ?_
    refine r_icmp_lt h d_X10_image_6 (fun h => ?_) (fun h => ?_)
    · refine r_aload d_X10_image_11 rfl ?_
      refine r_getR h d_X10_image_12 pf_X10_25 (fun x1 h => ?_)
      refine r_iload d_X10_image_15 rfl ?_
      refine r_aaldq h d_X10_image_16 (Or.inl rfl) (fun x2 h => ?_)
      refine r_ifnonnull h d_X10_image_17 (fun h => ?_) (fun h => ?_)
      · refine r_lv [(0, .ref v0), (1, .int v1)] (g_allc rfl (g_allc rfl g_alln)) ?_
        refine r_wk (rc1 := 2) (rs1 := 604) rfl rfl ?_
        exact c_X10_image_40   h
      · refine r_aload d_X10_image_20 rfl ?_
        refine r_getR h d_X10_image_21 pf_X10_25 (fun x19 h => ?_)
        refine r_iload d_X10_image_24 rfl ?_
        refine r_new d_X10_image_25 pn_X10_23 rfl rfl ?_
        refine r_dup d_X10_image_28 rfl ?_
        refine r_aload d_X10_image_29 rfl ?_
        refine r_getR h d_X10_image_30 pf_X10_39 (fun x20 h => ?_)
        refine r_getR h d_X10_image_33 pf_X10_97 (fun x21 h => ?_)
        refine r_invN [_] h (fun _ hq => s_X0_init hq) d_X10_image_36 pl_X10_36 py_X0_init pm_X0_init rfl rfl rfl rfl (fun n22 G23 h => ?_)
        refine r_aast4 h d_X10_image_39 (fun G24 h => ?_)
        refine r_lv [(0, .ref v0), (1, .int v1)] (g_allc rfl (g_allc rfl g_alln)) ?_
        exact c_X10_image_40   h
    · refine r_iconst d_X10_image_9 ic_0 ?_
      exact r_zret h d_X10_image_10
/-! X10_again -/
theorem d_X10_again_0 : decIL cX10_again 0 1 1 := Or.inr ⟨1, rfl, by decide +kernel, rfl⟩
theorem d_X10_again_1 : decB cX10_again 1 (.ifCond .lt 26) (26) 4 27 := ⟨by decide +kernel, rfl, by decide⟩
theorem d_X10_again_4 : decIL cX10_again 4 1 5 := Or.inr ⟨1, rfl, by decide +kernel, rfl⟩
theorem d_X10_again_5 : dec 1 cX10_again 5 (.iconst 3) 6 := ⟨by decide +kernel, rfl⟩
theorem d_X10_again_6 : decB cX10_again 6 (.if_icmp .ge 21) (21) 9 27 := ⟨by decide +kernel, rfl, by decide⟩
theorem d_X10_again_9 : decAL cX10_again 9 0 10 := Or.inr ⟨0, rfl, by decide +kernel, rfl⟩
theorem d_X10_again_10 : dec 3 cX10_again 10 (.getfield 25) 13 := ⟨by decide +kernel, rfl⟩
theorem d_X10_again_13 : decIL cX10_again 13 1 14 := Or.inr ⟨1, rfl, by decide +kernel, rfl⟩
theorem d_X10_again_14 : dec 1 cX10_again 14 .aaload 15 := ⟨by decide +kernel, rfl⟩
theorem d_X10_again_15 : decB cX10_again 15 (.ifnull 12) (12) 18 27 := ⟨by decide +kernel, rfl, by decide⟩
theorem d_X10_again_18 : decAL cX10_again 18 0 19 := Or.inr ⟨0, rfl, by decide +kernel, rfl⟩
theorem d_X10_again_19 : dec 3 cX10_again 19 (.getfield 29) 22 := ⟨by decide +kernel, rfl⟩
theorem d_X10_again_22 : decIL cX10_again 22 1 23 := Or.inr ⟨1, rfl, by decide +kernel, rfl⟩
theorem d_X10_again_23 : dec 1 cX10_again 23 .aaload 24 := ⟨by decide +kernel, rfl⟩
theorem d_X10_again_24 : decB cX10_again 24 (.ifnonnull 5) (5) 27 29 := ⟨by decide +kernel, rfl, by decide⟩
theorem d_X10_again_27 : dec 1 cX10_again 27 (.iconst 0) 28 := ⟨by decide +kernel, rfl⟩
theorem d_X10_again_28 : dec 1 cX10_again 28 .ireturn 29 := ⟨by decide +kernel, rfl⟩
theorem d_X10_again_29 : decAL cX10_again 29 0 30 := Or.inr ⟨0, rfl, by decide +kernel, rfl⟩
theorem d_X10_again_30 : dec 3 cX10_again 30 (.getfield 39) 33 := ⟨by decide +kernel, rfl⟩
theorem d_X10_again_33 : decAL cX10_again 33 0 34 := Or.inr ⟨0, rfl, by decide +kernel, rfl⟩
theorem d_X10_again_34 : dec 3 cX10_again 34 (.getfield 25) 37 := ⟨by decide +kernel, rfl⟩
theorem d_X10_again_37 : decIL cX10_again 37 1 38 := Or.inr ⟨1, rfl, by decide +kernel, rfl⟩
theorem d_X10_again_38 : dec 1 cX10_again 38 .aaload 39 := ⟨by decide +kernel, rfl⟩
theorem d_X10_again_39 : dec 3 cX10_again 39 (.invokevirtual 271) 42 := ⟨by decide +kernel, rfl⟩
theorem d_X10_again_42 : decAL cX10_again 42 0 43 := Or.inr ⟨0, rfl, by decide +kernel, rfl⟩
theorem d_X10_again_43 : dec 3 cX10_again 43 (.getfield 12) 46 := ⟨by decide +kernel, rfl⟩
theorem d_X10_again_46 : decAL cX10_again 46 0 47 := Or.inr ⟨0, rfl, by decide +kernel, rfl⟩
theorem d_X10_again_47 : dec 3 cX10_again 47 (.getfield 29) 50 := ⟨by decide +kernel, rfl⟩
theorem d_X10_again_50 : decIL cX10_again 50 1 51 := Or.inr ⟨1, rfl, by decide +kernel, rfl⟩
theorem d_X10_again_51 : dec 1 cX10_again 51 .aaload 52 := ⟨by decide +kernel, rfl⟩
theorem d_X10_again_52 : dec 3 cX10_again 52 (.invokevirtual 286) 55 := ⟨by decide +kernel, rfl⟩
theorem d_X10_again_55 : decAL cX10_again 55 0 56 := Or.inr ⟨0, rfl, by decide +kernel, rfl⟩
theorem d_X10_again_56 : dec 3 cX10_again 56 (.getfield 19) 59 := ⟨by decide +kernel, rfl⟩
theorem d_X10_again_59 : dec 3 cX10_again 59 (.invokevirtual 95) 62 := ⟨by decide +kernel, rfl⟩
theorem d_X10_again_62 : dec 1 cX10_again 62 (.iconst 1) 63 := ⟨by decide +kernel, rfl⟩
theorem d_X10_again_63 : dec 1 cX10_again 63 .ireturn 64 := ⟨by decide +kernel, rfl⟩
def f_X10_again (F : Nat)  (v0 : Nat) (v1 : Int32) (n : Nat) (G : GH) : Option (Int32 × Nat × GH) :=
  if v1 < 0 then
  (rN .boolean (0 : Int32) n G)
  else (if (3 : Int32) ≤ v1 then
  (rN .boolean (0 : Int32) n G)
  else (Option.bind (gR G v0 10 7) (fun (x1 : Nat) =>
  Option.bind (aQ G x1 4 v1) (fun (x2 : Option Nat) =>
  if x2 = none then
  (rN .boolean (0 : Int32) n G)
  else (Option.bind (gR G v0 10 8) (fun (x3 : Nat) =>
  Option.bind (aQ G x3 5 v1) (fun (x4 : Option Nat) =>
  if x4 = none then
  (rN .boolean (0 : Int32) n G)
  else (Option.bind (gR G v0 10 1) (fun (x5 : Nat) =>
  Option.bind (gR G v0 10 7) (fun (x6 : Nat) =>
  Option.bind (aN G x6 4 v1) (fun (x7 : Nat) =>
  cvU G x5 0 (f_X0_copyFrom F x5 x7 n G) (fun (n8 : Nat) (G9 : GH) =>
  Option.bind (gR G9 v0 10 0) (fun (x10 : Nat) =>
  Option.bind (gR G9 v0 10 8) (fun (x11 : Nat) =>
  Option.bind (aN G9 x11 5 v1) (fun (x12 : Nat) =>
  cvU G9 x10 2 (f_X2_copyFrom F x10 x12 n8 G9) (fun (n13 : Nat) (G14 : GH) =>
  Option.bind (gR G14 v0 10 6) (fun (x15 : Nat) =>
  cvU G14 x15 4 (f_X4_clear F x15 n13 G14) (fun (n16 : Nat) (G17 : GH) =>
  rN .boolean (1 : Int32) n16 G17))))))))))))))))))
set_option maxRecDepth 100000 in
set_option maxHeartbeats 4000000 in
theorem s_X10_again {E : GE} {F : Nat}  {v0 : Nat} {v1 : Int32} {n : Nat} {G : GH} {z : Int32 × Nat × GH}  (h : f_X10_again F  v0 v1 n G = some z) : GM E yX10_again cX10_again 2 (some .boolean) 3 82 0 0 [.ref v0, .int v1] n G (some (.int z.1), z.2.1, z.2.2) := by
  refine GM.of (by decide) (Nat.le_of_ble_eq_true rfl) ?_
  show WG E RX10 "again" cX10_again 2 (some .boolean) 3 82 0 0 0 [(0, .ref v0), (1, .int v1)] [] n G (g_O E (some (.int z.1), z.2.1, z.2.2))
  unfold f_X10_again at h
  refine r_iload d_X10_again_0 rfl ?_
  refine r_if_lt h d_X10_again_1 (fun h => ?_) (fun h => ?_)
  · refine r_iconst d_X10_again_27 ic_0 ?_
    exact r_zret h d_X10_again_28
  · refine r_iload d_X10_again_4 rfl ?_
    refine r_iconst d_X10_again_5 ic_3 ?_
    refine r_icmp_ge h d_X10_again_6 (fun h => ?_) (fun h => ?_)
    · refine r_iconst d_X10_again_27 ic_0 ?_
      exact r_zret h d_X10_again_28
    · refine r_aload d_X10_again_9 rfl ?_
      refine r_getR h d_X10_again_10 pf_X10_25 (fun x1 h => ?_)
      refine r_iload d_X10_again_13 rfl ?_
      refine r_aaldq h d_X10_again_14 (Or.inl rfl) (fun x2 h => ?_)
      refine r_ifnull h d_X10_again_15 (fun h => ?_) (fun h => ?_)
      · refine r_iconst d_X10_again_27 ic_0 ?_
        exact r_zret h d_X10_again_28
      · refine r_aload d_X10_again_18 rfl ?_
        refine r_getR h d_X10_again_19 pf_X10_29 (fun x3 h => ?_)
        refine r_iload d_X10_again_22 rfl ?_
        refine r_aaldq h d_X10_again_23 (Or.inr rfl) (fun x4 h => ?_)
        refine r_ifnonnull h d_X10_again_24 (fun h => ?_) (fun h => ?_)
        · refine r_aload d_X10_again_29 rfl ?_
          refine r_getR h d_X10_again_30 pf_X10_39 (fun x5 h => ?_)
          refine r_aload d_X10_again_33 rfl ?_
          refine r_getR h d_X10_again_34 pf_X10_25 (fun x6 h => ?_)
          refine r_iload d_X10_again_37 rfl ?_
          refine r_aaldn h d_X10_again_38 (Or.inl rfl) (fun x7 h => ?_)
          refine r_invU [_] h (fun _ hq => s_X0_copyFrom hq) d_X10_again_39 pl_X10_271 py_X0_copyFrom pi_X0_copyFrom rfl rfl rfl (fun n8 G9 h => ?_)
          refine r_aload d_X10_again_42 rfl ?_
          refine r_getR h d_X10_again_43 pf_X10_12 (fun x10 h => ?_)
          refine r_aload d_X10_again_46 rfl ?_
          refine r_getR h d_X10_again_47 pf_X10_29 (fun x11 h => ?_)
          refine r_iload d_X10_again_50 rfl ?_
          refine r_aaldn h d_X10_again_51 (Or.inr rfl) (fun x12 h => ?_)
          refine r_invU [_] h (fun _ hq => s_X2_copyFrom hq) d_X10_again_52 pl_X10_286 py_X2_copyFrom pi_X2_copyFrom rfl rfl rfl (fun n13 G14 h => ?_)
          refine r_aload d_X10_again_55 rfl ?_
          refine r_getR h d_X10_again_56 pf_X10_19 (fun x15 h => ?_)
          refine r_invU [] h (fun _ hq => s_X4_clear hq) d_X10_again_59 pl_X10_95 py_X4_clear pi_X4_clear rfl rfl rfl (fun n16 G17 h => ?_)
          refine r_iconst d_X10_again_62 ic_1 ?_
          exact r_zret h d_X10_again_63
        · refine r_iconst d_X10_again_27 ic_0 ?_
          exact r_zret h d_X10_again_28
