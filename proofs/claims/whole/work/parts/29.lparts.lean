/-! X10_part -/
theorem pf_X10_179 : pF RX10 179 3 1 := ⟨RX3, TX3, 9, rfl, by decide, rfl, Or.inr ⟨"PlugBoard", g_in 183 (by decide +kernel) rfl⟩⟩
theorem pf_X10_183 : pF RX10 183 3 2 := ⟨RX3, TX3, 9, rfl, by decide, rfl, Or.inr ⟨"PlugBoard", g_in 187 (by decide +kernel) rfl⟩⟩
theorem pf_X10_186 : pF RX10 186 3 6 := ⟨RX3, TX3, 9, rfl, by decide, rfl, Or.inr ⟨"PlugBoard", g_in 204 (by decide +kernel) rfl⟩⟩
theorem pf_X10_189 : pF RX10 189 3 3 := ⟨RX3, TX3, 9, rfl, by decide, rfl, Or.inr ⟨"PlugBoard", g_in 192 (by decide +kernel) rfl⟩⟩
theorem pf_X10_192 : pF RX10 192 3 4 := ⟨RX3, TX3, 9, rfl, by decide, rfl, Or.inr ⟨"PlugBoard", g_in 196 (by decide +kernel) rfl⟩⟩
theorem pf_X10_195 : pF RX10 195 3 5 := ⟨RX3, TX3, 9, rfl, by decide, rfl, Or.inr ⟨"PlugBoard", g_in 200 (by decide +kernel) rfl⟩⟩
theorem pf_X10_199 : pF RX10 199 0 3 := ⟨RX0, TX0, 6, rfl, by decide, rfl, Or.inr ⟨"PlugBoard", g_in 315 (by decide +kernel) rfl⟩⟩
theorem pf_X10_202 : pF RX10 202 3 7 := ⟨RX3, TX3, 9, rfl, by decide, rfl, Or.inr ⟨"PlugBoard", g_in 206 (by decide +kernel) rfl⟩⟩
theorem py_X7_countOf : pY yX7_countOf cX7_countOf 4 (some .int) 1 := ⟨g_in 1123 (by decide +kernel) rfl, g_in 99 (by decide +kernel) rfl, by decide, by decide, by decide +kernel⟩
theorem pi_X7_countOf : pI yX7_countOf 7 := ⟨g_in 1121 (by decide +kernel) rfl, g_in 1122 (by decide +kernel) rfl, (RX7, TX7, 7), rfl, rfl⟩
theorem pl_X10_205 : pL RX10 205 yX7_countOf := Or.inl (g_in 1120 (by decide +kernel) rfl)
theorem d_X10_part_0 : decAL cX10_part 0 0 1 := Or.inr ⟨0, rfl, by decide +kernel, rfl⟩
theorem d_X10_part_1 : dec 3 cX10_part 1 (.getfield 39) 4 := ⟨by decide +kernel, rfl⟩
theorem d_X10_part_4 : dec 3 cX10_part 4 (.getfield 97) 7 := ⟨by decide +kernel, rfl⟩
theorem d_X10_part_7 : decAS cX10_part 7 3 8 := Or.inr ⟨3, rfl, by decide +kernel, rfl⟩
theorem d_X10_part_8 : decAL cX10_part 8 3 9 := Or.inr ⟨3, rfl, by decide +kernel, rfl⟩
theorem d_X10_part_9 : decIL cX10_part 9 1 10 := Or.inr ⟨1, rfl, by decide +kernel, rfl⟩
theorem d_X10_part_10 : dec 3 cX10_part 10 (.invokevirtual 113) 13 := ⟨by decide +kernel, rfl⟩
theorem d_X10_part_13 : decB cX10_part 13 (.ifCond .ne 13) (13) 16 26 := ⟨by decide +kernel, rfl, by decide⟩
theorem d_X10_part_26 : decIL cX10_part 26 2 27 := Or.inr ⟨2, rfl, by decide +kernel, rfl⟩
theorem d_X10_part_27 : decode cX10_part 27 = .ok (.tableswitch 128 0 8 #[49, 56, 63, 70, 77, 84, 99, 109, 116], 49) := by decide +kernel
theorem d_X10_part_76 : decAL cX10_part 76 3 77 := Or.inr ⟨3, rfl, by decide +kernel, rfl⟩
theorem d_X10_part_77 : dec 3 cX10_part 77 (.getfield 179) 80 := ⟨by decide +kernel, rfl⟩
theorem d_X10_part_80 : decIL cX10_part 80 1 81 := Or.inr ⟨1, rfl, by decide +kernel, rfl⟩
theorem d_X10_part_81 : dec 1 cX10_part 81 .iaload 82 := ⟨by decide +kernel, rfl⟩
theorem d_X10_part_82 : dec 1 cX10_part 82 .ireturn 83 := ⟨by decide +kernel, rfl⟩
theorem d_X10_part_83 : decAL cX10_part 83 3 84 := Or.inr ⟨3, rfl, by decide +kernel, rfl⟩
theorem d_X10_part_84 : dec 3 cX10_part 84 (.getfield 183) 87 := ⟨by decide +kernel, rfl⟩
theorem d_X10_part_87 : decIL cX10_part 87 1 88 := Or.inr ⟨1, rfl, by decide +kernel, rfl⟩
theorem d_X10_part_88 : dec 1 cX10_part 88 .iaload 89 := ⟨by decide +kernel, rfl⟩
theorem d_X10_part_89 : dec 1 cX10_part 89 .ireturn 90 := ⟨by decide +kernel, rfl⟩
theorem d_X10_part_90 : decAL cX10_part 90 3 91 := Or.inr ⟨3, rfl, by decide +kernel, rfl⟩
theorem d_X10_part_91 : dec 3 cX10_part 91 (.getfield 186) 94 := ⟨by decide +kernel, rfl⟩
theorem d_X10_part_94 : decIL cX10_part 94 1 95 := Or.inr ⟨1, rfl, by decide +kernel, rfl⟩
theorem d_X10_part_95 : dec 1 cX10_part 95 .iaload 96 := ⟨by decide +kernel, rfl⟩
theorem d_X10_part_96 : dec 1 cX10_part 96 .ireturn 97 := ⟨by decide +kernel, rfl⟩
theorem d_X10_part_97 : decAL cX10_part 97 3 98 := Or.inr ⟨3, rfl, by decide +kernel, rfl⟩
theorem d_X10_part_98 : dec 3 cX10_part 98 (.getfield 189) 101 := ⟨by decide +kernel, rfl⟩
theorem d_X10_part_101 : decIL cX10_part 101 1 102 := Or.inr ⟨1, rfl, by decide +kernel, rfl⟩
theorem d_X10_part_102 : dec 1 cX10_part 102 .iaload 103 := ⟨by decide +kernel, rfl⟩
theorem d_X10_part_103 : dec 1 cX10_part 103 .ireturn 104 := ⟨by decide +kernel, rfl⟩
theorem d_X10_part_104 : decAL cX10_part 104 3 105 := Or.inr ⟨3, rfl, by decide +kernel, rfl⟩
theorem d_X10_part_105 : dec 3 cX10_part 105 (.getfield 192) 108 := ⟨by decide +kernel, rfl⟩
theorem d_X10_part_108 : decIL cX10_part 108 1 109 := Or.inr ⟨1, rfl, by decide +kernel, rfl⟩
theorem d_X10_part_109 : dec 1 cX10_part 109 .iaload 110 := ⟨by decide +kernel, rfl⟩
theorem d_X10_part_110 : dec 1 cX10_part 110 .ireturn 111 := ⟨by decide +kernel, rfl⟩
theorem d_X10_part_111 : decAL cX10_part 111 3 112 := Or.inr ⟨3, rfl, by decide +kernel, rfl⟩
theorem d_X10_part_112 : dec 3 cX10_part 112 (.getfield 195) 115 := ⟨by decide +kernel, rfl⟩
theorem d_X10_part_115 : decIL cX10_part 115 1 116 := Or.inr ⟨1, rfl, by decide +kernel, rfl⟩
theorem d_X10_part_116 : dec 1 cX10_part 116 .baload 117 := ⟨by decide +kernel, rfl⟩
theorem d_X10_part_117 : decB cX10_part 117 (.ifCond .eq 7) (7) 120 124 := ⟨by decide +kernel, rfl, by decide⟩
theorem d_X10_part_120 : dec 1 cX10_part 120 (.iconst 1) 121 := ⟨by decide +kernel, rfl⟩
theorem d_X10_part_121 : decB cX10_part 121 (.goto 4) (4) 124 125 := ⟨by decide +kernel, rfl, by decide⟩
theorem d_X10_part_124 : dec 1 cX10_part 124 (.iconst 0) 125 := ⟨by decide +kernel, rfl⟩
theorem d_X10_part_125 : dec 1 cX10_part 125 .ireturn 126 := ⟨by decide +kernel, rfl⟩
theorem d_X10_part_126 : decAL cX10_part 126 0 127 := Or.inr ⟨0, rfl, by decide +kernel, rfl⟩
theorem d_X10_part_127 : dec 3 cX10_part 127 (.getfield 39) 130 := ⟨by decide +kernel, rfl⟩
theorem d_X10_part_130 : dec 3 cX10_part 130 (.getfield 199) 133 := ⟨by decide +kernel, rfl⟩
theorem d_X10_part_133 : decIL cX10_part 133 1 134 := Or.inr ⟨1, rfl, by decide +kernel, rfl⟩
theorem d_X10_part_134 : dec 1 cX10_part 134 .iaload 135 := ⟨by decide +kernel, rfl⟩
theorem d_X10_part_135 : dec 1 cX10_part 135 .ireturn 136 := ⟨by decide +kernel, rfl⟩
theorem d_X10_part_136 : decAL cX10_part 136 3 137 := Or.inr ⟨3, rfl, by decide +kernel, rfl⟩
theorem d_X10_part_137 : dec 3 cX10_part 137 (.getfield 202) 140 := ⟨by decide +kernel, rfl⟩
theorem d_X10_part_140 : decIL cX10_part 140 1 141 := Or.inr ⟨1, rfl, by decide +kernel, rfl⟩
theorem d_X10_part_141 : dec 1 cX10_part 141 .iaload 142 := ⟨by decide +kernel, rfl⟩
theorem d_X10_part_142 : dec 1 cX10_part 142 .ireturn 143 := ⟨by decide +kernel, rfl⟩
theorem d_X10_part_143 : decAL cX10_part 143 0 144 := Or.inr ⟨0, rfl, by decide +kernel, rfl⟩
theorem d_X10_part_144 : dec 3 cX10_part 144 (.getfield 39) 147 := ⟨by decide +kernel, rfl⟩
theorem d_X10_part_147 : dec 3 cX10_part 147 (.getfield 128) 150 := ⟨by decide +kernel, rfl⟩
theorem d_X10_part_150 : decIL cX10_part 150 1 151 := Or.inr ⟨1, rfl, by decide +kernel, rfl⟩
theorem d_X10_part_151 : dec 3 cX10_part 151 (.invokevirtual 205) 154 := ⟨by decide +kernel, rfl⟩
theorem d_X10_part_154 : dec 1 cX10_part 154 .ireturn 155 := ⟨by decide +kernel, rfl⟩
def f_X10_part (F : Nat)  (v0 : Nat) (v1 : Int32) (v2 : Int32) (G : GH) : Option (Int32) :=
  Option.bind (gR G v0 10 1) (fun (x1 : Nat) =>
  Option.bind (gR G x1 0 0) (fun (x2 : Nat) =>
  cvP G x2 3 (f_X3_holds F x2 v1 G) (fun (x3 : Int32) =>
  if x3 = 0 then
  (none)
  else (g_sw v2 [Option.bind (gR G x2 3 1) (fun (x4 : Nat) =>
  Option.bind (aI G x4 0 v1) (fun (x5 : Int32) =>
  some x5)),
  Option.bind (gR G x2 3 2) (fun (x6 : Nat) =>
  Option.bind (aI G x6 0 v1) (fun (x7 : Int32) =>
  some x7)),
  Option.bind (gR G x2 3 6) (fun (x8 : Nat) =>
  Option.bind (aI G x8 0 v1) (fun (x9 : Int32) =>
  some x9)),
  Option.bind (gR G x2 3 3) (fun (x10 : Nat) =>
  Option.bind (aI G x10 0 v1) (fun (x11 : Int32) =>
  some x11)),
  Option.bind (gR G x2 3 4) (fun (x12 : Nat) =>
  Option.bind (aI G x12 0 v1) (fun (x13 : Int32) =>
  some x13)),
  Option.bind (gR G x2 3 5) (fun (x14 : Nat) =>
  Option.bind (aI G x14 2 v1) (fun (x15 : Int32) =>
  if x15 = 0 then
  (some (0 : Int32))
  else (some (1 : Int32)))),
  Option.bind (gR G v0 10 1) (fun (x16 : Nat) =>
  Option.bind (gR G x16 0 3) (fun (x17 : Nat) =>
  Option.bind (aI G x17 0 v1) (fun (x18 : Int32) =>
  some x18))),
  Option.bind (gR G x2 3 7) (fun (x19 : Nat) =>
  Option.bind (aI G x19 0 v1) (fun (x20 : Int32) =>
  some x20)),
  Option.bind (gR G v0 10 1) (fun (x21 : Nat) =>
  Option.bind (gR G x21 0 4) (fun (x22 : Nat) =>
  cvP G x22 7 (f_X7_countOf F x22 v1 G) (fun (x23 : Int32) =>
  some x23)))] (none) 0))))
set_option maxRecDepth 100000 in
set_option maxHeartbeats 4000000 in
theorem s_X10_part {E : GE} {F : Nat}  {v0 : Nat} {v1 : Int32} {v2 : Int32} {n : Nat} {G : GH} {z : Int32}  (h : f_X10_part F  v0 v1 v2 G = some z) : GM E yX10_part cX10_part 4 (some .int) 1 23 0 0 [.ref v0, .int v1, .int v2] n G (some (.int z), n, G) := by
  refine GM.of (by decide) (Nat.le_of_ble_eq_true rfl) ?_
  show WG E RX10 "part" cX10_part 4 (some .int) 1 23 0 0 0 [(0, .ref v0), (1, .int v1), (2, .int v2)] [] n G (g_O E (some (.int z), n, G))
  unfold f_X10_part at h
  refine r_aload d_X10_part_0 rfl ?_
  refine r_getR h d_X10_part_1 pf_X10_39 (fun x1 h => ?_)
  refine r_getR h d_X10_part_4 pf_X10_97 (fun x2 h => ?_)
  refine r_astore d_X10_part_7 rfl rfl ?_
  refine r_aload d_X10_part_8 rfl ?_
  refine r_iload d_X10_part_9 rfl ?_
  refine r_invP [_] h (fun _ hq => s_X3_holds hq) d_X10_part_10 pl_X10_113 py_X3_holds pi_X3_holds rfl rfl rfl (fun x3 h => ?_)
  refine r_if_ne h d_X10_part_13 (fun h => ?_) (fun h => ?_)
  · refine r_iload d_X10_part_26 rfl ?_
    refine r_switch (tg := 155) h [76, 83, 90, 97, 104, 111, 126, 136, 143] d_X10_part_27 rfl rfl rfl (by decide) rfl (by decide) (g_swPc (fun h => ?_) (g_swPc (fun h => ?_) (g_swPc (fun h => ?_) (g_swPc (fun h => ?_) (g_swPc (fun h => ?_) (g_swPc (fun h => ?_) (g_swPc (fun h => ?_) (g_swPc (fun h => ?_) (g_swPc (fun h => ?_) (g_swPn)))))))))) (fun h => ?_)
    · refine r_aload d_X10_part_76 rfl ?_
      refine r_getR h d_X10_part_77 pf_X10_179 (fun x4 h => ?_)
      refine r_iload d_X10_part_80 rfl ?_
      refine r_iald h d_X10_part_81 (fun x5 h => ?_)
      exact r_pret h d_X10_part_82
    · refine r_aload d_X10_part_83 rfl ?_
      refine r_getR h d_X10_part_84 pf_X10_183 (fun x6 h => ?_)
      refine r_iload d_X10_part_87 rfl ?_
      refine r_iald h d_X10_part_88 (fun x7 h => ?_)
      exact r_pret h d_X10_part_89
    · refine r_aload d_X10_part_90 rfl ?_
      refine r_getR h d_X10_part_91 pf_X10_186 (fun x8 h => ?_)
      refine r_iload d_X10_part_94 rfl ?_
      refine r_iald h d_X10_part_95 (fun x9 h => ?_)
      exact r_pret h d_X10_part_96
    · refine r_aload d_X10_part_97 rfl ?_
      refine r_getR h d_X10_part_98 pf_X10_189 (fun x10 h => ?_)
      refine r_iload d_X10_part_101 rfl ?_
      refine r_iald h d_X10_part_102 (fun x11 h => ?_)
      exact r_pret h d_X10_part_103
    · refine r_aload d_X10_part_104 rfl ?_
      refine r_getR h d_X10_part_105 pf_X10_192 (fun x12 h => ?_)
      refine r_iload d_X10_part_108 rfl ?_
      refine r_iald h d_X10_part_109 (fun x13 h => ?_)
      exact r_pret h d_X10_part_110
    · refine r_aload d_X10_part_111 rfl ?_
      refine r_getR h d_X10_part_112 pf_X10_195 (fun x14 h => ?_)
      refine r_iload d_X10_part_115 rfl ?_
      refine r_zald h d_X10_part_116 (fun x15 h => ?_)
      refine r_if_eq h d_X10_part_117 (fun h => ?_) (fun h => ?_)
      · refine r_iconst d_X10_part_124 ic_0 ?_
        exact r_pret h d_X10_part_125
      · refine r_iconst d_X10_part_120 ic_1 ?_
        refine r_goto d_X10_part_121 ?_
        exact r_pret h d_X10_part_125
    · refine r_aload d_X10_part_126 rfl ?_
      refine r_getR h d_X10_part_127 pf_X10_39 (fun x16 h => ?_)
      refine r_getR h d_X10_part_130 pf_X10_199 (fun x17 h => ?_)
      refine r_iload d_X10_part_133 rfl ?_
      refine r_iald h d_X10_part_134 (fun x18 h => ?_)
      exact r_pret h d_X10_part_135
    · refine r_aload d_X10_part_136 rfl ?_
      refine r_getR h d_X10_part_137 pf_X10_202 (fun x19 h => ?_)
      refine r_iload d_X10_part_140 rfl ?_
      refine r_iald h d_X10_part_141 (fun x20 h => ?_)
      exact r_pret h d_X10_part_142
    · refine r_aload d_X10_part_143 rfl ?_
      refine r_getR h d_X10_part_144 pf_X10_39 (fun x21 h => ?_)
      refine r_getR h d_X10_part_147 pf_X10_128 (fun x22 h => ?_)
      refine r_iload d_X10_part_150 rfl ?_
      refine r_invP [_] h (fun _ hq => s_X7_countOf hq) d_X10_part_151 pl_X10_205 py_X7_countOf pi_X7_countOf rfl rfl rfl (fun x23 h => ?_)
      exact r_pret h d_X10_part_154
    · cases h
  · cases h
theorem dx_X10_part_155 : decode cX10_part 155 = .ok (.new 172, 3) := by decide +kernel
theorem dx_X10_part_158 : decode cX10_part 158 = .ok (.dup, 1) := by decide +kernel
theorem dx_X10_part_159 : decode cX10_part 159 = .ok (.ldc 208, 2) := by decide +kernel
theorem dx_X10_part_161 : decode cX10_part 161 = .ok (.invokespecial 176, 3) := by decide +kernel
theorem dx_X10_part_164 : decode cX10_part 164 = .ok (.athrow, 1) := by decide +kernel
theorem dx_X10_part_16 : decode cX10_part 16 = .ok (.new 172, 3) := by decide +kernel
theorem dx_X10_part_19 : decode cX10_part 19 = .ok (.dup, 1) := by decide +kernel
theorem dx_X10_part_20 : decode cX10_part 20 = .ok (.ldc 174, 2) := by decide +kernel
theorem dx_X10_part_22 : decode cX10_part 22 = .ok (.invokespecial 176, 3) := by decide +kernel
theorem dx_X10_part_25 : decode cX10_part 25 = .ok (.athrow, 1) := by decide +kernel
def fx_X10_part (F : Nat) (v0 : Nat) (v1 : Int32) (v2 : Int32) (G : GH) : Option Unit :=
  Option.bind (gR G v0 10 1) (fun (x1 : Nat) =>
  Option.bind (gR G x1 0 0) (fun (x2 : Nat) =>
  cvP G x2 3 (f_X3_holds F x2 v1 G) (fun (x3 : Int32) =>
  if x3 = 0 then
  (some ())
  else (g_sw v2 [Option.bind (gR G x2 3 1) (fun (x4 : Nat) =>
  Option.bind (aI G x4 0 v1) (fun (x5 : Int32) =>
  none)),
  Option.bind (gR G x2 3 2) (fun (x6 : Nat) =>
  Option.bind (aI G x6 0 v1) (fun (x7 : Int32) =>
  none)),
  Option.bind (gR G x2 3 6) (fun (x8 : Nat) =>
  Option.bind (aI G x8 0 v1) (fun (x9 : Int32) =>
  none)),
  Option.bind (gR G x2 3 3) (fun (x10 : Nat) =>
  Option.bind (aI G x10 0 v1) (fun (x11 : Int32) =>
  none)),
  Option.bind (gR G x2 3 4) (fun (x12 : Nat) =>
  Option.bind (aI G x12 0 v1) (fun (x13 : Int32) =>
  none)),
  Option.bind (gR G x2 3 5) (fun (x14 : Nat) =>
  Option.bind (aI G x14 2 v1) (fun (x15 : Int32) =>
  if x15 = 0 then
  (none)
  else (none))),
  Option.bind (gR G v0 10 1) (fun (x16 : Nat) =>
  Option.bind (gR G x16 0 3) (fun (x17 : Nat) =>
  Option.bind (aI G x17 0 v1) (fun (x18 : Int32) =>
  none))),
  Option.bind (gR G x2 3 7) (fun (x19 : Nat) =>
  Option.bind (aI G x19 0 v1) (fun (x20 : Int32) =>
  none)),
  Option.bind (gR G v0 10 1) (fun (x21 : Nat) =>
  Option.bind (gR G x21 0 4) (fun (x22 : Nat) =>
  cvP G x22 7 (f_X7_countOf F x22 v1 G) (fun (x23 : Int32) =>
  none)))] (some ()) 0))))
set_option maxRecDepth 100000 in
set_option maxHeartbeats 4000000 in
theorem sx_X10_part {E : GE} {F : Nat} {v0 : Nat} {v1 v2 : Int32} {n : Nat} {G : GH} {z : Unit} (hX : ∀ U, E.2.2.2.2.2 U → x_Z E U) (h : fx_X10_part F v0 v1 v2 G = some z) : GX E yX10_part cX10_part 4 (some .int) 6 100 1 6 [.ref v0, .int v1, .int v2] n G (n + 1) := by
  refine GX.of (by decide) (Nat.le_of_ble_eq_true rfl) ?_
  show WG E RX10 "part" cX10_part 4 (some .int) 6 100 1 6 0 [(0, .ref v0), (1, .int v1), (2, .int v2)] [] n G (g_TX E (n + 1) G)
  unfold fx_X10_part at h
  refine r_aload d_X10_part_0 rfl ?_
  refine r_getR h d_X10_part_1 pf_X10_39 (fun x1 h => ?_)
  refine r_getR h d_X10_part_4 pf_X10_97 (fun x2 h => ?_)
  refine r_astore d_X10_part_7 rfl rfl ?_
  refine r_aload d_X10_part_8 rfl ?_
  refine r_iload d_X10_part_9 rfl ?_
  refine r_invP [_] h (fun _ hq => s_X3_holds hq) d_X10_part_10 pl_X10_113 py_X3_holds pi_X3_holds rfl rfl rfl (fun x3 h => ?_)
  refine r_if_ne h d_X10_part_13 (fun h => ?_) (fun h => ?_)
  · refine r_iload d_X10_part_26 rfl ?_
    refine r_switch (tg := 155) h [76, 83, 90, 97, 104, 111, 126, 136, 143] d_X10_part_27 rfl rfl rfl (by decide) rfl (by decide) (g_swPc (fun h => ?_) (g_swPc (fun h => ?_) (g_swPc (fun h => ?_) (g_swPc (fun h => ?_) (g_swPc (fun h => ?_) (g_swPc (fun h => ?_) (g_swPc (fun h => ?_) (g_swPc (fun h => ?_) (g_swPc (fun h => ?_) (g_swPn)))))))))) (fun h => ?_)
    · refine r_aload d_X10_part_76 rfl ?_
      refine r_getR h d_X10_part_77 pf_X10_179 (fun x4 h => ?_)
      refine r_iload d_X10_part_80 rfl ?_
      refine r_iald h d_X10_part_81 (fun x5 h => ?_)
      cases h
    · refine r_aload d_X10_part_83 rfl ?_
      refine r_getR h d_X10_part_84 pf_X10_183 (fun x6 h => ?_)
      refine r_iload d_X10_part_87 rfl ?_
      refine r_iald h d_X10_part_88 (fun x7 h => ?_)
      cases h
    · refine r_aload d_X10_part_90 rfl ?_
      refine r_getR h d_X10_part_91 pf_X10_186 (fun x8 h => ?_)
      refine r_iload d_X10_part_94 rfl ?_
      refine r_iald h d_X10_part_95 (fun x9 h => ?_)
      cases h
    · refine r_aload d_X10_part_97 rfl ?_
      refine r_getR h d_X10_part_98 pf_X10_189 (fun x10 h => ?_)
      refine r_iload d_X10_part_101 rfl ?_
      refine r_iald h d_X10_part_102 (fun x11 h => ?_)
      cases h
    · refine r_aload d_X10_part_104 rfl ?_
      refine r_getR h d_X10_part_105 pf_X10_192 (fun x12 h => ?_)
      refine r_iload d_X10_part_108 rfl ?_
      refine r_iald h d_X10_part_109 (fun x13 h => ?_)
      cases h
    · refine r_aload d_X10_part_111 rfl ?_
      refine r_getR h d_X10_part_112 pf_X10_195 (fun x14 h => ?_)
      refine r_iload d_X10_part_115 rfl ?_
      refine r_zald h d_X10_part_116 (fun x15 h => ?_)
      refine r_if_eq h d_X10_part_117 (fun h => ?_) (fun h => ?_)
      · refine r_iconst d_X10_part_124 ic_0 ?_
        cases h
      · refine r_iconst d_X10_part_120 ic_1 ?_
        refine r_goto d_X10_part_121 ?_
        cases h
    · refine r_aload d_X10_part_126 rfl ?_
      refine r_getR h d_X10_part_127 pf_X10_39 (fun x16 h => ?_)
      refine r_getR h d_X10_part_130 pf_X10_199 (fun x17 h => ?_)
      refine r_iload d_X10_part_133 rfl ?_
      refine r_iald h d_X10_part_134 (fun x18 h => ?_)
      cases h
    · refine r_aload d_X10_part_136 rfl ?_
      refine r_getR h d_X10_part_137 pf_X10_202 (fun x19 h => ?_)
      refine r_iload d_X10_part_140 rfl ?_
      refine r_iald h d_X10_part_141 (fun x20 h => ?_)
      cases h
    · refine r_aload d_X10_part_143 rfl ?_
      refine r_getR h d_X10_part_144 pf_X10_39 (fun x21 h => ?_)
      refine r_getR h d_X10_part_147 pf_X10_128 (fun x22 h => ?_)
      refine r_iload d_X10_part_150 rfl ?_
      refine r_invP [_] h (fun _ hq => s_X7_countOf hq) d_X10_part_151 pl_X10_205 py_X7_countOf pi_X7_countOf rfl rfl rfl (fun x23 h => ?_)
      cases h
    · exact r_throw (j := 16) hX rfl dx_X10_part_155 dx_X10_part_158 dx_X10_part_159 dx_X10_part_161 dx_X10_part_164 rfl rfl rfl rfl
  · exact r_throw (j := 15) hX rfl dx_X10_part_16 dx_X10_part_19 dx_X10_part_20 dx_X10_part_22 dx_X10_part_25 rfl rfl rfl rfl
/-! X10_thing -/
theorem pf_X10_215 : pF RX10 215 7 1 := ⟨RX7, TX7, 7, rfl, by decide, rfl, Or.inr ⟨"PlugBoard", g_in 249 (by decide +kernel) rfl⟩⟩
theorem pf_X10_218 : pF RX10 218 7 2 := ⟨RX7, TX7, 7, rfl, by decide, rfl, Or.inr ⟨"PlugBoard", g_in 253 (by decide +kernel) rfl⟩⟩
theorem pf_X10_221 : pF RX10 221 7 3 := ⟨RX7, TX7, 7, rfl, by decide, rfl, Or.inr ⟨"PlugBoard", g_in 256 (by decide +kernel) rfl⟩⟩
theorem py_X7_countOwned : pY yX7_countOwned cX7_countOwned 4 (some .int) 1 := ⟨g_in 1136 (by decide +kernel) rfl, g_in 99 (by decide +kernel) rfl, by decide, by decide, by decide +kernel⟩
theorem pi_X7_countOwned : pI yX7_countOwned 7 := ⟨g_in 1134 (by decide +kernel) rfl, g_in 1135 (by decide +kernel) rfl, (RX7, TX7, 7), rfl, rfl⟩
theorem pl_X10_227 : pL RX10 227 yX7_countOwned := Or.inl (g_in 1133 (by decide +kernel) rfl)
theorem d_X10_thing_0 : decAL cX10_thing 0 0 1 := Or.inr ⟨0, rfl, by decide +kernel, rfl⟩
theorem d_X10_thing_1 : dec 3 cX10_thing 1 (.getfield 39) 4 := ⟨by decide +kernel, rfl⟩
theorem d_X10_thing_4 : dec 3 cX10_thing 4 (.getfield 128) 7 := ⟨by decide +kernel, rfl⟩
theorem d_X10_thing_7 : decAS cX10_thing 7 3 8 := Or.inr ⟨3, rfl, by decide +kernel, rfl⟩
theorem d_X10_thing_8 : decAL cX10_thing 8 3 9 := Or.inr ⟨3, rfl, by decide +kernel, rfl⟩
theorem d_X10_thing_9 : decIL cX10_thing 9 1 10 := Or.inr ⟨1, rfl, by decide +kernel, rfl⟩
theorem d_X10_thing_10 : dec 3 cX10_thing 10 (.invokevirtual 132) 13 := ⟨by decide +kernel, rfl⟩
theorem d_X10_thing_13 : decB cX10_thing 13 (.ifCond .ne 13) (13) 16 26 := ⟨by decide +kernel, rfl, by decide⟩
theorem d_X10_thing_26 : decIL cX10_thing 26 2 27 := Or.inr ⟨2, rfl, by decide +kernel, rfl⟩
theorem d_X10_thing_27 : decode cX10_thing 27 = .ok (.tableswitch 75 0 4 #[33, 40, 47, 62, 69], 33) := by decide +kernel
theorem d_X10_thing_60 : decAL cX10_thing 60 3 61 := Or.inr ⟨3, rfl, by decide +kernel, rfl⟩
theorem d_X10_thing_61 : dec 3 cX10_thing 61 (.getfield 215) 64 := ⟨by decide +kernel, rfl⟩
theorem d_X10_thing_64 : decIL cX10_thing 64 1 65 := Or.inr ⟨1, rfl, by decide +kernel, rfl⟩
theorem d_X10_thing_65 : dec 1 cX10_thing 65 .iaload 66 := ⟨by decide +kernel, rfl⟩
theorem d_X10_thing_66 : dec 1 cX10_thing 66 .ireturn 67 := ⟨by decide +kernel, rfl⟩
theorem d_X10_thing_67 : decAL cX10_thing 67 3 68 := Or.inr ⟨3, rfl, by decide +kernel, rfl⟩
theorem d_X10_thing_68 : dec 3 cX10_thing 68 (.getfield 218) 71 := ⟨by decide +kernel, rfl⟩
theorem d_X10_thing_71 : decIL cX10_thing 71 1 72 := Or.inr ⟨1, rfl, by decide +kernel, rfl⟩
theorem d_X10_thing_72 : dec 1 cX10_thing 72 .iaload 73 := ⟨by decide +kernel, rfl⟩
theorem d_X10_thing_73 : dec 1 cX10_thing 73 .ireturn 74 := ⟨by decide +kernel, rfl⟩
theorem d_X10_thing_74 : decAL cX10_thing 74 3 75 := Or.inr ⟨3, rfl, by decide +kernel, rfl⟩
theorem d_X10_thing_75 : dec 3 cX10_thing 75 (.getfield 221) 78 := ⟨by decide +kernel, rfl⟩
theorem d_X10_thing_78 : decIL cX10_thing 78 1 79 := Or.inr ⟨1, rfl, by decide +kernel, rfl⟩
theorem d_X10_thing_79 : dec 1 cX10_thing 79 .baload 80 := ⟨by decide +kernel, rfl⟩
theorem d_X10_thing_80 : decB cX10_thing 80 (.ifCond .eq 7) (7) 83 87 := ⟨by decide +kernel, rfl, by decide⟩
theorem d_X10_thing_83 : dec 1 cX10_thing 83 (.iconst 1) 84 := ⟨by decide +kernel, rfl⟩
theorem d_X10_thing_84 : decB cX10_thing 84 (.goto 4) (4) 87 88 := ⟨by decide +kernel, rfl, by decide⟩
theorem d_X10_thing_87 : dec 1 cX10_thing 87 (.iconst 0) 88 := ⟨by decide +kernel, rfl⟩
theorem d_X10_thing_88 : dec 1 cX10_thing 88 .ireturn 89 := ⟨by decide +kernel, rfl⟩
theorem d_X10_thing_89 : decAL cX10_thing 89 3 90 := Or.inr ⟨3, rfl, by decide +kernel, rfl⟩
theorem d_X10_thing_90 : dec 3 cX10_thing 90 (.getfield 224) 93 := ⟨by decide +kernel, rfl⟩
theorem d_X10_thing_93 : decIL cX10_thing 93 1 94 := Or.inr ⟨1, rfl, by decide +kernel, rfl⟩
theorem d_X10_thing_94 : dec 1 cX10_thing 94 .iaload 95 := ⟨by decide +kernel, rfl⟩
theorem d_X10_thing_95 : dec 1 cX10_thing 95 .ireturn 96 := ⟨by decide +kernel, rfl⟩
theorem d_X10_thing_96 : decAL cX10_thing 96 3 97 := Or.inr ⟨3, rfl, by decide +kernel, rfl⟩
theorem d_X10_thing_97 : decIL cX10_thing 97 1 98 := Or.inr ⟨1, rfl, by decide +kernel, rfl⟩
theorem d_X10_thing_98 : dec 3 cX10_thing 98 (.invokevirtual 227) 101 := ⟨by decide +kernel, rfl⟩
theorem d_X10_thing_101 : dec 1 cX10_thing 101 .ireturn 102 := ⟨by decide +kernel, rfl⟩
def f_X10_thing (F : Nat)  (v0 : Nat) (v1 : Int32) (v2 : Int32) (G : GH) : Option (Int32) :=
  Option.bind (gR G v0 10 1) (fun (x1 : Nat) =>
  Option.bind (gR G x1 0 4) (fun (x2 : Nat) =>
  cvP G x2 7 (f_X7_holds F x2 v1 G) (fun (x3 : Int32) =>
  if x3 = 0 then
  (none)
  else (g_sw v2 [Option.bind (gR G x2 7 1) (fun (x4 : Nat) =>
  Option.bind (aI G x4 0 v1) (fun (x5 : Int32) =>
  some x5)),
  Option.bind (gR G x2 7 2) (fun (x6 : Nat) =>
  Option.bind (aI G x6 0 v1) (fun (x7 : Int32) =>
  some x7)),
  Option.bind (gR G x2 7 3) (fun (x8 : Nat) =>
  Option.bind (aI G x8 2 v1) (fun (x9 : Int32) =>
  if x9 = 0 then
  (some (0 : Int32))
  else (some (1 : Int32)))),
  Option.bind (gR G x2 7 4) (fun (x10 : Nat) =>
  Option.bind (aI G x10 0 v1) (fun (x11 : Int32) =>
  some x11)),
  cvP G x2 7 (f_X7_countOwned F x2 v1 G) (fun (x12 : Int32) =>
  some x12)] (none) 0))))
set_option maxRecDepth 100000 in
set_option maxHeartbeats 4000000 in
theorem s_X10_thing {E : GE} {F : Nat}  {v0 : Nat} {v1 : Int32} {v2 : Int32} {n : Nat} {G : GH} {z : Int32}  (h : f_X10_thing F  v0 v1 v2 G = some z) : GM E yX10_thing cX10_thing 4 (some .int) 3 66 0 0 [.ref v0, .int v1, .int v2] n G (some (.int z), n, G) := by
  refine GM.of (by decide) (Nat.le_of_ble_eq_true rfl) ?_
  show WG E RX10 "thing" cX10_thing 4 (some .int) 3 66 0 0 0 [(0, .ref v0), (1, .int v1), (2, .int v2)] [] n G (g_O E (some (.int z), n, G))
  unfold f_X10_thing at h
  refine r_aload d_X10_thing_0 rfl ?_
  refine r_getR h d_X10_thing_1 pf_X10_39 (fun x1 h => ?_)
  refine r_getR h d_X10_thing_4 pf_X10_128 (fun x2 h => ?_)
  refine r_astore d_X10_thing_7 rfl rfl ?_
  refine r_aload d_X10_thing_8 rfl ?_
  refine r_iload d_X10_thing_9 rfl ?_
  refine r_invP [_] h (fun _ hq => s_X7_holds hq) d_X10_thing_10 pl_X10_132 py_X7_holds pi_X7_holds rfl rfl rfl (fun x3 h => ?_)
  refine r_if_ne h d_X10_thing_13 (fun h => ?_) (fun h => ?_)
  · refine r_iload d_X10_thing_26 rfl ?_
    refine r_switch (tg := 102) h [60, 67, 74, 89, 96] d_X10_thing_27 rfl rfl rfl (by decide) rfl (by decide) (g_swPc (fun h => ?_) (g_swPc (fun h => ?_) (g_swPc (fun h => ?_) (g_swPc (fun h => ?_) (g_swPc (fun h => ?_) (g_swPn)))))) (fun h => ?_)
    · refine r_aload d_X10_thing_60 rfl ?_
      refine r_getR h d_X10_thing_61 pf_X10_215 (fun x4 h => ?_)
      refine r_iload d_X10_thing_64 rfl ?_
      refine r_iald h d_X10_thing_65 (fun x5 h => ?_)
      exact r_pret h d_X10_thing_66
    · refine r_aload d_X10_thing_67 rfl ?_
      refine r_getR h d_X10_thing_68 pf_X10_218 (fun x6 h => ?_)
      refine r_iload d_X10_thing_71 rfl ?_
      refine r_iald h d_X10_thing_72 (fun x7 h => ?_)
      exact r_pret h d_X10_thing_73
    · refine r_aload d_X10_thing_74 rfl ?_
      refine r_getR h d_X10_thing_75 pf_X10_221 (fun x8 h => ?_)
      refine r_iload d_X10_thing_78 rfl ?_
      refine r_zald h d_X10_thing_79 (fun x9 h => ?_)
      refine r_if_eq h d_X10_thing_80 (fun h => ?_) (fun h => ?_)
      · refine r_iconst d_X10_thing_87 ic_0 ?_
        exact r_pret h d_X10_thing_88
      · refine r_iconst d_X10_thing_83 ic_1 ?_
        refine r_goto d_X10_thing_84 ?_
        exact r_pret h d_X10_thing_88
    · refine r_aload d_X10_thing_89 rfl ?_
      refine r_getR h d_X10_thing_90 pf_X10_224 (fun x10 h => ?_)
      refine r_iload d_X10_thing_93 rfl ?_
      refine r_iald h d_X10_thing_94 (fun x11 h => ?_)
      exact r_pret h d_X10_thing_95
    · refine r_aload d_X10_thing_96 rfl ?_
      refine r_iload d_X10_thing_97 rfl ?_
      refine r_invP [_] h (fun _ hq => s_X7_countOwned hq) d_X10_thing_98 pl_X10_227 py_X7_countOwned pi_X7_countOwned rfl rfl rfl (fun x12 h => ?_)
      exact r_pret h d_X10_thing_101
    · cases h
  · cases h
theorem dx_X10_thing_102 : decode cX10_thing 102 = .ok (.new 172, 3) := by decide +kernel
theorem dx_X10_thing_105 : decode cX10_thing 105 = .ok (.dup, 1) := by decide +kernel
theorem dx_X10_thing_106 : decode cX10_thing 106 = .ok (.ldc 230, 2) := by decide +kernel
theorem dx_X10_thing_108 : decode cX10_thing 108 = .ok (.invokespecial 176, 3) := by decide +kernel
theorem dx_X10_thing_111 : decode cX10_thing 111 = .ok (.athrow, 1) := by decide +kernel
theorem dx_X10_thing_16 : decode cX10_thing 16 = .ok (.new 172, 3) := by decide +kernel
theorem dx_X10_thing_19 : decode cX10_thing 19 = .ok (.dup, 1) := by decide +kernel
theorem dx_X10_thing_20 : decode cX10_thing 20 = .ok (.ldc 213, 2) := by decide +kernel
theorem dx_X10_thing_22 : decode cX10_thing 22 = .ok (.invokespecial 176, 3) := by decide +kernel
theorem dx_X10_thing_25 : decode cX10_thing 25 = .ok (.athrow, 1) := by decide +kernel
def fx_X10_thing (F : Nat) (v0 : Nat) (v1 : Int32) (v2 : Int32) (G : GH) : Option Unit :=
  Option.bind (gR G v0 10 1) (fun (x1 : Nat) =>
  Option.bind (gR G x1 0 4) (fun (x2 : Nat) =>
  cvP G x2 7 (f_X7_holds F x2 v1 G) (fun (x3 : Int32) =>
  if x3 = 0 then
  (some ())
  else (g_sw v2 [Option.bind (gR G x2 7 1) (fun (x4 : Nat) =>
  Option.bind (aI G x4 0 v1) (fun (x5 : Int32) =>
  none)),
  Option.bind (gR G x2 7 2) (fun (x6 : Nat) =>
  Option.bind (aI G x6 0 v1) (fun (x7 : Int32) =>
  none)),
  Option.bind (gR G x2 7 3) (fun (x8 : Nat) =>
  Option.bind (aI G x8 2 v1) (fun (x9 : Int32) =>
  if x9 = 0 then
  (none)
  else (none))),
  Option.bind (gR G x2 7 4) (fun (x10 : Nat) =>
  Option.bind (aI G x10 0 v1) (fun (x11 : Int32) =>
  none)),
  cvP G x2 7 (f_X7_countOwned F x2 v1 G) (fun (x12 : Int32) =>
  none)] (some ()) 0))))
set_option maxRecDepth 100000 in
set_option maxHeartbeats 4000000 in
theorem sx_X10_thing {E : GE} {F : Nat} {v0 : Nat} {v1 v2 : Int32} {n : Nat} {G : GH} {z : Unit} (hX : ∀ U, E.2.2.2.2.2 U → x_Z E U) (h : fx_X10_thing F v0 v1 v2 G = some z) : GX E yX10_thing cX10_thing 4 (some .int) 6 100 1 6 [.ref v0, .int v1, .int v2] n G (n + 1) := by
  refine GX.of (by decide) (Nat.le_of_ble_eq_true rfl) ?_
  show WG E RX10 "thing" cX10_thing 4 (some .int) 6 100 1 6 0 [(0, .ref v0), (1, .int v1), (2, .int v2)] [] n G (g_TX E (n + 1) G)
  unfold fx_X10_thing at h
  refine r_aload d_X10_thing_0 rfl ?_
  refine r_getR h d_X10_thing_1 pf_X10_39 (fun x1 h => ?_)
  refine r_getR h d_X10_thing_4 pf_X10_128 (fun x2 h => ?_)
  refine r_astore d_X10_thing_7 rfl rfl ?_
  refine r_aload d_X10_thing_8 rfl ?_
  refine r_iload d_X10_thing_9 rfl ?_
  refine r_invP [_] h (fun _ hq => s_X7_holds hq) d_X10_thing_10 pl_X10_132 py_X7_holds pi_X7_holds rfl rfl rfl (fun x3 h => ?_)
  refine r_if_ne h d_X10_thing_13 (fun h => ?_) (fun h => ?_)
  · refine r_iload d_X10_thing_26 rfl ?_
    refine r_switch (tg := 102) h [60, 67, 74, 89, 96] d_X10_thing_27 rfl rfl rfl (by decide) rfl (by decide) (g_swPc (fun h => ?_) (g_swPc (fun h => ?_) (g_swPc (fun h => ?_) (g_swPc (fun h => ?_) (g_swPc (fun h => ?_) (g_swPn)))))) (fun h => ?_)
    · refine r_aload d_X10_thing_60 rfl ?_
      refine r_getR h d_X10_thing_61 pf_X10_215 (fun x4 h => ?_)
      refine r_iload d_X10_thing_64 rfl ?_
      refine r_iald h d_X10_thing_65 (fun x5 h => ?_)
      cases h
    · refine r_aload d_X10_thing_67 rfl ?_
      refine r_getR h d_X10_thing_68 pf_X10_218 (fun x6 h => ?_)
      refine r_iload d_X10_thing_71 rfl ?_
      refine r_iald h d_X10_thing_72 (fun x7 h => ?_)
      cases h
    · refine r_aload d_X10_thing_74 rfl ?_
      refine r_getR h d_X10_thing_75 pf_X10_221 (fun x8 h => ?_)
      refine r_iload d_X10_thing_78 rfl ?_
      refine r_zald h d_X10_thing_79 (fun x9 h => ?_)
      refine r_if_eq h d_X10_thing_80 (fun h => ?_) (fun h => ?_)
      · refine r_iconst d_X10_thing_87 ic_0 ?_
        cases h
      · refine r_iconst d_X10_thing_83 ic_1 ?_
        refine r_goto d_X10_thing_84 ?_
        cases h
    · refine r_aload d_X10_thing_89 rfl ?_
      refine r_getR h d_X10_thing_90 pf_X10_224 (fun x10 h => ?_)
      refine r_iload d_X10_thing_93 rfl ?_
      refine r_iald h d_X10_thing_94 (fun x11 h => ?_)
      cases h
    · refine r_aload d_X10_thing_96 rfl ?_
      refine r_iload d_X10_thing_97 rfl ?_
      refine r_invP [_] h (fun _ hq => s_X7_countOwned hq) d_X10_thing_98 pl_X10_227 py_X7_countOwned pi_X7_countOwned rfl rfl rfl (fun x12 h => ?_)
      cases h
    · exact r_throw (j := 18) hX rfl dx_X10_thing_102 dx_X10_thing_105 dx_X10_thing_106 dx_X10_thing_108 dx_X10_thing_111 rfl rfl rfl rfl
  · exact r_throw (j := 17) hX rfl dx_X10_thing_16 dx_X10_thing_19 dx_X10_thing_20 dx_X10_thing_22 dx_X10_thing_25 rfl rfl rfl rfl
theorem pyx_X10_part : pY yX10_part cX10_part 4 (some .int) 2 := ⟨g_in 1054 (by decide +kernel) rfl, g_in 94 (by decide +kernel) rfl, by decide, by decide, by decide +kernel⟩
theorem pix_X10_part : pI yX10_part 10 := ⟨g_in 1052 (by decide +kernel) rfl, g_in 1053 (by decide +kernel) rfl, (RX10, TX10, 9), rfl, rfl⟩
theorem plx_L_part : Cond.methodLink RL 7 yX10_part ∈ g_tbl := g_in 1051 (by decide +kernel) rfl
theorem dq_L_part_0 : decAL cL_part 0 3 1 := Or.inr ⟨3, rfl, by decide +kernel, rfl⟩
theorem dq_L_part_1 : dec 1 cL_part 1 (.iconst 0) 2 := ⟨by decide +kernel, rfl⟩
theorem dq_L_part_2 : decAL cL_part 2 0 3 := Or.inr ⟨0, rfl, by decide +kernel, rfl⟩
theorem dq_L_part_3 : decIL cL_part 3 1 4 := Or.inr ⟨1, rfl, by decide +kernel, rfl⟩
theorem dq_L_part_4 : decIL cL_part 4 2 5 := Or.inr ⟨2, rfl, by decide +kernel, rfl⟩
theorem dq_L_part_5 : dec 3 cL_part 5 (.invokevirtual 7) 8 := ⟨by decide +kernel, rfl⟩
theorem dq_L_part_8 : dec 1 cL_part 8 .i2l 9 := ⟨by decide +kernel, rfl⟩
theorem dq_L_part_9 : dec 1 cL_part 9 .lastore 10 := ⟨by decide +kernel, rfl⟩
theorem dq_L_part_10 : decB cL_part 10 (.goto 7) (7) 13 17 := ⟨by decide +kernel, rfl, by decide⟩
theorem dq_L_part_13 : decAS cL_part 13 4 15 := Or.inl ⟨by decide +kernel, rfl⟩
theorem dq_L_part_15 : dec 1 cL_part 15 (.iconst 1) 16 := ⟨by decide +kernel, rfl⟩
theorem dq_L_part_16 : dec 1 cL_part 16 .ireturn 17 := ⟨by decide +kernel, rfl⟩
theorem dq_L_part_17 : dec 1 cL_part 17 (.iconst 0) 18 := ⟨by decide +kernel, rfl⟩
theorem dq_L_part_18 : dec 1 cL_part 18 .ireturn 19 := ⟨by decide +kernel, rfl⟩
def f_L_part (F : Nat) (v0 : Nat) (v1 v2 : Int32) (v3 : Nat) (n : Nat) (G : GH) : Option (Int32 × Nat × GH) := match G v0 with
  | some (.inr (10, _)) => (match f_X10_part F v0 v1 v2 G with
    | some r => Option.bind (aK G v3 0 (Int32.toInt64 r)) (fun (G1 : GH) => some (0, n, G1))
    | none => (match fx_X10_part F v0 v1 v2 G with
      | some _ => some (1, n + 1, G)
      | none => none))
  | _ => none
set_option maxRecDepth 100000 in
set_option maxHeartbeats 4000000 in
theorem s_L_part {E : GE} {F : Nat} {v0 : Nat} {v1 v2 : Int32} {v3 : Nat} {n : Nat} {G : GH} {z : Int32 × Nat × GH} (hX : ∀ U, E.2.2.2.2.2 U → x_Z E U) (h : f_L_part F v0 v1 v2 v3 n G = some z) : GMW E yL_part cL_part 5 (some .int) 7 123 1 6 [.ref v0, .int v1, .int v2, .ref v3] n G (some (.int z.1), z.2.1, z.2.2) := by
  refine GMW.of (by decide) (Nat.le_of_ble_eq_true rfl) rfl ?_
  show WG E RL "part" cL_part 5 (some .int) 7 123 1 6 0 [(0, .ref v0), (1, .int v1), (2, .int v2), (3, .ref v3)] [] n G (g_O E (some (.int z.1), z.2.1, z.2.2))
  refine r_aload dq_L_part_0 rfl ?_
  refine r_iconst dq_L_part_1 ic_0 ?_
  refine r_aload dq_L_part_2 rfl ?_
  refine r_iload dq_L_part_3 rfl ?_
  refine r_iload dq_L_part_4 rfl ?_
  unfold f_L_part at h
  split at h
  · rename_i fs hb
    split at h
    · rename_i r hr
      refine g_invV (as := [.int v1, .int v2]) (rest := [.int 0, .ref v3]) (s_X10_part hr) dq_L_part_5 (Or.inl plx_L_part) pyx_X10_part pix_X10_part hb rfl rfl rfl ?_
      refine r_i2l dq_L_part_8 ?_
      refine r_last h dq_L_part_9 (fun G1 h => ?_)
      refine r_goto dq_L_part_10 ?_
      refine r_iconst dq_L_part_17 ic_0 ?_
      exact r_iret h dq_L_part_18
    · split at h
      · rename_i hr
        refine r_caught (as := [.int v1, .int v2]) (rest := [.int 0, .ref v3]) (sx_X10_part hX hr) dq_L_part_5.1 plx_L_part pyx_X10_part pix_X10_part hb rfl rfl rfl (by decide) (fun q => ?_)
        refine r_astore dq_L_part_13 rfl rfl ?_
        refine r_iconst dq_L_part_15 ic_1 ?_
        exact r_iret h dq_L_part_16
      · cases h
  · cases h
theorem pyx_X10_thing : pY yX10_thing cX10_thing 4 (some .int) 2 := ⟨g_in 1131 (by decide +kernel) rfl, g_in 94 (by decide +kernel) rfl, by decide, by decide, by decide +kernel⟩
theorem pix_X10_thing : pI yX10_thing 10 := ⟨g_in 1129 (by decide +kernel) rfl, g_in 1130 (by decide +kernel) rfl, (RX10, TX10, 9), rfl, rfl⟩
theorem plx_L_thing : Cond.methodLink RL 15 yX10_thing ∈ g_tbl := g_in 1128 (by decide +kernel) rfl
theorem dq_L_thing_0 : decAL cL_thing 0 3 1 := Or.inr ⟨3, rfl, by decide +kernel, rfl⟩
theorem dq_L_thing_1 : dec 1 cL_thing 1 (.iconst 0) 2 := ⟨by decide +kernel, rfl⟩
theorem dq_L_thing_2 : decAL cL_thing 2 0 3 := Or.inr ⟨0, rfl, by decide +kernel, rfl⟩
theorem dq_L_thing_3 : decIL cL_thing 3 1 4 := Or.inr ⟨1, rfl, by decide +kernel, rfl⟩
theorem dq_L_thing_4 : decIL cL_thing 4 2 5 := Or.inr ⟨2, rfl, by decide +kernel, rfl⟩
theorem dq_L_thing_5 : dec 3 cL_thing 5 (.invokevirtual 15) 8 := ⟨by decide +kernel, rfl⟩
theorem dq_L_thing_8 : dec 1 cL_thing 8 .i2l 9 := ⟨by decide +kernel, rfl⟩
theorem dq_L_thing_9 : dec 1 cL_thing 9 .lastore 10 := ⟨by decide +kernel, rfl⟩
theorem dq_L_thing_10 : decB cL_thing 10 (.goto 7) (7) 13 17 := ⟨by decide +kernel, rfl, by decide⟩
theorem dq_L_thing_13 : decAS cL_thing 13 4 15 := Or.inl ⟨by decide +kernel, rfl⟩
theorem dq_L_thing_15 : dec 1 cL_thing 15 (.iconst 1) 16 := ⟨by decide +kernel, rfl⟩
theorem dq_L_thing_16 : dec 1 cL_thing 16 .ireturn 17 := ⟨by decide +kernel, rfl⟩
theorem dq_L_thing_17 : dec 1 cL_thing 17 (.iconst 0) 18 := ⟨by decide +kernel, rfl⟩
theorem dq_L_thing_18 : dec 1 cL_thing 18 .ireturn 19 := ⟨by decide +kernel, rfl⟩
def f_L_thing (F : Nat) (v0 : Nat) (v1 v2 : Int32) (v3 : Nat) (n : Nat) (G : GH) : Option (Int32 × Nat × GH) := match G v0 with
  | some (.inr (10, _)) => (match f_X10_thing F v0 v1 v2 G with
    | some r => Option.bind (aK G v3 0 (Int32.toInt64 r)) (fun (G1 : GH) => some (0, n, G1))
    | none => (match fx_X10_thing F v0 v1 v2 G with
      | some _ => some (1, n + 1, G)
      | none => none))
  | _ => none
set_option maxRecDepth 100000 in
set_option maxHeartbeats 4000000 in
theorem s_L_thing {E : GE} {F : Nat} {v0 : Nat} {v1 v2 : Int32} {v3 : Nat} {n : Nat} {G : GH} {z : Int32 × Nat × GH} (hX : ∀ U, E.2.2.2.2.2 U → x_Z E U) (h : f_L_thing F v0 v1 v2 v3 n G = some z) : GMW E yL_thing cL_thing 5 (some .int) 7 123 1 6 [.ref v0, .int v1, .int v2, .ref v3] n G (some (.int z.1), z.2.1, z.2.2) := by
  refine GMW.of (by decide) (Nat.le_of_ble_eq_true rfl) rfl ?_
  show WG E RL "thing" cL_thing 5 (some .int) 7 123 1 6 0 [(0, .ref v0), (1, .int v1), (2, .int v2), (3, .ref v3)] [] n G (g_O E (some (.int z.1), z.2.1, z.2.2))
  refine r_aload dq_L_thing_0 rfl ?_
  refine r_iconst dq_L_thing_1 ic_0 ?_
  refine r_aload dq_L_thing_2 rfl ?_
  refine r_iload dq_L_thing_3 rfl ?_
  refine r_iload dq_L_thing_4 rfl ?_
  unfold f_L_thing at h
  split at h
  · rename_i fs hb
    split at h
    · rename_i r hr
      refine g_invV (as := [.int v1, .int v2]) (rest := [.int 0, .ref v3]) (s_X10_thing hr) dq_L_thing_5 (Or.inl plx_L_thing) pyx_X10_thing pix_X10_thing hb rfl rfl rfl ?_
      refine r_i2l dq_L_thing_8 ?_
      refine r_last h dq_L_thing_9 (fun G1 h => ?_)
      refine r_goto dq_L_thing_10 ?_
      refine r_iconst dq_L_thing_17 ic_0 ?_
      exact r_iret h dq_L_thing_18
    · split at h
      · rename_i hr
        refine r_caught (as := [.int v1, .int v2]) (rest := [.int 0, .ref v3]) (sx_X10_thing hX hr) dq_L_thing_5.1 plx_L_thing pyx_X10_thing pix_X10_thing hb rfl rfl rfl (by decide) (fun q => ?_)
        refine r_astore dq_L_thing_13 rfl rfl ?_
        refine r_iconst dq_L_thing_15 ic_1 ?_
        exact r_iret h dq_L_thing_16
      · cases h
  · cases h
