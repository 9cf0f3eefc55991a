/-! X0_init -/
theorem qol_X0_3 : Cond.methodLink RX0 3 objectInit ∈ g_tbl := g_in 235 (by decide +kernel) rfl
theorem pw_X0_9 {nm : String} : pW RX0 nm 9 0 1 .int := ⟨RX0, TX0, 6, rfl, by decide, rfl, Or.inl ⟨g_in 309 (by decide +kernel) rfl, Or.inl rfl⟩, by decide +kernel⟩
theorem pw_X0_15 : pW RX0 "<init>" 15 0 2 (.array .int) := ⟨RX0, TX0, 6, rfl, by decide, rfl, Or.inl ⟨g_in 312 (by decide +kernel) rfl, Or.inr ⟨rfl, rfl, rfl⟩⟩, by decide +kernel⟩
theorem pw_X0_19 : pW RX0 "<init>" 19 0 3 (.array .int) := ⟨RX0, TX0, 6, rfl, by decide, rfl, Or.inl ⟨g_in 313 (by decide +kernel) rfl, Or.inr ⟨rfl, rfl, rfl⟩⟩, by decide +kernel⟩
def df_X7 : List Value := [.int 0, .null, .null, .null, .null, .null, .null]
theorem dv_X7 : ∀ j, j < 7 → defaultValue (tyX7 j) = vp_V df_X7 j := by decide +kernel
theorem pn_X0_22 : pN RX0 22 7 df_X7 := ⟨RX7, TX7, 7, rfl, g_in 236 (by decide +kernel) rfl, g_in 237 (by decide +kernel) rfl, g_in 99 (by decide +kernel) rfl, rfl, tyX7, tyX7_ok, dv_X7⟩
theorem py_X7_init : pY yX7_init cX7_init 1 none 0 := ⟨g_in 240 (by decide +kernel) rfl, g_in 99 (by decide +kernel) rfl, by decide, by decide, by decide +kernel⟩
theorem pm_X7_init : Cond.instanceMethod yX7_init ∈ g_tbl := g_in 239 (by decide +kernel) rfl
theorem pl_X0_24 : pL RX0 24 yX7_init := Or.inr ⟨"PlugBoard", g_in 238 (by decide +kernel) rfl⟩
theorem pw_X0_25 : pW RX0 "<init>" 25 0 4 (.object "PlugBoard$Things") := ⟨RX0, TX0, 6, rfl, by decide, rfl, Or.inl ⟨g_in 316 (by decide +kernel) rfl, Or.inr ⟨rfl, rfl, rfl⟩⟩, by decide +kernel⟩
def df_X9 : List Value := [.int 0, .int 0, .null, .int 0, .null]
theorem dv_X9 : ∀ j, j < 5 → defaultValue (tyX9 j) = vp_V df_X9 j := by decide +kernel
theorem pn_X0_29 : pN RX0 29 9 df_X9 := ⟨RX9, TX9, 5, rfl, g_in 277 (by decide +kernel) rfl, g_in 278 (by decide +kernel) rfl, g_in 100 (by decide +kernel) rfl, rfl, tyX9, tyX9_ok, dv_X9⟩
theorem py_X9_init : pY yX9_init cX9_init 1 none 0 := ⟨g_in 281 (by decide +kernel) rfl, g_in 100 (by decide +kernel) rfl, by decide, by decide, by decide +kernel⟩
theorem pm_X9_init : Cond.instanceMethod yX9_init ∈ g_tbl := g_in 280 (by decide +kernel) rfl
theorem pl_X0_31 : pL RX0 31 yX9_init := Or.inr ⟨"PlugBoard", g_in 279 (by decide +kernel) rfl⟩
theorem pw_X0_32 : pW RX0 "<init>" 32 0 5 (.object "PlugBoard$Told") := ⟨RX0, TX0, 6, rfl, by decide, rfl, Or.inl ⟨g_in 319 (by decide +kernel) rfl, Or.inr ⟨rfl, rfl, rfl⟩⟩, by decide +kernel⟩
theorem pw_X0_36 {nm : String} : pW RX0 nm 36 0 0 (.object "PlugBoard$Parts") := ⟨RX0, TX0, 6, rfl, by decide, rfl, Or.inl ⟨g_in 305 (by decide +kernel) rfl, Or.inl rfl⟩, by decide +kernel⟩
theorem pf_X0_15 : pF RX0 15 0 2 := ⟨RX0, TX0, 6, rfl, by decide, rfl, Or.inl (g_in 312 (by decide +kernel) rfl)⟩
theorem py_J7_fill_53178 : pY yJ7_fill_53178 cJ7_fill_53178 4 none 2 := ⟨g_in 304 (by decide +kernel) rfl, g_in 101 (by decide +kernel) rfl, by decide, by decide, by decide +kernel⟩
theorem ps_J7_fill_53178 : Cond.static yJ7_fill_53178 ∈ g_tbl := g_in 303 (by decide +kernel) rfl
theorem pl_X0_40 : pL RX0 40 yJ7_fill_53178 := Or.inl (g_in 302 (by decide +kernel) rfl)
theorem d_X0_init_0 : decAL cX0_init 0 0 1 := Or.inr ⟨0, rfl, by decide +kernel, rfl⟩
theorem d_X0_init_1 : dec 3 cX0_init 1 (.invokespecial 3) 4 := ⟨by decide +kernel, rfl⟩
theorem d_X0_init_4 : decAL cX0_init 4 0 5 := Or.inr ⟨0, rfl, by decide +kernel, rfl⟩
theorem d_X0_init_5 : dec 1 cX0_init 5 (.iconst 0) 6 := ⟨by decide +kernel, rfl⟩
theorem d_X0_init_6 : dec 3 cX0_init 6 (.putfield 9) 9 := ⟨by decide +kernel, rfl⟩
theorem d_X0_init_9 : decAL cX0_init 9 0 10 := Or.inr ⟨0, rfl, by decide +kernel, rfl⟩
theorem d_X0_init_10 : dec 2 cX0_init 10 (.bipush 60) 12 := ⟨by decide +kernel, rfl⟩
theorem d_X0_init_12 : dec 2 cX0_init 12 (.newarray .int) 14 := ⟨by decide +kernel, rfl⟩
theorem d_X0_init_14 : dec 3 cX0_init 14 (.putfield 15) 17 := ⟨by decide +kernel, rfl⟩
theorem d_X0_init_17 : decAL cX0_init 17 0 18 := Or.inr ⟨0, rfl, by decide +kernel, rfl⟩
theorem d_X0_init_18 : dec 2 cX0_init 18 (.bipush 12) 20 := ⟨by decide +kernel, rfl⟩
theorem d_X0_init_20 : dec 2 cX0_init 20 (.newarray .int) 22 := ⟨by decide +kernel, rfl⟩
theorem d_X0_init_22 : dec 3 cX0_init 22 (.putfield 19) 25 := ⟨by decide +kernel, rfl⟩
theorem d_X0_init_25 : decAL cX0_init 25 0 26 := Or.inr ⟨0, rfl, by decide +kernel, rfl⟩
theorem d_X0_init_26 : dec 3 cX0_init 26 (.new 22) 29 := ⟨by decide +kernel, rfl⟩
theorem d_X0_init_29 : dec 1 cX0_init 29 .dup 30 := ⟨by decide +kernel, rfl⟩
theorem d_X0_init_30 : dec 3 cX0_init 30 (.invokespecial 24) 33 := ⟨by decide +kernel, rfl⟩
theorem d_X0_init_33 : dec 3 cX0_init 33 (.putfield 25) 36 := ⟨by decide +kernel, rfl⟩
theorem d_X0_init_36 : decAL cX0_init 36 0 37 := Or.inr ⟨0, rfl, by decide +kernel, rfl⟩
theorem d_X0_init_37 : dec 3 cX0_init 37 (.new 29) 40 := ⟨by decide +kernel, rfl⟩
theorem d_X0_init_40 : dec 1 cX0_init 40 .dup 41 := ⟨by decide +kernel, rfl⟩
theorem d_X0_init_41 : dec 3 cX0_init 41 (.invokespecial 31) 44 := ⟨by decide +kernel, rfl⟩
theorem d_X0_init_44 : dec 3 cX0_init 44 (.putfield 32) 47 := ⟨by decide +kernel, rfl⟩
theorem d_X0_init_47 : decAL cX0_init 47 0 48 := Or.inr ⟨0, rfl, by decide +kernel, rfl⟩
theorem d_X0_init_48 : decAL cX0_init 48 1 49 := Or.inr ⟨1, rfl, by decide +kernel, rfl⟩
theorem d_X0_init_49 : dec 3 cX0_init 49 (.putfield 36) 52 := ⟨by decide +kernel, rfl⟩
theorem d_X0_init_52 : decAL cX0_init 52 0 53 := Or.inr ⟨0, rfl, by decide +kernel, rfl⟩
theorem d_X0_init_53 : dec 3 cX0_init 53 (.getfield 15) 56 := ⟨by decide +kernel, rfl⟩
theorem d_X0_init_56 : dec 1 cX0_init 56 (.iconst (-1)) 57 := ⟨by decide +kernel, rfl⟩
theorem d_X0_init_57 : dec 3 cX0_init 57 (.invokestatic 40) 60 := ⟨by decide +kernel, rfl⟩
theorem d_X0_init_60 : dec 1 cX0_init 60 .return_ 61 := ⟨by decide +kernel, rfl⟩
def f_X0_init (F : Nat)  (v0 : Nat) (v1 : Nat) (n : Nat) (G : GH) : Option (Nat × GH) :=
  Option.bind (pV G v0 0 1 (.int (0 : Int32))) (fun (G1 : GH) =>
  Option.bind (pV (gset G1 n (.inl (0, 60, .inl (fun _ => 0)))) v0 0 2 (.ref n)) (fun (G2 : GH) =>
  Option.bind (pV (gset G2 (n + 1) (.inl (0, 12, .inl (fun _ => 0)))) v0 0 3 (.ref (n + 1))) (fun (G3 : GH) =>
  csU (f_X7_init F ((n + 1) + 1) (((n + 1) + 1) + 1) (gset G3 ((n + 1) + 1) (.inr (7, df_X7)))) (fun (n4 : Nat) (G5 : GH) =>
  Option.bind (pV G5 v0 0 4 (.ref ((n + 1) + 1))) (fun (G6 : GH) =>
  csU (f_X9_init F n4 (n4 + 1) (gset G6 n4 (.inr (9, df_X9)))) (fun (n7 : Nat) (G8 : GH) =>
  Option.bind (pV G8 v0 0 5 (.ref n4)) (fun (G9 : GH) =>
  Option.bind (pV G9 v0 0 0 (.ref v1)) (fun (G10 : GH) =>
  Option.bind (gR G10 v0 0 2) (fun (x11 : Nat) =>
  csU (f_J7_fill_53178 F x11 (-1 : Int32) n7 G10) (fun (n12 : Nat) (G13 : GH) =>
  some (n12, G13)))))))))))
set_option maxRecDepth 100000 in
set_option maxHeartbeats 4000000 in
theorem s_X0_init {E : GE} {F : Nat}  {v0 : Nat} {v1 : Nat} {n : Nat} {G : GH} {z : Nat × GH}  (h : f_X0_init F  v0 v1 n G = some z) : GM E yX0_init cX0_init 2 none 2 60 12 757 [.ref v0, .ref v1] n G (none, z.1, z.2) := by
  refine GM.of (by decide) (Nat.le_of_ble_eq_true rfl) ?_
  show WG E RX0 "<init>" cX0_init 2 none 2 60 12 757 0 [(0, .ref v0), (1, .ref v1)] [] n G (g_O E (none, z.1, z.2))
  unfold f_X0_init at h
  refine r_aload d_X0_init_0 rfl ?_
  refine r_obj d_X0_init_1 qol_X0_3 qoi qoc rfl rfl ?_
  refine r_aload d_X0_init_4 rfl ?_
  refine r_iconst d_X0_init_5 ic_0 ?_
  refine r_put h d_X0_init_6 pw_X0_9 rfl rfl (fun G1 h => ?_)
  refine r_aload d_X0_init_9 rfl ?_
  refine r_bipush d_X0_init_10 bp_60 ?_
  refine r_newaI (N := 60) d_X0_init_12 qa_int (by decide) (by decide) rfl rfl rfl ?_
  refine r_put h d_X0_init_14 pw_X0_15 rfl rfl (fun G2 h => ?_)
  refine r_aload d_X0_init_17 rfl ?_
  refine r_bipush d_X0_init_18 bp_12 ?_
  refine r_newaI (N := 12) d_X0_init_20 qa_int (by decide) (by decide) rfl rfl rfl ?_
  refine r_put h d_X0_init_22 pw_X0_19 rfl rfl (fun G3 h => ?_)
  refine r_aload d_X0_init_25 rfl ?_
  refine r_new d_X0_init_26 pn_X0_22 rfl rfl ?_
  refine r_dup d_X0_init_29 rfl ?_
  refine r_invN [] h (fun _ hq => s_X7_init hq) d_X0_init_30 pl_X0_24 py_X7_init pm_X7_init rfl rfl rfl rfl (fun n4 G5 h => ?_)
  refine r_put h d_X0_init_33 pw_X0_25 rfl rfl (fun G6 h => ?_)
  refine r_aload d_X0_init_36 rfl ?_
  refine r_new d_X0_init_37 pn_X0_29 rfl rfl ?_
  refine r_dup d_X0_init_40 rfl ?_
  refine r_invN [] h (fun _ hq => s_X9_init hq) d_X0_init_41 pl_X0_31 py_X9_init pm_X9_init rfl rfl rfl rfl (fun n7 G8 h => ?_)
  refine r_put h d_X0_init_44 pw_X0_32 rfl rfl (fun G9 h => ?_)
  refine r_aload d_X0_init_47 rfl ?_
  refine r_aload d_X0_init_48 rfl ?_
  refine r_put h d_X0_init_49 pw_X0_36 rfl rfl (fun G10 h => ?_)
  refine r_aload d_X0_init_52 rfl ?_
  refine r_getR h d_X0_init_53 pf_X0_15 (fun x11 h => ?_)
  refine r_iconst d_X0_init_56 ic_m1 ?_
  refine r_invSU [_, _] h (fun _ hq => s_J7_fill_53178 hq) d_X0_init_57 pl_X0_40 py_J7_fill_53178 ps_J7_fill_53178 rfl rfl rfl (fun n12 G13 h => ?_)
  exact r_vret h d_X0_init_60
/-! X0_reset -/
theorem pf_X0_19 : pF RX0 19 0 3 := ⟨RX0, TX0, 6, rfl, by decide, rfl, Or.inl (g_in 313 (by decide +kernel) rfl)⟩
theorem pf_X0_25 : pF RX0 25 0 4 := ⟨RX0, TX0, 6, rfl, by decide, rfl, Or.inl (g_in 316 (by decide +kernel) rfl)⟩
theorem pw_X0_46 {nm : String} : pW RX0 nm 46 7 0 .int := ⟨RX7, TX7, 7, rfl, by decide, rfl, Or.inr ⟨rfl, "PlugBoard", g_in 243 (by decide +kernel) rfl⟩, by decide +kernel⟩
theorem pf_X0_32 : pF RX0 32 0 5 := ⟨RX0, TX0, 6, rfl, by decide, rfl, Or.inl (g_in 319 (by decide +kernel) rfl)⟩
theorem py_X9_clear : pY yX9_clear cX9_clear 1 none 0 := ⟨g_in 665 (by decide +kernel) rfl, g_in 100 (by decide +kernel) rfl, by decide, by decide, by decide +kernel⟩
theorem pi_X9_clear : pI yX9_clear 9 := ⟨g_in 663 (by decide +kernel) rfl, g_in 664 (by decide +kernel) rfl, (RX9, TX9, 5), rfl, rfl⟩
theorem pl_X0_49 : pL RX0 49 yX9_clear := Or.inl (g_in 662 (by decide +kernel) rfl)
theorem d_X0_reset_0 : decAL cX0_reset 0 0 1 := Or.inr ⟨0, rfl, by decide +kernel, rfl⟩
theorem d_X0_reset_1 : decAL cX0_reset 1 1 2 := Or.inr ⟨1, rfl, by decide +kernel, rfl⟩
theorem d_X0_reset_2 : dec 3 cX0_reset 2 (.putfield 36) 5 := ⟨by decide +kernel, rfl⟩
theorem d_X0_reset_5 : decAL cX0_reset 5 0 6 := Or.inr ⟨0, rfl, by decide +kernel, rfl⟩
theorem d_X0_reset_6 : dec 1 cX0_reset 6 (.iconst 0) 7 := ⟨by decide +kernel, rfl⟩
theorem d_X0_reset_7 : dec 3 cX0_reset 7 (.putfield 9) 10 := ⟨by decide +kernel, rfl⟩
theorem d_X0_reset_10 : decAL cX0_reset 10 0 11 := Or.inr ⟨0, rfl, by decide +kernel, rfl⟩
theorem d_X0_reset_11 : dec 3 cX0_reset 11 (.getfield 15) 14 := ⟨by decide +kernel, rfl⟩
theorem d_X0_reset_14 : dec 1 cX0_reset 14 (.iconst (-1)) 15 := ⟨by decide +kernel, rfl⟩
theorem d_X0_reset_15 : dec 3 cX0_reset 15 (.invokestatic 40) 18 := ⟨by decide +kernel, rfl⟩
theorem d_X0_reset_18 : decAL cX0_reset 18 0 19 := Or.inr ⟨0, rfl, by decide +kernel, rfl⟩
theorem d_X0_reset_19 : dec 3 cX0_reset 19 (.getfield 19) 22 := ⟨by decide +kernel, rfl⟩
theorem d_X0_reset_22 : dec 1 cX0_reset 22 (.iconst 0) 23 := ⟨by decide +kernel, rfl⟩
theorem d_X0_reset_23 : dec 3 cX0_reset 23 (.invokestatic 40) 26 := ⟨by decide +kernel, rfl⟩
theorem d_X0_reset_26 : decAL cX0_reset 26 0 27 := Or.inr ⟨0, rfl, by decide +kernel, rfl⟩
theorem d_X0_reset_27 : dec 3 cX0_reset 27 (.getfield 25) 30 := ⟨by decide +kernel, rfl⟩
theorem d_X0_reset_30 : dec 1 cX0_reset 30 (.iconst 0) 31 := ⟨by decide +kernel, rfl⟩
theorem d_X0_reset_31 : dec 3 cX0_reset 31 (.putfield 46) 34 := ⟨by decide +kernel, rfl⟩
theorem d_X0_reset_34 : decAL cX0_reset 34 0 35 := Or.inr ⟨0, rfl, by decide +kernel, rfl⟩
theorem d_X0_reset_35 : dec 3 cX0_reset 35 (.getfield 32) 38 := ⟨by decide +kernel, rfl⟩
theorem d_X0_reset_38 : dec 3 cX0_reset 38 (.invokevirtual 49) 41 := ⟨by decide +kernel, rfl⟩
theorem d_X0_reset_41 : dec 1 cX0_reset 41 .return_ 42 := ⟨by decide +kernel, rfl⟩
def f_X0_reset (F : Nat)  (v0 : Nat) (v1 : Nat) (n : Nat) (G : GH) : Option (Nat × GH) :=
  Option.bind (pV G v0 0 0 (.ref v1)) (fun (G1 : GH) =>
  Option.bind (pV G1 v0 0 1 (.int (0 : Int32))) (fun (G2 : GH) =>
  Option.bind (gR G2 v0 0 2) (fun (x3 : Nat) =>
  csU (f_J7_fill_53178 F x3 (-1 : Int32) n G2) (fun (n4 : Nat) (G5 : GH) =>
  Option.bind (gR G5 v0 0 3) (fun (x6 : Nat) =>
  csU (f_J7_fill_53178 F x6 (0 : Int32) n4 G5) (fun (n7 : Nat) (G8 : GH) =>
  Option.bind (gR G8 v0 0 4) (fun (x9 : Nat) =>
  Option.bind (pV G8 x9 7 0 (.int (0 : Int32))) (fun (G10 : GH) =>
  Option.bind (gR G10 v0 0 5) (fun (x11 : Nat) =>
  cvU G10 x11 9 (f_X9_clear F x11 n7 G10) (fun (n12 : Nat) (G13 : GH) =>
  some (n12, G13)))))))))))
set_option maxRecDepth 100000 in
set_option maxHeartbeats 4000000 in
theorem s_X0_reset {E : GE} {F : Nat}  {v0 : Nat} {v1 : Nat} {n : Nat} {G : GH} {z : Nat × GH}  (h : f_X0_reset F  v0 v1 n G = some z) : GM E yX0_reset cX0_reset 2 none 1 23 0 0 [.ref v0, .ref v1] n G (none, z.1, z.2) := by
  refine GM.of (by decide) (Nat.le_of_ble_eq_true rfl) ?_
  show WG E RX0 "reset" cX0_reset 2 none 1 23 0 0 0 [(0, .ref v0), (1, .ref v1)] [] n G (g_O E (none, z.1, z.2))
  unfold f_X0_reset at h
  refine r_aload d_X0_reset_0 rfl ?_
  refine r_aload d_X0_reset_1 rfl ?_
  refine r_put h d_X0_reset_2 pw_X0_36 rfl rfl (fun G1 h => ?_)
  refine r_aload d_X0_reset_5 rfl ?_
  refine r_iconst d_X0_reset_6 ic_0 ?_
  refine r_put h d_X0_reset_7 pw_X0_9 rfl rfl (fun G2 h => ?_)
  refine r_aload d_X0_reset_10 rfl ?_
  refine r_getR h d_X0_reset_11 pf_X0_15 (fun x3 h => ?_)
  refine r_iconst d_X0_reset_14 ic_m1 ?_
  refine r_invSU [_, _] h (fun _ hq => s_J7_fill_53178 hq) d_X0_reset_15 pl_X0_40 py_J7_fill_53178 ps_J7_fill_53178 rfl rfl rfl (fun n4 G5 h => ?_)
  refine r_aload d_X0_reset_18 rfl ?_
  refine r_getR h d_X0_reset_19 pf_X0_19 (fun x6 h => ?_)
  refine r_iconst d_X0_reset_22 ic_0 ?_
  refine r_invSU [_, _] h (fun _ hq => s_J7_fill_53178 hq) d_X0_reset_23 pl_X0_40 py_J7_fill_53178 ps_J7_fill_53178 rfl rfl rfl (fun n7 G8 h => ?_)
  refine r_aload d_X0_reset_26 rfl ?_
  refine r_getR h d_X0_reset_27 pf_X0_25 (fun x9 h => ?_)
  refine r_iconst d_X0_reset_30 ic_0 ?_
  refine r_put h d_X0_reset_31 pw_X0_46 rfl rfl (fun G10 h => ?_)
  refine r_aload d_X0_reset_34 rfl ?_
  refine r_getR h d_X0_reset_35 pf_X0_32 (fun x11 h => ?_)
  refine r_invU [] h (fun _ hq => s_X9_clear hq) d_X0_reset_38 pl_X0_49 py_X9_clear pi_X9_clear rfl rfl rfl (fun n12 G13 h => ?_)
  exact r_vret h d_X0_reset_41
/-! X0_copyFrom -/
theorem pf_X0_36 : pF RX0 36 0 0 := ⟨RX0, TX0, 6, rfl, by decide, rfl, Or.inl (g_in 305 (by decide +kernel) rfl)⟩
theorem pf_X0_9 : pF RX0 9 0 1 := ⟨RX0, TX0, 6, rfl, by decide, rfl, Or.inl (g_in 309 (by decide +kernel) rfl)⟩
theorem qy_l_X0_52 : Cond.methodLink RX0 52 arraycopyName ∈ g_tbl := g_in 687 (by decide +kernel) rfl
theorem py_X7_copyFrom : pY yX7_copyFrom cX7_copyFrom 2 none 1 := ⟨g_in 693 (by decide +kernel) rfl, g_in 99 (by decide +kernel) rfl, by decide, by decide, by decide +kernel⟩
theorem pi_X7_copyFrom : pI yX7_copyFrom 7 := ⟨g_in 691 (by decide +kernel) rfl, g_in 692 (by decide +kernel) rfl, (RX7, TX7, 7), rfl, rfl⟩
theorem pl_X0_58 : pL RX0 58 yX7_copyFrom := Or.inl (g_in 690 (by decide +kernel) rfl)
theorem py_X9_copyFrom : pY yX9_copyFrom cX9_copyFrom 2 none 1 := ⟨g_in 698 (by decide +kernel) rfl, g_in 100 (by decide +kernel) rfl, by decide, by decide, by decide +kernel⟩
theorem pi_X9_copyFrom : pI yX9_copyFrom 9 := ⟨g_in 696 (by decide +kernel) rfl, g_in 697 (by decide +kernel) rfl, (RX9, TX9, 5), rfl, rfl⟩
theorem pl_X0_62 : pL RX0 62 yX9_copyFrom := Or.inl (g_in 695 (by decide +kernel) rfl)
theorem d_X0_copyFrom_0 : decAL cX0_copyFrom 0 0 1 := Or.inr ⟨0, rfl, by decide +kernel, rfl⟩
theorem d_X0_copyFrom_1 : decAL cX0_copyFrom 1 1 2 := Or.inr ⟨1, rfl, by decide +kernel, rfl⟩
theorem d_X0_copyFrom_2 : dec 3 cX0_copyFrom 2 (.getfield 36) 5 := ⟨by decide +kernel, rfl⟩
theorem d_X0_copyFrom_5 : dec 3 cX0_copyFrom 5 (.putfield 36) 8 := ⟨by decide +kernel, rfl⟩
theorem d_X0_copyFrom_8 : decAL cX0_copyFrom 8 0 9 := Or.inr ⟨0, rfl, by decide +kernel, rfl⟩
theorem d_X0_copyFrom_9 : decAL cX0_copyFrom 9 1 10 := Or.inr ⟨1, rfl, by decide +kernel, rfl⟩
theorem d_X0_copyFrom_10 : dec 3 cX0_copyFrom 10 (.getfield 9) 13 := ⟨by decide +kernel, rfl⟩
theorem d_X0_copyFrom_13 : dec 3 cX0_copyFrom 13 (.putfield 9) 16 := ⟨by decide +kernel, rfl⟩
theorem d_X0_copyFrom_16 : decAL cX0_copyFrom 16 1 17 := Or.inr ⟨1, rfl, by decide +kernel, rfl⟩
theorem d_X0_copyFrom_17 : dec 3 cX0_copyFrom 17 (.getfield 15) 20 := ⟨by decide +kernel, rfl⟩
theorem d_X0_copyFrom_20 : dec 1 cX0_copyFrom 20 (.iconst 0) 21 := ⟨by decide +kernel, rfl⟩
theorem d_X0_copyFrom_21 : decAL cX0_copyFrom 21 0 22 := Or.inr ⟨0, rfl, by decide +kernel, rfl⟩
theorem d_X0_copyFrom_22 : dec 3 cX0_copyFrom 22 (.getfield 15) 25 := ⟨by decide +kernel, rfl⟩
theorem d_X0_copyFrom_25 : dec 1 cX0_copyFrom 25 (.iconst 0) 26 := ⟨by decide +kernel, rfl⟩
theorem d_X0_copyFrom_26 : decAL cX0_copyFrom 26 0 27 := Or.inr ⟨0, rfl, by decide +kernel, rfl⟩
theorem d_X0_copyFrom_27 : dec 3 cX0_copyFrom 27 (.getfield 15) 30 := ⟨by decide +kernel, rfl⟩
theorem d_X0_copyFrom_30 : dec 1 cX0_copyFrom 30 .arraylength 31 := ⟨by decide +kernel, rfl⟩
theorem d_X0_copyFrom_31 : dec 3 cX0_copyFrom 31 (.invokestatic 52) 34 := ⟨by decide +kernel, rfl⟩
theorem d_X0_copyFrom_34 : decAL cX0_copyFrom 34 1 35 := Or.inr ⟨1, rfl, by decide +kernel, rfl⟩
theorem d_X0_copyFrom_35 : dec 3 cX0_copyFrom 35 (.getfield 19) 38 := ⟨by decide +kernel, rfl⟩
theorem d_X0_copyFrom_38 : dec 1 cX0_copyFrom 38 (.iconst 0) 39 := ⟨by decide +kernel, rfl⟩
theorem d_X0_copyFrom_39 : decAL cX0_copyFrom 39 0 40 := Or.inr ⟨0, rfl, by decide +kernel, rfl⟩
theorem d_X0_copyFrom_40 : dec 3 cX0_copyFrom 40 (.getfield 19) 43 := ⟨by decide +kernel, rfl⟩
theorem d_X0_copyFrom_43 : dec 1 cX0_copyFrom 43 (.iconst 0) 44 := ⟨by decide +kernel, rfl⟩
theorem d_X0_copyFrom_44 : dec 2 cX0_copyFrom 44 (.bipush 12) 46 := ⟨by decide +kernel, rfl⟩
theorem d_X0_copyFrom_46 : dec 3 cX0_copyFrom 46 (.invokestatic 52) 49 := ⟨by decide +kernel, rfl⟩
theorem d_X0_copyFrom_49 : decAL cX0_copyFrom 49 0 50 := Or.inr ⟨0, rfl, by decide +kernel, rfl⟩
theorem d_X0_copyFrom_50 : dec 3 cX0_copyFrom 50 (.getfield 25) 53 := ⟨by decide +kernel, rfl⟩
theorem d_X0_copyFrom_53 : decAL cX0_copyFrom 53 1 54 := Or.inr ⟨1, rfl, by decide +kernel, rfl⟩
theorem d_X0_copyFrom_54 : dec 3 cX0_copyFrom 54 (.getfield 25) 57 := ⟨by decide +kernel, rfl⟩
theorem d_X0_copyFrom_57 : dec 3 cX0_copyFrom 57 (.invokevirtual 58) 60 := ⟨by decide +kernel, rfl⟩
theorem d_X0_copyFrom_60 : decAL cX0_copyFrom 60 0 61 := Or.inr ⟨0, rfl, by decide +kernel, rfl⟩
theorem d_X0_copyFrom_61 : dec 3 cX0_copyFrom 61 (.getfield 32) 64 := ⟨by decide +kernel, rfl⟩
theorem d_X0_copyFrom_64 : decAL cX0_copyFrom 64 1 65 := Or.inr ⟨1, rfl, by decide +kernel, rfl⟩
theorem d_X0_copyFrom_65 : dec 3 cX0_copyFrom 65 (.getfield 32) 68 := ⟨by decide +kernel, rfl⟩
theorem d_X0_copyFrom_68 : dec 3 cX0_copyFrom 68 (.invokevirtual 62) 71 := ⟨by decide +kernel, rfl⟩
theorem d_X0_copyFrom_71 : dec 1 cX0_copyFrom 71 .return_ 72 := ⟨by decide +kernel, rfl⟩
def f_X0_copyFrom (F : Nat)  (v0 : Nat) (v1 : Nat) (n : Nat) (G : GH) : Option (Nat × GH) :=
  Option.bind (gR G v1 0 0) (fun (x1 : Nat) =>
  Option.bind (pV G v0 0 0 (.ref x1)) (fun (G2 : GH) =>
  Option.bind (gI G2 v1 0 1) (fun (x3 : Int32) =>
  Option.bind (pV G2 v0 0 1 (.int x3)) (fun (G4 : GH) =>
  Option.bind (gR G4 v1 0 2) (fun (x5 : Nat) =>
  Option.bind (gR G4 v0 0 2) (fun (x6 : Nat) =>
  Option.bind (gR G4 v0 0 2) (fun (x7 : Nat) =>
  Option.bind (aL G4 x7) (fun (x8 : Int32) =>
  Option.bind (aC G4 0 x5 (0 : Int32) x6 (0 : Int32) x8) (fun (G9 : GH) =>
  Option.bind (gR G9 v1 0 3) (fun (x10 : Nat) =>
  Option.bind (gR G9 v0 0 3) (fun (x11 : Nat) =>
  Option.bind (aC G9 0 x10 (0 : Int32) x11 (0 : Int32) (12 : Int32)) (fun (G12 : GH) =>
  Option.bind (gR G12 v0 0 4) (fun (x13 : Nat) =>
  Option.bind (gR G12 v1 0 4) (fun (x14 : Nat) =>
  cvU G12 x13 7 (f_X7_copyFrom F x13 x14 n G12) (fun (n15 : Nat) (G16 : GH) =>
  Option.bind (gR G16 v0 0 5) (fun (x17 : Nat) =>
  Option.bind (gR G16 v1 0 5) (fun (x18 : Nat) =>
  cvU G16 x17 9 (f_X9_copyFrom F x17 x18 n15 G16) (fun (n19 : Nat) (G20 : GH) =>
  some (n19, G20)))))))))))))))))))
set_option maxRecDepth 100000 in
set_option maxHeartbeats 4000000 in
theorem s_X0_copyFrom {E : GE} {F : Nat}  {v0 : Nat} {v1 : Nat} {n : Nat} {G : GH} {z : Nat × GH}  (h : f_X0_copyFrom F  v0 v1 n G = some z) : GM E yX0_copyFrom cX0_copyFrom 2 none 2 61 0 0 [.ref v0, .ref v1] n G (none, z.1, z.2) := by
  refine GM.of (by decide) (Nat.le_of_ble_eq_true rfl) ?_
  show WG E RX0 "copyFrom" cX0_copyFrom 2 none 2 61 0 0 0 [(0, .ref v0), (1, .ref v1)] [] n G (g_O E (none, z.1, z.2))
  unfold f_X0_copyFrom at h
  refine r_aload d_X0_copyFrom_0 rfl ?_
  refine r_aload d_X0_copyFrom_1 rfl ?_
  refine r_getR h d_X0_copyFrom_2 pf_X0_36 (fun x1 h => ?_)
  refine r_put h d_X0_copyFrom_5 pw_X0_36 rfl rfl (fun G2 h => ?_)
  refine r_aload d_X0_copyFrom_8 rfl ?_
  refine r_aload d_X0_copyFrom_9 rfl ?_
  refine r_getI h d_X0_copyFrom_10 pf_X0_9 (fun x3 h => ?_)
  refine r_put h d_X0_copyFrom_13 pw_X0_9 rfl rfl (fun G4 h => ?_)
  refine r_aload d_X0_copyFrom_16 rfl ?_
  refine r_getR h d_X0_copyFrom_17 pf_X0_15 (fun x5 h => ?_)
  refine r_iconst d_X0_copyFrom_20 ic_0 ?_
  refine r_aload d_X0_copyFrom_21 rfl ?_
  refine r_getR h d_X0_copyFrom_22 pf_X0_15 (fun x6 h => ?_)
  refine r_iconst d_X0_copyFrom_25 ic_0 ?_
  refine r_aload d_X0_copyFrom_26 rfl ?_
  refine r_getR h d_X0_copyFrom_27 pf_X0_15 (fun x7 h => ?_)
  refine r_alen h d_X0_copyFrom_30 (fun x8 h => ?_)
  refine r_acopy h d_X0_copyFrom_31 qy_l_X0_52 qy_n qy_s qy_i rfl rfl (fun G9 h => ?_)
  refine r_aload d_X0_copyFrom_34 rfl ?_
  refine r_getR h d_X0_copyFrom_35 pf_X0_19 (fun x10 h => ?_)
  refine r_iconst d_X0_copyFrom_38 ic_0 ?_
  refine r_aload d_X0_copyFrom_39 rfl ?_
  refine r_getR h d_X0_copyFrom_40 pf_X0_19 (fun x11 h => ?_)
  refine r_iconst d_X0_copyFrom_43 ic_0 ?_
  refine r_bipush d_X0_copyFrom_44 bp_12 ?_
  refine r_acopy h d_X0_copyFrom_46 qy_l_X0_52 qy_n qy_s qy_i rfl rfl (fun G12 h => ?_)
  refine r_aload d_X0_copyFrom_49 rfl ?_
  refine r_getR h d_X0_copyFrom_50 pf_X0_25 (fun x13 h => ?_)
  refine r_aload d_X0_copyFrom_53 rfl ?_
  refine r_getR h d_X0_copyFrom_54 pf_X0_25 (fun x14 h => ?_)
  refine r_invU [_] h (fun _ hq => s_X7_copyFrom hq) d_X0_copyFrom_57 pl_X0_58 py_X7_copyFrom pi_X7_copyFrom rfl rfl rfl (fun n15 G16 h => ?_)
  refine r_aload d_X0_copyFrom_60 rfl ?_
  refine r_getR h d_X0_copyFrom_61 pf_X0_32 (fun x17 h => ?_)
  refine r_aload d_X0_copyFrom_64 rfl ?_
  refine r_getR h d_X0_copyFrom_65 pf_X0_32 (fun x18 h => ?_)
  refine r_invU [_] h (fun _ hq => s_X9_copyFrom hq) d_X0_copyFrom_68 pl_X0_62 py_X9_copyFrom pi_X9_copyFrom rfl rfl rfl (fun n19 G20 h => ?_)
  exact r_vret h d_X0_copyFrom_71
/-! X0_setStandIn -/
theorem d_X0_setStandIn_0 : decAL cX0_setStandIn 0 0 1 := Or.inr ⟨0, rfl, by decide +kernel, rfl⟩
theorem d_X0_setStandIn_1 : dec 3 cX0_setStandIn 1 (.getfield 15) 4 := ⟨by decide +kernel, rfl⟩
theorem d_X0_setStandIn_4 : decAL cX0_setStandIn 4 0 5 := Or.inr ⟨0, rfl, by decide +kernel, rfl⟩
theorem d_X0_setStandIn_5 : dec 3 cX0_setStandIn 5 (.getfield 9) 8 := ⟨by decide +kernel, rfl⟩
theorem d_X0_setStandIn_8 : dec 2 cX0_setStandIn 8 (.bipush 12) 10 := ⟨by decide +kernel, rfl⟩
theorem d_X0_setStandIn_10 : dec 1 cX0_setStandIn 10 .imul 11 := ⟨by decide +kernel, rfl⟩
theorem d_X0_setStandIn_11 : decIL cX0_setStandIn 11 1 12 := Or.inr ⟨1, rfl, by decide +kernel, rfl⟩
theorem d_X0_setStandIn_12 : dec 1 cX0_setStandIn 12 .iadd 13 := ⟨by decide +kernel, rfl⟩
theorem d_X0_setStandIn_13 : decIL cX0_setStandIn 13 2 14 := Or.inr ⟨2, rfl, by decide +kernel, rfl⟩
theorem d_X0_setStandIn_14 : dec 1 cX0_setStandIn 14 .iastore 15 := ⟨by decide +kernel, rfl⟩
theorem d_X0_setStandIn_15 : dec 1 cX0_setStandIn 15 .return_ 16 := ⟨by decide +kernel, rfl⟩
def f_X0_setStandIn (F : Nat)  (v0 : Nat) (v1 : Int32) (v2 : Int32) (n : Nat) (G : GH) : Option (Nat × GH) :=
  Option.bind (gR G v0 0 2) (fun (x1 : Nat) =>
  Option.bind (gI G v0 0 1) (fun (x2 : Int32) =>
  Option.bind (aS G x1 0 ((x2 * (12 : Int32)) + v1) v2) (fun (G3 : GH) =>
  some (n, G3))))
set_option maxRecDepth 100000 in
set_option maxHeartbeats 4000000 in
theorem s_X0_setStandIn {E : GE} {F : Nat}  {v0 : Nat} {v1 : Int32} {v2 : Int32} {n : Nat} {G : GH} {z : Nat × GH}  (h : f_X0_setStandIn F  v0 v1 v2 n G = some z) : GM E yX0_setStandIn cX0_setStandIn 3 none 0 0 0 0 [.ref v0, .int v1, .int v2] n G (none, z.1, z.2) := by
  refine GM.of (by decide) (Nat.le_of_ble_eq_true rfl) ?_
  show WG E RX0 "setStandIn" cX0_setStandIn 3 none 0 0 0 0 0 [(0, .ref v0), (1, .int v1), (2, .int v2)] [] n G (g_O E (none, z.1, z.2))
  unfold f_X0_setStandIn at h
  refine r_aload d_X0_setStandIn_0 rfl ?_
  refine r_getR h d_X0_setStandIn_1 pf_X0_15 (fun x1 h => ?_)
  refine r_aload d_X0_setStandIn_4 rfl ?_
  refine r_getI h d_X0_setStandIn_5 pf_X0_9 (fun x2 h => ?_)
  refine r_bipush d_X0_setStandIn_8 bp_12 ?_
  refine r_imul d_X0_setStandIn_10 ?_
  refine r_iload d_X0_setStandIn_11 rfl ?_
  refine r_iadd d_X0_setStandIn_12 ?_
  refine r_iload d_X0_setStandIn_13 rfl ?_
  refine r_iast h d_X0_setStandIn_14 (fun G3 h => ?_)
  exact r_vret h d_X0_setStandIn_15
/-! X0_leaveScope -/
theorem py_X9_tellEnded : pY yX9_tellEnded cX9_tellEnded 4 none 2 := ⟨g_in 712 (by decide +kernel) rfl, g_in 100 (by decide +kernel) rfl, by decide, by decide, by decide +kernel⟩
theorem pi_X9_tellEnded : pI yX9_tellEnded 9 := ⟨g_in 710 (by decide +kernel) rfl, g_in 711 (by decide +kernel) rfl, (RX9, TX9, 5), rfl, rfl⟩
theorem pl_X0_65 : pL RX0 65 yX9_tellEnded := Or.inl (g_in 709 (by decide +kernel) rfl)
theorem py_X7_removeScope : pY yX7_removeScope cX7_removeScope 4 none 1 := ⟨g_in 716 (by decide +kernel) rfl, g_in 99 (by decide +kernel) rfl, by decide, by decide, by decide +kernel⟩
theorem pi_X7_removeScope : pI yX7_removeScope 7 := ⟨g_in 714 (by decide +kernel) rfl, g_in 715 (by decide +kernel) rfl, (RX7, TX7, 7), rfl, rfl⟩
theorem pl_X0_69 : pL RX0 69 yX7_removeScope := Or.inl (g_in 713 (by decide +kernel) rfl)
theorem pf_X0_77 : pF RX0 77 9 3 := ⟨RX9, TX9, 5, rfl, by decide, rfl, Or.inr ⟨"PlugBoard", g_in 289 (by decide +kernel) rfl⟩⟩
theorem py_X0_setStandIn : pY yX0_setStandIn cX0_setStandIn 3 none 2 := ⟨g_in 728 (by decide +kernel) rfl, g_in 98 (by decide +kernel) rfl, by decide, by decide, by decide +kernel⟩
theorem pi_X0_setStandIn : pI yX0_setStandIn 0 := ⟨g_in 726 (by decide +kernel) rfl, g_in 727 (by decide +kernel) rfl, (RX0, TX0, 6), rfl, rfl⟩
theorem pl_X0_73 : pL RX0 73 yX0_setStandIn := Or.inl (g_in 725 (by decide +kernel) rfl)
theorem d_X0_leaveScope_0 : decAL cX0_leaveScope 0 0 1 := Or.inr ⟨0, rfl, by decide +kernel, rfl⟩
theorem d_X0_leaveScope_1 : dec 3 cX0_leaveScope 1 (.getfield 32) 4 := ⟨by decide +kernel, rfl⟩
theorem d_X0_leaveScope_4 : decAL cX0_leaveScope 4 0 5 := Or.inr ⟨0, rfl, by decide +kernel, rfl⟩
theorem d_X0_leaveScope_5 : dec 3 cX0_leaveScope 5 (.getfield 25) 8 := ⟨by decide +kernel, rfl⟩
theorem d_X0_leaveScope_8 : decAL cX0_leaveScope 8 0 9 := Or.inr ⟨0, rfl, by decide +kernel, rfl⟩
theorem d_X0_leaveScope_9 : dec 3 cX0_leaveScope 9 (.getfield 9) 12 := ⟨by decide +kernel, rfl⟩
theorem d_X0_leaveScope_12 : dec 3 cX0_leaveScope 12 (.invokevirtual 65) 15 := ⟨by decide +kernel, rfl⟩
theorem d_X0_leaveScope_15 : decAL cX0_leaveScope 15 0 16 := Or.inr ⟨0, rfl, by decide +kernel, rfl⟩
theorem d_X0_leaveScope_16 : dec 3 cX0_leaveScope 16 (.getfield 25) 19 := ⟨by decide +kernel, rfl⟩
theorem d_X0_leaveScope_19 : decAL cX0_leaveScope 19 0 20 := Or.inr ⟨0, rfl, by decide +kernel, rfl⟩
theorem d_X0_leaveScope_20 : dec 3 cX0_leaveScope 20 (.getfield 9) 23 := ⟨by decide +kernel, rfl⟩
theorem d_X0_leaveScope_23 : dec 3 cX0_leaveScope 23 (.invokevirtual 69) 26 := ⟨by decide +kernel, rfl⟩
theorem d_X0_leaveScope_26 : dec 1 cX0_leaveScope 26 (.iconst 0) 27 := ⟨by decide +kernel, rfl⟩
theorem d_X0_leaveScope_27 : decIS cX0_leaveScope 27 1 28 := Or.inr ⟨1, rfl, by decide +kernel, rfl⟩
theorem d_X0_leaveScope_28 : decIL cX0_leaveScope 28 1 29 := Or.inr ⟨1, rfl, by decide +kernel, rfl⟩
theorem d_X0_leaveScope_29 : dec 2 cX0_leaveScope 29 (.bipush 12) 31 := ⟨by decide +kernel, rfl⟩
theorem d_X0_leaveScope_31 : decB cX0_leaveScope 31 (.if_icmp .ge 15) (15) 34 46 := ⟨by decide +kernel, rfl, by decide⟩
theorem d_X0_leaveScope_34 : decAL cX0_leaveScope 34 0 35 := Or.inr ⟨0, rfl, by decide +kernel, rfl⟩
theorem d_X0_leaveScope_35 : decIL cX0_leaveScope 35 1 36 := Or.inr ⟨1, rfl, by decide +kernel, rfl⟩
theorem d_X0_leaveScope_36 : dec 1 cX0_leaveScope 36 (.iconst (-1)) 37 := ⟨by decide +kernel, rfl⟩
theorem d_X0_leaveScope_37 : dec 3 cX0_leaveScope 37 (.invokevirtual 73) 40 := ⟨by decide +kernel, rfl⟩
theorem d_X0_leaveScope_40 : dec 3 cX0_leaveScope 40 (.iinc 1 1) 43 := ⟨by decide +kernel, rfl⟩
theorem d_X0_leaveScope_43 : decB cX0_leaveScope 43 (.goto (-15)) (-15) 46 28 := ⟨by decide +kernel, rfl, by decide⟩
theorem d_X0_leaveScope_46 : decAL cX0_leaveScope 46 0 47 := Or.inr ⟨0, rfl, by decide +kernel, rfl⟩
theorem d_X0_leaveScope_47 : dec 3 cX0_leaveScope 47 (.getfield 9) 50 := ⟨by decide +kernel, rfl⟩
theorem d_X0_leaveScope_50 : decB cX0_leaveScope 50 (.ifCond .le 13) (13) 53 63 := ⟨by decide +kernel, rfl, by decide⟩
theorem d_X0_leaveScope_53 : decAL cX0_leaveScope 53 0 54 := Or.inr ⟨0, rfl, by decide +kernel, rfl⟩
theorem d_X0_leaveScope_54 : dec 1 cX0_leaveScope 54 .dup 55 := ⟨by decide +kernel, rfl⟩
theorem d_X0_leaveScope_55 : dec 3 cX0_leaveScope 55 (.getfield 9) 58 := ⟨by decide +kernel, rfl⟩
theorem d_X0_leaveScope_58 : dec 1 cX0_leaveScope 58 (.iconst 1) 59 := ⟨by decide +kernel, rfl⟩
theorem d_X0_leaveScope_59 : dec 1 cX0_leaveScope 59 .isub 60 := ⟨by decide +kernel, rfl⟩
theorem d_X0_leaveScope_60 : dec 3 cX0_leaveScope 60 (.putfield 9) 63 := ⟨by decide +kernel, rfl⟩
theorem d_X0_leaveScope_63 : decAL cX0_leaveScope 63 0 64 := Or.inr ⟨0, rfl, by decide +kernel, rfl⟩
theorem d_X0_leaveScope_64 : dec 3 cX0_leaveScope 64 (.getfield 32) 67 := ⟨by decide +kernel, rfl⟩
theorem d_X0_leaveScope_67 : dec 3 cX0_leaveScope 67 (.getfield 77) 70 := ⟨by decide +kernel, rfl⟩
theorem d_X0_leaveScope_70 : dec 1 cX0_leaveScope 70 .ireturn 71 := ⟨by decide +kernel, rfl⟩
def k_X0_leaveScope_46 (F : Nat)   (v0 : Nat)  (n : Nat) (G : GH) : Option (Int32 × Nat × GH) :=
  Option.bind (gI G v0 0 1) (fun (x10 : Int32) =>
  if x10 ≤ 0 then
  (Option.bind (gR G v0 0 5) (fun (x11 : Nat) =>
  Option.bind (gI G x11 9 3) (fun (x12 : Int32) =>
  some (x12, n, G))))
  else (Option.bind (gI G v0 0 1) (fun (x13 : Int32) =>
  Option.bind (pV G v0 0 1 (.int (x13 - (1 : Int32)))) (fun (G14 : GH) =>
  Option.bind (gR G14 v0 0 5) (fun (x15 : Nat) =>
  Option.bind (gI G14 x15 9 3) (fun (x16 : Int32) =>
  some (x16, n, G14)))))))
def b_X0_leaveScope_28 (F : Nat)   (v0 : Nat) (rec28 : Int32 → Nat → GH → Option (Int32 × Nat × GH)) : Int32 → Nat → GH → Option (Int32 × Nat × GH) := fun v1 n G =>
  if (12 : Int32) ≤ v1 then
  (k_X0_leaveScope_46 F   v0 n G)
  else (cvU G v0 0 (f_X0_setStandIn F v0 v1 (-1 : Int32) n G) (fun (n17 : Nat) (G18 : GH) =>
  rec28 (v1 + 1) n17 G18))
def f_X0_leaveScope (F : Nat)  (v0 : Nat) (n : Nat) (G : GH) : Option (Int32 × Nat × GH) :=
  Option.bind (gR G v0 0 5) (fun (x1 : Nat) =>
  Option.bind (gR G v0 0 4) (fun (x2 : Nat) =>
  Option.bind (gI G v0 0 1) (fun (x3 : Int32) =>
  cvU G x1 9 (f_X9_tellEnded F x1 x2 x3 n G) (fun (n4 : Nat) (G5 : GH) =>
  Option.bind (gR G5 v0 0 4) (fun (x6 : Nat) =>
  Option.bind (gI G5 v0 0 1) (fun (x7 : Int32) =>
  cvU G5 x6 7 (f_X7_removeScope F x6 x7 n4 G5) (fun (n8 : Nat) (G9 : GH) =>
  fixN (fun _ _ _ => none) (b_X0_leaveScope_28 F   v0) F (0 : Int32) n8 G9)))))))
set_option maxRecDepth 100000 in
set_option maxHeartbeats 4000000 in
theorem c_X0_leaveScope_46 {E : GE} {F : Nat}   {v0 : Nat}  {n : Nat} {G : GH} {z : Int32 × Nat × GH}   (h : k_X0_leaveScope_46 F   v0  n G = some z) : WG E RX0 "leaveScope" cX0_leaveScope 2 (some .int) 3 68 0 0 46 [(0, .ref v0)] [] n G (g_O E (some (.int z.1), z.2.1, z.2.2)) := by
  unfold k_X0_leaveScope_46 at h
  refine r_aload d_X0_leaveScope_46 rfl ?_
  refine r_getI h d_X0_leaveScope_47 pf_X0_9 (fun x10 h => ?_)
  refine r_if_le h d_X0_leaveScope_50 (fun h => ?_) (fun h => ?_)
  · refine r_aload d_X0_leaveScope_63 rfl ?_
    refine r_getR h d_X0_leaveScope_64 pf_X0_32 (fun x11 h => ?_)
    refine r_getI h d_X0_leaveScope_67 pf_X0_77 (fun x12 h => ?_)
    exact r_iret h d_X0_leaveScope_70
  · refine r_aload d_X0_leaveScope_53 rfl ?_
    refine r_dup d_X0_leaveScope_54 rfl ?_
    refine r_getI h d_X0_leaveScope_55 pf_X0_9 (fun x13 h => ?_)
    refine r_iconst d_X0_leaveScope_58 ic_1 ?_
    refine r_isub d_X0_leaveScope_59 ?_
    refine r_put h d_X0_leaveScope_60 pw_X0_9 rfl rfl (fun G14 h => ?_)
    refine r_aload d_X0_leaveScope_63 rfl ?_
    refine r_getR h d_X0_leaveScope_64 pf_X0_32 (fun x15 h => ?_)
    refine r_getI h d_X0_leaveScope_67 pf_X0_77 (fun x16 h => ?_)
    exact r_iret h d_X0_leaveScope_70
set_option maxRecDepth 100000 in
set_option maxHeartbeats 4000000 in
theorem l_X0_leaveScope_28 {E : GE} {F : Nat}   {v0 : Nat}   : ∀ (K : Nat) (v1 : Int32) (n : Nat) (G : GH) (z : Int32 × Nat × GH), fixN ((fun _ _ _ => none) : Int32 → Nat → GH → Option (Int32 × Nat × GH)) (b_X0_leaveScope_28 F   v0) K v1 n G = some z → WG E RX0 "leaveScope" cX0_leaveScope 2 (some .int) 3 68 0 0 28 [(0, .ref v0), (1, .int v1)] [] n G (g_O E (some (.int z.1), z.2.1, z.2.2)) := by
  intro K
  refine fixN_ind (P := fun (r : Int32 → Nat → GH → Option (Int32 × Nat × GH)) => ∀ (v1 : Int32) (n : Nat) (G : GH) (z : Int32 × Nat × GH), r v1 n G = some z → WG E RX0 "leaveScope" cX0_leaveScope 2 (some .int) 3 68 0 0 28 [(0, .ref v0), (1, .int v1)] [] n G (g_O E (some (.int z.1), z.2.1, z.2.2))) ?_ ?_ K
  · intro v1 n G z h
    cases h
  · intro rec28 hrec28 v1 n G z h
    unfold b_X0_leaveScope_28 at h
    refine r_iload d_X0_leaveScope_28 rfl ?_
    refine r_bipush d_X0_leaveScope_29 bp_12 ?_
    refine r_icmp_ge h d_X0_leaveScope_31 (fun h => ?_) (fun h => ?_)
    · refine r_lv [(0, .ref v0)] (g_allc rfl g_alln) ?_
      exact c_X0_leaveScope_46   h
    · refine r_aload d_X0_leaveScope_34 rfl ?_
      refine r_iload d_X0_leaveScope_35 rfl ?_
      refine r_iconst d_X0_leaveScope_36 ic_m1 ?_
      refine r_invU [_, _] h (fun _ hq => s_X0_setStandIn hq) d_X0_leaveScope_37 pl_X0_73 py_X0_setStandIn pi_X0_setStandIn rfl rfl rfl (fun n17 G18 h => ?_)
      refine r_iinc d_X0_leaveScope_40 rfl (ii_1 _) rfl rfl ?_
      refine r_goto d_X0_leaveScope_43 ?_
      refine r_lv [(0, .ref v0), (1, .int (v1 + 1))] (g_allc rfl (g_allc rfl g_alln)) ?_
      exact hrec28 _ _ _ _ h
set_option maxRecDepth 100000 in
set_option maxHeartbeats 4000000 in
theorem s_X0_leaveScope {E : GE} {F : Nat}  {v0 : Nat} {n : Nat} {G : GH} {z : Int32 × Nat × GH}  (h : f_X0_leaveScope F  v0 n G = some z) : GM E yX0_leaveScope cX0_leaveScope 2 (some .int) 3 68 0 0 [.ref v0] n G (some (.int z.1), z.2.1, z.2.2) := by
  refine GM.of (by decide) (Nat.le_of_ble_eq_true rfl) ?_
  show WG E RX0 "leaveScope" cX0_leaveScope 2 (some .int) 3 68 0 0 0 [(0, .ref v0)] [] n G (g_O E (some (.int z.1), z.2.1, z.2.2))
  unfold f_X0_leaveScope at h
  refine r_aload d_X0_leaveScope_0 rfl ?_
  refine r_getR h d_X0_leaveScope_1 pf_X0_32 (fun x1 h => ?_)
  refine r_aload d_X0_leaveScope_4 rfl ?_
  refine r_getR h d_X0_leaveScope_5 pf_X0_25 (fun x2 h => ?_)
  refine r_aload d_X0_leaveScope_8 rfl ?_
  refine r_getI h d_X0_leaveScope_9 pf_X0_9 (fun x3 h => ?_)
  refine r_invU [_, _] h (fun _ hq => s_X9_tellEnded hq) d_X0_leaveScope_12 pl_X0_65 py_X9_tellEnded pi_X9_tellEnded rfl rfl rfl (fun n4 G5 h => ?_)
  refine r_aload d_X0_leaveScope_15 rfl ?_
  refine r_getR h d_X0_leaveScope_16 pf_X0_25 (fun x6 h => ?_)
  refine r_aload d_X0_leaveScope_19 rfl ?_
  refine r_getI h d_X0_leaveScope_20 pf_X0_9 (fun x7 h => ?_)
  refine r_invU [_] h (fun _ hq => s_X7_removeScope hq) d_X0_leaveScope_23 pl_X0_69 py_X7_removeScope pi_X7_removeScope rfl rfl rfl (fun n8 G9 h => ?_)
  refine r_iconst d_X0_leaveScope_26 ic_0 ?_
  refine r_istore d_X0_leaveScope_27 rfl rfl ?_
  refine r_lv [(0, .ref v0), (1, .int (0 : Int32))] (g_allc rfl (g_allc rfl g_alln)) ?_
  exact l_X0_leaveScope_28   _ _ _ _ _ h
/-! X0_standInAt -/
theorem d_X0_standInAt_0 : decAL cX0_standInAt 0 0 1 := Or.inr ⟨0, rfl, by decide +kernel, rfl⟩
theorem d_X0_standInAt_1 : dec 3 cX0_standInAt 1 (.getfield 15) 4 := ⟨by decide +kernel, rfl⟩
theorem d_X0_standInAt_4 : decIL cX0_standInAt 4 2 5 := Or.inr ⟨2, rfl, by decide +kernel, rfl⟩
theorem d_X0_standInAt_5 : dec 2 cX0_standInAt 5 (.bipush 12) 7 := ⟨by decide +kernel, rfl⟩
theorem d_X0_standInAt_7 : dec 1 cX0_standInAt 7 .imul 8 := ⟨by decide +kernel, rfl⟩
theorem d_X0_standInAt_8 : decIL cX0_standInAt 8 1 9 := Or.inr ⟨1, rfl, by decide +kernel, rfl⟩
theorem d_X0_standInAt_9 : dec 1 cX0_standInAt 9 .iadd 10 := ⟨by decide +kernel, rfl⟩
theorem d_X0_standInAt_10 : dec 1 cX0_standInAt 10 .iaload 11 := ⟨by decide +kernel, rfl⟩
theorem d_X0_standInAt_11 : dec 1 cX0_standInAt 11 .ireturn 12 := ⟨by decide +kernel, rfl⟩
def f_X0_standInAt (F : Nat)  (v0 : Nat) (v1 : Int32) (v2 : Int32) (G : GH) : Option (Int32) :=
  Option.bind (gR G v0 0 2) (fun (x1 : Nat) =>
  Option.bind (aI G x1 0 ((v2 * (12 : Int32)) + v1)) (fun (x2 : Int32) =>
  some x2))
set_option maxRecDepth 100000 in
set_option maxHeartbeats 4000000 in
theorem s_X0_standInAt {E : GE} {F : Nat}  {v0 : Nat} {v1 : Int32} {v2 : Int32} {n : Nat} {G : GH} {z : Int32}  (h : f_X0_standInAt F  v0 v1 v2 G = some z) : GM E yX0_standInAt cX0_standInAt 3 (some .int) 0 0 0 0 [.ref v0, .int v1, .int v2] n G (some (.int z), n, G) := by
  refine GM.of (by decide) (Nat.le_of_ble_eq_true rfl) ?_
  show WG E RX0 "standInAt" cX0_standInAt 3 (some .int) 0 0 0 0 0 [(0, .ref v0), (1, .int v1), (2, .int v2)] [] n G (g_O E (some (.int z), n, G))
  unfold f_X0_standInAt at h
  refine r_aload d_X0_standInAt_0 rfl ?_
  refine r_getR h d_X0_standInAt_1 pf_X0_15 (fun x1 h => ?_)
  refine r_iload d_X0_standInAt_4 rfl ?_
  refine r_bipush d_X0_standInAt_5 bp_12 ?_
  refine r_imul d_X0_standInAt_7 ?_
  refine r_iload d_X0_standInAt_8 rfl ?_
  refine r_iadd d_X0_standInAt_9 ?_
  refine r_iald h d_X0_standInAt_10 (fun x2 h => ?_)
  exact r_pret h d_X0_standInAt_11
/-! X0_resolve -/
theorem py_X0_standInAt : pY yX0_standInAt cX0_standInAt 3 (some .int) 2 := ⟨g_in 740 (by decide +kernel) rfl, g_in 98 (by decide +kernel) rfl, by decide, by decide, by decide +kernel⟩
theorem pi_X0_standInAt : pI yX0_standInAt 0 := ⟨g_in 738 (by decide +kernel) rfl, g_in 739 (by decide +kernel) rfl, (RX0, TX0, 6), rfl, rfl⟩
theorem pl_X0_80 : pL RX0 80 yX0_standInAt := Or.inl (g_in 762 (by decide +kernel) rfl)
theorem d_X0_resolve_0 : decIL cX0_resolve 0 2 1 := Or.inr ⟨2, rfl, by decide +kernel, rfl⟩
theorem d_X0_resolve_1 : decIS cX0_resolve 1 3 2 := Or.inr ⟨3, rfl, by decide +kernel, rfl⟩
theorem d_X0_resolve_2 : decIL cX0_resolve 2 3 3 := Or.inr ⟨3, rfl, by decide +kernel, rfl⟩
theorem d_X0_resolve_3 : decB cX0_resolve 3 (.ifCond .lt 26) (26) 6 29 := ⟨by decide +kernel, rfl, by decide⟩
theorem d_X0_resolve_6 : decAL cX0_resolve 6 0 7 := Or.inr ⟨0, rfl, by decide +kernel, rfl⟩
theorem d_X0_resolve_7 : decIL cX0_resolve 7 1 8 := Or.inr ⟨1, rfl, by decide +kernel, rfl⟩
theorem d_X0_resolve_8 : decIL cX0_resolve 8 3 9 := Or.inr ⟨3, rfl, by decide +kernel, rfl⟩
theorem d_X0_resolve_9 : dec 3 cX0_resolve 9 (.invokevirtual 80) 12 := ⟨by decide +kernel, rfl⟩
theorem d_X0_resolve_12 : decIS cX0_resolve 12 4 14 := Or.inl ⟨by decide +kernel, rfl⟩
theorem d_X0_resolve_14 : decIL cX0_resolve 14 4 16 := Or.inl ⟨by decide +kernel, rfl⟩
theorem d_X0_resolve_16 : dec 1 cX0_resolve 16 (.iconst (-1)) 17 := ⟨by decide +kernel, rfl⟩
theorem d_X0_resolve_17 : decB cX0_resolve 17 (.if_icmp .eq 6) (6) 20 23 := ⟨by decide +kernel, rfl, by decide⟩
theorem d_X0_resolve_20 : decIL cX0_resolve 20 4 22 := Or.inl ⟨by decide +kernel, rfl⟩
theorem d_X0_resolve_22 : dec 1 cX0_resolve 22 .ireturn 23 := ⟨by decide +kernel, rfl⟩
theorem d_X0_resolve_23 : dec 3 cX0_resolve 23 (.iinc 3 (-1)) 26 := ⟨by decide +kernel, rfl⟩
theorem d_X0_resolve_26 : decB cX0_resolve 26 (.goto (-24)) (-24) 29 2 := ⟨by decide +kernel, rfl, by decide⟩
theorem d_X0_resolve_29 : decIL cX0_resolve 29 1 30 := Or.inr ⟨1, rfl, by decide +kernel, rfl⟩
theorem d_X0_resolve_30 : dec 1 cX0_resolve 30 .ireturn 31 := ⟨by decide +kernel, rfl⟩
def b_X0_resolve_2 (F : Nat)   (v0 : Nat) (v1 : Int32) (G : GH) (rec2 : Int32 → Option (Int32)) : Int32 → Option (Int32) := fun v3 =>
  if v3 < 0 then
  (some v1)
  else (cvP G v0 0 (f_X0_standInAt F v0 v1 v3 G) (fun (x1 : Int32) =>
  if x1 = (-1 : Int32) then
  (rec2 (v3 + (-1)))
  else (some x1)))
def f_X0_resolve (F : Nat)  (v0 : Nat) (v1 : Int32) (v2 : Int32) (G : GH) : Option (Int32) :=
  fixN (fun _ => none) (b_X0_resolve_2 F   v0 v1 G) F v2
set_option maxRecDepth 100000 in
set_option maxHeartbeats 4000000 in
theorem l_X0_resolve_2 {E : GE} {F : Nat}   {v0 : Nat} {v1 : Int32} {n : Nat} {G : GH}   : ∀ (K : Nat) (v3 : Int32) (z : Int32), fixN ((fun _ => none) : Int32 → Option (Int32)) (b_X0_resolve_2 F   v0 v1 G) K v3 = some z → WG E RX0 "resolve" cX0_resolve 5 (some .int) 1 22 0 0 2 [(0, .ref v0), (1, .int v1), (3, .int v3)] [] n G (g_O E (some (.int z), n, G)) := by
  intro K
  refine fixN_ind (P := fun (r : Int32 → Option (Int32)) => ∀ (v3 : Int32) (z : Int32), r v3 = some z → WG E RX0 "resolve" cX0_resolve 5 (some .int) 1 22 0 0 2 [(0, .ref v0), (1, .int v1), (3, .int v3)] [] n G (g_O E (some (.int z), n, G))) ?_ ?_ K
  · intro v3 z h
    cases h
  · intro rec2 hrec2 v3 z h
    unfold b_X0_resolve_2 at h
    refine r_iload d_X0_resolve_2 rfl ?_
    refine r_if_lt h d_X0_resolve_3 (fun h => ?_) (fun h => ?_)
    · refine r_iload d_X0_resolve_29 rfl ?_
      exact r_pret h d_X0_resolve_30
    · refine r_aload d_X0_resolve_6 rfl ?_
      refine r_iload d_X0_resolve_7 rfl ?_
      refine r_iload d_X0_resolve_8 rfl ?_
      refine r_invP [_, _] h (fun _ hq => s_X0_standInAt hq) d_X0_resolve_9 pl_X0_80 py_X0_standInAt pi_X0_standInAt rfl rfl rfl (fun x1 h => ?_)
      refine r_istore d_X0_resolve_12 rfl rfl ?_
      refine r_iload d_X0_resolve_14 rfl ?_
      refine r_iconst d_X0_resolve_16 ic_m1 ?_
      refine r_icmp_eq h d_X0_resolve_17 (fun h => ?_) (fun h => ?_)
      · refine r_iinc d_X0_resolve_23 rfl (ii_m1 _) rfl rfl ?_
        refine r_goto d_X0_resolve_26 ?_
        refine r_lv [(0, .ref v0), (1, .int v1), (3, .int (v3 + (-1)))] (g_allc rfl (g_allc rfl (g_allc rfl g_alln))) ?_
        exact hrec2 _ _ h
      · refine r_iload d_X0_resolve_20 rfl ?_
        exact r_pret h d_X0_resolve_22
set_option maxRecDepth 100000 in
set_option maxHeartbeats 4000000 in
theorem s_X0_resolve {E : GE} {F : Nat}  {v0 : Nat} {v1 : Int32} {v2 : Int32} {n : Nat} {G : GH} {z : Int32}  (h : f_X0_resolve F  v0 v1 v2 G = some z) : GM E yX0_resolve cX0_resolve 5 (some .int) 1 22 0 0 [.ref v0, .int v1, .int v2] n G (some (.int z), n, G) := by
  refine GM.of (by decide) (Nat.le_of_ble_eq_true rfl) ?_
  show WG E RX0 "resolve" cX0_resolve 5 (some .int) 1 22 0 0 0 [(0, .ref v0), (1, .int v1), (2, .int v2)] [] n G (g_O E (some (.int z), n, G))
  unfold f_X0_resolve at h
  refine r_iload d_X0_resolve_0 rfl ?_
  refine r_istore d_X0_resolve_1 rfl rfl ?_
  refine r_lv [(0, .ref v0), (1, .int v1), (3, .int v2)] (g_allc rfl (g_allc rfl (g_allc rfl g_alln))) ?_
  exact l_X0_resolve_2   _ _ _ h
/-! X0_countStandIns -/
theorem d_X0_countStandIns_0 : dec 1 cX0_countStandIns 0 (.iconst 0) 1 := ⟨by decide +kernel, rfl⟩
theorem d_X0_countStandIns_1 : decIS cX0_countStandIns 1 1 2 := Or.inr ⟨1, rfl, by decide +kernel, rfl⟩
theorem d_X0_countStandIns_2 : decAL cX0_countStandIns 2 0 3 := Or.inr ⟨0, rfl, by decide +kernel, rfl⟩
theorem d_X0_countStandIns_3 : dec 3 cX0_countStandIns 3 (.getfield 15) 6 := ⟨by decide +kernel, rfl⟩
theorem d_X0_countStandIns_6 : decAS cX0_countStandIns 6 2 7 := Or.inr ⟨2, rfl, by decide +kernel, rfl⟩
theorem d_X0_countStandIns_7 : decAL cX0_countStandIns 7 2 8 := Or.inr ⟨2, rfl, by decide +kernel, rfl⟩
theorem d_X0_countStandIns_8 : dec 1 cX0_countStandIns 8 .arraylength 9 := ⟨by decide +kernel, rfl⟩
theorem d_X0_countStandIns_9 : decIS cX0_countStandIns 9 3 10 := Or.inr ⟨3, rfl, by decide +kernel, rfl⟩
theorem d_X0_countStandIns_10 : dec 1 cX0_countStandIns 10 (.iconst 0) 11 := ⟨by decide +kernel, rfl⟩
theorem d_X0_countStandIns_11 : decIS cX0_countStandIns 11 4 13 := Or.inl ⟨by decide +kernel, rfl⟩
theorem d_X0_countStandIns_13 : decIL cX0_countStandIns 13 4 15 := Or.inl ⟨by decide +kernel, rfl⟩
theorem d_X0_countStandIns_15 : decIL cX0_countStandIns 15 3 16 := Or.inr ⟨3, rfl, by decide +kernel, rfl⟩
theorem d_X0_countStandIns_16 : decB cX0_countStandIns 16 (.if_icmp .ge 24) (24) 19 40 := ⟨by decide +kernel, rfl, by decide⟩
theorem d_X0_countStandIns_19 : decAL cX0_countStandIns 19 2 20 := Or.inr ⟨2, rfl, by decide +kernel, rfl⟩
theorem d_X0_countStandIns_20 : decIL cX0_countStandIns 20 4 22 := Or.inl ⟨by decide +kernel, rfl⟩
theorem d_X0_countStandIns_22 : dec 1 cX0_countStandIns 22 .iaload 23 := ⟨by decide +kernel, rfl⟩
theorem d_X0_countStandIns_23 : decIS cX0_countStandIns 23 5 25 := Or.inl ⟨by decide +kernel, rfl⟩
theorem d_X0_countStandIns_25 : decIL cX0_countStandIns 25 5 27 := Or.inl ⟨by decide +kernel, rfl⟩
theorem d_X0_countStandIns_27 : dec 1 cX0_countStandIns 27 (.iconst (-1)) 28 := ⟨by decide +kernel, rfl⟩
theorem d_X0_countStandIns_28 : decB cX0_countStandIns 28 (.if_icmp .eq 6) (6) 31 34 := ⟨by decide +kernel, rfl, by decide⟩
theorem d_X0_countStandIns_31 : dec 3 cX0_countStandIns 31 (.iinc 1 1) 34 := ⟨by decide +kernel, rfl⟩
theorem d_X0_countStandIns_34 : dec 3 cX0_countStandIns 34 (.iinc 4 1) 37 := ⟨by decide +kernel, rfl⟩
theorem d_X0_countStandIns_37 : decB cX0_countStandIns 37 (.goto (-24)) (-24) 40 13 := ⟨by decide +kernel, rfl, by decide⟩
theorem d_X0_countStandIns_40 : decIL cX0_countStandIns 40 1 41 := Or.inr ⟨1, rfl, by decide +kernel, rfl⟩
theorem d_X0_countStandIns_41 : dec 1 cX0_countStandIns 41 .ireturn 42 := ⟨by decide +kernel, rfl⟩
def b_X0_countStandIns_13 (F : Nat)   (v2 : Nat) (v3 : Int32) (G : GH) (rec13 : Int32 → Int32 → Option (Int32)) : Int32 → Int32 → Option (Int32) := fun v1 v4 =>
  if v3 ≤ v4 then
  (some v1)
  else (Option.bind (aI G v2 0 v4) (fun (x3 : Int32) =>
  if x3 = (-1 : Int32) then
  (rec13 v1 (v4 + 1))
  else (rec13 (v1 + 1) (v4 + 1))))
def f_X0_countStandIns (F : Nat)  (v0 : Nat) (G : GH) : Option (Int32) :=
  Option.bind (gR G v0 0 2) (fun (x1 : Nat) =>
  Option.bind (aL G x1) (fun (x2 : Int32) =>
  fixN (fun _ _ => none) (b_X0_countStandIns_13 F   x1 x2 G) F (0 : Int32) (0 : Int32)))
set_option maxRecDepth 100000 in
set_option maxHeartbeats 4000000 in
theorem l_X0_countStandIns_13 {E : GE} {F : Nat}   {v2 : Nat} {v3 : Int32} {n : Nat} {G : GH}   : ∀ (K : Nat) (v1 : Int32) (v4 : Int32) (z : Int32), fixN ((fun _ _ => none) : Int32 → Int32 → Option (Int32)) (b_X0_countStandIns_13 F   v2 v3 G) K v1 v4 = some z → WG E RX0 "countStandIns" cX0_countStandIns 6 (some .int) 0 0 0 0 13 [(1, .int v1), (2, .ref v2), (3, .int v3), (4, .int v4)] [] n G (g_O E (some (.int z), n, G)) := by
  intro K
  refine fixN_ind (P := fun (r : Int32 → Int32 → Option (Int32)) => ∀ (v1 : Int32) (v4 : Int32) (z : Int32), r v1 v4 = some z → WG E RX0 "countStandIns" cX0_countStandIns 6 (some .int) 0 0 0 0 13 [(1, .int v1), (2, .ref v2), (3, .int v3), (4, .int v4)] [] n G (g_O E (some (.int z), n, G))) ?_ ?_ K
  · intro v1 v4 z h
    cases h
  · intro rec13 hrec13 v1 v4 z h
    unfold b_X0_countStandIns_13 at h
    refine r_iload d_X0_countStandIns_13 rfl ?_
    refine r_iload d_X0_countStandIns_15 rfl ?_
    refine r_icmp_ge h d_X0_countStandIns_16 (fun h => ?_) (fun h => ?_)
    · refine r_iload d_X0_countStandIns_40 rfl ?_
      exact r_pret h d_X0_countStandIns_41
    · refine r_aload d_X0_countStandIns_19 rfl ?_
      refine r_iload d_X0_countStandIns_20 rfl ?_
      refine r_iald h d_X0_countStandIns_22 (fun x3 h => ?_)
      refine r_istore d_X0_countStandIns_23 rfl rfl ?_
      refine r_iload d_X0_countStandIns_25 rfl ?_
      refine r_iconst d_X0_countStandIns_27 ic_m1 ?_
      refine r_icmp_eq h d_X0_countStandIns_28 (fun h => ?_) (fun h => ?_)
      · refine r_iinc d_X0_countStandIns_34 rfl (ii_1 _) rfl rfl ?_
        refine r_goto d_X0_countStandIns_37 ?_
        refine r_lv [(1, .int v1), (2, .ref v2), (3, .int v3), (4, .int (v4 + 1))] (g_allc rfl (g_allc rfl (g_allc rfl (g_allc rfl g_alln)))) ?_
        exact hrec13 _ _ _ h
      · refine r_iinc d_X0_countStandIns_31 rfl (ii_1 _) rfl rfl ?_
        refine r_iinc d_X0_countStandIns_34 rfl (ii_1 _) rfl rfl ?_
        refine r_goto d_X0_countStandIns_37 ?_
        refine r_lv [(1, .int (v1 + 1)), (2, .ref v2), (3, .int v3), (4, .int (v4 + 1))] (g_allc rfl (g_allc rfl (g_allc rfl (g_allc rfl g_alln)))) ?_
        exact hrec13 _ _ _ h
set_option maxRecDepth 100000 in
set_option maxHeartbeats 4000000 in
theorem s_X0_countStandIns {E : GE} {F : Nat}  {v0 : Nat} {n : Nat} {G : GH} {z : Int32}  (h : f_X0_countStandIns F  v0 G = some z) : GM E yX0_countStandIns cX0_countStandIns 6 (some .int) 0 0 0 0 [.ref v0] n G (some (.int z), n, G) := by
  refine GM.of (by decide) (Nat.le_of_ble_eq_true rfl) ?_
  show WG E RX0 "countStandIns" cX0_countStandIns 6 (some .int) 0 0 0 0 0 [(0, .ref v0)] [] n G (g_O E (some (.int z), n, G))
  unfold f_X0_countStandIns at h
  refine r_iconst d_X0_countStandIns_0 ic_0 ?_
  refine r_istore d_X0_countStandIns_1 rfl rfl ?_
  refine r_aload d_X0_countStandIns_2 rfl ?_
  refine r_getR h d_X0_countStandIns_3 pf_X0_15 (fun x1 h => ?_)
  refine r_astore d_X0_countStandIns_6 rfl rfl ?_
  refine r_aload d_X0_countStandIns_7 rfl ?_
  refine r_alen h d_X0_countStandIns_8 (fun x2 h => ?_)
  refine r_istore d_X0_countStandIns_9 rfl rfl ?_
  refine r_iconst d_X0_countStandIns_10 ic_0 ?_
  refine r_istore d_X0_countStandIns_11 rfl rfl ?_
  refine r_lv [(1, .int (0 : Int32)), (2, .ref x1), (3, .int x2), (4, .int (0 : Int32))] (g_allc rfl (g_allc rfl (g_allc rfl (g_allc rfl g_alln)))) ?_
  exact l_X0_countStandIns_13   _ _ _ _ h
/-! X0_countMade -/
theorem d_X0_countMade_0 : dec 1 cX0_countMade 0 (.iconst 0) 1 := ⟨by decide +kernel, rfl⟩
theorem d_X0_countMade_1 : decIS cX0_countMade 1 1 2 := Or.inr ⟨1, rfl, by decide +kernel, rfl⟩
theorem d_X0_countMade_2 : decAL cX0_countMade 2 0 3 := Or.inr ⟨0, rfl, by decide +kernel, rfl⟩
theorem d_X0_countMade_3 : dec 3 cX0_countMade 3 (.getfield 19) 6 := ⟨by decide +kernel, rfl⟩
theorem d_X0_countMade_6 : decAS cX0_countMade 6 2 7 := Or.inr ⟨2, rfl, by decide +kernel, rfl⟩
theorem d_X0_countMade_7 : decAL cX0_countMade 7 2 8 := Or.inr ⟨2, rfl, by decide +kernel, rfl⟩
theorem d_X0_countMade_8 : dec 1 cX0_countMade 8 .arraylength 9 := ⟨by decide +kernel, rfl⟩
theorem d_X0_countMade_9 : decIS cX0_countMade 9 3 10 := Or.inr ⟨3, rfl, by decide +kernel, rfl⟩
theorem d_X0_countMade_10 : dec 1 cX0_countMade 10 (.iconst 0) 11 := ⟨by decide +kernel, rfl⟩
theorem d_X0_countMade_11 : decIS cX0_countMade 11 4 13 := Or.inl ⟨by decide +kernel, rfl⟩
theorem d_X0_countMade_13 : decIL cX0_countMade 13 4 15 := Or.inl ⟨by decide +kernel, rfl⟩
theorem d_X0_countMade_15 : decIL cX0_countMade 15 3 16 := Or.inr ⟨3, rfl, by decide +kernel, rfl⟩
theorem d_X0_countMade_16 : decB cX0_countMade 16 (.if_icmp .ge 20) (20) 19 36 := ⟨by decide +kernel, rfl, by decide⟩
theorem d_X0_countMade_19 : decAL cX0_countMade 19 2 20 := Or.inr ⟨2, rfl, by decide +kernel, rfl⟩
theorem d_X0_countMade_20 : decIL cX0_countMade 20 4 22 := Or.inl ⟨by decide +kernel, rfl⟩
theorem d_X0_countMade_22 : dec 1 cX0_countMade 22 .iaload 23 := ⟨by decide +kernel, rfl⟩
theorem d_X0_countMade_23 : decIS cX0_countMade 23 5 25 := Or.inl ⟨by decide +kernel, rfl⟩
theorem d_X0_countMade_25 : decIL cX0_countMade 25 1 26 := Or.inr ⟨1, rfl, by decide +kernel, rfl⟩
theorem d_X0_countMade_26 : decIL cX0_countMade 26 5 28 := Or.inl ⟨by decide +kernel, rfl⟩
theorem d_X0_countMade_28 : dec 1 cX0_countMade 28 .iadd 29 := ⟨by decide +kernel, rfl⟩
theorem d_X0_countMade_29 : decIS cX0_countMade 29 1 30 := Or.inr ⟨1, rfl, by decide +kernel, rfl⟩
theorem d_X0_countMade_30 : dec 3 cX0_countMade 30 (.iinc 4 1) 33 := ⟨by decide +kernel, rfl⟩
theorem d_X0_countMade_33 : decB cX0_countMade 33 (.goto (-20)) (-20) 36 13 := ⟨by decide +kernel, rfl, by decide⟩
theorem d_X0_countMade_36 : decIL cX0_countMade 36 1 37 := Or.inr ⟨1, rfl, by decide +kernel, rfl⟩
theorem d_X0_countMade_37 : dec 1 cX0_countMade 37 .ireturn 38 := ⟨by decide +kernel, rfl⟩
def b_X0_countMade_13 (F : Nat)   (v2 : Nat) (v3 : Int32) (G : GH) (rec13 : Int32 → Int32 → Option (Int32)) : Int32 → Int32 → Option (Int32) := fun v1 v4 =>
  if v3 ≤ v4 then
  (some v1)
  else (Option.bind (aI G v2 0 v4) (fun (x3 : Int32) =>
  gnm (v1 + x3) (fun (y4 : Int32) =>
  rec13 y4 (v4 + 1))))
def f_X0_countMade (F : Nat)  (v0 : Nat) (G : GH) : Option (Int32) :=
  Option.bind (gR G v0 0 3) (fun (x1 : Nat) =>
  Option.bind (aL G x1) (fun (x2 : Int32) =>
  fixN (fun _ _ => none) (b_X0_countMade_13 F   x1 x2 G) F (0 : Int32) (0 : Int32)))
set_option maxRecDepth 100000 in
set_option maxHeartbeats 4000000 in
theorem l_X0_countMade_13 {E : GE} {F : Nat}   {v2 : Nat} {v3 : Int32} {n : Nat} {G : GH}   : ∀ (K : Nat) (v1 : Int32) (v4 : Int32) (z : Int32), fixN ((fun _ _ => none) : Int32 → Int32 → Option (Int32)) (b_X0_countMade_13 F   v2 v3 G) K v1 v4 = some z → WG E RX0 "countMade" cX0_countMade 6 (some .int) 0 0 0 0 13 [(1, .int v1), (2, .ref v2), (3, .int v3), (4, .int v4)] [] n G (g_O E (some (.int z), n, G)) := by
  intro K
  refine fixN_ind (P := fun (r : Int32 → Int32 → Option (Int32)) => ∀ (v1 : Int32) (v4 : Int32) (z : Int32), r v1 v4 = some z → WG E RX0 "countMade" cX0_countMade 6 (some .int) 0 0 0 0 13 [(1, .int v1), (2, .ref v2), (3, .int v3), (4, .int v4)] [] n G (g_O E (some (.int z), n, G))) ?_ ?_ K
  · intro v1 v4 z h
    cases h
  · intro rec13 hrec13 v1 v4 z h
    unfold b_X0_countMade_13 at h
    refine r_iload d_X0_countMade_13 rfl ?_
    refine r_iload d_X0_countMade_15 rfl ?_
    refine r_icmp_ge h d_X0_countMade_16 (fun h => ?_) (fun h => ?_)
    · refine r_iload d_X0_countMade_36 rfl ?_
      exact r_pret h d_X0_countMade_37
    · refine r_aload d_X0_countMade_19 rfl ?_
      refine r_iload d_X0_countMade_20 rfl ?_
      refine r_iald h d_X0_countMade_22 (fun x3 h => ?_)
      refine r_istore d_X0_countMade_23 rfl rfl ?_
      refine r_iload d_X0_countMade_25 rfl ?_
      refine r_iload d_X0_countMade_26 rfl ?_
      refine r_iadd d_X0_countMade_28 ?_
      refine r_nmI h (fun y4 _ h => ?_)
      refine r_istore d_X0_countMade_29 rfl rfl ?_
      refine r_iinc d_X0_countMade_30 rfl (ii_1 _) rfl rfl ?_
      refine r_goto d_X0_countMade_33 ?_
      refine r_lv [(1, .int y4), (2, .ref v2), (3, .int v3), (4, .int (v4 + 1))] (g_allc rfl (g_allc rfl (g_allc rfl (g_allc rfl g_alln)))) ?_
      exact hrec13 _ _ _ h
set_option maxRecDepth 100000 in
set_option maxHeartbeats 4000000 in
theorem s_X0_countMade {E : GE} {F : Nat}  {v0 : Nat} {n : Nat} {G : GH} {z : Int32}  (h : f_X0_countMade F  v0 G = some z) : GM E yX0_countMade cX0_countMade 6 (some .int) 0 0 0 0 [.ref v0] n G (some (.int z), n, G) := by
  refine GM.of (by decide) (Nat.le_of_ble_eq_true rfl) ?_
  show WG E RX0 "countMade" cX0_countMade 6 (some .int) 0 0 0 0 0 [(0, .ref v0)] [] n G (g_O E (some (.int z), n, G))
  unfold f_X0_countMade at h
  refine r_iconst d_X0_countMade_0 ic_0 ?_
  refine r_istore d_X0_countMade_1 rfl rfl ?_
  refine r_aload d_X0_countMade_2 rfl ?_
  refine r_getR h d_X0_countMade_3 pf_X0_19 (fun x1 h => ?_)
  refine r_astore d_X0_countMade_6 rfl rfl ?_
  refine r_aload d_X0_countMade_7 rfl ?_
  refine r_alen h d_X0_countMade_8 (fun x2 h => ?_)
  refine r_istore d_X0_countMade_9 rfl rfl ?_
  refine r_iconst d_X0_countMade_10 ic_0 ?_
  refine r_istore d_X0_countMade_11 rfl rfl ?_
  refine r_lv [(1, .int (0 : Int32)), (2, .ref x1), (3, .int x2), (4, .int (0 : Int32))] (g_allc rfl (g_allc rfl (g_allc rfl (g_allc rfl g_alln)))) ?_
  exact l_X0_countMade_13   _ _ _ _ h
/-! X4_init -/
theorem qol_X4_3 : Cond.methodLink RX4 3 objectInit ∈ g_tbl := g_in 155 (by decide +kernel) rfl
theorem qc_X4_9 : Cond.classLink RX4 9 RX0 ∈ g_tbl := g_in 156 (by decide +kernel) rfl
theorem pw_X4_11 : pW RX4 "<init>" 11 4 0 (.array (.object "PlugBoard$Board")) := ⟨RX4, TX4, 3, rfl, by decide, rfl, Or.inl ⟨g_in 158 (by decide +kernel) rfl, Or.inr ⟨rfl, rfl, rfl⟩⟩, by decide +kernel⟩
theorem pw_X4_17 {nm : String} : pW RX4 nm 17 4 1 .int := ⟨RX4, TX4, 3, rfl, by decide, rfl, Or.inl ⟨g_in 159 (by decide +kernel) rfl, Or.inl rfl⟩, by decide +kernel⟩
theorem pw_X4_21 {nm : String} : pW RX4 nm 21 4 2 .int := ⟨RX4, TX4, 3, rfl, by decide, rfl, Or.inl ⟨g_in 161 (by decide +kernel) rfl, Or.inl rfl⟩, by decide +kernel⟩
theorem d_X4_init_0 : decAL cX4_init 0 0 1 := Or.inr ⟨0, rfl, by decide +kernel, rfl⟩
theorem d_X4_init_1 : dec 3 cX4_init 1 (.invokespecial 3) 4 := ⟨by decide +kernel, rfl⟩
theorem d_X4_init_4 : decAL cX4_init 4 0 5 := Or.inr ⟨0, rfl, by decide +kernel, rfl⟩
theorem d_X4_init_5 : dec 2 cX4_init 5 (.bipush 8) 7 := ⟨by decide +kernel, rfl⟩
theorem d_X4_init_7 : dec 3 cX4_init 7 (.anewarray 9) 10 := ⟨by decide +kernel, rfl⟩
theorem d_X4_init_10 : dec 3 cX4_init 10 (.putfield 11) 13 := ⟨by decide +kernel, rfl⟩
theorem d_X4_init_13 : decAL cX4_init 13 0 14 := Or.inr ⟨0, rfl, by decide +kernel, rfl⟩
theorem d_X4_init_14 : dec 1 cX4_init 14 (.iconst 0) 15 := ⟨by decide +kernel, rfl⟩
theorem d_X4_init_15 : dec 3 cX4_init 15 (.putfield 17) 18 := ⟨by decide +kernel, rfl⟩
theorem d_X4_init_18 : decAL cX4_init 18 0 19 := Or.inr ⟨0, rfl, by decide +kernel, rfl⟩
theorem d_X4_init_19 : dec 1 cX4_init 19 (.iconst 0) 20 := ⟨by decide +kernel, rfl⟩
theorem d_X4_init_20 : dec 3 cX4_init 20 (.putfield 21) 23 := ⟨by decide +kernel, rfl⟩
theorem d_X4_init_23 : dec 1 cX4_init 23 .return_ 24 := ⟨by decide +kernel, rfl⟩
def f_X4_init (F : Nat)  (v0 : Nat) (n : Nat) (G : GH) : Option (Nat × GH) :=
  Option.bind (pV (gset G n (.inl (4, 8, .inr (.inr (.inr (.inr (fun _ => none))))))) v0 4 0 (.ref n)) (fun (G1 : GH) =>
  Option.bind (pV G1 v0 4 1 (.int (0 : Int32))) (fun (G2 : GH) =>
  Option.bind (pV G2 v0 4 2 (.int (0 : Int32))) (fun (G3 : GH) =>
  some (n + 1, G3))))
set_option maxRecDepth 100000 in
set_option maxHeartbeats 4000000 in
theorem s_X4_init {E : GE} {F : Nat}  {v0 : Nat} {n : Nat} {G : GH} {z : Nat × GH}  (h : f_X4_init F  v0 n G = some z) : GM E yX4_init cX4_init 1 none 1 40 1 8 [.ref v0] n G (none, z.1, z.2) := by
  refine GM.of (by decide) (Nat.le_of_ble_eq_true rfl) ?_
  show WG E RX4 "<init>" cX4_init 1 none 1 40 1 8 0 [(0, .ref v0)] [] n G (g_O E (none, z.1, z.2))
  unfold f_X4_init at h
  refine r_aload d_X4_init_0 rfl ?_
  refine r_obj d_X4_init_1 qol_X4_3 qoi qoc rfl rfl ?_
  refine r_aload d_X4_init_4 rfl ?_
  refine r_bipush d_X4_init_5 bp_8 ?_
  refine r_anew4 (N := 8) d_X4_init_7 qc_X4_9 (by decide) (by decide) rfl rfl rfl ?_
  refine r_put h d_X4_init_10 pw_X4_11 rfl rfl (fun G1 h => ?_)
  refine r_aload d_X4_init_13 rfl ?_
  refine r_iconst d_X4_init_14 ic_0 ?_
  refine r_put h d_X4_init_15 pw_X4_17 rfl rfl (fun G2 h => ?_)
  refine r_aload d_X4_init_18 rfl ?_
  refine r_iconst d_X4_init_19 ic_0 ?_
  refine r_put h d_X4_init_20 pw_X4_21 rfl rfl (fun G3 h => ?_)
  exact r_vret h d_X4_init_23
/-! X4_keep -/
theorem pf_X4_11 : pF RX4 11 4 0 := ⟨RX4, TX4, 3, rfl, by decide, rfl, Or.inl (g_in 158 (by decide +kernel) rfl)⟩
theorem pf_X4_21 : pF RX4 21 4 2 := ⟨RX4, TX4, 3, rfl, by decide, rfl, Or.inl (g_in 161 (by decide +kernel) rfl)⟩
theorem py_X0_copyFrom : pY yX0_copyFrom cX0_copyFrom 2 none 1 := ⟨g_in 686 (by decide +kernel) rfl, g_in 98 (by decide +kernel) rfl, by decide, by decide, by decide +kernel⟩
theorem pi_X0_copyFrom : pI yX0_copyFrom 0 := ⟨g_in 684 (by decide +kernel) rfl, g_in 685 (by decide +kernel) rfl, (RX0, TX0, 6), rfl, rfl⟩
theorem pl_X4_31 : pL RX4 31 yX0_copyFrom := Or.inl (g_in 683 (by decide +kernel) rfl)
theorem pf_X4_17 : pF RX4 17 4 1 := ⟨RX4, TX4, 3, rfl, by decide, rfl, Or.inl (g_in 159 (by decide +kernel) rfl)⟩
theorem qm_min_l_X4_35 : Cond.methodLink RX4 35 Lib.Math.min.name ∈ g_tbl := g_in 700 (by decide +kernel) rfl
def df_X0 : List Value := [.null, .int 0, .null, .null, .null, .null]
theorem dv_X0 : ∀ j, j < 6 → defaultValue (tyX0 j) = vp_V df_X0 j := by decide +kernel
theorem pn_X4_9 : pN RX4 9 0 df_X0 := ⟨RX0, TX0, 6, rfl, g_in 156 (by decide +kernel) rfl, g_in 231 (by decide +kernel) rfl, g_in 98 (by decide +kernel) rfl, rfl, tyX0, tyX0_ok, dv_X0⟩
theorem pf_X4_24 : pF RX4 24 0 0 := ⟨RX0, TX0, 6, rfl, by decide, rfl, Or.inr ⟨"PlugBoard", g_in 306 (by decide +kernel) rfl⟩⟩
theorem py_X0_init : pY yX0_init cX0_init 2 none 1 := ⟨g_in 234 (by decide +kernel) rfl, g_in 98 (by decide +kernel) rfl, by decide, by decide, by decide +kernel⟩
theorem pm_X0_init : Cond.instanceMethod yX0_init ∈ g_tbl := g_in 233 (by decide +kernel) rfl
theorem pl_X4_28 : pL RX4 28 yX0_init := Or.inl (g_in 682 (by decide +kernel) rfl)
theorem d_X4_keep_0 : decAL cX4_keep 0 0 1 := Or.inr ⟨0, rfl, by decide +kernel, rfl⟩
theorem d_X4_keep_1 : dec 3 cX4_keep 1 (.getfield 11) 4 := ⟨by decide +kernel, rfl⟩
theorem d_X4_keep_4 : decAL cX4_keep 4 0 5 := Or.inr ⟨0, rfl, by decide +kernel, rfl⟩
theorem d_X4_keep_5 : dec 3 cX4_keep 5 (.getfield 21) 8 := ⟨by decide +kernel, rfl⟩
theorem d_X4_keep_8 : dec 1 cX4_keep 8 .aaload 9 := ⟨by decide +kernel, rfl⟩
theorem d_X4_keep_9 : decB cX4_keep 9 (.ifnonnull 23) (23) 12 32 := ⟨by decide +kernel, rfl, by decide⟩
theorem d_X4_keep_12 : decAL cX4_keep 12 0 13 := Or.inr ⟨0, rfl, by decide +kernel, rfl⟩
theorem d_X4_keep_13 : dec 3 cX4_keep 13 (.getfield 11) 16 := ⟨by decide +kernel, rfl⟩
theorem d_X4_keep_16 : decAL cX4_keep 16 0 17 := Or.inr ⟨0, rfl, by decide +kernel, rfl⟩
theorem d_X4_keep_17 : dec 3 cX4_keep 17 (.getfield 21) 20 := ⟨by decide +kernel, rfl⟩
theorem d_X4_keep_20 : dec 3 cX4_keep 20 (.new 9) 23 := ⟨by decide +kernel, rfl⟩
theorem d_X4_keep_23 : dec 1 cX4_keep 23 .dup 24 := ⟨by decide +kernel, rfl⟩
theorem d_X4_keep_24 : decAL cX4_keep 24 1 25 := Or.inr ⟨1, rfl, by decide +kernel, rfl⟩
theorem d_X4_keep_25 : dec 3 cX4_keep 25 (.getfield 24) 28 := ⟨by decide +kernel, rfl⟩
theorem d_X4_keep_28 : dec 3 cX4_keep 28 (.invokespecial 28) 31 := ⟨by decide +kernel, rfl⟩
theorem d_X4_keep_31 : dec 1 cX4_keep 31 .aastore 32 := ⟨by decide +kernel, rfl⟩
theorem d_X4_keep_32 : decAL cX4_keep 32 0 33 := Or.inr ⟨0, rfl, by decide +kernel, rfl⟩
theorem d_X4_keep_33 : dec 3 cX4_keep 33 (.getfield 11) 36 := ⟨by decide +kernel, rfl⟩
theorem d_X4_keep_36 : decAL cX4_keep 36 0 37 := Or.inr ⟨0, rfl, by decide +kernel, rfl⟩
theorem d_X4_keep_37 : dec 3 cX4_keep 37 (.getfield 21) 40 := ⟨by decide +kernel, rfl⟩
theorem d_X4_keep_40 : dec 1 cX4_keep 40 .aaload 41 := ⟨by decide +kernel, rfl⟩
theorem d_X4_keep_41 : decAL cX4_keep 41 1 42 := Or.inr ⟨1, rfl, by decide +kernel, rfl⟩
theorem d_X4_keep_42 : dec 3 cX4_keep 42 (.invokevirtual 31) 45 := ⟨by decide +kernel, rfl⟩
theorem d_X4_keep_45 : decAL cX4_keep 45 0 46 := Or.inr ⟨0, rfl, by decide +kernel, rfl⟩
theorem d_X4_keep_46 : decAL cX4_keep 46 0 47 := Or.inr ⟨0, rfl, by decide +kernel, rfl⟩
theorem d_X4_keep_47 : dec 3 cX4_keep 47 (.getfield 21) 50 := ⟨by decide +kernel, rfl⟩
theorem d_X4_keep_50 : dec 1 cX4_keep 50 (.iconst 1) 51 := ⟨by decide +kernel, rfl⟩
theorem d_X4_keep_51 : dec 1 cX4_keep 51 .iadd 52 := ⟨by decide +kernel, rfl⟩
theorem d_X4_keep_52 : dec 2 cX4_keep 52 (.bipush 8) 54 := ⟨by decide +kernel, rfl⟩
theorem d_X4_keep_54 : decB cX4_keep 54 (.if_icmp .ge 12) (12) 57 66 := ⟨by decide +kernel, rfl, by decide⟩
theorem d_X4_keep_57 : decAL cX4_keep 57 0 58 := Or.inr ⟨0, rfl, by decide +kernel, rfl⟩
theorem d_X4_keep_58 : dec 3 cX4_keep 58 (.getfield 21) 61 := ⟨by decide +kernel, rfl⟩
theorem d_X4_keep_61 : dec 1 cX4_keep 61 (.iconst 1) 62 := ⟨by decide +kernel, rfl⟩
theorem d_X4_keep_62 : dec 1 cX4_keep 62 .iadd 63 := ⟨by decide +kernel, rfl⟩
theorem d_X4_keep_63 : decB cX4_keep 63 (.goto 4) (4) 66 67 := ⟨by decide +kernel, rfl, by decide⟩
theorem d_X4_keep_66 : dec 1 cX4_keep 66 (.iconst 0) 67 := ⟨by decide +kernel, rfl⟩
theorem d_X4_keep_67 : dec 3 cX4_keep 67 (.putfield 21) 70 := ⟨by decide +kernel, rfl⟩
theorem d_X4_keep_70 : decAL cX4_keep 70 0 71 := Or.inr ⟨0, rfl, by decide +kernel, rfl⟩
theorem d_X4_keep_71 : decAL cX4_keep 71 0 72 := Or.inr ⟨0, rfl, by decide +kernel, rfl⟩
theorem d_X4_keep_72 : dec 3 cX4_keep 72 (.getfield 17) 75 := ⟨by decide +kernel, rfl⟩
theorem d_X4_keep_75 : dec 1 cX4_keep 75 (.iconst 1) 76 := ⟨by decide +kernel, rfl⟩
theorem d_X4_keep_76 : dec 1 cX4_keep 76 .iadd 77 := ⟨by decide +kernel, rfl⟩
theorem d_X4_keep_77 : dec 2 cX4_keep 77 (.bipush 8) 79 := ⟨by decide +kernel, rfl⟩
theorem d_X4_keep_79 : dec 3 cX4_keep 79 (.invokestatic 35) 82 := ⟨by decide +kernel, rfl⟩
theorem d_X4_keep_82 : dec 3 cX4_keep 82 (.putfield 17) 85 := ⟨by decide +kernel, rfl⟩
theorem d_X4_keep_85 : dec 1 cX4_keep 85 .return_ 86 := ⟨by decide +kernel, rfl⟩
def k_X4_keep_67 (F : Nat)   (v0 : Nat) (s0 : Nat) (s1 : Int32) (n : Nat) (G : GH) : Option (Nat × GH) :=
  Option.bind (pV G s0 4 2 (.int s1)) (fun (G10 : GH) =>
  Option.bind (gI G10 v0 4 1) (fun (x11 : Int32) =>
  Option.bind (pV G10 v0 4 1 (.int (if (8 : Int32) < (x11 + (1 : Int32)) then (8 : Int32) else (x11 + (1 : Int32))))) (fun (G12 : GH) =>
  some (n, G12))))
def k_X4_keep_32 (F : Nat)   (v0 : Nat) (v1 : Nat)  (n : Nat) (G : GH) : Option (Nat × GH) :=
  Option.bind (gR G v0 4 0) (fun (x4 : Nat) =>
  Option.bind (gI G v0 4 2) (fun (x5 : Int32) =>
  Option.bind (aN G x4 4 x5) (fun (x6 : Nat) =>
  cvU G x6 0 (f_X0_copyFrom F x6 v1 n G) (fun (n7 : Nat) (G8 : GH) =>
  Option.bind (gI G8 v0 4 2) (fun (x9 : Int32) =>
  if (8 : Int32) ≤ (x9 + (1 : Int32)) then
  (k_X4_keep_67 F   v0 v0 (0 : Int32) n7 G8)
  else (Option.bind (gI G8 v0 4 2) (fun (x13 : Int32) =>
  k_X4_keep_67 F   v0 v0 (x13 + (1 : Int32)) n7 G8)))))))
def f_X4_keep (F : Nat)  (v0 : Nat) (v1 : Nat) (n : Nat) (G : GH) : Option (Nat × GH) :=
  Option.bind (gR G v0 4 0) (fun (x1 : Nat) =>
  Option.bind (gI G v0 4 2) (fun (x2 : Int32) =>
  Option.bind (aQ G x1 4 x2) (fun (x3 : Option Nat) =>
  if x3 = none then
  (Option.bind (gR G v0 4 0) (fun (x14 : Nat) =>
  Option.bind (gI G v0 4 2) (fun (x15 : Int32) =>
  Option.bind (gR (gset G n (.inr (0, df_X0))) v1 0 0) (fun (x16 : Nat) =>
  csU (f_X0_init F n x16 (n + 1) (gset G n (.inr (0, df_X0)))) (fun (n17 : Nat) (G18 : GH) =>
  Option.bind (aP G18 x14 4 0 x15 n) (fun (G19 : GH) =>
  k_X4_keep_32 F   v0 v1 n17 G19))))))
  else (k_X4_keep_32 F   v0 v1 n G))))
set_option maxRecDepth 100000 in
set_option maxHeartbeats 4000000 in
theorem c_X4_keep_67 {E : GE} {F : Nat}   {v0 : Nat} {s0 : Nat} {s1 : Int32} {n : Nat} {G : GH} {z : Nat × GH}   (h : k_X4_keep_67 F   v0 s0 s1 n G = some z) : WG E RX4 "keep" cX4_keep 2 none 3 82 0 0 67 [(0, .ref v0)] [.int s1, .ref s0] n G (g_O E (none, z.1, z.2)) := by
  unfold k_X4_keep_67 at h
  refine r_put h d_X4_keep_67 pw_X4_21 rfl rfl (fun G10 h => ?_)
  refine r_aload d_X4_keep_70 rfl ?_
  refine r_aload d_X4_keep_71 rfl ?_
  refine r_getI h d_X4_keep_72 pf_X4_17 (fun x11 h => ?_)
  refine r_iconst d_X4_keep_75 ic_1 ?_
  refine r_iadd d_X4_keep_76 ?_
  refine r_bipush d_X4_keep_77 bp_8 ?_
  refine r_min d_X4_keep_79 qm_min_l_X4_35 qm_min_s qm_i qm_min_c rfl rfl ?_
  refine r_put h d_X4_keep_82 pw_X4_17 rfl rfl (fun G12 h => ?_)
  exact r_vret h d_X4_keep_85
set_option maxRecDepth 100000 in
set_option maxHeartbeats 4000000 in
theorem c_X4_keep_32 {E : GE} {F : Nat}   {v0 : Nat} {v1 : Nat}  {n : Nat} {G : GH} {z : Nat × GH}   (h : k_X4_keep_32 F   v0 v1  n G = some z) : WG E RX4 "keep" cX4_keep 2 none 3 82 0 0 32 [(0, .ref v0), (1, .ref v1)] [] n G (g_O E (none, z.1, z.2)) := by
  unfold k_X4_keep_32 at h
  refine r_aload d_X4_keep_32 rfl ?_
  refine r_getR h d_X4_keep_33 pf_X4_11 (fun x4 h => ?_)
  refine r_aload d_X4_keep_36 rfl ?_
  refine r_getI h d_X4_keep_37 pf_X4_21 (fun x5 h => ?_)
  refine r_aaldn h d_X4_keep_40 (Or.inl rfl) (fun x6 h => ?_)
  refine r_aload d_X4_keep_41 rfl ?_
  refine r_invU [_] h (fun _ hq => s_X0_copyFrom hq) d_X4_keep_42 pl_X4_31 py_X0_copyFrom pi_X0_copyFrom rfl rfl rfl (fun n7 G8 h => ?_)
  refine r_aload d_X4_keep_45 rfl ?_
  refine r_aload d_X4_keep_46 rfl ?_
  refine r_getI h d_X4_keep_47 pf_X4_21 (fun x9 h => ?_)
  refine r_iconst d_X4_keep_50 ic_1 ?_
  refine r_iadd d_X4_keep_51 ?_
  refine r_bipush d_X4_keep_52 bp_8 ?_
  refine r_icmp_ge h d_X4_keep_54 (fun h => ?_) (fun h => ?_)
  · refine r_iconst d_X4_keep_66 ic_0 ?_
    refine r_lv [(0, .ref v0)] (g_allc rfl g_alln) ?_
    exact c_X4_keep_67   h
  · refine r_aload d_X4_keep_57 rfl ?_
    refine r_getI h d_X4_keep_58 pf_X4_21 (fun x13 h => ?_)
    refine r_iconst d_X4_keep_61 ic_1 ?_
    refine r_iadd d_X4_keep_62 ?_
    refine r_goto d_X4_keep_63 ?_
    refine r_lv [(0, .ref v0)] (g_allc rfl g_alln) ?_
    exact c_X4_keep_67   h
set_option maxRecDepth 100000 in
set_option maxHeartbeats 4000000 in
theorem s_X4_keep {E : GE} {F : Nat}  {v0 : Nat} {v1 : Nat} {n : Nat} {G : GH} {z : Nat × GH}  (h : f_X4_keep F  v0 v1 n G = some z) : GM E yX4_keep cX4_keep 2 none 3 82 13 763 [.ref v0, .ref v1] n G (none, z.1, z.2) := by
  refine GM.of (by decide) (Nat.le_of_ble_eq_true rfl) ?_
  show WG E RX4 "keep" cX4_keep 2 none 3 82 13 763 0 [(0, .ref v0), (1, .ref v1)] [] n G (g_O E (none, z.1, z.2))
  unfold f_X4_keep at h
  refine r_aload d_X4_keep_0 rfl ?_
  refine r_getR h d_X4_keep_1 pf_X4_11 (fun x1 h => ?_)
  refine r_aload d_X4_keep_4 rfl ?_
  refine r_getI h d_X4_keep_5 pf_X4_21 (fun x2 h => ?_)
  refine r_aaldq h d_X4_keep_8 (Or.inl rfl) (fun x3 h => ?_)
  refine r_ifnonnull h d_X4_keep_9 (fun h => ?_) (fun h => ?_)
  · refine r_lv [(0, .ref v0), (1, .ref v1)] (g_allc rfl (g_allc rfl g_alln)) ?_
    refine r_wk (rc1 := 0) (rs1 := 0) rfl rfl ?_
    exact c_X4_keep_32   h
  · refine r_aload d_X4_keep_12 rfl ?_
    refine r_getR h d_X4_keep_13 pf_X4_11 (fun x14 h => ?_)
    refine r_aload d_X4_keep_16 rfl ?_
    refine r_getI h d_X4_keep_17 pf_X4_21 (fun x15 h => ?_)
    refine r_new d_X4_keep_20 pn_X4_9 rfl rfl ?_
    refine r_dup d_X4_keep_23 rfl ?_
    refine r_aload d_X4_keep_24 rfl ?_
    refine r_getR h d_X4_keep_25 pf_X4_24 (fun x16 h => ?_)
    refine r_invN [_] h (fun _ hq => s_X0_init hq) d_X4_keep_28 pl_X4_28 py_X0_init pm_X0_init rfl rfl rfl rfl (fun n17 G18 h => ?_)
    refine r_aast4 h d_X4_keep_31 (fun G19 h => ?_)
    refine r_lv [(0, .ref v0), (1, .ref v1)] (g_allc rfl (g_allc rfl g_alln)) ?_
    exact c_X4_keep_32   h
/-! X4_giveBack -/
theorem d_X4_giveBack_0 : decAL cX4_giveBack 0 0 1 := Or.inr ⟨0, rfl, by decide +kernel, rfl⟩
theorem d_X4_giveBack_1 : dec 3 cX4_giveBack 1 (.getfield 21) 4 := ⟨by decide +kernel, rfl⟩
theorem d_X4_giveBack_4 : decB cX4_giveBack 4 (.ifCond .le 12) (12) 7 16 := ⟨by decide +kernel, rfl, by decide⟩
theorem d_X4_giveBack_7 : decAL cX4_giveBack 7 0 8 := Or.inr ⟨0, rfl, by decide +kernel, rfl⟩
theorem d_X4_giveBack_8 : dec 3 cX4_giveBack 8 (.getfield 21) 11 := ⟨by decide +kernel, rfl⟩
theorem d_X4_giveBack_11 : dec 1 cX4_giveBack 11 (.iconst 1) 12 := ⟨by decide +kernel, rfl⟩
theorem d_X4_giveBack_12 : dec 1 cX4_giveBack 12 .isub 13 := ⟨by decide +kernel, rfl⟩
theorem d_X4_giveBack_13 : decB cX4_giveBack 13 (.goto 5) (5) 16 18 := ⟨by decide +kernel, rfl, by decide⟩
theorem d_X4_giveBack_16 : dec 2 cX4_giveBack 16 (.bipush 7) 18 := ⟨by decide +kernel, rfl⟩
theorem d_X4_giveBack_18 : decIS cX4_giveBack 18 2 19 := Or.inr ⟨2, rfl, by decide +kernel, rfl⟩
theorem d_X4_giveBack_19 : decAL cX4_giveBack 19 0 20 := Or.inr ⟨0, rfl, by decide +kernel, rfl⟩
theorem d_X4_giveBack_20 : dec 3 cX4_giveBack 20 (.getfield 17) 23 := ⟨by decide +kernel, rfl⟩
theorem d_X4_giveBack_23 : decB cX4_giveBack 23 (.ifCond .eq 12) (12) 26 35 := ⟨by decide +kernel, rfl, by decide⟩
theorem d_X4_giveBack_26 : decAL cX4_giveBack 26 0 27 := Or.inr ⟨0, rfl, by decide +kernel, rfl⟩
theorem d_X4_giveBack_27 : dec 3 cX4_giveBack 27 (.getfield 11) 30 := ⟨by decide +kernel, rfl⟩
theorem d_X4_giveBack_30 : decIL cX4_giveBack 30 2 31 := Or.inr ⟨2, rfl, by decide +kernel, rfl⟩
theorem d_X4_giveBack_31 : dec 1 cX4_giveBack 31 .aaload 32 := ⟨by decide +kernel, rfl⟩
theorem d_X4_giveBack_32 : decB cX4_giveBack 32 (.ifnonnull 5) (5) 35 37 := ⟨by decide +kernel, rfl, by decide⟩
theorem d_X4_giveBack_35 : dec 1 cX4_giveBack 35 (.iconst (-1)) 36 := ⟨by decide +kernel, rfl⟩
theorem d_X4_giveBack_36 : dec 1 cX4_giveBack 36 .ireturn 37 := ⟨by decide +kernel, rfl⟩
theorem d_X4_giveBack_37 : decAL cX4_giveBack 37 1 38 := Or.inr ⟨1, rfl, by decide +kernel, rfl⟩
theorem d_X4_giveBack_38 : decAL cX4_giveBack 38 0 39 := Or.inr ⟨0, rfl, by decide +kernel, rfl⟩
theorem d_X4_giveBack_39 : dec 3 cX4_giveBack 39 (.getfield 11) 42 := ⟨by decide +kernel, rfl⟩
theorem d_X4_giveBack_42 : decIL cX4_giveBack 42 2 43 := Or.inr ⟨2, rfl, by decide +kernel, rfl⟩
theorem d_X4_giveBack_43 : dec 1 cX4_giveBack 43 .aaload 44 := ⟨by decide +kernel, rfl⟩
theorem d_X4_giveBack_44 : dec 3 cX4_giveBack 44 (.invokevirtual 31) 47 := ⟨by decide +kernel, rfl⟩
theorem d_X4_giveBack_47 : decAL cX4_giveBack 47 0 48 := Or.inr ⟨0, rfl, by decide +kernel, rfl⟩
theorem d_X4_giveBack_48 : decIL cX4_giveBack 48 2 49 := Or.inr ⟨2, rfl, by decide +kernel, rfl⟩
theorem d_X4_giveBack_49 : dec 3 cX4_giveBack 49 (.putfield 21) 52 := ⟨by decide +kernel, rfl⟩
theorem d_X4_giveBack_52 : decAL cX4_giveBack 52 0 53 := Or.inr ⟨0, rfl, by decide +kernel, rfl⟩
theorem d_X4_giveBack_53 : dec 1 cX4_giveBack 53 .dup 54 := ⟨by decide +kernel, rfl⟩
theorem d_X4_giveBack_54 : dec 3 cX4_giveBack 54 (.getfield 17) 57 := ⟨by decide +kernel, rfl⟩
theorem d_X4_giveBack_57 : dec 1 cX4_giveBack 57 (.iconst 1) 58 := ⟨by decide +kernel, rfl⟩
theorem d_X4_giveBack_58 : dec 1 cX4_giveBack 58 .isub 59 := ⟨by decide +kernel, rfl⟩
theorem d_X4_giveBack_59 : dec 3 cX4_giveBack 59 (.putfield 17) 62 := ⟨by decide +kernel, rfl⟩
theorem d_X4_giveBack_62 : decAL cX4_giveBack 62 0 63 := Or.inr ⟨0, rfl, by decide +kernel, rfl⟩
theorem d_X4_giveBack_63 : dec 3 cX4_giveBack 63 (.getfield 17) 66 := ⟨by decide +kernel, rfl⟩
theorem d_X4_giveBack_66 : dec 1 cX4_giveBack 66 .ireturn 67 := ⟨by decide +kernel, rfl⟩
def k_X4_giveBack_18 (F : Nat)   (v0 : Nat) (v1 : Nat) (s0 : Int32) (n : Nat) (G : GH) : Option (Int32 × Nat × GH) :=
  Option.bind (gI G v0 4 1) (fun (x2 : Int32) =>
  if x2 = 0 then
  (some ((-1 : Int32), n, G))
  else (Option.bind (gR G v0 4 0) (fun (x3 : Nat) =>
  Option.bind (aQ G x3 4 s0) (fun (x4 : Option Nat) =>
  if x4 = none then
  (some ((-1 : Int32), n, G))
  else (Option.bind (gR G v0 4 0) (fun (x5 : Nat) =>
  Option.bind (aN G x5 4 s0) (fun (x6 : Nat) =>
  cvU G v1 0 (f_X0_copyFrom F v1 x6 n G) (fun (n7 : Nat) (G8 : GH) =>
  Option.bind (pV G8 v0 4 2 (.int s0)) (fun (G9 : GH) =>
  Option.bind (gI G9 v0 4 1) (fun (x10 : Int32) =>
  Option.bind (pV G9 v0 4 1 (.int (x10 - (1 : Int32)))) (fun (G11 : GH) =>
  Option.bind (gI G11 v0 4 1) (fun (x12 : Int32) =>
  some (x12, n7, G11)))))))))))))
def f_X4_giveBack (F : Nat)  (v0 : Nat) (v1 : Nat) (n : Nat) (G : GH) : Option (Int32 × Nat × GH) :=
  Option.bind (gI G v0 4 2) (fun (x1 : Int32) =>
  if x1 ≤ 0 then
  (k_X4_giveBack_18 F   v0 v1 (7 : Int32) n G)
  else (Option.bind (gI G v0 4 2) (fun (x13 : Int32) =>
  k_X4_giveBack_18 F   v0 v1 (x13 - (1 : Int32)) n G)))
set_option maxRecDepth 100000 in
set_option maxHeartbeats 4000000 in
theorem c_X4_giveBack_18 {E : GE} {F : Nat}   {v0 : Nat} {v1 : Nat} {s0 : Int32} {n : Nat} {G : GH} {z : Int32 × Nat × GH}   (h : k_X4_giveBack_18 F   v0 v1 s0 n G = some z) : WG E RX4 "giveBack" cX4_giveBack 3 (some .int) 3 82 0 0 18 [(0, .ref v0), (1, .ref v1)] [.int s0] n G (g_O E (some (.int z.1), z.2.1, z.2.2)) := by
  unfold k_X4_giveBack_18 at h
  refine r_istore d_X4_giveBack_18 rfl rfl ?_
  refine r_aload d_X4_giveBack_19 rfl ?_
  refine r_getI h d_X4_giveBack_20 pf_X4_17 (fun x2 h => ?_)
  refine r_if_eq h d_X4_giveBack_23 (fun h => ?_) (fun h => ?_)
  · refine r_iconst d_X4_giveBack_35 ic_m1 ?_
    exact r_iret h d_X4_giveBack_36
  · refine r_aload d_X4_giveBack_26 rfl ?_
    refine r_getR h d_X4_giveBack_27 pf_X4_11 (fun x3 h => ?_)
    refine r_iload d_X4_giveBack_30 rfl ?_
    refine r_aaldq h d_X4_giveBack_31 (Or.inl rfl) (fun x4 h => ?_)
    refine r_ifnonnull h d_X4_giveBack_32 (fun h => ?_) (fun h => ?_)
    · refine r_aload d_X4_giveBack_37 rfl ?_
      refine r_aload d_X4_giveBack_38 rfl ?_
      refine r_getR h d_X4_giveBack_39 pf_X4_11 (fun x5 h => ?_)
      refine r_iload d_X4_giveBack_42 rfl ?_
      refine r_aaldn h d_X4_giveBack_43 (Or.inl rfl) (fun x6 h => ?_)
      refine r_invU [_] h (fun _ hq => s_X0_copyFrom hq) d_X4_giveBack_44 pl_X4_31 py_X0_copyFrom pi_X0_copyFrom rfl rfl rfl (fun n7 G8 h => ?_)
      refine r_aload d_X4_giveBack_47 rfl ?_
      refine r_iload d_X4_giveBack_48 rfl ?_
      refine r_put h d_X4_giveBack_49 pw_X4_21 rfl rfl (fun G9 h => ?_)
      refine r_aload d_X4_giveBack_52 rfl ?_
      refine r_dup d_X4_giveBack_53 rfl ?_
      refine r_getI h d_X4_giveBack_54 pf_X4_17 (fun x10 h => ?_)
      refine r_iconst d_X4_giveBack_57 ic_1 ?_
      refine r_isub d_X4_giveBack_58 ?_
      refine r_put h d_X4_giveBack_59 pw_X4_17 rfl rfl (fun G11 h => ?_)
      refine r_aload d_X4_giveBack_62 rfl ?_
      refine r_getI h d_X4_giveBack_63 pf_X4_17 (fun x12 h => ?_)
      exact r_iret h d_X4_giveBack_66
    · refine r_iconst d_X4_giveBack_35 ic_m1 ?_
      exact r_iret h d_X4_giveBack_36
set_option maxRecDepth 100000 in
set_option maxHeartbeats 4000000 in
theorem s_X4_giveBack {E : GE} {F : Nat}  {v0 : Nat} {v1 : Nat} {n : Nat} {G : GH} {z : Int32 × Nat × GH}  (h : f_X4_giveBack F  v0 v1 n G = some z) : GM E yX4_giveBack cX4_giveBack 3 (some .int) 3 82 0 0 [.ref v0, .ref v1] n G (some (.int z.1), z.2.1, z.2.2) := by
  refine GM.of (by decide) (Nat.le_of_ble_eq_true rfl) ?_
  show WG E RX4 "giveBack" cX4_giveBack 3 (some .int) 3 82 0 0 0 [(0, .ref v0), (1, .ref v1)] [] n G (g_O E (some (.int z.1), z.2.1, z.2.2))
  unfold f_X4_giveBack at h
  refine r_aload d_X4_giveBack_0 rfl ?_
  refine r_getI h d_X4_giveBack_1 pf_X4_21 (fun x1 h => ?_)
  refine r_if_le h d_X4_giveBack_4 (fun h => ?_) (fun h => ?_)
  · refine r_bipush d_X4_giveBack_16 bp_7 ?_
    refine r_lv [(0, .ref v0), (1, .ref v1)] (g_allc rfl (g_allc rfl g_alln)) ?_
    exact c_X4_giveBack_18   h
  · refine r_aload d_X4_giveBack_7 rfl ?_
    refine r_getI h d_X4_giveBack_8 pf_X4_21 (fun x13 h => ?_)
    refine r_iconst d_X4_giveBack_11 ic_1 ?_
    refine r_isub d_X4_giveBack_12 ?_
    refine r_goto d_X4_giveBack_13 ?_
    refine r_lv [(0, .ref v0), (1, .ref v1)] (g_allc rfl (g_allc rfl g_alln)) ?_
    exact c_X4_giveBack_18   h
/-! X4_clear -/
theorem d_X4_clear_0 : decAL cX4_clear 0 0 1 := Or.inr ⟨0, rfl, by decide +kernel, rfl⟩
theorem d_X4_clear_1 : dec 1 cX4_clear 1 (.iconst 0) 2 := ⟨by decide +kernel, rfl⟩
theorem d_X4_clear_2 : dec 3 cX4_clear 2 (.putfield 17) 5 := ⟨by decide +kernel, rfl⟩
theorem d_X4_clear_5 : dec 1 cX4_clear 5 .return_ 6 := ⟨by decide +kernel, rfl⟩
def f_X4_clear (F : Nat)  (v0 : Nat) (n : Nat) (G : GH) : Option (Nat × GH) :=
  Option.bind (pV G v0 4 1 (.int (0 : Int32))) (fun (G1 : GH) =>
  some (n, G1))
set_option maxRecDepth 100000 in
set_option maxHeartbeats 4000000 in
theorem s_X4_clear {E : GE} {F : Nat}  {v0 : Nat} {n : Nat} {G : GH} {z : Nat × GH}  (h : f_X4_clear F  v0 n G = some z) : GM E yX4_clear cX4_clear 1 none 0 0 0 0 [.ref v0] n G (none, z.1, z.2) := by
  refine GM.of (by decide) (Nat.le_of_ble_eq_true rfl) ?_
  show WG E RX4 "clear" cX4_clear 1 none 0 0 0 0 0 [(0, .ref v0)] [] n G (g_O E (none, z.1, z.2))
  unfold f_X4_clear at h
  refine r_aload d_X4_clear_0 rfl ?_
  refine r_iconst d_X4_clear_1 ic_0 ?_
  refine r_put h d_X4_clear_2 pw_X4_17 rfl rfl (fun G1 h => ?_)
  exact r_vret h d_X4_clear_5
