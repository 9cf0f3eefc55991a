/-! J7_fill_53178 -/
theorem d_J7_fill_53178_0 : dec 1 cJ7_fill_53178 0 (.iconst 0) 1 := ⟨by decide +kernel, rfl⟩
theorem d_J7_fill_53178_1 : decIS cJ7_fill_53178 1 2 2 := Or.inr ⟨2, rfl, by decide +kernel, rfl⟩
theorem d_J7_fill_53178_2 : decAL cJ7_fill_53178 2 0 3 := Or.inr ⟨0, rfl, by decide +kernel, rfl⟩
theorem d_J7_fill_53178_3 : dec 1 cJ7_fill_53178 3 .arraylength 4 := ⟨by decide +kernel, rfl⟩
theorem d_J7_fill_53178_4 : decIS cJ7_fill_53178 4 3 5 := Or.inr ⟨3, rfl, by decide +kernel, rfl⟩
theorem d_J7_fill_53178_5 : decIL cJ7_fill_53178 5 2 6 := Or.inr ⟨2, rfl, by decide +kernel, rfl⟩
theorem d_J7_fill_53178_6 : decIL cJ7_fill_53178 6 3 7 := Or.inr ⟨3, rfl, by decide +kernel, rfl⟩
theorem d_J7_fill_53178_7 : decB cJ7_fill_53178 7 (.if_icmp .ge 13) (13) 10 20 := ⟨by decide +kernel, rfl, by decide⟩
theorem d_J7_fill_53178_10 : decAL cJ7_fill_53178 10 0 11 := Or.inr ⟨0, rfl, by decide +kernel, rfl⟩
theorem d_J7_fill_53178_11 : decIL cJ7_fill_53178 11 2 12 := Or.inr ⟨2, rfl, by decide +kernel, rfl⟩
theorem d_J7_fill_53178_12 : decIL cJ7_fill_53178 12 1 13 := Or.inr ⟨1, rfl, by decide +kernel, rfl⟩
theorem d_J7_fill_53178_13 : dec 1 cJ7_fill_53178 13 .iastore 14 := ⟨by decide +kernel, rfl⟩
theorem d_J7_fill_53178_14 : dec 3 cJ7_fill_53178 14 (.iinc 2 1) 17 := ⟨by decide +kernel, rfl⟩
theorem d_J7_fill_53178_17 : decB cJ7_fill_53178 17 (.goto (-12)) (-12) 20 5 := ⟨by decide +kernel, rfl, by decide⟩
theorem d_J7_fill_53178_20 : dec 1 cJ7_fill_53178 20 .return_ 21 := ⟨by decide +kernel, rfl⟩
def b_J7_fill_53178_5 (F : Nat)   (v0 : Nat) (v1 : Int32) (v3 : Int32) (rec5 : Int32 → Nat → GH → Option (Nat × GH)) : Int32 → Nat → GH → Option (Nat × GH) := fun v2 n G =>
  if v3 ≤ v2 then
  (some (n, G))
  else (Option.bind (aS G v0 0 v2 v1) (fun (G2 : GH) =>
  rec5 (v2 + 1) n G2))
def f_J7_fill_53178 (F : Nat)  (v0 : Nat) (v1 : Int32) (n : Nat) (G : GH) : Option (Nat × GH) :=
  Option.bind (aL G v0) (fun (x1 : Int32) =>
  fixN (fun _ _ _ => none) (b_J7_fill_53178_5 F   v0 v1 x1) F (0 : Int32) n G)
set_option maxRecDepth 100000 in
set_option maxHeartbeats 4000000 in
theorem l_J7_fill_53178_5 {E : GE} {F : Nat}   {v0 : Nat} {v1 : Int32} {v3 : Int32}   : ∀ (K : Nat) (v2 : Int32) (n : Nat) (G : GH) (z : Nat × GH), fixN ((fun _ _ _ => none) : Int32 → Nat → GH → Option (Nat × GH)) (b_J7_fill_53178_5 F   v0 v1 v3) K v2 n G = some z → WG E RJ7 "fill" cJ7_fill_53178 4 none 0 0 0 0 5 [(0, .ref v0), (1, .int v1), (2, .int v2), (3, .int v3)] [] n G (g_O E (none, z.1, z.2)) := by
  intro K
  refine fixN_ind (P := fun (r : Int32 → Nat → GH → Option (Nat × GH)) => ∀ (v2 : Int32) (n : Nat) (G : GH) (z : Nat × GH), r v2 n G = some z → WG E RJ7 "fill" cJ7_fill_53178 4 none 0 0 0 0 5 [(0, .ref v0), (1, .int v1), (2, .int v2), (3, .int v3)] [] n G (g_O E (none, z.1, z.2))) ?_ ?_ K
  · intro v2 n G z h
    cases h
  · intro rec5 hrec5 v2 n G z h
    unfold b_J7_fill_53178_5 at h
    refine r_iload d_J7_fill_53178_5 rfl ?_
    refine r_iload d_J7_fill_53178_6 rfl ?_
    refine r_icmp_ge h d_J7_fill_53178_7 (fun h => ?_) (fun h => ?_)
    · exact r_vret h d_J7_fill_53178_20
    · refine r_aload d_J7_fill_53178_10 rfl ?_
      refine r_iload d_J7_fill_53178_11 rfl ?_
      refine r_iload d_J7_fill_53178_12 rfl ?_
      refine r_iast h d_J7_fill_53178_13 (fun G2 h => ?_)
      refine r_iinc d_J7_fill_53178_14 rfl (ii_1 _) rfl rfl ?_
      refine r_goto d_J7_fill_53178_17 ?_
      refine r_lv [(0, .ref v0), (1, .int v1), (2, .int (v2 + 1)), (3, .int v3)] (g_allc rfl (g_allc rfl (g_allc rfl (g_allc rfl g_alln)))) ?_
      exact hrec5 _ _ _ _ h
set_option maxRecDepth 100000 in
set_option maxHeartbeats 4000000 in
theorem s_J7_fill_53178 {E : GE} {F : Nat}  {v0 : Nat} {v1 : Int32} {n : Nat} {G : GH} {z : Nat × GH}  (h : f_J7_fill_53178 F  v0 v1 n G = some z) : GM E yJ7_fill_53178 cJ7_fill_53178 4 none 0 0 0 0 [.ref v0, .int v1] n G (none, z.1, z.2) := by
  refine GM.of (by decide) (Nat.le_of_ble_eq_true rfl) ?_
  show WG E RJ7 "fill" cJ7_fill_53178 4 none 0 0 0 0 0 [(0, .ref v0), (1, .int v1)] [] n G (g_O E (none, z.1, z.2))
  unfold f_J7_fill_53178 at h
  refine r_iconst d_J7_fill_53178_0 ic_0 ?_
  refine r_istore d_J7_fill_53178_1 rfl rfl ?_
  refine r_aload d_J7_fill_53178_2 rfl ?_
  refine r_alen h d_J7_fill_53178_3 (fun x1 h => ?_)
  refine r_istore d_J7_fill_53178_4 rfl rfl ?_
  refine r_lv [(0, .ref v0), (1, .int v1), (2, .int (0 : Int32)), (3, .int x1)] (g_allc rfl (g_allc rfl (g_allc rfl (g_allc rfl g_alln)))) ?_
  exact l_J7_fill_53178_5   _ _ _ _ _ h
/-! X3_init -/
theorem qol_X3_3 : Cond.methodLink RX3 3 objectInit ∈ g_tbl := g_in 176 (by decide +kernel) rfl
theorem pw_X3_9 {nm : String} : pW RX3 nm 9 3 0 .int := ⟨RX3, TX3, 9, rfl, by decide, rfl, Or.inl ⟨g_in 177 (by decide +kernel) rfl, Or.inl rfl⟩, by decide +kernel⟩
theorem pw_X3_15 : pW RX3 "<init>" 15 3 1 (.array .int) := ⟨RX3, TX3, 9, rfl, by decide, rfl, Or.inl ⟨g_in 181 (by decide +kernel) rfl, Or.inr ⟨rfl, rfl, rfl⟩⟩, by decide +kernel⟩
theorem pw_X3_19 : pW RX3 "<init>" 19 3 2 (.array .int) := ⟨RX3, TX3, 9, rfl, by decide, rfl, Or.inl ⟨g_in 185 (by decide +kernel) rfl, Or.inr ⟨rfl, rfl, rfl⟩⟩, by decide +kernel⟩
theorem pw_X3_22 : pW RX3 "<init>" 22 3 3 (.array .int) := ⟨RX3, TX3, 9, rfl, by decide, rfl, Or.inl ⟨g_in 189 (by decide +kernel) rfl, Or.inr ⟨rfl, rfl, rfl⟩⟩, by decide +kernel⟩
theorem pw_X3_25 : pW RX3 "<init>" 25 3 4 (.array .int) := ⟨RX3, TX3, 9, rfl, by decide, rfl, Or.inl ⟨g_in 193 (by decide +kernel) rfl, Or.inr ⟨rfl, rfl, rfl⟩⟩, by decide +kernel⟩
theorem pw_X3_28 : pW RX3 "<init>" 28 3 5 (.array .boolean) := ⟨RX3, TX3, 9, rfl, by decide, rfl, Or.inl ⟨g_in 197 (by decide +kernel) rfl, Or.inr ⟨rfl, rfl, rfl⟩⟩, by decide +kernel⟩
theorem pw_X3_32 : pW RX3 "<init>" 32 3 6 (.array .int) := ⟨RX3, TX3, 9, rfl, by decide, rfl, Or.inl ⟨g_in 201 (by decide +kernel) rfl, Or.inr ⟨rfl, rfl, rfl⟩⟩, by decide +kernel⟩
theorem pw_X3_35 : pW RX3 "<init>" 35 3 7 (.array .int) := ⟨RX3, TX3, 9, rfl, by decide, rfl, Or.inl ⟨g_in 205 (by decide +kernel) rfl, Or.inr ⟨rfl, rfl, rfl⟩⟩, by decide +kernel⟩
theorem pw_X3_38 : pW RX3 "<init>" 38 3 8 (.array .int) := ⟨RX3, TX3, 9, rfl, by decide, rfl, Or.inl ⟨g_in 207 (by decide +kernel) rfl, Or.inr ⟨rfl, rfl, rfl⟩⟩, by decide +kernel⟩
theorem d_X3_init_0 : decAL cX3_init 0 0 1 := Or.inr ⟨0, rfl, by decide +kernel, rfl⟩
theorem d_X3_init_1 : dec 3 cX3_init 1 (.invokespecial 3) 4 := ⟨by decide +kernel, rfl⟩
theorem d_X3_init_4 : decAL cX3_init 4 0 5 := Or.inr ⟨0, rfl, by decide +kernel, rfl⟩
theorem d_X3_init_5 : dec 1 cX3_init 5 (.iconst 0) 6 := ⟨by decide +kernel, rfl⟩
theorem d_X3_init_6 : dec 3 cX3_init 6 (.putfield 9) 9 := ⟨by decide +kernel, rfl⟩
theorem d_X3_init_9 : decAL cX3_init 9 0 10 := Or.inr ⟨0, rfl, by decide +kernel, rfl⟩
theorem d_X3_init_10 : dec 2 cX3_init 10 (.bipush 12) 12 := ⟨by decide +kernel, rfl⟩
theorem d_X3_init_12 : dec 2 cX3_init 12 (.newarray .int) 14 := ⟨by decide +kernel, rfl⟩
theorem d_X3_init_14 : dec 3 cX3_init 14 (.putfield 15) 17 := ⟨by decide +kernel, rfl⟩
theorem d_X3_init_17 : decAL cX3_init 17 0 18 := Or.inr ⟨0, rfl, by decide +kernel, rfl⟩
theorem d_X3_init_18 : dec 2 cX3_init 18 (.bipush 12) 20 := ⟨by decide +kernel, rfl⟩
theorem d_X3_init_20 : dec 2 cX3_init 20 (.newarray .int) 22 := ⟨by decide +kernel, rfl⟩
theorem d_X3_init_22 : dec 3 cX3_init 22 (.putfield 19) 25 := ⟨by decide +kernel, rfl⟩
theorem d_X3_init_25 : decAL cX3_init 25 0 26 := Or.inr ⟨0, rfl, by decide +kernel, rfl⟩
theorem d_X3_init_26 : dec 2 cX3_init 26 (.bipush 12) 28 := ⟨by decide +kernel, rfl⟩
theorem d_X3_init_28 : dec 2 cX3_init 28 (.newarray .int) 30 := ⟨by decide +kernel, rfl⟩
theorem d_X3_init_30 : dec 3 cX3_init 30 (.putfield 22) 33 := ⟨by decide +kernel, rfl⟩
theorem d_X3_init_33 : decAL cX3_init 33 0 34 := Or.inr ⟨0, rfl, by decide +kernel, rfl⟩
theorem d_X3_init_34 : dec 2 cX3_init 34 (.bipush 12) 36 := ⟨by decide +kernel, rfl⟩
theorem d_X3_init_36 : dec 2 cX3_init 36 (.newarray .int) 38 := ⟨by decide +kernel, rfl⟩
theorem d_X3_init_38 : dec 3 cX3_init 38 (.putfield 25) 41 := ⟨by decide +kernel, rfl⟩
theorem d_X3_init_41 : decAL cX3_init 41 0 42 := Or.inr ⟨0, rfl, by decide +kernel, rfl⟩
theorem d_X3_init_42 : dec 2 cX3_init 42 (.bipush 12) 44 := ⟨by decide +kernel, rfl⟩
theorem d_X3_init_44 : dec 2 cX3_init 44 (.newarray .boolean) 46 := ⟨by decide +kernel, rfl⟩
theorem d_X3_init_46 : dec 3 cX3_init 46 (.putfield 28) 49 := ⟨by decide +kernel, rfl⟩
theorem d_X3_init_49 : decAL cX3_init 49 0 50 := Or.inr ⟨0, rfl, by decide +kernel, rfl⟩
theorem d_X3_init_50 : dec 2 cX3_init 50 (.bipush 12) 52 := ⟨by decide +kernel, rfl⟩
theorem d_X3_init_52 : dec 2 cX3_init 52 (.newarray .int) 54 := ⟨by decide +kernel, rfl⟩
theorem d_X3_init_54 : dec 3 cX3_init 54 (.putfield 32) 57 := ⟨by decide +kernel, rfl⟩
theorem d_X3_init_57 : decAL cX3_init 57 0 58 := Or.inr ⟨0, rfl, by decide +kernel, rfl⟩
theorem d_X3_init_58 : dec 2 cX3_init 58 (.bipush 12) 60 := ⟨by decide +kernel, rfl⟩
theorem d_X3_init_60 : dec 2 cX3_init 60 (.newarray .int) 62 := ⟨by decide +kernel, rfl⟩
theorem d_X3_init_62 : dec 3 cX3_init 62 (.putfield 35) 65 := ⟨by decide +kernel, rfl⟩
theorem d_X3_init_65 : decAL cX3_init 65 0 66 := Or.inr ⟨0, rfl, by decide +kernel, rfl⟩
theorem d_X3_init_66 : dec 2 cX3_init 66 (.bipush 48) 68 := ⟨by decide +kernel, rfl⟩
theorem d_X3_init_68 : dec 2 cX3_init 68 (.newarray .int) 70 := ⟨by decide +kernel, rfl⟩
theorem d_X3_init_70 : dec 3 cX3_init 70 (.putfield 38) 73 := ⟨by decide +kernel, rfl⟩
theorem d_X3_init_73 : dec 1 cX3_init 73 .return_ 74 := ⟨by decide +kernel, rfl⟩
def f_X3_init (F : Nat)  (v0 : Nat) (n : Nat) (G : GH) : Option (Nat × GH) :=
  Option.bind (pV G v0 3 0 (.int (0 : Int32))) (fun (G1 : GH) =>
  Option.bind (pV (gset G1 n (.inl (0, 12, .inl (fun _ => 0)))) v0 3 1 (.ref n)) (fun (G2 : GH) =>
  Option.bind (pV (gset G2 (n + 1) (.inl (0, 12, .inl (fun _ => 0)))) v0 3 2 (.ref (n + 1))) (fun (G3 : GH) =>
  Option.bind (pV (gset G3 ((n + 1) + 1) (.inl (0, 12, .inl (fun _ => 0)))) v0 3 3 (.ref ((n + 1) + 1))) (fun (G4 : GH) =>
  Option.bind (pV (gset G4 (((n + 1) + 1) + 1) (.inl (0, 12, .inl (fun _ => 0)))) v0 3 4 (.ref (((n + 1) + 1) + 1))) (fun (G5 : GH) =>
  Option.bind (pV (gset G5 ((((n + 1) + 1) + 1) + 1) (.inl (2, 12, .inl (fun _ => 0)))) v0 3 5 (.ref ((((n + 1) + 1) + 1) + 1))) (fun (G6 : GH) =>
  Option.bind (pV (gset G6 (((((n + 1) + 1) + 1) + 1) + 1) (.inl (0, 12, .inl (fun _ => 0)))) v0 3 6 (.ref (((((n + 1) + 1) + 1) + 1) + 1))) (fun (G7 : GH) =>
  Option.bind (pV (gset G7 ((((((n + 1) + 1) + 1) + 1) + 1) + 1) (.inl (0, 12, .inl (fun _ => 0)))) v0 3 7 (.ref ((((((n + 1) + 1) + 1) + 1) + 1) + 1))) (fun (G8 : GH) =>
  Option.bind (pV (gset G8 (((((((n + 1) + 1) + 1) + 1) + 1) + 1) + 1) (.inl (0, 48, .inl (fun _ => 0)))) v0 3 8 (.ref (((((((n + 1) + 1) + 1) + 1) + 1) + 1) + 1))) (fun (G9 : GH) =>
  some ((((((((n + 1) + 1) + 1) + 1) + 1) + 1) + 1) + 1, G9))))))))))
set_option maxRecDepth 100000 in
set_option maxHeartbeats 4000000 in
theorem s_X3_init {E : GE} {F : Nat}  {v0 : Nat} {n : Nat} {G : GH} {z : Nat × GH}  (h : f_X3_init F  v0 n G = some z) : GM E yX3_init cX3_init 1 none 1 40 8 132 [.ref v0] n G (none, z.1, z.2) := by
  refine GM.of (by decide) (Nat.le_of_ble_eq_true rfl) ?_
  show WG E RX3 "<init>" cX3_init 1 none 1 40 8 132 0 [(0, .ref v0)] [] n G (g_O E (none, z.1, z.2))
  unfold f_X3_init at h
  refine r_aload d_X3_init_0 rfl ?_
  refine r_obj d_X3_init_1 qol_X3_3 qoi qoc rfl rfl ?_
  refine r_aload d_X3_init_4 rfl ?_
  refine r_iconst d_X3_init_5 ic_0 ?_
  refine r_put h d_X3_init_6 pw_X3_9 rfl rfl (fun G1 h => ?_)
  refine r_aload d_X3_init_9 rfl ?_
  refine r_bipush d_X3_init_10 bp_12 ?_
  refine r_newaI (N := 12) d_X3_init_12 qa_int (by decide) (by decide) rfl rfl rfl ?_
  refine r_put h d_X3_init_14 pw_X3_15 rfl rfl (fun G2 h => ?_)
  refine r_aload d_X3_init_17 rfl ?_
  refine r_bipush d_X3_init_18 bp_12 ?_
  refine r_newaI (N := 12) d_X3_init_20 qa_int (by decide) (by decide) rfl rfl rfl ?_
  refine r_put h d_X3_init_22 pw_X3_19 rfl rfl (fun G3 h => ?_)
  refine r_aload d_X3_init_25 rfl ?_
  refine r_bipush d_X3_init_26 bp_12 ?_
  refine r_newaI (N := 12) d_X3_init_28 qa_int (by decide) (by decide) rfl rfl rfl ?_
  refine r_put h d_X3_init_30 pw_X3_22 rfl rfl (fun G4 h => ?_)
  refine r_aload d_X3_init_33 rfl ?_
  refine r_bipush d_X3_init_34 bp_12 ?_
  refine r_newaI (N := 12) d_X3_init_36 qa_int (by decide) (by decide) rfl rfl rfl ?_
  refine r_put h d_X3_init_38 pw_X3_25 rfl rfl (fun G5 h => ?_)
  refine r_aload d_X3_init_41 rfl ?_
  refine r_bipush d_X3_init_42 bp_12 ?_
  refine r_newaZ (N := 12) d_X3_init_44 qa_boolean (by decide) (by decide) rfl rfl rfl ?_
  refine r_put h d_X3_init_46 pw_X3_28 rfl rfl (fun G6 h => ?_)
  refine r_aload d_X3_init_49 rfl ?_
  refine r_bipush d_X3_init_50 bp_12 ?_
  refine r_newaI (N := 12) d_X3_init_52 qa_int (by decide) (by decide) rfl rfl rfl ?_
  refine r_put h d_X3_init_54 pw_X3_32 rfl rfl (fun G7 h => ?_)
  refine r_aload d_X3_init_57 rfl ?_
  refine r_bipush d_X3_init_58 bp_12 ?_
  refine r_newaI (N := 12) d_X3_init_60 qa_int (by decide) (by decide) rfl rfl rfl ?_
  refine r_put h d_X3_init_62 pw_X3_35 rfl rfl (fun G8 h => ?_)
  refine r_aload d_X3_init_65 rfl ?_
  refine r_bipush d_X3_init_66 bp_48 ?_
  refine r_newaI (N := 48) d_X3_init_68 qa_int (by decide) (by decide) rfl rfl rfl ?_
  refine r_put h d_X3_init_70 pw_X3_38 rfl rfl (fun G9 h => ?_)
  exact r_vret h d_X3_init_73
/-! X3_holds -/
theorem pf_X3_9 : pF RX3 9 3 0 := ⟨RX3, TX3, 9, rfl, by decide, rfl, Or.inl (g_in 177 (by decide +kernel) rfl)⟩
theorem d_X3_holds_0 : decIL cX3_holds 0 1 1 := Or.inr ⟨1, rfl, by decide +kernel, rfl⟩
theorem d_X3_holds_1 : decB cX3_holds 1 (.ifCond .lt 15) (15) 4 16 := ⟨by decide +kernel, rfl, by decide⟩
theorem d_X3_holds_4 : decIL cX3_holds 4 1 5 := Or.inr ⟨1, rfl, by decide +kernel, rfl⟩
theorem d_X3_holds_5 : decAL cX3_holds 5 0 6 := Or.inr ⟨0, rfl, by decide +kernel, rfl⟩
theorem d_X3_holds_6 : dec 3 cX3_holds 6 (.getfield 9) 9 := ⟨by decide +kernel, rfl⟩
theorem d_X3_holds_9 : decB cX3_holds 9 (.if_icmp .ge 7) (7) 12 16 := ⟨by decide +kernel, rfl, by decide⟩
theorem d_X3_holds_12 : dec 1 cX3_holds 12 (.iconst 1) 13 := ⟨by decide +kernel, rfl⟩
theorem d_X3_holds_13 : decB cX3_holds 13 (.goto 4) (4) 16 17 := ⟨by decide +kernel, rfl, by decide⟩
theorem d_X3_holds_16 : dec 1 cX3_holds 16 (.iconst 0) 17 := ⟨by decide +kernel, rfl⟩
theorem d_X3_holds_17 : dec 1 cX3_holds 17 .ireturn 18 := ⟨by decide +kernel, rfl⟩
def f_X3_holds (F : Nat)  (v0 : Nat) (v1 : Int32) (G : GH) : Option (Int32) :=
  if v1 < 0 then
  (rP .boolean (0 : Int32))
  else (Option.bind (gI G v0 3 0) (fun (x1 : Int32) =>
  if x1 ≤ v1 then
  (rP .boolean (0 : Int32))
  else (rP .boolean (1 : Int32))))
set_option maxRecDepth 100000 in
set_option maxHeartbeats 4000000 in
theorem s_X3_holds {E : GE} {F : Nat}  {v0 : Nat} {v1 : Int32} {n : Nat} {G : GH} {z : Int32}  (h : f_X3_holds F  v0 v1 G = some z) : GM E yX3_holds cX3_holds 2 (some .boolean) 0 0 0 0 [.ref v0, .int v1] n G (some (.int z), n, G) := by
  refine GM.of (by decide) (Nat.le_of_ble_eq_true rfl) ?_
  show WG E RX3 "holds" cX3_holds 2 (some .boolean) 0 0 0 0 0 [(0, .ref v0), (1, .int v1)] [] n G (g_O E (some (.int z), n, G))
  unfold f_X3_holds at h
  refine r_iload d_X3_holds_0 rfl ?_
  refine r_if_lt h d_X3_holds_1 (fun h => ?_) (fun h => ?_)
  · refine r_iconst d_X3_holds_16 ic_0 ?_
    exact r_pzret h d_X3_holds_17
  · refine r_iload d_X3_holds_4 rfl ?_
    refine r_aload d_X3_holds_5 rfl ?_
    refine r_getI h d_X3_holds_6 pf_X3_9 (fun x1 h => ?_)
    refine r_icmp_ge h d_X3_holds_9 (fun h => ?_) (fun h => ?_)
    · refine r_iconst d_X3_holds_16 ic_0 ?_
      exact r_pzret h d_X3_holds_17
    · refine r_iconst d_X3_holds_12 ic_1 ?_
      refine r_goto d_X3_holds_13 ?_
      exact r_pzret h d_X3_holds_17
/-! X3_addNeed -/
theorem pf_X3_32 : pF RX3 32 3 6 := ⟨RX3, TX3, 9, rfl, by decide, rfl, Or.inl (g_in 201 (by decide +kernel) rfl)⟩
theorem pf_X3_38 : pF RX3 38 3 8 := ⟨RX3, TX3, 9, rfl, by decide, rfl, Or.inl (g_in 207 (by decide +kernel) rfl)⟩
theorem pf_X3_35 : pF RX3 35 3 7 := ⟨RX3, TX3, 9, rfl, by decide, rfl, Or.inl (g_in 205 (by decide +kernel) rfl)⟩
theorem d_X3_addNeed_0 : decAL cX3_addNeed 0 0 1 := Or.inr ⟨0, rfl, by decide +kernel, rfl⟩
theorem d_X3_addNeed_1 : dec 3 cX3_addNeed 1 (.getfield 32) 4 := ⟨by decide +kernel, rfl⟩
theorem d_X3_addNeed_4 : decIL cX3_addNeed 4 1 5 := Or.inr ⟨1, rfl, by decide +kernel, rfl⟩
theorem d_X3_addNeed_5 : dec 1 cX3_addNeed 5 .iaload 6 := ⟨by decide +kernel, rfl⟩
theorem d_X3_addNeed_6 : decIS cX3_addNeed 6 4 8 := Or.inl ⟨by decide +kernel, rfl⟩
theorem d_X3_addNeed_8 : decIL cX3_addNeed 8 4 10 := Or.inl ⟨by decide +kernel, rfl⟩
theorem d_X3_addNeed_10 : dec 1 cX3_addNeed 10 (.iconst 4) 11 := ⟨by decide +kernel, rfl⟩
theorem d_X3_addNeed_11 : decB cX3_addNeed 11 (.if_icmp .lt 4) (4) 14 15 := ⟨by decide +kernel, rfl, by decide⟩
theorem d_X3_addNeed_14 : dec 1 cX3_addNeed 14 .return_ 15 := ⟨by decide +kernel, rfl⟩
theorem d_X3_addNeed_15 : decAL cX3_addNeed 15 0 16 := Or.inr ⟨0, rfl, by decide +kernel, rfl⟩
theorem d_X3_addNeed_16 : dec 3 cX3_addNeed 16 (.getfield 38) 19 := ⟨by decide +kernel, rfl⟩
theorem d_X3_addNeed_19 : decIL cX3_addNeed 19 1 20 := Or.inr ⟨1, rfl, by decide +kernel, rfl⟩
theorem d_X3_addNeed_20 : dec 1 cX3_addNeed 20 (.iconst 4) 21 := ⟨by decide +kernel, rfl⟩
theorem d_X3_addNeed_21 : dec 1 cX3_addNeed 21 .imul 22 := ⟨by decide +kernel, rfl⟩
theorem d_X3_addNeed_22 : decIL cX3_addNeed 22 4 24 := Or.inl ⟨by decide +kernel, rfl⟩
theorem d_X3_addNeed_24 : dec 1 cX3_addNeed 24 .iadd 25 := ⟨by decide +kernel, rfl⟩
theorem d_X3_addNeed_25 : decIL cX3_addNeed 25 2 26 := Or.inr ⟨2, rfl, by decide +kernel, rfl⟩
theorem d_X3_addNeed_26 : dec 1 cX3_addNeed 26 .iastore 27 := ⟨by decide +kernel, rfl⟩
theorem d_X3_addNeed_27 : decIL cX3_addNeed 27 3 28 := Or.inr ⟨3, rfl, by decide +kernel, rfl⟩
theorem d_X3_addNeed_28 : decB cX3_addNeed 28 (.ifCond .eq 16) (16) 31 44 := ⟨by decide +kernel, rfl, by decide⟩
theorem d_X3_addNeed_31 : decAL cX3_addNeed 31 0 32 := Or.inr ⟨0, rfl, by decide +kernel, rfl⟩
theorem d_X3_addNeed_32 : dec 3 cX3_addNeed 32 (.getfield 35) 35 := ⟨by decide +kernel, rfl⟩
theorem d_X3_addNeed_35 : decIL cX3_addNeed 35 1 36 := Or.inr ⟨1, rfl, by decide +kernel, rfl⟩
theorem d_X3_addNeed_36 : dec 1 cX3_addNeed 36 .dup2 37 := ⟨by decide +kernel, rfl⟩
theorem d_X3_addNeed_37 : dec 1 cX3_addNeed 37 .iaload 38 := ⟨by decide +kernel, rfl⟩
theorem d_X3_addNeed_38 : dec 1 cX3_addNeed 38 (.iconst 1) 39 := ⟨by decide +kernel, rfl⟩
theorem d_X3_addNeed_39 : decIL cX3_addNeed 39 4 41 := Or.inl ⟨by decide +kernel, rfl⟩
theorem d_X3_addNeed_41 : dec 1 cX3_addNeed 41 .ishl 42 := ⟨by decide +kernel, rfl⟩
theorem d_X3_addNeed_42 : dec 1 cX3_addNeed 42 .ior 43 := ⟨by decide +kernel, rfl⟩
theorem d_X3_addNeed_43 : dec 1 cX3_addNeed 43 .iastore 44 := ⟨by decide +kernel, rfl⟩
theorem d_X3_addNeed_44 : decAL cX3_addNeed 44 0 45 := Or.inr ⟨0, rfl, by decide +kernel, rfl⟩
theorem d_X3_addNeed_45 : dec 3 cX3_addNeed 45 (.getfield 32) 48 := ⟨by decide +kernel, rfl⟩
theorem d_X3_addNeed_48 : decIL cX3_addNeed 48 1 49 := Or.inr ⟨1, rfl, by decide +kernel, rfl⟩
theorem d_X3_addNeed_49 : decIL cX3_addNeed 49 4 51 := Or.inl ⟨by decide +kernel, rfl⟩
theorem d_X3_addNeed_51 : dec 1 cX3_addNeed 51 (.iconst 1) 52 := ⟨by decide +kernel, rfl⟩
theorem d_X3_addNeed_52 : dec 1 cX3_addNeed 52 .iadd 53 := ⟨by decide +kernel, rfl⟩
theorem d_X3_addNeed_53 : dec 1 cX3_addNeed 53 .iastore 54 := ⟨by decide +kernel, rfl⟩
theorem d_X3_addNeed_54 : dec 1 cX3_addNeed 54 .return_ 55 := ⟨by decide +kernel, rfl⟩
def k_X3_addNeed_44 (F : Nat)   (v0 : Nat) (v1 : Int32) (v4 : Int32)  (n : Nat) (G : GH) : Option (Nat × GH) :=
  Option.bind (gR G v0 3 6) (fun (x5 : Nat) =>
  Option.bind (aS G x5 0 v1 (v4 + (1 : Int32))) (fun (G6 : GH) =>
  some (n, G6)))
def f_X3_addNeed (F : Nat)  (v0 : Nat) (v1 : Int32) (v2 : Int32) (v3 : Int32) (n : Nat) (G : GH) : Option (Nat × GH) :=
  Option.bind (gR G v0 3 6) (fun (x1 : Nat) =>
  Option.bind (aI G x1 0 v1) (fun (x2 : Int32) =>
  if x2 < (4 : Int32) then
  (Option.bind (gR G v0 3 8) (fun (x3 : Nat) =>
  Option.bind (aS G x3 0 ((v1 * (4 : Int32)) + x2) v2) (fun (G4 : GH) =>
  if v3 = 0 then
  (k_X3_addNeed_44 F   v0 v1 x2 n G4)
  else (Option.bind (gR G4 v0 3 7) (fun (x7 : Nat) =>
  Option.bind (aI G4 x7 0 v1) (fun (x8 : Int32) =>
  Option.bind (aS G4 x7 0 v1 (x8 ||| ((1 : Int32) <<< (x2 &&& 31)))) (fun (G9 : GH) =>
  k_X3_addNeed_44 F   v0 v1 x2 n G9)))))))
  else (some (n, G))))
set_option maxRecDepth 100000 in
set_option maxHeartbeats 4000000 in
theorem c_X3_addNeed_44 {E : GE} {F : Nat}   {v0 : Nat} {v1 : Int32} {v4 : Int32}  {n : Nat} {G : GH} {z : Nat × GH}   (h : k_X3_addNeed_44 F   v0 v1 v4  n G = some z) : WG E RX3 "addNeed" cX3_addNeed 5 none 0 0 0 0 44 [(0, .ref v0), (1, .int v1), (4, .int v4)] [] n G (g_O E (none, z.1, z.2)) := by
  unfold k_X3_addNeed_44 at h
  refine r_aload d_X3_addNeed_44 rfl ?_
  refine r_getR h d_X3_addNeed_45 pf_X3_32 (fun x5 h => ?_)
  refine r_iload d_X3_addNeed_48 rfl ?_
  refine r_iload d_X3_addNeed_49 rfl ?_
  refine r_iconst d_X3_addNeed_51 ic_1 ?_
  refine r_iadd d_X3_addNeed_52 ?_
  refine r_iast h d_X3_addNeed_53 (fun G6 h => ?_)
  exact r_vret h d_X3_addNeed_54
set_option maxRecDepth 100000 in
set_option maxHeartbeats 4000000 in
theorem s_X3_addNeed {E : GE} {F : Nat}  {v0 : Nat} {v1 : Int32} {v2 : Int32} {v3 : Int32} {n : Nat} {G : GH} {z : Nat × GH}  (h : f_X3_addNeed F  v0 v1 v2 v3 n G = some z) : GM E yX3_addNeed cX3_addNeed 5 none 0 0 0 0 [.ref v0, .int v1, .int v2, .int v3] n G (none, z.1, z.2) := by
  refine GM.of (by decide) (Nat.le_of_ble_eq_true rfl) ?_
  show WG E RX3 "addNeed" cX3_addNeed 5 none 0 0 0 0 0 [(0, .ref v0), (1, .int v1), (2, .int v2), (3, .int v3)] [] n G (g_O E (none, z.1, z.2))
  unfold f_X3_addNeed at h
  refine r_aload d_X3_addNeed_0 rfl ?_
  refine r_getR h d_X3_addNeed_1 pf_X3_32 (fun x1 h => ?_)
  refine r_iload d_X3_addNeed_4 rfl ?_
  refine r_iald h d_X3_addNeed_5 (fun x2 h => ?_)
  refine r_istore d_X3_addNeed_6 rfl rfl ?_
  refine r_iload d_X3_addNeed_8 rfl ?_
  refine r_iconst d_X3_addNeed_10 ic_4 ?_
  refine r_icmp_lt h d_X3_addNeed_11 (fun h => ?_) (fun h => ?_)
  · refine r_aload d_X3_addNeed_15 rfl ?_
    refine r_getR h d_X3_addNeed_16 pf_X3_38 (fun x3 h => ?_)
    refine r_iload d_X3_addNeed_19 rfl ?_
    refine r_iconst d_X3_addNeed_20 ic_4 ?_
    refine r_imul d_X3_addNeed_21 ?_
    refine r_iload d_X3_addNeed_22 rfl ?_
    refine r_iadd d_X3_addNeed_24 ?_
    refine r_iload d_X3_addNeed_25 rfl ?_
    refine r_iast h d_X3_addNeed_26 (fun G4 h => ?_)
    refine r_iload d_X3_addNeed_27 rfl ?_
    refine r_if_eq h d_X3_addNeed_28 (fun h => ?_) (fun h => ?_)
    · refine r_lv [(0, .ref v0), (1, .int v1), (4, .int x2)] (g_allc rfl (g_allc rfl (g_allc rfl g_alln))) ?_
      exact c_X3_addNeed_44   h
    · refine r_aload d_X3_addNeed_31 rfl ?_
      refine r_getR h d_X3_addNeed_32 pf_X3_35 (fun x7 h => ?_)
      refine r_iload d_X3_addNeed_35 rfl ?_
      refine r_dup2 d_X3_addNeed_36 rfl rfl ?_
      refine r_iald h d_X3_addNeed_37 (fun x8 h => ?_)
      refine r_iconst d_X3_addNeed_38 ic_1 ?_
      refine r_iload d_X3_addNeed_39 rfl ?_
      refine r_ishl d_X3_addNeed_41 ?_
      refine r_ior d_X3_addNeed_42 ?_
      refine r_iast h d_X3_addNeed_43 (fun G9 h => ?_)
      refine r_lv [(0, .ref v0), (1, .int v1), (4, .int x2)] (g_allc rfl (g_allc rfl (g_allc rfl g_alln))) ?_
      exact c_X3_addNeed_44   h
  · exact r_vret h d_X3_addNeed_14
/-! X3_needAt -/
theorem py_X3_holds : pY yX3_holds cX3_holds 2 (some .boolean) 1 := ⟨g_in 736 (by decide +kernel) rfl, g_in 97 (by decide +kernel) rfl, by decide, by decide, by decide +kernel⟩
theorem pi_X3_holds : pI yX3_holds 3 := ⟨g_in 734 (by decide +kernel) rfl, g_in 735 (by decide +kernel) rfl, (RX3, TX3, 9), rfl, rfl⟩
theorem pl_X3_41 : pL RX3 41 yX3_holds := Or.inl (g_in 838 (by decide +kernel) rfl)
theorem d_X3_needAt_0 : decAL cX3_needAt 0 0 1 := Or.inr ⟨0, rfl, by decide +kernel, rfl⟩
theorem d_X3_needAt_1 : decIL cX3_needAt 1 1 2 := Or.inr ⟨1, rfl, by decide +kernel, rfl⟩
theorem d_X3_needAt_2 : dec 3 cX3_needAt 2 (.invokevirtual 41) 5 := ⟨by decide +kernel, rfl⟩
theorem d_X3_needAt_5 : decB cX3_needAt 5 (.ifCond .eq 17) (17) 8 22 := ⟨by decide +kernel, rfl, by decide⟩
theorem d_X3_needAt_8 : decIL cX3_needAt 8 2 9 := Or.inr ⟨2, rfl, by decide +kernel, rfl⟩
theorem d_X3_needAt_9 : decB cX3_needAt 9 (.ifCond .lt 13) (13) 12 22 := ⟨by decide +kernel, rfl, by decide⟩
theorem d_X3_needAt_12 : decIL cX3_needAt 12 2 13 := Or.inr ⟨2, rfl, by decide +kernel, rfl⟩
theorem d_X3_needAt_13 : decAL cX3_needAt 13 0 14 := Or.inr ⟨0, rfl, by decide +kernel, rfl⟩
theorem d_X3_needAt_14 : dec 3 cX3_needAt 14 (.getfield 32) 17 := ⟨by decide +kernel, rfl⟩
theorem d_X3_needAt_17 : decIL cX3_needAt 17 1 18 := Or.inr ⟨1, rfl, by decide +kernel, rfl⟩
theorem d_X3_needAt_18 : dec 1 cX3_needAt 18 .iaload 19 := ⟨by decide +kernel, rfl⟩
theorem d_X3_needAt_19 : decB cX3_needAt 19 (.if_icmp .lt 5) (5) 22 24 := ⟨by decide +kernel, rfl, by decide⟩
theorem d_X3_needAt_22 : dec 1 cX3_needAt 22 (.iconst (-1)) 23 := ⟨by decide +kernel, rfl⟩
theorem d_X3_needAt_23 : dec 1 cX3_needAt 23 .ireturn 24 := ⟨by decide +kernel, rfl⟩
theorem d_X3_needAt_24 : decAL cX3_needAt 24 0 25 := Or.inr ⟨0, rfl, by decide +kernel, rfl⟩
theorem d_X3_needAt_25 : dec 3 cX3_needAt 25 (.getfield 38) 28 := ⟨by decide +kernel, rfl⟩
theorem d_X3_needAt_28 : decIL cX3_needAt 28 1 29 := Or.inr ⟨1, rfl, by decide +kernel, rfl⟩
theorem d_X3_needAt_29 : dec 1 cX3_needAt 29 (.iconst 4) 30 := ⟨by decide +kernel, rfl⟩
theorem d_X3_needAt_30 : dec 1 cX3_needAt 30 .imul 31 := ⟨by decide +kernel, rfl⟩
theorem d_X3_needAt_31 : decIL cX3_needAt 31 2 32 := Or.inr ⟨2, rfl, by decide +kernel, rfl⟩
theorem d_X3_needAt_32 : dec 1 cX3_needAt 32 .iadd 33 := ⟨by decide +kernel, rfl⟩
theorem d_X3_needAt_33 : dec 1 cX3_needAt 33 .iaload 34 := ⟨by decide +kernel, rfl⟩
theorem d_X3_needAt_34 : dec 1 cX3_needAt 34 .ireturn 35 := ⟨by decide +kernel, rfl⟩
def f_X3_needAt (F : Nat)  (v0 : Nat) (v1 : Int32) (v2 : Int32) (G : GH) : Option (Int32) :=
  cvP G v0 3 (f_X3_holds F v0 v1 G) (fun (x1 : Int32) =>
  if x1 = 0 then
  (some (-1 : Int32))
  else (if v2 < 0 then
  (some (-1 : Int32))
  else (Option.bind (gR G v0 3 6) (fun (x2 : Nat) =>
  Option.bind (aI G x2 0 v1) (fun (x3 : Int32) =>
  if v2 < x3 then
  (Option.bind (gR G v0 3 8) (fun (x4 : Nat) =>
  Option.bind (aI G x4 0 ((v1 * (4 : Int32)) + v2)) (fun (x5 : Int32) =>
  some x5)))
  else (some (-1 : Int32)))))))
set_option maxRecDepth 100000 in
set_option maxHeartbeats 4000000 in
theorem s_X3_needAt {E : GE} {F : Nat}  {v0 : Nat} {v1 : Int32} {v2 : Int32} {n : Nat} {G : GH} {z : Int32}  (h : f_X3_needAt F  v0 v1 v2 G = some z) : GM E yX3_needAt cX3_needAt 3 (some .int) 1 21 0 0 [.ref v0, .int v1, .int v2] n G (some (.int z), n, G) := by
  refine GM.of (by decide) (Nat.le_of_ble_eq_true rfl) ?_
  show WG E RX3 "needAt" cX3_needAt 3 (some .int) 1 21 0 0 0 [(0, .ref v0), (1, .int v1), (2, .int v2)] [] n G (g_O E (some (.int z), n, G))
  unfold f_X3_needAt at h
  refine r_aload d_X3_needAt_0 rfl ?_
  refine r_iload d_X3_needAt_1 rfl ?_
  refine r_invP [_] h (fun _ hq => s_X3_holds hq) d_X3_needAt_2 pl_X3_41 py_X3_holds pi_X3_holds rfl rfl rfl (fun x1 h => ?_)
  refine r_if_eq h d_X3_needAt_5 (fun h => ?_) (fun h => ?_)
  · refine r_iconst d_X3_needAt_22 ic_m1 ?_
    exact r_pret h d_X3_needAt_23
  · refine r_iload d_X3_needAt_8 rfl ?_
    refine r_if_lt h d_X3_needAt_9 (fun h => ?_) (fun h => ?_)
    · refine r_iconst d_X3_needAt_22 ic_m1 ?_
      exact r_pret h d_X3_needAt_23
    · refine r_iload d_X3_needAt_12 rfl ?_
      refine r_aload d_X3_needAt_13 rfl ?_
      refine r_getR h d_X3_needAt_14 pf_X3_32 (fun x2 h => ?_)
      refine r_iload d_X3_needAt_17 rfl ?_
      refine r_iald h d_X3_needAt_18 (fun x3 h => ?_)
      refine r_icmp_lt h d_X3_needAt_19 (fun h => ?_) (fun h => ?_)
      · refine r_aload d_X3_needAt_24 rfl ?_
        refine r_getR h d_X3_needAt_25 pf_X3_38 (fun x4 h => ?_)
        refine r_iload d_X3_needAt_28 rfl ?_
        refine r_iconst d_X3_needAt_29 ic_4 ?_
        refine r_imul d_X3_needAt_30 ?_
        refine r_iload d_X3_needAt_31 rfl ?_
        refine r_iadd d_X3_needAt_32 ?_
        refine r_iald h d_X3_needAt_33 (fun x5 h => ?_)
        exact r_pret h d_X3_needAt_34
      · refine r_iconst d_X3_needAt_22 ic_m1 ?_
        exact r_pret h d_X3_needAt_23
/-! X3_isEager -/
theorem d_X3_isEager_0 : decAL cX3_isEager 0 0 1 := Or.inr ⟨0, rfl, by decide +kernel, rfl⟩
theorem d_X3_isEager_1 : dec 3 cX3_isEager 1 (.getfield 35) 4 := ⟨by decide +kernel, rfl⟩
theorem d_X3_isEager_4 : decIL cX3_isEager 4 1 5 := Or.inr ⟨1, rfl, by decide +kernel, rfl⟩
theorem d_X3_isEager_5 : dec 1 cX3_isEager 5 .iaload 6 := ⟨by decide +kernel, rfl⟩
theorem d_X3_isEager_6 : dec 1 cX3_isEager 6 (.iconst 1) 7 := ⟨by decide +kernel, rfl⟩
theorem d_X3_isEager_7 : decIL cX3_isEager 7 2 8 := Or.inr ⟨2, rfl, by decide +kernel, rfl⟩
theorem d_X3_isEager_8 : dec 1 cX3_isEager 8 .ishl 9 := ⟨by decide +kernel, rfl⟩
theorem d_X3_isEager_9 : dec 1 cX3_isEager 9 .iand 10 := ⟨by decide +kernel, rfl⟩
theorem d_X3_isEager_10 : decB cX3_isEager 10 (.ifCond .ne 7) (7) 13 17 := ⟨by decide +kernel, rfl, by decide⟩
theorem d_X3_isEager_13 : dec 1 cX3_isEager 13 (.iconst 1) 14 := ⟨by decide +kernel, rfl⟩
theorem d_X3_isEager_14 : decB cX3_isEager 14 (.goto 4) (4) 17 18 := ⟨by decide +kernel, rfl, by decide⟩
theorem d_X3_isEager_17 : dec 1 cX3_isEager 17 (.iconst 0) 18 := ⟨by decide +kernel, rfl⟩
theorem d_X3_isEager_18 : dec 1 cX3_isEager 18 .ireturn 19 := ⟨by decide +kernel, rfl⟩
def f_X3_isEager (F : Nat)  (v0 : Nat) (v1 : Int32) (v2 : Int32) (G : GH) : Option (Int32) :=
  Option.bind (gR G v0 3 7) (fun (x1 : Nat) =>
  Option.bind (aI G x1 0 v1) (fun (x2 : Int32) =>
  if (x2 &&& ((1 : Int32) <<< (v2 &&& 31))) = 0 then
  (rP .boolean (1 : Int32))
  else (rP .boolean (0 : Int32))))
set_option maxRecDepth 100000 in
set_option maxHeartbeats 4000000 in
theorem s_X3_isEager {E : GE} {F : Nat}  {v0 : Nat} {v1 : Int32} {v2 : Int32} {n : Nat} {G : GH} {z : Int32}  (h : f_X3_isEager F  v0 v1 v2 G = some z) : GM E yX3_isEager cX3_isEager 3 (some .boolean) 0 0 0 0 [.ref v0, .int v1, .int v2] n G (some (.int z), n, G) := by
  refine GM.of (by decide) (Nat.le_of_ble_eq_true rfl) ?_
  show WG E RX3 "isEager" cX3_isEager 3 (some .boolean) 0 0 0 0 0 [(0, .ref v0), (1, .int v1), (2, .int v2)] [] n G (g_O E (some (.int z), n, G))
  unfold f_X3_isEager at h
  refine r_aload d_X3_isEager_0 rfl ?_
  refine r_getR h d_X3_isEager_1 pf_X3_35 (fun x1 h => ?_)
  refine r_iload d_X3_isEager_4 rfl ?_
  refine r_iald h d_X3_isEager_5 (fun x2 h => ?_)
  refine r_iconst d_X3_isEager_6 ic_1 ?_
  refine r_iload d_X3_isEager_7 rfl ?_
  refine r_ishl d_X3_isEager_8 ?_
  refine r_iand d_X3_isEager_9 ?_
  refine r_if_ne h d_X3_isEager_10 (fun h => ?_) (fun h => ?_)
  · refine r_iconst d_X3_isEager_17 ic_0 ?_
    exact r_pzret h d_X3_isEager_18
  · refine r_iconst d_X3_isEager_13 ic_1 ?_
    refine r_goto d_X3_isEager_14 ?_
    exact r_pzret h d_X3_isEager_18
/-! X3_needBits -/
theorem py_X3_isEager : pY yX3_isEager cX3_isEager 3 (some .boolean) 2 := ⟨g_in 794 (by decide +kernel) rfl, g_in 97 (by decide +kernel) rfl, by decide, by decide, by decide +kernel⟩
theorem pi_X3_isEager : pI yX3_isEager 3 := ⟨g_in 792 (by decide +kernel) rfl, g_in 793 (by decide +kernel) rfl, (RX3, TX3, 9), rfl, rfl⟩
theorem pl_X3_45 : pL RX3 45 yX3_isEager := Or.inl (g_in 939 (by decide +kernel) rfl)
theorem d_X3_needBits_0 : dec 1 cX3_needBits 0 (.iconst 0) 1 := ⟨by decide +kernel, rfl⟩
theorem d_X3_needBits_1 : decIS cX3_needBits 1 5 3 := Or.inl ⟨by decide +kernel, rfl⟩
theorem d_X3_needBits_3 : dec 1 cX3_needBits 3 (.iconst 0) 4 := ⟨by decide +kernel, rfl⟩
theorem d_X3_needBits_4 : decIS cX3_needBits 4 6 6 := Or.inl ⟨by decide +kernel, rfl⟩
theorem d_X3_needBits_6 : decIL cX3_needBits 6 6 8 := Or.inl ⟨by decide +kernel, rfl⟩
theorem d_X3_needBits_8 : decAL cX3_needBits 8 0 9 := Or.inr ⟨0, rfl, by decide +kernel, rfl⟩
theorem d_X3_needBits_9 : dec 3 cX3_needBits 9 (.getfield 32) 12 := ⟨by decide +kernel, rfl⟩
theorem d_X3_needBits_12 : decIL cX3_needBits 12 1 13 := Or.inr ⟨1, rfl, by decide +kernel, rfl⟩
theorem d_X3_needBits_13 : dec 1 cX3_needBits 13 .iaload 14 := ⟨by decide +kernel, rfl⟩
theorem d_X3_needBits_14 : decB cX3_needBits 14 (.if_icmp .ge 68) (68) 17 82 := ⟨by decide +kernel, rfl, by decide⟩
theorem d_X3_needBits_17 : decIL cX3_needBits 17 1 18 := Or.inr ⟨1, rfl, by decide +kernel, rfl⟩
theorem d_X3_needBits_18 : dec 1 cX3_needBits 18 (.iconst 4) 19 := ⟨by decide +kernel, rfl⟩
theorem d_X3_needBits_19 : dec 1 cX3_needBits 19 .imul 20 := ⟨by decide +kernel, rfl⟩
theorem d_X3_needBits_20 : decIL cX3_needBits 20 6 22 := Or.inl ⟨by decide +kernel, rfl⟩
theorem d_X3_needBits_22 : dec 1 cX3_needBits 22 .iadd 23 := ⟨by decide +kernel, rfl⟩
theorem d_X3_needBits_23 : decIS cX3_needBits 23 7 25 := Or.inl ⟨by decide +kernel, rfl⟩
theorem d_X3_needBits_25 : decIL cX3_needBits 25 2 26 := Or.inr ⟨2, rfl, by decide +kernel, rfl⟩
theorem d_X3_needBits_26 : decB cX3_needBits 26 (.ifCond .ne 13) (13) 29 39 := ⟨by decide +kernel, rfl, by decide⟩
theorem d_X3_needBits_29 : decAL cX3_needBits 29 0 30 := Or.inr ⟨0, rfl, by decide +kernel, rfl⟩
theorem d_X3_needBits_30 : decIL cX3_needBits 30 1 31 := Or.inr ⟨1, rfl, by decide +kernel, rfl⟩
theorem d_X3_needBits_31 : decIL cX3_needBits 31 6 33 := Or.inl ⟨by decide +kernel, rfl⟩
theorem d_X3_needBits_33 : dec 3 cX3_needBits 33 (.invokevirtual 45) 36 := ⟨by decide +kernel, rfl⟩
theorem d_X3_needBits_36 : decB cX3_needBits 36 (.ifCond .eq 7) (7) 39 43 := ⟨by decide +kernel, rfl, by decide⟩
theorem d_X3_needBits_39 : dec 1 cX3_needBits 39 (.iconst 1) 40 := ⟨by decide +kernel, rfl⟩
theorem d_X3_needBits_40 : decB cX3_needBits 40 (.goto 4) (4) 43 44 := ⟨by decide +kernel, rfl, by decide⟩
theorem d_X3_needBits_43 : dec 1 cX3_needBits 43 (.iconst 0) 44 := ⟨by decide +kernel, rfl⟩
theorem d_X3_needBits_44 : decIS cX3_needBits 44 8 46 := Or.inl ⟨by decide +kernel, rfl⟩
theorem d_X3_needBits_46 : decIL cX3_needBits 46 8 48 := Or.inl ⟨by decide +kernel, rfl⟩
theorem d_X3_needBits_48 : decB cX3_needBits 48 (.ifCond .eq 28) (28) 51 76 := ⟨by decide +kernel, rfl, by decide⟩
theorem d_X3_needBits_51 : decLL cX3_needBits 51 3 52 := Or.inr ⟨3, rfl, by decide +kernel, rfl⟩
theorem d_X3_needBits_52 : dec 1 cX3_needBits 52 (.lconst 1) 53 := ⟨by decide +kernel, rfl⟩
theorem d_X3_needBits_53 : decIL cX3_needBits 53 7 55 := Or.inl ⟨by decide +kernel, rfl⟩
theorem d_X3_needBits_55 : dec 1 cX3_needBits 55 .lshl 56 := ⟨by decide +kernel, rfl⟩
theorem d_X3_needBits_56 : dec 1 cX3_needBits 56 .land 57 := ⟨by decide +kernel, rfl⟩
theorem d_X3_needBits_57 : dec 1 cX3_needBits 57 (.lconst 0) 58 := ⟨by decide +kernel, rfl⟩
theorem d_X3_needBits_58 : dec 1 cX3_needBits 58 .lcmp 59 := ⟨by decide +kernel, rfl⟩
theorem d_X3_needBits_59 : decB cX3_needBits 59 (.ifCond .ne 17) (17) 62 76 := ⟨by decide +kernel, rfl, by decide⟩
theorem d_X3_needBits_62 : decIL cX3_needBits 62 5 64 := Or.inl ⟨by decide +kernel, rfl⟩
theorem d_X3_needBits_64 : dec 1 cX3_needBits 64 (.iconst 1) 65 := ⟨by decide +kernel, rfl⟩
theorem d_X3_needBits_65 : decAL cX3_needBits 65 0 66 := Or.inr ⟨0, rfl, by decide +kernel, rfl⟩
theorem d_X3_needBits_66 : dec 3 cX3_needBits 66 (.getfield 38) 69 := ⟨by decide +kernel, rfl⟩
theorem d_X3_needBits_69 : decIL cX3_needBits 69 7 71 := Or.inl ⟨by decide +kernel, rfl⟩
theorem d_X3_needBits_71 : dec 1 cX3_needBits 71 .iaload 72 := ⟨by decide +kernel, rfl⟩
theorem d_X3_needBits_72 : dec 1 cX3_needBits 72 .ishl 73 := ⟨by decide +kernel, rfl⟩
theorem d_X3_needBits_73 : dec 1 cX3_needBits 73 .ior 74 := ⟨by decide +kernel, rfl⟩
theorem d_X3_needBits_74 : decIS cX3_needBits 74 5 76 := Or.inl ⟨by decide +kernel, rfl⟩
theorem d_X3_needBits_76 : dec 3 cX3_needBits 76 (.iinc 6 1) 79 := ⟨by decide +kernel, rfl⟩
theorem d_X3_needBits_79 : decB cX3_needBits 79 (.goto (-73)) (-73) 82 6 := ⟨by decide +kernel, rfl, by decide⟩
theorem d_X3_needBits_82 : decIL cX3_needBits 82 5 84 := Or.inl ⟨by decide +kernel, rfl⟩
theorem d_X3_needBits_84 : dec 1 cX3_needBits 84 .ireturn 85 := ⟨by decide +kernel, rfl⟩
def k_X3_needBits_44 (F : Nat)  (rec6 : Int32 → Int32 → Option (Int32)) (v0 : Nat) (v1 : Int32) (v2 : Int32) (v3 : Int64) (v5 : Int32) (v6 : Int32) (v7 : Int32) (s0 : Int32) (G : GH) : Option (Int32) :=
  if s0 = 0 then
  (rec6 v5 (v6 + 1))
  else (if (lg_cmp (v3 &&& ((1 : Int64) <<< ((Int32.toInt64 v7) &&& 63))) (0 : Int64)) = 0 then
  (Option.bind (gR G v0 3 8) (fun (x4 : Nat) =>
  Option.bind (aI G x4 0 v7) (fun (x5 : Int32) =>
  gnm (v5 ||| ((1 : Int32) <<< (x5 &&& 31))) (fun (y6 : Int32) =>
  rec6 y6 (v6 + 1)))))
  else (rec6 v5 (v6 + 1)))
def k_X3_needBits_39 (F : Nat)  (rec6 : Int32 → Int32 → Option (Int32)) (v0 : Nat) (v1 : Int32) (v2 : Int32) (v3 : Int64) (v5 : Int32) (v6 : Int32) (v7 : Int32)  (G : GH) : Option (Int32) :=
  k_X3_needBits_44 F  rec6 v0 v1 v2 v3 v5 v6 v7 (1 : Int32) G
def b_X3_needBits_6 (F : Nat)   (v0 : Nat) (v1 : Int32) (v2 : Int32) (v3 : Int64) (G : GH) (rec6 : Int32 → Int32 → Option (Int32)) : Int32 → Int32 → Option (Int32) := fun v5 v6 =>
  Option.bind (gR G v0 3 6) (fun (x1 : Nat) =>
  Option.bind (aI G x1 0 v1) (fun (x2 : Int32) =>
  if x2 ≤ v6 then
  (some v5)
  else (gnm ((v1 * (4 : Int32)) + v6) (fun (y3 : Int32) =>
  if v2 = 0 then
  (cvP G v0 3 (f_X3_isEager F v0 v1 v6 G) (fun (x7 : Int32) =>
  if x7 = 0 then
  (k_X3_needBits_44 F  rec6 v0 v1 v2 v3 v5 v6 y3 (0 : Int32) G)
  else (k_X3_needBits_39 F  rec6 v0 v1 v2 v3 v5 v6 y3 G)))
  else (k_X3_needBits_39 F  rec6 v0 v1 v2 v3 v5 v6 y3 G)))))
def f_X3_needBits (F : Nat)  (v0 : Nat) (v1 : Int32) (v2 : Int32) (v3 : Int64) (G : GH) : Option (Int32) :=
  fixN (fun _ _ => none) (b_X3_needBits_6 F   v0 v1 v2 v3 G) F (0 : Int32) (0 : Int32)
set_option maxRecDepth 100000 in
set_option maxHeartbeats 4000000 in
theorem c_X3_needBits_44 {E : GE} {F : Nat}  {rec6 : Int32 → Int32 → Option (Int32)} {v0 : Nat} {v1 : Int32} {v2 : Int32} {v3 : Int64} {v5 : Int32} {v6 : Int32} {v7 : Int32} {s0 : Int32} {n : Nat} {G : GH} {z : Int32}  (hrec6 : ∀ (w5 : Int32) (w6 : Int32) (z : Int32), rec6 w5 w6 = some z → WG E RX3 "needBits" cX3_needBits 9 (some .int) 1 22 0 0 6 [(0, .ref v0), (1, .int v1), (2, .int v2), (3, .long v3), (5, .int w5), (6, .int w6)] [] n G (g_O E (some (.int z), n, G))) (h : k_X3_needBits_44 F  rec6 v0 v1 v2 v3 v5 v6 v7 s0 G = some z) : WG E RX3 "needBits" cX3_needBits 9 (some .int) 1 22 0 0 44 [(0, .ref v0), (1, .int v1), (2, .int v2), (3, .long v3), (5, .int v5), (6, .int v6), (7, .int v7)] [.int s0] n G (g_O E (some (.int z), n, G)) := by
  unfold k_X3_needBits_44 at h
  refine r_istore d_X3_needBits_44 rfl rfl ?_
  refine r_iload d_X3_needBits_46 rfl ?_
  refine r_if_eq h d_X3_needBits_48 (fun h => ?_) (fun h => ?_)
  · refine r_iinc d_X3_needBits_76 rfl (ii_1 _) rfl rfl ?_
    refine r_goto d_X3_needBits_79 ?_
    refine r_lv [(0, .ref v0), (1, .int v1), (2, .int v2), (3, .long v3), (5, .int v5), (6, .int (v6 + 1))] (g_allc rfl (g_allc rfl (g_allc rfl (g_allc rfl (g_allc rfl (g_allc rfl g_alln)))))) ?_
    exact hrec6 _ _ _ h
  · refine r_lload d_X3_needBits_51 rfl ?_
    refine r_lconst d_X3_needBits_52 lc_1 ?_
    refine r_iload d_X3_needBits_53 rfl ?_
    refine r_lshl d_X3_needBits_55 ?_
    refine r_land d_X3_needBits_56 ?_
    refine r_lconst d_X3_needBits_57 lc_0 ?_
    refine r_lcmp d_X3_needBits_58 ?_
    refine r_if_ne h d_X3_needBits_59 (fun h => ?_) (fun h => ?_)
    · refine r_iinc d_X3_needBits_76 rfl (ii_1 _) rfl rfl ?_
      refine r_goto d_X3_needBits_79 ?_
      refine r_lv [(0, .ref v0), (1, .int v1), (2, .int v2), (3, .long v3), (5, .int v5), (6, .int (v6 + 1))] (g_allc rfl (g_allc rfl (g_allc rfl (g_allc rfl (g_allc rfl (g_allc rfl g_alln)))))) ?_
      exact hrec6 _ _ _ h
    · refine r_iload d_X3_needBits_62 rfl ?_
      refine r_iconst d_X3_needBits_64 ic_1 ?_
      refine r_aload d_X3_needBits_65 rfl ?_
      refine r_getR h d_X3_needBits_66 pf_X3_38 (fun x4 h => ?_)
      refine r_iload d_X3_needBits_69 rfl ?_
      refine r_iald h d_X3_needBits_71 (fun x5 h => ?_)
      refine r_ishl d_X3_needBits_72 ?_
      refine r_ior d_X3_needBits_73 ?_
      refine r_nmI h (fun y6 _ h => ?_)
      refine r_istore d_X3_needBits_74 rfl rfl ?_
      refine r_iinc d_X3_needBits_76 rfl (ii_1 _) rfl rfl ?_
      refine r_goto d_X3_needBits_79 ?_
      refine r_lv [(0, .ref v0), (1, .int v1), (2, .int v2), (3, .long v3), (5, .int y6), (6, .int (v6 + 1))] (g_allc rfl (g_allc rfl (g_allc rfl (g_allc rfl (g_allc rfl (g_allc rfl g_alln)))))) ?_
      exact hrec6 _ _ _ h
set_option maxRecDepth 100000 in
set_option maxHeartbeats 4000000 in
theorem c_X3_needBits_39 {E : GE} {F : Nat}  {rec6 : Int32 → Int32 → Option (Int32)} {v0 : Nat} {v1 : Int32} {v2 : Int32} {v3 : Int64} {v5 : Int32} {v6 : Int32} {v7 : Int32}  {n : Nat} {G : GH} {z : Int32}  (hrec6 : ∀ (w5 : Int32) (w6 : Int32) (z : Int32), rec6 w5 w6 = some z → WG E RX3 "needBits" cX3_needBits 9 (some .int) 1 22 0 0 6 [(0, .ref v0), (1, .int v1), (2, .int v2), (3, .long v3), (5, .int w5), (6, .int w6)] [] n G (g_O E (some (.int z), n, G))) (h : k_X3_needBits_39 F  rec6 v0 v1 v2 v3 v5 v6 v7  G = some z) : WG E RX3 "needBits" cX3_needBits 9 (some .int) 1 22 0 0 39 [(0, .ref v0), (1, .int v1), (2, .int v2), (3, .long v3), (5, .int v5), (6, .int v6), (7, .int v7)] [] n G (g_O E (some (.int z), n, G)) := by
  unfold k_X3_needBits_39 at h
  refine r_iconst d_X3_needBits_39 ic_1 ?_
  refine r_goto d_X3_needBits_40 ?_
  refine r_lv [(0, .ref v0), (1, .int v1), (2, .int v2), (3, .long v3), (5, .int v5), (6, .int v6), (7, .int v7)] (g_allc rfl (g_allc rfl (g_allc rfl (g_allc rfl (g_allc rfl (g_allc rfl (g_allc rfl g_alln))))))) ?_
  exact c_X3_needBits_44  hrec6 h
set_option maxRecDepth 100000 in
set_option maxHeartbeats 4000000 in
theorem l_X3_needBits_6 {E : GE} {F : Nat}   {v0 : Nat} {v1 : Int32} {v2 : Int32} {v3 : Int64} {n : Nat} {G : GH}   : ∀ (K : Nat) (v5 : Int32) (v6 : Int32) (z : Int32), fixN ((fun _ _ => none) : Int32 → Int32 → Option (Int32)) (b_X3_needBits_6 F   v0 v1 v2 v3 G) K v5 v6 = some z → WG E RX3 "needBits" cX3_needBits 9 (some .int) 1 22 0 0 6 [(0, .ref v0), (1, .int v1), (2, .int v2), (3, .long v3), (5, .int v5), (6, .int v6)] [] n G (g_O E (some (.int z), n, G)) := by
  intro K
  refine fixN_ind (P := fun (r : Int32 → Int32 → Option (Int32)) => ∀ (v5 : Int32) (v6 : Int32) (z : Int32), r v5 v6 = some z → WG E RX3 "needBits" cX3_needBits 9 (some .int) 1 22 0 0 6 [(0, .ref v0), (1, .int v1), (2, .int v2), (3, .long v3), (5, .int v5), (6, .int v6)] [] n G (g_O E (some (.int z), n, G))) ?_ ?_ K
  · intro v5 v6 z h
    cases h
  · intro rec6 hrec6 v5 v6 z h
    unfold b_X3_needBits_6 at h
    refine r_iload d_X3_needBits_6 rfl ?_
    refine r_aload d_X3_needBits_8 rfl ?_
    refine r_getR h d_X3_needBits_9 pf_X3_32 (fun x1 h => ?_)
    refine r_iload d_X3_needBits_12 rfl ?_
    refine r_iald h d_X3_needBits_13 (fun x2 h => ?_)
    refine r_icmp_ge h d_X3_needBits_14 (fun h => ?_) (fun h => ?_)
    · refine r_iload d_X3_needBits_82 rfl ?_
      exact r_pret h d_X3_needBits_84
    · refine r_iload d_X3_needBits_17 rfl ?_
      refine r_iconst d_X3_needBits_18 ic_4 ?_
      refine r_imul d_X3_needBits_19 ?_
      refine r_iload d_X3_needBits_20 rfl ?_
      refine r_iadd d_X3_needBits_22 ?_
      refine r_nmI h (fun y3 _ h => ?_)
      refine r_istore d_X3_needBits_23 rfl rfl ?_
      refine r_iload d_X3_needBits_25 rfl ?_
      refine r_if_ne h d_X3_needBits_26 (fun h => ?_) (fun h => ?_)
      · refine r_lv [(0, .ref v0), (1, .int v1), (2, .int v2), (3, .long v3), (5, .int v5), (6, .int v6), (7, .int y3)] (g_allc rfl (g_allc rfl (g_allc rfl (g_allc rfl (g_allc rfl (g_allc rfl (g_allc rfl g_alln))))))) ?_
        exact c_X3_needBits_39  hrec6 h
      · refine r_aload d_X3_needBits_29 rfl ?_
        refine r_iload d_X3_needBits_30 rfl ?_
        refine r_iload d_X3_needBits_31 rfl ?_
        refine r_invP [_, _] h (fun _ hq => s_X3_isEager hq) d_X3_needBits_33 pl_X3_45 py_X3_isEager pi_X3_isEager rfl rfl rfl (fun x7 h => ?_)
        refine r_if_eq h d_X3_needBits_36 (fun h => ?_) (fun h => ?_)
        · refine r_iconst d_X3_needBits_43 ic_0 ?_
          refine r_lv [(0, .ref v0), (1, .int v1), (2, .int v2), (3, .long v3), (5, .int v5), (6, .int v6), (7, .int y3)] (g_allc rfl (g_allc rfl (g_allc rfl (g_allc rfl (g_allc rfl (g_allc rfl (g_allc rfl g_alln))))))) ?_
          exact c_X3_needBits_44  hrec6 h
        · refine r_lv [(0, .ref v0), (1, .int v1), (2, .int v2), (3, .long v3), (5, .int v5), (6, .int v6), (7, .int y3)] (g_allc rfl (g_allc rfl (g_allc rfl (g_allc rfl (g_allc rfl (g_allc rfl (g_allc rfl g_alln))))))) ?_
          exact c_X3_needBits_39  hrec6 h
set_option maxRecDepth 100000 in
set_option maxHeartbeats 4000000 in
theorem s_X3_needBits {E : GE} {F : Nat}  {v0 : Nat} {v1 : Int32} {v2 : Int32} {v3 : Int64} {n : Nat} {G : GH} {z : Int32}  (h : f_X3_needBits F  v0 v1 v2 v3 G = some z) : GM E yX3_needBits cX3_needBits 9 (some .int) 1 22 0 0 [.ref v0, .int v1, .int v2, .long v3] n G (some (.int z), n, G) := by
  refine GM.of (by decide) (Nat.le_of_ble_eq_true rfl) ?_
  show WG E RX3 "needBits" cX3_needBits 9 (some .int) 1 22 0 0 0 [(0, .ref v0), (1, .int v1), (2, .int v2), (3, .long v3)] [] n G (g_O E (some (.int z), n, G))
  unfold f_X3_needBits at h
  refine r_iconst d_X3_needBits_0 ic_0 ?_
  refine r_istore d_X3_needBits_1 rfl rfl ?_
  refine r_iconst d_X3_needBits_3 ic_0 ?_
  refine r_istore d_X3_needBits_4 rfl rfl ?_
  refine r_lv [(0, .ref v0), (1, .int v1), (2, .int v2), (3, .long v3), (5, .int (0 : Int32)), (6, .int (0 : Int32))] (g_allc rfl (g_allc rfl (g_allc rfl (g_allc rfl (g_allc rfl (g_allc rfl g_alln)))))) ?_
  exact l_X3_needBits_6   _ _ _ _ h
/-! X2_init -/
theorem qol_X2_3 : Cond.methodLink RX2 3 objectInit ∈ g_tbl := g_in 130 (by decide +kernel) rfl
theorem qa_byte : Cond.arrayClass .byte ∈ g_tbl := g_in 149 (by decide +kernel) rfl
theorem pw_X2_9 : pW RX2 "<init>" 9 2 0 (.array .byte) := ⟨RX2, TX2, 4, rfl, by decide, rfl, Or.inl ⟨g_in 131 (by decide +kernel) rfl, Or.inr ⟨rfl, rfl, rfl⟩⟩, by decide +kernel⟩
theorem pw_X2_15 {nm : String} : pW RX2 nm 15 2 1 .int := ⟨RX2, TX2, 4, rfl, by decide, rfl, Or.inl ⟨g_in 133 (by decide +kernel) rfl, Or.inl rfl⟩, by decide +kernel⟩
theorem pw_X2_19 {nm : String} : pW RX2 nm 19 2 2 .int := ⟨RX2, TX2, 4, rfl, by decide, rfl, Or.inl ⟨g_in 136 (by decide +kernel) rfl, Or.inl rfl⟩, by decide +kernel⟩
theorem pw_X2_22 {nm : String} : pW RX2 nm 22 2 3 .int := ⟨RX2, TX2, 4, rfl, by decide, rfl, Or.inl ⟨g_in 138 (by decide +kernel) rfl, Or.inl rfl⟩, by decide +kernel⟩
theorem d_X2_init_0 : decAL cX2_init 0 0 1 := Or.inr ⟨0, rfl, by decide +kernel, rfl⟩
theorem d_X2_init_1 : dec 3 cX2_init 1 (.invokespecial 3) 4 := ⟨by decide +kernel, rfl⟩
theorem d_X2_init_4 : decAL cX2_init 4 0 5 := Or.inr ⟨0, rfl, by decide +kernel, rfl⟩
theorem d_X2_init_5 : dec 3 cX2_init 5 (.sipush 600) 8 := ⟨by decide +kernel, rfl⟩
theorem d_X2_init_8 : dec 2 cX2_init 8 (.newarray .byte) 10 := ⟨by decide +kernel, rfl⟩
theorem d_X2_init_10 : dec 3 cX2_init 10 (.putfield 9) 13 := ⟨by decide +kernel, rfl⟩
theorem d_X2_init_13 : decAL cX2_init 13 0 14 := Or.inr ⟨0, rfl, by decide +kernel, rfl⟩
theorem d_X2_init_14 : dec 1 cX2_init 14 (.iconst 0) 15 := ⟨by decide +kernel, rfl⟩
theorem d_X2_init_15 : dec 3 cX2_init 15 (.putfield 15) 18 := ⟨by decide +kernel, rfl⟩
theorem d_X2_init_18 : decAL cX2_init 18 0 19 := Or.inr ⟨0, rfl, by decide +kernel, rfl⟩
theorem d_X2_init_19 : dec 1 cX2_init 19 (.iconst 0) 20 := ⟨by decide +kernel, rfl⟩
theorem d_X2_init_20 : dec 3 cX2_init 20 (.putfield 19) 23 := ⟨by decide +kernel, rfl⟩
theorem d_X2_init_23 : decAL cX2_init 23 0 24 := Or.inr ⟨0, rfl, by decide +kernel, rfl⟩
theorem d_X2_init_24 : dec 1 cX2_init 24 (.iconst (-1)) 25 := ⟨by decide +kernel, rfl⟩
theorem d_X2_init_25 : dec 3 cX2_init 25 (.putfield 22) 28 := ⟨by decide +kernel, rfl⟩
theorem d_X2_init_28 : dec 1 cX2_init 28 .return_ 29 := ⟨by decide +kernel, rfl⟩
def f_X2_init (F : Nat)  (v0 : Nat) (n : Nat) (G : GH) : Option (Nat × GH) :=
  Option.bind (pV (gset G n (.inl (1, 600, .inl (fun _ => 0)))) v0 2 0 (.ref n)) (fun (G1 : GH) =>
  Option.bind (pV G1 v0 2 1 (.int (0 : Int32))) (fun (G2 : GH) =>
  Option.bind (pV G2 v0 2 2 (.int (0 : Int32))) (fun (G3 : GH) =>
  Option.bind (pV G3 v0 2 3 (.int (-1 : Int32))) (fun (G4 : GH) =>
  some (n + 1, G4)))))
set_option maxRecDepth 100000 in
set_option maxHeartbeats 4000000 in
theorem s_X2_init {E : GE} {F : Nat}  {v0 : Nat} {n : Nat} {G : GH} {z : Nat × GH}  (h : f_X2_init F  v0 n G = some z) : GM E yX2_init cX2_init 1 none 1 40 1 600 [.ref v0] n G (none, z.1, z.2) := by
  refine GM.of (by decide) (Nat.le_of_ble_eq_true rfl) ?_
  show WG E RX2 "<init>" cX2_init 1 none 1 40 1 600 0 [(0, .ref v0)] [] n G (g_O E (none, z.1, z.2))
  unfold f_X2_init at h
  refine r_aload d_X2_init_0 rfl ?_
  refine r_obj d_X2_init_1 qol_X2_3 qoi qoc rfl rfl ?_
  refine r_aload d_X2_init_4 rfl ?_
  refine r_sipush d_X2_init_5 sp_600 ?_
  refine r_newaB (N := 600) d_X2_init_8 qa_byte (by decide) (by decide) rfl rfl rfl ?_
  refine r_put h d_X2_init_10 pw_X2_9 rfl rfl (fun G1 h => ?_)
  refine r_aload d_X2_init_13 rfl ?_
  refine r_iconst d_X2_init_14 ic_0 ?_
  refine r_put h d_X2_init_15 pw_X2_15 rfl rfl (fun G2 h => ?_)
  refine r_aload d_X2_init_18 rfl ?_
  refine r_iconst d_X2_init_19 ic_0 ?_
  refine r_put h d_X2_init_20 pw_X2_19 rfl rfl (fun G3 h => ?_)
  refine r_aload d_X2_init_23 rfl ?_
  refine r_iconst d_X2_init_24 ic_m1 ?_
  refine r_put h d_X2_init_25 pw_X2_22 rfl rfl (fun G4 h => ?_)
  exact r_vret h d_X2_init_28
/-! X2_byteOf -/
theorem d_X2_byteOf_0 : decLL cX2_byteOf 0 0 1 := Or.inr ⟨0, rfl, by decide +kernel, rfl⟩
theorem d_X2_byteOf_1 : dec 2 cX2_byteOf 1 (.bipush 56) 3 := ⟨by decide +kernel, rfl⟩
theorem d_X2_byteOf_3 : dec 2 cX2_byteOf 3 (.bipush 8) 5 := ⟨by decide +kernel, rfl⟩
theorem d_X2_byteOf_5 : decIL cX2_byteOf 5 2 6 := Or.inr ⟨2, rfl, by decide +kernel, rfl⟩
theorem d_X2_byteOf_6 : dec 1 cX2_byteOf 6 .imul 7 := ⟨by decide +kernel, rfl⟩
theorem d_X2_byteOf_7 : dec 1 cX2_byteOf 7 .isub 8 := ⟨by decide +kernel, rfl⟩
theorem d_X2_byteOf_8 : dec 1 cX2_byteOf 8 .lushr 9 := ⟨by decide +kernel, rfl⟩
theorem d_X2_byteOf_9 : dec 1 cX2_byteOf 9 .l2i 10 := ⟨by decide +kernel, rfl⟩
theorem d_X2_byteOf_10 : dec 1 cX2_byteOf 10 .i2b 11 := ⟨by decide +kernel, rfl⟩
theorem d_X2_byteOf_11 : dec 1 cX2_byteOf 11 .ireturn 12 := ⟨by decide +kernel, rfl⟩
def f_X2_byteOf (F : Nat)  (v0 : Int64) (v2 : Int32) (G : GH) : Option (Int32) :=
  rP .byte (Int8.toInt32 (Int32.toInt8 (Int64.toInt32 (((Int64.toUInt64 v0) >>> ((Int64.toUInt64 (Int32.toInt64 ((56 : Int32) - ((8 : Int32) * v2)))) &&& Int64.toUInt64 63)).toInt64))))
set_option maxRecDepth 100000 in
set_option maxHeartbeats 4000000 in
theorem s_X2_byteOf {E : GE} {F : Nat}  {v0 : Int64} {v2 : Int32} {n : Nat} {G : GH} {z : Int32}  (h : f_X2_byteOf F  v0 v2 G = some z) : GM E yX2_byteOf cX2_byteOf 3 (some .byte) 0 0 0 0 [.long v0, .int v2] n G (some (.int z), n, G) := by
  refine GM.of (by decide) (Nat.le_of_ble_eq_true rfl) ?_
  show WG E RX2 "byteOf" cX2_byteOf 3 (some .byte) 0 0 0 0 0 [(0, .long v0), (2, .int v2)] [] n G (g_O E (some (.int z), n, G))
  unfold f_X2_byteOf at h
  refine r_lload d_X2_byteOf_0 rfl ?_
  refine r_bipush d_X2_byteOf_1 bp_56 ?_
  refine r_bipush d_X2_byteOf_3 bp_8 ?_
  refine r_iload d_X2_byteOf_5 rfl ?_
  refine r_imul d_X2_byteOf_6 ?_
  refine r_isub d_X2_byteOf_7 ?_
  refine r_lushr d_X2_byteOf_8 ?_
  refine r_l2i d_X2_byteOf_9 ?_
  refine r_i2b d_X2_byteOf_10 ?_
  exact r_pbret h d_X2_byteOf_11
/-! X2_append -/
theorem pf_X2_15 : pF RX2 15 2 1 := ⟨RX2, TX2, 4, rfl, by decide, rfl, Or.inl (g_in 133 (by decide +kernel) rfl)⟩
theorem pf_X2_9 : pF RX2 9 2 0 := ⟨RX2, TX2, 4, rfl, by decide, rfl, Or.inl (g_in 131 (by decide +kernel) rfl)⟩
theorem py_X2_byteOf : pY yX2_byteOf cX2_byteOf 3 (some .byte) 2 := ⟨g_in 440 (by decide +kernel) rfl, g_in 95 (by decide +kernel) rfl, by decide, by decide, by decide +kernel⟩
theorem ps_X2_byteOf : Cond.static yX2_byteOf ∈ g_tbl := g_in 439 (by decide +kernel) rfl
theorem pl_X2_25 : pL RX2 25 yX2_byteOf := Or.inl (g_in 438 (by decide +kernel) rfl)
theorem d_X2_append_0 : dec 1 cX2_append 0 (.iconst 0) 1 := ⟨by decide +kernel, rfl⟩
theorem d_X2_append_1 : decIS cX2_append 1 3 2 := Or.inr ⟨3, rfl, by decide +kernel, rfl⟩
theorem d_X2_append_2 : decIL cX2_append 2 3 3 := Or.inr ⟨3, rfl, by decide +kernel, rfl⟩
theorem d_X2_append_3 : dec 2 cX2_append 3 (.bipush 8) 5 := ⟨by decide +kernel, rfl⟩
theorem d_X2_append_5 : decB cX2_append 5 (.if_icmp .ge 17) (17) 8 22 := ⟨by decide +kernel, rfl, by decide⟩
theorem d_X2_append_8 : decLL cX2_append 8 1 9 := Or.inr ⟨1, rfl, by decide +kernel, rfl⟩
theorem d_X2_append_9 : decIL cX2_append 9 3 10 := Or.inr ⟨3, rfl, by decide +kernel, rfl⟩
theorem d_X2_append_10 : dec 3 cX2_append 10 (.invokestatic 25) 13 := ⟨by decide +kernel, rfl⟩
theorem d_X2_append_13 : decB cX2_append 13 (.ifCond .eq 9) (9) 16 22 := ⟨by decide +kernel, rfl, by decide⟩
theorem d_X2_append_16 : dec 3 cX2_append 16 (.iinc 3 1) 19 := ⟨by decide +kernel, rfl⟩
theorem d_X2_append_19 : decB cX2_append 19 (.goto (-17)) (-17) 22 2 := ⟨by decide +kernel, rfl, by decide⟩
theorem d_X2_append_22 : decAL cX2_append 22 0 23 := Or.inr ⟨0, rfl, by decide +kernel, rfl⟩
theorem d_X2_append_23 : dec 3 cX2_append 23 (.getfield 15) 26 := ⟨by decide +kernel, rfl⟩
theorem d_X2_append_26 : decIL cX2_append 26 3 27 := Or.inr ⟨3, rfl, by decide +kernel, rfl⟩
theorem d_X2_append_27 : dec 1 cX2_append 27 .iadd 28 := ⟨by decide +kernel, rfl⟩
theorem d_X2_append_28 : dec 3 cX2_append 28 (.sipush 600) 31 := ⟨by decide +kernel, rfl⟩
theorem d_X2_append_31 : decB cX2_append 31 (.if_icmp .le 5) (5) 34 36 := ⟨by decide +kernel, rfl, by decide⟩
theorem d_X2_append_34 : dec 1 cX2_append 34 (.iconst (-1)) 35 := ⟨by decide +kernel, rfl⟩
theorem d_X2_append_35 : dec 1 cX2_append 35 .ireturn 36 := ⟨by decide +kernel, rfl⟩
theorem d_X2_append_36 : dec 1 cX2_append 36 (.iconst 0) 37 := ⟨by decide +kernel, rfl⟩
theorem d_X2_append_37 : decIS cX2_append 37 4 39 := Or.inl ⟨by decide +kernel, rfl⟩
theorem d_X2_append_39 : decIL cX2_append 39 4 41 := Or.inl ⟨by decide +kernel, rfl⟩
theorem d_X2_append_41 : decIL cX2_append 41 3 42 := Or.inr ⟨3, rfl, by decide +kernel, rfl⟩
theorem d_X2_append_42 : decB cX2_append 42 (.if_icmp .ge 27) (27) 45 69 := ⟨by decide +kernel, rfl, by decide⟩
theorem d_X2_append_45 : decAL cX2_append 45 0 46 := Or.inr ⟨0, rfl, by decide +kernel, rfl⟩
theorem d_X2_append_46 : dec 3 cX2_append 46 (.getfield 9) 49 := ⟨by decide +kernel, rfl⟩
theorem d_X2_append_49 : decAL cX2_append 49 0 50 := Or.inr ⟨0, rfl, by decide +kernel, rfl⟩
theorem d_X2_append_50 : dec 3 cX2_append 50 (.getfield 15) 53 := ⟨by decide +kernel, rfl⟩
theorem d_X2_append_53 : decIL cX2_append 53 4 55 := Or.inl ⟨by decide +kernel, rfl⟩
theorem d_X2_append_55 : dec 1 cX2_append 55 .iadd 56 := ⟨by decide +kernel, rfl⟩
theorem d_X2_append_56 : decLL cX2_append 56 1 57 := Or.inr ⟨1, rfl, by decide +kernel, rfl⟩
theorem d_X2_append_57 : decIL cX2_append 57 4 59 := Or.inl ⟨by decide +kernel, rfl⟩
theorem d_X2_append_59 : dec 3 cX2_append 59 (.invokestatic 25) 62 := ⟨by decide +kernel, rfl⟩
theorem d_X2_append_62 : dec 1 cX2_append 62 .bastore 63 := ⟨by decide +kernel, rfl⟩
theorem d_X2_append_63 : dec 3 cX2_append 63 (.iinc 4 1) 66 := ⟨by decide +kernel, rfl⟩
theorem d_X2_append_66 : decB cX2_append 66 (.goto (-27)) (-27) 69 39 := ⟨by decide +kernel, rfl, by decide⟩
theorem d_X2_append_69 : decAL cX2_append 69 0 70 := Or.inr ⟨0, rfl, by decide +kernel, rfl⟩
theorem d_X2_append_70 : dec 1 cX2_append 70 .dup 71 := ⟨by decide +kernel, rfl⟩
theorem d_X2_append_71 : dec 3 cX2_append 71 (.getfield 15) 74 := ⟨by decide +kernel, rfl⟩
theorem d_X2_append_74 : decIL cX2_append 74 3 75 := Or.inr ⟨3, rfl, by decide +kernel, rfl⟩
theorem d_X2_append_75 : dec 1 cX2_append 75 .iadd 76 := ⟨by decide +kernel, rfl⟩
theorem d_X2_append_76 : dec 3 cX2_append 76 (.putfield 15) 79 := ⟨by decide +kernel, rfl⟩
theorem d_X2_append_79 : decAL cX2_append 79 0 80 := Or.inr ⟨0, rfl, by decide +kernel, rfl⟩
theorem d_X2_append_80 : dec 3 cX2_append 80 (.getfield 15) 83 := ⟨by decide +kernel, rfl⟩
theorem d_X2_append_83 : dec 1 cX2_append 83 .ireturn 84 := ⟨by decide +kernel, rfl⟩
def k_X2_append_69 (F : Nat)   (v0 : Nat) (v3 : Int32)  (n : Nat) (G : GH) : Option (Int32 × Nat × GH) :=
  Option.bind (gI G v0 2 1) (fun (x2 : Int32) =>
  Option.bind (pV G v0 2 1 (.int (x2 + v3))) (fun (G3 : GH) =>
  Option.bind (gI G3 v0 2 1) (fun (x4 : Int32) =>
  some (x4, n, G3))))
def b_X2_append_39 (F : Nat)   (v0 : Nat) (v1 : Int64) (v3 : Int32) (rec39 : Int32 → Nat → GH → Option (Int32 × Nat × GH)) : Int32 → Nat → GH → Option (Int32 × Nat × GH) := fun v4 n G =>
  if v3 ≤ v4 then
  (k_X2_append_69 F   v0 v3 n G)
  else (Option.bind (gR G v0 2 0) (fun (x5 : Nat) =>
  Option.bind (gI G v0 2 1) (fun (x6 : Int32) =>
  Option.bind (f_X2_byteOf F v1 v4 G) (fun (x7 : Int32) =>
  Option.bind (aS G x5 1 (x6 + v4) (vp_nar .byte x7)) (fun (G8 : GH) =>
  rec39 (v4 + 1) n G8)))))
def k_X2_append_22 (F : Nat)   (v0 : Nat) (v1 : Int64) (v3 : Int32)  (n : Nat) (G : GH) : Option (Int32 × Nat × GH) :=
  Option.bind (gI G v0 2 1) (fun (x1 : Int32) =>
  if (x1 + v3) ≤ (600 : Int32) then
  (fixN (fun _ _ _ => none) (b_X2_append_39 F   v0 v1 v3) F (0 : Int32) n G)
  else (some ((-1 : Int32), n, G)))
def b_X2_append_2 (F : Nat)   (v0 : Nat) (v1 : Int64) (n : Nat) (G : GH) (rec2 : Int32 → Option (Int32 × Nat × GH)) : Int32 → Option (Int32 × Nat × GH) := fun v3 =>
  if (8 : Int32) ≤ v3 then
  (k_X2_append_22 F   v0 v1 v3 n G)
  else (Option.bind (f_X2_byteOf F v1 v3 G) (fun (x9 : Int32) =>
  if x9 = 0 then
  (k_X2_append_22 F   v0 v1 v3 n G)
  else (rec2 (v3 + 1))))
def f_X2_append (F : Nat)  (v0 : Nat) (v1 : Int64) (n : Nat) (G : GH) : Option (Int32 × Nat × GH) :=
  fixN (fun _ => none) (b_X2_append_2 F   v0 v1 n G) F (0 : Int32)
set_option maxRecDepth 100000 in
set_option maxHeartbeats 4000000 in
theorem c_X2_append_69 {E : GE} {F : Nat}   {v0 : Nat} {v3 : Int32}  {n : Nat} {G : GH} {z : Int32 × Nat × GH}   (h : k_X2_append_69 F   v0 v3  n G = some z) : WG E RX2 "append" cX2_append 5 (some .int) 1 22 0 0 69 [(0, .ref v0), (3, .int v3)] [] n G (g_O E (some (.int z.1), z.2.1, z.2.2)) := by
  unfold k_X2_append_69 at h
  refine r_aload d_X2_append_69 rfl ?_
  refine r_dup d_X2_append_70 rfl ?_
  refine r_getI h d_X2_append_71 pf_X2_15 (fun x2 h => ?_)
  refine r_iload d_X2_append_74 rfl ?_
  refine r_iadd d_X2_append_75 ?_
  refine r_put h d_X2_append_76 pw_X2_15 rfl rfl (fun G3 h => ?_)
  refine r_aload d_X2_append_79 rfl ?_
  refine r_getI h d_X2_append_80 pf_X2_15 (fun x4 h => ?_)
  exact r_iret h d_X2_append_83
set_option maxRecDepth 100000 in
set_option maxHeartbeats 4000000 in
theorem l_X2_append_39 {E : GE} {F : Nat}   {v0 : Nat} {v1 : Int64} {v3 : Int32}   : ∀ (K : Nat) (v4 : Int32) (n : Nat) (G : GH) (z : Int32 × Nat × GH), fixN ((fun _ _ _ => none) : Int32 → Nat → GH → Option (Int32 × Nat × GH)) (b_X2_append_39 F   v0 v1 v3) K v4 n G = some z → WG E RX2 "append" cX2_append 5 (some .int) 1 22 0 0 39 [(0, .ref v0), (1, .long v1), (3, .int v3), (4, .int v4)] [] n G (g_O E (some (.int z.1), z.2.1, z.2.2)) := by
  intro K
  refine fixN_ind (P := fun (r : Int32 → Nat → GH → Option (Int32 × Nat × GH)) => ∀ (v4 : Int32) (n : Nat) (G : GH) (z : Int32 × Nat × GH), r v4 n G = some z → WG E RX2 "append" cX2_append 5 (some .int) 1 22 0 0 39 [(0, .ref v0), (1, .long v1), (3, .int v3), (4, .int v4)] [] n G (g_O E (some (.int z.1), z.2.1, z.2.2))) ?_ ?_ K
  · intro v4 n G z h
    cases h
  · intro rec39 hrec39 v4 n G z h
    unfold b_X2_append_39 at h
    refine r_iload d_X2_append_39 rfl ?_
    refine r_iload d_X2_append_41 rfl ?_
    refine r_icmp_ge h d_X2_append_42 (fun h => ?_) (fun h => ?_)
    · refine r_lv [(0, .ref v0), (3, .int v3)] (g_allc rfl (g_allc rfl g_alln)) ?_
      exact c_X2_append_69   h
    · refine r_aload d_X2_append_45 rfl ?_
      refine r_getR h d_X2_append_46 pf_X2_9 (fun x5 h => ?_)
      refine r_aload d_X2_append_49 rfl ?_
      refine r_getI h d_X2_append_50 pf_X2_15 (fun x6 h => ?_)
      refine r_iload d_X2_append_53 rfl ?_
      refine r_iadd d_X2_append_55 ?_
      refine r_lload d_X2_append_56 rfl ?_
      refine r_iload d_X2_append_57 rfl ?_
      refine r_invSP [_, _] h (fun _ hq => s_X2_byteOf hq) d_X2_append_59 pl_X2_25 py_X2_byteOf ps_X2_byteOf rfl rfl rfl (fun x7 h => ?_)
      refine r_bast h d_X2_append_62 (fun G8 h => ?_)
      refine r_iinc d_X2_append_63 rfl (ii_1 _) rfl rfl ?_
      refine r_goto d_X2_append_66 ?_
      refine r_lv [(0, .ref v0), (1, .long v1), (3, .int v3), (4, .int (v4 + 1))] (g_allc rfl (g_allc rfl (g_allc rfl (g_allc rfl g_alln)))) ?_
      exact hrec39 _ _ _ _ h
set_option maxRecDepth 100000 in
set_option maxHeartbeats 4000000 in
theorem c_X2_append_22 {E : GE} {F : Nat}   {v0 : Nat} {v1 : Int64} {v3 : Int32}  {n : Nat} {G : GH} {z : Int32 × Nat × GH}   (h : k_X2_append_22 F   v0 v1 v3  n G = some z) : WG E RX2 "append" cX2_append 5 (some .int) 1 22 0 0 22 [(0, .ref v0), (1, .long v1), (3, .int v3)] [] n G (g_O E (some (.int z.1), z.2.1, z.2.2)) := by
  unfold k_X2_append_22 at h
  refine r_aload d_X2_append_22 rfl ?_
  refine r_getI h d_X2_append_23 pf_X2_15 (fun x1 h => ?_)
  refine r_iload d_X2_append_26 rfl ?_
  refine r_iadd d_X2_append_27 ?_
  refine r_sipush d_X2_append_28 sp_600 ?_
  refine r_icmp_le h d_X2_append_31 (fun h => ?_) (fun h => ?_)
  · refine r_iconst d_X2_append_36 ic_0 ?_
    refine r_istore d_X2_append_37 rfl rfl ?_
    refine r_lv [(0, .ref v0), (1, .long v1), (3, .int v3), (4, .int (0 : Int32))] (g_allc rfl (g_allc rfl (g_allc rfl (g_allc rfl g_alln)))) ?_
    exact l_X2_append_39   _ _ _ _ _ h
  · refine r_iconst d_X2_append_34 ic_m1 ?_
    exact r_iret h d_X2_append_35
set_option maxRecDepth 100000 in
set_option maxHeartbeats 4000000 in
theorem l_X2_append_2 {E : GE} {F : Nat}   {v0 : Nat} {v1 : Int64} {n : Nat} {G : GH}   : ∀ (K : Nat) (v3 : Int32) (z : Int32 × Nat × GH), fixN ((fun _ => none) : Int32 → Option (Int32 × Nat × GH)) (b_X2_append_2 F   v0 v1 n G) K v3 = some z → WG E RX2 "append" cX2_append 5 (some .int) 1 22 0 0 2 [(0, .ref v0), (1, .long v1), (3, .int v3)] [] n G (g_O E (some (.int z.1), z.2.1, z.2.2)) := by
  intro K
  refine fixN_ind (P := fun (r : Int32 → Option (Int32 × Nat × GH)) => ∀ (v3 : Int32) (z : Int32 × Nat × GH), r v3 = some z → WG E RX2 "append" cX2_append 5 (some .int) 1 22 0 0 2 [(0, .ref v0), (1, .long v1), (3, .int v3)] [] n G (g_O E (some (.int z.1), z.2.1, z.2.2))) ?_ ?_ K
  · intro v3 z h
    cases h
  · intro rec2 hrec2 v3 z h
    unfold b_X2_append_2 at h
    refine r_iload d_X2_append_2 rfl ?_
    refine r_bipush d_X2_append_3 bp_8 ?_
    refine r_icmp_ge h d_X2_append_5 (fun h => ?_) (fun h => ?_)
    · refine r_lv [(0, .ref v0), (1, .long v1), (3, .int v3)] (g_allc rfl (g_allc rfl (g_allc rfl g_alln))) ?_
      exact c_X2_append_22   h
    · refine r_lload d_X2_append_8 rfl ?_
      refine r_iload d_X2_append_9 rfl ?_
      refine r_invSP [_, _] h (fun _ hq => s_X2_byteOf hq) d_X2_append_10 pl_X2_25 py_X2_byteOf ps_X2_byteOf rfl rfl rfl (fun x9 h => ?_)
      refine r_if_eq h d_X2_append_13 (fun h => ?_) (fun h => ?_)
      · refine r_lv [(0, .ref v0), (1, .long v1), (3, .int v3)] (g_allc rfl (g_allc rfl (g_allc rfl g_alln))) ?_
        exact c_X2_append_22   h
      · refine r_iinc d_X2_append_16 rfl (ii_1 _) rfl rfl ?_
        refine r_goto d_X2_append_19 ?_
        refine r_lv [(0, .ref v0), (1, .long v1), (3, .int (v3 + 1))] (g_allc rfl (g_allc rfl (g_allc rfl g_alln))) ?_
        exact hrec2 _ _ h
set_option maxRecDepth 100000 in
set_option maxHeartbeats 4000000 in
theorem s_X2_append {E : GE} {F : Nat}  {v0 : Nat} {v1 : Int64} {n : Nat} {G : GH} {z : Int32 × Nat × GH}  (h : f_X2_append F  v0 v1 n G = some z) : GM E yX2_append cX2_append 5 (some .int) 1 22 0 0 [.ref v0, .long v1] n G (some (.int z.1), z.2.1, z.2.2) := by
  refine GM.of (by decide) (Nat.le_of_ble_eq_true rfl) ?_
  show WG E RX2 "append" cX2_append 5 (some .int) 1 22 0 0 0 [(0, .ref v0), (1, .long v1)] [] n G (g_O E (some (.int z.1), z.2.1, z.2.2))
  unfold f_X2_append at h
  refine r_iconst d_X2_append_0 ic_0 ?_
  refine r_istore d_X2_append_1 rfl rfl ?_
  refine r_lv [(0, .ref v0), (1, .long v1), (3, .int (0 : Int32))] (g_allc rfl (g_allc rfl (g_allc rfl g_alln))) ?_
  exact l_X2_append_2   _ _ _ h
/-! X2_clear -/
theorem d_X2_clear_0 : decAL cX2_clear 0 0 1 := Or.inr ⟨0, rfl, by decide +kernel, rfl⟩
theorem d_X2_clear_1 : dec 1 cX2_clear 1 (.iconst 0) 2 := ⟨by decide +kernel, rfl⟩
theorem d_X2_clear_2 : dec 3 cX2_clear 2 (.putfield 15) 5 := ⟨by decide +kernel, rfl⟩
theorem d_X2_clear_5 : decAL cX2_clear 5 0 6 := Or.inr ⟨0, rfl, by decide +kernel, rfl⟩
theorem d_X2_clear_6 : decIL cX2_clear 6 1 7 := Or.inr ⟨1, rfl, by decide +kernel, rfl⟩
theorem d_X2_clear_7 : dec 3 cX2_clear 7 (.putfield 19) 10 := ⟨by decide +kernel, rfl⟩
theorem d_X2_clear_10 : decAL cX2_clear 10 0 11 := Or.inr ⟨0, rfl, by decide +kernel, rfl⟩
theorem d_X2_clear_11 : decIL cX2_clear 11 2 12 := Or.inr ⟨2, rfl, by decide +kernel, rfl⟩
theorem d_X2_clear_12 : dec 3 cX2_clear 12 (.putfield 22) 15 := ⟨by decide +kernel, rfl⟩
theorem d_X2_clear_15 : dec 1 cX2_clear 15 .return_ 16 := ⟨by decide +kernel, rfl⟩
def f_X2_clear (F : Nat)  (v0 : Nat) (v1 : Int32) (v2 : Int32) (n : Nat) (G : GH) : Option (Nat × GH) :=
  Option.bind (pV G v0 2 1 (.int (0 : Int32))) (fun (G1 : GH) =>
  Option.bind (pV G1 v0 2 2 (.int v1)) (fun (G2 : GH) =>
  Option.bind (pV G2 v0 2 3 (.int v2)) (fun (G3 : GH) =>
  some (n, G3))))
set_option maxRecDepth 100000 in
set_option maxHeartbeats 4000000 in
theorem s_X2_clear {E : GE} {F : Nat}  {v0 : Nat} {v1 : Int32} {v2 : Int32} {n : Nat} {G : GH} {z : Nat × GH}  (h : f_X2_clear F  v0 v1 v2 n G = some z) : GM E yX2_clear cX2_clear 3 none 0 0 0 0 [.ref v0, .int v1, .int v2] n G (none, z.1, z.2) := by
  refine GM.of (by decide) (Nat.le_of_ble_eq_true rfl) ?_
  show WG E RX2 "clear" cX2_clear 3 none 0 0 0 0 0 [(0, .ref v0), (1, .int v1), (2, .int v2)] [] n G (g_O E (none, z.1, z.2))
  unfold f_X2_clear at h
  refine r_aload d_X2_clear_0 rfl ?_
  refine r_iconst d_X2_clear_1 ic_0 ?_
  refine r_put h d_X2_clear_2 pw_X2_15 rfl rfl (fun G1 h => ?_)
  refine r_aload d_X2_clear_5 rfl ?_
  refine r_iload d_X2_clear_6 rfl ?_
  refine r_put h d_X2_clear_7 pw_X2_19 rfl rfl (fun G2 h => ?_)
  refine r_aload d_X2_clear_10 rfl ?_
  refine r_iload d_X2_clear_11 rfl ?_
  refine r_put h d_X2_clear_12 pw_X2_22 rfl rfl (fun G3 h => ?_)
  exact r_vret h d_X2_clear_15
/-! X2_copyFrom -/
theorem qy_l_X2_29 : Cond.methodLink RX2 29 arraycopyName ∈ g_tbl := g_in 1042 (by decide +kernel) rfl
theorem pf_X2_19 : pF RX2 19 2 2 := ⟨RX2, TX2, 4, rfl, by decide, rfl, Or.inl (g_in 136 (by decide +kernel) rfl)⟩
theorem pf_X2_22 : pF RX2 22 2 3 := ⟨RX2, TX2, 4, rfl, by decide, rfl, Or.inl (g_in 138 (by decide +kernel) rfl)⟩
theorem d_X2_copyFrom_0 : decAL cX2_copyFrom 0 1 1 := Or.inr ⟨1, rfl, by decide +kernel, rfl⟩
theorem d_X2_copyFrom_1 : dec 3 cX2_copyFrom 1 (.getfield 9) 4 := ⟨by decide +kernel, rfl⟩
theorem d_X2_copyFrom_4 : dec 1 cX2_copyFrom 4 (.iconst 0) 5 := ⟨by decide +kernel, rfl⟩
theorem d_X2_copyFrom_5 : decAL cX2_copyFrom 5 0 6 := Or.inr ⟨0, rfl, by decide +kernel, rfl⟩
theorem d_X2_copyFrom_6 : dec 3 cX2_copyFrom 6 (.getfield 9) 9 := ⟨by decide +kernel, rfl⟩
theorem d_X2_copyFrom_9 : dec 1 cX2_copyFrom 9 (.iconst 0) 10 := ⟨by decide +kernel, rfl⟩
theorem d_X2_copyFrom_10 : decAL cX2_copyFrom 10 1 11 := Or.inr ⟨1, rfl, by decide +kernel, rfl⟩
theorem d_X2_copyFrom_11 : dec 3 cX2_copyFrom 11 (.getfield 15) 14 := ⟨by decide +kernel, rfl⟩
theorem d_X2_copyFrom_14 : dec 3 cX2_copyFrom 14 (.invokestatic 29) 17 := ⟨by decide +kernel, rfl⟩
theorem d_X2_copyFrom_17 : decAL cX2_copyFrom 17 0 18 := Or.inr ⟨0, rfl, by decide +kernel, rfl⟩
theorem d_X2_copyFrom_18 : decAL cX2_copyFrom 18 1 19 := Or.inr ⟨1, rfl, by decide +kernel, rfl⟩
theorem d_X2_copyFrom_19 : dec 3 cX2_copyFrom 19 (.getfield 15) 22 := ⟨by decide +kernel, rfl⟩
theorem d_X2_copyFrom_22 : dec 3 cX2_copyFrom 22 (.putfield 15) 25 := ⟨by decide +kernel, rfl⟩
theorem d_X2_copyFrom_25 : decAL cX2_copyFrom 25 0 26 := Or.inr ⟨0, rfl, by decide +kernel, rfl⟩
theorem d_X2_copyFrom_26 : decAL cX2_copyFrom 26 1 27 := Or.inr ⟨1, rfl, by decide +kernel, rfl⟩
theorem d_X2_copyFrom_27 : dec 3 cX2_copyFrom 27 (.getfield 19) 30 := ⟨by decide +kernel, rfl⟩
theorem d_X2_copyFrom_30 : dec 3 cX2_copyFrom 30 (.putfield 19) 33 := ⟨by decide +kernel, rfl⟩
theorem d_X2_copyFrom_33 : decAL cX2_copyFrom 33 0 34 := Or.inr ⟨0, rfl, by decide +kernel, rfl⟩
theorem d_X2_copyFrom_34 : decAL cX2_copyFrom 34 1 35 := Or.inr ⟨1, rfl, by decide +kernel, rfl⟩
theorem d_X2_copyFrom_35 : dec 3 cX2_copyFrom 35 (.getfield 22) 38 := ⟨by decide +kernel, rfl⟩
theorem d_X2_copyFrom_38 : dec 3 cX2_copyFrom 38 (.putfield 22) 41 := ⟨by decide +kernel, rfl⟩
theorem d_X2_copyFrom_41 : dec 1 cX2_copyFrom 41 .return_ 42 := ⟨by decide +kernel, rfl⟩
def f_X2_copyFrom (F : Nat)  (v0 : Nat) (v1 : Nat) (n : Nat) (G : GH) : Option (Nat × GH) :=
  Option.bind (gR G v1 2 0) (fun (x1 : Nat) =>
  Option.bind (gR G v0 2 0) (fun (x2 : Nat) =>
  Option.bind (gI G v1 2 1) (fun (x3 : Int32) =>
  Option.bind (aC G 1 x1 (0 : Int32) x2 (0 : Int32) x3) (fun (G4 : GH) =>
  Option.bind (gI G4 v1 2 1) (fun (x5 : Int32) =>
  Option.bind (pV G4 v0 2 1 (.int x5)) (fun (G6 : GH) =>
  Option.bind (gI G6 v1 2 2) (fun (x7 : Int32) =>
  Option.bind (pV G6 v0 2 2 (.int x7)) (fun (G8 : GH) =>
  Option.bind (gI G8 v1 2 3) (fun (x9 : Int32) =>
  Option.bind (pV G8 v0 2 3 (.int x9)) (fun (G10 : GH) =>
  some (n, G10)))))))))))
set_option maxRecDepth 100000 in
set_option maxHeartbeats 4000000 in
theorem s_X2_copyFrom {E : GE} {F : Nat}  {v0 : Nat} {v1 : Nat} {n : Nat} {G : GH} {z : Nat × GH}  (h : f_X2_copyFrom F  v0 v1 n G = some z) : GM E yX2_copyFrom cX2_copyFrom 2 none 1 40 0 0 [.ref v0, .ref v1] n G (none, z.1, z.2) := by
  refine GM.of (by decide) (Nat.le_of_ble_eq_true rfl) ?_
  show WG E RX2 "copyFrom" cX2_copyFrom 2 none 1 40 0 0 0 [(0, .ref v0), (1, .ref v1)] [] n G (g_O E (none, z.1, z.2))
  unfold f_X2_copyFrom at h
  refine r_aload d_X2_copyFrom_0 rfl ?_
  refine r_getR h d_X2_copyFrom_1 pf_X2_9 (fun x1 h => ?_)
  refine r_iconst d_X2_copyFrom_4 ic_0 ?_
  refine r_aload d_X2_copyFrom_5 rfl ?_
  refine r_getR h d_X2_copyFrom_6 pf_X2_9 (fun x2 h => ?_)
  refine r_iconst d_X2_copyFrom_9 ic_0 ?_
  refine r_aload d_X2_copyFrom_10 rfl ?_
  refine r_getI h d_X2_copyFrom_11 pf_X2_15 (fun x3 h => ?_)
  refine r_acopy h d_X2_copyFrom_14 qy_l_X2_29 qy_n qy_s qy_i rfl rfl (fun G4 h => ?_)
  refine r_aload d_X2_copyFrom_17 rfl ?_
  refine r_aload d_X2_copyFrom_18 rfl ?_
  refine r_getI h d_X2_copyFrom_19 pf_X2_15 (fun x5 h => ?_)
  refine r_put h d_X2_copyFrom_22 pw_X2_15 rfl rfl (fun G6 h => ?_)
  refine r_aload d_X2_copyFrom_25 rfl ?_
  refine r_aload d_X2_copyFrom_26 rfl ?_
  refine r_getI h d_X2_copyFrom_27 pf_X2_19 (fun x7 h => ?_)
  refine r_put h d_X2_copyFrom_30 pw_X2_19 rfl rfl (fun G8 h => ?_)
  refine r_aload d_X2_copyFrom_33 rfl ?_
  refine r_aload d_X2_copyFrom_34 rfl ?_
  refine r_getI h d_X2_copyFrom_35 pf_X2_22 (fun x9 h => ?_)
  refine r_put h d_X2_copyFrom_38 pw_X2_22 rfl rfl (fun G10 h => ?_)
  exact r_vret h d_X2_copyFrom_41
/-! X9_init -/
theorem qol_X9_3 : Cond.methodLink RX9 3 objectInit ∈ g_tbl := g_in 282 (by decide +kernel) rfl
theorem pw_X9_9 {nm : String} : pW RX9 nm 9 9 0 .int := ⟨RX9, TX9, 5, rfl, by decide, rfl, Or.inl ⟨g_in 283 (by decide +kernel) rfl, Or.inl rfl⟩, by decide +kernel⟩
theorem pw_X9_15 {nm : String} : pW RX9 nm 15 9 1 .int := ⟨RX9, TX9, 5, rfl, by decide, rfl, Or.inl ⟨g_in 285 (by decide +kernel) rfl, Or.inl rfl⟩, by decide +kernel⟩
theorem pw_X9_18 : pW RX9 "<init>" 18 9 2 (.array .int) := ⟨RX9, TX9, 5, rfl, by decide, rfl, Or.inl ⟨g_in 287 (by decide +kernel) rfl, Or.inr ⟨rfl, rfl, rfl⟩⟩, by decide +kernel⟩
theorem pw_X9_22 {nm : String} : pW RX9 nm 22 9 3 .int := ⟨RX9, TX9, 5, rfl, by decide, rfl, Or.inl ⟨g_in 288 (by decide +kernel) rfl, Or.inl rfl⟩, by decide +kernel⟩
theorem pw_X9_25 : pW RX9 "<init>" 25 9 4 (.array .int) := ⟨RX9, TX9, 5, rfl, by decide, rfl, Or.inl ⟨g_in 290 (by decide +kernel) rfl, Or.inr ⟨rfl, rfl, rfl⟩⟩, by decide +kernel⟩
theorem d_X9_init_0 : decAL cX9_init 0 0 1 := Or.inr ⟨0, rfl, by decide +kernel, rfl⟩
theorem d_X9_init_1 : dec 3 cX9_init 1 (.invokespecial 3) 4 := ⟨by decide +kernel, rfl⟩
theorem d_X9_init_4 : decAL cX9_init 4 0 5 := Or.inr ⟨0, rfl, by decide +kernel, rfl⟩
theorem d_X9_init_5 : dec 1 cX9_init 5 (.iconst 0) 6 := ⟨by decide +kernel, rfl⟩
theorem d_X9_init_6 : dec 3 cX9_init 6 (.putfield 9) 9 := ⟨by decide +kernel, rfl⟩
theorem d_X9_init_9 : decAL cX9_init 9 0 10 := Or.inr ⟨0, rfl, by decide +kernel, rfl⟩
theorem d_X9_init_10 : dec 1 cX9_init 10 (.iconst 0) 11 := ⟨by decide +kernel, rfl⟩
theorem d_X9_init_11 : dec 3 cX9_init 11 (.putfield 15) 14 := ⟨by decide +kernel, rfl⟩
theorem d_X9_init_14 : decAL cX9_init 14 0 15 := Or.inr ⟨0, rfl, by decide +kernel, rfl⟩
theorem d_X9_init_15 : dec 2 cX9_init 15 (.bipush 73) 17 := ⟨by decide +kernel, rfl⟩
theorem d_X9_init_17 : dec 2 cX9_init 17 (.newarray .int) 19 := ⟨by decide +kernel, rfl⟩
theorem d_X9_init_19 : dec 3 cX9_init 19 (.putfield 18) 22 := ⟨by decide +kernel, rfl⟩
theorem d_X9_init_22 : decAL cX9_init 22 0 23 := Or.inr ⟨0, rfl, by decide +kernel, rfl⟩
theorem d_X9_init_23 : dec 1 cX9_init 23 (.iconst 0) 24 := ⟨by decide +kernel, rfl⟩
theorem d_X9_init_24 : dec 3 cX9_init 24 (.putfield 22) 27 := ⟨by decide +kernel, rfl⟩
theorem d_X9_init_27 : decAL cX9_init 27 0 28 := Or.inr ⟨0, rfl, by decide +kernel, rfl⟩
theorem d_X9_init_28 : dec 2 cX9_init 28 (.bipush 60) 30 := ⟨by decide +kernel, rfl⟩
theorem d_X9_init_30 : dec 2 cX9_init 30 (.newarray .int) 32 := ⟨by decide +kernel, rfl⟩
theorem d_X9_init_32 : dec 3 cX9_init 32 (.putfield 25) 35 := ⟨by decide +kernel, rfl⟩
theorem d_X9_init_35 : dec 1 cX9_init 35 .return_ 36 := ⟨by decide +kernel, rfl⟩
def f_X9_init (F : Nat)  (v0 : Nat) (n : Nat) (G : GH) : Option (Nat × GH) :=
  Option.bind (pV G v0 9 0 (.int (0 : Int32))) (fun (G1 : GH) =>
  Option.bind (pV G1 v0 9 1 (.int (0 : Int32))) (fun (G2 : GH) =>
  Option.bind (pV (gset G2 n (.inl (0, 73, .inl (fun _ => 0)))) v0 9 2 (.ref n)) (fun (G3 : GH) =>
  Option.bind (pV G3 v0 9 3 (.int (0 : Int32))) (fun (G4 : GH) =>
  Option.bind (pV (gset G4 (n + 1) (.inl (0, 60, .inl (fun _ => 0)))) v0 9 4 (.ref (n + 1))) (fun (G5 : GH) =>
  some ((n + 1) + 1, G5))))))
set_option maxRecDepth 100000 in
set_option maxHeartbeats 4000000 in
theorem s_X9_init {E : GE} {F : Nat}  {v0 : Nat} {n : Nat} {G : GH} {z : Nat × GH}  (h : f_X9_init F  v0 n G = some z) : GM E yX9_init cX9_init 1 none 1 40 2 133 [.ref v0] n G (none, z.1, z.2) := by
  refine GM.of (by decide) (Nat.le_of_ble_eq_true rfl) ?_
  show WG E RX9 "<init>" cX9_init 1 none 1 40 2 133 0 [(0, .ref v0)] [] n G (g_O E (none, z.1, z.2))
  unfold f_X9_init at h
  refine r_aload d_X9_init_0 rfl ?_
  refine r_obj d_X9_init_1 qol_X9_3 qoi qoc rfl rfl ?_
  refine r_aload d_X9_init_4 rfl ?_
  refine r_iconst d_X9_init_5 ic_0 ?_
  refine r_put h d_X9_init_6 pw_X9_9 rfl rfl (fun G1 h => ?_)
  refine r_aload d_X9_init_9 rfl ?_
  refine r_iconst d_X9_init_10 ic_0 ?_
  refine r_put h d_X9_init_11 pw_X9_15 rfl rfl (fun G2 h => ?_)
  refine r_aload d_X9_init_14 rfl ?_
  refine r_bipush d_X9_init_15 bp_73 ?_
  refine r_newaI (N := 73) d_X9_init_17 qa_int (by decide) (by decide) rfl rfl rfl ?_
  refine r_put h d_X9_init_19 pw_X9_18 rfl rfl (fun G3 h => ?_)
  refine r_aload d_X9_init_22 rfl ?_
  refine r_iconst d_X9_init_23 ic_0 ?_
  refine r_put h d_X9_init_24 pw_X9_22 rfl rfl (fun G4 h => ?_)
  refine r_aload d_X9_init_27 rfl ?_
  refine r_bipush d_X9_init_28 bp_60 ?_
  refine r_newaI (N := 60) d_X9_init_30 qa_int (by decide) (by decide) rfl rfl rfl ?_
  refine r_put h d_X9_init_32 pw_X9_25 rfl rfl (fun G5 h => ?_)
  exact r_vret h d_X9_init_35
/-! X9_clear -/
theorem d_X9_clear_0 : decAL cX9_clear 0 0 1 := Or.inr ⟨0, rfl, by decide +kernel, rfl⟩
theorem d_X9_clear_1 : dec 1 cX9_clear 1 (.iconst 0) 2 := ⟨by decide +kernel, rfl⟩
theorem d_X9_clear_2 : dec 3 cX9_clear 2 (.putfield 9) 5 := ⟨by decide +kernel, rfl⟩
theorem d_X9_clear_5 : decAL cX9_clear 5 0 6 := Or.inr ⟨0, rfl, by decide +kernel, rfl⟩
theorem d_X9_clear_6 : dec 1 cX9_clear 6 (.iconst 0) 7 := ⟨by decide +kernel, rfl⟩
theorem d_X9_clear_7 : dec 3 cX9_clear 7 (.putfield 15) 10 := ⟨by decide +kernel, rfl⟩
theorem d_X9_clear_10 : decAL cX9_clear 10 0 11 := Or.inr ⟨0, rfl, by decide +kernel, rfl⟩
theorem d_X9_clear_11 : dec 1 cX9_clear 11 (.iconst 0) 12 := ⟨by decide +kernel, rfl⟩
theorem d_X9_clear_12 : dec 3 cX9_clear 12 (.putfield 22) 15 := ⟨by decide +kernel, rfl⟩
theorem d_X9_clear_15 : dec 1 cX9_clear 15 .return_ 16 := ⟨by decide +kernel, rfl⟩
def f_X9_clear (F : Nat)  (v0 : Nat) (n : Nat) (G : GH) : Option (Nat × GH) :=
  Option.bind (pV G v0 9 0 (.int (0 : Int32))) (fun (G1 : GH) =>
  Option.bind (pV G1 v0 9 1 (.int (0 : Int32))) (fun (G2 : GH) =>
  Option.bind (pV G2 v0 9 3 (.int (0 : Int32))) (fun (G3 : GH) =>
  some (n, G3))))
set_option maxRecDepth 100000 in
set_option maxHeartbeats 4000000 in
theorem s_X9_clear {E : GE} {F : Nat}  {v0 : Nat} {n : Nat} {G : GH} {z : Nat × GH}  (h : f_X9_clear F  v0 n G = some z) : GM E yX9_clear cX9_clear 1 none 0 0 0 0 [.ref v0] n G (none, z.1, z.2) := by
  refine GM.of (by decide) (Nat.le_of_ble_eq_true rfl) ?_
  show WG E RX9 "clear" cX9_clear 1 none 0 0 0 0 0 [(0, .ref v0)] [] n G (g_O E (none, z.1, z.2))
  unfold f_X9_clear at h
  refine r_aload d_X9_clear_0 rfl ?_
  refine r_iconst d_X9_clear_1 ic_0 ?_
  refine r_put h d_X9_clear_2 pw_X9_9 rfl rfl (fun G1 h => ?_)
  refine r_aload d_X9_clear_5 rfl ?_
  refine r_iconst d_X9_clear_6 ic_0 ?_
  refine r_put h d_X9_clear_7 pw_X9_15 rfl rfl (fun G2 h => ?_)
  refine r_aload d_X9_clear_10 rfl ?_
  refine r_iconst d_X9_clear_11 ic_0 ?_
  refine r_put h d_X9_clear_12 pw_X9_22 rfl rfl (fun G3 h => ?_)
  exact r_vret h d_X9_clear_15
/-! X9_tellWhy -/
theorem qm_min_l_X9_28 : Cond.methodLink RX9 28 Lib.Math.min.name ∈ g_tbl := g_in 811 (by decide +kernel) rfl
theorem qm_min_s : Cond.static Lib.Math.min.name ∈ g_tbl := g_in 593 (by decide +kernel) rfl
theorem qm_i : Cond.initialized "java/lang/Math" ∈ g_tbl := g_in 111 (by decide +kernel) rfl
theorem qm_min_c : Cond.code Lib.Math.min.name Lib.Math.min.code 2 (some .int) ∈ g_tbl := g_in 594 (by decide +kernel) rfl
theorem pf_X9_18 : pF RX9 18 9 2 := ⟨RX9, TX9, 5, rfl, by decide, rfl, Or.inl (g_in 287 (by decide +kernel) rfl)⟩
theorem pf_X9_15 : pF RX9 15 9 1 := ⟨RX9, TX9, 5, rfl, by decide, rfl, Or.inl (g_in 285 (by decide +kernel) rfl)⟩
theorem qy_l_X9_34 : Cond.methodLink RX9 34 arraycopyName ∈ g_tbl := g_in 699 (by decide +kernel) rfl
theorem d_X9_tellWhy_0 : decAL cX9_tellWhy 0 0 1 := Or.inr ⟨0, rfl, by decide +kernel, rfl⟩
theorem d_X9_tellWhy_1 : decIL cX9_tellWhy 1 1 2 := Or.inr ⟨1, rfl, by decide +kernel, rfl⟩
theorem d_X9_tellWhy_2 : dec 3 cX9_tellWhy 2 (.putfield 9) 5 := ⟨by decide +kernel, rfl⟩
theorem d_X9_tellWhy_5 : decAL cX9_tellWhy 5 0 6 := Or.inr ⟨0, rfl, by decide +kernel, rfl⟩
theorem d_X9_tellWhy_6 : decIL cX9_tellWhy 6 3 7 := Or.inr ⟨3, rfl, by decide +kernel, rfl⟩
theorem d_X9_tellWhy_7 : decAL cX9_tellWhy 7 2 8 := Or.inr ⟨2, rfl, by decide +kernel, rfl⟩
theorem d_X9_tellWhy_8 : dec 1 cX9_tellWhy 8 .arraylength 9 := ⟨by decide +kernel, rfl⟩
theorem d_X9_tellWhy_9 : dec 2 cX9_tellWhy 9 (.bipush 73) 11 := ⟨by decide +kernel, rfl⟩
theorem d_X9_tellWhy_11 : dec 3 cX9_tellWhy 11 (.invokestatic 28) 14 := ⟨by decide +kernel, rfl⟩
theorem d_X9_tellWhy_14 : dec 3 cX9_tellWhy 14 (.invokestatic 28) 17 := ⟨by decide +kernel, rfl⟩
theorem d_X9_tellWhy_17 : dec 3 cX9_tellWhy 17 (.putfield 15) 20 := ⟨by decide +kernel, rfl⟩
theorem d_X9_tellWhy_20 : decAL cX9_tellWhy 20 2 21 := Or.inr ⟨2, rfl, by decide +kernel, rfl⟩
theorem d_X9_tellWhy_21 : dec 1 cX9_tellWhy 21 (.iconst 0) 22 := ⟨by decide +kernel, rfl⟩
theorem d_X9_tellWhy_22 : decAL cX9_tellWhy 22 0 23 := Or.inr ⟨0, rfl, by decide +kernel, rfl⟩
theorem d_X9_tellWhy_23 : dec 3 cX9_tellWhy 23 (.getfield 18) 26 := ⟨by decide +kernel, rfl⟩
theorem d_X9_tellWhy_26 : dec 1 cX9_tellWhy 26 (.iconst 0) 27 := ⟨by decide +kernel, rfl⟩
theorem d_X9_tellWhy_27 : decAL cX9_tellWhy 27 0 28 := Or.inr ⟨0, rfl, by decide +kernel, rfl⟩
theorem d_X9_tellWhy_28 : dec 3 cX9_tellWhy 28 (.getfield 15) 31 := ⟨by decide +kernel, rfl⟩
theorem d_X9_tellWhy_31 : dec 3 cX9_tellWhy 31 (.invokestatic 34) 34 := ⟨by decide +kernel, rfl⟩
theorem d_X9_tellWhy_34 : dec 1 cX9_tellWhy 34 .return_ 35 := ⟨by decide +kernel, rfl⟩
def f_X9_tellWhy (F : Nat)  (v0 : Nat) (v1 : Int32) (v2 : Nat) (v3 : Int32) (n : Nat) (G : GH) : Option (Nat × GH) :=
  Option.bind (pV G v0 9 0 (.int v1)) (fun (G1 : GH) =>
  Option.bind (aL G1 v2) (fun (x2 : Int32) =>
  Option.bind (pV G1 v0 9 1 (.int (if (if (73 : Int32) < x2 then (73 : Int32) else x2) < v3 then (if (73 : Int32) < x2 then (73 : Int32) else x2) else v3))) (fun (G3 : GH) =>
  Option.bind (gR G3 v0 9 2) (fun (x4 : Nat) =>
  Option.bind (gI G3 v0 9 1) (fun (x5 : Int32) =>
  Option.bind (aC G3 0 v2 (0 : Int32) x4 (0 : Int32) x5) (fun (G6 : GH) =>
  some (n, G6)))))))
set_option maxRecDepth 100000 in
set_option maxHeartbeats 4000000 in
theorem s_X9_tellWhy {E : GE} {F : Nat}  {v0 : Nat} {v1 : Int32} {v2 : Nat} {v3 : Int32} {n : Nat} {G : GH} {z : Nat × GH}  (h : f_X9_tellWhy F  v0 v1 v2 v3 n G = some z) : GM E yX9_tellWhy cX9_tellWhy 4 none 1 40 0 0 [.ref v0, .int v1, .ref v2, .int v3] n G (none, z.1, z.2) := by
  refine GM.of (by decide) (Nat.le_of_ble_eq_true rfl) ?_
  show WG E RX9 "tellWhy" cX9_tellWhy 4 none 1 40 0 0 0 [(0, .ref v0), (1, .int v1), (2, .ref v2), (3, .int v3)] [] n G (g_O E (none, z.1, z.2))
  unfold f_X9_tellWhy at h
  refine r_aload d_X9_tellWhy_0 rfl ?_
  refine r_iload d_X9_tellWhy_1 rfl ?_
  refine r_put h d_X9_tellWhy_2 pw_X9_9 rfl rfl (fun G1 h => ?_)
  refine r_aload d_X9_tellWhy_5 rfl ?_
  refine r_iload d_X9_tellWhy_6 rfl ?_
  refine r_aload d_X9_tellWhy_7 rfl ?_
  refine r_alen h d_X9_tellWhy_8 (fun x2 h => ?_)
  refine r_bipush d_X9_tellWhy_9 bp_73 ?_
  refine r_min d_X9_tellWhy_11 qm_min_l_X9_28 qm_min_s qm_i qm_min_c rfl rfl ?_
  refine r_min d_X9_tellWhy_14 qm_min_l_X9_28 qm_min_s qm_i qm_min_c rfl rfl ?_
  refine r_put h d_X9_tellWhy_17 pw_X9_15 rfl rfl (fun G3 h => ?_)
  refine r_aload d_X9_tellWhy_20 rfl ?_
  refine r_iconst d_X9_tellWhy_21 ic_0 ?_
  refine r_aload d_X9_tellWhy_22 rfl ?_
  refine r_getR h d_X9_tellWhy_23 pf_X9_18 (fun x4 h => ?_)
  refine r_iconst d_X9_tellWhy_26 ic_0 ?_
  refine r_aload d_X9_tellWhy_27 rfl ?_
  refine r_getI h d_X9_tellWhy_28 pf_X9_15 (fun x5 h => ?_)
  refine r_acopy h d_X9_tellWhy_31 qy_l_X9_34 qy_n qy_s qy_i rfl rfl (fun G6 h => ?_)
  exact r_vret h d_X9_tellWhy_34
/-! X9_whyAt -/
theorem d_X9_whyAt_0 : decIL cX9_whyAt 0 1 1 := Or.inr ⟨1, rfl, by decide +kernel, rfl⟩
theorem d_X9_whyAt_1 : decB cX9_whyAt 1 (.ifCond .lt 20) (20) 4 21 := ⟨by decide +kernel, rfl, by decide⟩
theorem d_X9_whyAt_4 : decIL cX9_whyAt 4 1 5 := Or.inr ⟨1, rfl, by decide +kernel, rfl⟩
theorem d_X9_whyAt_5 : decAL cX9_whyAt 5 0 6 := Or.inr ⟨0, rfl, by decide +kernel, rfl⟩
theorem d_X9_whyAt_6 : dec 3 cX9_whyAt 6 (.getfield 15) 9 := ⟨by decide +kernel, rfl⟩
theorem d_X9_whyAt_9 : decB cX9_whyAt 9 (.if_icmp .ge 12) (12) 12 21 := ⟨by decide +kernel, rfl, by decide⟩
theorem d_X9_whyAt_12 : decAL cX9_whyAt 12 0 13 := Or.inr ⟨0, rfl, by decide +kernel, rfl⟩
theorem d_X9_whyAt_13 : dec 3 cX9_whyAt 13 (.getfield 18) 16 := ⟨by decide +kernel, rfl⟩
theorem d_X9_whyAt_16 : decIL cX9_whyAt 16 1 17 := Or.inr ⟨1, rfl, by decide +kernel, rfl⟩
theorem d_X9_whyAt_17 : dec 1 cX9_whyAt 17 .iaload 18 := ⟨by decide +kernel, rfl⟩
theorem d_X9_whyAt_18 : decB cX9_whyAt 18 (.goto 4) (4) 21 22 := ⟨by decide +kernel, rfl, by decide⟩
theorem d_X9_whyAt_21 : dec 1 cX9_whyAt 21 (.iconst (-1)) 22 := ⟨by decide +kernel, rfl⟩
theorem d_X9_whyAt_22 : dec 1 cX9_whyAt 22 .ireturn 23 := ⟨by decide +kernel, rfl⟩
def f_X9_whyAt (F : Nat)  (v0 : Nat) (v1 : Int32) (G : GH) : Option (Int32) :=
  if v1 < 0 then
  (some (-1 : Int32))
  else (Option.bind (gI G v0 9 1) (fun (x1 : Int32) =>
  if x1 ≤ v1 then
  (some (-1 : Int32))
  else (Option.bind (gR G v0 9 2) (fun (x2 : Nat) =>
  Option.bind (aI G x2 0 v1) (fun (x3 : Int32) =>
  some x3)))))
set_option maxRecDepth 100000 in
set_option maxHeartbeats 4000000 in
theorem s_X9_whyAt {E : GE} {F : Nat}  {v0 : Nat} {v1 : Int32} {n : Nat} {G : GH} {z : Int32}  (h : f_X9_whyAt F  v0 v1 G = some z) : GM E yX9_whyAt cX9_whyAt 2 (some .int) 0 0 0 0 [.ref v0, .int v1] n G (some (.int z), n, G) := by
  refine GM.of (by decide) (Nat.le_of_ble_eq_true rfl) ?_
  show WG E RX9 "whyAt" cX9_whyAt 2 (some .int) 0 0 0 0 0 [(0, .ref v0), (1, .int v1)] [] n G (g_O E (some (.int z), n, G))
  unfold f_X9_whyAt at h
  refine r_iload d_X9_whyAt_0 rfl ?_
  refine r_if_lt h d_X9_whyAt_1 (fun h => ?_) (fun h => ?_)
  · refine r_iconst d_X9_whyAt_21 ic_m1 ?_
    exact r_pret h d_X9_whyAt_22
  · refine r_iload d_X9_whyAt_4 rfl ?_
    refine r_aload d_X9_whyAt_5 rfl ?_
    refine r_getI h d_X9_whyAt_6 pf_X9_15 (fun x1 h => ?_)
    refine r_icmp_ge h d_X9_whyAt_9 (fun h => ?_) (fun h => ?_)
    · refine r_iconst d_X9_whyAt_21 ic_m1 ?_
      exact r_pret h d_X9_whyAt_22
    · refine r_aload d_X9_whyAt_12 rfl ?_
      refine r_getR h d_X9_whyAt_13 pf_X9_18 (fun x2 h => ?_)
      refine r_iload d_X9_whyAt_16 rfl ?_
      refine r_iald h d_X9_whyAt_17 (fun x3 h => ?_)
      refine r_goto d_X9_whyAt_18 ?_
      exact r_pret h d_X9_whyAt_22
/-! X9_tellEnded -/
theorem pf_X9_40 : pF RX9 40 7 0 := ⟨RX7, TX7, 7, rfl, by decide, rfl, Or.inr ⟨"PlugBoard", g_in 244 (by decide +kernel) rfl⟩⟩
theorem pf_X9_45 : pF RX9 45 7 2 := ⟨RX7, TX7, 7, rfl, by decide, rfl, Or.inr ⟨"PlugBoard", g_in 251 (by decide +kernel) rfl⟩⟩
theorem pf_X9_25 : pF RX9 25 9 4 := ⟨RX9, TX9, 5, rfl, by decide, rfl, Or.inl (g_in 290 (by decide +kernel) rfl)⟩
theorem pf_X9_22 : pF RX9 22 9 3 := ⟨RX9, TX9, 5, rfl, by decide, rfl, Or.inl (g_in 288 (by decide +kernel) rfl)⟩
theorem pf_X9_48 : pF RX9 48 7 1 := ⟨RX7, TX7, 7, rfl, by decide, rfl, Or.inr ⟨"PlugBoard", g_in 247 (by decide +kernel) rfl⟩⟩
theorem d_X9_tellEnded_0 : decAL cX9_tellEnded 0 0 1 := Or.inr ⟨0, rfl, by decide +kernel, rfl⟩
theorem d_X9_tellEnded_1 : dec 1 cX9_tellEnded 1 (.iconst 0) 2 := ⟨by decide +kernel, rfl⟩
theorem d_X9_tellEnded_2 : dec 3 cX9_tellEnded 2 (.putfield 22) 5 := ⟨by decide +kernel, rfl⟩
theorem d_X9_tellEnded_5 : decAL cX9_tellEnded 5 1 6 := Or.inr ⟨1, rfl, by decide +kernel, rfl⟩
theorem d_X9_tellEnded_6 : dec 3 cX9_tellEnded 6 (.getfield 40) 9 := ⟨by decide +kernel, rfl⟩
theorem d_X9_tellEnded_9 : dec 1 cX9_tellEnded 9 (.iconst 1) 10 := ⟨by decide +kernel, rfl⟩
theorem d_X9_tellEnded_10 : dec 1 cX9_tellEnded 10 .isub 11 := ⟨by decide +kernel, rfl⟩
theorem d_X9_tellEnded_11 : decIS cX9_tellEnded 11 3 12 := Or.inr ⟨3, rfl, by decide +kernel, rfl⟩
theorem d_X9_tellEnded_12 : decIL cX9_tellEnded 12 3 13 := Or.inr ⟨3, rfl, by decide +kernel, rfl⟩
theorem d_X9_tellEnded_13 : decB cX9_tellEnded 13 (.ifCond .lt 44) (44) 16 57 := ⟨by decide +kernel, rfl, by decide⟩
theorem d_X9_tellEnded_16 : decAL cX9_tellEnded 16 1 17 := Or.inr ⟨1, rfl, by decide +kernel, rfl⟩
theorem d_X9_tellEnded_17 : dec 3 cX9_tellEnded 17 (.getfield 45) 20 := ⟨by decide +kernel, rfl⟩
theorem d_X9_tellEnded_20 : decIL cX9_tellEnded 20 3 21 := Or.inr ⟨3, rfl, by decide +kernel, rfl⟩
theorem d_X9_tellEnded_21 : dec 1 cX9_tellEnded 21 .iaload 22 := ⟨by decide +kernel, rfl⟩
theorem d_X9_tellEnded_22 : decIL cX9_tellEnded 22 2 23 := Or.inr ⟨2, rfl, by decide +kernel, rfl⟩
theorem d_X9_tellEnded_23 : decB cX9_tellEnded 23 (.if_icmp .ne 28) (28) 26 51 := ⟨by decide +kernel, rfl, by decide⟩
theorem d_X9_tellEnded_26 : decAL cX9_tellEnded 26 0 27 := Or.inr ⟨0, rfl, by decide +kernel, rfl⟩
theorem d_X9_tellEnded_27 : dec 3 cX9_tellEnded 27 (.getfield 25) 30 := ⟨by decide +kernel, rfl⟩
theorem d_X9_tellEnded_30 : decAL cX9_tellEnded 30 0 31 := Or.inr ⟨0, rfl, by decide +kernel, rfl⟩
theorem d_X9_tellEnded_31 : dec 3 cX9_tellEnded 31 (.getfield 22) 34 := ⟨by decide +kernel, rfl⟩
theorem d_X9_tellEnded_34 : decAL cX9_tellEnded 34 1 35 := Or.inr ⟨1, rfl, by decide +kernel, rfl⟩
theorem d_X9_tellEnded_35 : dec 3 cX9_tellEnded 35 (.getfield 48) 38 := ⟨by decide +kernel, rfl⟩
theorem d_X9_tellEnded_38 : decIL cX9_tellEnded 38 3 39 := Or.inr ⟨3, rfl, by decide +kernel, rfl⟩
theorem d_X9_tellEnded_39 : dec 1 cX9_tellEnded 39 .iaload 40 := ⟨by decide +kernel, rfl⟩
theorem d_X9_tellEnded_40 : dec 1 cX9_tellEnded 40 .iastore 41 := ⟨by decide +kernel, rfl⟩
theorem d_X9_tellEnded_41 : decAL cX9_tellEnded 41 0 42 := Or.inr ⟨0, rfl, by decide +kernel, rfl⟩
theorem d_X9_tellEnded_42 : dec 1 cX9_tellEnded 42 .dup 43 := ⟨by decide +kernel, rfl⟩
theorem d_X9_tellEnded_43 : dec 3 cX9_tellEnded 43 (.getfield 22) 46 := ⟨by decide +kernel, rfl⟩
theorem d_X9_tellEnded_46 : dec 1 cX9_tellEnded 46 (.iconst 1) 47 := ⟨by decide +kernel, rfl⟩
theorem d_X9_tellEnded_47 : dec 1 cX9_tellEnded 47 .iadd 48 := ⟨by decide +kernel, rfl⟩
theorem d_X9_tellEnded_48 : dec 3 cX9_tellEnded 48 (.putfield 22) 51 := ⟨by decide +kernel, rfl⟩
theorem d_X9_tellEnded_51 : dec 3 cX9_tellEnded 51 (.iinc 3 (-1)) 54 := ⟨by decide +kernel, rfl⟩
theorem d_X9_tellEnded_54 : decB cX9_tellEnded 54 (.goto (-42)) (-42) 57 12 := ⟨by decide +kernel, rfl, by decide⟩
theorem d_X9_tellEnded_57 : dec 1 cX9_tellEnded 57 .return_ 58 := ⟨by decide +kernel, rfl⟩
def b_X9_tellEnded_12 (F : Nat)   (v0 : Nat) (v1 : Nat) (v2 : Int32) (rec12 : Int32 → Nat → GH → Option (Nat × GH)) : Int32 → Nat → GH → Option (Nat × GH) := fun v3 n G =>
  if v3 < 0 then
  (some (n, G))
  else (Option.bind (gR G v1 7 2) (fun (x4 : Nat) =>
  Option.bind (aI G x4 0 v3) (fun (x5 : Int32) =>
  if x5 = v2 then
  (Option.bind (gR G v0 9 4) (fun (x6 : Nat) =>
  Option.bind (gI G v0 9 3) (fun (x7 : Int32) =>
  Option.bind (gR G v1 7 1) (fun (x8 : Nat) =>
  Option.bind (aI G x8 0 v3) (fun (x9 : Int32) =>
  Option.bind (aS G x6 0 x7 x9) (fun (G10 : GH) =>
  Option.bind (gI G10 v0 9 3) (fun (x11 : Int32) =>
  Option.bind (pV G10 v0 9 3 (.int (x11 + (1 : Int32)))) (fun (G12 : GH) =>
  rec12 (v3 + (-1)) n G12))))))))
  else (rec12 (v3 + (-1)) n G))))
def f_X9_tellEnded (F : Nat)  (v0 : Nat) (v1 : Nat) (v2 : Int32) (n : Nat) (G : GH) : Option (Nat × GH) :=
  Option.bind (pV G v0 9 3 (.int (0 : Int32))) (fun (G1 : GH) =>
  Option.bind (gI G1 v1 7 0) (fun (x2 : Int32) =>
  gnm (x2 - (1 : Int32)) (fun (y3 : Int32) =>
  fixN (fun _ _ _ => none) (b_X9_tellEnded_12 F   v0 v1 v2) F y3 n G1)))
set_option maxRecDepth 100000 in
set_option maxHeartbeats 4000000 in
theorem l_X9_tellEnded_12 {E : GE} {F : Nat}   {v0 : Nat} {v1 : Nat} {v2 : Int32}   : ∀ (K : Nat) (v3 : Int32) (n : Nat) (G : GH) (z : Nat × GH), fixN ((fun _ _ _ => none) : Int32 → Nat → GH → Option (Nat × GH)) (b_X9_tellEnded_12 F   v0 v1 v2) K v3 n G = some z → WG E RX9 "tellEnded" cX9_tellEnded 4 none 0 0 0 0 12 [(0, .ref v0), (1, .ref v1), (2, .int v2), (3, .int v3)] [] n G (g_O E (none, z.1, z.2)) := by
  intro K
  refine fixN_ind (P := fun (r : Int32 → Nat → GH → Option (Nat × GH)) => ∀ (v3 : Int32) (n : Nat) (G : GH) (z : Nat × GH), r v3 n G = some z → WG E RX9 "tellEnded" cX9_tellEnded 4 none 0 0 0 0 12 [(0, .ref v0), (1, .ref v1), (2, .int v2), (3, .int v3)] [] n G (g_O E (none, z.1, z.2))) ?_ ?_ K
  · intro v3 n G z h
    cases h
  · intro rec12 hrec12 v3 n G z h
    unfold b_X9_tellEnded_12 at h
    refine r_iload d_X9_tellEnded_12 rfl ?_
    refine r_if_lt h d_X9_tellEnded_13 (fun h => ?_) (fun h => ?_)
    · exact r_vret h d_X9_tellEnded_57
    · refine r_aload d_X9_tellEnded_16 rfl ?_
      refine r_getR h d_X9_tellEnded_17 pf_X9_45 (fun x4 h => ?_)
      refine r_iload d_X9_tellEnded_20 rfl ?_
      refine r_iald h d_X9_tellEnded_21 (fun x5 h => ?_)
      refine r_iload d_X9_tellEnded_22 rfl ?_
      refine r_icmp_ne h d_X9_tellEnded_23 (fun h => ?_) (fun h => ?_)
      · refine r_iinc d_X9_tellEnded_51 rfl (ii_m1 _) rfl rfl ?_
        refine r_goto d_X9_tellEnded_54 ?_
        refine r_lv [(0, .ref v0), (1, .ref v1), (2, .int v2), (3, .int (v3 + (-1)))] (g_allc rfl (g_allc rfl (g_allc rfl (g_allc rfl g_alln)))) ?_
        exact hrec12 _ _ _ _ h
      · refine r_aload d_X9_tellEnded_26 rfl ?_
        refine r_getR h d_X9_tellEnded_27 pf_X9_25 (fun x6 h => ?_)
        refine r_aload d_X9_tellEnded_30 rfl ?_
        refine r_getI h d_X9_tellEnded_31 pf_X9_22 (fun x7 h => ?_)
        refine r_aload d_X9_tellEnded_34 rfl ?_
        refine r_getR h d_X9_tellEnded_35 pf_X9_48 (fun x8 h => ?_)
        refine r_iload d_X9_tellEnded_38 rfl ?_
        refine r_iald h d_X9_tellEnded_39 (fun x9 h => ?_)
        refine r_iast h d_X9_tellEnded_40 (fun G10 h => ?_)
        refine r_aload d_X9_tellEnded_41 rfl ?_
        refine r_dup d_X9_tellEnded_42 rfl ?_
        refine r_getI h d_X9_tellEnded_43 pf_X9_22 (fun x11 h => ?_)
        refine r_iconst d_X9_tellEnded_46 ic_1 ?_
        refine r_iadd d_X9_tellEnded_47 ?_
        refine r_put h d_X9_tellEnded_48 pw_X9_22 rfl rfl (fun G12 h => ?_)
        refine r_iinc d_X9_tellEnded_51 rfl (ii_m1 _) rfl rfl ?_
        refine r_goto d_X9_tellEnded_54 ?_
        refine r_lv [(0, .ref v0), (1, .ref v1), (2, .int v2), (3, .int (v3 + (-1)))] (g_allc rfl (g_allc rfl (g_allc rfl (g_allc rfl g_alln)))) ?_
        exact hrec12 _ _ _ _ h
set_option maxRecDepth 100000 in
set_option maxHeartbeats 4000000 in
theorem s_X9_tellEnded {E : GE} {F : Nat}  {v0 : Nat} {v1 : Nat} {v2 : Int32} {n : Nat} {G : GH} {z : Nat × GH}  (h : f_X9_tellEnded F  v0 v1 v2 n G = some z) : GM E yX9_tellEnded cX9_tellEnded 4 none 0 0 0 0 [.ref v0, .ref v1, .int v2] n G (none, z.1, z.2) := by
  refine GM.of (by decide) (Nat.le_of_ble_eq_true rfl) ?_
  show WG E RX9 "tellEnded" cX9_tellEnded 4 none 0 0 0 0 0 [(0, .ref v0), (1, .ref v1), (2, .int v2)] [] n G (g_O E (none, z.1, z.2))
  unfold f_X9_tellEnded at h
  refine r_aload d_X9_tellEnded_0 rfl ?_
  refine r_iconst d_X9_tellEnded_1 ic_0 ?_
  refine r_put h d_X9_tellEnded_2 pw_X9_22 rfl rfl (fun G1 h => ?_)
  refine r_aload d_X9_tellEnded_5 rfl ?_
  refine r_getI h d_X9_tellEnded_6 pf_X9_40 (fun x2 h => ?_)
  refine r_iconst d_X9_tellEnded_9 ic_1 ?_
  refine r_isub d_X9_tellEnded_10 ?_
  refine r_nmI h (fun y3 _ h => ?_)
  refine r_istore d_X9_tellEnded_11 rfl rfl ?_
  refine r_lv [(0, .ref v0), (1, .ref v1), (2, .int v2), (3, .int y3)] (g_allc rfl (g_allc rfl (g_allc rfl (g_allc rfl g_alln)))) ?_
  exact l_X9_tellEnded_12   _ _ _ _ _ h
/-! X9_endedAt -/
theorem d_X9_endedAt_0 : decIL cX9_endedAt 0 1 1 := Or.inr ⟨1, rfl, by decide +kernel, rfl⟩
theorem d_X9_endedAt_1 : decB cX9_endedAt 1 (.ifCond .lt 20) (20) 4 21 := ⟨by decide +kernel, rfl, by decide⟩
theorem d_X9_endedAt_4 : decIL cX9_endedAt 4 1 5 := Or.inr ⟨1, rfl, by decide +kernel, rfl⟩
theorem d_X9_endedAt_5 : decAL cX9_endedAt 5 0 6 := Or.inr ⟨0, rfl, by decide +kernel, rfl⟩
theorem d_X9_endedAt_6 : dec 3 cX9_endedAt 6 (.getfield 22) 9 := ⟨by decide +kernel, rfl⟩
theorem d_X9_endedAt_9 : decB cX9_endedAt 9 (.if_icmp .ge 12) (12) 12 21 := ⟨by decide +kernel, rfl, by decide⟩
theorem d_X9_endedAt_12 : decAL cX9_endedAt 12 0 13 := Or.inr ⟨0, rfl, by decide +kernel, rfl⟩
theorem d_X9_endedAt_13 : dec 3 cX9_endedAt 13 (.getfield 25) 16 := ⟨by decide +kernel, rfl⟩
theorem d_X9_endedAt_16 : decIL cX9_endedAt 16 1 17 := Or.inr ⟨1, rfl, by decide +kernel, rfl⟩
theorem d_X9_endedAt_17 : dec 1 cX9_endedAt 17 .iaload 18 := ⟨by decide +kernel, rfl⟩
theorem d_X9_endedAt_18 : decB cX9_endedAt 18 (.goto 4) (4) 21 22 := ⟨by decide +kernel, rfl, by decide⟩
theorem d_X9_endedAt_21 : dec 1 cX9_endedAt 21 (.iconst (-1)) 22 := ⟨by decide +kernel, rfl⟩
theorem d_X9_endedAt_22 : dec 1 cX9_endedAt 22 .ireturn 23 := ⟨by decide +kernel, rfl⟩
def f_X9_endedAt (F : Nat)  (v0 : Nat) (v1 : Int32) (G : GH) : Option (Int32) :=
  if v1 < 0 then
  (some (-1 : Int32))
  else (Option.bind (gI G v0 9 3) (fun (x1 : Int32) =>
  if x1 ≤ v1 then
  (some (-1 : Int32))
  else (Option.bind (gR G v0 9 4) (fun (x2 : Nat) =>
  Option.bind (aI G x2 0 v1) (fun (x3 : Int32) =>
  some x3)))))
set_option maxRecDepth 100000 in
set_option maxHeartbeats 4000000 in
theorem s_X9_endedAt {E : GE} {F : Nat}  {v0 : Nat} {v1 : Int32} {n : Nat} {G : GH} {z : Int32}  (h : f_X9_endedAt F  v0 v1 G = some z) : GM E yX9_endedAt cX9_endedAt 2 (some .int) 0 0 0 0 [.ref v0, .int v1] n G (some (.int z), n, G) := by
  refine GM.of (by decide) (Nat.le_of_ble_eq_true rfl) ?_
  show WG E RX9 "endedAt" cX9_endedAt 2 (some .int) 0 0 0 0 0 [(0, .ref v0), (1, .int v1)] [] n G (g_O E (some (.int z), n, G))
  unfold f_X9_endedAt at h
  refine r_iload d_X9_endedAt_0 rfl ?_
  refine r_if_lt h d_X9_endedAt_1 (fun h => ?_) (fun h => ?_)
  · refine r_iconst d_X9_endedAt_21 ic_m1 ?_
    exact r_pret h d_X9_endedAt_22
  · refine r_iload d_X9_endedAt_4 rfl ?_
    refine r_aload d_X9_endedAt_5 rfl ?_
    refine r_getI h d_X9_endedAt_6 pf_X9_22 (fun x1 h => ?_)
    refine r_icmp_ge h d_X9_endedAt_9 (fun h => ?_) (fun h => ?_)
    · refine r_iconst d_X9_endedAt_21 ic_m1 ?_
      exact r_pret h d_X9_endedAt_22
    · refine r_aload d_X9_endedAt_12 rfl ?_
      refine r_getR h d_X9_endedAt_13 pf_X9_25 (fun x2 h => ?_)
      refine r_iload d_X9_endedAt_16 rfl ?_
      refine r_iald h d_X9_endedAt_17 (fun x3 h => ?_)
      refine r_goto d_X9_endedAt_18 ?_
      exact r_pret h d_X9_endedAt_22
/-! X9_badAt -/
theorem pf_X9_51 : pF RX9 51 3 5 := ⟨RX3, TX3, 9, rfl, by decide, rfl, Or.inr ⟨"PlugBoard", g_in 198 (by decide +kernel) rfl⟩⟩
theorem d_X9_badAt_0 : dec 1 cX9_badAt 0 (.iconst 0) 1 := ⟨by decide +kernel, rfl⟩
theorem d_X9_badAt_1 : decIS cX9_badAt 1 3 2 := Or.inr ⟨3, rfl, by decide +kernel, rfl⟩
theorem d_X9_badAt_2 : dec 1 cX9_badAt 2 (.iconst 0) 3 := ⟨by decide +kernel, rfl⟩
theorem d_X9_badAt_3 : decIS cX9_badAt 3 4 5 := Or.inl ⟨by decide +kernel, rfl⟩
theorem d_X9_badAt_5 : decIL cX9_badAt 5 4 7 := Or.inl ⟨by decide +kernel, rfl⟩
theorem d_X9_badAt_7 : decAL cX9_badAt 7 0 8 := Or.inr ⟨0, rfl, by decide +kernel, rfl⟩
theorem d_X9_badAt_8 : dec 3 cX9_badAt 8 (.getfield 22) 11 := ⟨by decide +kernel, rfl⟩
theorem d_X9_badAt_11 : decB cX9_badAt 11 (.if_icmp .ge 40) (40) 14 51 := ⟨by decide +kernel, rfl, by decide⟩
theorem d_X9_badAt_14 : decAL cX9_badAt 14 1 15 := Or.inr ⟨1, rfl, by decide +kernel, rfl⟩
theorem d_X9_badAt_15 : dec 3 cX9_badAt 15 (.getfield 51) 18 := ⟨by decide +kernel, rfl⟩
theorem d_X9_badAt_18 : decAL cX9_badAt 18 0 19 := Or.inr ⟨0, rfl, by decide +kernel, rfl⟩
theorem d_X9_badAt_19 : dec 3 cX9_badAt 19 (.getfield 25) 22 := ⟨by decide +kernel, rfl⟩
theorem d_X9_badAt_22 : decIL cX9_badAt 22 4 24 := Or.inl ⟨by decide +kernel, rfl⟩
theorem d_X9_badAt_24 : dec 1 cX9_badAt 24 .iaload 25 := ⟨by decide +kernel, rfl⟩
theorem d_X9_badAt_25 : dec 1 cX9_badAt 25 .baload 26 := ⟨by decide +kernel, rfl⟩
theorem d_X9_badAt_26 : decB cX9_badAt 26 (.ifCond .eq 19) (19) 29 45 := ⟨by decide +kernel, rfl, by decide⟩
theorem d_X9_badAt_29 : decIL cX9_badAt 29 3 30 := Or.inr ⟨3, rfl, by decide +kernel, rfl⟩
theorem d_X9_badAt_30 : decIL cX9_badAt 30 2 31 := Or.inr ⟨2, rfl, by decide +kernel, rfl⟩
theorem d_X9_badAt_31 : decB cX9_badAt 31 (.if_icmp .ne 11) (11) 34 42 := ⟨by decide +kernel, rfl, by decide⟩
theorem d_X9_badAt_34 : decAL cX9_badAt 34 0 35 := Or.inr ⟨0, rfl, by decide +kernel, rfl⟩
theorem d_X9_badAt_35 : dec 3 cX9_badAt 35 (.getfield 25) 38 := ⟨by decide +kernel, rfl⟩
theorem d_X9_badAt_38 : decIL cX9_badAt 38 4 40 := Or.inl ⟨by decide +kernel, rfl⟩
theorem d_X9_badAt_40 : dec 1 cX9_badAt 40 .iaload 41 := ⟨by decide +kernel, rfl⟩
theorem d_X9_badAt_41 : dec 1 cX9_badAt 41 .ireturn 42 := ⟨by decide +kernel, rfl⟩
theorem d_X9_badAt_42 : dec 3 cX9_badAt 42 (.iinc 3 1) 45 := ⟨by decide +kernel, rfl⟩
theorem d_X9_badAt_45 : dec 3 cX9_badAt 45 (.iinc 4 1) 48 := ⟨by decide +kernel, rfl⟩
theorem d_X9_badAt_48 : decB cX9_badAt 48 (.goto (-43)) (-43) 51 5 := ⟨by decide +kernel, rfl, by decide⟩
theorem d_X9_badAt_51 : dec 1 cX9_badAt 51 (.iconst (-1)) 52 := ⟨by decide +kernel, rfl⟩
theorem d_X9_badAt_52 : dec 1 cX9_badAt 52 .ireturn 53 := ⟨by decide +kernel, rfl⟩
def k_X9_badAt_34 (F : Nat)   (v0 : Nat) (v4 : Int32)  (G : GH) : Option (Int32) :=
  Option.bind (gR G v0 9 4) (fun (x6 : Nat) =>
  Option.bind (aI G x6 0 v4) (fun (x7 : Int32) =>
  some x7))
def b_X9_badAt_5 (F : Nat)   (v0 : Nat) (v1 : Nat) (v2 : Int32) (G : GH) (rec5 : Int32 → Int32 → Option (Int32)) : Int32 → Int32 → Option (Int32) := fun v3 v4 =>
  Option.bind (gI G v0 9 3) (fun (x1 : Int32) =>
  if x1 ≤ v4 then
  (some (-1 : Int32))
  else (Option.bind (gR G v1 3 5) (fun (x2 : Nat) =>
  Option.bind (gR G v0 9 4) (fun (x3 : Nat) =>
  Option.bind (aI G x3 0 v4) (fun (x4 : Int32) =>
  Option.bind (aI G x2 2 x4) (fun (x5 : Int32) =>
  if x5 = 0 then
  (rec5 v3 (v4 + 1))
  else (if v3 = v2 then
  (k_X9_badAt_34 F   v0 v4 G)
  else (rec5 (v3 + 1) (v4 + 1)))))))))
def f_X9_badAt (F : Nat)  (v0 : Nat) (v1 : Nat) (v2 : Int32) (G : GH) : Option (Int32) :=
  fixN (fun _ _ => none) (b_X9_badAt_5 F   v0 v1 v2 G) F (0 : Int32) (0 : Int32)
set_option maxRecDepth 100000 in
set_option maxHeartbeats 4000000 in
theorem c_X9_badAt_34 {E : GE} {F : Nat}   {v0 : Nat} {v4 : Int32}  {n : Nat} {G : GH} {z : Int32}   (h : k_X9_badAt_34 F   v0 v4  G = some z) : WG E RX9 "badAt" cX9_badAt 5 (some .int) 0 0 0 0 34 [(0, .ref v0), (4, .int v4)] [] n G (g_O E (some (.int z), n, G)) := by
  unfold k_X9_badAt_34 at h
  refine r_aload d_X9_badAt_34 rfl ?_
  refine r_getR h d_X9_badAt_35 pf_X9_25 (fun x6 h => ?_)
  refine r_iload d_X9_badAt_38 rfl ?_
  refine r_iald h d_X9_badAt_40 (fun x7 h => ?_)
  exact r_pret h d_X9_badAt_41
set_option maxRecDepth 100000 in
set_option maxHeartbeats 4000000 in
theorem l_X9_badAt_5 {E : GE} {F : Nat}   {v0 : Nat} {v1 : Nat} {v2 : Int32} {n : Nat} {G : GH}   : ∀ (K : Nat) (v3 : Int32) (v4 : Int32) (z : Int32), fixN ((fun _ _ => none) : Int32 → Int32 → Option (Int32)) (b_X9_badAt_5 F   v0 v1 v2 G) K v3 v4 = some z → WG E RX9 "badAt" cX9_badAt 5 (some .int) 0 0 0 0 5 [(0, .ref v0), (1, .ref v1), (2, .int v2), (3, .int v3), (4, .int v4)] [] n G (g_O E (some (.int z), n, G)) := by
  intro K
  refine fixN_ind (P := fun (r : Int32 → Int32 → Option (Int32)) => ∀ (v3 : Int32) (v4 : Int32) (z : Int32), r v3 v4 = some z → WG E RX9 "badAt" cX9_badAt 5 (some .int) 0 0 0 0 5 [(0, .ref v0), (1, .ref v1), (2, .int v2), (3, .int v3), (4, .int v4)] [] n G (g_O E (some (.int z), n, G))) ?_ ?_ K
  · intro v3 v4 z h
    cases h
  · intro rec5 hrec5 v3 v4 z h
    unfold b_X9_badAt_5 at h
    refine r_iload d_X9_badAt_5 rfl ?_
    refine r_aload d_X9_badAt_7 rfl ?_
    refine r_getI h d_X9_badAt_8 pf_X9_22 (fun x1 h => ?_)
    refine r_icmp_ge h d_X9_badAt_11 (fun h => ?_) (fun h => ?_)
    · refine r_iconst d_X9_badAt_51 ic_m1 ?_
      exact r_pret h d_X9_badAt_52
    · refine r_aload d_X9_badAt_14 rfl ?_
      refine r_getR h d_X9_badAt_15 pf_X9_51 (fun x2 h => ?_)
      refine r_aload d_X9_badAt_18 rfl ?_
      refine r_getR h d_X9_badAt_19 pf_X9_25 (fun x3 h => ?_)
      refine r_iload d_X9_badAt_22 rfl ?_
      refine r_iald h d_X9_badAt_24 (fun x4 h => ?_)
      refine r_zald h d_X9_badAt_25 (fun x5 h => ?_)
      refine r_if_eq h d_X9_badAt_26 (fun h => ?_) (fun h => ?_)
      · refine r_iinc d_X9_badAt_45 rfl (ii_1 _) rfl rfl ?_
        refine r_goto d_X9_badAt_48 ?_
        refine r_lv [(0, .ref v0), (1, .ref v1), (2, .int v2), (3, .int v3), (4, .int (v4 + 1))] (g_allc rfl (g_allc rfl (g_allc rfl (g_allc rfl (g_allc rfl g_alln))))) ?_
        exact hrec5 _ _ _ h
      · refine r_iload d_X9_badAt_29 rfl ?_
        refine r_iload d_X9_badAt_30 rfl ?_
        refine r_icmp_ne h d_X9_badAt_31 (fun h => ?_) (fun h => ?_)
        · refine r_iinc d_X9_badAt_42 rfl (ii_1 _) rfl rfl ?_
          refine r_iinc d_X9_badAt_45 rfl (ii_1 _) rfl rfl ?_
          refine r_goto d_X9_badAt_48 ?_
          refine r_lv [(0, .ref v0), (1, .ref v1), (2, .int v2), (3, .int (v3 + 1)), (4, .int (v4 + 1))] (g_allc rfl (g_allc rfl (g_allc rfl (g_allc rfl (g_allc rfl g_alln))))) ?_
          exact hrec5 _ _ _ h
        · refine r_lv [(0, .ref v0), (4, .int v4)] (g_allc rfl (g_allc rfl g_alln)) ?_
          exact c_X9_badAt_34   h
set_option maxRecDepth 100000 in
set_option maxHeartbeats 4000000 in
theorem s_X9_badAt {E : GE} {F : Nat}  {v0 : Nat} {v1 : Nat} {v2 : Int32} {n : Nat} {G : GH} {z : Int32}  (h : f_X9_badAt F  v0 v1 v2 G = some z) : GM E yX9_badAt cX9_badAt 5 (some .int) 0 0 0 0 [.ref v0, .ref v1, .int v2] n G (some (.int z), n, G) := by
  refine GM.of (by decide) (Nat.le_of_ble_eq_true rfl) ?_
  show WG E RX9 "badAt" cX9_badAt 5 (some .int) 0 0 0 0 0 [(0, .ref v0), (1, .ref v1), (2, .int v2)] [] n G (g_O E (some (.int z), n, G))
  unfold f_X9_badAt at h
  refine r_iconst d_X9_badAt_0 ic_0 ?_
  refine r_istore d_X9_badAt_1 rfl rfl ?_
  refine r_iconst d_X9_badAt_2 ic_0 ?_
  refine r_istore d_X9_badAt_3 rfl rfl ?_
  refine r_lv [(0, .ref v0), (1, .ref v1), (2, .int v2), (3, .int (0 : Int32)), (4, .int (0 : Int32))] (g_allc rfl (g_allc rfl (g_allc rfl (g_allc rfl (g_allc rfl g_alln))))) ?_
  exact l_X9_badAt_5   _ _ _ _ h
/-! X9_countBad -/
theorem d_X9_countBad_0 : dec 1 cX9_countBad 0 (.iconst 0) 1 := ⟨by decide +kernel, rfl⟩
theorem d_X9_countBad_1 : decIS cX9_countBad 1 2 2 := Or.inr ⟨2, rfl, by decide +kernel, rfl⟩
theorem d_X9_countBad_2 : dec 1 cX9_countBad 2 (.iconst 0) 3 := ⟨by decide +kernel, rfl⟩
theorem d_X9_countBad_3 : decIS cX9_countBad 3 3 4 := Or.inr ⟨3, rfl, by decide +kernel, rfl⟩
theorem d_X9_countBad_4 : decIL cX9_countBad 4 3 5 := Or.inr ⟨3, rfl, by decide +kernel, rfl⟩
theorem d_X9_countBad_5 : decAL cX9_countBad 5 0 6 := Or.inr ⟨0, rfl, by decide +kernel, rfl⟩
theorem d_X9_countBad_6 : dec 3 cX9_countBad 6 (.getfield 22) 9 := ⟨by decide +kernel, rfl⟩
theorem d_X9_countBad_9 : decB cX9_countBad 9 (.if_icmp .ge 26) (26) 12 35 := ⟨by decide +kernel, rfl, by decide⟩
theorem d_X9_countBad_12 : decAL cX9_countBad 12 1 13 := Or.inr ⟨1, rfl, by decide +kernel, rfl⟩
theorem d_X9_countBad_13 : dec 3 cX9_countBad 13 (.getfield 51) 16 := ⟨by decide +kernel, rfl⟩
theorem d_X9_countBad_16 : decAL cX9_countBad 16 0 17 := Or.inr ⟨0, rfl, by decide +kernel, rfl⟩
theorem d_X9_countBad_17 : dec 3 cX9_countBad 17 (.getfield 25) 20 := ⟨by decide +kernel, rfl⟩
theorem d_X9_countBad_20 : decIL cX9_countBad 20 3 21 := Or.inr ⟨3, rfl, by decide +kernel, rfl⟩
theorem d_X9_countBad_21 : dec 1 cX9_countBad 21 .iaload 22 := ⟨by decide +kernel, rfl⟩
theorem d_X9_countBad_22 : dec 1 cX9_countBad 22 .baload 23 := ⟨by decide +kernel, rfl⟩
theorem d_X9_countBad_23 : decB cX9_countBad 23 (.ifCond .eq 6) (6) 26 29 := ⟨by decide +kernel, rfl, by decide⟩
theorem d_X9_countBad_26 : dec 3 cX9_countBad 26 (.iinc 2 1) 29 := ⟨by decide +kernel, rfl⟩
theorem d_X9_countBad_29 : dec 3 cX9_countBad 29 (.iinc 3 1) 32 := ⟨by decide +kernel, rfl⟩
theorem d_X9_countBad_32 : decB cX9_countBad 32 (.goto (-28)) (-28) 35 4 := ⟨by decide +kernel, rfl, by decide⟩
theorem d_X9_countBad_35 : decIL cX9_countBad 35 2 36 := Or.inr ⟨2, rfl, by decide +kernel, rfl⟩
theorem d_X9_countBad_36 : dec 1 cX9_countBad 36 .ireturn 37 := ⟨by decide +kernel, rfl⟩
def b_X9_countBad_4 (F : Nat)   (v0 : Nat) (v1 : Nat) (G : GH) (rec4 : Int32 → Int32 → Option (Int32)) : Int32 → Int32 → Option (Int32) := fun v2 v3 =>
  Option.bind (gI G v0 9 3) (fun (x1 : Int32) =>
  if x1 ≤ v3 then
  (some v2)
  else (Option.bind (gR G v1 3 5) (fun (x2 : Nat) =>
  Option.bind (gR G v0 9 4) (fun (x3 : Nat) =>
  Option.bind (aI G x3 0 v3) (fun (x4 : Int32) =>
  Option.bind (aI G x2 2 x4) (fun (x5 : Int32) =>
  if x5 = 0 then
  (rec4 v2 (v3 + 1))
  else (rec4 (v2 + 1) (v3 + 1))))))))
def f_X9_countBad (F : Nat)  (v0 : Nat) (v1 : Nat) (G : GH) : Option (Int32) :=
  fixN (fun _ _ => none) (b_X9_countBad_4 F   v0 v1 G) F (0 : Int32) (0 : Int32)
set_option maxRecDepth 100000 in
set_option maxHeartbeats 4000000 in
theorem l_X9_countBad_4 {E : GE} {F : Nat}   {v0 : Nat} {v1 : Nat} {n : Nat} {G : GH}   : ∀ (K : Nat) (v2 : Int32) (v3 : Int32) (z : Int32), fixN ((fun _ _ => none) : Int32 → Int32 → Option (Int32)) (b_X9_countBad_4 F   v0 v1 G) K v2 v3 = some z → WG E RX9 "countBad" cX9_countBad 4 (some .int) 0 0 0 0 4 [(0, .ref v0), (1, .ref v1), (2, .int v2), (3, .int v3)] [] n G (g_O E (some (.int z), n, G)) := by
  intro K
  refine fixN_ind (P := fun (r : Int32 → Int32 → Option (Int32)) => ∀ (v2 : Int32) (v3 : Int32) (z : Int32), r v2 v3 = some z → WG E RX9 "countBad" cX9_countBad 4 (some .int) 0 0 0 0 4 [(0, .ref v0), (1, .ref v1), (2, .int v2), (3, .int v3)] [] n G (g_O E (some (.int z), n, G))) ?_ ?_ K
  · intro v2 v3 z h
    cases h
  · intro rec4 hrec4 v2 v3 z h
    unfold b_X9_countBad_4 at h
    refine r_iload d_X9_countBad_4 rfl ?_
    refine r_aload d_X9_countBad_5 rfl ?_
    refine r_getI h d_X9_countBad_6 pf_X9_22 (fun x1 h => ?_)
    refine r_icmp_ge h d_X9_countBad_9 (fun h => ?_) (fun h => ?_)
    · refine r_iload d_X9_countBad_35 rfl ?_
      exact r_pret h d_X9_countBad_36
    · refine r_aload d_X9_countBad_12 rfl ?_
      refine r_getR h d_X9_countBad_13 pf_X9_51 (fun x2 h => ?_)
      refine r_aload d_X9_countBad_16 rfl ?_
      refine r_getR h d_X9_countBad_17 pf_X9_25 (fun x3 h => ?_)
      refine r_iload d_X9_countBad_20 rfl ?_
      refine r_iald h d_X9_countBad_21 (fun x4 h => ?_)
      refine r_zald h d_X9_countBad_22 (fun x5 h => ?_)
      refine r_if_eq h d_X9_countBad_23 (fun h => ?_) (fun h => ?_)
      · refine r_iinc d_X9_countBad_29 rfl (ii_1 _) rfl rfl ?_
        refine r_goto d_X9_countBad_32 ?_
        refine r_lv [(0, .ref v0), (1, .ref v1), (2, .int v2), (3, .int (v3 + 1))] (g_allc rfl (g_allc rfl (g_allc rfl (g_allc rfl g_alln)))) ?_
        exact hrec4 _ _ _ h
      · refine r_iinc d_X9_countBad_26 rfl (ii_1 _) rfl rfl ?_
        refine r_iinc d_X9_countBad_29 rfl (ii_1 _) rfl rfl ?_
        refine r_goto d_X9_countBad_32 ?_
        refine r_lv [(0, .ref v0), (1, .ref v1), (2, .int (v2 + 1)), (3, .int (v3 + 1))] (g_allc rfl (g_allc rfl (g_allc rfl (g_allc rfl g_alln)))) ?_
        exact hrec4 _ _ _ h
set_option maxRecDepth 100000 in
set_option maxHeartbeats 4000000 in
theorem s_X9_countBad {E : GE} {F : Nat}  {v0 : Nat} {v1 : Nat} {n : Nat} {G : GH} {z : Int32}  (h : f_X9_countBad F  v0 v1 G = some z) : GM E yX9_countBad cX9_countBad 4 (some .int) 0 0 0 0 [.ref v0, .ref v1] n G (some (.int z), n, G) := by
  refine GM.of (by decide) (Nat.le_of_ble_eq_true rfl) ?_
  show WG E RX9 "countBad" cX9_countBad 4 (some .int) 0 0 0 0 0 [(0, .ref v0), (1, .ref v1)] [] n G (g_O E (some (.int z), n, G))
  unfold f_X9_countBad at h
  refine r_iconst d_X9_countBad_0 ic_0 ?_
  refine r_istore d_X9_countBad_1 rfl rfl ?_
  refine r_iconst d_X9_countBad_2 ic_0 ?_
  refine r_istore d_X9_countBad_3 rfl rfl ?_
  refine r_lv [(0, .ref v0), (1, .ref v1), (2, .int (0 : Int32)), (3, .int (0 : Int32))] (g_allc rfl (g_allc rfl (g_allc rfl (g_allc rfl g_alln)))) ?_
  exact l_X9_countBad_4   _ _ _ _ h
/-! X9_copyFrom -/
theorem pf_X9_9 : pF RX9 9 9 0 := ⟨RX9, TX9, 5, rfl, by decide, rfl, Or.inl (g_in 283 (by decide +kernel) rfl)⟩
theorem d_X9_copyFrom_0 : decAL cX9_copyFrom 0 0 1 := Or.inr ⟨0, rfl, by decide +kernel, rfl⟩
theorem d_X9_copyFrom_1 : decAL cX9_copyFrom 1 1 2 := Or.inr ⟨1, rfl, by decide +kernel, rfl⟩
theorem d_X9_copyFrom_2 : dec 3 cX9_copyFrom 2 (.getfield 9) 5 := ⟨by decide +kernel, rfl⟩
theorem d_X9_copyFrom_5 : dec 3 cX9_copyFrom 5 (.putfield 9) 8 := ⟨by decide +kernel, rfl⟩
theorem d_X9_copyFrom_8 : decAL cX9_copyFrom 8 0 9 := Or.inr ⟨0, rfl, by decide +kernel, rfl⟩
theorem d_X9_copyFrom_9 : decAL cX9_copyFrom 9 1 10 := Or.inr ⟨1, rfl, by decide +kernel, rfl⟩
theorem d_X9_copyFrom_10 : dec 3 cX9_copyFrom 10 (.getfield 15) 13 := ⟨by decide +kernel, rfl⟩
theorem d_X9_copyFrom_13 : dec 3 cX9_copyFrom 13 (.putfield 15) 16 := ⟨by decide +kernel, rfl⟩
theorem d_X9_copyFrom_16 : decAL cX9_copyFrom 16 1 17 := Or.inr ⟨1, rfl, by decide +kernel, rfl⟩
theorem d_X9_copyFrom_17 : dec 3 cX9_copyFrom 17 (.getfield 18) 20 := ⟨by decide +kernel, rfl⟩
theorem d_X9_copyFrom_20 : dec 1 cX9_copyFrom 20 (.iconst 0) 21 := ⟨by decide +kernel, rfl⟩
theorem d_X9_copyFrom_21 : decAL cX9_copyFrom 21 0 22 := Or.inr ⟨0, rfl, by decide +kernel, rfl⟩
theorem d_X9_copyFrom_22 : dec 3 cX9_copyFrom 22 (.getfield 18) 25 := ⟨by decide +kernel, rfl⟩
theorem d_X9_copyFrom_25 : dec 1 cX9_copyFrom 25 (.iconst 0) 26 := ⟨by decide +kernel, rfl⟩
theorem d_X9_copyFrom_26 : decAL cX9_copyFrom 26 0 27 := Or.inr ⟨0, rfl, by decide +kernel, rfl⟩
theorem d_X9_copyFrom_27 : dec 3 cX9_copyFrom 27 (.getfield 15) 30 := ⟨by decide +kernel, rfl⟩
theorem d_X9_copyFrom_30 : dec 3 cX9_copyFrom 30 (.invokestatic 34) 33 := ⟨by decide +kernel, rfl⟩
theorem d_X9_copyFrom_33 : decAL cX9_copyFrom 33 0 34 := Or.inr ⟨0, rfl, by decide +kernel, rfl⟩
theorem d_X9_copyFrom_34 : decAL cX9_copyFrom 34 1 35 := Or.inr ⟨1, rfl, by decide +kernel, rfl⟩
theorem d_X9_copyFrom_35 : dec 3 cX9_copyFrom 35 (.getfield 22) 38 := ⟨by decide +kernel, rfl⟩
theorem d_X9_copyFrom_38 : dec 3 cX9_copyFrom 38 (.putfield 22) 41 := ⟨by decide +kernel, rfl⟩
theorem d_X9_copyFrom_41 : decAL cX9_copyFrom 41 1 42 := Or.inr ⟨1, rfl, by decide +kernel, rfl⟩
theorem d_X9_copyFrom_42 : dec 3 cX9_copyFrom 42 (.getfield 25) 45 := ⟨by decide +kernel, rfl⟩
theorem d_X9_copyFrom_45 : dec 1 cX9_copyFrom 45 (.iconst 0) 46 := ⟨by decide +kernel, rfl⟩
theorem d_X9_copyFrom_46 : decAL cX9_copyFrom 46 0 47 := Or.inr ⟨0, rfl, by decide +kernel, rfl⟩
theorem d_X9_copyFrom_47 : dec 3 cX9_copyFrom 47 (.getfield 25) 50 := ⟨by decide +kernel, rfl⟩
theorem d_X9_copyFrom_50 : dec 1 cX9_copyFrom 50 (.iconst 0) 51 := ⟨by decide +kernel, rfl⟩
theorem d_X9_copyFrom_51 : decAL cX9_copyFrom 51 0 52 := Or.inr ⟨0, rfl, by decide +kernel, rfl⟩
theorem d_X9_copyFrom_52 : dec 3 cX9_copyFrom 52 (.getfield 22) 55 := ⟨by decide +kernel, rfl⟩
theorem d_X9_copyFrom_55 : dec 3 cX9_copyFrom 55 (.invokestatic 34) 58 := ⟨by decide +kernel, rfl⟩
theorem d_X9_copyFrom_58 : dec 1 cX9_copyFrom 58 .return_ 59 := ⟨by decide +kernel, rfl⟩
def f_X9_copyFrom (F : Nat)  (v0 : Nat) (v1 : Nat) (n : Nat) (G : GH) : Option (Nat × GH) :=
  Option.bind (gI G v1 9 0) (fun (x1 : Int32) =>
  Option.bind (pV G v0 9 0 (.int x1)) (fun (G2 : GH) =>
  Option.bind (gI G2 v1 9 1) (fun (x3 : Int32) =>
  Option.bind (pV G2 v0 9 1 (.int x3)) (fun (G4 : GH) =>
  Option.bind (gR G4 v1 9 2) (fun (x5 : Nat) =>
  Option.bind (gR G4 v0 9 2) (fun (x6 : Nat) =>
  Option.bind (gI G4 v0 9 1) (fun (x7 : Int32) =>
  Option.bind (aC G4 0 x5 (0 : Int32) x6 (0 : Int32) x7) (fun (G8 : GH) =>
  Option.bind (gI G8 v1 9 3) (fun (x9 : Int32) =>
  Option.bind (pV G8 v0 9 3 (.int x9)) (fun (G10 : GH) =>
  Option.bind (gR G10 v1 9 4) (fun (x11 : Nat) =>
  Option.bind (gR G10 v0 9 4) (fun (x12 : Nat) =>
  Option.bind (gI G10 v0 9 3) (fun (x13 : Int32) =>
  Option.bind (aC G10 0 x11 (0 : Int32) x12 (0 : Int32) x13) (fun (G14 : GH) =>
  some (n, G14)))))))))))))))
set_option maxRecDepth 100000 in
set_option maxHeartbeats 4000000 in
theorem s_X9_copyFrom {E : GE} {F : Nat}  {v0 : Nat} {v1 : Nat} {n : Nat} {G : GH} {z : Nat × GH}  (h : f_X9_copyFrom F  v0 v1 n G = some z) : GM E yX9_copyFrom cX9_copyFrom 2 none 1 40 0 0 [.ref v0, .ref v1] n G (none, z.1, z.2) := by
  refine GM.of (by decide) (Nat.le_of_ble_eq_true rfl) ?_
  show WG E RX9 "copyFrom" cX9_copyFrom 2 none 1 40 0 0 0 [(0, .ref v0), (1, .ref v1)] [] n G (g_O E (none, z.1, z.2))
  unfold f_X9_copyFrom at h
  refine r_aload d_X9_copyFrom_0 rfl ?_
  refine r_aload d_X9_copyFrom_1 rfl ?_
  refine r_getI h d_X9_copyFrom_2 pf_X9_9 (fun x1 h => ?_)
  refine r_put h d_X9_copyFrom_5 pw_X9_9 rfl rfl (fun G2 h => ?_)
  refine r_aload d_X9_copyFrom_8 rfl ?_
  refine r_aload d_X9_copyFrom_9 rfl ?_
  refine r_getI h d_X9_copyFrom_10 pf_X9_15 (fun x3 h => ?_)
  refine r_put h d_X9_copyFrom_13 pw_X9_15 rfl rfl (fun G4 h => ?_)
  refine r_aload d_X9_copyFrom_16 rfl ?_
  refine r_getR h d_X9_copyFrom_17 pf_X9_18 (fun x5 h => ?_)
  refine r_iconst d_X9_copyFrom_20 ic_0 ?_
  refine r_aload d_X9_copyFrom_21 rfl ?_
  refine r_getR h d_X9_copyFrom_22 pf_X9_18 (fun x6 h => ?_)
  refine r_iconst d_X9_copyFrom_25 ic_0 ?_
  refine r_aload d_X9_copyFrom_26 rfl ?_
  refine r_getI h d_X9_copyFrom_27 pf_X9_15 (fun x7 h => ?_)
  refine r_acopy h d_X9_copyFrom_30 qy_l_X9_34 qy_n qy_s qy_i rfl rfl (fun G8 h => ?_)
  refine r_aload d_X9_copyFrom_33 rfl ?_
  refine r_aload d_X9_copyFrom_34 rfl ?_
  refine r_getI h d_X9_copyFrom_35 pf_X9_22 (fun x9 h => ?_)
  refine r_put h d_X9_copyFrom_38 pw_X9_22 rfl rfl (fun G10 h => ?_)
  refine r_aload d_X9_copyFrom_41 rfl ?_
  refine r_getR h d_X9_copyFrom_42 pf_X9_25 (fun x11 h => ?_)
  refine r_iconst d_X9_copyFrom_45 ic_0 ?_
  refine r_aload d_X9_copyFrom_46 rfl ?_
  refine r_getR h d_X9_copyFrom_47 pf_X9_25 (fun x12 h => ?_)
  refine r_iconst d_X9_copyFrom_50 ic_0 ?_
  refine r_aload d_X9_copyFrom_51 rfl ?_
  refine r_getI h d_X9_copyFrom_52 pf_X9_22 (fun x13 h => ?_)
  refine r_acopy h d_X9_copyFrom_55 qy_l_X9_34 qy_n qy_s qy_i rfl rfl (fun G14 h => ?_)
  exact r_vret h d_X9_copyFrom_58
