/-! X7_init -/
theorem qoi : Cond.instanceMethod objectInit ∈ g_tbl := g_in 123 (by decide +kernel) rfl
theorem qoc : Cond.code objectInit ⟨#[0xb1]⟩ 1 none ∈ g_tbl := g_in 124 (by decide +kernel) rfl
theorem qol_X7_3 : Cond.methodLink RX7 3 objectInit ∈ g_tbl := g_in 241 (by decide +kernel) rfl
theorem pw_X7_9 {nm : String} : pW RX7 nm 9 7 0 .int := ⟨RX7, TX7, 7, rfl, by decide, rfl, Or.inl ⟨g_in 242 (by decide +kernel) rfl, Or.inl rfl⟩, by decide +kernel⟩
theorem qa_int : Cond.arrayClass .int ∈ g_tbl := g_in 229 (by decide +kernel) rfl
theorem pw_X7_15 : pW RX7 "<init>" 15 7 1 (.array .int) := ⟨RX7, TX7, 7, rfl, by decide, rfl, Or.inl ⟨g_in 246 (by decide +kernel) rfl, Or.inr ⟨rfl, rfl, rfl⟩⟩, by decide +kernel⟩
theorem pw_X7_19 : pW RX7 "<init>" 19 7 2 (.array .int) := ⟨RX7, TX7, 7, rfl, by decide, rfl, Or.inl ⟨g_in 250 (by decide +kernel) rfl, Or.inr ⟨rfl, rfl, rfl⟩⟩, by decide +kernel⟩
theorem qa_boolean : Cond.arrayClass .boolean ∈ g_tbl := g_in 230 (by decide +kernel) rfl
theorem pw_X7_22 : pW RX7 "<init>" 22 7 3 (.array .boolean) := ⟨RX7, TX7, 7, rfl, by decide, rfl, Or.inl ⟨g_in 254 (by decide +kernel) rfl, Or.inr ⟨rfl, rfl, rfl⟩⟩, by decide +kernel⟩
theorem pw_X7_26 : pW RX7 "<init>" 26 7 4 (.array .int) := ⟨RX7, TX7, 7, rfl, by decide, rfl, Or.inl ⟨g_in 257 (by decide +kernel) rfl, Or.inr ⟨rfl, rfl, rfl⟩⟩, by decide +kernel⟩
theorem pw_X7_29 : pW RX7 "<init>" 29 7 5 (.array .int) := ⟨RX7, TX7, 7, rfl, by decide, rfl, Or.inl ⟨g_in 260 (by decide +kernel) rfl, Or.inr ⟨rfl, rfl, rfl⟩⟩, by decide +kernel⟩
theorem pw_X7_32 : pW RX7 "<init>" 32 7 6 (.array .int) := ⟨RX7, TX7, 7, rfl, by decide, rfl, Or.inl ⟨g_in 261 (by decide +kernel) rfl, Or.inr ⟨rfl, rfl, rfl⟩⟩, by decide +kernel⟩
theorem d_X7_init_0 : decAL cX7_init 0 0 1 := Or.inr ⟨0, rfl, by decide +kernel, rfl⟩
theorem d_X7_init_1 : dec 3 cX7_init 1 (.invokespecial 3) 4 := ⟨by decide +kernel, rfl⟩
theorem d_X7_init_4 : decAL cX7_init 4 0 5 := Or.inr ⟨0, rfl, by decide +kernel, rfl⟩
theorem d_X7_init_5 : dec 1 cX7_init 5 (.iconst 0) 6 := ⟨by decide +kernel, rfl⟩
theorem d_X7_init_6 : dec 3 cX7_init 6 (.putfield 9) 9 := ⟨by decide +kernel, rfl⟩
theorem d_X7_init_9 : decAL cX7_init 9 0 10 := Or.inr ⟨0, rfl, by decide +kernel, rfl⟩
theorem d_X7_init_10 : dec 2 cX7_init 10 (.bipush 60) 12 := ⟨by decide +kernel, rfl⟩
theorem d_X7_init_12 : dec 2 cX7_init 12 (.newarray .int) 14 := ⟨by decide +kernel, rfl⟩
theorem d_X7_init_14 : dec 3 cX7_init 14 (.putfield 15) 17 := ⟨by decide +kernel, rfl⟩
theorem d_X7_init_17 : decAL cX7_init 17 0 18 := Or.inr ⟨0, rfl, by decide +kernel, rfl⟩
theorem d_X7_init_18 : dec 2 cX7_init 18 (.bipush 60) 20 := ⟨by decide +kernel, rfl⟩
theorem d_X7_init_20 : dec 2 cX7_init 20 (.newarray .int) 22 := ⟨by decide +kernel, rfl⟩
theorem d_X7_init_22 : dec 3 cX7_init 22 (.putfield 19) 25 := ⟨by decide +kernel, rfl⟩
theorem d_X7_init_25 : decAL cX7_init 25 0 26 := Or.inr ⟨0, rfl, by decide +kernel, rfl⟩
theorem d_X7_init_26 : dec 2 cX7_init 26 (.bipush 60) 28 := ⟨by decide +kernel, rfl⟩
theorem d_X7_init_28 : dec 2 cX7_init 28 (.newarray .boolean) 30 := ⟨by decide +kernel, rfl⟩
theorem d_X7_init_30 : dec 3 cX7_init 30 (.putfield 22) 33 := ⟨by decide +kernel, rfl⟩
theorem d_X7_init_33 : decAL cX7_init 33 0 34 := Or.inr ⟨0, rfl, by decide +kernel, rfl⟩
theorem d_X7_init_34 : dec 2 cX7_init 34 (.bipush 60) 36 := ⟨by decide +kernel, rfl⟩
theorem d_X7_init_36 : dec 2 cX7_init 36 (.newarray .int) 38 := ⟨by decide +kernel, rfl⟩
theorem d_X7_init_38 : dec 3 cX7_init 38 (.putfield 26) 41 := ⟨by decide +kernel, rfl⟩
theorem d_X7_init_41 : decAL cX7_init 41 0 42 := Or.inr ⟨0, rfl, by decide +kernel, rfl⟩
theorem d_X7_init_42 : dec 3 cX7_init 42 (.sipush 240) 45 := ⟨by decide +kernel, rfl⟩
theorem d_X7_init_45 : dec 2 cX7_init 45 (.newarray .int) 47 := ⟨by decide +kernel, rfl⟩
theorem d_X7_init_47 : dec 3 cX7_init 47 (.putfield 29) 50 := ⟨by decide +kernel, rfl⟩
theorem d_X7_init_50 : decAL cX7_init 50 0 51 := Or.inr ⟨0, rfl, by decide +kernel, rfl⟩
theorem d_X7_init_51 : dec 2 cX7_init 51 (.bipush 60) 53 := ⟨by decide +kernel, rfl⟩
theorem d_X7_init_53 : dec 2 cX7_init 53 (.newarray .int) 55 := ⟨by decide +kernel, rfl⟩
theorem d_X7_init_55 : dec 3 cX7_init 55 (.putfield 32) 58 := ⟨by decide +kernel, rfl⟩
theorem d_X7_init_58 : dec 1 cX7_init 58 .return_ 59 := ⟨by decide +kernel, rfl⟩
def f_X7_init (F : Nat)  (v0 : Nat) (n : Nat) (G : GH) : Option (Nat × GH) :=
  Option.bind (pV G v0 7 0 (.int (0 : Int32))) (fun (G1 : GH) =>
  Option.bind (pV (gset G1 n (.inl (0, 60, .inl (fun _ => 0)))) v0 7 1 (.ref n)) (fun (G2 : GH) =>
  Option.bind (pV (gset G2 (n + 1) (.inl (0, 60, .inl (fun _ => 0)))) v0 7 2 (.ref (n + 1))) (fun (G3 : GH) =>
  Option.bind (pV (gset G3 ((n + 1) + 1) (.inl (2, 60, .inl (fun _ => 0)))) v0 7 3 (.ref ((n + 1) + 1))) (fun (G4 : GH) =>
  Option.bind (pV (gset G4 (((n + 1) + 1) + 1) (.inl (0, 60, .inl (fun _ => 0)))) v0 7 4 (.ref (((n + 1) + 1) + 1))) (fun (G5 : GH) =>
  Option.bind (pV (gset G5 ((((n + 1) + 1) + 1) + 1) (.inl (0, 240, .inl (fun _ => 0)))) v0 7 5 (.ref ((((n + 1) + 1) + 1) + 1))) (fun (G6 : GH) =>
  Option.bind (pV (gset G6 (((((n + 1) + 1) + 1) + 1) + 1) (.inl (0, 60, .inl (fun _ => 0)))) v0 7 6 (.ref (((((n + 1) + 1) + 1) + 1) + 1))) (fun (G7 : GH) =>
  some ((((((n + 1) + 1) + 1) + 1) + 1) + 1, G7))))))))
set_option maxRecDepth 100000 in
set_option maxHeartbeats 4000000 in
theorem s_X7_init {E : GE} {F : Nat}  {v0 : Nat} {n : Nat} {G : GH} {z : Nat × GH}  (h : f_X7_init F  v0 n G = some z) : GM E yX7_init cX7_init 1 none 1 40 6 540 [.ref v0] n G (none, z.1, z.2) := by
  refine GM.of (by decide) (Nat.le_of_ble_eq_true rfl) ?_
  show WG E RX7 "<init>" cX7_init 1 none 1 40 6 540 0 [(0, .ref v0)] [] n G (g_O E (none, z.1, z.2))
  unfold f_X7_init at h
  refine r_aload d_X7_init_0 rfl ?_
  refine r_obj d_X7_init_1 qol_X7_3 qoi qoc rfl rfl ?_
  refine r_aload d_X7_init_4 rfl ?_
  refine r_iconst d_X7_init_5 ic_0 ?_
  refine r_put h d_X7_init_6 pw_X7_9 rfl rfl (fun G1 h => ?_)
  refine r_aload d_X7_init_9 rfl ?_
  refine r_bipush d_X7_init_10 bp_60 ?_
  refine r_newaI (N := 60) d_X7_init_12 qa_int (by decide) (by decide) rfl rfl rfl ?_
  refine r_put h d_X7_init_14 pw_X7_15 rfl rfl (fun G2 h => ?_)
  refine r_aload d_X7_init_17 rfl ?_
  refine r_bipush d_X7_init_18 bp_60 ?_
  refine r_newaI (N := 60) d_X7_init_20 qa_int (by decide) (by decide) rfl rfl rfl ?_
  refine r_put h d_X7_init_22 pw_X7_19 rfl rfl (fun G3 h => ?_)
  refine r_aload d_X7_init_25 rfl ?_
  refine r_bipush d_X7_init_26 bp_60 ?_
  refine r_newaZ (N := 60) d_X7_init_28 qa_boolean (by decide) (by decide) rfl rfl rfl ?_
  refine r_put h d_X7_init_30 pw_X7_22 rfl rfl (fun G4 h => ?_)
  refine r_aload d_X7_init_33 rfl ?_
  refine r_bipush d_X7_init_34 bp_60 ?_
  refine r_newaI (N := 60) d_X7_init_36 qa_int (by decide) (by decide) rfl rfl rfl ?_
  refine r_put h d_X7_init_38 pw_X7_26 rfl rfl (fun G5 h => ?_)
  refine r_aload d_X7_init_41 rfl ?_
  refine r_sipush d_X7_init_42 sp_240 ?_
  refine r_newaI (N := 240) d_X7_init_45 qa_int (by decide) (by decide) rfl rfl rfl ?_
  refine r_put h d_X7_init_47 pw_X7_29 rfl rfl (fun G6 h => ?_)
  refine r_aload d_X7_init_50 rfl ?_
  refine r_bipush d_X7_init_51 bp_60 ?_
  refine r_newaI (N := 60) d_X7_init_53 qa_int (by decide) (by decide) rfl rfl rfl ?_
  refine r_put h d_X7_init_55 pw_X7_32 rfl rfl (fun G7 h => ?_)
  exact r_vret h d_X7_init_58
/-! X7_holds -/
theorem pf_X7_9 : pF RX7 9 7 0 := ⟨RX7, TX7, 7, rfl, by decide, rfl, Or.inl (g_in 242 (by decide +kernel) rfl)⟩
theorem d_X7_holds_0 : decIL cX7_holds 0 1 1 := Or.inr ⟨1, rfl, by decide +kernel, rfl⟩
theorem d_X7_holds_1 : decB cX7_holds 1 (.ifCond .lt 15) (15) 4 16 := ⟨by decide +kernel, rfl, by decide⟩
theorem d_X7_holds_4 : decIL cX7_holds 4 1 5 := Or.inr ⟨1, rfl, by decide +kernel, rfl⟩
theorem d_X7_holds_5 : decAL cX7_holds 5 0 6 := Or.inr ⟨0, rfl, by decide +kernel, rfl⟩
theorem d_X7_holds_6 : dec 3 cX7_holds 6 (.getfield 9) 9 := ⟨by decide +kernel, rfl⟩
theorem d_X7_holds_9 : decB cX7_holds 9 (.if_icmp .ge 7) (7) 12 16 := ⟨by decide +kernel, rfl, by decide⟩
theorem d_X7_holds_12 : dec 1 cX7_holds 12 (.iconst 1) 13 := ⟨by decide +kernel, rfl⟩
theorem d_X7_holds_13 : decB cX7_holds 13 (.goto 4) (4) 16 17 := ⟨by decide +kernel, rfl, by decide⟩
theorem d_X7_holds_16 : dec 1 cX7_holds 16 (.iconst 0) 17 := ⟨by decide +kernel, rfl⟩
theorem d_X7_holds_17 : dec 1 cX7_holds 17 .ireturn 18 := ⟨by decide +kernel, rfl⟩
def f_X7_holds (F : Nat)  (v0 : Nat) (v1 : Int32) (G : GH) : Option (Int32) :=
  if v1 < 0 then
  (rP .boolean (0 : Int32))
  else (Option.bind (gI G v0 7 0) (fun (x1 : Int32) =>
  if x1 ≤ v1 then
  (rP .boolean (0 : Int32))
  else (rP .boolean (1 : Int32))))
set_option maxRecDepth 100000 in
set_option maxHeartbeats 4000000 in
theorem s_X7_holds {E : GE} {F : Nat}  {v0 : Nat} {v1 : Int32} {n : Nat} {G : GH} {z : Int32}  (h : f_X7_holds F  v0 v1 G = some z) : GM E yX7_holds cX7_holds 2 (some .boolean) 0 0 0 0 [.ref v0, .int v1] n G (some (.int z), n, G) := by
  refine GM.of (by decide) (Nat.le_of_ble_eq_true rfl) ?_
  show WG E RX7 "holds" cX7_holds 2 (some .boolean) 0 0 0 0 0 [(0, .ref v0), (1, .int v1)] [] n G (g_O E (some (.int z), n, G))
  unfold f_X7_holds at h
  refine r_iload d_X7_holds_0 rfl ?_
  refine r_if_lt h d_X7_holds_1 (fun h => ?_) (fun h => ?_)
  · refine r_iconst d_X7_holds_16 ic_0 ?_
    exact r_pzret h d_X7_holds_17
  · refine r_iload d_X7_holds_4 rfl ?_
    refine r_aload d_X7_holds_5 rfl ?_
    refine r_getI h d_X7_holds_6 pf_X7_9 (fun x1 h => ?_)
    refine r_icmp_ge h d_X7_holds_9 (fun h => ?_) (fun h => ?_)
    · refine r_iconst d_X7_holds_16 ic_0 ?_
      exact r_pzret h d_X7_holds_17
    · refine r_iconst d_X7_holds_12 ic_1 ?_
      refine r_goto d_X7_holds_13 ?_
      exact r_pzret h d_X7_holds_17
/-! X7_isFull -/
theorem d_X7_isFull_0 : decAL cX7_isFull 0 0 1 := Or.inr ⟨0, rfl, by decide +kernel, rfl⟩
theorem d_X7_isFull_1 : dec 3 cX7_isFull 1 (.getfield 9) 4 := ⟨by decide +kernel, rfl⟩
theorem d_X7_isFull_4 : dec 2 cX7_isFull 4 (.bipush 60) 6 := ⟨by decide +kernel, rfl⟩
theorem d_X7_isFull_6 : decB cX7_isFull 6 (.if_icmp .lt 7) (7) 9 13 := ⟨by decide +kernel, rfl, by decide⟩
theorem d_X7_isFull_9 : dec 1 cX7_isFull 9 (.iconst 1) 10 := ⟨by decide +kernel, rfl⟩
theorem d_X7_isFull_10 : decB cX7_isFull 10 (.goto 4) (4) 13 14 := ⟨by decide +kernel, rfl, by decide⟩
theorem d_X7_isFull_13 : dec 1 cX7_isFull 13 (.iconst 0) 14 := ⟨by decide +kernel, rfl⟩
theorem d_X7_isFull_14 : dec 1 cX7_isFull 14 .ireturn 15 := ⟨by decide +kernel, rfl⟩
def f_X7_isFull (F : Nat)  (v0 : Nat) (G : GH) : Option (Int32) :=
  Option.bind (gI G v0 7 0) (fun (x1 : Int32) =>
  if x1 < (60 : Int32) then
  (rP .boolean (0 : Int32))
  else (rP .boolean (1 : Int32)))
set_option maxRecDepth 100000 in
set_option maxHeartbeats 4000000 in
theorem s_X7_isFull {E : GE} {F : Nat}  {v0 : Nat} {n : Nat} {G : GH} {z : Int32}  (h : f_X7_isFull F  v0 G = some z) : GM E yX7_isFull cX7_isFull 1 (some .boolean) 0 0 0 0 [.ref v0] n G (some (.int z), n, G) := by
  refine GM.of (by decide) (Nat.le_of_ble_eq_true rfl) ?_
  show WG E RX7 "isFull" cX7_isFull 1 (some .boolean) 0 0 0 0 0 [(0, .ref v0)] [] n G (g_O E (some (.int z), n, G))
  unfold f_X7_isFull at h
  refine r_aload d_X7_isFull_0 rfl ?_
  refine r_getI h d_X7_isFull_1 pf_X7_9 (fun x1 h => ?_)
  refine r_bipush d_X7_isFull_4 bp_60 ?_
  refine r_icmp_lt h d_X7_isFull_6 (fun h => ?_) (fun h => ?_)
  · refine r_iconst d_X7_isFull_13 ic_0 ?_
    exact r_pzret h d_X7_isFull_14
  · refine r_iconst d_X7_isFull_9 ic_1 ?_
    refine r_goto d_X7_isFull_10 ?_
    exact r_pzret h d_X7_isFull_14
/-! X7_find -/
theorem pf_X7_15 : pF RX7 15 7 1 := ⟨RX7, TX7, 7, rfl, by decide, rfl, Or.inl (g_in 246 (by decide +kernel) rfl)⟩
theorem pf_X7_19 : pF RX7 19 7 2 := ⟨RX7, TX7, 7, rfl, by decide, rfl, Or.inl (g_in 250 (by decide +kernel) rfl)⟩
theorem d_X7_find_0 : dec 1 cX7_find 0 (.iconst 0) 1 := ⟨by decide +kernel, rfl⟩
theorem d_X7_find_1 : decIS cX7_find 1 3 2 := Or.inr ⟨3, rfl, by decide +kernel, rfl⟩
theorem d_X7_find_2 : decIL cX7_find 2 3 3 := Or.inr ⟨3, rfl, by decide +kernel, rfl⟩
theorem d_X7_find_3 : decAL cX7_find 3 0 4 := Or.inr ⟨0, rfl, by decide +kernel, rfl⟩
theorem d_X7_find_4 : dec 3 cX7_find 4 (.getfield 9) 7 := ⟨by decide +kernel, rfl⟩
theorem d_X7_find_7 : decB cX7_find 7 (.if_icmp .ge 31) (31) 10 38 := ⟨by decide +kernel, rfl, by decide⟩
theorem d_X7_find_10 : decAL cX7_find 10 0 11 := Or.inr ⟨0, rfl, by decide +kernel, rfl⟩
theorem d_X7_find_11 : dec 3 cX7_find 11 (.getfield 15) 14 := ⟨by decide +kernel, rfl⟩
theorem d_X7_find_14 : decIL cX7_find 14 3 15 := Or.inr ⟨3, rfl, by decide +kernel, rfl⟩
theorem d_X7_find_15 : dec 1 cX7_find 15 .iaload 16 := ⟨by decide +kernel, rfl⟩
theorem d_X7_find_16 : decIL cX7_find 16 1 17 := Or.inr ⟨1, rfl, by decide +kernel, rfl⟩
theorem d_X7_find_17 : decB cX7_find 17 (.if_icmp .ne 15) (15) 20 32 := ⟨by decide +kernel, rfl, by decide⟩
theorem d_X7_find_20 : decAL cX7_find 20 0 21 := Or.inr ⟨0, rfl, by decide +kernel, rfl⟩
theorem d_X7_find_21 : dec 3 cX7_find 21 (.getfield 19) 24 := ⟨by decide +kernel, rfl⟩
theorem d_X7_find_24 : decIL cX7_find 24 3 25 := Or.inr ⟨3, rfl, by decide +kernel, rfl⟩
theorem d_X7_find_25 : dec 1 cX7_find 25 .iaload 26 := ⟨by decide +kernel, rfl⟩
theorem d_X7_find_26 : decIL cX7_find 26 2 27 := Or.inr ⟨2, rfl, by decide +kernel, rfl⟩
theorem d_X7_find_27 : decB cX7_find 27 (.if_icmp .ne 5) (5) 30 32 := ⟨by decide +kernel, rfl, by decide⟩
theorem d_X7_find_30 : decIL cX7_find 30 3 31 := Or.inr ⟨3, rfl, by decide +kernel, rfl⟩
theorem d_X7_find_31 : dec 1 cX7_find 31 .ireturn 32 := ⟨by decide +kernel, rfl⟩
theorem d_X7_find_32 : dec 3 cX7_find 32 (.iinc 3 1) 35 := ⟨by decide +kernel, rfl⟩
theorem d_X7_find_35 : decB cX7_find 35 (.goto (-33)) (-33) 38 2 := ⟨by decide +kernel, rfl, by decide⟩
theorem d_X7_find_38 : dec 1 cX7_find 38 (.iconst (-1)) 39 := ⟨by decide +kernel, rfl⟩
theorem d_X7_find_39 : dec 1 cX7_find 39 .ireturn 40 := ⟨by decide +kernel, rfl⟩
def b_X7_find_2 (F : Nat)   (v0 : Nat) (v1 : Int32) (v2 : Int32) (G : GH) (rec2 : Int32 → Option (Int32)) : Int32 → Option (Int32) := fun v3 =>
  Option.bind (gI G v0 7 0) (fun (x1 : Int32) =>
  if x1 ≤ v3 then
  (some (-1 : Int32))
  else (Option.bind (gR G v0 7 1) (fun (x2 : Nat) =>
  Option.bind (aI G x2 0 v3) (fun (x3 : Int32) =>
  if x3 = v1 then
  (Option.bind (gR G v0 7 2) (fun (x4 : Nat) =>
  Option.bind (aI G x4 0 v3) (fun (x5 : Int32) =>
  if x5 = v2 then
  (some v3)
  else (rec2 (v3 + 1)))))
  else (rec2 (v3 + 1))))))
def f_X7_find (F : Nat)  (v0 : Nat) (v1 : Int32) (v2 : Int32) (G : GH) : Option (Int32) :=
  fixN (fun _ => none) (b_X7_find_2 F   v0 v1 v2 G) F (0 : Int32)
set_option maxRecDepth 100000 in
set_option maxHeartbeats 4000000 in
theorem l_X7_find_2 {E : GE} {F : Nat}   {v0 : Nat} {v1 : Int32} {v2 : Int32} {n : Nat} {G : GH}   : ∀ (K : Nat) (v3 : Int32) (z : Int32), fixN ((fun _ => none) : Int32 → Option (Int32)) (b_X7_find_2 F   v0 v1 v2 G) K v3 = some z → WG E RX7 "find" cX7_find 4 (some .int) 0 0 0 0 2 [(0, .ref v0), (1, .int v1), (2, .int v2), (3, .int v3)] [] n G (g_O E (some (.int z), n, G)) := by
  intro K
  refine fixN_ind (P := fun (r : Int32 → Option (Int32)) => ∀ (v3 : Int32) (z : Int32), r v3 = some z → WG E RX7 "find" cX7_find 4 (some .int) 0 0 0 0 2 [(0, .ref v0), (1, .int v1), (2, .int v2), (3, .int v3)] [] n G (g_O E (some (.int z), n, G))) ?_ ?_ K
  · intro v3 z h
    cases h
  · intro rec2 hrec2 v3 z h
    unfold b_X7_find_2 at h
    refine r_iload d_X7_find_2 rfl ?_
    refine r_aload d_X7_find_3 rfl ?_
    refine r_getI h d_X7_find_4 pf_X7_9 (fun x1 h => ?_)
    refine r_icmp_ge h d_X7_find_7 (fun h => ?_) (fun h => ?_)
    · refine r_iconst d_X7_find_38 ic_m1 ?_
      exact r_pret h d_X7_find_39
    · refine r_aload d_X7_find_10 rfl ?_
      refine r_getR h d_X7_find_11 pf_X7_15 (fun x2 h => ?_)
      refine r_iload d_X7_find_14 rfl ?_
      refine r_iald h d_X7_find_15 (fun x3 h => ?_)
      refine r_iload d_X7_find_16 rfl ?_
      refine r_icmp_ne h d_X7_find_17 (fun h => ?_) (fun h => ?_)
      · refine r_iinc d_X7_find_32 rfl (ii_1 _) rfl rfl ?_
        refine r_goto d_X7_find_35 ?_
        refine r_lv [(0, .ref v0), (1, .int v1), (2, .int v2), (3, .int (v3 + 1))] (g_allc rfl (g_allc rfl (g_allc rfl (g_allc rfl g_alln)))) ?_
        exact hrec2 _ _ h
      · refine r_aload d_X7_find_20 rfl ?_
        refine r_getR h d_X7_find_21 pf_X7_19 (fun x4 h => ?_)
        refine r_iload d_X7_find_24 rfl ?_
        refine r_iald h d_X7_find_25 (fun x5 h => ?_)
        refine r_iload d_X7_find_26 rfl ?_
        refine r_icmp_ne h d_X7_find_27 (fun h => ?_) (fun h => ?_)
        · refine r_iinc d_X7_find_32 rfl (ii_1 _) rfl rfl ?_
          refine r_goto d_X7_find_35 ?_
          refine r_lv [(0, .ref v0), (1, .int v1), (2, .int v2), (3, .int (v3 + 1))] (g_allc rfl (g_allc rfl (g_allc rfl (g_allc rfl g_alln)))) ?_
          exact hrec2 _ _ h
        · refine r_iload d_X7_find_30 rfl ?_
          exact r_pret h d_X7_find_31
set_option maxRecDepth 100000 in
set_option maxHeartbeats 4000000 in
theorem s_X7_find {E : GE} {F : Nat}  {v0 : Nat} {v1 : Int32} {v2 : Int32} {n : Nat} {G : GH} {z : Int32}  (h : f_X7_find F  v0 v1 v2 G = some z) : GM E yX7_find cX7_find 4 (some .int) 0 0 0 0 [.ref v0, .int v1, .int v2] n G (some (.int z), n, G) := by
  refine GM.of (by decide) (Nat.le_of_ble_eq_true rfl) ?_
  show WG E RX7 "find" cX7_find 4 (some .int) 0 0 0 0 0 [(0, .ref v0), (1, .int v1), (2, .int v2)] [] n G (g_O E (some (.int z), n, G))
  unfold f_X7_find at h
  refine r_iconst d_X7_find_0 ic_0 ?_
  refine r_istore d_X7_find_1 rfl rfl ?_
  refine r_lv [(0, .ref v0), (1, .int v1), (2, .int v2), (3, .int (0 : Int32))] (g_allc rfl (g_allc rfl (g_allc rfl (g_allc rfl g_alln)))) ?_
  exact l_X7_find_2   _ _ _ h
/-! X7_add -/
theorem pf_X7_22 : pF RX7 22 7 3 := ⟨RX7, TX7, 7, rfl, by decide, rfl, Or.inl (g_in 254 (by decide +kernel) rfl)⟩
theorem pf_X7_26 : pF RX7 26 7 4 := ⟨RX7, TX7, 7, rfl, by decide, rfl, Or.inl (g_in 257 (by decide +kernel) rfl)⟩
theorem pf_X7_29 : pF RX7 29 7 5 := ⟨RX7, TX7, 7, rfl, by decide, rfl, Or.inl (g_in 260 (by decide +kernel) rfl)⟩
theorem d_X7_add_0 : decAL cX7_add 0 0 1 := Or.inr ⟨0, rfl, by decide +kernel, rfl⟩
theorem d_X7_add_1 : dec 3 cX7_add 1 (.getfield 9) 4 := ⟨by decide +kernel, rfl⟩
theorem d_X7_add_4 : dec 2 cX7_add 4 (.bipush 60) 6 := ⟨by decide +kernel, rfl⟩
theorem d_X7_add_6 : decB cX7_add 6 (.if_icmp .lt 6) (6) 9 12 := ⟨by decide +kernel, rfl, by decide⟩
theorem d_X7_add_9 : dec 2 cX7_add 9 (.bipush (-4)) 11 := ⟨by decide +kernel, rfl⟩
theorem d_X7_add_11 : dec 1 cX7_add 11 .ireturn 12 := ⟨by decide +kernel, rfl⟩
theorem d_X7_add_12 : decAL cX7_add 12 0 13 := Or.inr ⟨0, rfl, by decide +kernel, rfl⟩
theorem d_X7_add_13 : dec 3 cX7_add 13 (.getfield 9) 16 := ⟨by decide +kernel, rfl⟩
theorem d_X7_add_16 : decIS cX7_add 16 5 18 := Or.inl ⟨by decide +kernel, rfl⟩
theorem d_X7_add_18 : decAL cX7_add 18 0 19 := Or.inr ⟨0, rfl, by decide +kernel, rfl⟩
theorem d_X7_add_19 : dec 3 cX7_add 19 (.getfield 15) 22 := ⟨by decide +kernel, rfl⟩
theorem d_X7_add_22 : decIL cX7_add 22 5 24 := Or.inl ⟨by decide +kernel, rfl⟩
theorem d_X7_add_24 : decIL cX7_add 24 1 25 := Or.inr ⟨1, rfl, by decide +kernel, rfl⟩
theorem d_X7_add_25 : dec 1 cX7_add 25 .iastore 26 := ⟨by decide +kernel, rfl⟩
theorem d_X7_add_26 : decAL cX7_add 26 0 27 := Or.inr ⟨0, rfl, by decide +kernel, rfl⟩
theorem d_X7_add_27 : dec 3 cX7_add 27 (.getfield 19) 30 := ⟨by decide +kernel, rfl⟩
theorem d_X7_add_30 : decIL cX7_add 30 5 32 := Or.inl ⟨by decide +kernel, rfl⟩
theorem d_X7_add_32 : decIL cX7_add 32 2 33 := Or.inr ⟨2, rfl, by decide +kernel, rfl⟩
theorem d_X7_add_33 : dec 1 cX7_add 33 .iastore 34 := ⟨by decide +kernel, rfl⟩
theorem d_X7_add_34 : decAL cX7_add 34 0 35 := Or.inr ⟨0, rfl, by decide +kernel, rfl⟩
theorem d_X7_add_35 : dec 3 cX7_add 35 (.getfield 22) 38 := ⟨by decide +kernel, rfl⟩
theorem d_X7_add_38 : decIL cX7_add 38 5 40 := Or.inl ⟨by decide +kernel, rfl⟩
theorem d_X7_add_40 : dec 1 cX7_add 40 (.iconst 0) 41 := ⟨by decide +kernel, rfl⟩
theorem d_X7_add_41 : dec 1 cX7_add 41 .bastore 42 := ⟨by decide +kernel, rfl⟩
theorem d_X7_add_42 : decAL cX7_add 42 0 43 := Or.inr ⟨0, rfl, by decide +kernel, rfl⟩
theorem d_X7_add_43 : dec 3 cX7_add 43 (.getfield 26) 46 := ⟨by decide +kernel, rfl⟩
theorem d_X7_add_46 : decIL cX7_add 46 5 48 := Or.inl ⟨by decide +kernel, rfl⟩
theorem d_X7_add_48 : dec 1 cX7_add 48 (.iconst 0) 49 := ⟨by decide +kernel, rfl⟩
theorem d_X7_add_49 : dec 1 cX7_add 49 .iastore 50 := ⟨by decide +kernel, rfl⟩
theorem d_X7_add_50 : dec 1 cX7_add 50 (.iconst 0) 51 := ⟨by decide +kernel, rfl⟩
theorem d_X7_add_51 : decIS cX7_add 51 6 53 := Or.inl ⟨by decide +kernel, rfl⟩
theorem d_X7_add_53 : decIL cX7_add 53 6 55 := Or.inl ⟨by decide +kernel, rfl⟩
theorem d_X7_add_55 : dec 1 cX7_add 55 (.iconst 4) 56 := ⟨by decide +kernel, rfl⟩
theorem d_X7_add_56 : decB cX7_add 56 (.if_icmp .ge 59) (59) 59 115 := ⟨by decide +kernel, rfl, by decide⟩
theorem d_X7_add_59 : decIL cX7_add 59 4 61 := Or.inl ⟨by decide +kernel, rfl⟩
theorem d_X7_add_61 : decB cX7_add 61 (.ifCond .lt 17) (17) 64 78 := ⟨by decide +kernel, rfl, by decide⟩
theorem d_X7_add_64 : decIL cX7_add 64 4 66 := Or.inl ⟨by decide +kernel, rfl⟩
theorem d_X7_add_66 : decIL cX7_add 66 6 68 := Or.inl ⟨by decide +kernel, rfl⟩
theorem d_X7_add_68 : dec 1 cX7_add 68 .iadd 69 := ⟨by decide +kernel, rfl⟩
theorem d_X7_add_69 : decAL cX7_add 69 3 70 := Or.inr ⟨3, rfl, by decide +kernel, rfl⟩
theorem d_X7_add_70 : dec 1 cX7_add 70 .arraylength 71 := ⟨by decide +kernel, rfl⟩
theorem d_X7_add_71 : decB cX7_add 71 (.if_icmp .ge 7) (7) 74 78 := ⟨by decide +kernel, rfl, by decide⟩
theorem d_X7_add_74 : dec 1 cX7_add 74 (.iconst 1) 75 := ⟨by decide +kernel, rfl⟩
theorem d_X7_add_75 : decB cX7_add 75 (.goto 4) (4) 78 79 := ⟨by decide +kernel, rfl, by decide⟩
theorem d_X7_add_78 : dec 1 cX7_add 78 (.iconst 0) 79 := ⟨by decide +kernel, rfl⟩
theorem d_X7_add_79 : decIS cX7_add 79 7 81 := Or.inl ⟨by decide +kernel, rfl⟩
theorem d_X7_add_81 : decAL cX7_add 81 0 82 := Or.inr ⟨0, rfl, by decide +kernel, rfl⟩
theorem d_X7_add_82 : dec 3 cX7_add 82 (.getfield 29) 85 := ⟨by decide +kernel, rfl⟩
theorem d_X7_add_85 : decIL cX7_add 85 5 87 := Or.inl ⟨by decide +kernel, rfl⟩
theorem d_X7_add_87 : dec 1 cX7_add 87 (.iconst 4) 88 := ⟨by decide +kernel, rfl⟩
theorem d_X7_add_88 : dec 1 cX7_add 88 .imul 89 := ⟨by decide +kernel, rfl⟩
theorem d_X7_add_89 : decIL cX7_add 89 6 91 := Or.inl ⟨by decide +kernel, rfl⟩
theorem d_X7_add_91 : dec 1 cX7_add 91 .iadd 92 := ⟨by decide +kernel, rfl⟩
theorem d_X7_add_92 : decIL cX7_add 92 7 94 := Or.inl ⟨by decide +kernel, rfl⟩
theorem d_X7_add_94 : decB cX7_add 94 (.ifCond .eq 13) (13) 97 107 := ⟨by decide +kernel, rfl, by decide⟩
theorem d_X7_add_97 : decAL cX7_add 97 3 98 := Or.inr ⟨3, rfl, by decide +kernel, rfl⟩
theorem d_X7_add_98 : decIL cX7_add 98 4 100 := Or.inl ⟨by decide +kernel, rfl⟩
theorem d_X7_add_100 : decIL cX7_add 100 6 102 := Or.inl ⟨by decide +kernel, rfl⟩
theorem d_X7_add_102 : dec 1 cX7_add 102 .iadd 103 := ⟨by decide +kernel, rfl⟩
theorem d_X7_add_103 : dec 1 cX7_add 103 .iaload 104 := ⟨by decide +kernel, rfl⟩
theorem d_X7_add_104 : decB cX7_add 104 (.goto 4) (4) 107 108 := ⟨by decide +kernel, rfl, by decide⟩
theorem d_X7_add_107 : dec 1 cX7_add 107 (.iconst (-1)) 108 := ⟨by decide +kernel, rfl⟩
theorem d_X7_add_108 : dec 1 cX7_add 108 .iastore 109 := ⟨by decide +kernel, rfl⟩
theorem d_X7_add_109 : dec 3 cX7_add 109 (.iinc 6 1) 112 := ⟨by decide +kernel, rfl⟩
theorem d_X7_add_112 : decB cX7_add 112 (.goto (-59)) (-59) 115 53 := ⟨by decide +kernel, rfl, by decide⟩
theorem d_X7_add_115 : decAL cX7_add 115 0 116 := Or.inr ⟨0, rfl, by decide +kernel, rfl⟩
theorem d_X7_add_116 : dec 1 cX7_add 116 .dup 117 := ⟨by decide +kernel, rfl⟩
theorem d_X7_add_117 : dec 3 cX7_add 117 (.getfield 9) 120 := ⟨by decide +kernel, rfl⟩
theorem d_X7_add_120 : dec 1 cX7_add 120 (.iconst 1) 121 := ⟨by decide +kernel, rfl⟩
theorem d_X7_add_121 : dec 1 cX7_add 121 .iadd 122 := ⟨by decide +kernel, rfl⟩
theorem d_X7_add_122 : dec 3 cX7_add 122 (.putfield 9) 125 := ⟨by decide +kernel, rfl⟩
theorem d_X7_add_125 : decIL cX7_add 125 5 127 := Or.inl ⟨by decide +kernel, rfl⟩
theorem d_X7_add_127 : dec 1 cX7_add 127 .ireturn 128 := ⟨by decide +kernel, rfl⟩
def k_X7_add_115 (F : Nat)   (v0 : Nat) (v5 : Int32)  (n : Nat) (G : GH) : Option (Int32 × Nat × GH) :=
  Option.bind (gI G v0 7 0) (fun (x11 : Int32) =>
  Option.bind (pV G v0 7 0 (.int (x11 + (1 : Int32)))) (fun (G12 : GH) =>
  some (v5, n, G12)))
def k_X7_add_79 (F : Nat)  (rec53 : Int32 → Nat → GH → Option (Int32 × Nat × GH)) (v0 : Nat) (v3 : Nat) (v4 : Int32) (v5 : Int32) (v6 : Int32) (s0 : Int32) (n : Nat) (G : GH) : Option (Int32 × Nat × GH) :=
  Option.bind (gR G v0 7 5) (fun (x13 : Nat) =>
  if s0 = 0 then
  (Option.bind (aS G x13 0 ((v5 * (4 : Int32)) + v6) (-1 : Int32)) (fun (G14 : GH) =>
  rec53 (v6 + 1) n G14))
  else (Option.bind (aI G v3 0 (v4 + v6)) (fun (x15 : Int32) =>
  Option.bind (aS G x13 0 ((v5 * (4 : Int32)) + v6) x15) (fun (G16 : GH) =>
  rec53 (v6 + 1) n G16))))
def k_X7_add_78 (F : Nat)  (rec53 : Int32 → Nat → GH → Option (Int32 × Nat × GH)) (v0 : Nat) (v3 : Nat) (v4 : Int32) (v5 : Int32) (v6 : Int32)  (n : Nat) (G : GH) : Option (Int32 × Nat × GH) :=
  k_X7_add_79 F  rec53 v0 v3 v4 v5 v6 (0 : Int32) n G
def b_X7_add_53 (F : Nat)   (v0 : Nat) (v3 : Nat) (v4 : Int32) (v5 : Int32) (rec53 : Int32 → Nat → GH → Option (Int32 × Nat × GH)) : Int32 → Nat → GH → Option (Int32 × Nat × GH) := fun v6 n G =>
  if (4 : Int32) ≤ v6 then
  (k_X7_add_115 F   v0 v5 n G)
  else (if v4 < 0 then
  (k_X7_add_78 F  rec53 v0 v3 v4 v5 v6 n G)
  else (Option.bind (aL G v3) (fun (x17 : Int32) =>
  if x17 ≤ (v4 + v6) then
  (k_X7_add_78 F  rec53 v0 v3 v4 v5 v6 n G)
  else (k_X7_add_79 F  rec53 v0 v3 v4 v5 v6 (1 : Int32) n G))))
def f_X7_add (F : Nat)  (v0 : Nat) (v1 : Int32) (v2 : Int32) (v3 : Nat) (v4 : Int32) (n : Nat) (G : GH) : Option (Int32 × Nat × GH) :=
  Option.bind (gI G v0 7 0) (fun (x1 : Int32) =>
  if x1 < (60 : Int32) then
  (Option.bind (gI G v0 7 0) (fun (x2 : Int32) =>
  Option.bind (gR G v0 7 1) (fun (x3 : Nat) =>
  Option.bind (aS G x3 0 x2 v1) (fun (G4 : GH) =>
  Option.bind (gR G4 v0 7 2) (fun (x5 : Nat) =>
  Option.bind (aS G4 x5 0 x2 v2) (fun (G6 : GH) =>
  Option.bind (gR G6 v0 7 3) (fun (x7 : Nat) =>
  Option.bind (aS G6 x7 2 x2 (vp_nar .boolean (0 : Int32))) (fun (G8 : GH) =>
  Option.bind (gR G8 v0 7 4) (fun (x9 : Nat) =>
  Option.bind (aS G8 x9 0 x2 (0 : Int32)) (fun (G10 : GH) =>
  fixN (fun _ _ _ => none) (b_X7_add_53 F   v0 v3 v4 x2) F (0 : Int32) n G10))))))))))
  else (some ((-4 : Int32), n, G)))
set_option maxRecDepth 100000 in
set_option maxHeartbeats 4000000 in
theorem c_X7_add_115 {E : GE} {F : Nat}   {v0 : Nat} {v5 : Int32}  {n : Nat} {G : GH} {z : Int32 × Nat × GH}   (h : k_X7_add_115 F   v0 v5  n G = some z) : WG E RX7 "add" cX7_add 8 (some .int) 0 0 0 0 115 [(0, .ref v0), (5, .int v5)] [] n G (g_O E (some (.int z.1), z.2.1, z.2.2)) := by
  unfold k_X7_add_115 at h
  refine r_aload d_X7_add_115 rfl ?_
  refine r_dup d_X7_add_116 rfl ?_
  refine r_getI h d_X7_add_117 pf_X7_9 (fun x11 h => ?_)
  refine r_iconst d_X7_add_120 ic_1 ?_
  refine r_iadd d_X7_add_121 ?_
  refine r_put h d_X7_add_122 pw_X7_9 rfl rfl (fun G12 h => ?_)
  refine r_iload d_X7_add_125 rfl ?_
  exact r_iret h d_X7_add_127
set_option maxRecDepth 100000 in
set_option maxHeartbeats 4000000 in
theorem c_X7_add_79 {E : GE} {F : Nat}  {rec53 : Int32 → Nat → GH → Option (Int32 × Nat × GH)} {v0 : Nat} {v3 : Nat} {v4 : Int32} {v5 : Int32} {v6 : Int32} {s0 : Int32} {n : Nat} {G : GH} {z : Int32 × Nat × GH}  (hrec53 : ∀ (w6 : Int32) (n : Nat) (G : GH) (z : Int32 × Nat × GH), rec53 w6 n G = some z → WG E RX7 "add" cX7_add 8 (some .int) 0 0 0 0 53 [(0, .ref v0), (3, .ref v3), (4, .int v4), (5, .int v5), (6, .int w6)] [] n G (g_O E (some (.int z.1), z.2.1, z.2.2))) (h : k_X7_add_79 F  rec53 v0 v3 v4 v5 v6 s0 n G = some z) : WG E RX7 "add" cX7_add 8 (some .int) 0 0 0 0 79 [(0, .ref v0), (3, .ref v3), (4, .int v4), (5, .int v5), (6, .int v6)] [.int s0] n G (g_O E (some (.int z.1), z.2.1, z.2.2)) := by
  unfold k_X7_add_79 at h
  refine r_istore d_X7_add_79 rfl rfl ?_
  refine r_aload d_X7_add_81 rfl ?_
  refine r_getR h d_X7_add_82 pf_X7_29 (fun x13 h => ?_)
  refine r_iload d_X7_add_85 rfl ?_
  refine r_iconst d_X7_add_87 ic_4 ?_
  refine r_imul d_X7_add_88 ?_
  refine r_iload d_X7_add_89 rfl ?_
  refine r_iadd d_X7_add_91 ?_
  refine r_iload d_X7_add_92 rfl ?_
  refine r_if_eq h d_X7_add_94 (fun h => ?_) (fun h => ?_)
  · refine r_iconst d_X7_add_107 ic_m1 ?_
    refine r_iast h d_X7_add_108 (fun G14 h => ?_)
    refine r_iinc d_X7_add_109 rfl (ii_1 _) rfl rfl ?_
    refine r_goto d_X7_add_112 ?_
    refine r_lv [(0, .ref v0), (3, .ref v3), (4, .int v4), (5, .int v5), (6, .int (v6 + 1))] (g_allc rfl (g_allc rfl (g_allc rfl (g_allc rfl (g_allc rfl g_alln))))) ?_
    exact hrec53 _ _ _ _ h
  · refine r_aload d_X7_add_97 rfl ?_
    refine r_iload d_X7_add_98 rfl ?_
    refine r_iload d_X7_add_100 rfl ?_
    refine r_iadd d_X7_add_102 ?_
    refine r_iald h d_X7_add_103 (fun x15 h => ?_)
    refine r_goto d_X7_add_104 ?_
    refine r_iast h d_X7_add_108 (fun G16 h => ?_)
    refine r_iinc d_X7_add_109 rfl (ii_1 _) rfl rfl ?_
    refine r_goto d_X7_add_112 ?_
    refine r_lv [(0, .ref v0), (3, .ref v3), (4, .int v4), (5, .int v5), (6, .int (v6 + 1))] (g_allc rfl (g_allc rfl (g_allc rfl (g_allc rfl (g_allc rfl g_alln))))) ?_
    exact hrec53 _ _ _ _ h
set_option maxRecDepth 100000 in
set_option maxHeartbeats 4000000 in
theorem c_X7_add_78 {E : GE} {F : Nat}  {rec53 : Int32 → Nat → GH → Option (Int32 × Nat × GH)} {v0 : Nat} {v3 : Nat} {v4 : Int32} {v5 : Int32} {v6 : Int32}  {n : Nat} {G : GH} {z : Int32 × Nat × GH}  (hrec53 : ∀ (w6 : Int32) (n : Nat) (G : GH) (z : Int32 × Nat × GH), rec53 w6 n G = some z → WG E RX7 "add" cX7_add 8 (some .int) 0 0 0 0 53 [(0, .ref v0), (3, .ref v3), (4, .int v4), (5, .int v5), (6, .int w6)] [] n G (g_O E (some (.int z.1), z.2.1, z.2.2))) (h : k_X7_add_78 F  rec53 v0 v3 v4 v5 v6  n G = some z) : WG E RX7 "add" cX7_add 8 (some .int) 0 0 0 0 78 [(0, .ref v0), (3, .ref v3), (4, .int v4), (5, .int v5), (6, .int v6)] [] n G (g_O E (some (.int z.1), z.2.1, z.2.2)) := by
  unfold k_X7_add_78 at h
  refine r_iconst d_X7_add_78 ic_0 ?_
  refine r_lv [(0, .ref v0), (3, .ref v3), (4, .int v4), (5, .int v5), (6, .int v6)] (g_allc rfl (g_allc rfl (g_allc rfl (g_allc rfl (g_allc rfl g_alln))))) ?_
  exact c_X7_add_79  hrec53 h
set_option maxRecDepth 100000 in
set_option maxHeartbeats 4000000 in
theorem l_X7_add_53 {E : GE} {F : Nat}   {v0 : Nat} {v3 : Nat} {v4 : Int32} {v5 : Int32}   : ∀ (K : Nat) (v6 : Int32) (n : Nat) (G : GH) (z : Int32 × Nat × GH), fixN ((fun _ _ _ => none) : Int32 → Nat → GH → Option (Int32 × Nat × GH)) (b_X7_add_53 F   v0 v3 v4 v5) K v6 n G = some z → WG E RX7 "add" cX7_add 8 (some .int) 0 0 0 0 53 [(0, .ref v0), (3, .ref v3), (4, .int v4), (5, .int v5), (6, .int v6)] [] n G (g_O E (some (.int z.1), z.2.1, z.2.2)) := by
  intro K
  refine fixN_ind (P := fun (r : Int32 → Nat → GH → Option (Int32 × Nat × GH)) => ∀ (v6 : Int32) (n : Nat) (G : GH) (z : Int32 × Nat × GH), r v6 n G = some z → WG E RX7 "add" cX7_add 8 (some .int) 0 0 0 0 53 [(0, .ref v0), (3, .ref v3), (4, .int v4), (5, .int v5), (6, .int v6)] [] n G (g_O E (some (.int z.1), z.2.1, z.2.2))) ?_ ?_ K
  · intro v6 n G z h
    cases h
  · intro rec53 hrec53 v6 n G z h
    unfold b_X7_add_53 at h
    refine r_iload d_X7_add_53 rfl ?_
    refine r_iconst d_X7_add_55 ic_4 ?_
    refine r_icmp_ge h d_X7_add_56 (fun h => ?_) (fun h => ?_)
    · refine r_lv [(0, .ref v0), (5, .int v5)] (g_allc rfl (g_allc rfl g_alln)) ?_
      exact c_X7_add_115   h
    · refine r_iload d_X7_add_59 rfl ?_
      refine r_if_lt h d_X7_add_61 (fun h => ?_) (fun h => ?_)
      · refine r_lv [(0, .ref v0), (3, .ref v3), (4, .int v4), (5, .int v5), (6, .int v6)] (g_allc rfl (g_allc rfl (g_allc rfl (g_allc rfl (g_allc rfl g_alln))))) ?_
        exact c_X7_add_78  hrec53 h
      · refine r_iload d_X7_add_64 rfl ?_
        refine r_iload d_X7_add_66 rfl ?_
        refine r_iadd d_X7_add_68 ?_
        refine r_aload d_X7_add_69 rfl ?_
        refine r_alen h d_X7_add_70 (fun x17 h => ?_)
        refine r_icmp_ge h d_X7_add_71 (fun h => ?_) (fun h => ?_)
        · refine r_lv [(0, .ref v0), (3, .ref v3), (4, .int v4), (5, .int v5), (6, .int v6)] (g_allc rfl (g_allc rfl (g_allc rfl (g_allc rfl (g_allc rfl g_alln))))) ?_
          exact c_X7_add_78  hrec53 h
        · refine r_iconst d_X7_add_74 ic_1 ?_
          refine r_goto d_X7_add_75 ?_
          refine r_lv [(0, .ref v0), (3, .ref v3), (4, .int v4), (5, .int v5), (6, .int v6)] (g_allc rfl (g_allc rfl (g_allc rfl (g_allc rfl (g_allc rfl g_alln))))) ?_
          exact c_X7_add_79  hrec53 h
set_option maxRecDepth 100000 in
set_option maxHeartbeats 4000000 in
theorem s_X7_add {E : GE} {F : Nat}  {v0 : Nat} {v1 : Int32} {v2 : Int32} {v3 : Nat} {v4 : Int32} {n : Nat} {G : GH} {z : Int32 × Nat × GH}  (h : f_X7_add F  v0 v1 v2 v3 v4 n G = some z) : GM E yX7_add cX7_add 8 (some .int) 0 0 0 0 [.ref v0, .int v1, .int v2, .ref v3, .int v4] n G (some (.int z.1), z.2.1, z.2.2) := by
  refine GM.of (by decide) (Nat.le_of_ble_eq_true rfl) ?_
  show WG E RX7 "add" cX7_add 8 (some .int) 0 0 0 0 0 [(0, .ref v0), (1, .int v1), (2, .int v2), (3, .ref v3), (4, .int v4)] [] n G (g_O E (some (.int z.1), z.2.1, z.2.2))
  unfold f_X7_add at h
  refine r_aload d_X7_add_0 rfl ?_
  refine r_getI h d_X7_add_1 pf_X7_9 (fun x1 h => ?_)
  refine r_bipush d_X7_add_4 bp_60 ?_
  refine r_icmp_lt h d_X7_add_6 (fun h => ?_) (fun h => ?_)
  · refine r_aload d_X7_add_12 rfl ?_
    refine r_getI h d_X7_add_13 pf_X7_9 (fun x2 h => ?_)
    refine r_istore d_X7_add_16 rfl rfl ?_
    refine r_aload d_X7_add_18 rfl ?_
    refine r_getR h d_X7_add_19 pf_X7_15 (fun x3 h => ?_)
    refine r_iload d_X7_add_22 rfl ?_
    refine r_iload d_X7_add_24 rfl ?_
    refine r_iast h d_X7_add_25 (fun G4 h => ?_)
    refine r_aload d_X7_add_26 rfl ?_
    refine r_getR h d_X7_add_27 pf_X7_19 (fun x5 h => ?_)
    refine r_iload d_X7_add_30 rfl ?_
    refine r_iload d_X7_add_32 rfl ?_
    refine r_iast h d_X7_add_33 (fun G6 h => ?_)
    refine r_aload d_X7_add_34 rfl ?_
    refine r_getR h d_X7_add_35 pf_X7_22 (fun x7 h => ?_)
    refine r_iload d_X7_add_38 rfl ?_
    refine r_iconst d_X7_add_40 ic_0 ?_
    refine r_zast h d_X7_add_41 (fun G8 h => ?_)
    refine r_aload d_X7_add_42 rfl ?_
    refine r_getR h d_X7_add_43 pf_X7_26 (fun x9 h => ?_)
    refine r_iload d_X7_add_46 rfl ?_
    refine r_iconst d_X7_add_48 ic_0 ?_
    refine r_iast h d_X7_add_49 (fun G10 h => ?_)
    refine r_iconst d_X7_add_50 ic_0 ?_
    refine r_istore d_X7_add_51 rfl rfl ?_
    refine r_lv [(0, .ref v0), (3, .ref v3), (4, .int v4), (5, .int x2), (6, .int (0 : Int32))] (g_allc rfl (g_allc rfl (g_allc rfl (g_allc rfl (g_allc rfl g_alln))))) ?_
    exact l_X7_add_53   _ _ _ _ _ h
  · refine r_bipush d_X7_add_9 bp_m4 ?_
    exact r_iret h d_X7_add_11
/-! X7_ownedAt -/
theorem py_X7_holds : pY yX7_holds cX7_holds 2 (some .boolean) 1 := ⟨g_in 724 (by decide +kernel) rfl, g_in 99 (by decide +kernel) rfl, by decide, by decide, by decide +kernel⟩
theorem pi_X7_holds : pI yX7_holds 7 := ⟨g_in 722 (by decide +kernel) rfl, g_in 723 (by decide +kernel) rfl, (RX7, TX7, 7), rfl, rfl⟩
theorem pl_X7_35 : pL RX7 35 yX7_holds := Or.inl (g_in 721 (by decide +kernel) rfl)
theorem d_X7_ownedAt_0 : decAL cX7_ownedAt 0 0 1 := Or.inr ⟨0, rfl, by decide +kernel, rfl⟩
theorem d_X7_ownedAt_1 : decIL cX7_ownedAt 1 1 2 := Or.inr ⟨1, rfl, by decide +kernel, rfl⟩
theorem d_X7_ownedAt_2 : dec 3 cX7_ownedAt 2 (.invokevirtual 35) 5 := ⟨by decide +kernel, rfl⟩
theorem d_X7_ownedAt_5 : decB cX7_ownedAt 5 (.ifCond .eq 12) (12) 8 17 := ⟨by decide +kernel, rfl, by decide⟩
theorem d_X7_ownedAt_8 : decIL cX7_ownedAt 8 2 9 := Or.inr ⟨2, rfl, by decide +kernel, rfl⟩
theorem d_X7_ownedAt_9 : decB cX7_ownedAt 9 (.ifCond .lt 8) (8) 12 17 := ⟨by decide +kernel, rfl, by decide⟩
theorem d_X7_ownedAt_12 : decIL cX7_ownedAt 12 2 13 := Or.inr ⟨2, rfl, by decide +kernel, rfl⟩
theorem d_X7_ownedAt_13 : dec 1 cX7_ownedAt 13 (.iconst 4) 14 := ⟨by decide +kernel, rfl⟩
theorem d_X7_ownedAt_14 : decB cX7_ownedAt 14 (.if_icmp .lt 5) (5) 17 19 := ⟨by decide +kernel, rfl, by decide⟩
theorem d_X7_ownedAt_17 : dec 1 cX7_ownedAt 17 (.iconst (-1)) 18 := ⟨by decide +kernel, rfl⟩
theorem d_X7_ownedAt_18 : dec 1 cX7_ownedAt 18 .ireturn 19 := ⟨by decide +kernel, rfl⟩
theorem d_X7_ownedAt_19 : decAL cX7_ownedAt 19 0 20 := Or.inr ⟨0, rfl, by decide +kernel, rfl⟩
theorem d_X7_ownedAt_20 : dec 3 cX7_ownedAt 20 (.getfield 29) 23 := ⟨by decide +kernel, rfl⟩
theorem d_X7_ownedAt_23 : decIL cX7_ownedAt 23 1 24 := Or.inr ⟨1, rfl, by decide +kernel, rfl⟩
theorem d_X7_ownedAt_24 : dec 1 cX7_ownedAt 24 (.iconst 4) 25 := ⟨by decide +kernel, rfl⟩
theorem d_X7_ownedAt_25 : dec 1 cX7_ownedAt 25 .imul 26 := ⟨by decide +kernel, rfl⟩
theorem d_X7_ownedAt_26 : decIL cX7_ownedAt 26 2 27 := Or.inr ⟨2, rfl, by decide +kernel, rfl⟩
theorem d_X7_ownedAt_27 : dec 1 cX7_ownedAt 27 .iadd 28 := ⟨by decide +kernel, rfl⟩
theorem d_X7_ownedAt_28 : dec 1 cX7_ownedAt 28 .iaload 29 := ⟨by decide +kernel, rfl⟩
theorem d_X7_ownedAt_29 : dec 1 cX7_ownedAt 29 .ireturn 30 := ⟨by decide +kernel, rfl⟩
def f_X7_ownedAt (F : Nat)  (v0 : Nat) (v1 : Int32) (v2 : Int32) (G : GH) : Option (Int32) :=
  cvP G v0 7 (f_X7_holds F v0 v1 G) (fun (x1 : Int32) =>
  if x1 = 0 then
  (some (-1 : Int32))
  else (if v2 < 0 then
  (some (-1 : Int32))
  else (if v2 < (4 : Int32) then
  (Option.bind (gR G v0 7 5) (fun (x2 : Nat) =>
  Option.bind (aI G x2 0 ((v1 * (4 : Int32)) + v2)) (fun (x3 : Int32) =>
  some x3)))
  else (some (-1 : Int32)))))
set_option maxRecDepth 100000 in
set_option maxHeartbeats 4000000 in
theorem s_X7_ownedAt {E : GE} {F : Nat}  {v0 : Nat} {v1 : Int32} {v2 : Int32} {n : Nat} {G : GH} {z : Int32}  (h : f_X7_ownedAt F  v0 v1 v2 G = some z) : GM E yX7_ownedAt cX7_ownedAt 3 (some .int) 1 21 0 0 [.ref v0, .int v1, .int v2] n G (some (.int z), n, G) := by
  refine GM.of (by decide) (Nat.le_of_ble_eq_true rfl) ?_
  show WG E RX7 "ownedAt" cX7_ownedAt 3 (some .int) 1 21 0 0 0 [(0, .ref v0), (1, .int v1), (2, .int v2)] [] n G (g_O E (some (.int z), n, G))
  unfold f_X7_ownedAt at h
  refine r_aload d_X7_ownedAt_0 rfl ?_
  refine r_iload d_X7_ownedAt_1 rfl ?_
  refine r_invP [_] h (fun _ hq => s_X7_holds hq) d_X7_ownedAt_2 pl_X7_35 py_X7_holds pi_X7_holds rfl rfl rfl (fun x1 h => ?_)
  refine r_if_eq h d_X7_ownedAt_5 (fun h => ?_) (fun h => ?_)
  · refine r_iconst d_X7_ownedAt_17 ic_m1 ?_
    exact r_pret h d_X7_ownedAt_18
  · refine r_iload d_X7_ownedAt_8 rfl ?_
    refine r_if_lt h d_X7_ownedAt_9 (fun h => ?_) (fun h => ?_)
    · refine r_iconst d_X7_ownedAt_17 ic_m1 ?_
      exact r_pret h d_X7_ownedAt_18
    · refine r_iload d_X7_ownedAt_12 rfl ?_
      refine r_iconst d_X7_ownedAt_13 ic_4 ?_
      refine r_icmp_lt h d_X7_ownedAt_14 (fun h => ?_) (fun h => ?_)
      · refine r_aload d_X7_ownedAt_19 rfl ?_
        refine r_getR h d_X7_ownedAt_20 pf_X7_29 (fun x2 h => ?_)
        refine r_iload d_X7_ownedAt_23 rfl ?_
        refine r_iconst d_X7_ownedAt_24 ic_4 ?_
        refine r_imul d_X7_ownedAt_25 ?_
        refine r_iload d_X7_ownedAt_26 rfl ?_
        refine r_iadd d_X7_ownedAt_27 ?_
        refine r_iald h d_X7_ownedAt_28 (fun x3 h => ?_)
        exact r_pret h d_X7_ownedAt_29
      · refine r_iconst d_X7_ownedAt_17 ic_m1 ?_
        exact r_pret h d_X7_ownedAt_18
/-! X7_setOwned -/
theorem d_X7_setOwned_0 : decAL cX7_setOwned 0 0 1 := Or.inr ⟨0, rfl, by decide +kernel, rfl⟩
theorem d_X7_setOwned_1 : decIL cX7_setOwned 1 1 2 := Or.inr ⟨1, rfl, by decide +kernel, rfl⟩
theorem d_X7_setOwned_2 : dec 3 cX7_setOwned 2 (.invokevirtual 35) 5 := ⟨by decide +kernel, rfl⟩
theorem d_X7_setOwned_5 : decB cX7_setOwned 5 (.ifCond .eq 23) (23) 8 28 := ⟨by decide +kernel, rfl, by decide⟩
theorem d_X7_setOwned_8 : decIL cX7_setOwned 8 2 9 := Or.inr ⟨2, rfl, by decide +kernel, rfl⟩
theorem d_X7_setOwned_9 : decB cX7_setOwned 9 (.ifCond .lt 19) (19) 12 28 := ⟨by decide +kernel, rfl, by decide⟩
theorem d_X7_setOwned_12 : decIL cX7_setOwned 12 2 13 := Or.inr ⟨2, rfl, by decide +kernel, rfl⟩
theorem d_X7_setOwned_13 : dec 1 cX7_setOwned 13 (.iconst 4) 14 := ⟨by decide +kernel, rfl⟩
theorem d_X7_setOwned_14 : decB cX7_setOwned 14 (.if_icmp .ge 14) (14) 17 28 := ⟨by decide +kernel, rfl, by decide⟩
theorem d_X7_setOwned_17 : decAL cX7_setOwned 17 0 18 := Or.inr ⟨0, rfl, by decide +kernel, rfl⟩
theorem d_X7_setOwned_18 : dec 3 cX7_setOwned 18 (.getfield 29) 21 := ⟨by decide +kernel, rfl⟩
theorem d_X7_setOwned_21 : decIL cX7_setOwned 21 1 22 := Or.inr ⟨1, rfl, by decide +kernel, rfl⟩
theorem d_X7_setOwned_22 : dec 1 cX7_setOwned 22 (.iconst 4) 23 := ⟨by decide +kernel, rfl⟩
theorem d_X7_setOwned_23 : dec 1 cX7_setOwned 23 .imul 24 := ⟨by decide +kernel, rfl⟩
theorem d_X7_setOwned_24 : decIL cX7_setOwned 24 2 25 := Or.inr ⟨2, rfl, by decide +kernel, rfl⟩
theorem d_X7_setOwned_25 : dec 1 cX7_setOwned 25 .iadd 26 := ⟨by decide +kernel, rfl⟩
theorem d_X7_setOwned_26 : decIL cX7_setOwned 26 3 27 := Or.inr ⟨3, rfl, by decide +kernel, rfl⟩
theorem d_X7_setOwned_27 : dec 1 cX7_setOwned 27 .iastore 28 := ⟨by decide +kernel, rfl⟩
theorem d_X7_setOwned_28 : dec 1 cX7_setOwned 28 .return_ 29 := ⟨by decide +kernel, rfl⟩
def f_X7_setOwned (F : Nat)  (v0 : Nat) (v1 : Int32) (v2 : Int32) (v3 : Int32) (n : Nat) (G : GH) : Option (Nat × GH) :=
  cvP G v0 7 (f_X7_holds F v0 v1 G) (fun (x1 : Int32) =>
  if x1 = 0 then
  (some (n, G))
  else (if v2 < 0 then
  (some (n, G))
  else (if (4 : Int32) ≤ v2 then
  (some (n, G))
  else (Option.bind (gR G v0 7 5) (fun (x2 : Nat) =>
  Option.bind (aS G x2 0 ((v1 * (4 : Int32)) + v2) v3) (fun (G3 : GH) =>
  some (n, G3)))))))
set_option maxRecDepth 100000 in
set_option maxHeartbeats 4000000 in
theorem s_X7_setOwned {E : GE} {F : Nat}  {v0 : Nat} {v1 : Int32} {v2 : Int32} {v3 : Int32} {n : Nat} {G : GH} {z : Nat × GH}  (h : f_X7_setOwned F  v0 v1 v2 v3 n G = some z) : GM E yX7_setOwned cX7_setOwned 4 none 1 21 0 0 [.ref v0, .int v1, .int v2, .int v3] n G (none, z.1, z.2) := by
  refine GM.of (by decide) (Nat.le_of_ble_eq_true rfl) ?_
  show WG E RX7 "setOwned" cX7_setOwned 4 none 1 21 0 0 0 [(0, .ref v0), (1, .int v1), (2, .int v2), (3, .int v3)] [] n G (g_O E (none, z.1, z.2))
  unfold f_X7_setOwned at h
  refine r_aload d_X7_setOwned_0 rfl ?_
  refine r_iload d_X7_setOwned_1 rfl ?_
  refine r_invP [_] h (fun _ hq => s_X7_holds hq) d_X7_setOwned_2 pl_X7_35 py_X7_holds pi_X7_holds rfl rfl rfl (fun x1 h => ?_)
  refine r_if_eq h d_X7_setOwned_5 (fun h => ?_) (fun h => ?_)
  · exact r_vret h d_X7_setOwned_28
  · refine r_iload d_X7_setOwned_8 rfl ?_
    refine r_if_lt h d_X7_setOwned_9 (fun h => ?_) (fun h => ?_)
    · exact r_vret h d_X7_setOwned_28
    · refine r_iload d_X7_setOwned_12 rfl ?_
      refine r_iconst d_X7_setOwned_13 ic_4 ?_
      refine r_icmp_ge h d_X7_setOwned_14 (fun h => ?_) (fun h => ?_)
      · exact r_vret h d_X7_setOwned_28
      · refine r_aload d_X7_setOwned_17 rfl ?_
        refine r_getR h d_X7_setOwned_18 pf_X7_29 (fun x2 h => ?_)
        refine r_iload d_X7_setOwned_21 rfl ?_
        refine r_iconst d_X7_setOwned_22 ic_4 ?_
        refine r_imul d_X7_setOwned_23 ?_
        refine r_iload d_X7_setOwned_24 rfl ?_
        refine r_iadd d_X7_setOwned_25 ?_
        refine r_iload d_X7_setOwned_26 rfl ?_
        refine r_iast h d_X7_setOwned_27 (fun G3 h => ?_)
        exact r_vret h d_X7_setOwned_28
/-! X7_setValue -/
theorem d_X7_setValue_0 : decAL cX7_setValue 0 0 1 := Or.inr ⟨0, rfl, by decide +kernel, rfl⟩
theorem d_X7_setValue_1 : decIL cX7_setValue 1 1 2 := Or.inr ⟨1, rfl, by decide +kernel, rfl⟩
theorem d_X7_setValue_2 : dec 3 cX7_setValue 2 (.invokevirtual 35) 5 := ⟨by decide +kernel, rfl⟩
theorem d_X7_setValue_5 : decB cX7_setValue 5 (.ifCond .eq 17) (17) 8 22 := ⟨by decide +kernel, rfl, by decide⟩
theorem d_X7_setValue_8 : decAL cX7_setValue 8 0 9 := Or.inr ⟨0, rfl, by decide +kernel, rfl⟩
theorem d_X7_setValue_9 : dec 3 cX7_setValue 9 (.getfield 22) 12 := ⟨by decide +kernel, rfl⟩
theorem d_X7_setValue_12 : decIL cX7_setValue 12 1 13 := Or.inr ⟨1, rfl, by decide +kernel, rfl⟩
theorem d_X7_setValue_13 : dec 1 cX7_setValue 13 (.iconst 1) 14 := ⟨by decide +kernel, rfl⟩
theorem d_X7_setValue_14 : dec 1 cX7_setValue 14 .bastore 15 := ⟨by decide +kernel, rfl⟩
theorem d_X7_setValue_15 : decAL cX7_setValue 15 0 16 := Or.inr ⟨0, rfl, by decide +kernel, rfl⟩
theorem d_X7_setValue_16 : dec 3 cX7_setValue 16 (.getfield 26) 19 := ⟨by decide +kernel, rfl⟩
theorem d_X7_setValue_19 : decIL cX7_setValue 19 1 20 := Or.inr ⟨1, rfl, by decide +kernel, rfl⟩
theorem d_X7_setValue_20 : decIL cX7_setValue 20 2 21 := Or.inr ⟨2, rfl, by decide +kernel, rfl⟩
theorem d_X7_setValue_21 : dec 1 cX7_setValue 21 .iastore 22 := ⟨by decide +kernel, rfl⟩
theorem d_X7_setValue_22 : dec 1 cX7_setValue 22 .return_ 23 := ⟨by decide +kernel, rfl⟩
def f_X7_setValue (F : Nat)  (v0 : Nat) (v1 : Int32) (v2 : Int32) (n : Nat) (G : GH) : Option (Nat × GH) :=
  cvP G v0 7 (f_X7_holds F v0 v1 G) (fun (x1 : Int32) =>
  if x1 = 0 then
  (some (n, G))
  else (Option.bind (gR G v0 7 3) (fun (x2 : Nat) =>
  Option.bind (aS G x2 2 v1 (vp_nar .boolean (1 : Int32))) (fun (G3 : GH) =>
  Option.bind (gR G3 v0 7 4) (fun (x4 : Nat) =>
  Option.bind (aS G3 x4 0 v1 v2) (fun (G5 : GH) =>
  some (n, G5)))))))
set_option maxRecDepth 100000 in
set_option maxHeartbeats 4000000 in
theorem s_X7_setValue {E : GE} {F : Nat}  {v0 : Nat} {v1 : Int32} {v2 : Int32} {n : Nat} {G : GH} {z : Nat × GH}  (h : f_X7_setValue F  v0 v1 v2 n G = some z) : GM E yX7_setValue cX7_setValue 3 none 1 21 0 0 [.ref v0, .int v1, .int v2] n G (none, z.1, z.2) := by
  refine GM.of (by decide) (Nat.le_of_ble_eq_true rfl) ?_
  show WG E RX7 "setValue" cX7_setValue 3 none 1 21 0 0 0 [(0, .ref v0), (1, .int v1), (2, .int v2)] [] n G (g_O E (none, z.1, z.2))
  unfold f_X7_setValue at h
  refine r_aload d_X7_setValue_0 rfl ?_
  refine r_iload d_X7_setValue_1 rfl ?_
  refine r_invP [_] h (fun _ hq => s_X7_holds hq) d_X7_setValue_2 pl_X7_35 py_X7_holds pi_X7_holds rfl rfl rfl (fun x1 h => ?_)
  refine r_if_eq h d_X7_setValue_5 (fun h => ?_) (fun h => ?_)
  · exact r_vret h d_X7_setValue_22
  · refine r_aload d_X7_setValue_8 rfl ?_
    refine r_getR h d_X7_setValue_9 pf_X7_22 (fun x2 h => ?_)
    refine r_iload d_X7_setValue_12 rfl ?_
    refine r_iconst d_X7_setValue_13 ic_1 ?_
    refine r_zast h d_X7_setValue_14 (fun G3 h => ?_)
    refine r_aload d_X7_setValue_15 rfl ?_
    refine r_getR h d_X7_setValue_16 pf_X7_26 (fun x4 h => ?_)
    refine r_iload d_X7_setValue_19 rfl ?_
    refine r_iload d_X7_setValue_20 rfl ?_
    refine r_iast h d_X7_setValue_21 (fun G5 h => ?_)
    exact r_vret h d_X7_setValue_22
/-! X7_countOwned -/
theorem py_X7_ownedAt : pY yX7_ownedAt cX7_ownedAt 3 (some .int) 2 := ⟨g_in 833 (by decide +kernel) rfl, g_in 99 (by decide +kernel) rfl, by decide, by decide, by decide +kernel⟩
theorem pi_X7_ownedAt : pI yX7_ownedAt 7 := ⟨g_in 831 (by decide +kernel) rfl, g_in 832 (by decide +kernel) rfl, (RX7, TX7, 7), rfl, rfl⟩
theorem pl_X7_39 : pL RX7 39 yX7_ownedAt := Or.inl (g_in 1137 (by decide +kernel) rfl)
theorem d_X7_countOwned_0 : dec 1 cX7_countOwned 0 (.iconst 0) 1 := ⟨by decide +kernel, rfl⟩
theorem d_X7_countOwned_1 : decIS cX7_countOwned 1 2 2 := Or.inr ⟨2, rfl, by decide +kernel, rfl⟩
theorem d_X7_countOwned_2 : dec 1 cX7_countOwned 2 (.iconst 0) 3 := ⟨by decide +kernel, rfl⟩
theorem d_X7_countOwned_3 : decIS cX7_countOwned 3 3 4 := Or.inr ⟨3, rfl, by decide +kernel, rfl⟩
theorem d_X7_countOwned_4 : decIL cX7_countOwned 4 3 5 := Or.inr ⟨3, rfl, by decide +kernel, rfl⟩
theorem d_X7_countOwned_5 : dec 1 cX7_countOwned 5 (.iconst 4) 6 := ⟨by decide +kernel, rfl⟩
theorem d_X7_countOwned_6 : decB cX7_countOwned 6 (.if_icmp .ge 22) (22) 9 28 := ⟨by decide +kernel, rfl, by decide⟩
theorem d_X7_countOwned_9 : decAL cX7_countOwned 9 0 10 := Or.inr ⟨0, rfl, by decide +kernel, rfl⟩
theorem d_X7_countOwned_10 : decIL cX7_countOwned 10 1 11 := Or.inr ⟨1, rfl, by decide +kernel, rfl⟩
theorem d_X7_countOwned_11 : decIL cX7_countOwned 11 3 12 := Or.inr ⟨3, rfl, by decide +kernel, rfl⟩
theorem d_X7_countOwned_12 : dec 3 cX7_countOwned 12 (.invokevirtual 39) 15 := ⟨by decide +kernel, rfl⟩
theorem d_X7_countOwned_15 : dec 1 cX7_countOwned 15 (.iconst (-1)) 16 := ⟨by decide +kernel, rfl⟩
theorem d_X7_countOwned_16 : decB cX7_countOwned 16 (.if_icmp .eq 6) (6) 19 22 := ⟨by decide +kernel, rfl, by decide⟩
theorem d_X7_countOwned_19 : dec 3 cX7_countOwned 19 (.iinc 2 1) 22 := ⟨by decide +kernel, rfl⟩
theorem d_X7_countOwned_22 : dec 3 cX7_countOwned 22 (.iinc 3 1) 25 := ⟨by decide +kernel, rfl⟩
theorem d_X7_countOwned_25 : decB cX7_countOwned 25 (.goto (-21)) (-21) 28 4 := ⟨by decide +kernel, rfl, by decide⟩
theorem d_X7_countOwned_28 : decIL cX7_countOwned 28 2 29 := Or.inr ⟨2, rfl, by decide +kernel, rfl⟩
theorem d_X7_countOwned_29 : dec 1 cX7_countOwned 29 .ireturn 30 := ⟨by decide +kernel, rfl⟩
def b_X7_countOwned_4 (F : Nat)   (v0 : Nat) (v1 : Int32) (G : GH) (rec4 : Int32 → Int32 → Option (Int32)) : Int32 → Int32 → Option (Int32) := fun v2 v3 =>
  if (4 : Int32) ≤ v3 then
  (some v2)
  else (cvP G v0 7 (f_X7_ownedAt F v0 v1 v3 G) (fun (x1 : Int32) =>
  if x1 = (-1 : Int32) then
  (rec4 v2 (v3 + 1))
  else (rec4 (v2 + 1) (v3 + 1))))
def f_X7_countOwned (F : Nat)  (v0 : Nat) (v1 : Int32) (G : GH) : Option (Int32) :=
  fixN (fun _ _ => none) (b_X7_countOwned_4 F   v0 v1 G) F (0 : Int32) (0 : Int32)
set_option maxRecDepth 100000 in
set_option maxHeartbeats 4000000 in
theorem l_X7_countOwned_4 {E : GE} {F : Nat}   {v0 : Nat} {v1 : Int32} {n : Nat} {G : GH}   : ∀ (K : Nat) (v2 : Int32) (v3 : Int32) (z : Int32), fixN ((fun _ _ => none) : Int32 → Int32 → Option (Int32)) (b_X7_countOwned_4 F   v0 v1 G) K v2 v3 = some z → WG E RX7 "countOwned" cX7_countOwned 4 (some .int) 2 43 0 0 4 [(0, .ref v0), (1, .int v1), (2, .int v2), (3, .int v3)] [] n G (g_O E (some (.int z), n, G)) := by
  intro K
  refine fixN_ind (P := fun (r : Int32 → Int32 → Option (Int32)) => ∀ (v2 : Int32) (v3 : Int32) (z : Int32), r v2 v3 = some z → WG E RX7 "countOwned" cX7_countOwned 4 (some .int) 2 43 0 0 4 [(0, .ref v0), (1, .int v1), (2, .int v2), (3, .int v3)] [] n G (g_O E (some (.int z), n, G))) ?_ ?_ K
  · intro v2 v3 z h
    cases h
  · intro rec4 hrec4 v2 v3 z h
    unfold b_X7_countOwned_4 at h
    refine r_iload d_X7_countOwned_4 rfl ?_
    refine r_iconst d_X7_countOwned_5 ic_4 ?_
    refine r_icmp_ge h d_X7_countOwned_6 (fun h => ?_) (fun h => ?_)
    · refine r_iload d_X7_countOwned_28 rfl ?_
      exact r_pret h d_X7_countOwned_29
    · refine r_aload d_X7_countOwned_9 rfl ?_
      refine r_iload d_X7_countOwned_10 rfl ?_
      refine r_iload d_X7_countOwned_11 rfl ?_
      refine r_invP [_, _] h (fun _ hq => s_X7_ownedAt hq) d_X7_countOwned_12 pl_X7_39 py_X7_ownedAt pi_X7_ownedAt rfl rfl rfl (fun x1 h => ?_)
      refine r_iconst d_X7_countOwned_15 ic_m1 ?_
      refine r_icmp_eq h d_X7_countOwned_16 (fun h => ?_) (fun h => ?_)
      · refine r_iinc d_X7_countOwned_22 rfl (ii_1 _) rfl rfl ?_
        refine r_goto d_X7_countOwned_25 ?_
        refine r_lv [(0, .ref v0), (1, .int v1), (2, .int v2), (3, .int (v3 + 1))] (g_allc rfl (g_allc rfl (g_allc rfl (g_allc rfl g_alln)))) ?_
        exact hrec4 _ _ _ h
      · refine r_iinc d_X7_countOwned_19 rfl (ii_1 _) rfl rfl ?_
        refine r_iinc d_X7_countOwned_22 rfl (ii_1 _) rfl rfl ?_
        refine r_goto d_X7_countOwned_25 ?_
        refine r_lv [(0, .ref v0), (1, .int v1), (2, .int (v2 + 1)), (3, .int (v3 + 1))] (g_allc rfl (g_allc rfl (g_allc rfl (g_allc rfl g_alln)))) ?_
        exact hrec4 _ _ _ h
set_option maxRecDepth 100000 in
set_option maxHeartbeats 4000000 in
theorem s_X7_countOwned {E : GE} {F : Nat}  {v0 : Nat} {v1 : Int32} {n : Nat} {G : GH} {z : Int32}  (h : f_X7_countOwned F  v0 v1 G = some z) : GM E yX7_countOwned cX7_countOwned 4 (some .int) 2 43 0 0 [.ref v0, .int v1] n G (some (.int z), n, G) := by
  refine GM.of (by decide) (Nat.le_of_ble_eq_true rfl) ?_
  show WG E RX7 "countOwned" cX7_countOwned 4 (some .int) 2 43 0 0 0 [(0, .ref v0), (1, .int v1)] [] n G (g_O E (some (.int z), n, G))
  unfold f_X7_countOwned at h
  refine r_iconst d_X7_countOwned_0 ic_0 ?_
  refine r_istore d_X7_countOwned_1 rfl rfl ?_
  refine r_iconst d_X7_countOwned_2 ic_0 ?_
  refine r_istore d_X7_countOwned_3 rfl rfl ?_
  refine r_lv [(0, .ref v0), (1, .int v1), (2, .int (0 : Int32)), (3, .int (0 : Int32))] (g_allc rfl (g_allc rfl (g_allc rfl (g_allc rfl g_alln)))) ?_
  exact l_X7_countOwned_4   _ _ _ _ h
/-! X7_countValued -/
theorem d_X7_countValued_0 : dec 1 cX7_countValued 0 (.iconst 0) 1 := ⟨by decide +kernel, rfl⟩
theorem d_X7_countValued_1 : decIS cX7_countValued 1 1 2 := Or.inr ⟨1, rfl, by decide +kernel, rfl⟩
theorem d_X7_countValued_2 : dec 1 cX7_countValued 2 (.iconst 0) 3 := ⟨by decide +kernel, rfl⟩
theorem d_X7_countValued_3 : decIS cX7_countValued 3 2 4 := Or.inr ⟨2, rfl, by decide +kernel, rfl⟩
theorem d_X7_countValued_4 : decIL cX7_countValued 4 2 5 := Or.inr ⟨2, rfl, by decide +kernel, rfl⟩
theorem d_X7_countValued_5 : decAL cX7_countValued 5 0 6 := Or.inr ⟨0, rfl, by decide +kernel, rfl⟩
theorem d_X7_countValued_6 : dec 3 cX7_countValued 6 (.getfield 9) 9 := ⟨by decide +kernel, rfl⟩
theorem d_X7_countValued_9 : decB cX7_countValued 9 (.if_icmp .ge 21) (21) 12 30 := ⟨by decide +kernel, rfl, by decide⟩
theorem d_X7_countValued_12 : decAL cX7_countValued 12 0 13 := Or.inr ⟨0, rfl, by decide +kernel, rfl⟩
theorem d_X7_countValued_13 : dec 3 cX7_countValued 13 (.getfield 22) 16 := ⟨by decide +kernel, rfl⟩
theorem d_X7_countValued_16 : decIL cX7_countValued 16 2 17 := Or.inr ⟨2, rfl, by decide +kernel, rfl⟩
theorem d_X7_countValued_17 : dec 1 cX7_countValued 17 .baload 18 := ⟨by decide +kernel, rfl⟩
theorem d_X7_countValued_18 : decB cX7_countValued 18 (.ifCond .eq 6) (6) 21 24 := ⟨by decide +kernel, rfl, by decide⟩
theorem d_X7_countValued_21 : dec 3 cX7_countValued 21 (.iinc 1 1) 24 := ⟨by decide +kernel, rfl⟩
theorem d_X7_countValued_24 : dec 3 cX7_countValued 24 (.iinc 2 1) 27 := ⟨by decide +kernel, rfl⟩
theorem d_X7_countValued_27 : decB cX7_countValued 27 (.goto (-23)) (-23) 30 4 := ⟨by decide +kernel, rfl, by decide⟩
theorem d_X7_countValued_30 : decIL cX7_countValued 30 1 31 := Or.inr ⟨1, rfl, by decide +kernel, rfl⟩
theorem d_X7_countValued_31 : dec 1 cX7_countValued 31 .ireturn 32 := ⟨by decide +kernel, rfl⟩
def b_X7_countValued_4 (F : Nat)   (v0 : Nat) (G : GH) (rec4 : Int32 → Int32 → Option (Int32)) : Int32 → Int32 → Option (Int32) := fun v1 v2 =>
  Option.bind (gI G v0 7 0) (fun (x1 : Int32) =>
  if x1 ≤ v2 then
  (some v1)
  else (Option.bind (gR G v0 7 3) (fun (x2 : Nat) =>
  Option.bind (aI G x2 2 v2) (fun (x3 : Int32) =>
  if x3 = 0 then
  (rec4 v1 (v2 + 1))
  else (rec4 (v1 + 1) (v2 + 1))))))
def f_X7_countValued (F : Nat)  (v0 : Nat) (G : GH) : Option (Int32) :=
  fixN (fun _ _ => none) (b_X7_countValued_4 F   v0 G) F (0 : Int32) (0 : Int32)
set_option maxRecDepth 100000 in
set_option maxHeartbeats 4000000 in
theorem l_X7_countValued_4 {E : GE} {F : Nat}   {v0 : Nat} {n : Nat} {G : GH}   : ∀ (K : Nat) (v1 : Int32) (v2 : Int32) (z : Int32), fixN ((fun _ _ => none) : Int32 → Int32 → Option (Int32)) (b_X7_countValued_4 F   v0 G) K v1 v2 = some z → WG E RX7 "countValued" cX7_countValued 3 (some .int) 0 0 0 0 4 [(0, .ref v0), (1, .int v1), (2, .int v2)] [] n G (g_O E (some (.int z), n, G)) := by
  intro K
  refine fixN_ind (P := fun (r : Int32 → Int32 → Option (Int32)) => ∀ (v1 : Int32) (v2 : Int32) (z : Int32), r v1 v2 = some z → WG E RX7 "countValued" cX7_countValued 3 (some .int) 0 0 0 0 4 [(0, .ref v0), (1, .int v1), (2, .int v2)] [] n G (g_O E (some (.int z), n, G))) ?_ ?_ K
  · intro v1 v2 z h
    cases h
  · intro rec4 hrec4 v1 v2 z h
    unfold b_X7_countValued_4 at h
    refine r_iload d_X7_countValued_4 rfl ?_
    refine r_aload d_X7_countValued_5 rfl ?_
    refine r_getI h d_X7_countValued_6 pf_X7_9 (fun x1 h => ?_)
    refine r_icmp_ge h d_X7_countValued_9 (fun h => ?_) (fun h => ?_)
    · refine r_iload d_X7_countValued_30 rfl ?_
      exact r_pret h d_X7_countValued_31
    · refine r_aload d_X7_countValued_12 rfl ?_
      refine r_getR h d_X7_countValued_13 pf_X7_22 (fun x2 h => ?_)
      refine r_iload d_X7_countValued_16 rfl ?_
      refine r_zald h d_X7_countValued_17 (fun x3 h => ?_)
      refine r_if_eq h d_X7_countValued_18 (fun h => ?_) (fun h => ?_)
      · refine r_iinc d_X7_countValued_24 rfl (ii_1 _) rfl rfl ?_
        refine r_goto d_X7_countValued_27 ?_
        refine r_lv [(0, .ref v0), (1, .int v1), (2, .int (v2 + 1))] (g_allc rfl (g_allc rfl (g_allc rfl g_alln))) ?_
        exact hrec4 _ _ _ h
      · refine r_iinc d_X7_countValued_21 rfl (ii_1 _) rfl rfl ?_
        refine r_iinc d_X7_countValued_24 rfl (ii_1 _) rfl rfl ?_
        refine r_goto d_X7_countValued_27 ?_
        refine r_lv [(0, .ref v0), (1, .int (v1 + 1)), (2, .int (v2 + 1))] (g_allc rfl (g_allc rfl (g_allc rfl g_alln))) ?_
        exact hrec4 _ _ _ h
set_option maxRecDepth 100000 in
set_option maxHeartbeats 4000000 in
theorem s_X7_countValued {E : GE} {F : Nat}  {v0 : Nat} {n : Nat} {G : GH} {z : Int32}  (h : f_X7_countValued F  v0 G = some z) : GM E yX7_countValued cX7_countValued 3 (some .int) 0 0 0 0 [.ref v0] n G (some (.int z), n, G) := by
  refine GM.of (by decide) (Nat.le_of_ble_eq_true rfl) ?_
  show WG E RX7 "countValued" cX7_countValued 3 (some .int) 0 0 0 0 0 [(0, .ref v0)] [] n G (g_O E (some (.int z), n, G))
  unfold f_X7_countValued at h
  refine r_iconst d_X7_countValued_0 ic_0 ?_
  refine r_istore d_X7_countValued_1 rfl rfl ?_
  refine r_iconst d_X7_countValued_2 ic_0 ?_
  refine r_istore d_X7_countValued_3 rfl rfl ?_
  refine r_lv [(0, .ref v0), (1, .int (0 : Int32)), (2, .int (0 : Int32))] (g_allc rfl (g_allc rfl (g_allc rfl g_alln))) ?_
  exact l_X7_countValued_4   _ _ _ _ h
/-! X7_countOf -/
theorem d_X7_countOf_0 : dec 1 cX7_countOf 0 (.iconst 0) 1 := ⟨by decide +kernel, rfl⟩
theorem d_X7_countOf_1 : decIS cX7_countOf 1 2 2 := Or.inr ⟨2, rfl, by decide +kernel, rfl⟩
theorem d_X7_countOf_2 : dec 1 cX7_countOf 2 (.iconst 0) 3 := ⟨by decide +kernel, rfl⟩
theorem d_X7_countOf_3 : decIS cX7_countOf 3 3 4 := Or.inr ⟨3, rfl, by decide +kernel, rfl⟩
theorem d_X7_countOf_4 : decIL cX7_countOf 4 3 5 := Or.inr ⟨3, rfl, by decide +kernel, rfl⟩
theorem d_X7_countOf_5 : decAL cX7_countOf 5 0 6 := Or.inr ⟨0, rfl, by decide +kernel, rfl⟩
theorem d_X7_countOf_6 : dec 3 cX7_countOf 6 (.getfield 9) 9 := ⟨by decide +kernel, rfl⟩
theorem d_X7_countOf_9 : decB cX7_countOf 9 (.if_icmp .ge 22) (22) 12 31 := ⟨by decide +kernel, rfl, by decide⟩
theorem d_X7_countOf_12 : decAL cX7_countOf 12 0 13 := Or.inr ⟨0, rfl, by decide +kernel, rfl⟩
theorem d_X7_countOf_13 : dec 3 cX7_countOf 13 (.getfield 15) 16 := ⟨by decide +kernel, rfl⟩
theorem d_X7_countOf_16 : decIL cX7_countOf 16 3 17 := Or.inr ⟨3, rfl, by decide +kernel, rfl⟩
theorem d_X7_countOf_17 : dec 1 cX7_countOf 17 .iaload 18 := ⟨by decide +kernel, rfl⟩
theorem d_X7_countOf_18 : decIL cX7_countOf 18 1 19 := Or.inr ⟨1, rfl, by decide +kernel, rfl⟩
theorem d_X7_countOf_19 : decB cX7_countOf 19 (.if_icmp .ne 6) (6) 22 25 := ⟨by decide +kernel, rfl, by decide⟩
theorem d_X7_countOf_22 : dec 3 cX7_countOf 22 (.iinc 2 1) 25 := ⟨by decide +kernel, rfl⟩
theorem d_X7_countOf_25 : dec 3 cX7_countOf 25 (.iinc 3 1) 28 := ⟨by decide +kernel, rfl⟩
theorem d_X7_countOf_28 : decB cX7_countOf 28 (.goto (-24)) (-24) 31 4 := ⟨by decide +kernel, rfl, by decide⟩
theorem d_X7_countOf_31 : decIL cX7_countOf 31 2 32 := Or.inr ⟨2, rfl, by decide +kernel, rfl⟩
theorem d_X7_countOf_32 : dec 1 cX7_countOf 32 .ireturn 33 := ⟨by decide +kernel, rfl⟩
def b_X7_countOf_4 (F : Nat)   (v0 : Nat) (v1 : Int32) (G : GH) (rec4 : Int32 → Int32 → Option (Int32)) : Int32 → Int32 → Option (Int32) := fun v2 v3 =>
  Option.bind (gI G v0 7 0) (fun (x1 : Int32) =>
  if x1 ≤ v3 then
  (some v2)
  else (Option.bind (gR G v0 7 1) (fun (x2 : Nat) =>
  Option.bind (aI G x2 0 v3) (fun (x3 : Int32) =>
  if x3 = v1 then
  (rec4 (v2 + 1) (v3 + 1))
  else (rec4 v2 (v3 + 1))))))
def f_X7_countOf (F : Nat)  (v0 : Nat) (v1 : Int32) (G : GH) : Option (Int32) :=
  fixN (fun _ _ => none) (b_X7_countOf_4 F   v0 v1 G) F (0 : Int32) (0 : Int32)
set_option maxRecDepth 100000 in
set_option maxHeartbeats 4000000 in
theorem l_X7_countOf_4 {E : GE} {F : Nat}   {v0 : Nat} {v1 : Int32} {n : Nat} {G : GH}   : ∀ (K : Nat) (v2 : Int32) (v3 : Int32) (z : Int32), fixN ((fun _ _ => none) : Int32 → Int32 → Option (Int32)) (b_X7_countOf_4 F   v0 v1 G) K v2 v3 = some z → WG E RX7 "countOf" cX7_countOf 4 (some .int) 0 0 0 0 4 [(0, .ref v0), (1, .int v1), (2, .int v2), (3, .int v3)] [] n G (g_O E (some (.int z), n, G)) := by
  intro K
  refine fixN_ind (P := fun (r : Int32 → Int32 → Option (Int32)) => ∀ (v2 : Int32) (v3 : Int32) (z : Int32), r v2 v3 = some z → WG E RX7 "countOf" cX7_countOf 4 (some .int) 0 0 0 0 4 [(0, .ref v0), (1, .int v1), (2, .int v2), (3, .int v3)] [] n G (g_O E (some (.int z), n, G))) ?_ ?_ K
  · intro v2 v3 z h
    cases h
  · intro rec4 hrec4 v2 v3 z h
    unfold b_X7_countOf_4 at h
    refine r_iload d_X7_countOf_4 rfl ?_
    refine r_aload d_X7_countOf_5 rfl ?_
    refine r_getI h d_X7_countOf_6 pf_X7_9 (fun x1 h => ?_)
    refine r_icmp_ge h d_X7_countOf_9 (fun h => ?_) (fun h => ?_)
    · refine r_iload d_X7_countOf_31 rfl ?_
      exact r_pret h d_X7_countOf_32
    · refine r_aload d_X7_countOf_12 rfl ?_
      refine r_getR h d_X7_countOf_13 pf_X7_15 (fun x2 h => ?_)
      refine r_iload d_X7_countOf_16 rfl ?_
      refine r_iald h d_X7_countOf_17 (fun x3 h => ?_)
      refine r_iload d_X7_countOf_18 rfl ?_
      refine r_icmp_ne h d_X7_countOf_19 (fun h => ?_) (fun h => ?_)
      · refine r_iinc d_X7_countOf_25 rfl (ii_1 _) rfl rfl ?_
        refine r_goto d_X7_countOf_28 ?_
        refine r_lv [(0, .ref v0), (1, .int v1), (2, .int v2), (3, .int (v3 + 1))] (g_allc rfl (g_allc rfl (g_allc rfl (g_allc rfl g_alln)))) ?_
        exact hrec4 _ _ _ h
      · refine r_iinc d_X7_countOf_22 rfl (ii_1 _) rfl rfl ?_
        refine r_iinc d_X7_countOf_25 rfl (ii_1 _) rfl rfl ?_
        refine r_goto d_X7_countOf_28 ?_
        refine r_lv [(0, .ref v0), (1, .int v1), (2, .int (v2 + 1)), (3, .int (v3 + 1))] (g_allc rfl (g_allc rfl (g_allc rfl (g_allc rfl g_alln)))) ?_
        exact hrec4 _ _ _ h
set_option maxRecDepth 100000 in
set_option maxHeartbeats 4000000 in
theorem s_X7_countOf {E : GE} {F : Nat}  {v0 : Nat} {v1 : Int32} {n : Nat} {G : GH} {z : Int32}  (h : f_X7_countOf F  v0 v1 G = some z) : GM E yX7_countOf cX7_countOf 4 (some .int) 0 0 0 0 [.ref v0, .int v1] n G (some (.int z), n, G) := by
  refine GM.of (by decide) (Nat.le_of_ble_eq_true rfl) ?_
  show WG E RX7 "countOf" cX7_countOf 4 (some .int) 0 0 0 0 0 [(0, .ref v0), (1, .int v1)] [] n G (g_O E (some (.int z), n, G))
  unfold f_X7_countOf at h
  refine r_iconst d_X7_countOf_0 ic_0 ?_
  refine r_istore d_X7_countOf_1 rfl rfl ?_
  refine r_iconst d_X7_countOf_2 ic_0 ?_
  refine r_istore d_X7_countOf_3 rfl rfl ?_
  refine r_lv [(0, .ref v0), (1, .int v1), (2, .int (0 : Int32)), (3, .int (0 : Int32))] (g_allc rfl (g_allc rfl (g_allc rfl (g_allc rfl g_alln)))) ?_
  exact l_X7_countOf_4   _ _ _ _ h
/-! X7_move -/
theorem pf_X7_32 : pF RX7 32 7 6 := ⟨RX7, TX7, 7, rfl, by decide, rfl, Or.inl (g_in 261 (by decide +kernel) rfl)⟩
theorem d_X7_move_0 : decAL cX7_move 0 0 1 := Or.inr ⟨0, rfl, by decide +kernel, rfl⟩
theorem d_X7_move_1 : dec 3 cX7_move 1 (.getfield 15) 4 := ⟨by decide +kernel, rfl⟩
theorem d_X7_move_4 : decIL cX7_move 4 2 5 := Or.inr ⟨2, rfl, by decide +kernel, rfl⟩
theorem d_X7_move_5 : decAL cX7_move 5 0 6 := Or.inr ⟨0, rfl, by decide +kernel, rfl⟩
theorem d_X7_move_6 : dec 3 cX7_move 6 (.getfield 15) 9 := ⟨by decide +kernel, rfl⟩
theorem d_X7_move_9 : decIL cX7_move 9 1 10 := Or.inr ⟨1, rfl, by decide +kernel, rfl⟩
theorem d_X7_move_10 : dec 1 cX7_move 10 .iaload 11 := ⟨by decide +kernel, rfl⟩
theorem d_X7_move_11 : dec 1 cX7_move 11 .iastore 12 := ⟨by decide +kernel, rfl⟩
theorem d_X7_move_12 : decAL cX7_move 12 0 13 := Or.inr ⟨0, rfl, by decide +kernel, rfl⟩
theorem d_X7_move_13 : dec 3 cX7_move 13 (.getfield 19) 16 := ⟨by decide +kernel, rfl⟩
theorem d_X7_move_16 : decIL cX7_move 16 2 17 := Or.inr ⟨2, rfl, by decide +kernel, rfl⟩
theorem d_X7_move_17 : decAL cX7_move 17 0 18 := Or.inr ⟨0, rfl, by decide +kernel, rfl⟩
theorem d_X7_move_18 : dec 3 cX7_move 18 (.getfield 19) 21 := ⟨by decide +kernel, rfl⟩
theorem d_X7_move_21 : decIL cX7_move 21 1 22 := Or.inr ⟨1, rfl, by decide +kernel, rfl⟩
theorem d_X7_move_22 : dec 1 cX7_move 22 .iaload 23 := ⟨by decide +kernel, rfl⟩
theorem d_X7_move_23 : dec 1 cX7_move 23 .iastore 24 := ⟨by decide +kernel, rfl⟩
theorem d_X7_move_24 : decAL cX7_move 24 0 25 := Or.inr ⟨0, rfl, by decide +kernel, rfl⟩
theorem d_X7_move_25 : dec 3 cX7_move 25 (.getfield 22) 28 := ⟨by decide +kernel, rfl⟩
theorem d_X7_move_28 : decIL cX7_move 28 2 29 := Or.inr ⟨2, rfl, by decide +kernel, rfl⟩
theorem d_X7_move_29 : decAL cX7_move 29 0 30 := Or.inr ⟨0, rfl, by decide +kernel, rfl⟩
theorem d_X7_move_30 : dec 3 cX7_move 30 (.getfield 22) 33 := ⟨by decide +kernel, rfl⟩
theorem d_X7_move_33 : decIL cX7_move 33 1 34 := Or.inr ⟨1, rfl, by decide +kernel, rfl⟩
theorem d_X7_move_34 : dec 1 cX7_move 34 .baload 35 := ⟨by decide +kernel, rfl⟩
theorem d_X7_move_35 : dec 1 cX7_move 35 .bastore 36 := ⟨by decide +kernel, rfl⟩
theorem d_X7_move_36 : decAL cX7_move 36 0 37 := Or.inr ⟨0, rfl, by decide +kernel, rfl⟩
theorem d_X7_move_37 : dec 3 cX7_move 37 (.getfield 26) 40 := ⟨by decide +kernel, rfl⟩
theorem d_X7_move_40 : decIL cX7_move 40 2 41 := Or.inr ⟨2, rfl, by decide +kernel, rfl⟩
theorem d_X7_move_41 : decAL cX7_move 41 0 42 := Or.inr ⟨0, rfl, by decide +kernel, rfl⟩
theorem d_X7_move_42 : dec 3 cX7_move 42 (.getfield 26) 45 := ⟨by decide +kernel, rfl⟩
theorem d_X7_move_45 : decIL cX7_move 45 1 46 := Or.inr ⟨1, rfl, by decide +kernel, rfl⟩
theorem d_X7_move_46 : dec 1 cX7_move 46 .iaload 47 := ⟨by decide +kernel, rfl⟩
theorem d_X7_move_47 : dec 1 cX7_move 47 .iastore 48 := ⟨by decide +kernel, rfl⟩
theorem d_X7_move_48 : dec 1 cX7_move 48 (.iconst 0) 49 := ⟨by decide +kernel, rfl⟩
theorem d_X7_move_49 : decIS cX7_move 49 3 50 := Or.inr ⟨3, rfl, by decide +kernel, rfl⟩
theorem d_X7_move_50 : decIL cX7_move 50 3 51 := Or.inr ⟨3, rfl, by decide +kernel, rfl⟩
theorem d_X7_move_51 : dec 1 cX7_move 51 (.iconst 4) 52 := ⟨by decide +kernel, rfl⟩
theorem d_X7_move_52 : decB cX7_move 52 (.if_icmp .ge 51) (51) 55 103 := ⟨by decide +kernel, rfl, by decide⟩
theorem d_X7_move_55 : decAL cX7_move 55 0 56 := Or.inr ⟨0, rfl, by decide +kernel, rfl⟩
theorem d_X7_move_56 : dec 3 cX7_move 56 (.getfield 29) 59 := ⟨by decide +kernel, rfl⟩
theorem d_X7_move_59 : decIL cX7_move 59 1 60 := Or.inr ⟨1, rfl, by decide +kernel, rfl⟩
theorem d_X7_move_60 : dec 1 cX7_move 60 (.iconst 4) 61 := ⟨by decide +kernel, rfl⟩
theorem d_X7_move_61 : dec 1 cX7_move 61 .imul 62 := ⟨by decide +kernel, rfl⟩
theorem d_X7_move_62 : decIL cX7_move 62 3 63 := Or.inr ⟨3, rfl, by decide +kernel, rfl⟩
theorem d_X7_move_63 : dec 1 cX7_move 63 .iadd 64 := ⟨by decide +kernel, rfl⟩
theorem d_X7_move_64 : dec 1 cX7_move 64 .iaload 65 := ⟨by decide +kernel, rfl⟩
theorem d_X7_move_65 : decIS cX7_move 65 4 67 := Or.inl ⟨by decide +kernel, rfl⟩
theorem d_X7_move_67 : decAL cX7_move 67 0 68 := Or.inr ⟨0, rfl, by decide +kernel, rfl⟩
theorem d_X7_move_68 : dec 3 cX7_move 68 (.getfield 29) 71 := ⟨by decide +kernel, rfl⟩
theorem d_X7_move_71 : decIL cX7_move 71 2 72 := Or.inr ⟨2, rfl, by decide +kernel, rfl⟩
theorem d_X7_move_72 : dec 1 cX7_move 72 (.iconst 4) 73 := ⟨by decide +kernel, rfl⟩
theorem d_X7_move_73 : dec 1 cX7_move 73 .imul 74 := ⟨by decide +kernel, rfl⟩
theorem d_X7_move_74 : decIL cX7_move 74 3 75 := Or.inr ⟨3, rfl, by decide +kernel, rfl⟩
theorem d_X7_move_75 : dec 1 cX7_move 75 .iadd 76 := ⟨by decide +kernel, rfl⟩
theorem d_X7_move_76 : decAL cX7_move 76 0 77 := Or.inr ⟨0, rfl, by decide +kernel, rfl⟩
theorem d_X7_move_77 : decIL cX7_move 77 4 79 := Or.inl ⟨by decide +kernel, rfl⟩
theorem d_X7_move_79 : dec 3 cX7_move 79 (.invokevirtual 35) 82 := ⟨by decide +kernel, rfl⟩
theorem d_X7_move_82 : decB cX7_move 82 (.ifCond .eq 13) (13) 85 95 := ⟨by decide +kernel, rfl, by decide⟩
theorem d_X7_move_85 : decAL cX7_move 85 0 86 := Or.inr ⟨0, rfl, by decide +kernel, rfl⟩
theorem d_X7_move_86 : dec 3 cX7_move 86 (.getfield 32) 89 := ⟨by decide +kernel, rfl⟩
theorem d_X7_move_89 : decIL cX7_move 89 4 91 := Or.inl ⟨by decide +kernel, rfl⟩
theorem d_X7_move_91 : dec 1 cX7_move 91 .iaload 92 := ⟨by decide +kernel, rfl⟩
theorem d_X7_move_92 : decB cX7_move 92 (.goto 4) (4) 95 96 := ⟨by decide +kernel, rfl, by decide⟩
theorem d_X7_move_95 : dec 1 cX7_move 95 (.iconst (-1)) 96 := ⟨by decide +kernel, rfl⟩
theorem d_X7_move_96 : dec 1 cX7_move 96 .iastore 97 := ⟨by decide +kernel, rfl⟩
theorem d_X7_move_97 : dec 3 cX7_move 97 (.iinc 3 1) 100 := ⟨by decide +kernel, rfl⟩
theorem d_X7_move_100 : decB cX7_move 100 (.goto (-50)) (-50) 103 50 := ⟨by decide +kernel, rfl, by decide⟩
theorem d_X7_move_103 : dec 1 cX7_move 103 .return_ 104 := ⟨by decide +kernel, rfl⟩
def b_X7_move_50 (F : Nat)   (v0 : Nat) (v1 : Int32) (v2 : Int32) (rec50 : Int32 → Nat → GH → Option (Nat × GH)) : Int32 → Nat → GH → Option (Nat × GH) := fun v3 n G =>
  if (4 : Int32) ≤ v3 then
  (some (n, G))
  else (Option.bind (gR G v0 7 5) (fun (x17 : Nat) =>
  Option.bind (aI G x17 0 ((v1 * (4 : Int32)) + v3)) (fun (x18 : Int32) =>
  Option.bind (gR G v0 7 5) (fun (x19 : Nat) =>
  cvP G v0 7 (f_X7_holds F v0 x18 G) (fun (x20 : Int32) =>
  if x20 = 0 then
  (Option.bind (aS G x19 0 ((v2 * (4 : Int32)) + v3) (-1 : Int32)) (fun (G21 : GH) =>
  rec50 (v3 + 1) n G21))
  else (Option.bind (gR G v0 7 6) (fun (x22 : Nat) =>
  Option.bind (aI G x22 0 x18) (fun (x23 : Int32) =>
  Option.bind (aS G x19 0 ((v2 * (4 : Int32)) + v3) x23) (fun (G24 : GH) =>
  rec50 (v3 + 1) n G24)))))))))
def f_X7_move (F : Nat)  (v0 : Nat) (v1 : Int32) (v2 : Int32) (n : Nat) (G : GH) : Option (Nat × GH) :=
  Option.bind (gR G v0 7 1) (fun (x1 : Nat) =>
  Option.bind (gR G v0 7 1) (fun (x2 : Nat) =>
  Option.bind (aI G x2 0 v1) (fun (x3 : Int32) =>
  Option.bind (aS G x1 0 v2 x3) (fun (G4 : GH) =>
  Option.bind (gR G4 v0 7 2) (fun (x5 : Nat) =>
  Option.bind (gR G4 v0 7 2) (fun (x6 : Nat) =>
  Option.bind (aI G4 x6 0 v1) (fun (x7 : Int32) =>
  Option.bind (aS G4 x5 0 v2 x7) (fun (G8 : GH) =>
  Option.bind (gR G8 v0 7 3) (fun (x9 : Nat) =>
  Option.bind (gR G8 v0 7 3) (fun (x10 : Nat) =>
  Option.bind (aI G8 x10 2 v1) (fun (x11 : Int32) =>
  Option.bind (aS G8 x9 2 v2 (vp_nar .boolean x11)) (fun (G12 : GH) =>
  Option.bind (gR G12 v0 7 4) (fun (x13 : Nat) =>
  Option.bind (gR G12 v0 7 4) (fun (x14 : Nat) =>
  Option.bind (aI G12 x14 0 v1) (fun (x15 : Int32) =>
  Option.bind (aS G12 x13 0 v2 x15) (fun (G16 : GH) =>
  fixN (fun _ _ _ => none) (b_X7_move_50 F   v0 v1 v2) F (0 : Int32) n G16))))))))))))))))
set_option maxRecDepth 100000 in
set_option maxHeartbeats 4000000 in
theorem l_X7_move_50 {E : GE} {F : Nat}   {v0 : Nat} {v1 : Int32} {v2 : Int32}   : ∀ (K : Nat) (v3 : Int32) (n : Nat) (G : GH) (z : Nat × GH), fixN ((fun _ _ _ => none) : Int32 → Nat → GH → Option (Nat × GH)) (b_X7_move_50 F   v0 v1 v2) K v3 n G = some z → WG E RX7 "move" cX7_move 5 none 1 21 0 0 50 [(0, .ref v0), (1, .int v1), (2, .int v2), (3, .int v3)] [] n G (g_O E (none, z.1, z.2)) := by
  intro K
  refine fixN_ind (P := fun (r : Int32 → Nat → GH → Option (Nat × GH)) => ∀ (v3 : Int32) (n : Nat) (G : GH) (z : Nat × GH), r v3 n G = some z → WG E RX7 "move" cX7_move 5 none 1 21 0 0 50 [(0, .ref v0), (1, .int v1), (2, .int v2), (3, .int v3)] [] n G (g_O E (none, z.1, z.2))) ?_ ?_ K
  · intro v3 n G z h
    cases h
  · intro rec50 hrec50 v3 n G z h
    unfold b_X7_move_50 at h
    refine r_iload d_X7_move_50 rfl ?_
    refine r_iconst d_X7_move_51 ic_4 ?_
    refine r_icmp_ge h d_X7_move_52 (fun h => ?_) (fun h => ?_)
    · exact r_vret h d_X7_move_103
    · refine r_aload d_X7_move_55 rfl ?_
      refine r_getR h d_X7_move_56 pf_X7_29 (fun x17 h => ?_)
      refine r_iload d_X7_move_59 rfl ?_
      refine r_iconst d_X7_move_60 ic_4 ?_
      refine r_imul d_X7_move_61 ?_
      refine r_iload d_X7_move_62 rfl ?_
      refine r_iadd d_X7_move_63 ?_
      refine r_iald h d_X7_move_64 (fun x18 h => ?_)
      refine r_istore d_X7_move_65 rfl rfl ?_
      refine r_aload d_X7_move_67 rfl ?_
      refine r_getR h d_X7_move_68 pf_X7_29 (fun x19 h => ?_)
      refine r_iload d_X7_move_71 rfl ?_
      refine r_iconst d_X7_move_72 ic_4 ?_
      refine r_imul d_X7_move_73 ?_
      refine r_iload d_X7_move_74 rfl ?_
      refine r_iadd d_X7_move_75 ?_
      refine r_aload d_X7_move_76 rfl ?_
      refine r_iload d_X7_move_77 rfl ?_
      refine r_invP [_] h (fun _ hq => s_X7_holds hq) d_X7_move_79 pl_X7_35 py_X7_holds pi_X7_holds rfl rfl rfl (fun x20 h => ?_)
      refine r_if_eq h d_X7_move_82 (fun h => ?_) (fun h => ?_)
      · refine r_iconst d_X7_move_95 ic_m1 ?_
        refine r_iast h d_X7_move_96 (fun G21 h => ?_)
        refine r_iinc d_X7_move_97 rfl (ii_1 _) rfl rfl ?_
        refine r_goto d_X7_move_100 ?_
        refine r_lv [(0, .ref v0), (1, .int v1), (2, .int v2), (3, .int (v3 + 1))] (g_allc rfl (g_allc rfl (g_allc rfl (g_allc rfl g_alln)))) ?_
        exact hrec50 _ _ _ _ h
      · refine r_aload d_X7_move_85 rfl ?_
        refine r_getR h d_X7_move_86 pf_X7_32 (fun x22 h => ?_)
        refine r_iload d_X7_move_89 rfl ?_
        refine r_iald h d_X7_move_91 (fun x23 h => ?_)
        refine r_goto d_X7_move_92 ?_
        refine r_iast h d_X7_move_96 (fun G24 h => ?_)
        refine r_iinc d_X7_move_97 rfl (ii_1 _) rfl rfl ?_
        refine r_goto d_X7_move_100 ?_
        refine r_lv [(0, .ref v0), (1, .int v1), (2, .int v2), (3, .int (v3 + 1))] (g_allc rfl (g_allc rfl (g_allc rfl (g_allc rfl g_alln)))) ?_
        exact hrec50 _ _ _ _ h
set_option maxRecDepth 100000 in
set_option maxHeartbeats 4000000 in
theorem s_X7_move {E : GE} {F : Nat}  {v0 : Nat} {v1 : Int32} {v2 : Int32} {n : Nat} {G : GH} {z : Nat × GH}  (h : f_X7_move F  v0 v1 v2 n G = some z) : GM E yX7_move cX7_move 5 none 1 21 0 0 [.ref v0, .int v1, .int v2] n G (none, z.1, z.2) := by
  refine GM.of (by decide) (Nat.le_of_ble_eq_true rfl) ?_
  show WG E RX7 "move" cX7_move 5 none 1 21 0 0 0 [(0, .ref v0), (1, .int v1), (2, .int v2)] [] n G (g_O E (none, z.1, z.2))
  unfold f_X7_move at h
  refine r_aload d_X7_move_0 rfl ?_
  refine r_getR h d_X7_move_1 pf_X7_15 (fun x1 h => ?_)
  refine r_iload d_X7_move_4 rfl ?_
  refine r_aload d_X7_move_5 rfl ?_
  refine r_getR h d_X7_move_6 pf_X7_15 (fun x2 h => ?_)
  refine r_iload d_X7_move_9 rfl ?_
  refine r_iald h d_X7_move_10 (fun x3 h => ?_)
  refine r_iast h d_X7_move_11 (fun G4 h => ?_)
  refine r_aload d_X7_move_12 rfl ?_
  refine r_getR h d_X7_move_13 pf_X7_19 (fun x5 h => ?_)
  refine r_iload d_X7_move_16 rfl ?_
  refine r_aload d_X7_move_17 rfl ?_
  refine r_getR h d_X7_move_18 pf_X7_19 (fun x6 h => ?_)
  refine r_iload d_X7_move_21 rfl ?_
  refine r_iald h d_X7_move_22 (fun x7 h => ?_)
  refine r_iast h d_X7_move_23 (fun G8 h => ?_)
  refine r_aload d_X7_move_24 rfl ?_
  refine r_getR h d_X7_move_25 pf_X7_22 (fun x9 h => ?_)
  refine r_iload d_X7_move_28 rfl ?_
  refine r_aload d_X7_move_29 rfl ?_
  refine r_getR h d_X7_move_30 pf_X7_22 (fun x10 h => ?_)
  refine r_iload d_X7_move_33 rfl ?_
  refine r_zald h d_X7_move_34 (fun x11 h => ?_)
  refine r_zast h d_X7_move_35 (fun G12 h => ?_)
  refine r_aload d_X7_move_36 rfl ?_
  refine r_getR h d_X7_move_37 pf_X7_26 (fun x13 h => ?_)
  refine r_iload d_X7_move_40 rfl ?_
  refine r_aload d_X7_move_41 rfl ?_
  refine r_getR h d_X7_move_42 pf_X7_26 (fun x14 h => ?_)
  refine r_iload d_X7_move_45 rfl ?_
  refine r_iald h d_X7_move_46 (fun x15 h => ?_)
  refine r_iast h d_X7_move_47 (fun G16 h => ?_)
  refine r_iconst d_X7_move_48 ic_0 ?_
  refine r_istore d_X7_move_49 rfl rfl ?_
  refine r_lv [(0, .ref v0), (1, .int v1), (2, .int v2), (3, .int (0 : Int32))] (g_allc rfl (g_allc rfl (g_allc rfl (g_allc rfl g_alln)))) ?_
  exact l_X7_move_50   _ _ _ _ _ h
/-! X7_removeScope -/
theorem py_X7_move : pY yX7_move cX7_move 5 none 2 := ⟨g_in 720 (by decide +kernel) rfl, g_in 99 (by decide +kernel) rfl, by decide, by decide, by decide +kernel⟩
theorem pi_X7_move : pI yX7_move 7 := ⟨g_in 719 (by decide +kernel) rfl, g_in 13 (by decide +kernel) rfl, (RX7, TX7, 7), rfl, rfl⟩
theorem pl_X7_43 : pL RX7 43 yX7_move := Or.inl (g_in 717 (by decide +kernel) rfl)
theorem d_X7_removeScope_0 : dec 1 cX7_removeScope 0 (.iconst 0) 1 := ⟨by decide +kernel, rfl⟩
theorem d_X7_removeScope_1 : decIS cX7_removeScope 1 2 2 := Or.inr ⟨2, rfl, by decide +kernel, rfl⟩
theorem d_X7_removeScope_2 : dec 1 cX7_removeScope 2 (.iconst 0) 3 := ⟨by decide +kernel, rfl⟩
theorem d_X7_removeScope_3 : decIS cX7_removeScope 3 3 4 := Or.inr ⟨3, rfl, by decide +kernel, rfl⟩
theorem d_X7_removeScope_4 : decIL cX7_removeScope 4 3 5 := Or.inr ⟨3, rfl, by decide +kernel, rfl⟩
theorem d_X7_removeScope_5 : decAL cX7_removeScope 5 0 6 := Or.inr ⟨0, rfl, by decide +kernel, rfl⟩
theorem d_X7_removeScope_6 : dec 3 cX7_removeScope 6 (.getfield 9) 9 := ⟨by decide +kernel, rfl⟩
theorem d_X7_removeScope_9 : decB cX7_removeScope 9 (.if_icmp .ge 43) (43) 12 52 := ⟨by decide +kernel, rfl, by decide⟩
theorem d_X7_removeScope_12 : decAL cX7_removeScope 12 0 13 := Or.inr ⟨0, rfl, by decide +kernel, rfl⟩
theorem d_X7_removeScope_13 : dec 3 cX7_removeScope 13 (.getfield 32) 16 := ⟨by decide +kernel, rfl⟩
theorem d_X7_removeScope_16 : decIL cX7_removeScope 16 3 17 := Or.inr ⟨3, rfl, by decide +kernel, rfl⟩
theorem d_X7_removeScope_17 : decAL cX7_removeScope 17 0 18 := Or.inr ⟨0, rfl, by decide +kernel, rfl⟩
theorem d_X7_removeScope_18 : dec 3 cX7_removeScope 18 (.getfield 19) 21 := ⟨by decide +kernel, rfl⟩
theorem d_X7_removeScope_21 : decIL cX7_removeScope 21 3 22 := Or.inr ⟨3, rfl, by decide +kernel, rfl⟩
theorem d_X7_removeScope_22 : dec 1 cX7_removeScope 22 .iaload 23 := ⟨by decide +kernel, rfl⟩
theorem d_X7_removeScope_23 : decIL cX7_removeScope 23 1 24 := Or.inr ⟨1, rfl, by decide +kernel, rfl⟩
theorem d_X7_removeScope_24 : decB cX7_removeScope 24 (.if_icmp .ne 7) (7) 27 31 := ⟨by decide +kernel, rfl, by decide⟩
theorem d_X7_removeScope_27 : dec 1 cX7_removeScope 27 (.iconst (-1)) 28 := ⟨by decide +kernel, rfl⟩
theorem d_X7_removeScope_28 : decB cX7_removeScope 28 (.goto 4) (4) 31 32 := ⟨by decide +kernel, rfl, by decide⟩
theorem d_X7_removeScope_31 : decIL cX7_removeScope 31 2 32 := Or.inr ⟨2, rfl, by decide +kernel, rfl⟩
theorem d_X7_removeScope_32 : dec 1 cX7_removeScope 32 .iastore 33 := ⟨by decide +kernel, rfl⟩
theorem d_X7_removeScope_33 : decAL cX7_removeScope 33 0 34 := Or.inr ⟨0, rfl, by decide +kernel, rfl⟩
theorem d_X7_removeScope_34 : dec 3 cX7_removeScope 34 (.getfield 19) 37 := ⟨by decide +kernel, rfl⟩
theorem d_X7_removeScope_37 : decIL cX7_removeScope 37 3 38 := Or.inr ⟨3, rfl, by decide +kernel, rfl⟩
theorem d_X7_removeScope_38 : dec 1 cX7_removeScope 38 .iaload 39 := ⟨by decide +kernel, rfl⟩
theorem d_X7_removeScope_39 : decIL cX7_removeScope 39 1 40 := Or.inr ⟨1, rfl, by decide +kernel, rfl⟩
theorem d_X7_removeScope_40 : decB cX7_removeScope 40 (.if_icmp .eq 6) (6) 43 46 := ⟨by decide +kernel, rfl, by decide⟩
theorem d_X7_removeScope_43 : dec 3 cX7_removeScope 43 (.iinc 2 1) 46 := ⟨by decide +kernel, rfl⟩
theorem d_X7_removeScope_46 : dec 3 cX7_removeScope 46 (.iinc 3 1) 49 := ⟨by decide +kernel, rfl⟩
theorem d_X7_removeScope_49 : decB cX7_removeScope 49 (.goto (-45)) (-45) 52 4 := ⟨by decide +kernel, rfl, by decide⟩
theorem d_X7_removeScope_52 : dec 1 cX7_removeScope 52 (.iconst 0) 53 := ⟨by decide +kernel, rfl⟩
theorem d_X7_removeScope_53 : decIS cX7_removeScope 53 3 54 := Or.inr ⟨3, rfl, by decide +kernel, rfl⟩
theorem d_X7_removeScope_54 : decIL cX7_removeScope 54 3 55 := Or.inr ⟨3, rfl, by decide +kernel, rfl⟩
theorem d_X7_removeScope_55 : decAL cX7_removeScope 55 0 56 := Or.inr ⟨0, rfl, by decide +kernel, rfl⟩
theorem d_X7_removeScope_56 : dec 3 cX7_removeScope 56 (.getfield 9) 59 := ⟨by decide +kernel, rfl⟩
theorem d_X7_removeScope_59 : decB cX7_removeScope 59 (.if_icmp .ge 30) (30) 62 89 := ⟨by decide +kernel, rfl, by decide⟩
theorem d_X7_removeScope_62 : decAL cX7_removeScope 62 0 63 := Or.inr ⟨0, rfl, by decide +kernel, rfl⟩
theorem d_X7_removeScope_63 : dec 3 cX7_removeScope 63 (.getfield 32) 66 := ⟨by decide +kernel, rfl⟩
theorem d_X7_removeScope_66 : decIL cX7_removeScope 66 3 67 := Or.inr ⟨3, rfl, by decide +kernel, rfl⟩
theorem d_X7_removeScope_67 : dec 1 cX7_removeScope 67 .iaload 68 := ⟨by decide +kernel, rfl⟩
theorem d_X7_removeScope_68 : dec 1 cX7_removeScope 68 (.iconst (-1)) 69 := ⟨by decide +kernel, rfl⟩
theorem d_X7_removeScope_69 : decB cX7_removeScope 69 (.if_icmp .eq 14) (14) 72 83 := ⟨by decide +kernel, rfl, by decide⟩
theorem d_X7_removeScope_72 : decAL cX7_removeScope 72 0 73 := Or.inr ⟨0, rfl, by decide +kernel, rfl⟩
theorem d_X7_removeScope_73 : decIL cX7_removeScope 73 3 74 := Or.inr ⟨3, rfl, by decide +kernel, rfl⟩
theorem d_X7_removeScope_74 : decAL cX7_removeScope 74 0 75 := Or.inr ⟨0, rfl, by decide +kernel, rfl⟩
theorem d_X7_removeScope_75 : dec 3 cX7_removeScope 75 (.getfield 32) 78 := ⟨by decide +kernel, rfl⟩
theorem d_X7_removeScope_78 : decIL cX7_removeScope 78 3 79 := Or.inr ⟨3, rfl, by decide +kernel, rfl⟩
theorem d_X7_removeScope_79 : dec 1 cX7_removeScope 79 .iaload 80 := ⟨by decide +kernel, rfl⟩
theorem d_X7_removeScope_80 : dec 3 cX7_removeScope 80 (.invokevirtual 43) 83 := ⟨by decide +kernel, rfl⟩
theorem d_X7_removeScope_83 : dec 3 cX7_removeScope 83 (.iinc 3 1) 86 := ⟨by decide +kernel, rfl⟩
theorem d_X7_removeScope_86 : decB cX7_removeScope 86 (.goto (-32)) (-32) 89 54 := ⟨by decide +kernel, rfl, by decide⟩
theorem d_X7_removeScope_89 : decAL cX7_removeScope 89 0 90 := Or.inr ⟨0, rfl, by decide +kernel, rfl⟩
theorem d_X7_removeScope_90 : decIL cX7_removeScope 90 2 91 := Or.inr ⟨2, rfl, by decide +kernel, rfl⟩
theorem d_X7_removeScope_91 : dec 3 cX7_removeScope 91 (.putfield 9) 94 := ⟨by decide +kernel, rfl⟩
theorem d_X7_removeScope_94 : dec 1 cX7_removeScope 94 .return_ 95 := ⟨by decide +kernel, rfl⟩
def b_X7_removeScope_54 (F : Nat)   (v0 : Nat) (v2 : Int32) (rec54 : Int32 → Nat → GH → Option (Nat × GH)) : Int32 → Nat → GH → Option (Nat × GH) := fun v3 n G =>
  Option.bind (gI G v0 7 0) (fun (x2 : Int32) =>
  if x2 ≤ v3 then
  (Option.bind (pV G v0 7 0 (.int v2)) (fun (G3 : GH) =>
  some (n, G3)))
  else (Option.bind (gR G v0 7 6) (fun (x4 : Nat) =>
  Option.bind (aI G x4 0 v3) (fun (x5 : Int32) =>
  if x5 = (-1 : Int32) then
  (rec54 (v3 + 1) n G)
  else (Option.bind (gR G v0 7 6) (fun (x6 : Nat) =>
  Option.bind (aI G x6 0 v3) (fun (x7 : Int32) =>
  cvU G v0 7 (f_X7_move F v0 v3 x7 n G) (fun (n8 : Nat) (G9 : GH) =>
  rec54 (v3 + 1) n8 G9))))))))
def k_X7_removeScope_52 (F : Nat)   (v0 : Nat) (v2 : Int32)  (n : Nat) (G : GH) : Option (Nat × GH) :=
  fixN (fun _ _ _ => none) (b_X7_removeScope_54 F   v0 v2) F (0 : Int32) n G
def k_X7_removeScope_32 (F : Nat)  (rec4 : Int32 → Int32 → Nat → GH → Option (Nat × GH)) (v0 : Nat) (v1 : Int32) (v2 : Int32) (v3 : Int32) (s0 : Nat) (s1 : Int32) (s2 : Int32) (n : Nat) (G : GH) : Option (Nat × GH) :=
  Option.bind (aS G s0 0 s1 s2) (fun (G13 : GH) =>
  Option.bind (gR G13 v0 7 2) (fun (x14 : Nat) =>
  Option.bind (aI G13 x14 0 v3) (fun (x15 : Int32) =>
  if x15 = v1 then
  (rec4 v2 (v3 + 1) n G13)
  else (rec4 (v2 + 1) (v3 + 1) n G13))))
def b_X7_removeScope_4 (F : Nat)   (v0 : Nat) (v1 : Int32) (rec4 : Int32 → Int32 → Nat → GH → Option (Nat × GH)) : Int32 → Int32 → Nat → GH → Option (Nat × GH) := fun v2 v3 n G =>
  Option.bind (gI G v0 7 0) (fun (x1 : Int32) =>
  if x1 ≤ v3 then
  (k_X7_removeScope_52 F   v0 v2 n G)
  else (Option.bind (gR G v0 7 6) (fun (x10 : Nat) =>
  Option.bind (gR G v0 7 2) (fun (x11 : Nat) =>
  Option.bind (aI G x11 0 v3) (fun (x12 : Int32) =>
  if x12 = v1 then
  (k_X7_removeScope_32 F  rec4 v0 v1 v2 v3 x10 v3 (-1 : Int32) n G)
  else (k_X7_removeScope_32 F  rec4 v0 v1 v2 v3 x10 v3 v2 n G))))))
def f_X7_removeScope (F : Nat)  (v0 : Nat) (v1 : Int32) (n : Nat) (G : GH) : Option (Nat × GH) :=
  fixN (fun _ _ _ _ => none) (b_X7_removeScope_4 F   v0 v1) F (0 : Int32) (0 : Int32) n G
set_option maxRecDepth 100000 in
set_option maxHeartbeats 4000000 in
theorem l_X7_removeScope_54 {E : GE} {F : Nat}   {v0 : Nat} {v2 : Int32}   : ∀ (K : Nat) (v3 : Int32) (n : Nat) (G : GH) (z : Nat × GH), fixN ((fun _ _ _ => none) : Int32 → Nat → GH → Option (Nat × GH)) (b_X7_removeScope_54 F   v0 v2) K v3 n G = some z → WG E RX7 "removeScope" cX7_removeScope 4 none 2 45 0 0 54 [(0, .ref v0), (2, .int v2), (3, .int v3)] [] n G (g_O E (none, z.1, z.2)) := by
  intro K
  refine fixN_ind (P := fun (r : Int32 → Nat → GH → Option (Nat × GH)) => ∀ (v3 : Int32) (n : Nat) (G : GH) (z : Nat × GH), r v3 n G = some z → WG E RX7 "removeScope" cX7_removeScope 4 none 2 45 0 0 54 [(0, .ref v0), (2, .int v2), (3, .int v3)] [] n G (g_O E (none, z.1, z.2))) ?_ ?_ K
  · intro v3 n G z h
    cases h
  · intro rec54 hrec54 v3 n G z h
    unfold b_X7_removeScope_54 at h
    refine r_iload d_X7_removeScope_54 rfl ?_
    refine r_aload d_X7_removeScope_55 rfl ?_
    refine r_getI h d_X7_removeScope_56 pf_X7_9 (fun x2 h => ?_)
    refine r_icmp_ge h d_X7_removeScope_59 (fun h => ?_) (fun h => ?_)
    · refine r_aload d_X7_removeScope_89 rfl ?_
      refine r_iload d_X7_removeScope_90 rfl ?_
      refine r_put h d_X7_removeScope_91 pw_X7_9 rfl rfl (fun G3 h => ?_)
      exact r_vret h d_X7_removeScope_94
    · refine r_aload d_X7_removeScope_62 rfl ?_
      refine r_getR h d_X7_removeScope_63 pf_X7_32 (fun x4 h => ?_)
      refine r_iload d_X7_removeScope_66 rfl ?_
      refine r_iald h d_X7_removeScope_67 (fun x5 h => ?_)
      refine r_iconst d_X7_removeScope_68 ic_m1 ?_
      refine r_icmp_eq h d_X7_removeScope_69 (fun h => ?_) (fun h => ?_)
      · refine r_iinc d_X7_removeScope_83 rfl (ii_1 _) rfl rfl ?_
        refine r_goto d_X7_removeScope_86 ?_
        refine r_lv [(0, .ref v0), (2, .int v2), (3, .int (v3 + 1))] (g_allc rfl (g_allc rfl (g_allc rfl g_alln))) ?_
        exact hrec54 _ _ _ _ h
      · refine r_aload d_X7_removeScope_72 rfl ?_
        refine r_iload d_X7_removeScope_73 rfl ?_
        refine r_aload d_X7_removeScope_74 rfl ?_
        refine r_getR h d_X7_removeScope_75 pf_X7_32 (fun x6 h => ?_)
        refine r_iload d_X7_removeScope_78 rfl ?_
        refine r_iald h d_X7_removeScope_79 (fun x7 h => ?_)
        refine r_invU [_, _] h (fun _ hq => s_X7_move hq) d_X7_removeScope_80 pl_X7_43 py_X7_move pi_X7_move rfl rfl rfl (fun n8 G9 h => ?_)
        refine r_iinc d_X7_removeScope_83 rfl (ii_1 _) rfl rfl ?_
        refine r_goto d_X7_removeScope_86 ?_
        refine r_lv [(0, .ref v0), (2, .int v2), (3, .int (v3 + 1))] (g_allc rfl (g_allc rfl (g_allc rfl g_alln))) ?_
        exact hrec54 _ _ _ _ h
set_option maxRecDepth 100000 in
set_option maxHeartbeats 4000000 in
theorem c_X7_removeScope_52 {E : GE} {F : Nat}   {v0 : Nat} {v2 : Int32}  {n : Nat} {G : GH} {z : Nat × GH}   (h : k_X7_removeScope_52 F   v0 v2  n G = some z) : WG E RX7 "removeScope" cX7_removeScope 4 none 2 45 0 0 52 [(0, .ref v0), (2, .int v2)] [] n G (g_O E (none, z.1, z.2)) := by
  unfold k_X7_removeScope_52 at h
  refine r_iconst d_X7_removeScope_52 ic_0 ?_
  refine r_istore d_X7_removeScope_53 rfl rfl ?_
  refine r_lv [(0, .ref v0), (2, .int v2), (3, .int (0 : Int32))] (g_allc rfl (g_allc rfl (g_allc rfl g_alln))) ?_
  exact l_X7_removeScope_54   _ _ _ _ _ h
set_option maxRecDepth 100000 in
set_option maxHeartbeats 4000000 in
theorem c_X7_removeScope_32 {E : GE} {F : Nat}  {rec4 : Int32 → Int32 → Nat → GH → Option (Nat × GH)} {v0 : Nat} {v1 : Int32} {v2 : Int32} {v3 : Int32} {s0 : Nat} {s1 : Int32} {s2 : Int32} {n : Nat} {G : GH} {z : Nat × GH}  (hrec4 : ∀ (w2 : Int32) (w3 : Int32) (n : Nat) (G : GH) (z : Nat × GH), rec4 w2 w3 n G = some z → WG E RX7 "removeScope" cX7_removeScope 4 none 2 45 0 0 4 [(0, .ref v0), (1, .int v1), (2, .int w2), (3, .int w3)] [] n G (g_O E (none, z.1, z.2))) (h : k_X7_removeScope_32 F  rec4 v0 v1 v2 v3 s0 s1 s2 n G = some z) : WG E RX7 "removeScope" cX7_removeScope 4 none 2 45 0 0 32 [(0, .ref v0), (1, .int v1), (2, .int v2), (3, .int v3)] [.int s2, .int s1, .ref s0] n G (g_O E (none, z.1, z.2)) := by
  unfold k_X7_removeScope_32 at h
  refine r_iast h d_X7_removeScope_32 (fun G13 h => ?_)
  refine r_aload d_X7_removeScope_33 rfl ?_
  refine r_getR h d_X7_removeScope_34 pf_X7_19 (fun x14 h => ?_)
  refine r_iload d_X7_removeScope_37 rfl ?_
  refine r_iald h d_X7_removeScope_38 (fun x15 h => ?_)
  refine r_iload d_X7_removeScope_39 rfl ?_
  refine r_icmp_eq h d_X7_removeScope_40 (fun h => ?_) (fun h => ?_)
  · refine r_iinc d_X7_removeScope_46 rfl (ii_1 _) rfl rfl ?_
    refine r_goto d_X7_removeScope_49 ?_
    refine r_lv [(0, .ref v0), (1, .int v1), (2, .int v2), (3, .int (v3 + 1))] (g_allc rfl (g_allc rfl (g_allc rfl (g_allc rfl g_alln)))) ?_
    exact hrec4 _ _ _ _ _ h
  · refine r_iinc d_X7_removeScope_43 rfl (ii_1 _) rfl rfl ?_
    refine r_iinc d_X7_removeScope_46 rfl (ii_1 _) rfl rfl ?_
    refine r_goto d_X7_removeScope_49 ?_
    refine r_lv [(0, .ref v0), (1, .int v1), (2, .int (v2 + 1)), (3, .int (v3 + 1))] (g_allc rfl (g_allc rfl (g_allc rfl (g_allc rfl g_alln)))) ?_
    exact hrec4 _ _ _ _ _ h
set_option maxRecDepth 100000 in
set_option maxHeartbeats 4000000 in
theorem l_X7_removeScope_4 {E : GE} {F : Nat}   {v0 : Nat} {v1 : Int32}   : ∀ (K : Nat) (v2 : Int32) (v3 : Int32) (n : Nat) (G : GH) (z : Nat × GH), fixN ((fun _ _ _ _ => none) : Int32 → Int32 → Nat → GH → Option (Nat × GH)) (b_X7_removeScope_4 F   v0 v1) K v2 v3 n G = some z → WG E RX7 "removeScope" cX7_removeScope 4 none 2 45 0 0 4 [(0, .ref v0), (1, .int v1), (2, .int v2), (3, .int v3)] [] n G (g_O E (none, z.1, z.2)) := by
  intro K
  refine fixN_ind (P := fun (r : Int32 → Int32 → Nat → GH → Option (Nat × GH)) => ∀ (v2 : Int32) (v3 : Int32) (n : Nat) (G : GH) (z : Nat × GH), r v2 v3 n G = some z → WG E RX7 "removeScope" cX7_removeScope 4 none 2 45 0 0 4 [(0, .ref v0), (1, .int v1), (2, .int v2), (3, .int v3)] [] n G (g_O E (none, z.1, z.2))) ?_ ?_ K
  · intro v2 v3 n G z h
    cases h
  · intro rec4 hrec4 v2 v3 n G z h
    unfold b_X7_removeScope_4 at h
    refine r_iload d_X7_removeScope_4 rfl ?_
    refine r_aload d_X7_removeScope_5 rfl ?_
    refine r_getI h d_X7_removeScope_6 pf_X7_9 (fun x1 h => ?_)
    refine r_icmp_ge h d_X7_removeScope_9 (fun h => ?_) (fun h => ?_)
    · refine r_lv [(0, .ref v0), (2, .int v2)] (g_allc rfl (g_allc rfl g_alln)) ?_
      exact c_X7_removeScope_52   h
    · refine r_aload d_X7_removeScope_12 rfl ?_
      refine r_getR h d_X7_removeScope_13 pf_X7_32 (fun x10 h => ?_)
      refine r_iload d_X7_removeScope_16 rfl ?_
      refine r_aload d_X7_removeScope_17 rfl ?_
      refine r_getR h d_X7_removeScope_18 pf_X7_19 (fun x11 h => ?_)
      refine r_iload d_X7_removeScope_21 rfl ?_
      refine r_iald h d_X7_removeScope_22 (fun x12 h => ?_)
      refine r_iload d_X7_removeScope_23 rfl ?_
      refine r_icmp_ne h d_X7_removeScope_24 (fun h => ?_) (fun h => ?_)
      · refine r_iload d_X7_removeScope_31 rfl ?_
        refine r_lv [(0, .ref v0), (1, .int v1), (2, .int v2), (3, .int v3)] (g_allc rfl (g_allc rfl (g_allc rfl (g_allc rfl g_alln)))) ?_
        exact c_X7_removeScope_32  hrec4 h
      · refine r_iconst d_X7_removeScope_27 ic_m1 ?_
        refine r_goto d_X7_removeScope_28 ?_
        refine r_lv [(0, .ref v0), (1, .int v1), (2, .int v2), (3, .int v3)] (g_allc rfl (g_allc rfl (g_allc rfl (g_allc rfl g_alln)))) ?_
        exact c_X7_removeScope_32  hrec4 h
set_option maxRecDepth 100000 in
set_option maxHeartbeats 4000000 in
theorem s_X7_removeScope {E : GE} {F : Nat}  {v0 : Nat} {v1 : Int32} {n : Nat} {G : GH} {z : Nat × GH}  (h : f_X7_removeScope F  v0 v1 n G = some z) : GM E yX7_removeScope cX7_removeScope 4 none 2 45 0 0 [.ref v0, .int v1] n G (none, z.1, z.2) := by
  refine GM.of (by decide) (Nat.le_of_ble_eq_true rfl) ?_
  show WG E RX7 "removeScope" cX7_removeScope 4 none 2 45 0 0 0 [(0, .ref v0), (1, .int v1)] [] n G (g_O E (none, z.1, z.2))
  unfold f_X7_removeScope at h
  refine r_iconst d_X7_removeScope_0 ic_0 ?_
  refine r_istore d_X7_removeScope_1 rfl rfl ?_
  refine r_iconst d_X7_removeScope_2 ic_0 ?_
  refine r_istore d_X7_removeScope_3 rfl rfl ?_
  refine r_lv [(0, .ref v0), (1, .int v1), (2, .int (0 : Int32)), (3, .int (0 : Int32))] (g_allc rfl (g_allc rfl (g_allc rfl (g_allc rfl g_alln)))) ?_
  exact l_X7_removeScope_4   _ _ _ _ _ _ h
/-! X7_copyFrom -/
theorem qy_l_X7_47 : Cond.methodLink RX7 47 arraycopyName ∈ g_tbl := g_in 694 (by decide +kernel) rfl
theorem qy_n : Cond.native arraycopyName ∈ g_tbl := g_in 689 (by decide +kernel) rfl
theorem qy_s : Cond.static arraycopyName ∈ g_tbl := g_in 688 (by decide +kernel) rfl
theorem qy_i : Cond.initialized "java/lang/System" ∈ g_tbl := g_in 112 (by decide +kernel) rfl
theorem d_X7_copyFrom_0 : decAL cX7_copyFrom 0 0 1 := Or.inr ⟨0, rfl, by decide +kernel, rfl⟩
theorem d_X7_copyFrom_1 : decAL cX7_copyFrom 1 1 2 := Or.inr ⟨1, rfl, by decide +kernel, rfl⟩
theorem d_X7_copyFrom_2 : dec 3 cX7_copyFrom 2 (.getfield 9) 5 := ⟨by decide +kernel, rfl⟩
theorem d_X7_copyFrom_5 : dec 3 cX7_copyFrom 5 (.putfield 9) 8 := ⟨by decide +kernel, rfl⟩
theorem d_X7_copyFrom_8 : decAL cX7_copyFrom 8 1 9 := Or.inr ⟨1, rfl, by decide +kernel, rfl⟩
theorem d_X7_copyFrom_9 : dec 3 cX7_copyFrom 9 (.getfield 15) 12 := ⟨by decide +kernel, rfl⟩
theorem d_X7_copyFrom_12 : dec 1 cX7_copyFrom 12 (.iconst 0) 13 := ⟨by decide +kernel, rfl⟩
theorem d_X7_copyFrom_13 : decAL cX7_copyFrom 13 0 14 := Or.inr ⟨0, rfl, by decide +kernel, rfl⟩
theorem d_X7_copyFrom_14 : dec 3 cX7_copyFrom 14 (.getfield 15) 17 := ⟨by decide +kernel, rfl⟩
theorem d_X7_copyFrom_17 : dec 1 cX7_copyFrom 17 (.iconst 0) 18 := ⟨by decide +kernel, rfl⟩
theorem d_X7_copyFrom_18 : decAL cX7_copyFrom 18 0 19 := Or.inr ⟨0, rfl, by decide +kernel, rfl⟩
theorem d_X7_copyFrom_19 : dec 3 cX7_copyFrom 19 (.getfield 9) 22 := ⟨by decide +kernel, rfl⟩
theorem d_X7_copyFrom_22 : dec 3 cX7_copyFrom 22 (.invokestatic 47) 25 := ⟨by decide +kernel, rfl⟩
theorem d_X7_copyFrom_25 : decAL cX7_copyFrom 25 1 26 := Or.inr ⟨1, rfl, by decide +kernel, rfl⟩
theorem d_X7_copyFrom_26 : dec 3 cX7_copyFrom 26 (.getfield 19) 29 := ⟨by decide +kernel, rfl⟩
theorem d_X7_copyFrom_29 : dec 1 cX7_copyFrom 29 (.iconst 0) 30 := ⟨by decide +kernel, rfl⟩
theorem d_X7_copyFrom_30 : decAL cX7_copyFrom 30 0 31 := Or.inr ⟨0, rfl, by decide +kernel, rfl⟩
theorem d_X7_copyFrom_31 : dec 3 cX7_copyFrom 31 (.getfield 19) 34 := ⟨by decide +kernel, rfl⟩
theorem d_X7_copyFrom_34 : dec 1 cX7_copyFrom 34 (.iconst 0) 35 := ⟨by decide +kernel, rfl⟩
theorem d_X7_copyFrom_35 : decAL cX7_copyFrom 35 0 36 := Or.inr ⟨0, rfl, by decide +kernel, rfl⟩
theorem d_X7_copyFrom_36 : dec 3 cX7_copyFrom 36 (.getfield 9) 39 := ⟨by decide +kernel, rfl⟩
theorem d_X7_copyFrom_39 : dec 3 cX7_copyFrom 39 (.invokestatic 47) 42 := ⟨by decide +kernel, rfl⟩
theorem d_X7_copyFrom_42 : decAL cX7_copyFrom 42 1 43 := Or.inr ⟨1, rfl, by decide +kernel, rfl⟩
theorem d_X7_copyFrom_43 : dec 3 cX7_copyFrom 43 (.getfield 22) 46 := ⟨by decide +kernel, rfl⟩
theorem d_X7_copyFrom_46 : dec 1 cX7_copyFrom 46 (.iconst 0) 47 := ⟨by decide +kernel, rfl⟩
theorem d_X7_copyFrom_47 : decAL cX7_copyFrom 47 0 48 := Or.inr ⟨0, rfl, by decide +kernel, rfl⟩
theorem d_X7_copyFrom_48 : dec 3 cX7_copyFrom 48 (.getfield 22) 51 := ⟨by decide +kernel, rfl⟩
theorem d_X7_copyFrom_51 : dec 1 cX7_copyFrom 51 (.iconst 0) 52 := ⟨by decide +kernel, rfl⟩
theorem d_X7_copyFrom_52 : decAL cX7_copyFrom 52 0 53 := Or.inr ⟨0, rfl, by decide +kernel, rfl⟩
theorem d_X7_copyFrom_53 : dec 3 cX7_copyFrom 53 (.getfield 9) 56 := ⟨by decide +kernel, rfl⟩
theorem d_X7_copyFrom_56 : dec 3 cX7_copyFrom 56 (.invokestatic 47) 59 := ⟨by decide +kernel, rfl⟩
theorem d_X7_copyFrom_59 : decAL cX7_copyFrom 59 1 60 := Or.inr ⟨1, rfl, by decide +kernel, rfl⟩
theorem d_X7_copyFrom_60 : dec 3 cX7_copyFrom 60 (.getfield 26) 63 := ⟨by decide +kernel, rfl⟩
theorem d_X7_copyFrom_63 : dec 1 cX7_copyFrom 63 (.iconst 0) 64 := ⟨by decide +kernel, rfl⟩
theorem d_X7_copyFrom_64 : decAL cX7_copyFrom 64 0 65 := Or.inr ⟨0, rfl, by decide +kernel, rfl⟩
theorem d_X7_copyFrom_65 : dec 3 cX7_copyFrom 65 (.getfield 26) 68 := ⟨by decide +kernel, rfl⟩
theorem d_X7_copyFrom_68 : dec 1 cX7_copyFrom 68 (.iconst 0) 69 := ⟨by decide +kernel, rfl⟩
theorem d_X7_copyFrom_69 : decAL cX7_copyFrom 69 0 70 := Or.inr ⟨0, rfl, by decide +kernel, rfl⟩
theorem d_X7_copyFrom_70 : dec 3 cX7_copyFrom 70 (.getfield 9) 73 := ⟨by decide +kernel, rfl⟩
theorem d_X7_copyFrom_73 : dec 3 cX7_copyFrom 73 (.invokestatic 47) 76 := ⟨by decide +kernel, rfl⟩
theorem d_X7_copyFrom_76 : decAL cX7_copyFrom 76 1 77 := Or.inr ⟨1, rfl, by decide +kernel, rfl⟩
theorem d_X7_copyFrom_77 : dec 3 cX7_copyFrom 77 (.getfield 29) 80 := ⟨by decide +kernel, rfl⟩
theorem d_X7_copyFrom_80 : dec 1 cX7_copyFrom 80 (.iconst 0) 81 := ⟨by decide +kernel, rfl⟩
theorem d_X7_copyFrom_81 : decAL cX7_copyFrom 81 0 82 := Or.inr ⟨0, rfl, by decide +kernel, rfl⟩
theorem d_X7_copyFrom_82 : dec 3 cX7_copyFrom 82 (.getfield 29) 85 := ⟨by decide +kernel, rfl⟩
theorem d_X7_copyFrom_85 : dec 1 cX7_copyFrom 85 (.iconst 0) 86 := ⟨by decide +kernel, rfl⟩
theorem d_X7_copyFrom_86 : decAL cX7_copyFrom 86 0 87 := Or.inr ⟨0, rfl, by decide +kernel, rfl⟩
theorem d_X7_copyFrom_87 : dec 3 cX7_copyFrom 87 (.getfield 9) 90 := ⟨by decide +kernel, rfl⟩
theorem d_X7_copyFrom_90 : dec 1 cX7_copyFrom 90 (.iconst 4) 91 := ⟨by decide +kernel, rfl⟩
theorem d_X7_copyFrom_91 : dec 1 cX7_copyFrom 91 .imul 92 := ⟨by decide +kernel, rfl⟩
theorem d_X7_copyFrom_92 : dec 3 cX7_copyFrom 92 (.invokestatic 47) 95 := ⟨by decide +kernel, rfl⟩
theorem d_X7_copyFrom_95 : dec 1 cX7_copyFrom 95 .return_ 96 := ⟨by decide +kernel, rfl⟩
def f_X7_copyFrom (F : Nat)  (v0 : Nat) (v1 : Nat) (n : Nat) (G : GH) : Option (Nat × GH) :=
  Option.bind (gI G v1 7 0) (fun (x1 : Int32) =>
  Option.bind (pV G v0 7 0 (.int x1)) (fun (G2 : GH) =>
  Option.bind (gR G2 v1 7 1) (fun (x3 : Nat) =>
  Option.bind (gR G2 v0 7 1) (fun (x4 : Nat) =>
  Option.bind (gI G2 v0 7 0) (fun (x5 : Int32) =>
  Option.bind (aC G2 0 x3 (0 : Int32) x4 (0 : Int32) x5) (fun (G6 : GH) =>
  Option.bind (gR G6 v1 7 2) (fun (x7 : Nat) =>
  Option.bind (gR G6 v0 7 2) (fun (x8 : Nat) =>
  Option.bind (gI G6 v0 7 0) (fun (x9 : Int32) =>
  Option.bind (aC G6 0 x7 (0 : Int32) x8 (0 : Int32) x9) (fun (G10 : GH) =>
  Option.bind (gR G10 v1 7 3) (fun (x11 : Nat) =>
  Option.bind (gR G10 v0 7 3) (fun (x12 : Nat) =>
  Option.bind (gI G10 v0 7 0) (fun (x13 : Int32) =>
  Option.bind (aC G10 2 x11 (0 : Int32) x12 (0 : Int32) x13) (fun (G14 : GH) =>
  Option.bind (gR G14 v1 7 4) (fun (x15 : Nat) =>
  Option.bind (gR G14 v0 7 4) (fun (x16 : Nat) =>
  Option.bind (gI G14 v0 7 0) (fun (x17 : Int32) =>
  Option.bind (aC G14 0 x15 (0 : Int32) x16 (0 : Int32) x17) (fun (G18 : GH) =>
  Option.bind (gR G18 v1 7 5) (fun (x19 : Nat) =>
  Option.bind (gR G18 v0 7 5) (fun (x20 : Nat) =>
  Option.bind (gI G18 v0 7 0) (fun (x21 : Int32) =>
  Option.bind (aC G18 0 x19 (0 : Int32) x20 (0 : Int32) (x21 * (4 : Int32))) (fun (G22 : GH) =>
  some (n, G22)))))))))))))))))))))))
set_option maxRecDepth 100000 in
set_option maxHeartbeats 4000000 in
theorem s_X7_copyFrom {E : GE} {F : Nat}  {v0 : Nat} {v1 : Nat} {n : Nat} {G : GH} {z : Nat × GH}  (h : f_X7_copyFrom F  v0 v1 n G = some z) : GM E yX7_copyFrom cX7_copyFrom 2 none 1 40 0 0 [.ref v0, .ref v1] n G (none, z.1, z.2) := by
  refine GM.of (by decide) (Nat.le_of_ble_eq_true rfl) ?_
  show WG E RX7 "copyFrom" cX7_copyFrom 2 none 1 40 0 0 0 [(0, .ref v0), (1, .ref v1)] [] n G (g_O E (none, z.1, z.2))
  unfold f_X7_copyFrom at h
  refine r_aload d_X7_copyFrom_0 rfl ?_
  refine r_aload d_X7_copyFrom_1 rfl ?_
  refine r_getI h d_X7_copyFrom_2 pf_X7_9 (fun x1 h => ?_)
  refine r_put h d_X7_copyFrom_5 pw_X7_9 rfl rfl (fun G2 h => ?_)
  refine r_aload d_X7_copyFrom_8 rfl ?_
  refine r_getR h d_X7_copyFrom_9 pf_X7_15 (fun x3 h => ?_)
  refine r_iconst d_X7_copyFrom_12 ic_0 ?_
  refine r_aload d_X7_copyFrom_13 rfl ?_
  refine r_getR h d_X7_copyFrom_14 pf_X7_15 (fun x4 h => ?_)
  refine r_iconst d_X7_copyFrom_17 ic_0 ?_
  refine r_aload d_X7_copyFrom_18 rfl ?_
  refine r_getI h d_X7_copyFrom_19 pf_X7_9 (fun x5 h => ?_)
  refine r_acopy h d_X7_copyFrom_22 qy_l_X7_47 qy_n qy_s qy_i rfl rfl (fun G6 h => ?_)
  refine r_aload d_X7_copyFrom_25 rfl ?_
  refine r_getR h d_X7_copyFrom_26 pf_X7_19 (fun x7 h => ?_)
  refine r_iconst d_X7_copyFrom_29 ic_0 ?_
  refine r_aload d_X7_copyFrom_30 rfl ?_
  refine r_getR h d_X7_copyFrom_31 pf_X7_19 (fun x8 h => ?_)
  refine r_iconst d_X7_copyFrom_34 ic_0 ?_
  refine r_aload d_X7_copyFrom_35 rfl ?_
  refine r_getI h d_X7_copyFrom_36 pf_X7_9 (fun x9 h => ?_)
  refine r_acopy h d_X7_copyFrom_39 qy_l_X7_47 qy_n qy_s qy_i rfl rfl (fun G10 h => ?_)
  refine r_aload d_X7_copyFrom_42 rfl ?_
  refine r_getR h d_X7_copyFrom_43 pf_X7_22 (fun x11 h => ?_)
  refine r_iconst d_X7_copyFrom_46 ic_0 ?_
  refine r_aload d_X7_copyFrom_47 rfl ?_
  refine r_getR h d_X7_copyFrom_48 pf_X7_22 (fun x12 h => ?_)
  refine r_iconst d_X7_copyFrom_51 ic_0 ?_
  refine r_aload d_X7_copyFrom_52 rfl ?_
  refine r_getI h d_X7_copyFrom_53 pf_X7_9 (fun x13 h => ?_)
  refine r_acopy h d_X7_copyFrom_56 qy_l_X7_47 qy_n qy_s qy_i rfl rfl (fun G14 h => ?_)
  refine r_aload d_X7_copyFrom_59 rfl ?_
  refine r_getR h d_X7_copyFrom_60 pf_X7_26 (fun x15 h => ?_)
  refine r_iconst d_X7_copyFrom_63 ic_0 ?_
  refine r_aload d_X7_copyFrom_64 rfl ?_
  refine r_getR h d_X7_copyFrom_65 pf_X7_26 (fun x16 h => ?_)
  refine r_iconst d_X7_copyFrom_68 ic_0 ?_
  refine r_aload d_X7_copyFrom_69 rfl ?_
  refine r_getI h d_X7_copyFrom_70 pf_X7_9 (fun x17 h => ?_)
  refine r_acopy h d_X7_copyFrom_73 qy_l_X7_47 qy_n qy_s qy_i rfl rfl (fun G18 h => ?_)
  refine r_aload d_X7_copyFrom_76 rfl ?_
  refine r_getR h d_X7_copyFrom_77 pf_X7_29 (fun x19 h => ?_)
  refine r_iconst d_X7_copyFrom_80 ic_0 ?_
  refine r_aload d_X7_copyFrom_81 rfl ?_
  refine r_getR h d_X7_copyFrom_82 pf_X7_29 (fun x20 h => ?_)
  refine r_iconst d_X7_copyFrom_85 ic_0 ?_
  refine r_aload d_X7_copyFrom_86 rfl ?_
  refine r_getI h d_X7_copyFrom_87 pf_X7_9 (fun x21 h => ?_)
  refine r_iconst d_X7_copyFrom_90 ic_4 ?_
  refine r_imul d_X7_copyFrom_91 ?_
  refine r_acopy h d_X7_copyFrom_92 qy_l_X7_47 qy_n qy_s qy_i rfl rfl (fun G22 h => ?_)
  exact r_vret h d_X7_copyFrom_95
