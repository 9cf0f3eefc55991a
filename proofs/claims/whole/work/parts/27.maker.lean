/-! X1_init -/
theorem qol_X1_3 : Cond.methodLink RX1 3 objectInit ∈ g_tbl := g_in 340 (by decide +kernel) rfl
theorem pw_X1_9 : pW RX1 "<init>" 9 1 2 (.array .int) := ⟨RX1, TX1, 7, rfl, by decide, rfl, Or.inl ⟨g_in 343 (by decide +kernel) rfl, Or.inr ⟨rfl, rfl, rfl⟩⟩, by decide +kernel⟩
theorem pw_X1_15 {nm : String} : pW RX1 nm 15 1 3 .int := ⟨RX1, TX1, 7, rfl, by decide, rfl, Or.inl ⟨g_in 344 (by decide +kernel) rfl, Or.inl rfl⟩, by decide +kernel⟩
theorem pw_X1_19 {nm : String} : pW RX1 nm 19 1 4 .int := ⟨RX1, TX1, 7, rfl, by decide, rfl, Or.inl ⟨g_in 345 (by decide +kernel) rfl, Or.inl rfl⟩, by decide +kernel⟩
theorem pw_X1_22 {nm : String} : pW RX1 nm 22 1 5 .long := ⟨RX1, TX1, 7, rfl, by decide, rfl, Or.inl ⟨g_in 346 (by decide +kernel) rfl, Or.inl rfl⟩, by decide +kernel⟩
theorem pw_X1_26 : pW RX1 "<init>" 26 1 6 (.array .int) := ⟨RX1, TX1, 7, rfl, by decide, rfl, Or.inl ⟨g_in 347 (by decide +kernel) rfl, Or.inr ⟨rfl, rfl, rfl⟩⟩, by decide +kernel⟩
theorem pw_X1_29 : pW RX1 "<init>" 29 1 0 (.object "PlugBoard$Board") := ⟨RX1, TX1, 7, rfl, by decide, rfl, Or.inl ⟨g_in 341 (by decide +kernel) rfl, Or.inr ⟨rfl, rfl, rfl⟩⟩, by decide +kernel⟩
theorem pf_X1_33 : pF RX1 33 0 4 := ⟨RX0, TX0, 6, rfl, by decide, rfl, Or.inr ⟨"PlugBoard", g_in 317 (by decide +kernel) rfl⟩⟩
theorem pw_X1_39 : pW RX1 "<init>" 39 1 1 (.object "PlugBoard$Things") := ⟨RX1, TX1, 7, rfl, by decide, rfl, Or.inl ⟨g_in 342 (by decide +kernel) rfl, Or.inr ⟨rfl, rfl, rfl⟩⟩, by decide +kernel⟩
theorem d_X1_init_0 : decAL cX1_init 0 0 1 := Or.inr ⟨0, rfl, by decide +kernel, rfl⟩
theorem d_X1_init_1 : dec 3 cX1_init 1 (.invokespecial 3) 4 := ⟨by decide +kernel, rfl⟩
theorem d_X1_init_4 : decAL cX1_init 4 0 5 := Or.inr ⟨0, rfl, by decide +kernel, rfl⟩
theorem d_X1_init_5 : dec 2 cX1_init 5 (.bipush 73) 7 := ⟨by decide +kernel, rfl⟩
theorem d_X1_init_7 : dec 2 cX1_init 7 (.newarray .int) 9 := ⟨by decide +kernel, rfl⟩
theorem d_X1_init_9 : dec 3 cX1_init 9 (.putfield 9) 12 := ⟨by decide +kernel, rfl⟩
theorem d_X1_init_12 : decAL cX1_init 12 0 13 := Or.inr ⟨0, rfl, by decide +kernel, rfl⟩
theorem d_X1_init_13 : dec 1 cX1_init 13 (.iconst 0) 14 := ⟨by decide +kernel, rfl⟩
theorem d_X1_init_14 : dec 3 cX1_init 14 (.putfield 15) 17 := ⟨by decide +kernel, rfl⟩
theorem d_X1_init_17 : decAL cX1_init 17 0 18 := Or.inr ⟨0, rfl, by decide +kernel, rfl⟩
theorem d_X1_init_18 : dec 1 cX1_init 18 (.iconst 0) 19 := ⟨by decide +kernel, rfl⟩
theorem d_X1_init_19 : dec 3 cX1_init 19 (.putfield 19) 22 := ⟨by decide +kernel, rfl⟩
theorem d_X1_init_22 : decAL cX1_init 22 0 23 := Or.inr ⟨0, rfl, by decide +kernel, rfl⟩
theorem d_X1_init_23 : dec 1 cX1_init 23 (.lconst 0) 24 := ⟨by decide +kernel, rfl⟩
theorem d_X1_init_24 : dec 3 cX1_init 24 (.putfield 22) 27 := ⟨by decide +kernel, rfl⟩
theorem d_X1_init_27 : decAL cX1_init 27 0 28 := Or.inr ⟨0, rfl, by decide +kernel, rfl⟩
theorem d_X1_init_28 : dec 2 cX1_init 28 (.bipush 48) 30 := ⟨by decide +kernel, rfl⟩
theorem d_X1_init_30 : dec 2 cX1_init 30 (.newarray .int) 32 := ⟨by decide +kernel, rfl⟩
theorem d_X1_init_32 : dec 3 cX1_init 32 (.putfield 26) 35 := ⟨by decide +kernel, rfl⟩
theorem d_X1_init_35 : decAL cX1_init 35 0 36 := Or.inr ⟨0, rfl, by decide +kernel, rfl⟩
theorem d_X1_init_36 : decAL cX1_init 36 1 37 := Or.inr ⟨1, rfl, by decide +kernel, rfl⟩
theorem d_X1_init_37 : dec 3 cX1_init 37 (.putfield 29) 40 := ⟨by decide +kernel, rfl⟩
theorem d_X1_init_40 : decAL cX1_init 40 0 41 := Or.inr ⟨0, rfl, by decide +kernel, rfl⟩
theorem d_X1_init_41 : decAL cX1_init 41 1 42 := Or.inr ⟨1, rfl, by decide +kernel, rfl⟩
theorem d_X1_init_42 : dec 3 cX1_init 42 (.getfield 33) 45 := ⟨by decide +kernel, rfl⟩
theorem d_X1_init_45 : dec 3 cX1_init 45 (.putfield 39) 48 := ⟨by decide +kernel, rfl⟩
theorem d_X1_init_48 : dec 1 cX1_init 48 .return_ 49 := ⟨by decide +kernel, rfl⟩
def f_X1_init (F : Nat)  (v0 : Nat) (v1 : Nat) (n : Nat) (G : GH) : Option (Nat × GH) :=
  Option.bind (pV (gset G n (.inl (0, 73, .inl (fun _ => 0)))) v0 1 2 (.ref n)) (fun (G1 : GH) =>
  Option.bind (pV G1 v0 1 3 (.int (0 : Int32))) (fun (G2 : GH) =>
  Option.bind (pV G2 v0 1 4 (.int (0 : Int32))) (fun (G3 : GH) =>
  Option.bind (pV G3 v0 1 5 (.long (0 : Int64))) (fun (G4 : GH) =>
  Option.bind (pV (gset G4 (n + 1) (.inl (0, 48, .inl (fun _ => 0)))) v0 1 6 (.ref (n + 1))) (fun (G5 : GH) =>
  Option.bind (pV G5 v0 1 0 (.ref v1)) (fun (G6 : GH) =>
  Option.bind (gR G6 v1 0 4) (fun (x7 : Nat) =>
  Option.bind (pV G6 v0 1 1 (.ref x7)) (fun (G8 : GH) =>
  some ((n + 1) + 1, G8)))))))))
set_option maxRecDepth 100000 in
set_option maxHeartbeats 4000000 in
theorem s_X1_init {E : GE} {F : Nat}  {v0 : Nat} {v1 : Nat} {n : Nat} {G : GH} {z : Nat × GH}  (h : f_X1_init F  v0 v1 n G = some z) : GM E yX1_init cX1_init 2 none 1 40 2 121 [.ref v0, .ref v1] n G (none, z.1, z.2) := by
  refine GM.of (by decide) (Nat.le_of_ble_eq_true rfl) ?_
  show WG E RX1 "<init>" cX1_init 2 none 1 40 2 121 0 [(0, .ref v0), (1, .ref v1)] [] n G (g_O E (none, z.1, z.2))
  unfold f_X1_init at h
  refine r_aload d_X1_init_0 rfl ?_
  refine r_obj d_X1_init_1 qol_X1_3 qoi qoc rfl rfl ?_
  refine r_aload d_X1_init_4 rfl ?_
  refine r_bipush d_X1_init_5 bp_73 ?_
  refine r_newaI (N := 73) d_X1_init_7 qa_int (by decide) (by decide) rfl rfl rfl ?_
  refine r_put h d_X1_init_9 pw_X1_9 rfl rfl (fun G1 h => ?_)
  refine r_aload d_X1_init_12 rfl ?_
  refine r_iconst d_X1_init_13 ic_0 ?_
  refine r_put h d_X1_init_14 pw_X1_15 rfl rfl (fun G2 h => ?_)
  refine r_aload d_X1_init_17 rfl ?_
  refine r_iconst d_X1_init_18 ic_0 ?_
  refine r_put h d_X1_init_19 pw_X1_19 rfl rfl (fun G3 h => ?_)
  refine r_aload d_X1_init_22 rfl ?_
  refine r_lconst d_X1_init_23 lc_0 ?_
  refine r_put h d_X1_init_24 pw_X1_22 rfl rfl (fun G4 h => ?_)
  refine r_aload d_X1_init_27 rfl ?_
  refine r_bipush d_X1_init_28 bp_48 ?_
  refine r_newaI (N := 48) d_X1_init_30 qa_int (by decide) (by decide) rfl rfl rfl ?_
  refine r_put h d_X1_init_32 pw_X1_26 rfl rfl (fun G5 h => ?_)
  refine r_aload d_X1_init_35 rfl ?_
  refine r_aload d_X1_init_36 rfl ?_
  refine r_put h d_X1_init_37 pw_X1_29 rfl rfl (fun G6 h => ?_)
  refine r_aload d_X1_init_40 rfl ?_
  refine r_aload d_X1_init_41 rfl ?_
  refine r_getR h d_X1_init_42 pf_X1_33 (fun x7 h => ?_)
  refine r_put h d_X1_init_45 pw_X1_39 rfl rfl (fun G8 h => ?_)
  exact r_vret h d_X1_init_48
/-! X1_begin -/
theorem d_X1_begin_0 : decAL cX1_begin 0 0 1 := Or.inr ⟨0, rfl, by decide +kernel, rfl⟩
theorem d_X1_begin_1 : dec 1 cX1_begin 1 (.iconst 0) 2 := ⟨by decide +kernel, rfl⟩
theorem d_X1_begin_2 : dec 3 cX1_begin 2 (.putfield 15) 5 := ⟨by decide +kernel, rfl⟩
theorem d_X1_begin_5 : decAL cX1_begin 5 0 6 := Or.inr ⟨0, rfl, by decide +kernel, rfl⟩
theorem d_X1_begin_6 : dec 1 cX1_begin 6 (.iconst 0) 7 := ⟨by decide +kernel, rfl⟩
theorem d_X1_begin_7 : dec 3 cX1_begin 7 (.putfield 19) 10 := ⟨by decide +kernel, rfl⟩
theorem d_X1_begin_10 : decAL cX1_begin 10 0 11 := Or.inr ⟨0, rfl, by decide +kernel, rfl⟩
theorem d_X1_begin_11 : dec 1 cX1_begin 11 (.lconst 0) 12 := ⟨by decide +kernel, rfl⟩
theorem d_X1_begin_12 : dec 3 cX1_begin 12 (.putfield 22) 15 := ⟨by decide +kernel, rfl⟩
theorem d_X1_begin_15 : dec 1 cX1_begin 15 .return_ 16 := ⟨by decide +kernel, rfl⟩
def f_X1_begin (F : Nat)  (v0 : Nat) (n : Nat) (G : GH) : Option (Nat × GH) :=
  Option.bind (pV G v0 1 3 (.int (0 : Int32))) (fun (G1 : GH) =>
  Option.bind (pV G1 v0 1 4 (.int (0 : Int32))) (fun (G2 : GH) =>
  Option.bind (pV G2 v0 1 5 (.long (0 : Int64))) (fun (G3 : GH) =>
  some (n, G3))))
set_option maxRecDepth 100000 in
set_option maxHeartbeats 4000000 in
theorem s_X1_begin {E : GE} {F : Nat}  {v0 : Nat} {n : Nat} {G : GH} {z : Nat × GH}  (h : f_X1_begin F  v0 n G = some z) : GM E yX1_begin cX1_begin 1 none 0 0 0 0 [.ref v0] n G (none, z.1, z.2) := by
  refine GM.of (by decide) (Nat.le_of_ble_eq_true rfl) ?_
  show WG E RX1 "begin" cX1_begin 1 none 0 0 0 0 0 [(0, .ref v0)] [] n G (g_O E (none, z.1, z.2))
  unfold f_X1_begin at h
  refine r_aload d_X1_begin_0 rfl ?_
  refine r_iconst d_X1_begin_1 ic_0 ?_
  refine r_put h d_X1_begin_2 pw_X1_15 rfl rfl (fun G1 h => ?_)
  refine r_aload d_X1_begin_5 rfl ?_
  refine r_iconst d_X1_begin_6 ic_0 ?_
  refine r_put h d_X1_begin_7 pw_X1_19 rfl rfl (fun G2 h => ?_)
  refine r_aload d_X1_begin_10 rfl ?_
  refine r_lconst d_X1_begin_11 lc_0 ?_
  refine r_put h d_X1_begin_12 pw_X1_22 rfl rfl (fun G3 h => ?_)
  exact r_vret h d_X1_begin_15
/-! X1_isOnWay -/
theorem pf_X1_19 : pF RX1 19 1 4 := ⟨RX1, TX1, 7, rfl, by decide, rfl, Or.inl (g_in 345 (by decide +kernel) rfl)⟩
theorem pf_X1_15 : pF RX1 15 1 3 := ⟨RX1, TX1, 7, rfl, by decide, rfl, Or.inl (g_in 344 (by decide +kernel) rfl)⟩
theorem pf_X1_9 : pF RX1 9 1 2 := ⟨RX1, TX1, 7, rfl, by decide, rfl, Or.inl (g_in 343 (by decide +kernel) rfl)⟩
theorem d_X1_isOnWay_0 : decAL cX1_isOnWay 0 0 1 := Or.inr ⟨0, rfl, by decide +kernel, rfl⟩
theorem d_X1_isOnWay_1 : dec 3 cX1_isOnWay 1 (.getfield 19) 4 := ⟨by decide +kernel, rfl⟩
theorem d_X1_isOnWay_4 : decIS cX1_isOnWay 4 2 5 := Or.inr ⟨2, rfl, by decide +kernel, rfl⟩
theorem d_X1_isOnWay_5 : decIL cX1_isOnWay 5 2 6 := Or.inr ⟨2, rfl, by decide +kernel, rfl⟩
theorem d_X1_isOnWay_6 : decAL cX1_isOnWay 6 0 7 := Or.inr ⟨0, rfl, by decide +kernel, rfl⟩
theorem d_X1_isOnWay_7 : dec 3 cX1_isOnWay 7 (.getfield 15) 10 := ⟨by decide +kernel, rfl⟩
theorem d_X1_isOnWay_10 : decB cX1_isOnWay 10 (.if_icmp .ge 21) (21) 13 31 := ⟨by decide +kernel, rfl, by decide⟩
theorem d_X1_isOnWay_13 : decAL cX1_isOnWay 13 0 14 := Or.inr ⟨0, rfl, by decide +kernel, rfl⟩
theorem d_X1_isOnWay_14 : dec 3 cX1_isOnWay 14 (.getfield 9) 17 := ⟨by decide +kernel, rfl⟩
theorem d_X1_isOnWay_17 : decIL cX1_isOnWay 17 2 18 := Or.inr ⟨2, rfl, by decide +kernel, rfl⟩
theorem d_X1_isOnWay_18 : dec 1 cX1_isOnWay 18 .iaload 19 := ⟨by decide +kernel, rfl⟩
theorem d_X1_isOnWay_19 : decIL cX1_isOnWay 19 1 20 := Or.inr ⟨1, rfl, by decide +kernel, rfl⟩
theorem d_X1_isOnWay_20 : decB cX1_isOnWay 20 (.if_icmp .ne 5) (5) 23 25 := ⟨by decide +kernel, rfl, by decide⟩
theorem d_X1_isOnWay_23 : dec 1 cX1_isOnWay 23 (.iconst 1) 24 := ⟨by decide +kernel, rfl⟩
theorem d_X1_isOnWay_24 : dec 1 cX1_isOnWay 24 .ireturn 25 := ⟨by decide +kernel, rfl⟩
theorem d_X1_isOnWay_25 : dec 3 cX1_isOnWay 25 (.iinc 2 1) 28 := ⟨by decide +kernel, rfl⟩
theorem d_X1_isOnWay_28 : decB cX1_isOnWay 28 (.goto (-23)) (-23) 31 5 := ⟨by decide +kernel, rfl, by decide⟩
theorem d_X1_isOnWay_31 : dec 1 cX1_isOnWay 31 (.iconst 0) 32 := ⟨by decide +kernel, rfl⟩
theorem d_X1_isOnWay_32 : dec 1 cX1_isOnWay 32 .ireturn 33 := ⟨by decide +kernel, rfl⟩
def b_X1_isOnWay_5 (F : Nat)   (v0 : Nat) (v1 : Int32) (G : GH) (rec5 : Int32 → Option (Int32)) : Int32 → Option (Int32) := fun v2 =>
  Option.bind (gI G v0 1 3) (fun (x2 : Int32) =>
  if x2 ≤ v2 then
  (rP .boolean (0 : Int32))
  else (Option.bind (gR G v0 1 2) (fun (x3 : Nat) =>
  Option.bind (aI G x3 0 v2) (fun (x4 : Int32) =>
  if x4 = v1 then
  (rP .boolean (1 : Int32))
  else (rec5 (v2 + 1))))))
def f_X1_isOnWay (F : Nat)  (v0 : Nat) (v1 : Int32) (G : GH) : Option (Int32) :=
  Option.bind (gI G v0 1 4) (fun (x1 : Int32) =>
  fixN (fun _ => none) (b_X1_isOnWay_5 F   v0 v1 G) F x1)
set_option maxRecDepth 100000 in
set_option maxHeartbeats 4000000 in
theorem l_X1_isOnWay_5 {E : GE} {F : Nat}   {v0 : Nat} {v1 : Int32} {n : Nat} {G : GH}   : ∀ (K : Nat) (v2 : Int32) (z : Int32), fixN ((fun _ => none) : Int32 → Option (Int32)) (b_X1_isOnWay_5 F   v0 v1 G) K v2 = some z → WG E RX1 "isOnWay" cX1_isOnWay 3 (some .boolean) 0 0 0 0 5 [(0, .ref v0), (1, .int v1), (2, .int v2)] [] n G (g_O E (some (.int z), n, G)) := by
  intro K
  refine fixN_ind (P := fun (r : Int32 → Option (Int32)) => ∀ (v2 : Int32) (z : Int32), r v2 = some z → WG E RX1 "isOnWay" cX1_isOnWay 3 (some .boolean) 0 0 0 0 5 [(0, .ref v0), (1, .int v1), (2, .int v2)] [] n G (g_O E (some (.int z), n, G))) ?_ ?_ K
  · intro v2 z h
    cases h
  · intro rec5 hrec5 v2 z h
    unfold b_X1_isOnWay_5 at h
    refine r_iload d_X1_isOnWay_5 rfl ?_
    refine r_aload d_X1_isOnWay_6 rfl ?_
    refine r_getI h d_X1_isOnWay_7 pf_X1_15 (fun x2 h => ?_)
    refine r_icmp_ge h d_X1_isOnWay_10 (fun h => ?_) (fun h => ?_)
    · refine r_iconst d_X1_isOnWay_31 ic_0 ?_
      exact r_pzret h d_X1_isOnWay_32
    · refine r_aload d_X1_isOnWay_13 rfl ?_
      refine r_getR h d_X1_isOnWay_14 pf_X1_9 (fun x3 h => ?_)
      refine r_iload d_X1_isOnWay_17 rfl ?_
      refine r_iald h d_X1_isOnWay_18 (fun x4 h => ?_)
      refine r_iload d_X1_isOnWay_19 rfl ?_
      refine r_icmp_ne h d_X1_isOnWay_20 (fun h => ?_) (fun h => ?_)
      · refine r_iinc d_X1_isOnWay_25 rfl (ii_1 _) rfl rfl ?_
        refine r_goto d_X1_isOnWay_28 ?_
        refine r_lv [(0, .ref v0), (1, .int v1), (2, .int (v2 + 1))] (g_allc rfl (g_allc rfl (g_allc rfl g_alln))) ?_
        exact hrec5 _ _ h
      · refine r_iconst d_X1_isOnWay_23 ic_1 ?_
        exact r_pzret h d_X1_isOnWay_24
set_option maxRecDepth 100000 in
set_option maxHeartbeats 4000000 in
theorem s_X1_isOnWay {E : GE} {F : Nat}  {v0 : Nat} {v1 : Int32} {n : Nat} {G : GH} {z : Int32}  (h : f_X1_isOnWay F  v0 v1 G = some z) : GM E yX1_isOnWay cX1_isOnWay 3 (some .boolean) 0 0 0 0 [.ref v0, .int v1] n G (some (.int z), n, G) := by
  refine GM.of (by decide) (Nat.le_of_ble_eq_true rfl) ?_
  show WG E RX1 "isOnWay" cX1_isOnWay 3 (some .boolean) 0 0 0 0 0 [(0, .ref v0), (1, .int v1)] [] n G (g_O E (some (.int z), n, G))
  unfold f_X1_isOnWay at h
  refine r_aload d_X1_isOnWay_0 rfl ?_
  refine r_getI h d_X1_isOnWay_1 pf_X1_19 (fun x1 h => ?_)
  refine r_istore d_X1_isOnWay_4 rfl rfl ?_
  refine r_lv [(0, .ref v0), (1, .int v1), (2, .int x1)] (g_allc rfl (g_allc rfl (g_allc rfl g_alln))) ?_
  exact l_X1_isOnWay_5   _ _ _ h
/-! X1_push -/
theorem d_X1_push_0 : decAL cX1_push 0 0 1 := Or.inr ⟨0, rfl, by decide +kernel, rfl⟩
theorem d_X1_push_1 : dec 3 cX1_push 1 (.getfield 15) 4 := ⟨by decide +kernel, rfl⟩
theorem d_X1_push_4 : decAL cX1_push 4 0 5 := Or.inr ⟨0, rfl, by decide +kernel, rfl⟩
theorem d_X1_push_5 : dec 3 cX1_push 5 (.getfield 9) 8 := ⟨by decide +kernel, rfl⟩
theorem d_X1_push_8 : dec 1 cX1_push 8 .arraylength 9 := ⟨by decide +kernel, rfl⟩
theorem d_X1_push_9 : decB cX1_push 9 (.if_icmp .ge 23) (23) 12 32 := ⟨by decide +kernel, rfl, by decide⟩
theorem d_X1_push_12 : decAL cX1_push 12 0 13 := Or.inr ⟨0, rfl, by decide +kernel, rfl⟩
theorem d_X1_push_13 : dec 3 cX1_push 13 (.getfield 9) 16 := ⟨by decide +kernel, rfl⟩
theorem d_X1_push_16 : decAL cX1_push 16 0 17 := Or.inr ⟨0, rfl, by decide +kernel, rfl⟩
theorem d_X1_push_17 : dec 3 cX1_push 17 (.getfield 15) 20 := ⟨by decide +kernel, rfl⟩
theorem d_X1_push_20 : decIL cX1_push 20 1 21 := Or.inr ⟨1, rfl, by decide +kernel, rfl⟩
theorem d_X1_push_21 : dec 1 cX1_push 21 .iastore 22 := ⟨by decide +kernel, rfl⟩
theorem d_X1_push_22 : decAL cX1_push 22 0 23 := Or.inr ⟨0, rfl, by decide +kernel, rfl⟩
theorem d_X1_push_23 : dec 1 cX1_push 23 .dup 24 := ⟨by decide +kernel, rfl⟩
theorem d_X1_push_24 : dec 3 cX1_push 24 (.getfield 15) 27 := ⟨by decide +kernel, rfl⟩
theorem d_X1_push_27 : dec 1 cX1_push 27 (.iconst 1) 28 := ⟨by decide +kernel, rfl⟩
theorem d_X1_push_28 : dec 1 cX1_push 28 .iadd 29 := ⟨by decide +kernel, rfl⟩
theorem d_X1_push_29 : dec 3 cX1_push 29 (.putfield 15) 32 := ⟨by decide +kernel, rfl⟩
theorem d_X1_push_32 : dec 1 cX1_push 32 .return_ 33 := ⟨by decide +kernel, rfl⟩
def f_X1_push (F : Nat)  (v0 : Nat) (v1 : Int32) (n : Nat) (G : GH) : Option (Nat × GH) :=
  Option.bind (gI G v0 1 3) (fun (x1 : Int32) =>
  Option.bind (gR G v0 1 2) (fun (x2 : Nat) =>
  Option.bind (aL G x2) (fun (x3 : Int32) =>
  if x3 ≤ x1 then
  (some (n, G))
  else (Option.bind (gR G v0 1 2) (fun (x4 : Nat) =>
  Option.bind (gI G v0 1 3) (fun (x5 : Int32) =>
  Option.bind (aS G x4 0 x5 v1) (fun (G6 : GH) =>
  Option.bind (gI G6 v0 1 3) (fun (x7 : Int32) =>
  Option.bind (pV G6 v0 1 3 (.int (x7 + (1 : Int32)))) (fun (G8 : GH) =>
  some (n, G8))))))))))
set_option maxRecDepth 100000 in
set_option maxHeartbeats 4000000 in
theorem s_X1_push {E : GE} {F : Nat}  {v0 : Nat} {v1 : Int32} {n : Nat} {G : GH} {z : Nat × GH}  (h : f_X1_push F  v0 v1 n G = some z) : GM E yX1_push cX1_push 2 none 0 0 0 0 [.ref v0, .int v1] n G (none, z.1, z.2) := by
  refine GM.of (by decide) (Nat.le_of_ble_eq_true rfl) ?_
  show WG E RX1 "push" cX1_push 2 none 0 0 0 0 0 [(0, .ref v0), (1, .int v1)] [] n G (g_O E (none, z.1, z.2))
  unfold f_X1_push at h
  refine r_aload d_X1_push_0 rfl ?_
  refine r_getI h d_X1_push_1 pf_X1_15 (fun x1 h => ?_)
  refine r_aload d_X1_push_4 rfl ?_
  refine r_getR h d_X1_push_5 pf_X1_9 (fun x2 h => ?_)
  refine r_alen h d_X1_push_8 (fun x3 h => ?_)
  refine r_icmp_ge h d_X1_push_9 (fun h => ?_) (fun h => ?_)
  · exact r_vret h d_X1_push_32
  · refine r_aload d_X1_push_12 rfl ?_
    refine r_getR h d_X1_push_13 pf_X1_9 (fun x4 h => ?_)
    refine r_aload d_X1_push_16 rfl ?_
    refine r_getI h d_X1_push_17 pf_X1_15 (fun x5 h => ?_)
    refine r_iload d_X1_push_20 rfl ?_
    refine r_iast h d_X1_push_21 (fun G6 h => ?_)
    refine r_aload d_X1_push_22 rfl ?_
    refine r_dup d_X1_push_23 rfl ?_
    refine r_getI h d_X1_push_24 pf_X1_15 (fun x7 h => ?_)
    refine r_iconst d_X1_push_27 ic_1 ?_
    refine r_iadd d_X1_push_28 ?_
    refine r_put h d_X1_push_29 pw_X1_15 rfl rfl (fun G8 h => ?_)
    exact r_vret h d_X1_push_32
/-! X1_refuse -/
theorem py_X1_push : pY yX1_push cX1_push 2 none 1 := ⟨g_in 782 (by decide +kernel) rfl, g_in 102 (by decide +kernel) rfl, by decide, by decide, by decide +kernel⟩
theorem pi_X1_push : pI yX1_push 1 := ⟨g_in 781 (by decide +kernel) rfl, g_in 19 (by decide +kernel) rfl, (RX1, TX1, 7), rfl, rfl⟩
theorem pl_X1_67 : pL RX1 67 yX1_push := Or.inl (g_in 779 (by decide +kernel) rfl)
theorem d_X1_refuse_0 : decAL cX1_refuse 0 0 1 := Or.inr ⟨0, rfl, by decide +kernel, rfl⟩
theorem d_X1_refuse_1 : decIL cX1_refuse 1 1 2 := Or.inr ⟨1, rfl, by decide +kernel, rfl⟩
theorem d_X1_refuse_2 : dec 3 cX1_refuse 2 (.invokevirtual 67) 5 := ⟨by decide +kernel, rfl⟩
theorem d_X1_refuse_5 : decIL cX1_refuse 5 2 6 := Or.inr ⟨2, rfl, by decide +kernel, rfl⟩
theorem d_X1_refuse_6 : dec 1 cX1_refuse 6 .ireturn 7 := ⟨by decide +kernel, rfl⟩
def f_X1_refuse (F : Nat)  (v0 : Nat) (v1 : Int32) (v2 : Int32) (n : Nat) (G : GH) : Option (Int32 × Nat × GH) :=
  cvU G v0 1 (f_X1_push F v0 v1 n G) (fun (n1 : Nat) (G2 : GH) =>
  some (v2, n1, G2))
set_option maxRecDepth 100000 in
set_option maxHeartbeats 4000000 in
theorem s_X1_refuse {E : GE} {F : Nat}  {v0 : Nat} {v1 : Int32} {v2 : Int32} {n : Nat} {G : GH} {z : Int32 × Nat × GH}  (h : f_X1_refuse F  v0 v1 v2 n G = some z) : GM E yX1_refuse cX1_refuse 3 (some .int) 1 21 0 0 [.ref v0, .int v1, .int v2] n G (some (.int z.1), z.2.1, z.2.2) := by
  refine GM.of (by decide) (Nat.le_of_ble_eq_true rfl) ?_
  show WG E RX1 "refuse" cX1_refuse 3 (some .int) 1 21 0 0 0 [(0, .ref v0), (1, .int v1), (2, .int v2)] [] n G (g_O E (some (.int z.1), z.2.1, z.2.2))
  unfold f_X1_refuse at h
  refine r_aload d_X1_refuse_0 rfl ?_
  refine r_iload d_X1_refuse_1 rfl ?_
  refine r_invU [_] h (fun _ hq => s_X1_push hq) d_X1_refuse_2 pl_X1_67 py_X1_push pi_X1_push rfl rfl rfl (fun n1 G2 h => ?_)
  refine r_iload d_X1_refuse_5 rfl ?_
  exact r_iret h d_X1_refuse_6
/-! X1_gather -/
theorem pf_X1_29 : pF RX1 29 1 0 := ⟨RX1, TX1, 7, rfl, by decide, rfl, Or.inl (g_in 341 (by decide +kernel) rfl)⟩
theorem pf_X1_74 : pF RX1 74 0 0 := ⟨RX0, TX0, 6, rfl, by decide, rfl, Or.inr ⟨"PlugBoard", g_in 308 (by decide +kernel) rfl⟩⟩
theorem pf_X1_119 : pF RX1 119 3 6 := ⟨RX3, TX3, 9, rfl, by decide, rfl, Or.inr ⟨"PlugBoard", g_in 203 (by decide +kernel) rfl⟩⟩
theorem pf_X1_26 : pF RX1 26 1 6 := ⟨RX1, TX1, 7, rfl, by decide, rfl, Or.inl (g_in 347 (by decide +kernel) rfl)⟩
theorem pl_X1_122 : pL RX1 122 yX3_isEager := Or.inl (g_in 791 (by decide +kernel) rfl)
theorem pf_X1_126 : pF RX1 126 3 8 := ⟨RX3, TX3, 9, rfl, by decide, rfl, Or.inr ⟨"PlugBoard", g_in 209 (by decide +kernel) rfl⟩⟩
theorem py_X1_fetch : pY yX1_fetch cX1_fetch 7 (some .int) 2 := ⟨g_in 757 (by decide +kernel) rfl, g_in 102 (by decide +kernel) rfl, by decide, by decide, by decide +kernel⟩
theorem pi_X1_fetch : pI yX1_fetch 1 := ⟨g_in 756 (by decide +kernel) rfl, g_in 15 (by decide +kernel) rfl, (RX1, TX1, 7), rfl, rfl⟩
theorem pl_X1_46 : pL RX1 46 yX1_fetch := Or.inl (g_in 754 (by decide +kernel) rfl)
theorem d_X1_gather_0 : decAL cX1_gather 0 0 1 := Or.inr ⟨0, rfl, by decide +kernel, rfl⟩
theorem d_X1_gather_1 : dec 3 cX1_gather 1 (.getfield 29) 4 := ⟨by decide +kernel, rfl⟩
theorem d_X1_gather_4 : dec 3 cX1_gather 4 (.getfield 74) 7 := ⟨by decide +kernel, rfl⟩
theorem d_X1_gather_7 : decAS cX1_gather 7 4 9 := Or.inl ⟨by decide +kernel, rfl⟩
theorem d_X1_gather_9 : dec 1 cX1_gather 9 (.iconst 0) 10 := ⟨by decide +kernel, rfl⟩
theorem d_X1_gather_10 : decIS cX1_gather 10 5 12 := Or.inl ⟨by decide +kernel, rfl⟩
theorem d_X1_gather_12 : decIL cX1_gather 12 5 14 := Or.inl ⟨by decide +kernel, rfl⟩
theorem d_X1_gather_14 : dec 1 cX1_gather 14 (.iconst 4) 15 := ⟨by decide +kernel, rfl⟩
theorem d_X1_gather_15 : decB cX1_gather 15 (.if_icmp .ge 73) (73) 18 88 := ⟨by decide +kernel, rfl, by decide⟩
theorem d_X1_gather_18 : dec 1 cX1_gather 18 (.iconst (-1)) 19 := ⟨by decide +kernel, rfl⟩
theorem d_X1_gather_19 : decIS cX1_gather 19 6 21 := Or.inl ⟨by decide +kernel, rfl⟩
theorem d_X1_gather_21 : decIL cX1_gather 21 5 23 := Or.inl ⟨by decide +kernel, rfl⟩
theorem d_X1_gather_23 : decAL cX1_gather 23 4 25 := Or.inl ⟨by decide +kernel, rfl⟩
theorem d_X1_gather_25 : dec 3 cX1_gather 25 (.getfield 119) 28 := ⟨by decide +kernel, rfl⟩
theorem d_X1_gather_28 : decIL cX1_gather 28 1 29 := Or.inr ⟨1, rfl, by decide +kernel, rfl⟩
theorem d_X1_gather_29 : dec 1 cX1_gather 29 .iaload 30 := ⟨by decide +kernel, rfl⟩
theorem d_X1_gather_30 : decB cX1_gather 30 (.if_icmp .ge 41) (41) 33 71 := ⟨by decide +kernel, rfl, by decide⟩
theorem d_X1_gather_33 : decAL cX1_gather 33 4 35 := Or.inl ⟨by decide +kernel, rfl⟩
theorem d_X1_gather_35 : decIL cX1_gather 35 1 36 := Or.inr ⟨1, rfl, by decide +kernel, rfl⟩
theorem d_X1_gather_36 : decIL cX1_gather 36 5 38 := Or.inl ⟨by decide +kernel, rfl⟩
theorem d_X1_gather_38 : dec 3 cX1_gather 38 (.invokevirtual 122) 41 := ⟨by decide +kernel, rfl⟩
theorem d_X1_gather_41 : decB cX1_gather 41 (.ifCond .eq 30) (30) 44 71 := ⟨by decide +kernel, rfl, by decide⟩
theorem d_X1_gather_44 : decAL cX1_gather 44 0 45 := Or.inr ⟨0, rfl, by decide +kernel, rfl⟩
theorem d_X1_gather_45 : decAL cX1_gather 45 4 47 := Or.inl ⟨by decide +kernel, rfl⟩
theorem d_X1_gather_47 : dec 3 cX1_gather 47 (.getfield 126) 50 := ⟨by decide +kernel, rfl⟩
theorem d_X1_gather_50 : decIL cX1_gather 50 1 51 := Or.inr ⟨1, rfl, by decide +kernel, rfl⟩
theorem d_X1_gather_51 : dec 1 cX1_gather 51 (.iconst 4) 52 := ⟨by decide +kernel, rfl⟩
theorem d_X1_gather_52 : dec 1 cX1_gather 52 .imul 53 := ⟨by decide +kernel, rfl⟩
theorem d_X1_gather_53 : decIL cX1_gather 53 5 55 := Or.inl ⟨by decide +kernel, rfl⟩
theorem d_X1_gather_55 : dec 1 cX1_gather 55 .iadd 56 := ⟨by decide +kernel, rfl⟩
theorem d_X1_gather_56 : dec 1 cX1_gather 56 .iaload 57 := ⟨by decide +kernel, rfl⟩
theorem d_X1_gather_57 : decIL cX1_gather 57 2 58 := Or.inr ⟨2, rfl, by decide +kernel, rfl⟩
theorem d_X1_gather_58 : dec 3 cX1_gather 58 (.invokevirtual 46) 61 := ⟨by decide +kernel, rfl⟩
theorem d_X1_gather_61 : decIS cX1_gather 61 6 63 := Or.inl ⟨by decide +kernel, rfl⟩
theorem d_X1_gather_63 : decIL cX1_gather 63 6 65 := Or.inl ⟨by decide +kernel, rfl⟩
theorem d_X1_gather_65 : decB cX1_gather 65 (.ifCond .ge 6) (6) 68 71 := ⟨by decide +kernel, rfl, by decide⟩
theorem d_X1_gather_68 : decIL cX1_gather 68 6 70 := Or.inl ⟨by decide +kernel, rfl⟩
theorem d_X1_gather_70 : dec 1 cX1_gather 70 .ireturn 71 := ⟨by decide +kernel, rfl⟩
theorem d_X1_gather_71 : decAL cX1_gather 71 0 72 := Or.inr ⟨0, rfl, by decide +kernel, rfl⟩
theorem d_X1_gather_72 : dec 3 cX1_gather 72 (.getfield 26) 75 := ⟨by decide +kernel, rfl⟩
theorem d_X1_gather_75 : decIL cX1_gather 75 3 76 := Or.inr ⟨3, rfl, by decide +kernel, rfl⟩
theorem d_X1_gather_76 : decIL cX1_gather 76 5 78 := Or.inl ⟨by decide +kernel, rfl⟩
theorem d_X1_gather_78 : dec 1 cX1_gather 78 .iadd 79 := ⟨by decide +kernel, rfl⟩
theorem d_X1_gather_79 : decIL cX1_gather 79 6 81 := Or.inl ⟨by decide +kernel, rfl⟩
theorem d_X1_gather_81 : dec 1 cX1_gather 81 .iastore 82 := ⟨by decide +kernel, rfl⟩
theorem d_X1_gather_82 : dec 3 cX1_gather 82 (.iinc 5 1) 85 := ⟨by decide +kernel, rfl⟩
theorem d_X1_gather_85 : decB cX1_gather 85 (.goto (-73)) (-73) 88 12 := ⟨by decide +kernel, rfl, by decide⟩
theorem d_X1_gather_88 : dec 1 cX1_gather 88 (.iconst (-1)) 89 := ⟨by decide +kernel, rfl⟩
theorem d_X1_gather_89 : dec 1 cX1_gather 89 .ireturn 90 := ⟨by decide +kernel, rfl⟩
def k_X1_gather_71 (F : Nat) (rf_X1_fetch : Nat → Int32 → Int32 → Nat → GH → Option (Int32 × Nat × GH)) (rec12 : Int32 → Nat → GH → Option (Int32 × Nat × GH)) (v0 : Nat) (v1 : Int32) (v2 : Int32) (v3 : Int32) (v4 : Nat) (v5 : Int32) (v6 : Int32)  (n : Nat) (G : GH) : Option (Int32 × Nat × GH) :=
  Option.bind (gR G v0 1 6) (fun (x5 : Nat) =>
  Option.bind (aS G x5 0 (v3 + v5) v6) (fun (G6 : GH) =>
  rec12 (v5 + 1) n G6))
def b_X1_gather_12 (F : Nat) (rf_X1_fetch : Nat → Int32 → Int32 → Nat → GH → Option (Int32 × Nat × GH))  (v0 : Nat) (v1 : Int32) (v2 : Int32) (v3 : Int32) (v4 : Nat) (rec12 : Int32 → Nat → GH → Option (Int32 × Nat × GH)) : Int32 → Nat → GH → Option (Int32 × Nat × GH) := fun v5 n G =>
  if (4 : Int32) ≤ v5 then
  (some ((-1 : Int32), n, G))
  else (Option.bind (gR G v4 3 6) (fun (x3 : Nat) =>
  Option.bind (aI G x3 0 v1) (fun (x4 : Int32) =>
  if x4 ≤ v5 then
  (k_X1_gather_71 F rf_X1_fetch rec12 v0 v1 v2 v3 v4 v5 (-1 : Int32) n G)
  else (cvP G v4 3 (f_X3_isEager F v4 v1 v5 G) (fun (x7 : Int32) =>
  if x7 = 0 then
  (k_X1_gather_71 F rf_X1_fetch rec12 v0 v1 v2 v3 v4 v5 (-1 : Int32) n G)
  else (Option.bind (gR G v4 3 8) (fun (x8 : Nat) =>
  Option.bind (aI G x8 0 ((v1 * (4 : Int32)) + v5)) (fun (x9 : Int32) =>
  cvI G v0 1 (rf_X1_fetch v0 x9 v2 n G) (fun (x12 : Int32) (n10 : Nat) (G11 : GH) =>
  if 0 ≤ x12 then
  (k_X1_gather_71 F rf_X1_fetch rec12 v0 v1 v2 v3 v4 v5 x12 n10 G11)
  else (some (x12, n10, G11)))))))))))
def g_X1_gather (F : Nat) (rf_X1_fetch : Nat → Int32 → Int32 → Nat → GH → Option (Int32 × Nat × GH)) (v0 : Nat) (v1 : Int32) (v2 : Int32) (v3 : Int32) (n : Nat) (G : GH) : Option (Int32 × Nat × GH) :=
  Option.bind (gR G v0 1 0) (fun (x1 : Nat) =>
  Option.bind (gR G x1 0 0) (fun (x2 : Nat) =>
  fixN (fun _ _ _ => none) (b_X1_gather_12 F rf_X1_fetch  v0 v1 v2 v3 x2) F (0 : Int32) n G))
set_option maxRecDepth 100000 in
set_option maxHeartbeats 4000000 in
theorem c_X1_gather_71 {E : GE} {F : Nat} {rf_X1_fetch : Nat → Int32 → Int32 → Nat → GH → Option (Int32 × Nat × GH)} {kf kl : Nat} {rec12 : Int32 → Nat → GH → Option (Int32 × Nat × GH)} {v0 : Nat} {v1 : Int32} {v2 : Int32} {v3 : Int32} {v4 : Nat} {v5 : Int32} {v6 : Int32}  {n : Nat} {G : GH} {z : Int32 × Nat × GH} (hkf : 10 ≤ kf) (hkl : 200 ≤ kl) (hrf_X1_fetch : ∀ (u0 : Nat) (u1 : Int32) (u2 : Int32) (n : Nat) (G : GH) (z : Int32 × Nat × GH), rf_X1_fetch u0 u1 u2 n G = some z → GM E yX1_fetch cX1_fetch 7 (some .int) kf kl 0 0 [.ref u0, .int u1, .int u2] n G (some (.int z.1), z.2.1, z.2.2)) (hrec12 : ∀ (w5 : Int32) (n : Nat) (G : GH) (z : Int32 × Nat × GH), rec12 w5 n G = some z → WG E RX1 "gather" cX1_gather 7 (some .int) (kf + 1) (kl + 40) 0 0 12 [(0, .ref v0), (1, .int v1), (2, .int v2), (3, .int v3), (4, .ref v4), (5, .int w5)] [] n G (g_O E (some (.int z.1), z.2.1, z.2.2))) (h : k_X1_gather_71 F rf_X1_fetch rec12 v0 v1 v2 v3 v4 v5 v6  n G = some z) : WG E RX1 "gather" cX1_gather 7 (some .int) (kf + 1) (kl + 40) 0 0 71 [(0, .ref v0), (1, .int v1), (2, .int v2), (3, .int v3), (4, .ref v4), (5, .int v5), (6, .int v6)] [] n G (g_O E (some (.int z.1), z.2.1, z.2.2)) := by
  unfold k_X1_gather_71 at h
  refine r_aload d_X1_gather_71 rfl ?_
  refine r_getR h d_X1_gather_72 pf_X1_26 (fun x5 h => ?_)
  refine r_iload d_X1_gather_75 rfl ?_
  refine r_iload d_X1_gather_76 rfl ?_
  refine r_iadd d_X1_gather_78 ?_
  refine r_iload d_X1_gather_79 rfl ?_
  refine r_iast h d_X1_gather_81 (fun G6 h => ?_)
  refine r_iinc d_X1_gather_82 rfl (ii_1 _) rfl rfl ?_
  refine r_goto d_X1_gather_85 ?_
  refine r_lv [(0, .ref v0), (1, .int v1), (2, .int v2), (3, .int v3), (4, .ref v4), (5, .int (v5 + 1))] (g_allc rfl (g_allc rfl (g_allc rfl (g_allc rfl (g_allc rfl (g_allc rfl g_alln)))))) ?_
  exact hrec12 _ _ _ _ h
set_option maxRecDepth 100000 in
set_option maxHeartbeats 4000000 in
theorem l_X1_gather_12 {E : GE} {F : Nat} {rf_X1_fetch : Nat → Int32 → Int32 → Nat → GH → Option (Int32 × Nat × GH)} {kf kl : Nat}  {v0 : Nat} {v1 : Int32} {v2 : Int32} {v3 : Int32} {v4 : Nat} (hkf : 10 ≤ kf) (hkl : 200 ≤ kl) (hrf_X1_fetch : ∀ (u0 : Nat) (u1 : Int32) (u2 : Int32) (n : Nat) (G : GH) (z : Int32 × Nat × GH), rf_X1_fetch u0 u1 u2 n G = some z → GM E yX1_fetch cX1_fetch 7 (some .int) kf kl 0 0 [.ref u0, .int u1, .int u2] n G (some (.int z.1), z.2.1, z.2.2))  : ∀ (K : Nat) (v5 : Int32) (n : Nat) (G : GH) (z : Int32 × Nat × GH), fixN ((fun _ _ _ => none) : Int32 → Nat → GH → Option (Int32 × Nat × GH)) (b_X1_gather_12 F rf_X1_fetch  v0 v1 v2 v3 v4) K v5 n G = some z → WG E RX1 "gather" cX1_gather 7 (some .int) (kf + 1) (kl + 40) 0 0 12 [(0, .ref v0), (1, .int v1), (2, .int v2), (3, .int v3), (4, .ref v4), (5, .int v5)] [] n G (g_O E (some (.int z.1), z.2.1, z.2.2)) := by
  intro K
  refine fixN_ind (P := fun (r : Int32 → Nat → GH → Option (Int32 × Nat × GH)) => ∀ (v5 : Int32) (n : Nat) (G : GH) (z : Int32 × Nat × GH), r v5 n G = some z → WG E RX1 "gather" cX1_gather 7 (some .int) (kf + 1) (kl + 40) 0 0 12 [(0, .ref v0), (1, .int v1), (2, .int v2), (3, .int v3), (4, .ref v4), (5, .int v5)] [] n G (g_O E (some (.int z.1), z.2.1, z.2.2))) ?_ ?_ K
  · intro v5 n G z h
    cases h
  · intro rec12 hrec12 v5 n G z h
    unfold b_X1_gather_12 at h
    refine r_iload d_X1_gather_12 rfl ?_
    refine r_iconst d_X1_gather_14 ic_4 ?_
    refine r_icmp_ge h d_X1_gather_15 (fun h => ?_) (fun h => ?_)
    · refine r_iconst d_X1_gather_88 ic_m1 ?_
      exact r_iret h d_X1_gather_89
    · refine r_iconst d_X1_gather_18 ic_m1 ?_
      refine r_istore d_X1_gather_19 rfl rfl ?_
      refine r_iload d_X1_gather_21 rfl ?_
      refine r_aload d_X1_gather_23 rfl ?_
      refine r_getR h d_X1_gather_25 pf_X1_119 (fun x3 h => ?_)
      refine r_iload d_X1_gather_28 rfl ?_
      refine r_iald h d_X1_gather_29 (fun x4 h => ?_)
      refine r_icmp_ge h d_X1_gather_30 (fun h => ?_) (fun h => ?_)
      · refine r_lv [(0, .ref v0), (1, .int v1), (2, .int v2), (3, .int v3), (4, .ref v4), (5, .int v5), (6, .int (-1 : Int32))] (g_allc rfl (g_allc rfl (g_allc rfl (g_allc rfl (g_allc rfl (g_allc rfl (g_allc rfl g_alln))))))) ?_
        exact c_X1_gather_71 hkf hkl hrf_X1_fetch hrec12 h
      · refine r_aload d_X1_gather_33 rfl ?_
        refine r_iload d_X1_gather_35 rfl ?_
        refine r_iload d_X1_gather_36 rfl ?_
        refine r_invP [_, _] h (fun _ hq => s_X3_isEager hq) d_X1_gather_38 pl_X1_122 py_X3_isEager pi_X3_isEager rfl rfl (g_room_of ⟨by omega, by omega, by omega, by omega⟩) (fun x7 h => ?_)
        refine r_if_eq h d_X1_gather_41 (fun h => ?_) (fun h => ?_)
        · refine r_lv [(0, .ref v0), (1, .int v1), (2, .int v2), (3, .int v3), (4, .ref v4), (5, .int v5), (6, .int (-1 : Int32))] (g_allc rfl (g_allc rfl (g_allc rfl (g_allc rfl (g_allc rfl (g_allc rfl (g_allc rfl g_alln))))))) ?_
          exact c_X1_gather_71 hkf hkl hrf_X1_fetch hrec12 h
        · refine r_aload d_X1_gather_44 rfl ?_
          refine r_aload d_X1_gather_45 rfl ?_
          refine r_getR h d_X1_gather_47 pf_X1_126 (fun x8 h => ?_)
          refine r_iload d_X1_gather_50 rfl ?_
          refine r_iconst d_X1_gather_51 ic_4 ?_
          refine r_imul d_X1_gather_52 ?_
          refine r_iload d_X1_gather_53 rfl ?_
          refine r_iadd d_X1_gather_55 ?_
          refine r_iald h d_X1_gather_56 (fun x9 h => ?_)
          refine r_iload d_X1_gather_57 rfl ?_
          refine r_invI [_, _] h (fun _ hq => hrf_X1_fetch _ _ _ _ _ _ hq) d_X1_gather_58 pl_X1_46 py_X1_fetch pi_X1_fetch rfl rfl (g_room_of ⟨by omega, by omega, by omega, by omega⟩) (fun x12 n10 G11 h => ?_)
          refine r_istore d_X1_gather_61 rfl rfl ?_
          refine r_iload d_X1_gather_63 rfl ?_
          refine r_if_ge h d_X1_gather_65 (fun h => ?_) (fun h => ?_)
          · refine r_lv [(0, .ref v0), (1, .int v1), (2, .int v2), (3, .int v3), (4, .ref v4), (5, .int v5), (6, .int x12)] (g_allc rfl (g_allc rfl (g_allc rfl (g_allc rfl (g_allc rfl (g_allc rfl (g_allc rfl g_alln))))))) ?_
            exact c_X1_gather_71 hkf hkl hrf_X1_fetch hrec12 h
          · refine r_iload d_X1_gather_68 rfl ?_
            exact r_iret h d_X1_gather_70
set_option maxRecDepth 100000 in
set_option maxHeartbeats 4000000 in
theorem t_X1_gather {E : GE} {F : Nat} {rf_X1_fetch : Nat → Int32 → Int32 → Nat → GH → Option (Int32 × Nat × GH)} {kf kl : Nat} {v0 : Nat} {v1 : Int32} {v2 : Int32} {v3 : Int32} {n : Nat} {G : GH} {z : Int32 × Nat × GH} (hkf : 10 ≤ kf) (hkl : 200 ≤ kl) (hrf_X1_fetch : ∀ (u0 : Nat) (u1 : Int32) (u2 : Int32) (n : Nat) (G : GH) (z : Int32 × Nat × GH), rf_X1_fetch u0 u1 u2 n G = some z → GM E yX1_fetch cX1_fetch 7 (some .int) kf kl 0 0 [.ref u0, .int u1, .int u2] n G (some (.int z.1), z.2.1, z.2.2)) (h : g_X1_gather F rf_X1_fetch v0 v1 v2 v3 n G = some z) : GM E yX1_gather cX1_gather 7 (some .int) (kf + 1) (kl + 40) 0 0 [.ref v0, .int v1, .int v2, .int v3] n G (some (.int z.1), z.2.1, z.2.2) := by
  refine GM.of (by decide) (Nat.le_of_ble_eq_true rfl) ?_
  show WG E RX1 "gather" cX1_gather 7 (some .int) (kf + 1) (kl + 40) 0 0 0 [(0, .ref v0), (1, .int v1), (2, .int v2), (3, .int v3)] [] n G (g_O E (some (.int z.1), z.2.1, z.2.2))
  unfold g_X1_gather at h
  refine r_aload d_X1_gather_0 rfl ?_
  refine r_getR h d_X1_gather_1 pf_X1_29 (fun x1 h => ?_)
  refine r_getR h d_X1_gather_4 pf_X1_74 (fun x2 h => ?_)
  refine r_astore d_X1_gather_7 rfl rfl ?_
  refine r_iconst d_X1_gather_9 ic_0 ?_
  refine r_istore d_X1_gather_10 rfl rfl ?_
  refine r_lv [(0, .ref v0), (1, .int v1), (2, .int v2), (3, .int v3), (4, .ref x2), (5, .int (0 : Int32))] (g_allc rfl (g_allc rfl (g_allc rfl (g_allc rfl (g_allc rfl (g_allc rfl g_alln)))))) ?_
  exact l_X1_gather_12 hkf hkl hrf_X1_fetch  _ _ _ _ _ h
/-! X1_pop -/
theorem d_X1_pop_0 : decAL cX1_pop 0 0 1 := Or.inr ⟨0, rfl, by decide +kernel, rfl⟩
theorem d_X1_pop_1 : dec 3 cX1_pop 1 (.getfield 15) 4 := ⟨by decide +kernel, rfl⟩
theorem d_X1_pop_4 : decB cX1_pop 4 (.ifCond .le 13) (13) 7 17 := ⟨by decide +kernel, rfl, by decide⟩
theorem d_X1_pop_7 : decAL cX1_pop 7 0 8 := Or.inr ⟨0, rfl, by decide +kernel, rfl⟩
theorem d_X1_pop_8 : dec 1 cX1_pop 8 .dup 9 := ⟨by decide +kernel, rfl⟩
theorem d_X1_pop_9 : dec 3 cX1_pop 9 (.getfield 15) 12 := ⟨by decide +kernel, rfl⟩
theorem d_X1_pop_12 : dec 1 cX1_pop 12 (.iconst 1) 13 := ⟨by decide +kernel, rfl⟩
theorem d_X1_pop_13 : dec 1 cX1_pop 13 .isub 14 := ⟨by decide +kernel, rfl⟩
theorem d_X1_pop_14 : dec 3 cX1_pop 14 (.putfield 15) 17 := ⟨by decide +kernel, rfl⟩
theorem d_X1_pop_17 : dec 1 cX1_pop 17 .return_ 18 := ⟨by decide +kernel, rfl⟩
def f_X1_pop (F : Nat)  (v0 : Nat) (n : Nat) (G : GH) : Option (Nat × GH) :=
  Option.bind (gI G v0 1 3) (fun (x1 : Int32) =>
  if x1 ≤ 0 then
  (some (n, G))
  else (Option.bind (gI G v0 1 3) (fun (x2 : Int32) =>
  Option.bind (pV G v0 1 3 (.int (x2 - (1 : Int32)))) (fun (G3 : GH) =>
  some (n, G3)))))
set_option maxRecDepth 100000 in
set_option maxHeartbeats 4000000 in
theorem s_X1_pop {E : GE} {F : Nat}  {v0 : Nat} {n : Nat} {G : GH} {z : Nat × GH}  (h : f_X1_pop F  v0 n G = some z) : GM E yX1_pop cX1_pop 1 none 0 0 0 0 [.ref v0] n G (none, z.1, z.2) := by
  refine GM.of (by decide) (Nat.le_of_ble_eq_true rfl) ?_
  show WG E RX1 "pop" cX1_pop 1 none 0 0 0 0 0 [(0, .ref v0)] [] n G (g_O E (none, z.1, z.2))
  unfold f_X1_pop at h
  refine r_aload d_X1_pop_0 rfl ?_
  refine r_getI h d_X1_pop_1 pf_X1_15 (fun x1 h => ?_)
  refine r_if_le h d_X1_pop_4 (fun h => ?_) (fun h => ?_)
  · exact r_vret h d_X1_pop_17
  · refine r_aload d_X1_pop_7 rfl ?_
    refine r_dup d_X1_pop_8 rfl ?_
    refine r_getI h d_X1_pop_9 pf_X1_15 (fun x2 h => ?_)
    refine r_iconst d_X1_pop_12 ic_1 ?_
    refine r_isub d_X1_pop_13 ?_
    refine r_put h d_X1_pop_14 pw_X1_15 rfl rfl (fun G3 h => ?_)
    exact r_vret h d_X1_pop_17
/-! X1_make -/
theorem py_X1_refuse : pY yX1_refuse cX1_refuse 3 (some .int) 2 := ⟨g_in 778 (by decide +kernel) rfl, g_in 102 (by decide +kernel) rfl, by decide, by decide, by decide +kernel⟩
theorem pi_X1_refuse : pI yX1_refuse 1 := ⟨g_in 777 (by decide +kernel) rfl, g_in 18 (by decide +kernel) rfl, (RX1, TX1, 7), rfl, rfl⟩
theorem pl_X1_95 : pL RX1 95 yX1_refuse := Or.inl (g_in 775 (by decide +kernel) rfl)
theorem py_X1_isOnWay : pY yX1_isOnWay cX1_isOnWay 3 (some .boolean) 1 := ⟨g_in 774 (by decide +kernel) rfl, g_in 102 (by decide +kernel) rfl, by decide, by decide, by decide +kernel⟩
theorem pi_X1_isOnWay : pI yX1_isOnWay 1 := ⟨g_in 773 (by decide +kernel) rfl, g_in 17 (by decide +kernel) rfl, (RX1, TX1, 7), rfl, rfl⟩
theorem pl_X1_91 : pL RX1 91 yX1_isOnWay := Or.inl (g_in 771 (by decide +kernel) rfl)
theorem pf_X1_39 : pF RX1 39 1 1 := ⟨RX1, TX1, 7, rfl, by decide, rfl, Or.inl (g_in 342 (by decide +kernel) rfl)⟩
theorem py_X7_isFull : pY yX7_isFull cX7_isFull 1 (some .boolean) 0 := ⟨g_in 786 (by decide +kernel) rfl, g_in 99 (by decide +kernel) rfl, by decide, by decide, by decide +kernel⟩
theorem pi_X7_isFull : pI yX7_isFull 7 := ⟨g_in 784 (by decide +kernel) rfl, g_in 785 (by decide +kernel) rfl, (RX7, TX7, 7), rfl, rfl⟩
theorem pl_X1_98 : pL RX1 98 yX7_isFull := Or.inl (g_in 783 (by decide +kernel) rfl)
theorem pf_X1_102 : pF RX1 102 0 3 := ⟨RX0, TX0, 6, rfl, by decide, rfl, Or.inr ⟨"PlugBoard", g_in 314 (by decide +kernel) rfl⟩⟩
theorem py_X1_gather : pY yX1_gather cX1_gather 7 (some .int) 3 := ⟨g_in 790 (by decide +kernel) rfl, g_in 102 (by decide +kernel) rfl, by decide, by decide, by decide +kernel⟩
theorem pi_X1_gather : pI yX1_gather 1 := ⟨g_in 789 (by decide +kernel) rfl, g_in 20 (by decide +kernel) rfl, (RX1, TX1, 7), rfl, rfl⟩
theorem pl_X1_105 : pL RX1 105 yX1_gather := Or.inl (g_in 787 (by decide +kernel) rfl)
theorem pf_X1_109 : pF RX1 109 3 4 := ⟨RX3, TX3, 9, rfl, by decide, rfl, Or.inr ⟨"PlugBoard", g_in 194 (by decide +kernel) rfl⟩⟩
theorem py_X1_pop : pY yX1_pop cX1_pop 1 none 0 := ⟨g_in 798 (by decide +kernel) rfl, g_in 102 (by decide +kernel) rfl, by decide, by decide, by decide +kernel⟩
theorem pi_X1_pop : pI yX1_pop 1 := ⟨g_in 797 (by decide +kernel) rfl, g_in 21 (by decide +kernel) rfl, (RX1, TX1, 7), rfl, rfl⟩
theorem pl_X1_112 : pL RX1 112 yX1_pop := Or.inl (g_in 795 (by decide +kernel) rfl)
theorem py_X7_add : pY yX7_add cX7_add 8 (some .int) 4 := ⟨g_in 802 (by decide +kernel) rfl, g_in 99 (by decide +kernel) rfl, by decide, by decide, by decide +kernel⟩
theorem pi_X7_add : pI yX7_add 7 := ⟨g_in 800 (by decide +kernel) rfl, g_in 801 (by decide +kernel) rfl, (RX7, TX7, 7), rfl, rfl⟩
theorem pl_X1_115 : pL RX1 115 yX7_add := Or.inl (g_in 799 (by decide +kernel) rfl)
theorem d_X1_make_0 : decAL cX1_make 0 0 1 := Or.inr ⟨0, rfl, by decide +kernel, rfl⟩
theorem d_X1_make_1 : dec 3 cX1_make 1 (.getfield 15) 4 := ⟨by decide +kernel, rfl⟩
theorem d_X1_make_4 : decAL cX1_make 4 0 5 := Or.inr ⟨0, rfl, by decide +kernel, rfl⟩
theorem d_X1_make_5 : dec 3 cX1_make 5 (.getfield 19) 8 := ⟨by decide +kernel, rfl⟩
theorem d_X1_make_8 : dec 1 cX1_make 8 .isub 9 := ⟨by decide +kernel, rfl⟩
theorem d_X1_make_9 : decIS cX1_make 9 3 10 := Or.inr ⟨3, rfl, by decide +kernel, rfl⟩
theorem d_X1_make_10 : decIL cX1_make 10 3 11 := Or.inr ⟨3, rfl, by decide +kernel, rfl⟩
theorem d_X1_make_11 : dec 2 cX1_make 11 (.bipush 12) 13 := ⟨by decide +kernel, rfl⟩
theorem d_X1_make_13 : decB cX1_make 13 (.if_icmp .ge 11) (11) 16 24 := ⟨by decide +kernel, rfl, by decide⟩
theorem d_X1_make_16 : decAL cX1_make 16 0 17 := Or.inr ⟨0, rfl, by decide +kernel, rfl⟩
theorem d_X1_make_17 : decIL cX1_make 17 1 18 := Or.inr ⟨1, rfl, by decide +kernel, rfl⟩
theorem d_X1_make_18 : dec 3 cX1_make 18 (.invokevirtual 91) 21 := ⟨by decide +kernel, rfl⟩
theorem d_X1_make_21 : decB cX1_make 21 (.ifCond .eq 11) (11) 24 32 := ⟨by decide +kernel, rfl, by decide⟩
theorem d_X1_make_24 : decAL cX1_make 24 0 25 := Or.inr ⟨0, rfl, by decide +kernel, rfl⟩
theorem d_X1_make_25 : decIL cX1_make 25 1 26 := Or.inr ⟨1, rfl, by decide +kernel, rfl⟩
theorem d_X1_make_26 : dec 2 cX1_make 26 (.bipush (-2)) 28 := ⟨by decide +kernel, rfl⟩
theorem d_X1_make_28 : dec 3 cX1_make 28 (.invokevirtual 95) 31 := ⟨by decide +kernel, rfl⟩
theorem d_X1_make_31 : dec 1 cX1_make 31 .ireturn 32 := ⟨by decide +kernel, rfl⟩
theorem d_X1_make_32 : decAL cX1_make 32 0 33 := Or.inr ⟨0, rfl, by decide +kernel, rfl⟩
theorem d_X1_make_33 : dec 3 cX1_make 33 (.getfield 39) 36 := ⟨by decide +kernel, rfl⟩
theorem d_X1_make_36 : dec 3 cX1_make 36 (.invokevirtual 98) 39 := ⟨by decide +kernel, rfl⟩
theorem d_X1_make_39 : decB cX1_make 39 (.ifCond .eq 11) (11) 42 50 := ⟨by decide +kernel, rfl, by decide⟩
theorem d_X1_make_42 : decAL cX1_make 42 0 43 := Or.inr ⟨0, rfl, by decide +kernel, rfl⟩
theorem d_X1_make_43 : decIL cX1_make 43 1 44 := Or.inr ⟨1, rfl, by decide +kernel, rfl⟩
theorem d_X1_make_44 : dec 2 cX1_make 44 (.bipush (-4)) 46 := ⟨by decide +kernel, rfl⟩
theorem d_X1_make_46 : dec 3 cX1_make 46 (.invokevirtual 95) 49 := ⟨by decide +kernel, rfl⟩
theorem d_X1_make_49 : dec 1 cX1_make 49 .ireturn 50 := ⟨by decide +kernel, rfl⟩
theorem d_X1_make_50 : decAL cX1_make 50 0 51 := Or.inr ⟨0, rfl, by decide +kernel, rfl⟩
theorem d_X1_make_51 : dec 3 cX1_make 51 (.getfield 29) 54 := ⟨by decide +kernel, rfl⟩
theorem d_X1_make_54 : dec 3 cX1_make 54 (.getfield 102) 57 := ⟨by decide +kernel, rfl⟩
theorem d_X1_make_57 : decIL cX1_make 57 1 58 := Or.inr ⟨1, rfl, by decide +kernel, rfl⟩
theorem d_X1_make_58 : dec 1 cX1_make 58 .dup2 59 := ⟨by decide +kernel, rfl⟩
theorem d_X1_make_59 : dec 1 cX1_make 59 .iaload 60 := ⟨by decide +kernel, rfl⟩
theorem d_X1_make_60 : dec 1 cX1_make 60 (.iconst 1) 61 := ⟨by decide +kernel, rfl⟩
theorem d_X1_make_61 : dec 1 cX1_make 61 .iadd 62 := ⟨by decide +kernel, rfl⟩
theorem d_X1_make_62 : dec 1 cX1_make 62 .iastore 63 := ⟨by decide +kernel, rfl⟩
theorem d_X1_make_63 : decAL cX1_make 63 0 64 := Or.inr ⟨0, rfl, by decide +kernel, rfl⟩
theorem d_X1_make_64 : dec 3 cX1_make 64 (.getfield 29) 67 := ⟨by decide +kernel, rfl⟩
theorem d_X1_make_67 : dec 3 cX1_make 67 (.getfield 102) 70 := ⟨by decide +kernel, rfl⟩
theorem d_X1_make_70 : decIL cX1_make 70 1 71 := Or.inr ⟨1, rfl, by decide +kernel, rfl⟩
theorem d_X1_make_71 : dec 1 cX1_make 71 .iaload 72 := ⟨by decide +kernel, rfl⟩
theorem d_X1_make_72 : decIS cX1_make 72 4 74 := Or.inl ⟨by decide +kernel, rfl⟩
theorem d_X1_make_74 : decAL cX1_make 74 0 75 := Or.inr ⟨0, rfl, by decide +kernel, rfl⟩
theorem d_X1_make_75 : decIL cX1_make 75 1 76 := Or.inr ⟨1, rfl, by decide +kernel, rfl⟩
theorem d_X1_make_76 : dec 3 cX1_make 76 (.invokevirtual 67) 79 := ⟨by decide +kernel, rfl⟩
theorem d_X1_make_79 : decAL cX1_make 79 0 80 := Or.inr ⟨0, rfl, by decide +kernel, rfl⟩
theorem d_X1_make_80 : decIL cX1_make 80 1 81 := Or.inr ⟨1, rfl, by decide +kernel, rfl⟩
theorem d_X1_make_81 : decIL cX1_make 81 2 82 := Or.inr ⟨2, rfl, by decide +kernel, rfl⟩
theorem d_X1_make_82 : decIL cX1_make 82 3 83 := Or.inr ⟨3, rfl, by decide +kernel, rfl⟩
theorem d_X1_make_83 : dec 1 cX1_make 83 (.iconst 4) 84 := ⟨by decide +kernel, rfl⟩
theorem d_X1_make_84 : dec 1 cX1_make 84 .imul 85 := ⟨by decide +kernel, rfl⟩
theorem d_X1_make_85 : dec 3 cX1_make 85 (.invokevirtual 105) 88 := ⟨by decide +kernel, rfl⟩
theorem d_X1_make_88 : decIS cX1_make 88 5 90 := Or.inl ⟨by decide +kernel, rfl⟩
theorem d_X1_make_90 : decIL cX1_make 90 5 92 := Or.inl ⟨by decide +kernel, rfl⟩
theorem d_X1_make_92 : dec 1 cX1_make 92 (.iconst (-1)) 93 := ⟨by decide +kernel, rfl⟩
theorem d_X1_make_93 : decB cX1_make 93 (.if_icmp .ge 6) (6) 96 99 := ⟨by decide +kernel, rfl, by decide⟩
theorem d_X1_make_96 : decIL cX1_make 96 5 98 := Or.inl ⟨by decide +kernel, rfl⟩
theorem d_X1_make_98 : dec 1 cX1_make 98 .ireturn 99 := ⟨by decide +kernel, rfl⟩
theorem d_X1_make_99 : decIL cX1_make 99 4 101 := Or.inl ⟨by decide +kernel, rfl⟩
theorem d_X1_make_101 : decAL cX1_make 101 0 102 := Or.inr ⟨0, rfl, by decide +kernel, rfl⟩
theorem d_X1_make_102 : dec 3 cX1_make 102 (.getfield 29) 105 := ⟨by decide +kernel, rfl⟩
theorem d_X1_make_105 : dec 3 cX1_make 105 (.getfield 74) 108 := ⟨by decide +kernel, rfl⟩
theorem d_X1_make_108 : dec 3 cX1_make 108 (.getfield 109) 111 := ⟨by decide +kernel, rfl⟩
theorem d_X1_make_111 : decIL cX1_make 111 1 112 := Or.inr ⟨1, rfl, by decide +kernel, rfl⟩
theorem d_X1_make_112 : dec 1 cX1_make 112 .iaload 113 := ⟨by decide +kernel, rfl⟩
theorem d_X1_make_113 : decB cX1_make 113 (.if_icmp .ne 6) (6) 116 119 := ⟨by decide +kernel, rfl, by decide⟩
theorem d_X1_make_116 : dec 2 cX1_make 116 (.bipush (-3)) 118 := ⟨by decide +kernel, rfl⟩
theorem d_X1_make_118 : dec 1 cX1_make 118 .ireturn 119 := ⟨by decide +kernel, rfl⟩
theorem d_X1_make_119 : decAL cX1_make 119 0 120 := Or.inr ⟨0, rfl, by decide +kernel, rfl⟩
theorem d_X1_make_120 : dec 3 cX1_make 120 (.getfield 39) 123 := ⟨by decide +kernel, rfl⟩
theorem d_X1_make_123 : dec 3 cX1_make 123 (.invokevirtual 98) 126 := ⟨by decide +kernel, rfl⟩
theorem d_X1_make_126 : decB cX1_make 126 (.ifCond .eq 6) (6) 129 132 := ⟨by decide +kernel, rfl, by decide⟩
theorem d_X1_make_129 : dec 2 cX1_make 129 (.bipush (-4)) 131 := ⟨by decide +kernel, rfl⟩
theorem d_X1_make_131 : dec 1 cX1_make 131 .ireturn 132 := ⟨by decide +kernel, rfl⟩
theorem d_X1_make_132 : decAL cX1_make 132 0 133 := Or.inr ⟨0, rfl, by decide +kernel, rfl⟩
theorem d_X1_make_133 : dec 3 cX1_make 133 (.invokevirtual 112) 136 := ⟨by decide +kernel, rfl⟩
theorem d_X1_make_136 : decAL cX1_make 136 0 137 := Or.inr ⟨0, rfl, by decide +kernel, rfl⟩
theorem d_X1_make_137 : dec 3 cX1_make 137 (.getfield 39) 140 := ⟨by decide +kernel, rfl⟩
theorem d_X1_make_140 : decIL cX1_make 140 1 141 := Or.inr ⟨1, rfl, by decide +kernel, rfl⟩
theorem d_X1_make_141 : decIL cX1_make 141 2 142 := Or.inr ⟨2, rfl, by decide +kernel, rfl⟩
theorem d_X1_make_142 : decAL cX1_make 142 0 143 := Or.inr ⟨0, rfl, by decide +kernel, rfl⟩
theorem d_X1_make_143 : dec 3 cX1_make 143 (.getfield 26) 146 := ⟨by decide +kernel, rfl⟩
theorem d_X1_make_146 : decIL cX1_make 146 3 147 := Or.inr ⟨3, rfl, by decide +kernel, rfl⟩
theorem d_X1_make_147 : dec 1 cX1_make 147 (.iconst 4) 148 := ⟨by decide +kernel, rfl⟩
theorem d_X1_make_148 : dec 1 cX1_make 148 .imul 149 := ⟨by decide +kernel, rfl⟩
theorem d_X1_make_149 : dec 3 cX1_make 149 (.invokevirtual 115) 152 := ⟨by decide +kernel, rfl⟩
theorem d_X1_make_152 : dec 1 cX1_make 152 .ireturn 153 := ⟨by decide +kernel, rfl⟩
def g_X1_make (F : Nat) (rf_X1_fetch : Nat → Int32 → Int32 → Nat → GH → Option (Int32 × Nat × GH)) (v0 : Nat) (v1 : Int32) (v2 : Int32) (n : Nat) (G : GH) : Option (Int32 × Nat × GH) :=
  Option.bind (gI G v0 1 3) (fun (x1 : Int32) =>
  Option.bind (gI G v0 1 4) (fun (x2 : Int32) =>
  gnm (x1 - x2) (fun (y3 : Int32) =>
  if (12 : Int32) ≤ y3 then
  (cvI G v0 1 (f_X1_refuse F v0 v1 (-2 : Int32) n G) (fun (x6 : Int32) (n4 : Nat) (G5 : GH) =>
  some (x6, n4, G5)))
  else (cvP G v0 1 (f_X1_isOnWay F v0 v1 G) (fun (x7 : Int32) =>
  if x7 = 0 then
  (Option.bind (gR G v0 1 1) (fun (x8 : Nat) =>
  cvP G x8 7 (f_X7_isFull F x8 G) (fun (x9 : Int32) =>
  if x9 = 0 then
  (Option.bind (gR G v0 1 0) (fun (x10 : Nat) =>
  Option.bind (gR G x10 0 3) (fun (x11 : Nat) =>
  Option.bind (aI G x11 0 v1) (fun (x12 : Int32) =>
  Option.bind (aS G x11 0 v1 (x12 + (1 : Int32))) (fun (G13 : GH) =>
  Option.bind (gR G13 v0 1 0) (fun (x14 : Nat) =>
  Option.bind (gR G13 x14 0 3) (fun (x15 : Nat) =>
  Option.bind (aI G13 x15 0 v1) (fun (x16 : Int32) =>
  cvU G13 v0 1 (f_X1_push F v0 v1 n G13) (fun (n17 : Nat) (G18 : GH) =>
  cvI G18 v0 1 (g_X1_gather F rf_X1_fetch v0 v1 v2 (y3 * (4 : Int32)) n17 G18) (fun (x21 : Int32) (n19 : Nat) (G20 : GH) =>
  if (-1 : Int32) ≤ x21 then
  (Option.bind (gR G20 v0 1 0) (fun (x22 : Nat) =>
  Option.bind (gR G20 x22 0 0) (fun (x23 : Nat) =>
  Option.bind (gR G20 x23 3 4) (fun (x24 : Nat) =>
  Option.bind (aI G20 x24 0 v1) (fun (x25 : Int32) =>
  if x16 = x25 then
  (some ((-3 : Int32), n19, G20))
  else (Option.bind (gR G20 v0 1 1) (fun (x26 : Nat) =>
  cvP G20 x26 7 (f_X7_isFull F x26 G20) (fun (x27 : Int32) =>
  if x27 = 0 then
  (cvU G20 v0 1 (f_X1_pop F v0 n19 G20) (fun (n28 : Nat) (G29 : GH) =>
  Option.bind (gR G29 v0 1 1) (fun (x30 : Nat) =>
  Option.bind (gR G29 v0 1 6) (fun (x31 : Nat) =>
  cvI G29 x30 7 (f_X7_add F x30 v1 v2 x31 (y3 * (4 : Int32)) n28 G29) (fun (x34 : Int32) (n32 : Nat) (G33 : GH) =>
  some (x34, n32, G33))))))
  else (some ((-4 : Int32), n19, G20))))))))))
  else (some (x21, n19, G20))))))))))))
  else (cvI G v0 1 (f_X1_refuse F v0 v1 (-4 : Int32) n G) (fun (x37 : Int32) (n35 : Nat) (G36 : GH) =>
  some (x37, n35, G36))))))
  else (cvI G v0 1 (f_X1_refuse F v0 v1 (-2 : Int32) n G) (fun (x40 : Int32) (n38 : Nat) (G39 : GH) =>
  some (x40, n38, G39))))))))
set_option maxRecDepth 100000 in
set_option maxHeartbeats 4000000 in
theorem t_X1_make {E : GE} {F : Nat} {rf_X1_fetch : Nat → Int32 → Int32 → Nat → GH → Option (Int32 × Nat × GH)} {kf kl : Nat} {v0 : Nat} {v1 : Int32} {v2 : Int32} {n : Nat} {G : GH} {z : Int32 × Nat × GH} (hkf : 10 ≤ kf) (hkl : 200 ≤ kl) (hrf_X1_fetch : ∀ (u0 : Nat) (u1 : Int32) (u2 : Int32) (n : Nat) (G : GH) (z : Int32 × Nat × GH), rf_X1_fetch u0 u1 u2 n G = some z → GM E yX1_fetch cX1_fetch 7 (some .int) kf kl 0 0 [.ref u0, .int u1, .int u2] n G (some (.int z.1), z.2.1, z.2.2)) (h : g_X1_make F rf_X1_fetch v0 v1 v2 n G = some z) : GM E yX1_make cX1_make 6 (some .int) (kf + 2) (kl + 80) 0 0 [.ref v0, .int v1, .int v2] n G (some (.int z.1), z.2.1, z.2.2) := by
  refine GM.of (by decide) (Nat.le_of_ble_eq_true rfl) ?_
  show WG E RX1 "make" cX1_make 6 (some .int) (kf + 2) (kl + 80) 0 0 0 [(0, .ref v0), (1, .int v1), (2, .int v2)] [] n G (g_O E (some (.int z.1), z.2.1, z.2.2))
  unfold g_X1_make at h
  refine r_aload d_X1_make_0 rfl ?_
  refine r_getI h d_X1_make_1 pf_X1_15 (fun x1 h => ?_)
  refine r_aload d_X1_make_4 rfl ?_
  refine r_getI h d_X1_make_5 pf_X1_19 (fun x2 h => ?_)
  refine r_isub d_X1_make_8 ?_
  refine r_nmI h (fun y3 _ h => ?_)
  refine r_istore d_X1_make_9 rfl rfl ?_
  refine r_iload d_X1_make_10 rfl ?_
  refine r_bipush d_X1_make_11 bp_12 ?_
  refine r_icmp_ge h d_X1_make_13 (fun h => ?_) (fun h => ?_)
  · refine r_aload d_X1_make_24 rfl ?_
    refine r_iload d_X1_make_25 rfl ?_
    refine r_bipush d_X1_make_26 bp_m2 ?_
    refine r_invI [_, _] h (fun _ hq => s_X1_refuse hq) d_X1_make_28 pl_X1_95 py_X1_refuse pi_X1_refuse rfl rfl (g_room_of ⟨by omega, by omega, by omega, by omega⟩) (fun x6 n4 G5 h => ?_)
    exact r_iret h d_X1_make_31
  · refine r_aload d_X1_make_16 rfl ?_
    refine r_iload d_X1_make_17 rfl ?_
    refine r_invP [_] h (fun _ hq => s_X1_isOnWay hq) d_X1_make_18 pl_X1_91 py_X1_isOnWay pi_X1_isOnWay rfl rfl (g_room_of ⟨by omega, by omega, by omega, by omega⟩) (fun x7 h => ?_)
    refine r_if_eq h d_X1_make_21 (fun h => ?_) (fun h => ?_)
    · refine r_aload d_X1_make_32 rfl ?_
      refine r_getR h d_X1_make_33 pf_X1_39 (fun x8 h => ?_)
      refine r_invP [] h (fun _ hq => s_X7_isFull hq) d_X1_make_36 pl_X1_98 py_X7_isFull pi_X7_isFull rfl rfl (g_room_of ⟨by omega, by omega, by omega, by omega⟩) (fun x9 h => ?_)
      refine r_if_eq h d_X1_make_39 (fun h => ?_) (fun h => ?_)
      · refine r_aload d_X1_make_50 rfl ?_
        refine r_getR h d_X1_make_51 pf_X1_29 (fun x10 h => ?_)
        refine r_getR h d_X1_make_54 pf_X1_102 (fun x11 h => ?_)
        refine r_iload d_X1_make_57 rfl ?_
        refine r_dup2 d_X1_make_58 rfl rfl ?_
        refine r_iald h d_X1_make_59 (fun x12 h => ?_)
        refine r_iconst d_X1_make_60 ic_1 ?_
        refine r_iadd d_X1_make_61 ?_
        refine r_iast h d_X1_make_62 (fun G13 h => ?_)
        refine r_aload d_X1_make_63 rfl ?_
        refine r_getR h d_X1_make_64 pf_X1_29 (fun x14 h => ?_)
        refine r_getR h d_X1_make_67 pf_X1_102 (fun x15 h => ?_)
        refine r_iload d_X1_make_70 rfl ?_
        refine r_iald h d_X1_make_71 (fun x16 h => ?_)
        refine r_istore d_X1_make_72 rfl rfl ?_
        refine r_aload d_X1_make_74 rfl ?_
        refine r_iload d_X1_make_75 rfl ?_
        refine r_invU [_] h (fun _ hq => s_X1_push hq) d_X1_make_76 pl_X1_67 py_X1_push pi_X1_push rfl rfl (g_room_of ⟨by omega, by omega, by omega, by omega⟩) (fun n17 G18 h => ?_)
        refine r_aload d_X1_make_79 rfl ?_
        refine r_iload d_X1_make_80 rfl ?_
        refine r_iload d_X1_make_81 rfl ?_
        refine r_iload d_X1_make_82 rfl ?_
        refine r_iconst d_X1_make_83 ic_4 ?_
        refine r_imul d_X1_make_84 ?_
        refine r_invI [_, _, _] h (fun _ hq => t_X1_gather hkf hkl hrf_X1_fetch hq) d_X1_make_85 pl_X1_105 py_X1_gather pi_X1_gather rfl rfl (g_room_of ⟨by omega, by omega, by omega, by omega⟩) (fun x21 n19 G20 h => ?_)
        refine r_istore d_X1_make_88 rfl rfl ?_
        refine r_iload d_X1_make_90 rfl ?_
        refine r_iconst d_X1_make_92 ic_m1 ?_
        refine r_icmp_ge h d_X1_make_93 (fun h => ?_) (fun h => ?_)
        · refine r_iload d_X1_make_99 rfl ?_
          refine r_aload d_X1_make_101 rfl ?_
          refine r_getR h d_X1_make_102 pf_X1_29 (fun x22 h => ?_)
          refine r_getR h d_X1_make_105 pf_X1_74 (fun x23 h => ?_)
          refine r_getR h d_X1_make_108 pf_X1_109 (fun x24 h => ?_)
          refine r_iload d_X1_make_111 rfl ?_
          refine r_iald h d_X1_make_112 (fun x25 h => ?_)
          refine r_icmp_ne h d_X1_make_113 (fun h => ?_) (fun h => ?_)
          · refine r_aload d_X1_make_119 rfl ?_
            refine r_getR h d_X1_make_120 pf_X1_39 (fun x26 h => ?_)
            refine r_invP [] h (fun _ hq => s_X7_isFull hq) d_X1_make_123 pl_X1_98 py_X7_isFull pi_X7_isFull rfl rfl (g_room_of ⟨by omega, by omega, by omega, by omega⟩) (fun x27 h => ?_)
            refine r_if_eq h d_X1_make_126 (fun h => ?_) (fun h => ?_)
            · refine r_aload d_X1_make_132 rfl ?_
              refine r_invU [] h (fun _ hq => s_X1_pop hq) d_X1_make_133 pl_X1_112 py_X1_pop pi_X1_pop rfl rfl (g_room_of ⟨by omega, by omega, by omega, by omega⟩) (fun n28 G29 h => ?_)
              refine r_aload d_X1_make_136 rfl ?_
              refine r_getR h d_X1_make_137 pf_X1_39 (fun x30 h => ?_)
              refine r_iload d_X1_make_140 rfl ?_
              refine r_iload d_X1_make_141 rfl ?_
              refine r_aload d_X1_make_142 rfl ?_
              refine r_getR h d_X1_make_143 pf_X1_26 (fun x31 h => ?_)
              refine r_iload d_X1_make_146 rfl ?_
              refine r_iconst d_X1_make_147 ic_4 ?_
              refine r_imul d_X1_make_148 ?_
              refine r_invI [_, _, _, _] h (fun _ hq => s_X7_add hq) d_X1_make_149 pl_X1_115 py_X7_add pi_X7_add rfl rfl (g_room_of ⟨by omega, by omega, by omega, by omega⟩) (fun x34 n32 G33 h => ?_)
              exact r_iret h d_X1_make_152
            · refine r_bipush d_X1_make_129 bp_m4 ?_
              exact r_iret h d_X1_make_131
          · refine r_bipush d_X1_make_116 bp_m3 ?_
            exact r_iret h d_X1_make_118
        · refine r_iload d_X1_make_96 rfl ?_
          exact r_iret h d_X1_make_98
      · refine r_aload d_X1_make_42 rfl ?_
        refine r_iload d_X1_make_43 rfl ?_
        refine r_bipush d_X1_make_44 bp_m4 ?_
        refine r_invI [_, _] h (fun _ hq => s_X1_refuse hq) d_X1_make_46 pl_X1_95 py_X1_refuse pi_X1_refuse rfl rfl (g_room_of ⟨by omega, by omega, by omega, by omega⟩) (fun x37 n35 G36 h => ?_)
        exact r_iret h d_X1_make_49
    · refine r_aload d_X1_make_24 rfl ?_
      refine r_iload d_X1_make_25 rfl ?_
      refine r_bipush d_X1_make_26 bp_m2 ?_
      refine r_invI [_, _] h (fun _ hq => s_X1_refuse hq) d_X1_make_28 pl_X1_95 py_X1_refuse pi_X1_refuse rfl rfl (g_room_of ⟨by omega, by omega, by omega, by omega⟩) (fun x40 n38 G39 h => ?_)
      exact r_iret h d_X1_make_31
/-! X1_fetch -/
theorem py_X0_resolve : pY yX0_resolve cX0_resolve 5 (some .int) 2 := ⟨g_in 761 (by decide +kernel) rfl, g_in 98 (by decide +kernel) rfl, by decide, by decide, by decide +kernel⟩
theorem pi_X0_resolve : pI yX0_resolve 0 := ⟨g_in 759 (by decide +kernel) rfl, g_in 760 (by decide +kernel) rfl, (RX0, TX0, 6), rfl, rfl⟩
theorem pl_X1_71 : pL RX1 71 yX0_resolve := Or.inl (g_in 758 (by decide +kernel) rfl)
theorem pf_X1_78 : pF RX1 78 3 3 := ⟨RX3, TX3, 9, rfl, by decide, rfl, Or.inr ⟨"PlugBoard", g_in 191 (by decide +kernel) rfl⟩⟩
theorem py_X7_find : pY yX7_find cX7_find 4 (some .int) 2 := ⟨g_in 766 (by decide +kernel) rfl, g_in 99 (by decide +kernel) rfl, by decide, by decide, by decide +kernel⟩
theorem pi_X7_find : pI yX7_find 7 := ⟨g_in 764 (by decide +kernel) rfl, g_in 765 (by decide +kernel) rfl, (RX7, TX7, 7), rfl, rfl⟩
theorem pl_X1_83 : pL RX1 83 yX7_find := Or.inl (g_in 763 (by decide +kernel) rfl)
theorem py_X1_make : pY yX1_make cX1_make 6 (some .int) 2 := ⟨g_in 770 (by decide +kernel) rfl, g_in 102 (by decide +kernel) rfl, by decide, by decide, by decide +kernel⟩
theorem pi_X1_make : pI yX1_make 1 := ⟨g_in 769 (by decide +kernel) rfl, g_in 16 (by decide +kernel) rfl, (RX1, TX1, 7), rfl, rfl⟩
theorem pl_X1_88 : pL RX1 88 yX1_make := Or.inl (g_in 767 (by decide +kernel) rfl)
theorem d_X1_fetch_0 : decAL cX1_fetch 0 0 1 := Or.inr ⟨0, rfl, by decide +kernel, rfl⟩
theorem d_X1_fetch_1 : dec 3 cX1_fetch 1 (.getfield 29) 4 := ⟨by decide +kernel, rfl⟩
theorem d_X1_fetch_4 : decIL cX1_fetch 4 1 5 := Or.inr ⟨1, rfl, by decide +kernel, rfl⟩
theorem d_X1_fetch_5 : decIL cX1_fetch 5 2 6 := Or.inr ⟨2, rfl, by decide +kernel, rfl⟩
theorem d_X1_fetch_6 : dec 3 cX1_fetch 6 (.invokevirtual 71) 9 := ⟨by decide +kernel, rfl⟩
theorem d_X1_fetch_9 : decIS cX1_fetch 9 3 10 := Or.inr ⟨3, rfl, by decide +kernel, rfl⟩
theorem d_X1_fetch_10 : decAL cX1_fetch 10 0 11 := Or.inr ⟨0, rfl, by decide +kernel, rfl⟩
theorem d_X1_fetch_11 : dec 3 cX1_fetch 11 (.getfield 29) 14 := ⟨by decide +kernel, rfl⟩
theorem d_X1_fetch_14 : dec 3 cX1_fetch 14 (.getfield 74) 17 := ⟨by decide +kernel, rfl⟩
theorem d_X1_fetch_17 : dec 3 cX1_fetch 17 (.getfield 78) 20 := ⟨by decide +kernel, rfl⟩
theorem d_X1_fetch_20 : decIL cX1_fetch 20 3 21 := Or.inr ⟨3, rfl, by decide +kernel, rfl⟩
theorem d_X1_fetch_21 : dec 1 cX1_fetch 21 .iaload 22 := ⟨by decide +kernel, rfl⟩
theorem d_X1_fetch_22 : decIS cX1_fetch 22 4 24 := Or.inl ⟨by decide +kernel, rfl⟩
theorem d_X1_fetch_24 : decIL cX1_fetch 24 4 26 := Or.inl ⟨by decide +kernel, rfl⟩
theorem d_X1_fetch_26 : decB cX1_fetch 26 (.ifCond .ne 7) (7) 29 33 := ⟨by decide +kernel, rfl, by decide⟩
theorem d_X1_fetch_29 : dec 1 cX1_fetch 29 (.iconst 0) 30 := ⟨by decide +kernel, rfl⟩
theorem d_X1_fetch_30 : decB cX1_fetch 30 (.goto 4) (4) 33 34 := ⟨by decide +kernel, rfl, by decide⟩
theorem d_X1_fetch_33 : decIL cX1_fetch 33 2 34 := Or.inr ⟨2, rfl, by decide +kernel, rfl⟩
theorem d_X1_fetch_34 : decIS cX1_fetch 34 5 36 := Or.inl ⟨by decide +kernel, rfl⟩
theorem d_X1_fetch_36 : decIL cX1_fetch 36 4 38 := Or.inl ⟨by decide +kernel, rfl⟩
theorem d_X1_fetch_38 : dec 1 cX1_fetch 38 (.iconst 2) 39 := ⟨by decide +kernel, rfl⟩
theorem d_X1_fetch_39 : decB cX1_fetch 39 (.if_icmp .ne 7) (7) 42 46 := ⟨by decide +kernel, rfl, by decide⟩
theorem d_X1_fetch_42 : dec 1 cX1_fetch 42 (.iconst (-1)) 43 := ⟨by decide +kernel, rfl⟩
theorem d_X1_fetch_43 : decB cX1_fetch 43 (.goto 13) (13) 46 56 := ⟨by decide +kernel, rfl, by decide⟩
theorem d_X1_fetch_46 : decAL cX1_fetch 46 0 47 := Or.inr ⟨0, rfl, by decide +kernel, rfl⟩
theorem d_X1_fetch_47 : dec 3 cX1_fetch 47 (.getfield 39) 50 := ⟨by decide +kernel, rfl⟩
theorem d_X1_fetch_50 : decIL cX1_fetch 50 3 51 := Or.inr ⟨3, rfl, by decide +kernel, rfl⟩
theorem d_X1_fetch_51 : decIL cX1_fetch 51 5 53 := Or.inl ⟨by decide +kernel, rfl⟩
theorem d_X1_fetch_53 : dec 3 cX1_fetch 53 (.invokevirtual 83) 56 := ⟨by decide +kernel, rfl⟩
theorem d_X1_fetch_56 : decIS cX1_fetch 56 6 58 := Or.inl ⟨by decide +kernel, rfl⟩
theorem d_X1_fetch_58 : decIL cX1_fetch 58 6 60 := Or.inl ⟨by decide +kernel, rfl⟩
theorem d_X1_fetch_60 : dec 1 cX1_fetch 60 (.iconst (-1)) 61 := ⟨by decide +kernel, rfl⟩
theorem d_X1_fetch_61 : decB cX1_fetch 61 (.if_icmp .eq 8) (8) 64 69 := ⟨by decide +kernel, rfl, by decide⟩
theorem d_X1_fetch_64 : decIL cX1_fetch 64 6 66 := Or.inl ⟨by decide +kernel, rfl⟩
theorem d_X1_fetch_66 : decB cX1_fetch 66 (.goto 10) (10) 69 76 := ⟨by decide +kernel, rfl, by decide⟩
theorem d_X1_fetch_69 : decAL cX1_fetch 69 0 70 := Or.inr ⟨0, rfl, by decide +kernel, rfl⟩
theorem d_X1_fetch_70 : decIL cX1_fetch 70 3 71 := Or.inr ⟨3, rfl, by decide +kernel, rfl⟩
theorem d_X1_fetch_71 : decIL cX1_fetch 71 5 73 := Or.inl ⟨by decide +kernel, rfl⟩
theorem d_X1_fetch_73 : dec 3 cX1_fetch 73 (.invokevirtual 88) 76 := ⟨by decide +kernel, rfl⟩
theorem d_X1_fetch_76 : dec 1 cX1_fetch 76 .ireturn 77 := ⟨by decide +kernel, rfl⟩
def k_X1_fetch_56 (F : Nat) (rf_X1_fetch : Nat → Int32 → Int32 → Nat → GH → Option (Int32 × Nat × GH))  (v0 : Nat) (v3 : Int32) (v5 : Int32) (s0 : Int32) (n : Nat) (G : GH) : Option (Int32 × Nat × GH) :=
  if s0 = (-1 : Int32) then
  (cvI G v0 1 (g_X1_make F rf_X1_fetch v0 v3 v5 n G) (fun (x11 : Int32) (n9 : Nat) (G10 : GH) =>
  some (x11, n9, G10)))
  else (some (s0, n, G))
def k_X1_fetch_34 (F : Nat) (rf_X1_fetch : Nat → Int32 → Int32 → Nat → GH → Option (Int32 × Nat × GH))  (v0 : Nat) (v3 : Int32) (v4 : Int32) (s0 : Int32) (n : Nat) (G : GH) : Option (Int32 × Nat × GH) :=
  if v4 = (2 : Int32) then
  (k_X1_fetch_56 F rf_X1_fetch  v0 v3 s0 (-1 : Int32) n G)
  else (Option.bind (gR G v0 1 1) (fun (x7 : Nat) =>
  cvP G x7 7 (f_X7_find F x7 v3 s0 G) (fun (x8 : Int32) =>
  k_X1_fetch_56 F rf_X1_fetch  v0 v3 s0 x8 n G)))
def g_X1_fetch (F : Nat) (rf_X1_fetch : Nat → Int32 → Int32 → Nat → GH → Option (Int32 × Nat × GH)) (v0 : Nat) (v1 : Int32) (v2 : Int32) (n : Nat) (G : GH) : Option (Int32 × Nat × GH) :=
  Option.bind (gR G v0 1 0) (fun (x1 : Nat) =>
  cvP G x1 0 (f_X0_resolve F x1 v1 v2 G) (fun (x2 : Int32) =>
  Option.bind (gR G v0 1 0) (fun (x3 : Nat) =>
  Option.bind (gR G x3 0 0) (fun (x4 : Nat) =>
  Option.bind (gR G x4 3 3) (fun (x5 : Nat) =>
  Option.bind (aI G x5 0 x2) (fun (x6 : Int32) =>
  if x6 = 0 then
  (k_X1_fetch_34 F rf_X1_fetch  v0 x2 x6 (0 : Int32) n G)
  else (k_X1_fetch_34 F rf_X1_fetch  v0 x2 x6 v2 n G)))))))
set_option maxRecDepth 100000 in
set_option maxHeartbeats 4000000 in
theorem c_X1_fetch_56 {E : GE} {F : Nat} {rf_X1_fetch : Nat → Int32 → Int32 → Nat → GH → Option (Int32 × Nat × GH)} {kf kl : Nat}  {v0 : Nat} {v3 : Int32} {v5 : Int32} {s0 : Int32} {n : Nat} {G : GH} {z : Int32 × Nat × GH} (hkf : 10 ≤ kf) (hkl : 200 ≤ kl) (hrf_X1_fetch : ∀ (u0 : Nat) (u1 : Int32) (u2 : Int32) (n : Nat) (G : GH) (z : Int32 × Nat × GH), rf_X1_fetch u0 u1 u2 n G = some z → GM E yX1_fetch cX1_fetch 7 (some .int) kf kl 0 0 [.ref u0, .int u1, .int u2] n G (some (.int z.1), z.2.1, z.2.2))  (h : k_X1_fetch_56 F rf_X1_fetch  v0 v3 v5 s0 n G = some z) : WG E RX1 "fetch" cX1_fetch 7 (some .int) (kf + 3) (kl + 120) 0 0 56 [(0, .ref v0), (3, .int v3), (5, .int v5)] [.int s0] n G (g_O E (some (.int z.1), z.2.1, z.2.2)) := by
  unfold k_X1_fetch_56 at h
  refine r_istore d_X1_fetch_56 rfl rfl ?_
  refine r_iload d_X1_fetch_58 rfl ?_
  refine r_iconst d_X1_fetch_60 ic_m1 ?_
  refine r_icmp_eq h d_X1_fetch_61 (fun h => ?_) (fun h => ?_)
  · refine r_aload d_X1_fetch_69 rfl ?_
    refine r_iload d_X1_fetch_70 rfl ?_
    refine r_iload d_X1_fetch_71 rfl ?_
    refine r_invI [_, _] h (fun _ hq => t_X1_make hkf hkl hrf_X1_fetch hq) d_X1_fetch_73 pl_X1_88 py_X1_make pi_X1_make rfl rfl (g_room_of ⟨by omega, by omega, by omega, by omega⟩) (fun x11 n9 G10 h => ?_)
    exact r_iret h d_X1_fetch_76
  · refine r_iload d_X1_fetch_64 rfl ?_
    refine r_goto d_X1_fetch_66 ?_
    exact r_iret h d_X1_fetch_76
set_option maxRecDepth 100000 in
set_option maxHeartbeats 4000000 in
theorem c_X1_fetch_34 {E : GE} {F : Nat} {rf_X1_fetch : Nat → Int32 → Int32 → Nat → GH → Option (Int32 × Nat × GH)} {kf kl : Nat}  {v0 : Nat} {v3 : Int32} {v4 : Int32} {s0 : Int32} {n : Nat} {G : GH} {z : Int32 × Nat × GH} (hkf : 10 ≤ kf) (hkl : 200 ≤ kl) (hrf_X1_fetch : ∀ (u0 : Nat) (u1 : Int32) (u2 : Int32) (n : Nat) (G : GH) (z : Int32 × Nat × GH), rf_X1_fetch u0 u1 u2 n G = some z → GM E yX1_fetch cX1_fetch 7 (some .int) kf kl 0 0 [.ref u0, .int u1, .int u2] n G (some (.int z.1), z.2.1, z.2.2))  (h : k_X1_fetch_34 F rf_X1_fetch  v0 v3 v4 s0 n G = some z) : WG E RX1 "fetch" cX1_fetch 7 (some .int) (kf + 3) (kl + 120) 0 0 34 [(0, .ref v0), (3, .int v3), (4, .int v4)] [.int s0] n G (g_O E (some (.int z.1), z.2.1, z.2.2)) := by
  unfold k_X1_fetch_34 at h
  refine r_istore d_X1_fetch_34 rfl rfl ?_
  refine r_iload d_X1_fetch_36 rfl ?_
  refine r_iconst d_X1_fetch_38 ic_2 ?_
  refine r_icmp_ne h d_X1_fetch_39 (fun h => ?_) (fun h => ?_)
  · refine r_aload d_X1_fetch_46 rfl ?_
    refine r_getR h d_X1_fetch_47 pf_X1_39 (fun x7 h => ?_)
    refine r_iload d_X1_fetch_50 rfl ?_
    refine r_iload d_X1_fetch_51 rfl ?_
    refine r_invP [_, _] h (fun _ hq => s_X7_find hq) d_X1_fetch_53 pl_X1_83 py_X7_find pi_X7_find rfl rfl (g_room_of ⟨by omega, by omega, by omega, by omega⟩) (fun x8 h => ?_)
    refine r_lv [(0, .ref v0), (3, .int v3), (5, .int s0)] (g_allc rfl (g_allc rfl (g_allc rfl g_alln))) ?_
    exact c_X1_fetch_56 hkf hkl hrf_X1_fetch  h
  · refine r_iconst d_X1_fetch_42 ic_m1 ?_
    refine r_goto d_X1_fetch_43 ?_
    refine r_lv [(0, .ref v0), (3, .int v3), (5, .int s0)] (g_allc rfl (g_allc rfl (g_allc rfl g_alln))) ?_
    exact c_X1_fetch_56 hkf hkl hrf_X1_fetch  h
set_option maxRecDepth 100000 in
set_option maxHeartbeats 4000000 in
theorem t_X1_fetch {E : GE} {F : Nat} {rf_X1_fetch : Nat → Int32 → Int32 → Nat → GH → Option (Int32 × Nat × GH)} {kf kl : Nat} {v0 : Nat} {v1 : Int32} {v2 : Int32} {n : Nat} {G : GH} {z : Int32 × Nat × GH} (hkf : 10 ≤ kf) (hkl : 200 ≤ kl) (hrf_X1_fetch : ∀ (u0 : Nat) (u1 : Int32) (u2 : Int32) (n : Nat) (G : GH) (z : Int32 × Nat × GH), rf_X1_fetch u0 u1 u2 n G = some z → GM E yX1_fetch cX1_fetch 7 (some .int) kf kl 0 0 [.ref u0, .int u1, .int u2] n G (some (.int z.1), z.2.1, z.2.2)) (h : g_X1_fetch F rf_X1_fetch v0 v1 v2 n G = some z) : GM E yX1_fetch cX1_fetch 7 (some .int) (kf + 3) (kl + 120) 0 0 [.ref v0, .int v1, .int v2] n G (some (.int z.1), z.2.1, z.2.2) := by
  refine GM.of (by decide) (Nat.le_of_ble_eq_true rfl) ?_
  show WG E RX1 "fetch" cX1_fetch 7 (some .int) (kf + 3) (kl + 120) 0 0 0 [(0, .ref v0), (1, .int v1), (2, .int v2)] [] n G (g_O E (some (.int z.1), z.2.1, z.2.2))
  unfold g_X1_fetch at h
  refine r_aload d_X1_fetch_0 rfl ?_
  refine r_getR h d_X1_fetch_1 pf_X1_29 (fun x1 h => ?_)
  refine r_iload d_X1_fetch_4 rfl ?_
  refine r_iload d_X1_fetch_5 rfl ?_
  refine r_invP [_, _] h (fun _ hq => s_X0_resolve hq) d_X1_fetch_6 pl_X1_71 py_X0_resolve pi_X0_resolve rfl rfl (g_room_of ⟨by omega, by omega, by omega, by omega⟩) (fun x2 h => ?_)
  refine r_istore d_X1_fetch_9 rfl rfl ?_
  refine r_aload d_X1_fetch_10 rfl ?_
  refine r_getR h d_X1_fetch_11 pf_X1_29 (fun x3 h => ?_)
  refine r_getR h d_X1_fetch_14 pf_X1_74 (fun x4 h => ?_)
  refine r_getR h d_X1_fetch_17 pf_X1_78 (fun x5 h => ?_)
  refine r_iload d_X1_fetch_20 rfl ?_
  refine r_iald h d_X1_fetch_21 (fun x6 h => ?_)
  refine r_istore d_X1_fetch_22 rfl rfl ?_
  refine r_iload d_X1_fetch_24 rfl ?_
  refine r_if_ne h d_X1_fetch_26 (fun h => ?_) (fun h => ?_)
  · refine r_iload d_X1_fetch_33 rfl ?_
    refine r_lv [(0, .ref v0), (3, .int x2), (4, .int x6)] (g_allc rfl (g_allc rfl (g_allc rfl g_alln))) ?_
    exact c_X1_fetch_34 hkf hkl hrf_X1_fetch  h
  · refine r_iconst d_X1_fetch_29 ic_0 ?_
    refine r_goto d_X1_fetch_30 ?_
    refine r_lv [(0, .ref v0), (3, .int x2), (4, .int x6)] (g_allc rfl (g_allc rfl (g_allc rfl g_alln))) ?_
    exact c_X1_fetch_34 hkf hkl hrf_X1_fetch  h
def f_X1_fetch (F : Nat) : Nat → Int32 → Int32 → Nat → GH → Option (Int32 × Nat × GH) := fixN (fun _ _ _ _ _ => none) (fun rf => g_X1_fetch F rf) 14
theorem s_X1_fetch {E : GE} {F : Nat} {v0 : Nat} {v1 : Int32} {v2 : Int32} {n : Nat} {G : GH} {z : Int32 × Nat × GH} (h : f_X1_fetch F v0 v1 v2 n G = some z) : GM E yX1_fetch cX1_fetch 7 (some .int) 52 1880 0 0 [.ref v0, .int v1, .int v2] n G (some (.int z.1), z.2.1, z.2.2) := by
  have key : ∀ (d : Nat) (v0 : Nat) (v1 : Int32) (v2 : Int32) (n : Nat) (G : GH) (z : Int32 × Nat × GH), fixN ((fun _ _ _ _ _ => none) : Nat → Int32 → Int32 → Nat → GH → Option (Int32 × Nat × GH)) (fun rf => g_X1_fetch F rf) d v0 v1 v2 n G = some z → GM E yX1_fetch cX1_fetch 7 (some .int) (3 * d + 10) (120 * d + 200) 0 0 [.ref v0, .int v1, .int v2] n G (some (.int z.1), z.2.1, z.2.2) := by
    intro d
    induction d with
    | zero => intro v0 v1 v2 n G z h; cases h
    | succ d ih =>
      intro v0 v1 v2 n G z h
      have h2 := t_X1_fetch (E := E) (kf := 3 * d + 10) (kl := 120 * d + 200) (by omega) (by omega) ih h
      rw [show 3 * (d + 1) + 10 = 3 * d + 10 + 3 by omega, show 120 * (d + 1) + 200 = 120 * d + 200 + 120 by omega]
      exact h2
  exact key 14 _ _ _ _ _ _ h
/-! X1_tell -/
theorem pf_X1_57 : pF RX1 57 0 5 := ⟨RX0, TX0, 6, rfl, by decide, rfl, Or.inr ⟨"PlugBoard", g_in 320 (by decide +kernel) rfl⟩⟩
theorem py_X9_tellWhy : pY yX9_tellWhy cX9_tellWhy 4 none 3 := ⟨g_in 810 (by decide +kernel) rfl, g_in 100 (by decide +kernel) rfl, by decide, by decide, by decide +kernel⟩
theorem pi_X9_tellWhy : pI yX9_tellWhy 9 := ⟨g_in 808 (by decide +kernel) rfl, g_in 809 (by decide +kernel) rfl, (RX9, TX9, 5), rfl, rfl⟩
theorem pl_X1_61 : pL RX1 61 yX9_tellWhy := Or.inl (g_in 807 (by decide +kernel) rfl)
theorem d_X1_tell_0 : decIL cX1_tell 0 1 1 := Or.inr ⟨1, rfl, by decide +kernel, rfl⟩
theorem d_X1_tell_1 : dec 1 cX1_tell 1 (.iconst (-1)) 2 := ⟨by decide +kernel, rfl⟩
theorem d_X1_tell_2 : decB cX1_tell 2 (.if_icmp .ge 22) (22) 5 24 := ⟨by decide +kernel, rfl, by decide⟩
theorem d_X1_tell_5 : decAL cX1_tell 5 0 6 := Or.inr ⟨0, rfl, by decide +kernel, rfl⟩
theorem d_X1_tell_6 : dec 3 cX1_tell 6 (.getfield 29) 9 := ⟨by decide +kernel, rfl⟩
theorem d_X1_tell_9 : dec 3 cX1_tell 9 (.getfield 57) 12 := ⟨by decide +kernel, rfl⟩
theorem d_X1_tell_12 : decIL cX1_tell 12 1 13 := Or.inr ⟨1, rfl, by decide +kernel, rfl⟩
theorem d_X1_tell_13 : decAL cX1_tell 13 0 14 := Or.inr ⟨0, rfl, by decide +kernel, rfl⟩
theorem d_X1_tell_14 : dec 3 cX1_tell 14 (.getfield 9) 17 := ⟨by decide +kernel, rfl⟩
theorem d_X1_tell_17 : decAL cX1_tell 17 0 18 := Or.inr ⟨0, rfl, by decide +kernel, rfl⟩
theorem d_X1_tell_18 : dec 3 cX1_tell 18 (.getfield 15) 21 := ⟨by decide +kernel, rfl⟩
theorem d_X1_tell_21 : dec 3 cX1_tell 21 (.invokevirtual 61) 24 := ⟨by decide +kernel, rfl⟩
theorem d_X1_tell_24 : decIL cX1_tell 24 1 25 := Or.inr ⟨1, rfl, by decide +kernel, rfl⟩
theorem d_X1_tell_25 : dec 1 cX1_tell 25 .ireturn 26 := ⟨by decide +kernel, rfl⟩
def f_X1_tell (F : Nat)  (v0 : Nat) (v1 : Int32) (n : Nat) (G : GH) : Option (Int32 × Nat × GH) :=
  if (-1 : Int32) ≤ v1 then
  (some (v1, n, G))
  else (Option.bind (gR G v0 1 0) (fun (x1 : Nat) =>
  Option.bind (gR G x1 0 5) (fun (x2 : Nat) =>
  Option.bind (gR G v0 1 2) (fun (x3 : Nat) =>
  Option.bind (gI G v0 1 3) (fun (x4 : Int32) =>
  cvU G x2 9 (f_X9_tellWhy F x2 v1 x3 x4 n G) (fun (n5 : Nat) (G6 : GH) =>
  some (v1, n5, G6)))))))
set_option maxRecDepth 100000 in
set_option maxHeartbeats 4000000 in
theorem s_X1_tell {E : GE} {F : Nat}  {v0 : Nat} {v1 : Int32} {n : Nat} {G : GH} {z : Int32 × Nat × GH}  (h : f_X1_tell F  v0 v1 n G = some z) : GM E yX1_tell cX1_tell 2 (some .int) 2 63 0 0 [.ref v0, .int v1] n G (some (.int z.1), z.2.1, z.2.2) := by
  refine GM.of (by decide) (Nat.le_of_ble_eq_true rfl) ?_
  show WG E RX1 "tell" cX1_tell 2 (some .int) 2 63 0 0 0 [(0, .ref v0), (1, .int v1)] [] n G (g_O E (some (.int z.1), z.2.1, z.2.2))
  unfold f_X1_tell at h
  refine r_iload d_X1_tell_0 rfl ?_
  refine r_iconst d_X1_tell_1 ic_m1 ?_
  refine r_icmp_ge h d_X1_tell_2 (fun h => ?_) (fun h => ?_)
  · refine r_iload d_X1_tell_24 rfl ?_
    exact r_iret h d_X1_tell_25
  · refine r_aload d_X1_tell_5 rfl ?_
    refine r_getR h d_X1_tell_6 pf_X1_29 (fun x1 h => ?_)
    refine r_getR h d_X1_tell_9 pf_X1_57 (fun x2 h => ?_)
    refine r_iload d_X1_tell_12 rfl ?_
    refine r_aload d_X1_tell_13 rfl ?_
    refine r_getR h d_X1_tell_14 pf_X1_9 (fun x3 h => ?_)
    refine r_aload d_X1_tell_17 rfl ?_
    refine r_getI h d_X1_tell_18 pf_X1_15 (fun x4 h => ?_)
    refine r_invU [_, _, _] h (fun _ hq => s_X9_tellWhy hq) d_X1_tell_21 pl_X1_61 py_X9_tellWhy pi_X9_tellWhy rfl rfl rfl (fun n5 G6 h => ?_)
    refine r_iload d_X1_tell_24 rfl ?_
    exact r_iret h d_X1_tell_25
/-! X1_askFor -/
theorem py_X1_begin : pY yX1_begin cX1_begin 1 none 0 := ⟨g_in 753 (by decide +kernel) rfl, g_in 102 (by decide +kernel) rfl, by decide, by decide, by decide +kernel⟩
theorem pi_X1_begin : pI yX1_begin 1 := ⟨g_in 752 (by decide +kernel) rfl, g_in 14 (by decide +kernel) rfl, (RX1, TX1, 7), rfl, rfl⟩
theorem pl_X1_40 : pL RX1 40 yX1_begin := Or.inl (g_in 750 (by decide +kernel) rfl)
theorem pf_X1_43 : pF RX1 43 0 1 := ⟨RX0, TX0, 6, rfl, by decide, rfl, Or.inr ⟨"PlugBoard", g_in 310 (by decide +kernel) rfl⟩⟩
theorem py_X1_tell : pY yX1_tell cX1_tell 2 (some .int) 1 := ⟨g_in 806 (by decide +kernel) rfl, g_in 102 (by decide +kernel) rfl, by decide, by decide, by decide +kernel⟩
theorem pi_X1_tell : pI yX1_tell 1 := ⟨g_in 805 (by decide +kernel) rfl, g_in 22 (by decide +kernel) rfl, (RX1, TX1, 7), rfl, rfl⟩
theorem pl_X1_50 : pL RX1 50 yX1_tell := Or.inl (g_in 803 (by decide +kernel) rfl)
theorem d_X1_askFor_0 : decAL cX1_askFor 0 0 1 := Or.inr ⟨0, rfl, by decide +kernel, rfl⟩
theorem d_X1_askFor_1 : dec 3 cX1_askFor 1 (.invokevirtual 40) 4 := ⟨by decide +kernel, rfl⟩
theorem d_X1_askFor_4 : decAL cX1_askFor 4 0 5 := Or.inr ⟨0, rfl, by decide +kernel, rfl⟩
theorem d_X1_askFor_5 : decAL cX1_askFor 5 0 6 := Or.inr ⟨0, rfl, by decide +kernel, rfl⟩
theorem d_X1_askFor_6 : decIL cX1_askFor 6 1 7 := Or.inr ⟨1, rfl, by decide +kernel, rfl⟩
theorem d_X1_askFor_7 : decAL cX1_askFor 7 0 8 := Or.inr ⟨0, rfl, by decide +kernel, rfl⟩
theorem d_X1_askFor_8 : dec 3 cX1_askFor 8 (.getfield 29) 11 := ⟨by decide +kernel, rfl⟩
theorem d_X1_askFor_11 : dec 3 cX1_askFor 11 (.getfield 43) 14 := ⟨by decide +kernel, rfl⟩
theorem d_X1_askFor_14 : dec 3 cX1_askFor 14 (.invokevirtual 46) 17 := ⟨by decide +kernel, rfl⟩
theorem d_X1_askFor_17 : dec 3 cX1_askFor 17 (.invokevirtual 50) 20 := ⟨by decide +kernel, rfl⟩
theorem d_X1_askFor_20 : dec 1 cX1_askFor 20 .ireturn 21 := ⟨by decide +kernel, rfl⟩
def f_X1_askFor (F : Nat)  (v0 : Nat) (v1 : Int32) (n : Nat) (G : GH) : Option (Int32 × Nat × GH) :=
  cvU G v0 1 (f_X1_begin F v0 n G) (fun (n1 : Nat) (G2 : GH) =>
  Option.bind (gR G2 v0 1 0) (fun (x3 : Nat) =>
  Option.bind (gI G2 x3 0 1) (fun (x4 : Int32) =>
  cvI G2 v0 1 (f_X1_fetch F v0 v1 x4 n1 G2) (fun (x7 : Int32) (n5 : Nat) (G6 : GH) =>
  cvI G6 v0 1 (f_X1_tell F v0 x7 n5 G6) (fun (x10 : Int32) (n8 : Nat) (G9 : GH) =>
  some (x10, n8, G9))))))
set_option maxRecDepth 100000 in
set_option maxHeartbeats 4000000 in
theorem s_X1_askFor {E : GE} {F : Nat}  {v0 : Nat} {v1 : Int32} {n : Nat} {G : GH} {z : Int32 × Nat × GH}  (h : f_X1_askFor F  v0 v1 n G = some z) : GM E yX1_askFor cX1_askFor 2 (some .int) 53 1906 0 0 [.ref v0, .int v1] n G (some (.int z.1), z.2.1, z.2.2) := by
  refine GM.of (by decide) (Nat.le_of_ble_eq_true rfl) ?_
  show WG E RX1 "askFor" cX1_askFor 2 (some .int) 53 1906 0 0 0 [(0, .ref v0), (1, .int v1)] [] n G (g_O E (some (.int z.1), z.2.1, z.2.2))
  unfold f_X1_askFor at h
  refine r_aload d_X1_askFor_0 rfl ?_
  refine r_invU [] h (fun _ hq => s_X1_begin hq) d_X1_askFor_1 pl_X1_40 py_X1_begin pi_X1_begin rfl rfl rfl (fun n1 G2 h => ?_)
  refine r_aload d_X1_askFor_4 rfl ?_
  refine r_aload d_X1_askFor_5 rfl ?_
  refine r_iload d_X1_askFor_6 rfl ?_
  refine r_aload d_X1_askFor_7 rfl ?_
  refine r_getR h d_X1_askFor_8 pf_X1_29 (fun x3 h => ?_)
  refine r_getI h d_X1_askFor_11 pf_X1_43 (fun x4 h => ?_)
  refine r_invI [_, _] h (fun _ hq => s_X1_fetch hq) d_X1_askFor_14 pl_X1_46 py_X1_fetch pi_X1_fetch rfl rfl rfl (fun x7 n5 G6 h => ?_)
  refine r_invI [_] h (fun _ hq => s_X1_tell hq) d_X1_askFor_17 pl_X1_50 py_X1_tell pi_X1_tell rfl rfl rfl (fun x10 n8 G9 h => ?_)
  exact r_iret h d_X1_askFor_20
/-! X1_needOf -/
theorem pl_X1_160 : pL RX1 160 yX7_ownedAt := Or.inl (g_in 830 (by decide +kernel) rfl)
theorem pf_X1_136 : pF RX1 136 7 1 := ⟨RX7, TX7, 7, rfl, by decide, rfl, Or.inr ⟨"PlugBoard", g_in 248 (by decide +kernel) rfl⟩⟩
theorem py_X3_needAt : pY yX3_needAt cX3_needAt 3 (some .int) 2 := ⟨g_in 837 (by decide +kernel) rfl, g_in 97 (by decide +kernel) rfl, by decide, by decide, by decide +kernel⟩
theorem pi_X3_needAt : pI yX3_needAt 3 := ⟨g_in 835 (by decide +kernel) rfl, g_in 836 (by decide +kernel) rfl, (RX3, TX3, 9), rfl, rfl⟩
theorem pl_X1_163 : pL RX1 163 yX3_needAt := Or.inl (g_in 834 (by decide +kernel) rfl)
theorem pf_X1_166 : pF RX1 166 7 2 := ⟨RX7, TX7, 7, rfl, by decide, rfl, Or.inr ⟨"PlugBoard", g_in 252 (by decide +kernel) rfl⟩⟩
theorem py_X7_setOwned : pY yX7_setOwned cX7_setOwned 4 none 3 := ⟨g_in 842 (by decide +kernel) rfl, g_in 99 (by decide +kernel) rfl, by decide, by decide, by decide +kernel⟩
theorem pi_X7_setOwned : pI yX7_setOwned 7 := ⟨g_in 840 (by decide +kernel) rfl, g_in 841 (by decide +kernel) rfl, (RX7, TX7, 7), rfl, rfl⟩
theorem pl_X1_169 : pL RX1 169 yX7_setOwned := Or.inl (g_in 839 (by decide +kernel) rfl)
theorem d_X1_needOf_0 : decAL cX1_needOf 0 0 1 := Or.inr ⟨0, rfl, by decide +kernel, rfl⟩
theorem d_X1_needOf_1 : dec 3 cX1_needOf 1 (.getfield 39) 4 := ⟨by decide +kernel, rfl⟩
theorem d_X1_needOf_4 : decIL cX1_needOf 4 1 5 := Or.inr ⟨1, rfl, by decide +kernel, rfl⟩
theorem d_X1_needOf_5 : decIL cX1_needOf 5 2 6 := Or.inr ⟨2, rfl, by decide +kernel, rfl⟩
theorem d_X1_needOf_6 : dec 3 cX1_needOf 6 (.invokevirtual 160) 9 := ⟨by decide +kernel, rfl⟩
theorem d_X1_needOf_9 : decIS cX1_needOf 9 3 10 := Or.inr ⟨3, rfl, by decide +kernel, rfl⟩
theorem d_X1_needOf_10 : decIL cX1_needOf 10 3 11 := Or.inr ⟨3, rfl, by decide +kernel, rfl⟩
theorem d_X1_needOf_11 : dec 1 cX1_needOf 11 (.iconst (-1)) 12 := ⟨by decide +kernel, rfl⟩
theorem d_X1_needOf_12 : decB cX1_needOf 12 (.if_icmp .eq 5) (5) 15 17 := ⟨by decide +kernel, rfl, by decide⟩
theorem d_X1_needOf_15 : decIL cX1_needOf 15 3 16 := Or.inr ⟨3, rfl, by decide +kernel, rfl⟩
theorem d_X1_needOf_16 : dec 1 cX1_needOf 16 .ireturn 17 := ⟨by decide +kernel, rfl⟩
theorem d_X1_needOf_17 : decAL cX1_needOf 17 0 18 := Or.inr ⟨0, rfl, by decide +kernel, rfl⟩
theorem d_X1_needOf_18 : decAL cX1_needOf 18 0 19 := Or.inr ⟨0, rfl, by decide +kernel, rfl⟩
theorem d_X1_needOf_19 : dec 3 cX1_needOf 19 (.getfield 15) 22 := ⟨by decide +kernel, rfl⟩
theorem d_X1_needOf_22 : dec 3 cX1_needOf 22 (.putfield 19) 25 := ⟨by decide +kernel, rfl⟩
theorem d_X1_needOf_25 : decAL cX1_needOf 25 0 26 := Or.inr ⟨0, rfl, by decide +kernel, rfl⟩
theorem d_X1_needOf_26 : decAL cX1_needOf 26 0 27 := Or.inr ⟨0, rfl, by decide +kernel, rfl⟩
theorem d_X1_needOf_27 : dec 3 cX1_needOf 27 (.getfield 29) 30 := ⟨by decide +kernel, rfl⟩
theorem d_X1_needOf_30 : dec 3 cX1_needOf 30 (.getfield 74) 33 := ⟨by decide +kernel, rfl⟩
theorem d_X1_needOf_33 : decAL cX1_needOf 33 0 34 := Or.inr ⟨0, rfl, by decide +kernel, rfl⟩
theorem d_X1_needOf_34 : dec 3 cX1_needOf 34 (.getfield 39) 37 := ⟨by decide +kernel, rfl⟩
theorem d_X1_needOf_37 : dec 3 cX1_needOf 37 (.getfield 136) 40 := ⟨by decide +kernel, rfl⟩
theorem d_X1_needOf_40 : decIL cX1_needOf 40 1 41 := Or.inr ⟨1, rfl, by decide +kernel, rfl⟩
theorem d_X1_needOf_41 : dec 1 cX1_needOf 41 .iaload 42 := ⟨by decide +kernel, rfl⟩
theorem d_X1_needOf_42 : decIL cX1_needOf 42 2 43 := Or.inr ⟨2, rfl, by decide +kernel, rfl⟩
theorem d_X1_needOf_43 : dec 3 cX1_needOf 43 (.invokevirtual 163) 46 := ⟨by decide +kernel, rfl⟩
theorem d_X1_needOf_46 : decAL cX1_needOf 46 0 47 := Or.inr ⟨0, rfl, by decide +kernel, rfl⟩
theorem d_X1_needOf_47 : dec 3 cX1_needOf 47 (.getfield 39) 50 := ⟨by decide +kernel, rfl⟩
theorem d_X1_needOf_50 : dec 3 cX1_needOf 50 (.getfield 166) 53 := ⟨by decide +kernel, rfl⟩
theorem d_X1_needOf_53 : decIL cX1_needOf 53 1 54 := Or.inr ⟨1, rfl, by decide +kernel, rfl⟩
theorem d_X1_needOf_54 : dec 1 cX1_needOf 54 .iaload 55 := ⟨by decide +kernel, rfl⟩
theorem d_X1_needOf_55 : dec 3 cX1_needOf 55 (.invokevirtual 46) 58 := ⟨by decide +kernel, rfl⟩
theorem d_X1_needOf_58 : decIS cX1_needOf 58 4 60 := Or.inl ⟨by decide +kernel, rfl⟩
theorem d_X1_needOf_60 : decIL cX1_needOf 60 4 62 := Or.inl ⟨by decide +kernel, rfl⟩
theorem d_X1_needOf_62 : decB cX1_needOf 62 (.ifCond .lt 14) (14) 65 76 := ⟨by decide +kernel, rfl, by decide⟩
theorem d_X1_needOf_65 : decAL cX1_needOf 65 0 66 := Or.inr ⟨0, rfl, by decide +kernel, rfl⟩
theorem d_X1_needOf_66 : dec 3 cX1_needOf 66 (.getfield 39) 69 := ⟨by decide +kernel, rfl⟩
theorem d_X1_needOf_69 : decIL cX1_needOf 69 1 70 := Or.inr ⟨1, rfl, by decide +kernel, rfl⟩
theorem d_X1_needOf_70 : decIL cX1_needOf 70 2 71 := Or.inr ⟨2, rfl, by decide +kernel, rfl⟩
theorem d_X1_needOf_71 : decIL cX1_needOf 71 4 73 := Or.inl ⟨by decide +kernel, rfl⟩
theorem d_X1_needOf_73 : dec 3 cX1_needOf 73 (.invokevirtual 169) 76 := ⟨by decide +kernel, rfl⟩
theorem d_X1_needOf_76 : decIL cX1_needOf 76 4 78 := Or.inl ⟨by decide +kernel, rfl⟩
theorem d_X1_needOf_78 : dec 1 cX1_needOf 78 .ireturn 79 := ⟨by decide +kernel, rfl⟩
def f_X1_needOf (F : Nat)  (v0 : Nat) (v1 : Int32) (v2 : Int32) (n : Nat) (G : GH) : Option (Int32 × Nat × GH) :=
  Option.bind (gR G v0 1 1) (fun (x1 : Nat) =>
  cvP G x1 7 (f_X7_ownedAt F x1 v1 v2 G) (fun (x2 : Int32) =>
  if x2 = (-1 : Int32) then
  (Option.bind (gI G v0 1 3) (fun (x3 : Int32) =>
  Option.bind (pV G v0 1 4 (.int x3)) (fun (G4 : GH) =>
  Option.bind (gR G4 v0 1 0) (fun (x5 : Nat) =>
  Option.bind (gR G4 x5 0 0) (fun (x6 : Nat) =>
  Option.bind (gR G4 v0 1 1) (fun (x7 : Nat) =>
  Option.bind (gR G4 x7 7 1) (fun (x8 : Nat) =>
  Option.bind (aI G4 x8 0 v1) (fun (x9 : Int32) =>
  cvP G4 x6 3 (f_X3_needAt F x6 x9 v2 G4) (fun (x10 : Int32) =>
  Option.bind (gR G4 v0 1 1) (fun (x11 : Nat) =>
  Option.bind (gR G4 x11 7 2) (fun (x12 : Nat) =>
  Option.bind (aI G4 x12 0 v1) (fun (x13 : Int32) =>
  cvI G4 v0 1 (f_X1_fetch F v0 x10 x13 n G4) (fun (x16 : Int32) (n14 : Nat) (G15 : GH) =>
  if x16 < 0 then
  (some (x16, n14, G15))
  else (Option.bind (gR G15 v0 1 1) (fun (x17 : Nat) =>
  cvU G15 x17 7 (f_X7_setOwned F x17 v1 v2 x16 n14 G15) (fun (n18 : Nat) (G19 : GH) =>
  some (x16, n18, G19)))))))))))))))))
  else (some (x2, n, G))))
set_option maxRecDepth 100000 in
set_option maxHeartbeats 4000000 in
theorem s_X1_needOf {E : GE} {F : Nat}  {v0 : Nat} {v1 : Int32} {v2 : Int32} {n : Nat} {G : GH} {z : Int32 × Nat × GH}  (h : f_X1_needOf F  v0 v1 v2 n G = some z) : GM E yX1_needOf cX1_needOf 5 (some .int) 53 1906 0 0 [.ref v0, .int v1, .int v2] n G (some (.int z.1), z.2.1, z.2.2) := by
  refine GM.of (by decide) (Nat.le_of_ble_eq_true rfl) ?_
  show WG E RX1 "needOf" cX1_needOf 5 (some .int) 53 1906 0 0 0 [(0, .ref v0), (1, .int v1), (2, .int v2)] [] n G (g_O E (some (.int z.1), z.2.1, z.2.2))
  unfold f_X1_needOf at h
  refine r_aload d_X1_needOf_0 rfl ?_
  refine r_getR h d_X1_needOf_1 pf_X1_39 (fun x1 h => ?_)
  refine r_iload d_X1_needOf_4 rfl ?_
  refine r_iload d_X1_needOf_5 rfl ?_
  refine r_invP [_, _] h (fun _ hq => s_X7_ownedAt hq) d_X1_needOf_6 pl_X1_160 py_X7_ownedAt pi_X7_ownedAt rfl rfl rfl (fun x2 h => ?_)
  refine r_istore d_X1_needOf_9 rfl rfl ?_
  refine r_iload d_X1_needOf_10 rfl ?_
  refine r_iconst d_X1_needOf_11 ic_m1 ?_
  refine r_icmp_eq h d_X1_needOf_12 (fun h => ?_) (fun h => ?_)
  · refine r_aload d_X1_needOf_17 rfl ?_
    refine r_aload d_X1_needOf_18 rfl ?_
    refine r_getI h d_X1_needOf_19 pf_X1_15 (fun x3 h => ?_)
    refine r_put h d_X1_needOf_22 pw_X1_19 rfl rfl (fun G4 h => ?_)
    refine r_aload d_X1_needOf_25 rfl ?_
    refine r_aload d_X1_needOf_26 rfl ?_
    refine r_getR h d_X1_needOf_27 pf_X1_29 (fun x5 h => ?_)
    refine r_getR h d_X1_needOf_30 pf_X1_74 (fun x6 h => ?_)
    refine r_aload d_X1_needOf_33 rfl ?_
    refine r_getR h d_X1_needOf_34 pf_X1_39 (fun x7 h => ?_)
    refine r_getR h d_X1_needOf_37 pf_X1_136 (fun x8 h => ?_)
    refine r_iload d_X1_needOf_40 rfl ?_
    refine r_iald h d_X1_needOf_41 (fun x9 h => ?_)
    refine r_iload d_X1_needOf_42 rfl ?_
    refine r_invP [_, _] h (fun _ hq => s_X3_needAt hq) d_X1_needOf_43 pl_X1_163 py_X3_needAt pi_X3_needAt rfl rfl rfl (fun x10 h => ?_)
    refine r_aload d_X1_needOf_46 rfl ?_
    refine r_getR h d_X1_needOf_47 pf_X1_39 (fun x11 h => ?_)
    refine r_getR h d_X1_needOf_50 pf_X1_166 (fun x12 h => ?_)
    refine r_iload d_X1_needOf_53 rfl ?_
    refine r_iald h d_X1_needOf_54 (fun x13 h => ?_)
    refine r_invI [_, _] h (fun _ hq => s_X1_fetch hq) d_X1_needOf_55 pl_X1_46 py_X1_fetch pi_X1_fetch rfl rfl rfl (fun x16 n14 G15 h => ?_)
    refine r_istore d_X1_needOf_58 rfl rfl ?_
    refine r_iload d_X1_needOf_60 rfl ?_
    refine r_if_lt h d_X1_needOf_62 (fun h => ?_) (fun h => ?_)
    · refine r_iload d_X1_needOf_76 rfl ?_
      exact r_iret h d_X1_needOf_78
    · refine r_aload d_X1_needOf_65 rfl ?_
      refine r_getR h d_X1_needOf_66 pf_X1_39 (fun x17 h => ?_)
      refine r_iload d_X1_needOf_69 rfl ?_
      refine r_iload d_X1_needOf_70 rfl ?_
      refine r_iload d_X1_needOf_71 rfl ?_
      refine r_invU [_, _, _] h (fun _ hq => s_X7_setOwned hq) d_X1_needOf_73 pl_X1_169 py_X7_setOwned pi_X7_setOwned rfl rfl rfl (fun n18 G19 h => ?_)
      refine r_iload d_X1_needOf_76 rfl ?_
      exact r_iret h d_X1_needOf_78
  · refine r_iload d_X1_needOf_15 rfl ?_
    exact r_iret h d_X1_needOf_16
/-! X1_apply -/
theorem qm_max_l_X1_173 : Cond.methodLink RX1 173 Lib.Math.max.name ∈ g_tbl := g_in 846 (by decide +kernel) rfl
theorem qm_min_l_X1_178 : Cond.methodLink RX1 178 Lib.Math.min.name ∈ g_tbl := g_in 849 (by decide +kernel) rfl
theorem d_X1_apply_0 : decIL cX1_apply 0 0 1 := Or.inr ⟨0, rfl, by decide +kernel, rfl⟩
theorem d_X1_apply_1 : decode cX1_apply 1 = .ok (.tableswitch 59 1 5 #[35, 39, 43, 49, 55], 35) := by decide +kernel
theorem d_X1_apply_36 : decIL cX1_apply 36 1 37 := Or.inr ⟨1, rfl, by decide +kernel, rfl⟩
theorem d_X1_apply_37 : decIL cX1_apply 37 2 38 := Or.inr ⟨2, rfl, by decide +kernel, rfl⟩
theorem d_X1_apply_38 : dec 1 cX1_apply 38 .iadd 39 := ⟨by decide +kernel, rfl⟩
theorem d_X1_apply_39 : dec 1 cX1_apply 39 .ireturn 40 := ⟨by decide +kernel, rfl⟩
theorem d_X1_apply_40 : decIL cX1_apply 40 1 41 := Or.inr ⟨1, rfl, by decide +kernel, rfl⟩
theorem d_X1_apply_41 : decIL cX1_apply 41 2 42 := Or.inr ⟨2, rfl, by decide +kernel, rfl⟩
theorem d_X1_apply_42 : dec 1 cX1_apply 42 .imul 43 := ⟨by decide +kernel, rfl⟩
theorem d_X1_apply_43 : dec 1 cX1_apply 43 .ireturn 44 := ⟨by decide +kernel, rfl⟩
theorem d_X1_apply_44 : decIL cX1_apply 44 1 45 := Or.inr ⟨1, rfl, by decide +kernel, rfl⟩
theorem d_X1_apply_45 : decIL cX1_apply 45 2 46 := Or.inr ⟨2, rfl, by decide +kernel, rfl⟩
theorem d_X1_apply_46 : dec 3 cX1_apply 46 (.invokestatic 173) 49 := ⟨by decide +kernel, rfl⟩
theorem d_X1_apply_49 : dec 1 cX1_apply 49 .ireturn 50 := ⟨by decide +kernel, rfl⟩
theorem d_X1_apply_50 : decIL cX1_apply 50 1 51 := Or.inr ⟨1, rfl, by decide +kernel, rfl⟩
theorem d_X1_apply_51 : decIL cX1_apply 51 2 52 := Or.inr ⟨2, rfl, by decide +kernel, rfl⟩
theorem d_X1_apply_52 : dec 3 cX1_apply 52 (.invokestatic 178) 55 := ⟨by decide +kernel, rfl⟩
theorem d_X1_apply_55 : dec 1 cX1_apply 55 .ireturn 56 := ⟨by decide +kernel, rfl⟩
theorem d_X1_apply_56 : decIL cX1_apply 56 1 57 := Or.inr ⟨1, rfl, by decide +kernel, rfl⟩
theorem d_X1_apply_57 : decIL cX1_apply 57 2 58 := Or.inr ⟨2, rfl, by decide +kernel, rfl⟩
theorem d_X1_apply_58 : dec 1 cX1_apply 58 .isub 59 := ⟨by decide +kernel, rfl⟩
theorem d_X1_apply_59 : dec 1 cX1_apply 59 .ireturn 60 := ⟨by decide +kernel, rfl⟩
theorem d_X1_apply_60 : decIL cX1_apply 60 1 61 := Or.inr ⟨1, rfl, by decide +kernel, rfl⟩
theorem d_X1_apply_61 : dec 1 cX1_apply 61 .ireturn 62 := ⟨by decide +kernel, rfl⟩
def f_X1_apply (F : Nat)  (v0 : Int32) (v1 : Int32) (v2 : Int32) (G : GH) : Option (Int32) :=
  g_sw v0 [some (v1 + v2),
  some (v1 * v2),
  some (if v1 < v2 then v2 else v1),
  some (if v2 < v1 then v2 else v1),
  some (v1 - v2)] (some v1) 1
set_option maxRecDepth 100000 in
set_option maxHeartbeats 4000000 in
theorem s_X1_apply {E : GE} {F : Nat}  {v0 : Int32} {v1 : Int32} {v2 : Int32} {n : Nat} {G : GH} {z : Int32}  (h : f_X1_apply F  v0 v1 v2 G = some z) : GM E yX1_apply cX1_apply 3 (some .int) 1 40 0 0 [.int v0, .int v1, .int v2] n G (some (.int z), n, G) := by
  refine GM.of (by decide) (Nat.le_of_ble_eq_true rfl) ?_
  show WG E RX1 "apply" cX1_apply 3 (some .int) 1 40 0 0 0 [(0, .int v0), (1, .int v1), (2, .int v2)] [] n G (g_O E (some (.int z), n, G))
  unfold f_X1_apply at h
  refine r_iload d_X1_apply_0 rfl ?_
  refine r_switch (tg := 60) h [36, 40, 44, 50, 56] d_X1_apply_1 rfl rfl rfl (by decide) rfl (by decide) (g_swPc (fun h => ?_) (g_swPc (fun h => ?_) (g_swPc (fun h => ?_) (g_swPc (fun h => ?_) (g_swPc (fun h => ?_) (g_swPn)))))) (fun h => ?_)
  · refine r_iload d_X1_apply_36 rfl ?_
    refine r_iload d_X1_apply_37 rfl ?_
    refine r_iadd d_X1_apply_38 ?_
    exact r_pret h d_X1_apply_39
  · refine r_iload d_X1_apply_40 rfl ?_
    refine r_iload d_X1_apply_41 rfl ?_
    refine r_imul d_X1_apply_42 ?_
    exact r_pret h d_X1_apply_43
  · refine r_iload d_X1_apply_44 rfl ?_
    refine r_iload d_X1_apply_45 rfl ?_
    refine r_max d_X1_apply_46 qm_max_l_X1_173 qm_max_s qm_i qm_max_c rfl rfl ?_
    exact r_pret h d_X1_apply_49
  · refine r_iload d_X1_apply_50 rfl ?_
    refine r_iload d_X1_apply_51 rfl ?_
    refine r_min d_X1_apply_52 qm_min_l_X1_178 qm_min_s qm_i qm_min_c rfl rfl ?_
    exact r_pret h d_X1_apply_55
  · refine r_iload d_X1_apply_56 rfl ?_
    refine r_iload d_X1_apply_57 rfl ?_
    refine r_isub d_X1_apply_58 ?_
    exact r_pret h d_X1_apply_59
  · refine r_iload d_X1_apply_60 rfl ?_
    exact r_pret h d_X1_apply_61
/-! X1_reckon -/
theorem pl_X1_129 : pL RX1 129 yX7_holds := Or.inl (g_in 825 (by decide +kernel) rfl)
theorem pf_X1_132 : pF RX1 132 7 3 := ⟨RX7, TX7, 7, rfl, by decide, rfl, Or.inr ⟨"PlugBoard", g_in 255 (by decide +kernel) rfl⟩⟩
theorem pf_X1_22 : pF RX1 22 1 5 := ⟨RX1, TX1, 7, rfl, by decide, rfl, Or.inl (g_in 346 (by decide +kernel) rfl)⟩
theorem pf_X1_139 : pF RX1 139 3 2 := ⟨RX3, TX3, 9, rfl, by decide, rfl, Or.inr ⟨"PlugBoard", g_in 188 (by decide +kernel) rfl⟩⟩
theorem pf_X1_142 : pF RX1 142 3 1 := ⟨RX3, TX3, 9, rfl, by decide, rfl, Or.inr ⟨"PlugBoard", g_in 184 (by decide +kernel) rfl⟩⟩
theorem cl_X1_154 : Cond.constantLong RX1 154 (-1) ∈ g_tbl := g_in 850 (by decide +kernel) rfl
theorem py_X7_setValue : pY yX7_setValue cX7_setValue 3 none 2 := ⟨g_in 854 (by decide +kernel) rfl, g_in 99 (by decide +kernel) rfl, by decide, by decide, by decide +kernel⟩
theorem pi_X7_setValue : pI yX7_setValue 7 := ⟨g_in 852 (by decide +kernel) rfl, g_in 853 (by decide +kernel) rfl, (RX7, TX7, 7), rfl, rfl⟩
theorem pl_X1_156 : pL RX1 156 yX7_setValue := Or.inl (g_in 851 (by decide +kernel) rfl)
theorem py_X1_needOf : pY yX1_needOf cX1_needOf 5 (some .int) 2 := ⟨g_in 829 (by decide +kernel) rfl, g_in 102 (by decide +kernel) rfl, by decide, by decide, by decide +kernel⟩
theorem pi_X1_needOf : pI yX1_needOf 1 := ⟨g_in 828 (by decide +kernel) rfl, g_in 24 (by decide +kernel) rfl, (RX1, TX1, 7), rfl, rfl⟩
theorem pl_X1_145 : pL RX1 145 yX1_needOf := Or.inl (g_in 826 (by decide +kernel) rfl)
theorem py_X1_reckon : pY yX1_reckon cX1_reckon 11 (some .int) 1 := ⟨g_in 824 (by decide +kernel) rfl, g_in 102 (by decide +kernel) rfl, by decide, by decide, by decide +kernel⟩
theorem pi_X1_reckon : pI yX1_reckon 1 := ⟨g_in 823 (by decide +kernel) rfl, g_in 23 (by decide +kernel) rfl, (RX1, TX1, 7), rfl, rfl⟩
theorem pl_X1_54 : pL RX1 54 yX1_reckon := Or.inl (g_in 821 (by decide +kernel) rfl)
theorem pf_X1_148 : pF RX1 148 7 4 := ⟨RX7, TX7, 7, rfl, by decide, rfl, Or.inr ⟨"PlugBoard", g_in 258 (by decide +kernel) rfl⟩⟩
theorem py_X1_apply : pY yX1_apply cX1_apply 3 (some .int) 3 := ⟨g_in 845 (by decide +kernel) rfl, g_in 102 (by decide +kernel) rfl, by decide, by decide, by decide +kernel⟩
theorem ps_X1_apply : Cond.static yX1_apply ∈ g_tbl := g_in 844 (by decide +kernel) rfl
theorem pl_X1_151 : pL RX1 151 yX1_apply := Or.inl (g_in 843 (by decide +kernel) rfl)
theorem d_X1_reckon_0 : decAL cX1_reckon 0 0 1 := Or.inr ⟨0, rfl, by decide +kernel, rfl⟩
theorem d_X1_reckon_1 : dec 3 cX1_reckon 1 (.getfield 39) 4 := ⟨by decide +kernel, rfl⟩
theorem d_X1_reckon_4 : decIL cX1_reckon 4 1 5 := Or.inr ⟨1, rfl, by decide +kernel, rfl⟩
theorem d_X1_reckon_5 : dec 3 cX1_reckon 5 (.invokevirtual 129) 8 := ⟨by decide +kernel, rfl⟩
theorem d_X1_reckon_8 : decB cX1_reckon 8 (.ifCond .ne 5) (5) 11 13 := ⟨by decide +kernel, rfl, by decide⟩
theorem d_X1_reckon_11 : dec 1 cX1_reckon 11 (.iconst (-1)) 12 := ⟨by decide +kernel, rfl⟩
theorem d_X1_reckon_12 : dec 1 cX1_reckon 12 .ireturn 13 := ⟨by decide +kernel, rfl⟩
theorem d_X1_reckon_13 : decAL cX1_reckon 13 0 14 := Or.inr ⟨0, rfl, by decide +kernel, rfl⟩
theorem d_X1_reckon_14 : dec 3 cX1_reckon 14 (.getfield 39) 17 := ⟨by decide +kernel, rfl⟩
theorem d_X1_reckon_17 : dec 3 cX1_reckon 17 (.getfield 132) 20 := ⟨by decide +kernel, rfl⟩
theorem d_X1_reckon_20 : decIL cX1_reckon 20 1 21 := Or.inr ⟨1, rfl, by decide +kernel, rfl⟩
theorem d_X1_reckon_21 : dec 1 cX1_reckon 21 .baload 22 := ⟨by decide +kernel, rfl⟩
theorem d_X1_reckon_22 : decB cX1_reckon 22 (.ifCond .eq 5) (5) 25 27 := ⟨by decide +kernel, rfl, by decide⟩
theorem d_X1_reckon_25 : dec 1 cX1_reckon 25 (.iconst 1) 26 := ⟨by decide +kernel, rfl⟩
theorem d_X1_reckon_26 : dec 1 cX1_reckon 26 .ireturn 27 := ⟨by decide +kernel, rfl⟩
theorem d_X1_reckon_27 : decAL cX1_reckon 27 0 28 := Or.inr ⟨0, rfl, by decide +kernel, rfl⟩
theorem d_X1_reckon_28 : dec 3 cX1_reckon 28 (.getfield 39) 31 := ⟨by decide +kernel, rfl⟩
theorem d_X1_reckon_31 : dec 3 cX1_reckon 31 (.getfield 136) 34 := ⟨by decide +kernel, rfl⟩
theorem d_X1_reckon_34 : decIL cX1_reckon 34 1 35 := Or.inr ⟨1, rfl, by decide +kernel, rfl⟩
theorem d_X1_reckon_35 : dec 1 cX1_reckon 35 .iaload 36 := ⟨by decide +kernel, rfl⟩
theorem d_X1_reckon_36 : decIS cX1_reckon 36 2 37 := Or.inr ⟨2, rfl, by decide +kernel, rfl⟩
theorem d_X1_reckon_37 : dec 1 cX1_reckon 37 (.lconst 1) 38 := ⟨by decide +kernel, rfl⟩
theorem d_X1_reckon_38 : decIL cX1_reckon 38 1 39 := Or.inr ⟨1, rfl, by decide +kernel, rfl⟩
theorem d_X1_reckon_39 : dec 1 cX1_reckon 39 .lshl 40 := ⟨by decide +kernel, rfl⟩
theorem d_X1_reckon_40 : decLS cX1_reckon 40 3 41 := Or.inr ⟨3, rfl, by decide +kernel, rfl⟩
theorem d_X1_reckon_41 : decAL cX1_reckon 41 0 42 := Or.inr ⟨0, rfl, by decide +kernel, rfl⟩
theorem d_X1_reckon_42 : dec 3 cX1_reckon 42 (.getfield 15) 45 := ⟨by decide +kernel, rfl⟩
theorem d_X1_reckon_45 : dec 2 cX1_reckon 45 (.bipush 60) 47 := ⟨by decide +kernel, rfl⟩
theorem d_X1_reckon_47 : decB cX1_reckon 47 (.if_icmp .ge 14) (14) 50 61 := ⟨by decide +kernel, rfl, by decide⟩
theorem d_X1_reckon_50 : decAL cX1_reckon 50 0 51 := Or.inr ⟨0, rfl, by decide +kernel, rfl⟩
theorem d_X1_reckon_51 : dec 3 cX1_reckon 51 (.getfield 22) 54 := ⟨by decide +kernel, rfl⟩
theorem d_X1_reckon_54 : decLL cX1_reckon 54 3 55 := Or.inr ⟨3, rfl, by decide +kernel, rfl⟩
theorem d_X1_reckon_55 : dec 1 cX1_reckon 55 .land 56 := ⟨by decide +kernel, rfl⟩
theorem d_X1_reckon_56 : dec 1 cX1_reckon 56 (.lconst 0) 57 := ⟨by decide +kernel, rfl⟩
theorem d_X1_reckon_57 : dec 1 cX1_reckon 57 .lcmp 58 := ⟨by decide +kernel, rfl⟩
theorem d_X1_reckon_58 : decB cX1_reckon 58 (.ifCond .eq 11) (11) 61 69 := ⟨by decide +kernel, rfl, by decide⟩
theorem d_X1_reckon_61 : decAL cX1_reckon 61 0 62 := Or.inr ⟨0, rfl, by decide +kernel, rfl⟩
theorem d_X1_reckon_62 : decIL cX1_reckon 62 2 63 := Or.inr ⟨2, rfl, by decide +kernel, rfl⟩
theorem d_X1_reckon_63 : dec 2 cX1_reckon 63 (.bipush (-2)) 65 := ⟨by decide +kernel, rfl⟩
theorem d_X1_reckon_65 : dec 3 cX1_reckon 65 (.invokevirtual 95) 68 := ⟨by decide +kernel, rfl⟩
theorem d_X1_reckon_68 : dec 1 cX1_reckon 68 .ireturn 69 := ⟨by decide +kernel, rfl⟩
theorem d_X1_reckon_69 : decAL cX1_reckon 69 0 70 := Or.inr ⟨0, rfl, by decide +kernel, rfl⟩
theorem d_X1_reckon_70 : decIL cX1_reckon 70 2 71 := Or.inr ⟨2, rfl, by decide +kernel, rfl⟩
theorem d_X1_reckon_71 : dec 3 cX1_reckon 71 (.invokevirtual 67) 74 := ⟨by decide +kernel, rfl⟩
theorem d_X1_reckon_74 : decAL cX1_reckon 74 0 75 := Or.inr ⟨0, rfl, by decide +kernel, rfl⟩
theorem d_X1_reckon_75 : dec 1 cX1_reckon 75 .dup 76 := ⟨by decide +kernel, rfl⟩
theorem d_X1_reckon_76 : dec 3 cX1_reckon 76 (.getfield 22) 79 := ⟨by decide +kernel, rfl⟩
theorem d_X1_reckon_79 : decLL cX1_reckon 79 3 80 := Or.inr ⟨3, rfl, by decide +kernel, rfl⟩
theorem d_X1_reckon_80 : dec 1 cX1_reckon 80 .lor 81 := ⟨by decide +kernel, rfl⟩
theorem d_X1_reckon_81 : dec 3 cX1_reckon 81 (.putfield 22) 84 := ⟨by decide +kernel, rfl⟩
theorem d_X1_reckon_84 : decAL cX1_reckon 84 0 85 := Or.inr ⟨0, rfl, by decide +kernel, rfl⟩
theorem d_X1_reckon_85 : dec 3 cX1_reckon 85 (.getfield 29) 88 := ⟨by decide +kernel, rfl⟩
theorem d_X1_reckon_88 : dec 3 cX1_reckon 88 (.getfield 74) 91 := ⟨by decide +kernel, rfl⟩
theorem d_X1_reckon_91 : dec 3 cX1_reckon 91 (.getfield 139) 94 := ⟨by decide +kernel, rfl⟩
theorem d_X1_reckon_94 : decIL cX1_reckon 94 2 95 := Or.inr ⟨2, rfl, by decide +kernel, rfl⟩
theorem d_X1_reckon_95 : dec 1 cX1_reckon 95 .iaload 96 := ⟨by decide +kernel, rfl⟩
theorem d_X1_reckon_96 : decIS cX1_reckon 96 5 98 := Or.inl ⟨by decide +kernel, rfl⟩
theorem d_X1_reckon_98 : decAL cX1_reckon 98 0 99 := Or.inr ⟨0, rfl, by decide +kernel, rfl⟩
theorem d_X1_reckon_99 : dec 3 cX1_reckon 99 (.getfield 29) 102 := ⟨by decide +kernel, rfl⟩
theorem d_X1_reckon_102 : dec 3 cX1_reckon 102 (.getfield 74) 105 := ⟨by decide +kernel, rfl⟩
theorem d_X1_reckon_105 : dec 3 cX1_reckon 105 (.getfield 142) 108 := ⟨by decide +kernel, rfl⟩
theorem d_X1_reckon_108 : decIL cX1_reckon 108 2 109 := Or.inr ⟨2, rfl, by decide +kernel, rfl⟩
theorem d_X1_reckon_109 : dec 1 cX1_reckon 109 .iaload 110 := ⟨by decide +kernel, rfl⟩
theorem d_X1_reckon_110 : decIS cX1_reckon 110 6 112 := Or.inl ⟨by decide +kernel, rfl⟩
theorem d_X1_reckon_112 : decIL cX1_reckon 112 6 114 := Or.inl ⟨by decide +kernel, rfl⟩
theorem d_X1_reckon_114 : decB cX1_reckon 114 (.ifCond .ne 7) (7) 117 121 := ⟨by decide +kernel, rfl, by decide⟩
theorem d_X1_reckon_117 : dec 1 cX1_reckon 117 (.iconst 0) 118 := ⟨by decide +kernel, rfl⟩
theorem d_X1_reckon_118 : decB cX1_reckon 118 (.goto 15) (15) 121 133 := ⟨by decide +kernel, rfl, by decide⟩
theorem d_X1_reckon_121 : decAL cX1_reckon 121 0 122 := Or.inr ⟨0, rfl, by decide +kernel, rfl⟩
theorem d_X1_reckon_122 : dec 3 cX1_reckon 122 (.getfield 29) 125 := ⟨by decide +kernel, rfl⟩
theorem d_X1_reckon_125 : dec 3 cX1_reckon 125 (.getfield 74) 128 := ⟨by decide +kernel, rfl⟩
theorem d_X1_reckon_128 : dec 3 cX1_reckon 128 (.getfield 119) 131 := ⟨by decide +kernel, rfl⟩
theorem d_X1_reckon_131 : decIL cX1_reckon 131 2 132 := Or.inr ⟨2, rfl, by decide +kernel, rfl⟩
theorem d_X1_reckon_132 : dec 1 cX1_reckon 132 .iaload 133 := ⟨by decide +kernel, rfl⟩
theorem d_X1_reckon_133 : decIS cX1_reckon 133 7 135 := Or.inl ⟨by decide +kernel, rfl⟩
theorem d_X1_reckon_135 : dec 1 cX1_reckon 135 (.iconst 0) 136 := ⟨by decide +kernel, rfl⟩
theorem d_X1_reckon_136 : decIS cX1_reckon 136 8 138 := Or.inl ⟨by decide +kernel, rfl⟩
theorem d_X1_reckon_138 : decIL cX1_reckon 138 8 140 := Or.inl ⟨by decide +kernel, rfl⟩
theorem d_X1_reckon_140 : decIL cX1_reckon 140 7 142 := Or.inl ⟨by decide +kernel, rfl⟩
theorem d_X1_reckon_142 : decB cX1_reckon 142 (.if_icmp .ge 63) (63) 145 205 := ⟨by decide +kernel, rfl, by decide⟩
theorem d_X1_reckon_145 : decAL cX1_reckon 145 0 146 := Or.inr ⟨0, rfl, by decide +kernel, rfl⟩
theorem d_X1_reckon_146 : decIL cX1_reckon 146 1 147 := Or.inr ⟨1, rfl, by decide +kernel, rfl⟩
theorem d_X1_reckon_147 : decIL cX1_reckon 147 8 149 := Or.inl ⟨by decide +kernel, rfl⟩
theorem d_X1_reckon_149 : dec 3 cX1_reckon 149 (.invokevirtual 145) 152 := ⟨by decide +kernel, rfl⟩
theorem d_X1_reckon_152 : decIS cX1_reckon 152 9 154 := Or.inl ⟨by decide +kernel, rfl⟩
theorem d_X1_reckon_154 : decIL cX1_reckon 154 9 156 := Or.inl ⟨by decide +kernel, rfl⟩
theorem d_X1_reckon_156 : decB cX1_reckon 156 (.ifCond .ge 8) (8) 159 164 := ⟨by decide +kernel, rfl, by decide⟩
theorem d_X1_reckon_159 : decIL cX1_reckon 159 9 161 := Or.inl ⟨by decide +kernel, rfl⟩
theorem d_X1_reckon_161 : decB cX1_reckon 161 (.goto 9) (9) 164 170 := ⟨by decide +kernel, rfl, by decide⟩
theorem d_X1_reckon_164 : decAL cX1_reckon 164 0 165 := Or.inr ⟨0, rfl, by decide +kernel, rfl⟩
theorem d_X1_reckon_165 : decIL cX1_reckon 165 9 167 := Or.inl ⟨by decide +kernel, rfl⟩
theorem d_X1_reckon_167 : dec 3 cX1_reckon 167 (.invokevirtual 54) 170 := ⟨by decide +kernel, rfl⟩
theorem d_X1_reckon_170 : decIS cX1_reckon 170 10 172 := Or.inl ⟨by decide +kernel, rfl⟩
theorem d_X1_reckon_172 : decIL cX1_reckon 172 10 174 := Or.inl ⟨by decide +kernel, rfl⟩
theorem d_X1_reckon_174 : decB cX1_reckon 174 (.ifCond .ge 6) (6) 177 180 := ⟨by decide +kernel, rfl, by decide⟩
theorem d_X1_reckon_177 : decIL cX1_reckon 177 10 179 := Or.inl ⟨by decide +kernel, rfl⟩
theorem d_X1_reckon_179 : dec 1 cX1_reckon 179 .ireturn 180 := ⟨by decide +kernel, rfl⟩
theorem d_X1_reckon_180 : decIL cX1_reckon 180 6 182 := Or.inl ⟨by decide +kernel, rfl⟩
theorem d_X1_reckon_182 : decIL cX1_reckon 182 5 184 := Or.inl ⟨by decide +kernel, rfl⟩
theorem d_X1_reckon_184 : decAL cX1_reckon 184 0 185 := Or.inr ⟨0, rfl, by decide +kernel, rfl⟩
theorem d_X1_reckon_185 : dec 3 cX1_reckon 185 (.getfield 39) 188 := ⟨by decide +kernel, rfl⟩
theorem d_X1_reckon_188 : dec 3 cX1_reckon 188 (.getfield 148) 191 := ⟨by decide +kernel, rfl⟩
theorem d_X1_reckon_191 : decIL cX1_reckon 191 9 193 := Or.inl ⟨by decide +kernel, rfl⟩
theorem d_X1_reckon_193 : dec 1 cX1_reckon 193 .iaload 194 := ⟨by decide +kernel, rfl⟩
theorem d_X1_reckon_194 : dec 3 cX1_reckon 194 (.invokestatic 151) 197 := ⟨by decide +kernel, rfl⟩
theorem d_X1_reckon_197 : decIS cX1_reckon 197 5 199 := Or.inl ⟨by decide +kernel, rfl⟩
theorem d_X1_reckon_199 : dec 3 cX1_reckon 199 (.iinc 8 1) 202 := ⟨by decide +kernel, rfl⟩
theorem d_X1_reckon_202 : decB cX1_reckon 202 (.goto (-64)) (-64) 205 138 := ⟨by decide +kernel, rfl, by decide⟩
theorem d_X1_reckon_205 : decAL cX1_reckon 205 0 206 := Or.inr ⟨0, rfl, by decide +kernel, rfl⟩
theorem d_X1_reckon_206 : dec 3 cX1_reckon 206 (.invokevirtual 112) 209 := ⟨by decide +kernel, rfl⟩
theorem d_X1_reckon_209 : decAL cX1_reckon 209 0 210 := Or.inr ⟨0, rfl, by decide +kernel, rfl⟩
theorem d_X1_reckon_210 : dec 1 cX1_reckon 210 .dup 211 := ⟨by decide +kernel, rfl⟩
theorem d_X1_reckon_211 : dec 3 cX1_reckon 211 (.getfield 22) 214 := ⟨by decide +kernel, rfl⟩
theorem d_X1_reckon_214 : decLL cX1_reckon 214 3 215 := Or.inr ⟨3, rfl, by decide +kernel, rfl⟩
theorem d_X1_reckon_215 : dec 3 cX1_reckon 215 (.ldc2_w 154) 218 := ⟨by decide +kernel, rfl⟩
theorem d_X1_reckon_218 : dec 1 cX1_reckon 218 .lxor 219 := ⟨by decide +kernel, rfl⟩
theorem d_X1_reckon_219 : dec 1 cX1_reckon 219 .land 220 := ⟨by decide +kernel, rfl⟩
theorem d_X1_reckon_220 : dec 3 cX1_reckon 220 (.putfield 22) 223 := ⟨by decide +kernel, rfl⟩
theorem d_X1_reckon_223 : decAL cX1_reckon 223 0 224 := Or.inr ⟨0, rfl, by decide +kernel, rfl⟩
theorem d_X1_reckon_224 : dec 3 cX1_reckon 224 (.getfield 39) 227 := ⟨by decide +kernel, rfl⟩
theorem d_X1_reckon_227 : decIL cX1_reckon 227 1 228 := Or.inr ⟨1, rfl, by decide +kernel, rfl⟩
theorem d_X1_reckon_228 : decIL cX1_reckon 228 5 230 := Or.inl ⟨by decide +kernel, rfl⟩
theorem d_X1_reckon_230 : dec 3 cX1_reckon 230 (.invokevirtual 156) 233 := ⟨by decide +kernel, rfl⟩
theorem d_X1_reckon_233 : dec 1 cX1_reckon 233 (.iconst 1) 234 := ⟨by decide +kernel, rfl⟩
theorem d_X1_reckon_234 : dec 1 cX1_reckon 234 .ireturn 235 := ⟨by decide +kernel, rfl⟩
def k_X1_reckon_205 (F : Nat) (rf_X1_reckon : Nat → Int32 → Nat → GH → Option (Int32 × Nat × GH))  (v0 : Nat) (v1 : Int32) (v3 : Int64) (v5 : Int32)  (n : Nat) (G : GH) : Option (Int32 × Nat × GH) :=
  cvU G v0 1 (f_X1_pop F v0 n G) (fun (n31 : Nat) (G32 : GH) =>
  Option.bind (gJ G32 v0 1 5) (fun (x33 : Int64) =>
  Option.bind (pV G32 v0 1 5 (.long (x33 &&& (v3 ^^^ (-1 : Int64))))) (fun (G34 : GH) =>
  Option.bind (gR G34 v0 1 1) (fun (x35 : Nat) =>
  cvU G34 x35 7 (f_X7_setValue F x35 v1 v5 n31 G34) (fun (n36 : Nat) (G37 : GH) =>
  some ((1 : Int32), n36, G37))))))
def k_X1_reckon_170 (F : Nat) (rf_X1_reckon : Nat → Int32 → Nat → GH → Option (Int32 × Nat × GH)) (rec138 : Int32 → Int32 → Nat → GH → Option (Int32 × Nat × GH)) (v0 : Nat) (v1 : Int32) (v3 : Int64) (v5 : Int32) (v6 : Int32) (v7 : Int32) (v8 : Int32) (v9 : Int32) (s0 : Int32) (n : Nat) (G : GH) : Option (Int32 × Nat × GH) :=
  if 0 ≤ s0 then
  (Option.bind (gR G v0 1 1) (fun (x44 : Nat) =>
  Option.bind (gR G x44 7 4) (fun (x45 : Nat) =>
  Option.bind (aI G x45 0 v9) (fun (x46 : Int32) =>
  Option.bind (f_X1_apply F v6 v5 x46 G) (fun (x47 : Int32) =>
  rec138 x47 (v8 + 1) n G)))))
  else (some (s0, n, G))
def b_X1_reckon_138 (F : Nat) (rf_X1_reckon : Nat → Int32 → Nat → GH → Option (Int32 × Nat × GH))  (v0 : Nat) (v1 : Int32) (v3 : Int64) (v6 : Int32) (v7 : Int32) (rec138 : Int32 → Int32 → Nat → GH → Option (Int32 × Nat × GH)) : Int32 → Int32 → Nat → GH → Option (Int32 × Nat × GH) := fun v5 v8 n G =>
  if v7 ≤ v8 then
  (k_X1_reckon_205 F rf_X1_reckon  v0 v1 v3 v5 n G)
  else (cvI G v0 1 (f_X1_needOf F v0 v1 v8 n G) (fun (x40 : Int32) (n38 : Nat) (G39 : GH) =>
  if 0 ≤ x40 then
  (cvI G39 v0 1 (rf_X1_reckon v0 x40 n38 G39) (fun (x43 : Int32) (n41 : Nat) (G42 : GH) =>
  k_X1_reckon_170 F rf_X1_reckon rec138 v0 v1 v3 v5 v6 v7 v8 x40 x43 n41 G42))
  else (k_X1_reckon_170 F rf_X1_reckon rec138 v0 v1 v3 v5 v6 v7 v8 x40 x40 n38 G39)))
def k_X1_reckon_133 (F : Nat) (rf_X1_reckon : Nat → Int32 → Nat → GH → Option (Int32 × Nat × GH))  (v0 : Nat) (v1 : Int32) (v3 : Int64) (v5 : Int32) (v6 : Int32) (s0 : Int32) (n : Nat) (G : GH) : Option (Int32 × Nat × GH) :=
  fixN (fun _ _ _ _ => none) (b_X1_reckon_138 F rf_X1_reckon  v0 v1 v3 v6 s0) F v5 (0 : Int32) n G
def g_X1_reckon (F : Nat) (rf_X1_reckon : Nat → Int32 → Nat → GH → Option (Int32 × Nat × GH)) (v0 : Nat) (v1 : Int32) (n : Nat) (G : GH) : Option (Int32 × Nat × GH) :=
  Option.bind (gR G v0 1 1) (fun (x1 : Nat) =>
  cvP G x1 7 (f_X7_holds F x1 v1 G) (fun (x2 : Int32) =>
  if x2 = 0 then
  (some ((-1 : Int32), n, G))
  else (Option.bind (gR G v0 1 1) (fun (x3 : Nat) =>
  Option.bind (gR G x3 7 3) (fun (x4 : Nat) =>
  Option.bind (aI G x4 2 v1) (fun (x5 : Int32) =>
  if x5 = 0 then
  (Option.bind (gR G v0 1 1) (fun (x6 : Nat) =>
  Option.bind (gR G x6 7 1) (fun (x7 : Nat) =>
  Option.bind (aI G x7 0 v1) (fun (x8 : Int32) =>
  gnm ((1 : Int64) <<< ((Int32.toInt64 v1) &&& 63)) (fun (y9 : Int64) =>
  Option.bind (gI G v0 1 3) (fun (x10 : Int32) =>
  if (60 : Int32) ≤ x10 then
  (cvI G v0 1 (f_X1_refuse F v0 x8 (-2 : Int32) n G) (fun (x13 : Int32) (n11 : Nat) (G12 : GH) =>
  some (x13, n11, G12)))
  else (Option.bind (gJ G v0 1 5) (fun (x14 : Int64) =>
  if (lg_cmp (x14 &&& y9) (0 : Int64)) = 0 then
  (cvU G v0 1 (f_X1_push F v0 x8 n G) (fun (n15 : Nat) (G16 : GH) =>
  Option.bind (gJ G16 v0 1 5) (fun (x17 : Int64) =>
  Option.bind (pV G16 v0 1 5 (.long (x17 ||| y9))) (fun (G18 : GH) =>
  Option.bind (gR G18 v0 1 0) (fun (x19 : Nat) =>
  Option.bind (gR G18 x19 0 0) (fun (x20 : Nat) =>
  Option.bind (gR G18 x20 3 2) (fun (x21 : Nat) =>
  Option.bind (aI G18 x21 0 x8) (fun (x22 : Int32) =>
  Option.bind (gR G18 v0 1 0) (fun (x23 : Nat) =>
  Option.bind (gR G18 x23 0 0) (fun (x24 : Nat) =>
  Option.bind (gR G18 x24 3 1) (fun (x25 : Nat) =>
  Option.bind (aI G18 x25 0 x8) (fun (x26 : Int32) =>
  if x26 = 0 then
  (k_X1_reckon_133 F rf_X1_reckon  v0 v1 y9 x22 x26 (0 : Int32) n15 G18)
  else (Option.bind (gR G18 v0 1 0) (fun (x27 : Nat) =>
  Option.bind (gR G18 x27 0 0) (fun (x28 : Nat) =>
  Option.bind (gR G18 x28 3 6) (fun (x29 : Nat) =>
  Option.bind (aI G18 x29 0 x8) (fun (x30 : Int32) =>
  k_X1_reckon_133 F rf_X1_reckon  v0 v1 y9 x22 x26 x30 n15 G18)))))))))))))))))
  else (cvI G v0 1 (f_X1_refuse F v0 x8 (-2 : Int32) n G) (fun (x50 : Int32) (n48 : Nat) (G49 : GH) =>
  some (x50, n48, G49)))))))))))
  else (some ((1 : Int32), n, G))))))))
set_option maxRecDepth 100000 in
set_option maxHeartbeats 4000000 in
theorem c_X1_reckon_205 {E : GE} {F : Nat} {rf_X1_reckon : Nat → Int32 → Nat → GH → Option (Int32 × Nat × GH)} {kf kl : Nat}  {v0 : Nat} {v1 : Int32} {v3 : Int64} {v5 : Int32}  {n : Nat} {G : GH} {z : Int32 × Nat × GH} (hkf : 60 ≤ kf) (hkl : 2000 ≤ kl) (hrf_X1_reckon : ∀ (u0 : Nat) (u1 : Int32) (n : Nat) (G : GH) (z : Int32 × Nat × GH), rf_X1_reckon u0 u1 n G = some z → GM E yX1_reckon cX1_reckon 11 (some .int) kf kl 0 0 [.ref u0, .int u1] n G (some (.int z.1), z.2.1, z.2.2))  (h : k_X1_reckon_205 F rf_X1_reckon  v0 v1 v3 v5  n G = some z) : WG E RX1 "reckon" cX1_reckon 11 (some .int) (kf + 1) (kl + 40) 0 0 205 [(0, .ref v0), (1, .int v1), (3, .long v3), (5, .int v5)] [] n G (g_O E (some (.int z.1), z.2.1, z.2.2)) := by
  unfold k_X1_reckon_205 at h
  refine r_aload d_X1_reckon_205 rfl ?_
  refine r_invU [] h (fun _ hq => s_X1_pop hq) d_X1_reckon_206 pl_X1_112 py_X1_pop pi_X1_pop rfl rfl (g_room_of ⟨by omega, by omega, by omega, by omega⟩) (fun n31 G32 h => ?_)
  refine r_aload d_X1_reckon_209 rfl ?_
  refine r_dup d_X1_reckon_210 rfl ?_
  refine r_getJ h d_X1_reckon_211 pf_X1_22 (fun x33 h => ?_)
  refine r_lload d_X1_reckon_214 rfl ?_
  refine r_ldc2 d_X1_reckon_215 cl_X1_154 ?_
  refine r_lxor d_X1_reckon_218 ?_
  refine r_land d_X1_reckon_219 ?_
  refine r_put h d_X1_reckon_220 pw_X1_22 rfl rfl (fun G34 h => ?_)
  refine r_aload d_X1_reckon_223 rfl ?_
  refine r_getR h d_X1_reckon_224 pf_X1_39 (fun x35 h => ?_)
  refine r_iload d_X1_reckon_227 rfl ?_
  refine r_iload d_X1_reckon_228 rfl ?_
  refine r_invU [_, _] h (fun _ hq => s_X7_setValue hq) d_X1_reckon_230 pl_X1_156 py_X7_setValue pi_X7_setValue rfl rfl (g_room_of ⟨by omega, by omega, by omega, by omega⟩) (fun n36 G37 h => ?_)
  refine r_iconst d_X1_reckon_233 ic_1 ?_
  exact r_iret h d_X1_reckon_234
set_option maxRecDepth 100000 in
set_option maxHeartbeats 4000000 in
theorem c_X1_reckon_170 {E : GE} {F : Nat} {rf_X1_reckon : Nat → Int32 → Nat → GH → Option (Int32 × Nat × GH)} {kf kl : Nat} {rec138 : Int32 → Int32 → Nat → GH → Option (Int32 × Nat × GH)} {v0 : Nat} {v1 : Int32} {v3 : Int64} {v5 : Int32} {v6 : Int32} {v7 : Int32} {v8 : Int32} {v9 : Int32} {s0 : Int32} {n : Nat} {G : GH} {z : Int32 × Nat × GH} (hkf : 60 ≤ kf) (hkl : 2000 ≤ kl) (hrf_X1_reckon : ∀ (u0 : Nat) (u1 : Int32) (n : Nat) (G : GH) (z : Int32 × Nat × GH), rf_X1_reckon u0 u1 n G = some z → GM E yX1_reckon cX1_reckon 11 (some .int) kf kl 0 0 [.ref u0, .int u1] n G (some (.int z.1), z.2.1, z.2.2)) (hrec138 : ∀ (w5 : Int32) (w8 : Int32) (n : Nat) (G : GH) (z : Int32 × Nat × GH), rec138 w5 w8 n G = some z → WG E RX1 "reckon" cX1_reckon 11 (some .int) (kf + 1) (kl + 40) 0 0 138 [(0, .ref v0), (1, .int v1), (3, .long v3), (5, .int w5), (6, .int v6), (7, .int v7), (8, .int w8)] [] n G (g_O E (some (.int z.1), z.2.1, z.2.2))) (h : k_X1_reckon_170 F rf_X1_reckon rec138 v0 v1 v3 v5 v6 v7 v8 v9 s0 n G = some z) : WG E RX1 "reckon" cX1_reckon 11 (some .int) (kf + 1) (kl + 40) 0 0 170 [(0, .ref v0), (1, .int v1), (3, .long v3), (5, .int v5), (6, .int v6), (7, .int v7), (8, .int v8), (9, .int v9)] [.int s0] n G (g_O E (some (.int z.1), z.2.1, z.2.2)) := by
  unfold k_X1_reckon_170 at h
  refine r_istore d_X1_reckon_170 rfl rfl ?_
  refine r_iload d_X1_reckon_172 rfl ?_
  refine r_if_ge h d_X1_reckon_174 (fun h => ?_) (fun h => ?_)
  · refine r_iload d_X1_reckon_180 rfl ?_
    refine r_iload d_X1_reckon_182 rfl ?_
    refine r_aload d_X1_reckon_184 rfl ?_
    refine r_getR h d_X1_reckon_185 pf_X1_39 (fun x44 h => ?_)
    refine r_getR h d_X1_reckon_188 pf_X1_148 (fun x45 h => ?_)
    refine r_iload d_X1_reckon_191 rfl ?_
    refine r_iald h d_X1_reckon_193 (fun x46 h => ?_)
    refine r_invSP [_, _, _] h (fun _ hq => s_X1_apply hq) d_X1_reckon_194 pl_X1_151 py_X1_apply ps_X1_apply rfl rfl (g_room_of ⟨by omega, by omega, by omega, by omega⟩) (fun x47 h => ?_)
    refine r_istore d_X1_reckon_197 rfl rfl ?_
    refine r_iinc d_X1_reckon_199 rfl (ii_1 _) rfl rfl ?_
    refine r_goto d_X1_reckon_202 ?_
    refine r_lv [(0, .ref v0), (1, .int v1), (3, .long v3), (5, .int x47), (6, .int v6), (7, .int v7), (8, .int (v8 + 1))] (g_allc rfl (g_allc rfl (g_allc rfl (g_allc rfl (g_allc rfl (g_allc rfl (g_allc rfl g_alln))))))) ?_
    exact hrec138 _ _ _ _ _ h
  · refine r_iload d_X1_reckon_177 rfl ?_
    exact r_iret h d_X1_reckon_179
set_option maxRecDepth 100000 in
set_option maxHeartbeats 4000000 in
theorem l_X1_reckon_138 {E : GE} {F : Nat} {rf_X1_reckon : Nat → Int32 → Nat → GH → Option (Int32 × Nat × GH)} {kf kl : Nat}  {v0 : Nat} {v1 : Int32} {v3 : Int64} {v6 : Int32} {v7 : Int32} (hkf : 60 ≤ kf) (hkl : 2000 ≤ kl) (hrf_X1_reckon : ∀ (u0 : Nat) (u1 : Int32) (n : Nat) (G : GH) (z : Int32 × Nat × GH), rf_X1_reckon u0 u1 n G = some z → GM E yX1_reckon cX1_reckon 11 (some .int) kf kl 0 0 [.ref u0, .int u1] n G (some (.int z.1), z.2.1, z.2.2))  : ∀ (K : Nat) (v5 : Int32) (v8 : Int32) (n : Nat) (G : GH) (z : Int32 × Nat × GH), fixN ((fun _ _ _ _ => none) : Int32 → Int32 → Nat → GH → Option (Int32 × Nat × GH)) (b_X1_reckon_138 F rf_X1_reckon  v0 v1 v3 v6 v7) K v5 v8 n G = some z → WG E RX1 "reckon" cX1_reckon 11 (some .int) (kf + 1) (kl + 40) 0 0 138 [(0, .ref v0), (1, .int v1), (3, .long v3), (5, .int v5), (6, .int v6), (7, .int v7), (8, .int v8)] [] n G (g_O E (some (.int z.1), z.2.1, z.2.2)) := by
  intro K
  refine fixN_ind (P := fun (r : Int32 → Int32 → Nat → GH → Option (Int32 × Nat × GH)) => ∀ (v5 : Int32) (v8 : Int32) (n : Nat) (G : GH) (z : Int32 × Nat × GH), r v5 v8 n G = some z → WG E RX1 "reckon" cX1_reckon 11 (some .int) (kf + 1) (kl + 40) 0 0 138 [(0, .ref v0), (1, .int v1), (3, .long v3), (5, .int v5), (6, .int v6), (7, .int v7), (8, .int v8)] [] n G (g_O E (some (.int z.1), z.2.1, z.2.2))) ?_ ?_ K
  · intro v5 v8 n G z h
    cases h
  · intro rec138 hrec138 v5 v8 n G z h
    unfold b_X1_reckon_138 at h
    refine r_iload d_X1_reckon_138 rfl ?_
    refine r_iload d_X1_reckon_140 rfl ?_
    refine r_icmp_ge h d_X1_reckon_142 (fun h => ?_) (fun h => ?_)
    · refine r_lv [(0, .ref v0), (1, .int v1), (3, .long v3), (5, .int v5)] (g_allc rfl (g_allc rfl (g_allc rfl (g_allc rfl g_alln)))) ?_
      exact c_X1_reckon_205 hkf hkl hrf_X1_reckon  h
    · refine r_aload d_X1_reckon_145 rfl ?_
      refine r_iload d_X1_reckon_146 rfl ?_
      refine r_iload d_X1_reckon_147 rfl ?_
      refine r_invI [_, _] h (fun _ hq => s_X1_needOf hq) d_X1_reckon_149 pl_X1_145 py_X1_needOf pi_X1_needOf rfl rfl (g_room_of ⟨by omega, by omega, by omega, by omega⟩) (fun x40 n38 G39 h => ?_)
      refine r_istore d_X1_reckon_152 rfl rfl ?_
      refine r_iload d_X1_reckon_154 rfl ?_
      refine r_if_ge h d_X1_reckon_156 (fun h => ?_) (fun h => ?_)
      · refine r_aload d_X1_reckon_164 rfl ?_
        refine r_iload d_X1_reckon_165 rfl ?_
        refine r_invI [_] h (fun _ hq => hrf_X1_reckon _ _ _ _ _ hq) d_X1_reckon_167 pl_X1_54 py_X1_reckon pi_X1_reckon rfl rfl (g_room_of ⟨by omega, by omega, by omega, by omega⟩) (fun x43 n41 G42 h => ?_)
        refine r_lv [(0, .ref v0), (1, .int v1), (3, .long v3), (5, .int v5), (6, .int v6), (7, .int v7), (8, .int v8), (9, .int x40)] (g_allc rfl (g_allc rfl (g_allc rfl (g_allc rfl (g_allc rfl (g_allc rfl (g_allc rfl (g_allc rfl g_alln)))))))) ?_
        exact c_X1_reckon_170 hkf hkl hrf_X1_reckon hrec138 h
      · refine r_iload d_X1_reckon_159 rfl ?_
        refine r_goto d_X1_reckon_161 ?_
        refine r_lv [(0, .ref v0), (1, .int v1), (3, .long v3), (5, .int v5), (6, .int v6), (7, .int v7), (8, .int v8), (9, .int x40)] (g_allc rfl (g_allc rfl (g_allc rfl (g_allc rfl (g_allc rfl (g_allc rfl (g_allc rfl (g_allc rfl g_alln)))))))) ?_
        exact c_X1_reckon_170 hkf hkl hrf_X1_reckon hrec138 h
set_option maxRecDepth 100000 in
set_option maxHeartbeats 4000000 in
theorem c_X1_reckon_133 {E : GE} {F : Nat} {rf_X1_reckon : Nat → Int32 → Nat → GH → Option (Int32 × Nat × GH)} {kf kl : Nat}  {v0 : Nat} {v1 : Int32} {v3 : Int64} {v5 : Int32} {v6 : Int32} {s0 : Int32} {n : Nat} {G : GH} {z : Int32 × Nat × GH} (hkf : 60 ≤ kf) (hkl : 2000 ≤ kl) (hrf_X1_reckon : ∀ (u0 : Nat) (u1 : Int32) (n : Nat) (G : GH) (z : Int32 × Nat × GH), rf_X1_reckon u0 u1 n G = some z → GM E yX1_reckon cX1_reckon 11 (some .int) kf kl 0 0 [.ref u0, .int u1] n G (some (.int z.1), z.2.1, z.2.2))  (h : k_X1_reckon_133 F rf_X1_reckon  v0 v1 v3 v5 v6 s0 n G = some z) : WG E RX1 "reckon" cX1_reckon 11 (some .int) (kf + 1) (kl + 40) 0 0 133 [(0, .ref v0), (1, .int v1), (3, .long v3), (5, .int v5), (6, .int v6)] [.int s0] n G (g_O E (some (.int z.1), z.2.1, z.2.2)) := by
  unfold k_X1_reckon_133 at h
  refine r_istore d_X1_reckon_133 rfl rfl ?_
  refine r_iconst d_X1_reckon_135 ic_0 ?_
  refine r_istore d_X1_reckon_136 rfl rfl ?_
  refine r_lv [(0, .ref v0), (1, .int v1), (3, .long v3), (5, .int v5), (6, .int v6), (7, .int s0), (8, .int (0 : Int32))] (g_allc rfl (g_allc rfl (g_allc rfl (g_allc rfl (g_allc rfl (g_allc rfl (g_allc rfl g_alln))))))) ?_
  exact l_X1_reckon_138 hkf hkl hrf_X1_reckon  _ _ _ _ _ _ h
set_option maxRecDepth 100000 in
set_option maxHeartbeats 4000000 in
theorem t_X1_reckon {E : GE} {F : Nat} {rf_X1_reckon : Nat → Int32 → Nat → GH → Option (Int32 × Nat × GH)} {kf kl : Nat} {v0 : Nat} {v1 : Int32} {n : Nat} {G : GH} {z : Int32 × Nat × GH} (hkf : 60 ≤ kf) (hkl : 2000 ≤ kl) (hrf_X1_reckon : ∀ (u0 : Nat) (u1 : Int32) (n : Nat) (G : GH) (z : Int32 × Nat × GH), rf_X1_reckon u0 u1 n G = some z → GM E yX1_reckon cX1_reckon 11 (some .int) kf kl 0 0 [.ref u0, .int u1] n G (some (.int z.1), z.2.1, z.2.2)) (h : g_X1_reckon F rf_X1_reckon v0 v1 n G = some z) : GM E yX1_reckon cX1_reckon 11 (some .int) (kf + 1) (kl + 40) 0 0 [.ref v0, .int v1] n G (some (.int z.1), z.2.1, z.2.2) := by
  refine GM.of (by decide) (Nat.le_of_ble_eq_true rfl) ?_
  show WG E RX1 "reckon" cX1_reckon 11 (some .int) (kf + 1) (kl + 40) 0 0 0 [(0, .ref v0), (1, .int v1)] [] n G (g_O E (some (.int z.1), z.2.1, z.2.2))
  unfold g_X1_reckon at h
  refine r_aload d_X1_reckon_0 rfl ?_
  refine r_getR h d_X1_reckon_1 pf_X1_39 (fun x1 h => ?_)
  refine r_iload d_X1_reckon_4 rfl ?_
  refine r_invP [_] h (fun _ hq => s_X7_holds hq) d_X1_reckon_5 pl_X1_129 py_X7_holds pi_X7_holds rfl rfl (g_room_of ⟨by omega, by omega, by omega, by omega⟩) (fun x2 h => ?_)
  refine r_if_ne h d_X1_reckon_8 (fun h => ?_) (fun h => ?_)
  · refine r_aload d_X1_reckon_13 rfl ?_
    refine r_getR h d_X1_reckon_14 pf_X1_39 (fun x3 h => ?_)
    refine r_getR h d_X1_reckon_17 pf_X1_132 (fun x4 h => ?_)
    refine r_iload d_X1_reckon_20 rfl ?_
    refine r_zald h d_X1_reckon_21 (fun x5 h => ?_)
    refine r_if_eq h d_X1_reckon_22 (fun h => ?_) (fun h => ?_)
    · refine r_aload d_X1_reckon_27 rfl ?_
      refine r_getR h d_X1_reckon_28 pf_X1_39 (fun x6 h => ?_)
      refine r_getR h d_X1_reckon_31 pf_X1_136 (fun x7 h => ?_)
      refine r_iload d_X1_reckon_34 rfl ?_
      refine r_iald h d_X1_reckon_35 (fun x8 h => ?_)
      refine r_istore d_X1_reckon_36 rfl rfl ?_
      refine r_lconst d_X1_reckon_37 lc_1 ?_
      refine r_iload d_X1_reckon_38 rfl ?_
      refine r_lshl d_X1_reckon_39 ?_
      refine r_nmJ h (fun y9 _ h => ?_)
      refine r_lstore d_X1_reckon_40 rfl rfl rfl ?_
      refine r_aload d_X1_reckon_41 rfl ?_
      refine r_getI h d_X1_reckon_42 pf_X1_15 (fun x10 h => ?_)
      refine r_bipush d_X1_reckon_45 bp_60 ?_
      refine r_icmp_ge h d_X1_reckon_47 (fun h => ?_) (fun h => ?_)
      · refine r_aload d_X1_reckon_61 rfl ?_
        refine r_iload d_X1_reckon_62 rfl ?_
        refine r_bipush d_X1_reckon_63 bp_m2 ?_
        refine r_invI [_, _] h (fun _ hq => s_X1_refuse hq) d_X1_reckon_65 pl_X1_95 py_X1_refuse pi_X1_refuse rfl rfl (g_room_of ⟨by omega, by omega, by omega, by omega⟩) (fun x13 n11 G12 h => ?_)
        exact r_iret h d_X1_reckon_68
      · refine r_aload d_X1_reckon_50 rfl ?_
        refine r_getJ h d_X1_reckon_51 pf_X1_22 (fun x14 h => ?_)
        refine r_lload d_X1_reckon_54 rfl ?_
        refine r_land d_X1_reckon_55 ?_
        refine r_lconst d_X1_reckon_56 lc_0 ?_
        refine r_lcmp d_X1_reckon_57 ?_
        refine r_if_eq h d_X1_reckon_58 (fun h => ?_) (fun h => ?_)
        · refine r_aload d_X1_reckon_69 rfl ?_
          refine r_iload d_X1_reckon_70 rfl ?_
          refine r_invU [_] h (fun _ hq => s_X1_push hq) d_X1_reckon_71 pl_X1_67 py_X1_push pi_X1_push rfl rfl (g_room_of ⟨by omega, by omega, by omega, by omega⟩) (fun n15 G16 h => ?_)
          refine r_aload d_X1_reckon_74 rfl ?_
          refine r_dup d_X1_reckon_75 rfl ?_
          refine r_getJ h d_X1_reckon_76 pf_X1_22 (fun x17 h => ?_)
          refine r_lload d_X1_reckon_79 rfl ?_
          refine r_lor d_X1_reckon_80 ?_
          refine r_put h d_X1_reckon_81 pw_X1_22 rfl rfl (fun G18 h => ?_)
          refine r_aload d_X1_reckon_84 rfl ?_
          refine r_getR h d_X1_reckon_85 pf_X1_29 (fun x19 h => ?_)
          refine r_getR h d_X1_reckon_88 pf_X1_74 (fun x20 h => ?_)
          refine r_getR h d_X1_reckon_91 pf_X1_139 (fun x21 h => ?_)
          refine r_iload d_X1_reckon_94 rfl ?_
          refine r_iald h d_X1_reckon_95 (fun x22 h => ?_)
          refine r_istore d_X1_reckon_96 rfl rfl ?_
          refine r_aload d_X1_reckon_98 rfl ?_
          refine r_getR h d_X1_reckon_99 pf_X1_29 (fun x23 h => ?_)
          refine r_getR h d_X1_reckon_102 pf_X1_74 (fun x24 h => ?_)
          refine r_getR h d_X1_reckon_105 pf_X1_142 (fun x25 h => ?_)
          refine r_iload d_X1_reckon_108 rfl ?_
          refine r_iald h d_X1_reckon_109 (fun x26 h => ?_)
          refine r_istore d_X1_reckon_110 rfl rfl ?_
          refine r_iload d_X1_reckon_112 rfl ?_
          refine r_if_ne h d_X1_reckon_114 (fun h => ?_) (fun h => ?_)
          · refine r_aload d_X1_reckon_121 rfl ?_
            refine r_getR h d_X1_reckon_122 pf_X1_29 (fun x27 h => ?_)
            refine r_getR h d_X1_reckon_125 pf_X1_74 (fun x28 h => ?_)
            refine r_getR h d_X1_reckon_128 pf_X1_119 (fun x29 h => ?_)
            refine r_iload d_X1_reckon_131 rfl ?_
            refine r_iald h d_X1_reckon_132 (fun x30 h => ?_)
            refine r_lv [(0, .ref v0), (1, .int v1), (3, .long y9), (5, .int x22), (6, .int x26)] (g_allc rfl (g_allc rfl (g_allc rfl (g_allc rfl (g_allc rfl g_alln))))) ?_
            exact c_X1_reckon_133 hkf hkl hrf_X1_reckon  h
          · refine r_iconst d_X1_reckon_117 ic_0 ?_
            refine r_goto d_X1_reckon_118 ?_
            refine r_lv [(0, .ref v0), (1, .int v1), (3, .long y9), (5, .int x22), (6, .int x26)] (g_allc rfl (g_allc rfl (g_allc rfl (g_allc rfl (g_allc rfl g_alln))))) ?_
            exact c_X1_reckon_133 hkf hkl hrf_X1_reckon  h
        · refine r_aload d_X1_reckon_61 rfl ?_
          refine r_iload d_X1_reckon_62 rfl ?_
          refine r_bipush d_X1_reckon_63 bp_m2 ?_
          refine r_invI [_, _] h (fun _ hq => s_X1_refuse hq) d_X1_reckon_65 pl_X1_95 py_X1_refuse pi_X1_refuse rfl rfl (g_room_of ⟨by omega, by omega, by omega, by omega⟩) (fun x50 n48 G49 h => ?_)
          exact r_iret h d_X1_reckon_68
    · refine r_iconst d_X1_reckon_25 ic_1 ?_
      exact r_iret h d_X1_reckon_26
  · refine r_iconst d_X1_reckon_11 ic_m1 ?_
    exact r_iret h d_X1_reckon_12
def f_X1_reckon (F : Nat) : Nat → Int32 → Nat → GH → Option (Int32 × Nat × GH) := fixN (fun _ _ _ _ => none) (fun rf => g_X1_reckon F rf) 62
theorem s_X1_reckon {E : GE} {F : Nat} {v0 : Nat} {v1 : Int32} {n : Nat} {G : GH} {z : Int32 × Nat × GH} (h : f_X1_reckon F v0 v1 n G = some z) : GM E yX1_reckon cX1_reckon 11 (some .int) 122 4480 0 0 [.ref v0, .int v1] n G (some (.int z.1), z.2.1, z.2.2) := by
  have key : ∀ (d : Nat) (v0 : Nat) (v1 : Int32) (n : Nat) (G : GH) (z : Int32 × Nat × GH), fixN ((fun _ _ _ _ => none) : Nat → Int32 → Nat → GH → Option (Int32 × Nat × GH)) (fun rf => g_X1_reckon F rf) d v0 v1 n G = some z → GM E yX1_reckon cX1_reckon 11 (some .int) (1 * d + 60) (40 * d + 2000) 0 0 [.ref v0, .int v1] n G (some (.int z.1), z.2.1, z.2.2) := by
    intro d
    induction d with
    | zero => intro v0 v1 n G z h; cases h
    | succ d ih =>
      intro v0 v1 n G z h
      have h2 := t_X1_reckon (E := E) (kf := 1 * d + 60) (kl := 40 * d + 2000) (by omega) (by omega) ih h
      rw [show 1 * (d + 1) + 60 = 1 * d + 60 + 1 by omega, show 40 * (d + 1) + 2000 = 40 * d + 2000 + 40 by omega]
      exact h2
  exact key 62 _ _ _ _ _ h
/-! X1_reckonFor -/
theorem d_X1_reckonFor_0 : decAL cX1_reckonFor 0 0 1 := Or.inr ⟨0, rfl, by decide +kernel, rfl⟩
theorem d_X1_reckonFor_1 : dec 3 cX1_reckonFor 1 (.invokevirtual 40) 4 := ⟨by decide +kernel, rfl⟩
theorem d_X1_reckonFor_4 : decAL cX1_reckonFor 4 0 5 := Or.inr ⟨0, rfl, by decide +kernel, rfl⟩
theorem d_X1_reckonFor_5 : decAL cX1_reckonFor 5 0 6 := Or.inr ⟨0, rfl, by decide +kernel, rfl⟩
theorem d_X1_reckonFor_6 : decIL cX1_reckonFor 6 1 7 := Or.inr ⟨1, rfl, by decide +kernel, rfl⟩
theorem d_X1_reckonFor_7 : dec 3 cX1_reckonFor 7 (.invokevirtual 54) 10 := ⟨by decide +kernel, rfl⟩
theorem d_X1_reckonFor_10 : dec 3 cX1_reckonFor 10 (.invokevirtual 50) 13 := ⟨by decide +kernel, rfl⟩
theorem d_X1_reckonFor_13 : dec 1 cX1_reckonFor 13 .ireturn 14 := ⟨by decide +kernel, rfl⟩
def f_X1_reckonFor (F : Nat)  (v0 : Nat) (v1 : Int32) (n : Nat) (G : GH) : Option (Int32 × Nat × GH) :=
  cvU G v0 1 (f_X1_begin F v0 n G) (fun (n1 : Nat) (G2 : GH) =>
  cvI G2 v0 1 (f_X1_reckon F v0 v1 n1 G2) (fun (x5 : Int32) (n3 : Nat) (G4 : GH) =>
  cvI G4 v0 1 (f_X1_tell F v0 x5 n3 G4) (fun (x8 : Int32) (n6 : Nat) (G7 : GH) =>
  some (x8, n6, G7))))
set_option maxRecDepth 100000 in
set_option maxHeartbeats 4000000 in
theorem s_X1_reckonFor {E : GE} {F : Nat}  {v0 : Nat} {v1 : Int32} {n : Nat} {G : GH} {z : Int32 × Nat × GH}  (h : f_X1_reckonFor F  v0 v1 n G = some z) : GM E yX1_reckonFor cX1_reckonFor 2 (some .int) 123 4510 0 0 [.ref v0, .int v1] n G (some (.int z.1), z.2.1, z.2.2) := by
  refine GM.of (by decide) (Nat.le_of_ble_eq_true rfl) ?_
  show WG E RX1 "reckonFor" cX1_reckonFor 2 (some .int) 123 4510 0 0 0 [(0, .ref v0), (1, .int v1)] [] n G (g_O E (some (.int z.1), z.2.1, z.2.2))
  unfold f_X1_reckonFor at h
  refine r_aload d_X1_reckonFor_0 rfl ?_
  refine r_invU [] h (fun _ hq => s_X1_begin hq) d_X1_reckonFor_1 pl_X1_40 py_X1_begin pi_X1_begin rfl rfl rfl (fun n1 G2 h => ?_)
  refine r_aload d_X1_reckonFor_4 rfl ?_
  refine r_aload d_X1_reckonFor_5 rfl ?_
  refine r_iload d_X1_reckonFor_6 rfl ?_
  refine r_invI [_] h (fun _ hq => s_X1_reckon hq) d_X1_reckonFor_7 pl_X1_54 py_X1_reckon pi_X1_reckon rfl rfl rfl (fun x5 n3 G4 h => ?_)
  refine r_invI [_] h (fun _ hq => s_X1_tell hq) d_X1_reckonFor_10 pl_X1_50 py_X1_tell pi_X1_tell rfl rfl rfl (fun x8 n6 G7 h => ?_)
  exact r_iret h d_X1_reckonFor_13
