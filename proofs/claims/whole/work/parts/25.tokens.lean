/-! X8_init -/
theorem qol_X8_1 : Cond.methodLink RX8 1 objectInit ∈ g_tbl := g_in 458 (by decide +kernel) rfl
theorem pw_X8_9 {nm : String} : pW RX8 nm 9 8 2 .int := ⟨RX8, TX8, 6, rfl, by decide, rfl, Or.inl ⟨g_in 461 (by decide +kernel) rfl, Or.inl rfl⟩, by decide +kernel⟩
theorem pw_X8_13 {nm : String} : pW RX8 nm 13 8 3 .int := ⟨RX8, TX8, 6, rfl, by decide, rfl, Or.inl ⟨g_in 463 (by decide +kernel) rfl, Or.inl rfl⟩, by decide +kernel⟩
theorem pw_X8_16 {nm : String} : pW RX8 nm 16 8 4 .int := ⟨RX8, TX8, 6, rfl, by decide, rfl, Or.inl ⟨g_in 465 (by decide +kernel) rfl, Or.inl rfl⟩, by decide +kernel⟩
theorem pw_X8_19 {nm : String} : pW RX8 nm 19 8 5 .int := ⟨RX8, TX8, 6, rfl, by decide, rfl, Or.inl ⟨g_in 466 (by decide +kernel) rfl, Or.inl rfl⟩, by decide +kernel⟩
theorem pf_X8_22 : pF RX8 22 2 0 := ⟨RX2, TX2, 4, rfl, by decide, rfl, Or.inr ⟨"PlugBoard", g_in 132 (by decide +kernel) rfl⟩⟩
theorem pw_X8_28 : pW RX8 "<init>" 28 8 0 (.array .byte) := ⟨RX8, TX8, 6, rfl, by decide, rfl, Or.inl ⟨g_in 459 (by decide +kernel) rfl, Or.inr ⟨rfl, rfl, rfl⟩⟩, by decide +kernel⟩
theorem pf_X8_29 : pF RX8 29 2 1 := ⟨RX2, TX2, 4, rfl, by decide, rfl, Or.inr ⟨"PlugBoard", g_in 134 (by decide +kernel) rfl⟩⟩
theorem pw_X8_32 : pW RX8 "<init>" 32 8 1 .int := ⟨RX8, TX8, 6, rfl, by decide, rfl, Or.inl ⟨g_in 460 (by decide +kernel) rfl, Or.inr ⟨rfl, rfl, rfl⟩⟩, by decide +kernel⟩
theorem d_X8_init_0 : decAL cX8_init 0 0 1 := Or.inr ⟨0, rfl, by decide +kernel, rfl⟩
theorem d_X8_init_1 : dec 3 cX8_init 1 (.invokespecial 1) 4 := ⟨by decide +kernel, rfl⟩
theorem d_X8_init_4 : decAL cX8_init 4 0 5 := Or.inr ⟨0, rfl, by decide +kernel, rfl⟩
theorem d_X8_init_5 : dec 1 cX8_init 5 (.iconst 0) 6 := ⟨by decide +kernel, rfl⟩
theorem d_X8_init_6 : dec 3 cX8_init 6 (.putfield 9) 9 := ⟨by decide +kernel, rfl⟩
theorem d_X8_init_9 : decAL cX8_init 9 0 10 := Or.inr ⟨0, rfl, by decide +kernel, rfl⟩
theorem d_X8_init_10 : dec 1 cX8_init 10 (.iconst 0) 11 := ⟨by decide +kernel, rfl⟩
theorem d_X8_init_11 : dec 3 cX8_init 11 (.putfield 13) 14 := ⟨by decide +kernel, rfl⟩
theorem d_X8_init_14 : decAL cX8_init 14 0 15 := Or.inr ⟨0, rfl, by decide +kernel, rfl⟩
theorem d_X8_init_15 : dec 1 cX8_init 15 (.iconst 0) 16 := ⟨by decide +kernel, rfl⟩
theorem d_X8_init_16 : dec 3 cX8_init 16 (.putfield 16) 19 := ⟨by decide +kernel, rfl⟩
theorem d_X8_init_19 : decAL cX8_init 19 0 20 := Or.inr ⟨0, rfl, by decide +kernel, rfl⟩
theorem d_X8_init_20 : dec 1 cX8_init 20 (.iconst 0) 21 := ⟨by decide +kernel, rfl⟩
theorem d_X8_init_21 : dec 3 cX8_init 21 (.putfield 19) 24 := ⟨by decide +kernel, rfl⟩
theorem d_X8_init_24 : decAL cX8_init 24 0 25 := Or.inr ⟨0, rfl, by decide +kernel, rfl⟩
theorem d_X8_init_25 : decAL cX8_init 25 1 26 := Or.inr ⟨1, rfl, by decide +kernel, rfl⟩
theorem d_X8_init_26 : dec 3 cX8_init 26 (.getfield 22) 29 := ⟨by decide +kernel, rfl⟩
theorem d_X8_init_29 : dec 3 cX8_init 29 (.putfield 28) 32 := ⟨by decide +kernel, rfl⟩
theorem d_X8_init_32 : decAL cX8_init 32 0 33 := Or.inr ⟨0, rfl, by decide +kernel, rfl⟩
theorem d_X8_init_33 : decAL cX8_init 33 1 34 := Or.inr ⟨1, rfl, by decide +kernel, rfl⟩
theorem d_X8_init_34 : dec 3 cX8_init 34 (.getfield 29) 37 := ⟨by decide +kernel, rfl⟩
theorem d_X8_init_37 : dec 3 cX8_init 37 (.putfield 32) 40 := ⟨by decide +kernel, rfl⟩
theorem d_X8_init_40 : dec 1 cX8_init 40 .return_ 41 := ⟨by decide +kernel, rfl⟩
def f_X8_init (F : Nat)  (v0 : Nat) (v1 : Nat) (n : Nat) (G : GH) : Option (Nat × GH) :=
  Option.bind (pV G v0 8 2 (.int (0 : Int32))) (fun (G1 : GH) =>
  Option.bind (pV G1 v0 8 3 (.int (0 : Int32))) (fun (G2 : GH) =>
  Option.bind (pV G2 v0 8 4 (.int (0 : Int32))) (fun (G3 : GH) =>
  Option.bind (pV G3 v0 8 5 (.int (0 : Int32))) (fun (G4 : GH) =>
  Option.bind (gR G4 v1 2 0) (fun (x5 : Nat) =>
  Option.bind (pV G4 v0 8 0 (.ref x5)) (fun (G6 : GH) =>
  Option.bind (gI G6 v1 2 1) (fun (x7 : Int32) =>
  Option.bind (pV G6 v0 8 1 (.int x7)) (fun (G8 : GH) =>
  some (n, G8)))))))))
set_option maxRecDepth 100000 in
set_option maxHeartbeats 4000000 in
theorem s_X8_init {E : GE} {F : Nat}  {v0 : Nat} {v1 : Nat} {n : Nat} {G : GH} {z : Nat × GH}  (h : f_X8_init F  v0 v1 n G = some z) : GM E yX8_init cX8_init 2 none 1 40 0 0 [.ref v0, .ref v1] n G (none, z.1, z.2) := by
  refine GM.of (by decide) (Nat.le_of_ble_eq_true rfl) ?_
  show WG E RX8 "<init>" cX8_init 2 none 1 40 0 0 0 [(0, .ref v0), (1, .ref v1)] [] n G (g_O E (none, z.1, z.2))
  unfold f_X8_init at h
  refine r_aload d_X8_init_0 rfl ?_
  refine r_obj d_X8_init_1 qol_X8_1 qoi qoc rfl rfl ?_
  refine r_aload d_X8_init_4 rfl ?_
  refine r_iconst d_X8_init_5 ic_0 ?_
  refine r_put h d_X8_init_6 pw_X8_9 rfl rfl (fun G1 h => ?_)
  refine r_aload d_X8_init_9 rfl ?_
  refine r_iconst d_X8_init_10 ic_0 ?_
  refine r_put h d_X8_init_11 pw_X8_13 rfl rfl (fun G2 h => ?_)
  refine r_aload d_X8_init_14 rfl ?_
  refine r_iconst d_X8_init_15 ic_0 ?_
  refine r_put h d_X8_init_16 pw_X8_16 rfl rfl (fun G3 h => ?_)
  refine r_aload d_X8_init_19 rfl ?_
  refine r_iconst d_X8_init_20 ic_0 ?_
  refine r_put h d_X8_init_21 pw_X8_19 rfl rfl (fun G4 h => ?_)
  refine r_aload d_X8_init_24 rfl ?_
  refine r_aload d_X8_init_25 rfl ?_
  refine r_getR h d_X8_init_26 pf_X8_22 (fun x5 h => ?_)
  refine r_put h d_X8_init_29 pw_X8_28 rfl rfl (fun G6 h => ?_)
  refine r_aload d_X8_init_32 rfl ?_
  refine r_aload d_X8_init_33 rfl ?_
  refine r_getI h d_X8_init_34 pf_X8_29 (fun x7 h => ?_)
  refine r_put h d_X8_init_37 pw_X8_32 rfl rfl (fun G8 h => ?_)
  exact r_vret h d_X8_init_40
/-! X8_cutWord -/
theorem pf_X8_16 : pF RX8 16 8 4 := ⟨RX8, TX8, 6, rfl, by decide, rfl, Or.inl (g_in 465 (by decide +kernel) rfl)⟩
theorem pf_X8_32 : pF RX8 32 8 1 := ⟨RX8, TX8, 6, rfl, by decide, rfl, Or.inl (g_in 460 (by decide +kernel) rfl)⟩
theorem pf_X8_28 : pF RX8 28 8 0 := ⟨RX8, TX8, 6, rfl, by decide, rfl, Or.inl (g_in 459 (by decide +kernel) rfl)⟩
theorem d_X8_cutWord_0 : decAL cX8_cutWord 0 0 1 := Or.inr ⟨0, rfl, by decide +kernel, rfl⟩
theorem d_X8_cutWord_1 : dec 3 cX8_cutWord 1 (.getfield 16) 4 := ⟨by decide +kernel, rfl⟩
theorem d_X8_cutWord_4 : decAL cX8_cutWord 4 0 5 := Or.inr ⟨0, rfl, by decide +kernel, rfl⟩
theorem d_X8_cutWord_5 : dec 3 cX8_cutWord 5 (.getfield 32) 8 := ⟨by decide +kernel, rfl⟩
theorem d_X8_cutWord_8 : decB cX8_cutWord 8 (.if_icmp .ge 44) (44) 11 52 := ⟨by decide +kernel, rfl, by decide⟩
theorem d_X8_cutWord_11 : decAL cX8_cutWord 11 0 12 := Or.inr ⟨0, rfl, by decide +kernel, rfl⟩
theorem d_X8_cutWord_12 : dec 3 cX8_cutWord 12 (.getfield 28) 15 := ⟨by decide +kernel, rfl⟩
theorem d_X8_cutWord_15 : decAL cX8_cutWord 15 0 16 := Or.inr ⟨0, rfl, by decide +kernel, rfl⟩
theorem d_X8_cutWord_16 : dec 3 cX8_cutWord 16 (.getfield 16) 19 := ⟨by decide +kernel, rfl⟩
theorem d_X8_cutWord_19 : dec 1 cX8_cutWord 19 .baload 20 := ⟨by decide +kernel, rfl⟩
theorem d_X8_cutWord_20 : dec 2 cX8_cutWord 20 (.bipush 97) 22 := ⟨by decide +kernel, rfl⟩
theorem d_X8_cutWord_22 : decB cX8_cutWord 22 (.if_icmp .lt 30) (30) 25 52 := ⟨by decide +kernel, rfl, by decide⟩
theorem d_X8_cutWord_25 : decAL cX8_cutWord 25 0 26 := Or.inr ⟨0, rfl, by decide +kernel, rfl⟩
theorem d_X8_cutWord_26 : dec 3 cX8_cutWord 26 (.getfield 28) 29 := ⟨by decide +kernel, rfl⟩
theorem d_X8_cutWord_29 : decAL cX8_cutWord 29 0 30 := Or.inr ⟨0, rfl, by decide +kernel, rfl⟩
theorem d_X8_cutWord_30 : dec 3 cX8_cutWord 30 (.getfield 16) 33 := ⟨by decide +kernel, rfl⟩
theorem d_X8_cutWord_33 : dec 1 cX8_cutWord 33 .baload 34 := ⟨by decide +kernel, rfl⟩
theorem d_X8_cutWord_34 : dec 2 cX8_cutWord 34 (.bipush 122) 36 := ⟨by decide +kernel, rfl⟩
theorem d_X8_cutWord_36 : decB cX8_cutWord 36 (.if_icmp .gt 16) (16) 39 52 := ⟨by decide +kernel, rfl, by decide⟩
theorem d_X8_cutWord_39 : decAL cX8_cutWord 39 0 40 := Or.inr ⟨0, rfl, by decide +kernel, rfl⟩
theorem d_X8_cutWord_40 : dec 1 cX8_cutWord 40 .dup 41 := ⟨by decide +kernel, rfl⟩
theorem d_X8_cutWord_41 : dec 3 cX8_cutWord 41 (.getfield 16) 44 := ⟨by decide +kernel, rfl⟩
theorem d_X8_cutWord_44 : dec 1 cX8_cutWord 44 (.iconst 1) 45 := ⟨by decide +kernel, rfl⟩
theorem d_X8_cutWord_45 : dec 1 cX8_cutWord 45 .iadd 46 := ⟨by decide +kernel, rfl⟩
theorem d_X8_cutWord_46 : dec 3 cX8_cutWord 46 (.putfield 16) 49 := ⟨by decide +kernel, rfl⟩
theorem d_X8_cutWord_49 : decB cX8_cutWord 49 (.goto (-49)) (-49) 52 0 := ⟨by decide +kernel, rfl, by decide⟩
theorem d_X8_cutWord_52 : decAL cX8_cutWord 52 0 53 := Or.inr ⟨0, rfl, by decide +kernel, rfl⟩
theorem d_X8_cutWord_53 : dec 1 cX8_cutWord 53 (.iconst 1) 54 := ⟨by decide +kernel, rfl⟩
theorem d_X8_cutWord_54 : dec 3 cX8_cutWord 54 (.putfield 9) 57 := ⟨by decide +kernel, rfl⟩
theorem d_X8_cutWord_57 : dec 1 cX8_cutWord 57 .return_ 58 := ⟨by decide +kernel, rfl⟩
def b_X8_cutWord_0 (F : Nat)   (v0 : Nat) (rec0 : Nat → GH → Option (Nat × GH)) : Nat → GH → Option (Nat × GH) := fun  n G =>
  Option.bind (gI G v0 8 4) (fun (x1 : Int32) =>
  Option.bind (gI G v0 8 1) (fun (x2 : Int32) =>
  if x2 ≤ x1 then
  (Option.bind (pV G v0 8 2 (.int (1 : Int32))) (fun (G3 : GH) =>
  some (n, G3)))
  else (Option.bind (gR G v0 8 0) (fun (x4 : Nat) =>
  Option.bind (gI G v0 8 4) (fun (x5 : Int32) =>
  Option.bind (aI G x4 1 x5) (fun (x6 : Int32) =>
  if x6 < (97 : Int32) then
  (Option.bind (pV G v0 8 2 (.int (1 : Int32))) (fun (G7 : GH) =>
  some (n, G7)))
  else (Option.bind (gR G v0 8 0) (fun (x8 : Nat) =>
  Option.bind (gI G v0 8 4) (fun (x9 : Int32) =>
  Option.bind (aI G x8 1 x9) (fun (x10 : Int32) =>
  if (122 : Int32) < x10 then
  (Option.bind (pV G v0 8 2 (.int (1 : Int32))) (fun (G11 : GH) =>
  some (n, G11)))
  else (Option.bind (gI G v0 8 4) (fun (x12 : Int32) =>
  Option.bind (pV G v0 8 4 (.int (x12 + (1 : Int32)))) (fun (G13 : GH) =>
  rec0 n G13)))))))))))))
def f_X8_cutWord (F : Nat)  (v0 : Nat) (n : Nat) (G : GH) : Option (Nat × GH) :=
  fixN (fun _ _ => none) (b_X8_cutWord_0 F   v0) F n G
set_option maxRecDepth 100000 in
set_option maxHeartbeats 4000000 in
theorem l_X8_cutWord_0 {E : GE} {F : Nat}   {v0 : Nat}   : ∀ (K : Nat)  (n : Nat) (G : GH) (z : Nat × GH), fixN ((fun _ _ => none) : Nat → GH → Option (Nat × GH)) (b_X8_cutWord_0 F   v0) K  n G = some z → WG E RX8 "cutWord" cX8_cutWord 1 none 0 0 0 0 0 [(0, .ref v0)] [] n G (g_O E (none, z.1, z.2)) := by
  intro K
  refine fixN_ind (P := fun (r : Nat → GH → Option (Nat × GH)) => ∀  (n : Nat) (G : GH) (z : Nat × GH), r  n G = some z → WG E RX8 "cutWord" cX8_cutWord 1 none 0 0 0 0 0 [(0, .ref v0)] [] n G (g_O E (none, z.1, z.2))) ?_ ?_ K
  · intro  n G z h
    cases h
  · intro rec0 hrec0  n G z h
    unfold b_X8_cutWord_0 at h
    refine r_aload d_X8_cutWord_0 rfl ?_
    refine r_getI h d_X8_cutWord_1 pf_X8_16 (fun x1 h => ?_)
    refine r_aload d_X8_cutWord_4 rfl ?_
    refine r_getI h d_X8_cutWord_5 pf_X8_32 (fun x2 h => ?_)
    refine r_icmp_ge h d_X8_cutWord_8 (fun h => ?_) (fun h => ?_)
    · refine r_aload d_X8_cutWord_52 rfl ?_
      refine r_iconst d_X8_cutWord_53 ic_1 ?_
      refine r_put h d_X8_cutWord_54 pw_X8_9 rfl rfl (fun G3 h => ?_)
      exact r_vret h d_X8_cutWord_57
    · refine r_aload d_X8_cutWord_11 rfl ?_
      refine r_getR h d_X8_cutWord_12 pf_X8_28 (fun x4 h => ?_)
      refine r_aload d_X8_cutWord_15 rfl ?_
      refine r_getI h d_X8_cutWord_16 pf_X8_16 (fun x5 h => ?_)
      refine r_bald h d_X8_cutWord_19 (fun x6 h => ?_)
      refine r_bipush d_X8_cutWord_20 bp_97 ?_
      refine r_icmp_lt h d_X8_cutWord_22 (fun h => ?_) (fun h => ?_)
      · refine r_aload d_X8_cutWord_52 rfl ?_
        refine r_iconst d_X8_cutWord_53 ic_1 ?_
        refine r_put h d_X8_cutWord_54 pw_X8_9 rfl rfl (fun G7 h => ?_)
        exact r_vret h d_X8_cutWord_57
      · refine r_aload d_X8_cutWord_25 rfl ?_
        refine r_getR h d_X8_cutWord_26 pf_X8_28 (fun x8 h => ?_)
        refine r_aload d_X8_cutWord_29 rfl ?_
        refine r_getI h d_X8_cutWord_30 pf_X8_16 (fun x9 h => ?_)
        refine r_bald h d_X8_cutWord_33 (fun x10 h => ?_)
        refine r_bipush d_X8_cutWord_34 bp_122 ?_
        refine r_icmp_gt h d_X8_cutWord_36 (fun h => ?_) (fun h => ?_)
        · refine r_aload d_X8_cutWord_52 rfl ?_
          refine r_iconst d_X8_cutWord_53 ic_1 ?_
          refine r_put h d_X8_cutWord_54 pw_X8_9 rfl rfl (fun G11 h => ?_)
          exact r_vret h d_X8_cutWord_57
        · refine r_aload d_X8_cutWord_39 rfl ?_
          refine r_dup d_X8_cutWord_40 rfl ?_
          refine r_getI h d_X8_cutWord_41 pf_X8_16 (fun x12 h => ?_)
          refine r_iconst d_X8_cutWord_44 ic_1 ?_
          refine r_iadd d_X8_cutWord_45 ?_
          refine r_put h d_X8_cutWord_46 pw_X8_16 rfl rfl (fun G13 h => ?_)
          refine r_goto d_X8_cutWord_49 ?_
          refine r_lv [(0, .ref v0)] (g_allc rfl g_alln) ?_
          exact hrec0 _ _ _ h
set_option maxRecDepth 100000 in
set_option maxHeartbeats 4000000 in
theorem s_X8_cutWord {E : GE} {F : Nat}  {v0 : Nat} {n : Nat} {G : GH} {z : Nat × GH}  (h : f_X8_cutWord F  v0 n G = some z) : GM E yX8_cutWord cX8_cutWord 1 none 0 0 0 0 [.ref v0] n G (none, z.1, z.2) := by
  refine GM.of (by decide) (Nat.le_of_ble_eq_true rfl) ?_
  show WG E RX8 "cutWord" cX8_cutWord 1 none 0 0 0 0 0 [(0, .ref v0)] [] n G (g_O E (none, z.1, z.2))
  unfold f_X8_cutWord at h
  refine r_lv [(0, .ref v0)] (g_allc rfl g_alln) ?_
  exact l_X8_cutWord_0   _ _ _ _ h
/-! X8_cutNumber -/
theorem pf_X8_13 : pF RX8 13 8 3 := ⟨RX8, TX8, 6, rfl, by decide, rfl, Or.inl (g_in 463 (by decide +kernel) rfl)⟩
theorem pf_X8_19 : pF RX8 19 8 5 := ⟨RX8, TX8, 6, rfl, by decide, rfl, Or.inl (g_in 466 (by decide +kernel) rfl)⟩
theorem d_X8_cutNumber_0 : decAL cX8_cutNumber 0 0 1 := Or.inr ⟨0, rfl, by decide +kernel, rfl⟩
theorem d_X8_cutNumber_1 : dec 1 cX8_cutNumber 1 (.iconst 0) 2 := ⟨by decide +kernel, rfl⟩
theorem d_X8_cutNumber_2 : dec 3 cX8_cutNumber 2 (.putfield 19) 5 := ⟨by decide +kernel, rfl⟩
theorem d_X8_cutNumber_5 : decAL cX8_cutNumber 5 0 6 := Or.inr ⟨0, rfl, by decide +kernel, rfl⟩
theorem d_X8_cutNumber_6 : dec 3 cX8_cutNumber 6 (.getfield 16) 9 := ⟨by decide +kernel, rfl⟩
theorem d_X8_cutNumber_9 : decAL cX8_cutNumber 9 0 10 := Or.inr ⟨0, rfl, by decide +kernel, rfl⟩
theorem d_X8_cutNumber_10 : dec 3 cX8_cutNumber 10 (.getfield 32) 13 := ⟨by decide +kernel, rfl⟩
theorem d_X8_cutNumber_13 : decB cX8_cutNumber 13 (.if_icmp .ge 68) (68) 16 81 := ⟨by decide +kernel, rfl, by decide⟩
theorem d_X8_cutNumber_16 : decAL cX8_cutNumber 16 0 17 := Or.inr ⟨0, rfl, by decide +kernel, rfl⟩
theorem d_X8_cutNumber_17 : dec 3 cX8_cutNumber 17 (.getfield 28) 20 := ⟨by decide +kernel, rfl⟩
theorem d_X8_cutNumber_20 : decAL cX8_cutNumber 20 0 21 := Or.inr ⟨0, rfl, by decide +kernel, rfl⟩
theorem d_X8_cutNumber_21 : dec 3 cX8_cutNumber 21 (.getfield 16) 24 := ⟨by decide +kernel, rfl⟩
theorem d_X8_cutNumber_24 : dec 1 cX8_cutNumber 24 .baload 25 := ⟨by decide +kernel, rfl⟩
theorem d_X8_cutNumber_25 : dec 2 cX8_cutNumber 25 (.bipush 48) 27 := ⟨by decide +kernel, rfl⟩
theorem d_X8_cutNumber_27 : decB cX8_cutNumber 27 (.if_icmp .lt 54) (54) 30 81 := ⟨by decide +kernel, rfl, by decide⟩
theorem d_X8_cutNumber_30 : decAL cX8_cutNumber 30 0 31 := Or.inr ⟨0, rfl, by decide +kernel, rfl⟩
theorem d_X8_cutNumber_31 : dec 3 cX8_cutNumber 31 (.getfield 28) 34 := ⟨by decide +kernel, rfl⟩
theorem d_X8_cutNumber_34 : decAL cX8_cutNumber 34 0 35 := Or.inr ⟨0, rfl, by decide +kernel, rfl⟩
theorem d_X8_cutNumber_35 : dec 3 cX8_cutNumber 35 (.getfield 16) 38 := ⟨by decide +kernel, rfl⟩
theorem d_X8_cutNumber_38 : dec 1 cX8_cutNumber 38 .baload 39 := ⟨by decide +kernel, rfl⟩
theorem d_X8_cutNumber_39 : dec 2 cX8_cutNumber 39 (.bipush 57) 41 := ⟨by decide +kernel, rfl⟩
theorem d_X8_cutNumber_41 : decB cX8_cutNumber 41 (.if_icmp .gt 40) (40) 44 81 := ⟨by decide +kernel, rfl, by decide⟩
theorem d_X8_cutNumber_44 : decAL cX8_cutNumber 44 0 45 := Or.inr ⟨0, rfl, by decide +kernel, rfl⟩
theorem d_X8_cutNumber_45 : decAL cX8_cutNumber 45 0 46 := Or.inr ⟨0, rfl, by decide +kernel, rfl⟩
theorem d_X8_cutNumber_46 : dec 3 cX8_cutNumber 46 (.getfield 19) 49 := ⟨by decide +kernel, rfl⟩
theorem d_X8_cutNumber_49 : dec 2 cX8_cutNumber 49 (.bipush 10) 51 := ⟨by decide +kernel, rfl⟩
theorem d_X8_cutNumber_51 : dec 1 cX8_cutNumber 51 .imul 52 := ⟨by decide +kernel, rfl⟩
theorem d_X8_cutNumber_52 : decAL cX8_cutNumber 52 0 53 := Or.inr ⟨0, rfl, by decide +kernel, rfl⟩
theorem d_X8_cutNumber_53 : dec 3 cX8_cutNumber 53 (.getfield 28) 56 := ⟨by decide +kernel, rfl⟩
theorem d_X8_cutNumber_56 : decAL cX8_cutNumber 56 0 57 := Or.inr ⟨0, rfl, by decide +kernel, rfl⟩
theorem d_X8_cutNumber_57 : dec 3 cX8_cutNumber 57 (.getfield 16) 60 := ⟨by decide +kernel, rfl⟩
theorem d_X8_cutNumber_60 : dec 1 cX8_cutNumber 60 .baload 61 := ⟨by decide +kernel, rfl⟩
theorem d_X8_cutNumber_61 : dec 2 cX8_cutNumber 61 (.bipush 48) 63 := ⟨by decide +kernel, rfl⟩
theorem d_X8_cutNumber_63 : dec 1 cX8_cutNumber 63 .isub 64 := ⟨by decide +kernel, rfl⟩
theorem d_X8_cutNumber_64 : dec 1 cX8_cutNumber 64 .iadd 65 := ⟨by decide +kernel, rfl⟩
theorem d_X8_cutNumber_65 : dec 3 cX8_cutNumber 65 (.putfield 19) 68 := ⟨by decide +kernel, rfl⟩
theorem d_X8_cutNumber_68 : decAL cX8_cutNumber 68 0 69 := Or.inr ⟨0, rfl, by decide +kernel, rfl⟩
theorem d_X8_cutNumber_69 : dec 1 cX8_cutNumber 69 .dup 70 := ⟨by decide +kernel, rfl⟩
theorem d_X8_cutNumber_70 : dec 3 cX8_cutNumber 70 (.getfield 16) 73 := ⟨by decide +kernel, rfl⟩
theorem d_X8_cutNumber_73 : dec 1 cX8_cutNumber 73 (.iconst 1) 74 := ⟨by decide +kernel, rfl⟩
theorem d_X8_cutNumber_74 : dec 1 cX8_cutNumber 74 .iadd 75 := ⟨by decide +kernel, rfl⟩
theorem d_X8_cutNumber_75 : dec 3 cX8_cutNumber 75 (.putfield 16) 78 := ⟨by decide +kernel, rfl⟩
theorem d_X8_cutNumber_78 : decB cX8_cutNumber 78 (.goto (-73)) (-73) 81 5 := ⟨by decide +kernel, rfl, by decide⟩
theorem d_X8_cutNumber_81 : decAL cX8_cutNumber 81 0 82 := Or.inr ⟨0, rfl, by decide +kernel, rfl⟩
theorem d_X8_cutNumber_82 : decAL cX8_cutNumber 82 0 83 := Or.inr ⟨0, rfl, by decide +kernel, rfl⟩
theorem d_X8_cutNumber_83 : dec 3 cX8_cutNumber 83 (.getfield 16) 86 := ⟨by decide +kernel, rfl⟩
theorem d_X8_cutNumber_86 : decAL cX8_cutNumber 86 0 87 := Or.inr ⟨0, rfl, by decide +kernel, rfl⟩
theorem d_X8_cutNumber_87 : dec 3 cX8_cutNumber 87 (.getfield 13) 90 := ⟨by decide +kernel, rfl⟩
theorem d_X8_cutNumber_90 : dec 1 cX8_cutNumber 90 .isub 91 := ⟨by decide +kernel, rfl⟩
theorem d_X8_cutNumber_91 : dec 1 cX8_cutNumber 91 (.iconst 3) 92 := ⟨by decide +kernel, rfl⟩
theorem d_X8_cutNumber_92 : decB cX8_cutNumber 92 (.if_icmp .gt 7) (7) 95 99 := ⟨by decide +kernel, rfl, by decide⟩
theorem d_X8_cutNumber_95 : dec 1 cX8_cutNumber 95 (.iconst 2) 96 := ⟨by decide +kernel, rfl⟩
theorem d_X8_cutNumber_96 : decB cX8_cutNumber 96 (.goto 4) (4) 99 100 := ⟨by decide +kernel, rfl, by decide⟩
theorem d_X8_cutNumber_99 : dec 1 cX8_cutNumber 99 (.iconst 5) 100 := ⟨by decide +kernel, rfl⟩
theorem d_X8_cutNumber_100 : dec 3 cX8_cutNumber 100 (.putfield 9) 103 := ⟨by decide +kernel, rfl⟩
theorem d_X8_cutNumber_103 : dec 1 cX8_cutNumber 103 .return_ 104 := ⟨by decide +kernel, rfl⟩
def k_X8_cutNumber_81 (F : Nat)   (v0 : Nat)  (n : Nat) (G : GH) : Option (Nat × GH) :=
  Option.bind (gI G v0 8 4) (fun (x4 : Int32) =>
  Option.bind (gI G v0 8 3) (fun (x5 : Int32) =>
  if (3 : Int32) < (x4 - x5) then
  (Option.bind (pV G v0 8 2 (.int (5 : Int32))) (fun (G6 : GH) =>
  some (n, G6)))
  else (Option.bind (pV G v0 8 2 (.int (2 : Int32))) (fun (G7 : GH) =>
  some (n, G7)))))
def b_X8_cutNumber_5 (F : Nat)   (v0 : Nat) (rec5 : Nat → GH → Option (Nat × GH)) : Nat → GH → Option (Nat × GH) := fun  n G =>
  Option.bind (gI G v0 8 4) (fun (x2 : Int32) =>
  Option.bind (gI G v0 8 1) (fun (x3 : Int32) =>
  if x3 ≤ x2 then
  (k_X8_cutNumber_81 F   v0 n G)
  else (Option.bind (gR G v0 8 0) (fun (x8 : Nat) =>
  Option.bind (gI G v0 8 4) (fun (x9 : Int32) =>
  Option.bind (aI G x8 1 x9) (fun (x10 : Int32) =>
  if x10 < (48 : Int32) then
  (k_X8_cutNumber_81 F   v0 n G)
  else (Option.bind (gR G v0 8 0) (fun (x11 : Nat) =>
  Option.bind (gI G v0 8 4) (fun (x12 : Int32) =>
  Option.bind (aI G x11 1 x12) (fun (x13 : Int32) =>
  if (57 : Int32) < x13 then
  (k_X8_cutNumber_81 F   v0 n G)
  else (Option.bind (gI G v0 8 5) (fun (x14 : Int32) =>
  Option.bind (gR G v0 8 0) (fun (x15 : Nat) =>
  Option.bind (gI G v0 8 4) (fun (x16 : Int32) =>
  Option.bind (aI G x15 1 x16) (fun (x17 : Int32) =>
  Option.bind (pV G v0 8 5 (.int ((x14 * (10 : Int32)) + (x17 - (48 : Int32))))) (fun (G18 : GH) =>
  Option.bind (gI G18 v0 8 4) (fun (x19 : Int32) =>
  Option.bind (pV G18 v0 8 4 (.int (x19 + (1 : Int32)))) (fun (G20 : GH) =>
  rec5 n G20))))))))))))))))))
def f_X8_cutNumber (F : Nat)  (v0 : Nat) (n : Nat) (G : GH) : Option (Nat × GH) :=
  Option.bind (pV G v0 8 5 (.int (0 : Int32))) (fun (G1 : GH) =>
  fixN (fun _ _ => none) (b_X8_cutNumber_5 F   v0) F n G1)
set_option maxRecDepth 100000 in
set_option maxHeartbeats 4000000 in
theorem c_X8_cutNumber_81 {E : GE} {F : Nat}   {v0 : Nat}  {n : Nat} {G : GH} {z : Nat × GH}   (h : k_X8_cutNumber_81 F   v0  n G = some z) : WG E RX8 "cutNumber" cX8_cutNumber 1 none 0 0 0 0 81 [(0, .ref v0)] [] n G (g_O E (none, z.1, z.2)) := by
  unfold k_X8_cutNumber_81 at h
  refine r_aload d_X8_cutNumber_81 rfl ?_
  refine r_aload d_X8_cutNumber_82 rfl ?_
  refine r_getI h d_X8_cutNumber_83 pf_X8_16 (fun x4 h => ?_)
  refine r_aload d_X8_cutNumber_86 rfl ?_
  refine r_getI h d_X8_cutNumber_87 pf_X8_13 (fun x5 h => ?_)
  refine r_isub d_X8_cutNumber_90 ?_
  refine r_iconst d_X8_cutNumber_91 ic_3 ?_
  refine r_icmp_gt h d_X8_cutNumber_92 (fun h => ?_) (fun h => ?_)
  · refine r_iconst d_X8_cutNumber_99 ic_5 ?_
    refine r_put h d_X8_cutNumber_100 pw_X8_9 rfl rfl (fun G6 h => ?_)
    exact r_vret h d_X8_cutNumber_103
  · refine r_iconst d_X8_cutNumber_95 ic_2 ?_
    refine r_goto d_X8_cutNumber_96 ?_
    refine r_put h d_X8_cutNumber_100 pw_X8_9 rfl rfl (fun G7 h => ?_)
    exact r_vret h d_X8_cutNumber_103
set_option maxRecDepth 100000 in
set_option maxHeartbeats 4000000 in
theorem l_X8_cutNumber_5 {E : GE} {F : Nat}   {v0 : Nat}   : ∀ (K : Nat)  (n : Nat) (G : GH) (z : Nat × GH), fixN ((fun _ _ => none) : Nat → GH → Option (Nat × GH)) (b_X8_cutNumber_5 F   v0) K  n G = some z → WG E RX8 "cutNumber" cX8_cutNumber 1 none 0 0 0 0 5 [(0, .ref v0)] [] n G (g_O E (none, z.1, z.2)) := by
  intro K
  refine fixN_ind (P := fun (r : Nat → GH → Option (Nat × GH)) => ∀  (n : Nat) (G : GH) (z : Nat × GH), r  n G = some z → WG E RX8 "cutNumber" cX8_cutNumber 1 none 0 0 0 0 5 [(0, .ref v0)] [] n G (g_O E (none, z.1, z.2))) ?_ ?_ K
  · intro  n G z h
    cases h
  · intro rec5 hrec5  n G z h
    unfold b_X8_cutNumber_5 at h
    refine r_aload d_X8_cutNumber_5 rfl ?_
    refine r_getI h d_X8_cutNumber_6 pf_X8_16 (fun x2 h => ?_)
    refine r_aload d_X8_cutNumber_9 rfl ?_
    refine r_getI h d_X8_cutNumber_10 pf_X8_32 (fun x3 h => ?_)
    refine r_icmp_ge h d_X8_cutNumber_13 (fun h => ?_) (fun h => ?_)
    · refine r_lv [(0, .ref v0)] (g_allc rfl g_alln) ?_
      exact c_X8_cutNumber_81   h
    · refine r_aload d_X8_cutNumber_16 rfl ?_
      refine r_getR h d_X8_cutNumber_17 pf_X8_28 (fun x8 h => ?_)
      refine r_aload d_X8_cutNumber_20 rfl ?_
      refine r_getI h d_X8_cutNumber_21 pf_X8_16 (fun x9 h => ?_)
      refine r_bald h d_X8_cutNumber_24 (fun x10 h => ?_)
      refine r_bipush d_X8_cutNumber_25 bp_48 ?_
      refine r_icmp_lt h d_X8_cutNumber_27 (fun h => ?_) (fun h => ?_)
      · refine r_lv [(0, .ref v0)] (g_allc rfl g_alln) ?_
        exact c_X8_cutNumber_81   h
      · refine r_aload d_X8_cutNumber_30 rfl ?_
        refine r_getR h d_X8_cutNumber_31 pf_X8_28 (fun x11 h => ?_)
        refine r_aload d_X8_cutNumber_34 rfl ?_
        refine r_getI h d_X8_cutNumber_35 pf_X8_16 (fun x12 h => ?_)
        refine r_bald h d_X8_cutNumber_38 (fun x13 h => ?_)
        refine r_bipush d_X8_cutNumber_39 bp_57 ?_
        refine r_icmp_gt h d_X8_cutNumber_41 (fun h => ?_) (fun h => ?_)
        · refine r_lv [(0, .ref v0)] (g_allc rfl g_alln) ?_
          exact c_X8_cutNumber_81   h
        · refine r_aload d_X8_cutNumber_44 rfl ?_
          refine r_aload d_X8_cutNumber_45 rfl ?_
          refine r_getI h d_X8_cutNumber_46 pf_X8_19 (fun x14 h => ?_)
          refine r_bipush d_X8_cutNumber_49 bp_10 ?_
          refine r_imul d_X8_cutNumber_51 ?_
          refine r_aload d_X8_cutNumber_52 rfl ?_
          refine r_getR h d_X8_cutNumber_53 pf_X8_28 (fun x15 h => ?_)
          refine r_aload d_X8_cutNumber_56 rfl ?_
          refine r_getI h d_X8_cutNumber_57 pf_X8_16 (fun x16 h => ?_)
          refine r_bald h d_X8_cutNumber_60 (fun x17 h => ?_)
          refine r_bipush d_X8_cutNumber_61 bp_48 ?_
          refine r_isub d_X8_cutNumber_63 ?_
          refine r_iadd d_X8_cutNumber_64 ?_
          refine r_put h d_X8_cutNumber_65 pw_X8_19 rfl rfl (fun G18 h => ?_)
          refine r_aload d_X8_cutNumber_68 rfl ?_
          refine r_dup d_X8_cutNumber_69 rfl ?_
          refine r_getI h d_X8_cutNumber_70 pf_X8_16 (fun x19 h => ?_)
          refine r_iconst d_X8_cutNumber_73 ic_1 ?_
          refine r_iadd d_X8_cutNumber_74 ?_
          refine r_put h d_X8_cutNumber_75 pw_X8_16 rfl rfl (fun G20 h => ?_)
          refine r_goto d_X8_cutNumber_78 ?_
          refine r_lv [(0, .ref v0)] (g_allc rfl g_alln) ?_
          exact hrec5 _ _ _ h
set_option maxRecDepth 100000 in
set_option maxHeartbeats 4000000 in
theorem s_X8_cutNumber {E : GE} {F : Nat}  {v0 : Nat} {n : Nat} {G : GH} {z : Nat × GH}  (h : f_X8_cutNumber F  v0 n G = some z) : GM E yX8_cutNumber cX8_cutNumber 1 none 0 0 0 0 [.ref v0] n G (none, z.1, z.2) := by
  refine GM.of (by decide) (Nat.le_of_ble_eq_true rfl) ?_
  show WG E RX8 "cutNumber" cX8_cutNumber 1 none 0 0 0 0 0 [(0, .ref v0)] [] n G (g_O E (none, z.1, z.2))
  unfold f_X8_cutNumber at h
  refine r_aload d_X8_cutNumber_0 rfl ?_
  refine r_iconst d_X8_cutNumber_1 ic_0 ?_
  refine r_put h d_X8_cutNumber_2 pw_X8_19 rfl rfl (fun G1 h => ?_)
  refine r_lv [(0, .ref v0)] (g_allc rfl g_alln) ?_
  exact l_X8_cutNumber_5   _ _ _ _ h
/-! X8_advance -/
theorem py_X8_cutNumber : pY yX8_cutNumber cX8_cutNumber 1 none 0 := ⟨g_in 525 (by decide +kernel) rfl, g_in 106 (by decide +kernel) rfl, by decide, by decide, by decide +kernel⟩
theorem pi_X8_cutNumber : pI yX8_cutNumber 8 := ⟨g_in 524 (by decide +kernel) rfl, g_in 1 (by decide +kernel) rfl, (RX8, TX8, 6), rfl, rfl⟩
theorem pl_X8_36 : pL RX8 36 yX8_cutNumber := Or.inl (g_in 522 (by decide +kernel) rfl)
theorem py_X8_cutWord : pY yX8_cutWord cX8_cutWord 1 none 0 := ⟨g_in 521 (by decide +kernel) rfl, g_in 106 (by decide +kernel) rfl, by decide, by decide, by decide +kernel⟩
theorem pi_X8_cutWord : pI yX8_cutWord 8 := ⟨g_in 520 (by decide +kernel) rfl, g_in 0 (by decide +kernel) rfl, (RX8, TX8, 6), rfl, rfl⟩
theorem pl_X8_33 : pL RX8 33 yX8_cutWord := Or.inl (g_in 518 (by decide +kernel) rfl)
theorem d_X8_advance_0 : decAL cX8_advance 0 0 1 := Or.inr ⟨0, rfl, by decide +kernel, rfl⟩
theorem d_X8_advance_1 : decAL cX8_advance 1 0 2 := Or.inr ⟨0, rfl, by decide +kernel, rfl⟩
theorem d_X8_advance_2 : dec 3 cX8_advance 2 (.getfield 16) 5 := ⟨by decide +kernel, rfl⟩
theorem d_X8_advance_5 : dec 3 cX8_advance 5 (.putfield 13) 8 := ⟨by decide +kernel, rfl⟩
theorem d_X8_advance_8 : decAL cX8_advance 8 0 9 := Or.inr ⟨0, rfl, by decide +kernel, rfl⟩
theorem d_X8_advance_9 : dec 3 cX8_advance 9 (.getfield 13) 12 := ⟨by decide +kernel, rfl⟩
theorem d_X8_advance_12 : decAL cX8_advance 12 0 13 := Or.inr ⟨0, rfl, by decide +kernel, rfl⟩
theorem d_X8_advance_13 : dec 3 cX8_advance 13 (.getfield 32) 16 := ⟨by decide +kernel, rfl⟩
theorem d_X8_advance_16 : decB cX8_advance 16 (.if_icmp .ge 44) (44) 19 60 := ⟨by decide +kernel, rfl, by decide⟩
theorem d_X8_advance_19 : decAL cX8_advance 19 0 20 := Or.inr ⟨0, rfl, by decide +kernel, rfl⟩
theorem d_X8_advance_20 : dec 3 cX8_advance 20 (.getfield 28) 23 := ⟨by decide +kernel, rfl⟩
theorem d_X8_advance_23 : decAL cX8_advance 23 0 24 := Or.inr ⟨0, rfl, by decide +kernel, rfl⟩
theorem d_X8_advance_24 : dec 3 cX8_advance 24 (.getfield 13) 27 := ⟨by decide +kernel, rfl⟩
theorem d_X8_advance_27 : dec 1 cX8_advance 27 .baload 28 := ⟨by decide +kernel, rfl⟩
theorem d_X8_advance_28 : dec 2 cX8_advance 28 (.bipush 32) 30 := ⟨by decide +kernel, rfl⟩
theorem d_X8_advance_30 : decB cX8_advance 30 (.if_icmp .eq 17) (17) 33 47 := ⟨by decide +kernel, rfl, by decide⟩
theorem d_X8_advance_33 : decAL cX8_advance 33 0 34 := Or.inr ⟨0, rfl, by decide +kernel, rfl⟩
theorem d_X8_advance_34 : dec 3 cX8_advance 34 (.getfield 28) 37 := ⟨by decide +kernel, rfl⟩
theorem d_X8_advance_37 : decAL cX8_advance 37 0 38 := Or.inr ⟨0, rfl, by decide +kernel, rfl⟩
theorem d_X8_advance_38 : dec 3 cX8_advance 38 (.getfield 13) 41 := ⟨by decide +kernel, rfl⟩
theorem d_X8_advance_41 : dec 1 cX8_advance 41 .baload 42 := ⟨by decide +kernel, rfl⟩
theorem d_X8_advance_42 : dec 2 cX8_advance 42 (.bipush 10) 44 := ⟨by decide +kernel, rfl⟩
theorem d_X8_advance_44 : decB cX8_advance 44 (.if_icmp .ne 16) (16) 47 60 := ⟨by decide +kernel, rfl, by decide⟩
theorem d_X8_advance_47 : decAL cX8_advance 47 0 48 := Or.inr ⟨0, rfl, by decide +kernel, rfl⟩
theorem d_X8_advance_48 : dec 1 cX8_advance 48 .dup 49 := ⟨by decide +kernel, rfl⟩
theorem d_X8_advance_49 : dec 3 cX8_advance 49 (.getfield 13) 52 := ⟨by decide +kernel, rfl⟩
theorem d_X8_advance_52 : dec 1 cX8_advance 52 (.iconst 1) 53 := ⟨by decide +kernel, rfl⟩
theorem d_X8_advance_53 : dec 1 cX8_advance 53 .iadd 54 := ⟨by decide +kernel, rfl⟩
theorem d_X8_advance_54 : dec 3 cX8_advance 54 (.putfield 13) 57 := ⟨by decide +kernel, rfl⟩
theorem d_X8_advance_57 : decB cX8_advance 57 (.goto (-49)) (-49) 60 8 := ⟨by decide +kernel, rfl, by decide⟩
theorem d_X8_advance_60 : decAL cX8_advance 60 0 61 := Or.inr ⟨0, rfl, by decide +kernel, rfl⟩
theorem d_X8_advance_61 : decAL cX8_advance 61 0 62 := Or.inr ⟨0, rfl, by decide +kernel, rfl⟩
theorem d_X8_advance_62 : dec 3 cX8_advance 62 (.getfield 13) 65 := ⟨by decide +kernel, rfl⟩
theorem d_X8_advance_65 : dec 3 cX8_advance 65 (.putfield 16) 68 := ⟨by decide +kernel, rfl⟩
theorem d_X8_advance_68 : decAL cX8_advance 68 0 69 := Or.inr ⟨0, rfl, by decide +kernel, rfl⟩
theorem d_X8_advance_69 : dec 3 cX8_advance 69 (.getfield 13) 72 := ⟨by decide +kernel, rfl⟩
theorem d_X8_advance_72 : decAL cX8_advance 72 0 73 := Or.inr ⟨0, rfl, by decide +kernel, rfl⟩
theorem d_X8_advance_73 : dec 3 cX8_advance 73 (.getfield 32) 76 := ⟨by decide +kernel, rfl⟩
theorem d_X8_advance_76 : decB cX8_advance 76 (.if_icmp .lt 11) (11) 79 87 := ⟨by decide +kernel, rfl, by decide⟩
theorem d_X8_advance_79 : decAL cX8_advance 79 0 80 := Or.inr ⟨0, rfl, by decide +kernel, rfl⟩
theorem d_X8_advance_80 : dec 1 cX8_advance 80 (.iconst 0) 81 := ⟨by decide +kernel, rfl⟩
theorem d_X8_advance_81 : dec 3 cX8_advance 81 (.putfield 9) 84 := ⟨by decide +kernel, rfl⟩
theorem d_X8_advance_84 : decB cX8_advance 84 (.goto 124) (124) 87 208 := ⟨by decide +kernel, rfl, by decide⟩
theorem d_X8_advance_87 : decAL cX8_advance 87 0 88 := Or.inr ⟨0, rfl, by decide +kernel, rfl⟩
theorem d_X8_advance_88 : dec 3 cX8_advance 88 (.getfield 28) 91 := ⟨by decide +kernel, rfl⟩
theorem d_X8_advance_91 : decAL cX8_advance 91 0 92 := Or.inr ⟨0, rfl, by decide +kernel, rfl⟩
theorem d_X8_advance_92 : dec 3 cX8_advance 92 (.getfield 13) 95 := ⟨by decide +kernel, rfl⟩
theorem d_X8_advance_95 : dec 1 cX8_advance 95 .baload 96 := ⟨by decide +kernel, rfl⟩
theorem d_X8_advance_96 : dec 2 cX8_advance 96 (.bipush 97) 98 := ⟨by decide +kernel, rfl⟩
theorem d_X8_advance_98 : decB cX8_advance 98 (.if_icmp .lt 24) (24) 101 122 := ⟨by decide +kernel, rfl, by decide⟩
theorem d_X8_advance_101 : decAL cX8_advance 101 0 102 := Or.inr ⟨0, rfl, by decide +kernel, rfl⟩
theorem d_X8_advance_102 : dec 3 cX8_advance 102 (.getfield 28) 105 := ⟨by decide +kernel, rfl⟩
theorem d_X8_advance_105 : decAL cX8_advance 105 0 106 := Or.inr ⟨0, rfl, by decide +kernel, rfl⟩
theorem d_X8_advance_106 : dec 3 cX8_advance 106 (.getfield 13) 109 := ⟨by decide +kernel, rfl⟩
theorem d_X8_advance_109 : dec 1 cX8_advance 109 .baload 110 := ⟨by decide +kernel, rfl⟩
theorem d_X8_advance_110 : dec 2 cX8_advance 110 (.bipush 122) 112 := ⟨by decide +kernel, rfl⟩
theorem d_X8_advance_112 : decB cX8_advance 112 (.if_icmp .gt 10) (10) 115 122 := ⟨by decide +kernel, rfl, by decide⟩
theorem d_X8_advance_115 : decAL cX8_advance 115 0 116 := Or.inr ⟨0, rfl, by decide +kernel, rfl⟩
theorem d_X8_advance_116 : dec 3 cX8_advance 116 (.invokevirtual 33) 119 := ⟨by decide +kernel, rfl⟩
theorem d_X8_advance_119 : decB cX8_advance 119 (.goto 89) (89) 122 208 := ⟨by decide +kernel, rfl, by decide⟩
theorem d_X8_advance_122 : decAL cX8_advance 122 0 123 := Or.inr ⟨0, rfl, by decide +kernel, rfl⟩
theorem d_X8_advance_123 : dec 3 cX8_advance 123 (.getfield 28) 126 := ⟨by decide +kernel, rfl⟩
theorem d_X8_advance_126 : decAL cX8_advance 126 0 127 := Or.inr ⟨0, rfl, by decide +kernel, rfl⟩
theorem d_X8_advance_127 : dec 3 cX8_advance 127 (.getfield 13) 130 := ⟨by decide +kernel, rfl⟩
theorem d_X8_advance_130 : dec 1 cX8_advance 130 .baload 131 := ⟨by decide +kernel, rfl⟩
theorem d_X8_advance_131 : dec 2 cX8_advance 131 (.bipush 48) 133 := ⟨by decide +kernel, rfl⟩
theorem d_X8_advance_133 : decB cX8_advance 133 (.if_icmp .lt 24) (24) 136 157 := ⟨by decide +kernel, rfl, by decide⟩
theorem d_X8_advance_136 : decAL cX8_advance 136 0 137 := Or.inr ⟨0, rfl, by decide +kernel, rfl⟩
theorem d_X8_advance_137 : dec 3 cX8_advance 137 (.getfield 28) 140 := ⟨by decide +kernel, rfl⟩
theorem d_X8_advance_140 : decAL cX8_advance 140 0 141 := Or.inr ⟨0, rfl, by decide +kernel, rfl⟩
theorem d_X8_advance_141 : dec 3 cX8_advance 141 (.getfield 13) 144 := ⟨by decide +kernel, rfl⟩
theorem d_X8_advance_144 : dec 1 cX8_advance 144 .baload 145 := ⟨by decide +kernel, rfl⟩
theorem d_X8_advance_145 : dec 2 cX8_advance 145 (.bipush 57) 147 := ⟨by decide +kernel, rfl⟩
theorem d_X8_advance_147 : decB cX8_advance 147 (.if_icmp .gt 10) (10) 150 157 := ⟨by decide +kernel, rfl, by decide⟩
theorem d_X8_advance_150 : decAL cX8_advance 150 0 151 := Or.inr ⟨0, rfl, by decide +kernel, rfl⟩
theorem d_X8_advance_151 : dec 3 cX8_advance 151 (.invokevirtual 36) 154 := ⟨by decide +kernel, rfl⟩
theorem d_X8_advance_154 : decB cX8_advance 154 (.goto 54) (54) 157 208 := ⟨by decide +kernel, rfl, by decide⟩
theorem d_X8_advance_157 : decAL cX8_advance 157 0 158 := Or.inr ⟨0, rfl, by decide +kernel, rfl⟩
theorem d_X8_advance_158 : decAL cX8_advance 158 0 159 := Or.inr ⟨0, rfl, by decide +kernel, rfl⟩
theorem d_X8_advance_159 : dec 3 cX8_advance 159 (.getfield 13) 162 := ⟨by decide +kernel, rfl⟩
theorem d_X8_advance_162 : dec 1 cX8_advance 162 (.iconst 1) 163 := ⟨by decide +kernel, rfl⟩
theorem d_X8_advance_163 : dec 1 cX8_advance 163 .iadd 164 := ⟨by decide +kernel, rfl⟩
theorem d_X8_advance_164 : dec 3 cX8_advance 164 (.putfield 16) 167 := ⟨by decide +kernel, rfl⟩
theorem d_X8_advance_167 : decAL cX8_advance 167 0 168 := Or.inr ⟨0, rfl, by decide +kernel, rfl⟩
theorem d_X8_advance_168 : decAL cX8_advance 168 0 169 := Or.inr ⟨0, rfl, by decide +kernel, rfl⟩
theorem d_X8_advance_169 : dec 3 cX8_advance 169 (.getfield 28) 172 := ⟨by decide +kernel, rfl⟩
theorem d_X8_advance_172 : decAL cX8_advance 172 0 173 := Or.inr ⟨0, rfl, by decide +kernel, rfl⟩
theorem d_X8_advance_173 : dec 3 cX8_advance 173 (.getfield 13) 176 := ⟨by decide +kernel, rfl⟩
theorem d_X8_advance_176 : dec 1 cX8_advance 176 .baload 177 := ⟨by decide +kernel, rfl⟩
theorem d_X8_advance_177 : dec 2 cX8_advance 177 (.bipush 59) 179 := ⟨by decide +kernel, rfl⟩
theorem d_X8_advance_179 : decB cX8_advance 179 (.if_icmp .ne 7) (7) 182 186 := ⟨by decide +kernel, rfl, by decide⟩
theorem d_X8_advance_182 : dec 1 cX8_advance 182 (.iconst 3) 183 := ⟨by decide +kernel, rfl⟩
theorem d_X8_advance_183 : decB cX8_advance 183 (.goto 22) (22) 186 205 := ⟨by decide +kernel, rfl, by decide⟩
theorem d_X8_advance_186 : decAL cX8_advance 186 0 187 := Or.inr ⟨0, rfl, by decide +kernel, rfl⟩
theorem d_X8_advance_187 : dec 3 cX8_advance 187 (.getfield 28) 190 := ⟨by decide +kernel, rfl⟩
theorem d_X8_advance_190 : decAL cX8_advance 190 0 191 := Or.inr ⟨0, rfl, by decide +kernel, rfl⟩
theorem d_X8_advance_191 : dec 3 cX8_advance 191 (.getfield 13) 194 := ⟨by decide +kernel, rfl⟩
theorem d_X8_advance_194 : dec 1 cX8_advance 194 .baload 195 := ⟨by decide +kernel, rfl⟩
theorem d_X8_advance_195 : dec 2 cX8_advance 195 (.bipush 45) 197 := ⟨by decide +kernel, rfl⟩
theorem d_X8_advance_197 : decB cX8_advance 197 (.if_icmp .ne 7) (7) 200 204 := ⟨by decide +kernel, rfl, by decide⟩
theorem d_X8_advance_200 : dec 1 cX8_advance 200 (.iconst 4) 201 := ⟨by decide +kernel, rfl⟩
theorem d_X8_advance_201 : decB cX8_advance 201 (.goto 4) (4) 204 205 := ⟨by decide +kernel, rfl, by decide⟩
theorem d_X8_advance_204 : dec 1 cX8_advance 204 (.iconst 5) 205 := ⟨by decide +kernel, rfl⟩
theorem d_X8_advance_205 : dec 3 cX8_advance 205 (.putfield 9) 208 := ⟨by decide +kernel, rfl⟩
theorem d_X8_advance_208 : dec 1 cX8_advance 208 .return_ 209 := ⟨by decide +kernel, rfl⟩
def k_X8_advance_157 (F : Nat)   (v0 : Nat)  (n : Nat) (G : GH) : Option (Nat × GH) :=
  Option.bind (gI G v0 8 3) (fun (x15 : Int32) =>
  Option.bind (pV G v0 8 4 (.int (x15 + (1 : Int32)))) (fun (G16 : GH) =>
  Option.bind (gR G16 v0 8 0) (fun (x17 : Nat) =>
  Option.bind (gI G16 v0 8 3) (fun (x18 : Int32) =>
  Option.bind (aI G16 x17 1 x18) (fun (x19 : Int32) =>
  if x19 = (59 : Int32) then
  (Option.bind (pV G16 v0 8 2 (.int (3 : Int32))) (fun (G25 : GH) =>
  some (n, G25)))
  else (Option.bind (gR G16 v0 8 0) (fun (x20 : Nat) =>
  Option.bind (gI G16 v0 8 3) (fun (x21 : Int32) =>
  Option.bind (aI G16 x20 1 x21) (fun (x22 : Int32) =>
  if x22 = (45 : Int32) then
  (Option.bind (pV G16 v0 8 2 (.int (4 : Int32))) (fun (G24 : GH) =>
  some (n, G24)))
  else (Option.bind (pV G16 v0 8 2 (.int (5 : Int32))) (fun (G23 : GH) =>
  some (n, G23))))))))))))
def k_X8_advance_122 (F : Nat)   (v0 : Nat)  (n : Nat) (G : GH) : Option (Nat × GH) :=
  Option.bind (gR G v0 8 0) (fun (x12 : Nat) =>
  Option.bind (gI G v0 8 3) (fun (x13 : Int32) =>
  Option.bind (aI G x12 1 x13) (fun (x14 : Int32) =>
  if x14 < (48 : Int32) then
  (k_X8_advance_157 F   v0 n G)
  else (Option.bind (gR G v0 8 0) (fun (x26 : Nat) =>
  Option.bind (gI G v0 8 3) (fun (x27 : Int32) =>
  Option.bind (aI G x26 1 x27) (fun (x28 : Int32) =>
  if (57 : Int32) < x28 then
  (k_X8_advance_157 F   v0 n G)
  else (cvU G v0 8 (f_X8_cutNumber F v0 n G) (fun (n29 : Nat) (G30 : GH) =>
  some (n29, G30))))))))))
def k_X8_advance_60 (F : Nat)   (v0 : Nat)  (n : Nat) (G : GH) : Option (Nat × GH) :=
  Option.bind (gI G v0 8 3) (fun (x5 : Int32) =>
  Option.bind (pV G v0 8 4 (.int x5)) (fun (G6 : GH) =>
  Option.bind (gI G6 v0 8 3) (fun (x7 : Int32) =>
  Option.bind (gI G6 v0 8 1) (fun (x8 : Int32) =>
  if x7 < x8 then
  (Option.bind (gR G6 v0 8 0) (fun (x9 : Nat) =>
  Option.bind (gI G6 v0 8 3) (fun (x10 : Int32) =>
  Option.bind (aI G6 x9 1 x10) (fun (x11 : Int32) =>
  if x11 < (97 : Int32) then
  (k_X8_advance_122 F   v0 n G6)
  else (Option.bind (gR G6 v0 8 0) (fun (x31 : Nat) =>
  Option.bind (gI G6 v0 8 3) (fun (x32 : Int32) =>
  Option.bind (aI G6 x31 1 x32) (fun (x33 : Int32) =>
  if (122 : Int32) < x33 then
  (k_X8_advance_122 F   v0 n G6)
  else (cvU G6 v0 8 (f_X8_cutWord F v0 n G6) (fun (n34 : Nat) (G35 : GH) =>
  some (n34, G35)))))))))))
  else (Option.bind (pV G6 v0 8 2 (.int (0 : Int32))) (fun (G36 : GH) =>
  some (n, G36)))))))
def k_X8_advance_47 (F : Nat)  (rec8 : Nat → GH → Option (Nat × GH)) (v0 : Nat)  (n : Nat) (G : GH) : Option (Nat × GH) :=
  Option.bind (gI G v0 8 3) (fun (x40 : Int32) =>
  Option.bind (pV G v0 8 3 (.int (x40 + (1 : Int32)))) (fun (G41 : GH) =>
  rec8 n G41))
def b_X8_advance_8 (F : Nat)   (v0 : Nat) (rec8 : Nat → GH → Option (Nat × GH)) : Nat → GH → Option (Nat × GH) := fun  n G =>
  Option.bind (gI G v0 8 3) (fun (x3 : Int32) =>
  Option.bind (gI G v0 8 1) (fun (x4 : Int32) =>
  if x4 ≤ x3 then
  (k_X8_advance_60 F   v0 n G)
  else (Option.bind (gR G v0 8 0) (fun (x37 : Nat) =>
  Option.bind (gI G v0 8 3) (fun (x38 : Int32) =>
  Option.bind (aI G x37 1 x38) (fun (x39 : Int32) =>
  if x39 = (32 : Int32) then
  (k_X8_advance_47 F  rec8 v0 n G)
  else (Option.bind (gR G v0 8 0) (fun (x42 : Nat) =>
  Option.bind (gI G v0 8 3) (fun (x43 : Int32) =>
  Option.bind (aI G x42 1 x43) (fun (x44 : Int32) =>
  if x44 = (10 : Int32) then
  (k_X8_advance_47 F  rec8 v0 n G)
  else (k_X8_advance_60 F   v0 n G)))))))))))
def f_X8_advance (F : Nat)  (v0 : Nat) (n : Nat) (G : GH) : Option (Nat × GH) :=
  Option.bind (gI G v0 8 4) (fun (x1 : Int32) =>
  Option.bind (pV G v0 8 3 (.int x1)) (fun (G2 : GH) =>
  fixN (fun _ _ => none) (b_X8_advance_8 F   v0) F n G2))
set_option maxRecDepth 100000 in
set_option maxHeartbeats 4000000 in
theorem c_X8_advance_157 {E : GE} {F : Nat}   {v0 : Nat}  {n : Nat} {G : GH} {z : Nat × GH}   (h : k_X8_advance_157 F   v0  n G = some z) : WG E RX8 "advance" cX8_advance 1 none 1 20 0 0 157 [(0, .ref v0)] [] n G (g_O E (none, z.1, z.2)) := by
  unfold k_X8_advance_157 at h
  refine r_aload d_X8_advance_157 rfl ?_
  refine r_aload d_X8_advance_158 rfl ?_
  refine r_getI h d_X8_advance_159 pf_X8_13 (fun x15 h => ?_)
  refine r_iconst d_X8_advance_162 ic_1 ?_
  refine r_iadd d_X8_advance_163 ?_
  refine r_put h d_X8_advance_164 pw_X8_16 rfl rfl (fun G16 h => ?_)
  refine r_aload d_X8_advance_167 rfl ?_
  refine r_aload d_X8_advance_168 rfl ?_
  refine r_getR h d_X8_advance_169 pf_X8_28 (fun x17 h => ?_)
  refine r_aload d_X8_advance_172 rfl ?_
  refine r_getI h d_X8_advance_173 pf_X8_13 (fun x18 h => ?_)
  refine r_bald h d_X8_advance_176 (fun x19 h => ?_)
  refine r_bipush d_X8_advance_177 bp_59 ?_
  refine r_icmp_ne h d_X8_advance_179 (fun h => ?_) (fun h => ?_)
  · refine r_aload d_X8_advance_186 rfl ?_
    refine r_getR h d_X8_advance_187 pf_X8_28 (fun x20 h => ?_)
    refine r_aload d_X8_advance_190 rfl ?_
    refine r_getI h d_X8_advance_191 pf_X8_13 (fun x21 h => ?_)
    refine r_bald h d_X8_advance_194 (fun x22 h => ?_)
    refine r_bipush d_X8_advance_195 bp_45 ?_
    refine r_icmp_ne h d_X8_advance_197 (fun h => ?_) (fun h => ?_)
    · refine r_iconst d_X8_advance_204 ic_5 ?_
      refine r_put h d_X8_advance_205 pw_X8_9 rfl rfl (fun G23 h => ?_)
      exact r_vret h d_X8_advance_208
    · refine r_iconst d_X8_advance_200 ic_4 ?_
      refine r_goto d_X8_advance_201 ?_
      refine r_put h d_X8_advance_205 pw_X8_9 rfl rfl (fun G24 h => ?_)
      exact r_vret h d_X8_advance_208
  · refine r_iconst d_X8_advance_182 ic_3 ?_
    refine r_goto d_X8_advance_183 ?_
    refine r_put h d_X8_advance_205 pw_X8_9 rfl rfl (fun G25 h => ?_)
    exact r_vret h d_X8_advance_208
set_option maxRecDepth 100000 in
set_option maxHeartbeats 4000000 in
theorem c_X8_advance_122 {E : GE} {F : Nat}   {v0 : Nat}  {n : Nat} {G : GH} {z : Nat × GH}   (h : k_X8_advance_122 F   v0  n G = some z) : WG E RX8 "advance" cX8_advance 1 none 1 20 0 0 122 [(0, .ref v0)] [] n G (g_O E (none, z.1, z.2)) := by
  unfold k_X8_advance_122 at h
  refine r_aload d_X8_advance_122 rfl ?_
  refine r_getR h d_X8_advance_123 pf_X8_28 (fun x12 h => ?_)
  refine r_aload d_X8_advance_126 rfl ?_
  refine r_getI h d_X8_advance_127 pf_X8_13 (fun x13 h => ?_)
  refine r_bald h d_X8_advance_130 (fun x14 h => ?_)
  refine r_bipush d_X8_advance_131 bp_48 ?_
  refine r_icmp_lt h d_X8_advance_133 (fun h => ?_) (fun h => ?_)
  · refine r_lv [(0, .ref v0)] (g_allc rfl g_alln) ?_
    exact c_X8_advance_157   h
  · refine r_aload d_X8_advance_136 rfl ?_
    refine r_getR h d_X8_advance_137 pf_X8_28 (fun x26 h => ?_)
    refine r_aload d_X8_advance_140 rfl ?_
    refine r_getI h d_X8_advance_141 pf_X8_13 (fun x27 h => ?_)
    refine r_bald h d_X8_advance_144 (fun x28 h => ?_)
    refine r_bipush d_X8_advance_145 bp_57 ?_
    refine r_icmp_gt h d_X8_advance_147 (fun h => ?_) (fun h => ?_)
    · refine r_lv [(0, .ref v0)] (g_allc rfl g_alln) ?_
      exact c_X8_advance_157   h
    · refine r_aload d_X8_advance_150 rfl ?_
      refine r_invU [] h (fun _ hq => s_X8_cutNumber hq) d_X8_advance_151 pl_X8_36 py_X8_cutNumber pi_X8_cutNumber rfl rfl rfl (fun n29 G30 h => ?_)
      refine r_goto d_X8_advance_154 ?_
      exact r_vret h d_X8_advance_208
set_option maxRecDepth 100000 in
set_option maxHeartbeats 4000000 in
theorem c_X8_advance_60 {E : GE} {F : Nat}   {v0 : Nat}  {n : Nat} {G : GH} {z : Nat × GH}   (h : k_X8_advance_60 F   v0  n G = some z) : WG E RX8 "advance" cX8_advance 1 none 1 20 0 0 60 [(0, .ref v0)] [] n G (g_O E (none, z.1, z.2)) := by
  unfold k_X8_advance_60 at h
  refine r_aload d_X8_advance_60 rfl ?_
  refine r_aload d_X8_advance_61 rfl ?_
  refine r_getI h d_X8_advance_62 pf_X8_13 (fun x5 h => ?_)
  refine r_put h d_X8_advance_65 pw_X8_16 rfl rfl (fun G6 h => ?_)
  refine r_aload d_X8_advance_68 rfl ?_
  refine r_getI h d_X8_advance_69 pf_X8_13 (fun x7 h => ?_)
  refine r_aload d_X8_advance_72 rfl ?_
  refine r_getI h d_X8_advance_73 pf_X8_32 (fun x8 h => ?_)
  refine r_icmp_lt h d_X8_advance_76 (fun h => ?_) (fun h => ?_)
  · refine r_aload d_X8_advance_87 rfl ?_
    refine r_getR h d_X8_advance_88 pf_X8_28 (fun x9 h => ?_)
    refine r_aload d_X8_advance_91 rfl ?_
    refine r_getI h d_X8_advance_92 pf_X8_13 (fun x10 h => ?_)
    refine r_bald h d_X8_advance_95 (fun x11 h => ?_)
    refine r_bipush d_X8_advance_96 bp_97 ?_
    refine r_icmp_lt h d_X8_advance_98 (fun h => ?_) (fun h => ?_)
    · refine r_lv [(0, .ref v0)] (g_allc rfl g_alln) ?_
      exact c_X8_advance_122   h
    · refine r_aload d_X8_advance_101 rfl ?_
      refine r_getR h d_X8_advance_102 pf_X8_28 (fun x31 h => ?_)
      refine r_aload d_X8_advance_105 rfl ?_
      refine r_getI h d_X8_advance_106 pf_X8_13 (fun x32 h => ?_)
      refine r_bald h d_X8_advance_109 (fun x33 h => ?_)
      refine r_bipush d_X8_advance_110 bp_122 ?_
      refine r_icmp_gt h d_X8_advance_112 (fun h => ?_) (fun h => ?_)
      · refine r_lv [(0, .ref v0)] (g_allc rfl g_alln) ?_
        exact c_X8_advance_122   h
      · refine r_aload d_X8_advance_115 rfl ?_
        refine r_invU [] h (fun _ hq => s_X8_cutWord hq) d_X8_advance_116 pl_X8_33 py_X8_cutWord pi_X8_cutWord rfl rfl rfl (fun n34 G35 h => ?_)
        refine r_goto d_X8_advance_119 ?_
        exact r_vret h d_X8_advance_208
  · refine r_aload d_X8_advance_79 rfl ?_
    refine r_iconst d_X8_advance_80 ic_0 ?_
    refine r_put h d_X8_advance_81 pw_X8_9 rfl rfl (fun G36 h => ?_)
    refine r_goto d_X8_advance_84 ?_
    exact r_vret h d_X8_advance_208
set_option maxRecDepth 100000 in
set_option maxHeartbeats 4000000 in
theorem c_X8_advance_47 {E : GE} {F : Nat}  {rec8 : Nat → GH → Option (Nat × GH)} {v0 : Nat}  {n : Nat} {G : GH} {z : Nat × GH}  (hrec8 : ∀  (n : Nat) (G : GH) (z : Nat × GH), rec8  n G = some z → WG E RX8 "advance" cX8_advance 1 none 1 20 0 0 8 [(0, .ref v0)] [] n G (g_O E (none, z.1, z.2))) (h : k_X8_advance_47 F  rec8 v0  n G = some z) : WG E RX8 "advance" cX8_advance 1 none 1 20 0 0 47 [(0, .ref v0)] [] n G (g_O E (none, z.1, z.2)) := by
  unfold k_X8_advance_47 at h
  refine r_aload d_X8_advance_47 rfl ?_
  refine r_dup d_X8_advance_48 rfl ?_
  refine r_getI h d_X8_advance_49 pf_X8_13 (fun x40 h => ?_)
  refine r_iconst d_X8_advance_52 ic_1 ?_
  refine r_iadd d_X8_advance_53 ?_
  refine r_put h d_X8_advance_54 pw_X8_13 rfl rfl (fun G41 h => ?_)
  refine r_goto d_X8_advance_57 ?_
  refine r_lv [(0, .ref v0)] (g_allc rfl g_alln) ?_
  exact hrec8 _ _ _ h
set_option maxRecDepth 100000 in
set_option maxHeartbeats 4000000 in
theorem l_X8_advance_8 {E : GE} {F : Nat}   {v0 : Nat}   : ∀ (K : Nat)  (n : Nat) (G : GH) (z : Nat × GH), fixN ((fun _ _ => none) : Nat → GH → Option (Nat × GH)) (b_X8_advance_8 F   v0) K  n G = some z → WG E RX8 "advance" cX8_advance 1 none 1 20 0 0 8 [(0, .ref v0)] [] n G (g_O E (none, z.1, z.2)) := by
  intro K
  refine fixN_ind (P := fun (r : Nat → GH → Option (Nat × GH)) => ∀  (n : Nat) (G : GH) (z : Nat × GH), r  n G = some z → WG E RX8 "advance" cX8_advance 1 none 1 20 0 0 8 [(0, .ref v0)] [] n G (g_O E (none, z.1, z.2))) ?_ ?_ K
  · intro  n G z h
    cases h
  · intro rec8 hrec8  n G z h
    unfold b_X8_advance_8 at h
    refine r_aload d_X8_advance_8 rfl ?_
    refine r_getI h d_X8_advance_9 pf_X8_13 (fun x3 h => ?_)
    refine r_aload d_X8_advance_12 rfl ?_
    refine r_getI h d_X8_advance_13 pf_X8_32 (fun x4 h => ?_)
    refine r_icmp_ge h d_X8_advance_16 (fun h => ?_) (fun h => ?_)
    · refine r_lv [(0, .ref v0)] (g_allc rfl g_alln) ?_
      exact c_X8_advance_60   h
    · refine r_aload d_X8_advance_19 rfl ?_
      refine r_getR h d_X8_advance_20 pf_X8_28 (fun x37 h => ?_)
      refine r_aload d_X8_advance_23 rfl ?_
      refine r_getI h d_X8_advance_24 pf_X8_13 (fun x38 h => ?_)
      refine r_bald h d_X8_advance_27 (fun x39 h => ?_)
      refine r_bipush d_X8_advance_28 bp_32 ?_
      refine r_icmp_eq h d_X8_advance_30 (fun h => ?_) (fun h => ?_)
      · refine r_lv [(0, .ref v0)] (g_allc rfl g_alln) ?_
        exact c_X8_advance_47  hrec8 h
      · refine r_aload d_X8_advance_33 rfl ?_
        refine r_getR h d_X8_advance_34 pf_X8_28 (fun x42 h => ?_)
        refine r_aload d_X8_advance_37 rfl ?_
        refine r_getI h d_X8_advance_38 pf_X8_13 (fun x43 h => ?_)
        refine r_bald h d_X8_advance_41 (fun x44 h => ?_)
        refine r_bipush d_X8_advance_42 bp_10 ?_
        refine r_icmp_ne h d_X8_advance_44 (fun h => ?_) (fun h => ?_)
        · refine r_lv [(0, .ref v0)] (g_allc rfl g_alln) ?_
          exact c_X8_advance_60   h
        · refine r_lv [(0, .ref v0)] (g_allc rfl g_alln) ?_
          exact c_X8_advance_47  hrec8 h
set_option maxRecDepth 100000 in
set_option maxHeartbeats 4000000 in
theorem s_X8_advance {E : GE} {F : Nat}  {v0 : Nat} {n : Nat} {G : GH} {z : Nat × GH}  (h : f_X8_advance F  v0 n G = some z) : GM E yX8_advance cX8_advance 1 none 1 20 0 0 [.ref v0] n G (none, z.1, z.2) := by
  refine GM.of (by decide) (Nat.le_of_ble_eq_true rfl) ?_
  show WG E RX8 "advance" cX8_advance 1 none 1 20 0 0 0 [(0, .ref v0)] [] n G (g_O E (none, z.1, z.2))
  unfold f_X8_advance at h
  refine r_aload d_X8_advance_0 rfl ?_
  refine r_aload d_X8_advance_1 rfl ?_
  refine r_getI h d_X8_advance_2 pf_X8_16 (fun x1 h => ?_)
  refine r_put h d_X8_advance_5 pw_X8_13 rfl rfl (fun G2 h => ?_)
  refine r_lv [(0, .ref v0)] (g_allc rfl g_alln) ?_
  exact l_X8_advance_8   _ _ _ _ h
/-! J0_coder_7d493 -/
theorem ql_J0_38 : Cond.fieldLink RJ0 38 "java/lang/String" "COMPACT_STRINGS" "Z" ∈ g_tbl := g_in 547 (by decide +kernel) rfl
theorem ql_J0_15 : Cond.fieldLink RJ0 15 "java/lang/String" "coder" "B" ∈ g_tbl := g_in 1631 (by decide +kernel) rfl
theorem d_J0_coder_7d493_0 : dec 3 cJ0_coder_7d493 0 (.getstatic 38) 3 := ⟨by decide +kernel, rfl⟩
theorem d_J0_coder_7d493_3 : decB cJ0_coder_7d493 3 (.ifCond .eq 10) (10) 6 13 := ⟨by decide +kernel, rfl, by decide⟩
theorem d_J0_coder_7d493_6 : decAL cJ0_coder_7d493 6 0 7 := Or.inr ⟨0, rfl, by decide +kernel, rfl⟩
theorem d_J0_coder_7d493_7 : dec 3 cJ0_coder_7d493 7 (.getfield 15) 10 := ⟨by decide +kernel, rfl⟩
theorem d_J0_coder_7d493_10 : decB cJ0_coder_7d493 10 (.goto 4) (4) 13 14 := ⟨by decide +kernel, rfl, by decide⟩
theorem d_J0_coder_7d493_13 : dec 1 cJ0_coder_7d493 13 (.iconst 1) 14 := ⟨by decide +kernel, rfl⟩
theorem d_J0_coder_7d493_14 : dec 1 cJ0_coder_7d493 14 .ireturn 15 := ⟨by decide +kernel, rfl⟩
def f_J0_coder_7d493 (F : Nat)  (v0 : Nat) (G : GH) : Option (Int32) :=
  if (1 : Int32) = 0 then
  (rP .byte (1 : Int32))
  else (Option.bind (sC v0) (fun (x1 : Int32) =>
  rP .byte x1))
set_option maxRecDepth 100000 in
set_option maxHeartbeats 4000000 in
theorem s_J0_coder_7d493 {E : GE} {F : Nat}  {v0 : Nat} {n : Nat} {G : GH} {z : Int32}  (h : f_J0_coder_7d493 F  v0 G = some z) : GM E yJ0_coder_7d493 cJ0_coder_7d493 1 (some .byte) 0 0 0 0 [.ref (E.2.2.2.1 v0)] n G (some (.int z), n, G) := by
  refine GM.of (by decide) (Nat.le_of_ble_eq_true rfl) ?_
  show WG E RJ0 "coder" cJ0_coder_7d493 1 (some .byte) 0 0 0 0 0 [(0, .ref (E.2.2.2.1 v0))] [] n G (g_O E (some (.int z), n, G))
  unfold f_J0_coder_7d493 at h
  refine r_gCS d_J0_coder_7d493_0 ql_J0_38 ?_
  refine r_if_eq h d_J0_coder_7d493_3 (fun h => ?_) (fun h => ?_)
  · refine r_iconst d_J0_coder_7d493_13 ic_1 ?_
    exact r_pbret h d_J0_coder_7d493_14
  · refine r_aload d_J0_coder_7d493_6 rfl ?_
    refine r_sgetC h d_J0_coder_7d493_7 ql_J0_15 (fun x1 h => ?_)
    refine r_goto d_J0_coder_7d493_10 ?_
    exact r_pbret h d_J0_coder_7d493_14
/-! J0_length_8abf5 -/
theorem ql_J0_9 : Cond.fieldLink RJ0 9 "java/lang/String" "value" "[B" ∈ g_tbl := g_in 1630 (by decide +kernel) rfl
theorem py_J0_coder_7d493 : pY yJ0_coder_7d493 cJ0_coder_7d493 1 (some .byte) 0 := ⟨g_in 546 (by decide +kernel) rfl, g_in 107 (by decide +kernel) rfl, by decide, by decide, by decide +kernel⟩
theorem pi_J0_coder_7d493 : pIs yJ0_coder_7d493 := ⟨g_in 544 (by decide +kernel) rfl, g_in 545 (by decide +kernel) rfl, rfl⟩
theorem pl_J0_335 : pL RJ0 335 yJ0_coder_7d493 := Or.inl (g_in 543 (by decide +kernel) rfl)
theorem d_J0_length_8abf5_0 : decAL cJ0_length_8abf5 0 0 1 := Or.inr ⟨0, rfl, by decide +kernel, rfl⟩
theorem d_J0_length_8abf5_1 : dec 3 cJ0_length_8abf5 1 (.getfield 9) 4 := ⟨by decide +kernel, rfl⟩
theorem d_J0_length_8abf5_4 : dec 1 cJ0_length_8abf5 4 .arraylength 5 := ⟨by decide +kernel, rfl⟩
theorem d_J0_length_8abf5_5 : decAL cJ0_length_8abf5 5 0 6 := Or.inr ⟨0, rfl, by decide +kernel, rfl⟩
theorem d_J0_length_8abf5_6 : dec 3 cJ0_length_8abf5 6 (.invokevirtual 335) 9 := ⟨by decide +kernel, rfl⟩
theorem d_J0_length_8abf5_9 : dec 1 cJ0_length_8abf5 9 .ishr 10 := ⟨by decide +kernel, rfl⟩
theorem d_J0_length_8abf5_10 : dec 1 cJ0_length_8abf5 10 .ireturn 11 := ⟨by decide +kernel, rfl⟩
def f_J0_length_8abf5 (F : Nat)  (v0 : Nat) (G : GH) : Option (Int32) :=
  Option.bind (sV v0) (fun (x1 : Nat) =>
  Option.bind (sL x1) (fun (x2 : Int32) =>
  cvS v0 (f_J0_coder_7d493 F v0 G) (fun (x3 : Int32) =>
  some (x2 >>> (x3 &&& 31)))))
set_option maxRecDepth 100000 in
set_option maxHeartbeats 4000000 in
theorem s_J0_length_8abf5 {E : GE} {F : Nat}  {v0 : Nat} {n : Nat} {G : GH} {z : Int32}  (h : f_J0_length_8abf5 F  v0 G = some z) : GM E yJ0_length_8abf5 cJ0_length_8abf5 1 (some .int) 1 20 0 0 [.ref (E.2.2.2.1 v0)] n G (some (.int z), n, G) := by
  refine GM.of (by decide) (Nat.le_of_ble_eq_true rfl) ?_
  show WG E RJ0 "length" cJ0_length_8abf5 1 (some .int) 1 20 0 0 0 [(0, .ref (E.2.2.2.1 v0))] [] n G (g_O E (some (.int z), n, G))
  unfold f_J0_length_8abf5 at h
  refine r_aload d_J0_length_8abf5_0 rfl ?_
  refine r_sgetV h d_J0_length_8abf5_1 ql_J0_9 (fun x1 h => ?_)
  refine r_slen h d_J0_length_8abf5_4 (fun x2 h => ?_)
  refine r_aload d_J0_length_8abf5_5 rfl ?_
  refine r_invPS [] h (fun _ hq => s_J0_coder_7d493 hq) d_J0_length_8abf5_6 pl_J0_335 py_J0_coder_7d493 pi_J0_coder_7d493 rfl rfl rfl (fun x3 h => ?_)
  refine r_ishr d_J0_length_8abf5_9 ?_
  exact r_pret h d_J0_length_8abf5_10
/-! J0_isLatin1_aae02 -/
theorem d_J0_isLatin1_aae02_0 : dec 3 cJ0_isLatin1_aae02 0 (.getstatic 38) 3 := ⟨by decide +kernel, rfl⟩
theorem d_J0_isLatin1_aae02_3 : decB cJ0_isLatin1_aae02 3 (.ifCond .eq 14) (14) 6 17 := ⟨by decide +kernel, rfl, by decide⟩
theorem d_J0_isLatin1_aae02_6 : decAL cJ0_isLatin1_aae02 6 0 7 := Or.inr ⟨0, rfl, by decide +kernel, rfl⟩
theorem d_J0_isLatin1_aae02_7 : dec 3 cJ0_isLatin1_aae02 7 (.getfield 15) 10 := ⟨by decide +kernel, rfl⟩
theorem d_J0_isLatin1_aae02_10 : decB cJ0_isLatin1_aae02 10 (.ifCond .ne 7) (7) 13 17 := ⟨by decide +kernel, rfl, by decide⟩
theorem d_J0_isLatin1_aae02_13 : dec 1 cJ0_isLatin1_aae02 13 (.iconst 1) 14 := ⟨by decide +kernel, rfl⟩
theorem d_J0_isLatin1_aae02_14 : decB cJ0_isLatin1_aae02 14 (.goto 4) (4) 17 18 := ⟨by decide +kernel, rfl, by decide⟩
theorem d_J0_isLatin1_aae02_17 : dec 1 cJ0_isLatin1_aae02 17 (.iconst 0) 18 := ⟨by decide +kernel, rfl⟩
theorem d_J0_isLatin1_aae02_18 : dec 1 cJ0_isLatin1_aae02 18 .ireturn 19 := ⟨by decide +kernel, rfl⟩
def f_J0_isLatin1_aae02 (F : Nat)  (v0 : Nat) (G : GH) : Option (Int32) :=
  if (1 : Int32) = 0 then
  (rP .boolean (0 : Int32))
  else (Option.bind (sC v0) (fun (x1 : Int32) =>
  if x1 = 0 then
  (rP .boolean (1 : Int32))
  else (rP .boolean (0 : Int32))))
set_option maxRecDepth 100000 in
set_option maxHeartbeats 4000000 in
theorem s_J0_isLatin1_aae02 {E : GE} {F : Nat}  {v0 : Nat} {n : Nat} {G : GH} {z : Int32}  (h : f_J0_isLatin1_aae02 F  v0 G = some z) : GM E yJ0_isLatin1_aae02 cJ0_isLatin1_aae02 1 (some .boolean) 0 0 0 0 [.ref (E.2.2.2.1 v0)] n G (some (.int z), n, G) := by
  refine GM.of (by decide) (Nat.le_of_ble_eq_true rfl) ?_
  show WG E RJ0 "isLatin1" cJ0_isLatin1_aae02 1 (some .boolean) 0 0 0 0 0 [(0, .ref (E.2.2.2.1 v0))] [] n G (g_O E (some (.int z), n, G))
  unfold f_J0_isLatin1_aae02 at h
  refine r_gCS d_J0_isLatin1_aae02_0 ql_J0_38 ?_
  refine r_if_eq h d_J0_isLatin1_aae02_3 (fun h => ?_) (fun h => ?_)
  · refine r_iconst d_J0_isLatin1_aae02_17 ic_0 ?_
    exact r_pzret h d_J0_isLatin1_aae02_18
  · refine r_aload d_J0_isLatin1_aae02_6 rfl ?_
    refine r_sgetC h d_J0_isLatin1_aae02_7 ql_J0_15 (fun x1 h => ?_)
    refine r_if_ne h d_J0_isLatin1_aae02_10 (fun h => ?_) (fun h => ?_)
    · refine r_iconst d_J0_isLatin1_aae02_17 ic_0 ?_
      exact r_pzret h d_J0_isLatin1_aae02_18
    · refine r_iconst d_J0_isLatin1_aae02_13 ic_1 ?_
      refine r_goto d_J0_isLatin1_aae02_14 ?_
      exact r_pzret h d_J0_isLatin1_aae02_18
/-! J3_checkIndex_8e157 -/
theorem d_J3_checkIndex_8e157_0 : decIL cJ3_checkIndex_8e157 0 0 1 := Or.inr ⟨0, rfl, by decide +kernel, rfl⟩
theorem d_J3_checkIndex_8e157_1 : decB cJ3_checkIndex_8e157 1 (.ifCond .lt 8) (8) 4 9 := ⟨by decide +kernel, rfl, by decide⟩
theorem d_J3_checkIndex_8e157_4 : decIL cJ3_checkIndex_8e157 4 0 5 := Or.inr ⟨0, rfl, by decide +kernel, rfl⟩
theorem d_J3_checkIndex_8e157_5 : decIL cJ3_checkIndex_8e157 5 1 6 := Or.inr ⟨1, rfl, by decide +kernel, rfl⟩
theorem d_J3_checkIndex_8e157_6 : decB cJ3_checkIndex_8e157 6 (.if_icmp .lt 10) (10) 9 16 := ⟨by decide +kernel, rfl, by decide⟩
theorem d_J3_checkIndex_8e157_16 : decIL cJ3_checkIndex_8e157 16 0 17 := Or.inr ⟨0, rfl, by decide +kernel, rfl⟩
theorem d_J3_checkIndex_8e157_17 : dec 1 cJ3_checkIndex_8e157 17 .ireturn 18 := ⟨by decide +kernel, rfl⟩
def f_J3_checkIndex_8e157 (F : Nat)  (v0 : Int32) (v1 : Int32) (G : GH) : Option (Int32) :=
  if v0 < 0 then
  (none)
  else (if v0 < v1 then
  (some v0)
  else (none))
set_option maxRecDepth 100000 in
set_option maxHeartbeats 4000000 in
theorem s_J3_checkIndex_8e157 {E : GE} {F : Nat}  {v0 : Int32} {v1 : Int32} {v2 : Option Nat} {n : Nat} {G : GH} {z : Int32}  (h : f_J3_checkIndex_8e157 F  v0 v1 G = some z) : GM E yJ3_checkIndex_8e157 cJ3_checkIndex_8e157 3 (some .int) 0 0 0 0 [.int v0, .int v1, va_rf v2] n G (some (.int z), n, G) := by
  rcases v2 with _ | w
  · refine GM.of (by decide) (Nat.le_of_ble_eq_true rfl) ?_
    show WG E RJ3 "checkIndex" cJ3_checkIndex_8e157 3 (some .int) 0 0 0 0 0 [(0, .int v0), (1, .int v1), (2, va_rf none)] [] n G (g_O E (some (.int z), n, G))
    unfold f_J3_checkIndex_8e157 at h
    refine r_iload d_J3_checkIndex_8e157_0 rfl ?_
    refine r_if_lt h d_J3_checkIndex_8e157_1 (fun h => ?_) (fun h => ?_)
    · cases h
    · refine r_iload d_J3_checkIndex_8e157_4 rfl ?_
      refine r_iload d_J3_checkIndex_8e157_5 rfl ?_
      refine r_icmp_lt h d_J3_checkIndex_8e157_6 (fun h => ?_) (fun h => ?_)
      · refine r_iload d_J3_checkIndex_8e157_16 rfl ?_
        exact r_pret h d_J3_checkIndex_8e157_17
      · cases h
  · refine GM.of (by decide) (Nat.le_of_ble_eq_true rfl) ?_
    show WG E RJ3 "checkIndex" cJ3_checkIndex_8e157 3 (some .int) 0 0 0 0 0 [(0, .int v0), (1, .int v1), (2, va_rf (some w))] [] n G (g_O E (some (.int z), n, G))
    unfold f_J3_checkIndex_8e157 at h
    refine r_iload d_J3_checkIndex_8e157_0 rfl ?_
    refine r_if_lt h d_J3_checkIndex_8e157_1 (fun h => ?_) (fun h => ?_)
    · cases h
    · refine r_iload d_J3_checkIndex_8e157_4 rfl ?_
      refine r_iload d_J3_checkIndex_8e157_5 rfl ?_
      refine r_icmp_lt h d_J3_checkIndex_8e157_6 (fun h => ?_) (fun h => ?_)
      · refine r_iload d_J3_checkIndex_8e157_16 rfl ?_
        exact r_pret h d_J3_checkIndex_8e157_17
      · cases h
/-! J0_checkIndex_df160 -/
theorem ql_J0_1053 : Cond.fieldLink RJ0 1053 "jdk/internal/util/Preconditions" "SIOOBE_FORMATTER" "Ljava/util/function/BiFunction;" ∈ g_tbl := g_in 563 (by decide +kernel) rfl
theorem py_J3_checkIndex_8e157 : pY yJ3_checkIndex_8e157 cJ3_checkIndex_8e157 3 (some .int) 3 := ⟨g_in 567 (by decide +kernel) rfl, g_in 109 (by decide +kernel) rfl, by decide, by decide, by decide +kernel⟩
theorem ps_J3_checkIndex_8e157 : Cond.static yJ3_checkIndex_8e157 ∈ g_tbl := g_in 566 (by decide +kernel) rfl
theorem pl_J0_1059 : pL RJ0 1059 yJ3_checkIndex_8e157 := Or.inl (g_in 565 (by decide +kernel) rfl)
theorem d_J0_checkIndex_df160_0 : decIL cJ0_checkIndex_df160 0 0 1 := Or.inr ⟨0, rfl, by decide +kernel, rfl⟩
theorem d_J0_checkIndex_df160_1 : decIL cJ0_checkIndex_df160 1 1 2 := Or.inr ⟨1, rfl, by decide +kernel, rfl⟩
theorem d_J0_checkIndex_df160_2 : dec 3 cJ0_checkIndex_df160 2 (.getstatic 1053) 5 := ⟨by decide +kernel, rfl⟩
theorem d_J0_checkIndex_df160_5 : dec 3 cJ0_checkIndex_df160 5 (.invokestatic 1059) 8 := ⟨by decide +kernel, rfl⟩
theorem d_J0_checkIndex_df160_8 : dec 1 cJ0_checkIndex_df160 8 .pop 9 := ⟨by decide +kernel, rfl⟩
theorem d_J0_checkIndex_df160_9 : dec 1 cJ0_checkIndex_df160 9 .return_ 10 := ⟨by decide +kernel, rfl⟩
def f_J0_checkIndex_df160 (F : Nat)  (v0 : Int32) (v1 : Int32) (G : GH) : Option (Unit) :=
  Option.bind (f_J3_checkIndex_8e157 F v0 v1 G) (fun (x2 : Int32) =>
  some ())
set_option maxRecDepth 100000 in
set_option maxHeartbeats 4000000 in
theorem s_J0_checkIndex_df160 {E : GE} {F : Nat}  {v0 : Int32} {v1 : Int32} {n : Nat} {G : GH} {z : Unit}  (h : f_J0_checkIndex_df160 F  v0 v1 G = some z) : GM E yJ0_checkIndex_df160 cJ0_checkIndex_df160 2 none 1 22 0 0 [.int v0, .int v1] n G (none, n, G) := by
  refine GM.of (by decide) (Nat.le_of_ble_eq_true rfl) ?_
  show WG E RJ0 "checkIndex" cJ0_checkIndex_df160 2 none 1 22 0 0 0 [(0, .int v0), (1, .int v1)] [] n G (g_O E (none, n, G))
  unfold f_J0_checkIndex_df160 at h
  refine r_iload d_J0_checkIndex_df160_0 rfl ?_
  refine r_iload d_J0_checkIndex_df160_1 rfl ?_
  refine r_gFM d_J0_checkIndex_df160_2 ql_J0_1053 (fun r1 => ?_)
  refine r_invSP [_, _, _] h (fun _ hq => s_J3_checkIndex_8e157 hq) d_J0_checkIndex_df160_5 pl_J0_1059 py_J3_checkIndex_8e157 ps_J3_checkIndex_8e157 rfl rfl rfl (fun x2 h => ?_)
  refine r_pop d_J0_checkIndex_df160_8 rfl ?_
  exact r_puret h d_J0_checkIndex_df160_9
/-! J1_charAt_3b067 -/
theorem py_J0_checkIndex_df160 : pY yJ0_checkIndex_df160 cJ0_checkIndex_df160 2 none 2 := ⟨g_in 562 (by decide +kernel) rfl, g_in 107 (by decide +kernel) rfl, by decide, by decide, by decide +kernel⟩
theorem ps_J0_checkIndex_df160 : Cond.static yJ0_checkIndex_df160 ∈ g_tbl := g_in 561 (by decide +kernel) rfl
theorem pl_J1_9 : pL RJ1 9 yJ0_checkIndex_df160 := Or.inl (g_in 560 (by decide +kernel) rfl)
theorem d_J1_charAt_3b067_0 : decIL cJ1_charAt_3b067 0 1 1 := Or.inr ⟨1, rfl, by decide +kernel, rfl⟩
theorem d_J1_charAt_3b067_1 : decAL cJ1_charAt_3b067 1 0 2 := Or.inr ⟨0, rfl, by decide +kernel, rfl⟩
theorem d_J1_charAt_3b067_2 : dec 1 cJ1_charAt_3b067 2 .arraylength 3 := ⟨by decide +kernel, rfl⟩
theorem d_J1_charAt_3b067_3 : dec 3 cJ1_charAt_3b067 3 (.invokestatic 9) 6 := ⟨by decide +kernel, rfl⟩
theorem d_J1_charAt_3b067_6 : decAL cJ1_charAt_3b067 6 0 7 := Or.inr ⟨0, rfl, by decide +kernel, rfl⟩
theorem d_J1_charAt_3b067_7 : decIL cJ1_charAt_3b067 7 1 8 := Or.inr ⟨1, rfl, by decide +kernel, rfl⟩
theorem d_J1_charAt_3b067_8 : dec 1 cJ1_charAt_3b067 8 .baload 9 := ⟨by decide +kernel, rfl⟩
theorem d_J1_charAt_3b067_9 : dec 3 cJ1_charAt_3b067 9 (.sipush 255) 12 := ⟨by decide +kernel, rfl⟩
theorem d_J1_charAt_3b067_12 : dec 1 cJ1_charAt_3b067 12 .iand 13 := ⟨by decide +kernel, rfl⟩
theorem d_J1_charAt_3b067_13 : dec 1 cJ1_charAt_3b067 13 .i2c 14 := ⟨by decide +kernel, rfl⟩
theorem d_J1_charAt_3b067_14 : dec 1 cJ1_charAt_3b067 14 .ireturn 15 := ⟨by decide +kernel, rfl⟩
def f_J1_charAt_3b067 (F : Nat)  (v0 : Nat) (v1 : Int32) (G : GH) : Option (Int32) :=
  Option.bind (sL v0) (fun (x1 : Int32) =>
  Option.bind (f_J0_checkIndex_df160 F v1 x1 G) (fun (x2 : Unit) =>
  Option.bind (sB v0 v1) (fun (x3 : Int32) =>
  rP .char (UInt32.toInt32 ((Int32.toUInt32 (x3 &&& (255 : Int32))) % 65536)))))
set_option maxRecDepth 100000 in
set_option maxHeartbeats 4000000 in
theorem s_J1_charAt_3b067 {E : GE} {F : Nat}  {v0 : Nat} {v1 : Int32} {n : Nat} {G : GH} {z : Int32}  (h : f_J1_charAt_3b067 F  v0 v1 G = some z) : GM E yJ1_charAt_3b067 cJ1_charAt_3b067 2 (some .char) 2 43 0 0 [.ref (E.2.2.2.2.1 v0), .int v1] n G (some (.int z), n, G) := by
  refine GM.of (by decide) (Nat.le_of_ble_eq_true rfl) ?_
  show WG E RJ1 "charAt" cJ1_charAt_3b067 2 (some .char) 2 43 0 0 0 [(0, .ref (E.2.2.2.2.1 v0)), (1, .int v1)] [] n G (g_O E (some (.int z), n, G))
  unfold f_J1_charAt_3b067 at h
  refine r_iload d_J1_charAt_3b067_0 rfl ?_
  refine r_aload d_J1_charAt_3b067_1 rfl ?_
  refine r_slen h d_J1_charAt_3b067_2 (fun x1 h => ?_)
  refine r_invSPU [_, _] h (fun _ hq => s_J0_checkIndex_df160 hq) d_J1_charAt_3b067_3 pl_J1_9 py_J0_checkIndex_df160 ps_J0_checkIndex_df160 rfl rfl rfl (fun x2 h => ?_)
  refine r_aload d_J1_charAt_3b067_6 rfl ?_
  refine r_iload d_J1_charAt_3b067_7 rfl ?_
  refine r_sbald h d_J1_charAt_3b067_8 (fun x3 h => ?_)
  refine r_sipush d_J1_charAt_3b067_9 sp_255 ?_
  refine r_iand d_J1_charAt_3b067_12 ?_
  refine r_i2c d_J1_charAt_3b067_13 ?_
  exact r_pcret h d_J1_charAt_3b067_14
/-! J0_charAt_5068e -/
theorem py_J0_isLatin1_aae02 : pY yJ0_isLatin1_aae02 cJ0_isLatin1_aae02 1 (some .boolean) 0 := ⟨g_in 556 (by decide +kernel) rfl, g_in 107 (by decide +kernel) rfl, by decide, by decide, by decide +kernel⟩
theorem pi_J0_isLatin1_aae02 : pIs yJ0_isLatin1_aae02 := ⟨g_in 554 (by decide +kernel) rfl, g_in 555 (by decide +kernel) rfl, rfl⟩
theorem pl_J0_492 : pL RJ0 492 yJ0_isLatin1_aae02 := Or.inl (g_in 553 (by decide +kernel) rfl)
theorem py_J1_charAt_3b067 : pY yJ1_charAt_3b067 cJ1_charAt_3b067 2 (some .char) 2 := ⟨g_in 559 (by decide +kernel) rfl, g_in 108 (by decide +kernel) rfl, by decide, by decide, by decide +kernel⟩
theorem ps_J1_charAt_3b067 : Cond.static yJ1_charAt_3b067 ∈ g_tbl := g_in 558 (by decide +kernel) rfl
theorem pl_J0_495 : pL RJ0 495 yJ1_charAt_3b067 := Or.inl (g_in 557 (by decide +kernel) rfl)
theorem d_J0_charAt_5068e_0 : decAL cJ0_charAt_5068e 0 0 1 := Or.inr ⟨0, rfl, by decide +kernel, rfl⟩
theorem d_J0_charAt_5068e_1 : dec 3 cJ0_charAt_5068e 1 (.invokevirtual 492) 4 := ⟨by decide +kernel, rfl⟩
theorem d_J0_charAt_5068e_4 : decB cJ0_charAt_5068e 4 (.ifCond .eq 12) (12) 7 16 := ⟨by decide +kernel, rfl, by decide⟩
theorem d_J0_charAt_5068e_7 : decAL cJ0_charAt_5068e 7 0 8 := Or.inr ⟨0, rfl, by decide +kernel, rfl⟩
theorem d_J0_charAt_5068e_8 : dec 3 cJ0_charAt_5068e 8 (.getfield 9) 11 := ⟨by decide +kernel, rfl⟩
theorem d_J0_charAt_5068e_11 : decIL cJ0_charAt_5068e 11 1 12 := Or.inr ⟨1, rfl, by decide +kernel, rfl⟩
theorem d_J0_charAt_5068e_12 : dec 3 cJ0_charAt_5068e 12 (.invokestatic 495) 15 := ⟨by decide +kernel, rfl⟩
theorem d_J0_charAt_5068e_15 : dec 1 cJ0_charAt_5068e 15 .ireturn 16 := ⟨by decide +kernel, rfl⟩
def f_J0_charAt_5068e (F : Nat)  (v0 : Nat) (v1 : Int32) (G : GH) : Option (Int32) :=
  cvS v0 (f_J0_isLatin1_aae02 F v0 G) (fun (x1 : Int32) =>
  if x1 = 0 then
  (none)
  else (Option.bind (sV v0) (fun (x2 : Nat) =>
  Option.bind (f_J1_charAt_3b067 F x2 v1 G) (fun (x3 : Int32) =>
  rP .char x3))))
set_option maxRecDepth 100000 in
set_option maxHeartbeats 4000000 in
theorem s_J0_charAt_5068e {E : GE} {F : Nat}  {v0 : Nat} {v1 : Int32} {n : Nat} {G : GH} {z : Int32}  (h : f_J0_charAt_5068e F  v0 v1 G = some z) : GM E yJ0_charAt_5068e cJ0_charAt_5068e 2 (some .char) 3 64 0 0 [.ref (E.2.2.2.1 v0), .int v1] n G (some (.int z), n, G) := by
  refine GM.of (by decide) (Nat.le_of_ble_eq_true rfl) ?_
  show WG E RJ0 "charAt" cJ0_charAt_5068e 2 (some .char) 3 64 0 0 0 [(0, .ref (E.2.2.2.1 v0)), (1, .int v1)] [] n G (g_O E (some (.int z), n, G))
  unfold f_J0_charAt_5068e at h
  refine r_aload d_J0_charAt_5068e_0 rfl ?_
  refine r_invPS [] h (fun _ hq => s_J0_isLatin1_aae02 hq) d_J0_charAt_5068e_1 pl_J0_492 py_J0_isLatin1_aae02 pi_J0_isLatin1_aae02 rfl rfl rfl (fun x1 h => ?_)
  refine r_if_eq h d_J0_charAt_5068e_4 (fun h => ?_) (fun h => ?_)
  · cases h
  · refine r_aload d_J0_charAt_5068e_7 rfl ?_
    refine r_sgetV h d_J0_charAt_5068e_8 ql_J0_9 (fun x2 h => ?_)
    refine r_iload d_J0_charAt_5068e_11 rfl ?_
    refine r_invSP [_, _] h (fun _ hq => s_J1_charAt_3b067 hq) d_J0_charAt_5068e_12 pl_J0_495 py_J1_charAt_3b067 ps_J1_charAt_3b067 rfl rfl rfl (fun x3 h => ?_)
    exact r_pcret h d_J0_charAt_5068e_15
/-! X8_isWord -/
theorem pf_X8_9 : pF RX8 9 8 2 := ⟨RX8, TX8, 6, rfl, by decide, rfl, Or.inl (g_in 461 (by decide +kernel) rfl)⟩
theorem py_J0_length_8abf5 : pY yJ0_length_8abf5 cJ0_length_8abf5 1 (some .int) 0 := ⟨g_in 542 (by decide +kernel) rfl, g_in 107 (by decide +kernel) rfl, by decide, by decide, by decide +kernel⟩
theorem pi_J0_length_8abf5 : pIs yJ0_length_8abf5 := ⟨g_in 540 (by decide +kernel) rfl, g_in 541 (by decide +kernel) rfl, rfl⟩
theorem pl_X8_39 : pL RX8 39 yJ0_length_8abf5 := Or.inl (g_in 539 (by decide +kernel) rfl)
theorem py_J0_charAt_5068e : pY yJ0_charAt_5068e cJ0_charAt_5068e 2 (some .char) 1 := ⟨g_in 552 (by decide +kernel) rfl, g_in 107 (by decide +kernel) rfl, by decide, by decide, by decide +kernel⟩
theorem pi_J0_charAt_5068e : pIs yJ0_charAt_5068e := ⟨g_in 550 (by decide +kernel) rfl, g_in 551 (by decide +kernel) rfl, rfl⟩
theorem pl_X8_44 : pL RX8 44 yJ0_charAt_5068e := Or.inl (g_in 549 (by decide +kernel) rfl)
theorem d_X8_isWord_0 : decAL cX8_isWord 0 0 1 := Or.inr ⟨0, rfl, by decide +kernel, rfl⟩
theorem d_X8_isWord_1 : dec 3 cX8_isWord 1 (.getfield 9) 4 := ⟨by decide +kernel, rfl⟩
theorem d_X8_isWord_4 : dec 1 cX8_isWord 4 (.iconst 1) 5 := ⟨by decide +kernel, rfl⟩
theorem d_X8_isWord_5 : decB cX8_isWord 5 (.if_icmp .ne 19) (19) 8 24 := ⟨by decide +kernel, rfl, by decide⟩
theorem d_X8_isWord_8 : decAL cX8_isWord 8 0 9 := Or.inr ⟨0, rfl, by decide +kernel, rfl⟩
theorem d_X8_isWord_9 : dec 3 cX8_isWord 9 (.getfield 16) 12 := ⟨by decide +kernel, rfl⟩
theorem d_X8_isWord_12 : decAL cX8_isWord 12 0 13 := Or.inr ⟨0, rfl, by decide +kernel, rfl⟩
theorem d_X8_isWord_13 : dec 3 cX8_isWord 13 (.getfield 13) 16 := ⟨by decide +kernel, rfl⟩
theorem d_X8_isWord_16 : dec 1 cX8_isWord 16 .isub 17 := ⟨by decide +kernel, rfl⟩
theorem d_X8_isWord_17 : decAL cX8_isWord 17 1 18 := Or.inr ⟨1, rfl, by decide +kernel, rfl⟩
theorem d_X8_isWord_18 : dec 3 cX8_isWord 18 (.invokevirtual 39) 21 := ⟨by decide +kernel, rfl⟩
theorem d_X8_isWord_21 : decB cX8_isWord 21 (.if_icmp .eq 5) (5) 24 26 := ⟨by decide +kernel, rfl, by decide⟩
theorem d_X8_isWord_24 : dec 1 cX8_isWord 24 (.iconst 0) 25 := ⟨by decide +kernel, rfl⟩
theorem d_X8_isWord_25 : dec 1 cX8_isWord 25 .ireturn 26 := ⟨by decide +kernel, rfl⟩
theorem d_X8_isWord_26 : dec 1 cX8_isWord 26 (.iconst 0) 27 := ⟨by decide +kernel, rfl⟩
theorem d_X8_isWord_27 : decIS cX8_isWord 27 2 28 := Or.inr ⟨2, rfl, by decide +kernel, rfl⟩
theorem d_X8_isWord_28 : decIL cX8_isWord 28 2 29 := Or.inr ⟨2, rfl, by decide +kernel, rfl⟩
theorem d_X8_isWord_29 : decAL cX8_isWord 29 1 30 := Or.inr ⟨1, rfl, by decide +kernel, rfl⟩
theorem d_X8_isWord_30 : dec 3 cX8_isWord 30 (.invokevirtual 39) 33 := ⟨by decide +kernel, rfl⟩
theorem d_X8_isWord_33 : decB cX8_isWord 33 (.if_icmp .ge 30) (30) 36 63 := ⟨by decide +kernel, rfl, by decide⟩
theorem d_X8_isWord_36 : decAL cX8_isWord 36 0 37 := Or.inr ⟨0, rfl, by decide +kernel, rfl⟩
theorem d_X8_isWord_37 : dec 3 cX8_isWord 37 (.getfield 28) 40 := ⟨by decide +kernel, rfl⟩
theorem d_X8_isWord_40 : decAL cX8_isWord 40 0 41 := Or.inr ⟨0, rfl, by decide +kernel, rfl⟩
theorem d_X8_isWord_41 : dec 3 cX8_isWord 41 (.getfield 13) 44 := ⟨by decide +kernel, rfl⟩
theorem d_X8_isWord_44 : decIL cX8_isWord 44 2 45 := Or.inr ⟨2, rfl, by decide +kernel, rfl⟩
theorem d_X8_isWord_45 : dec 1 cX8_isWord 45 .iadd 46 := ⟨by decide +kernel, rfl⟩
theorem d_X8_isWord_46 : dec 1 cX8_isWord 46 .baload 47 := ⟨by decide +kernel, rfl⟩
theorem d_X8_isWord_47 : decAL cX8_isWord 47 1 48 := Or.inr ⟨1, rfl, by decide +kernel, rfl⟩
theorem d_X8_isWord_48 : decIL cX8_isWord 48 2 49 := Or.inr ⟨2, rfl, by decide +kernel, rfl⟩
theorem d_X8_isWord_49 : dec 3 cX8_isWord 49 (.invokevirtual 44) 52 := ⟨by decide +kernel, rfl⟩
theorem d_X8_isWord_52 : decB cX8_isWord 52 (.if_icmp .eq 5) (5) 55 57 := ⟨by decide +kernel, rfl, by decide⟩
theorem d_X8_isWord_55 : dec 1 cX8_isWord 55 (.iconst 0) 56 := ⟨by decide +kernel, rfl⟩
theorem d_X8_isWord_56 : dec 1 cX8_isWord 56 .ireturn 57 := ⟨by decide +kernel, rfl⟩
theorem d_X8_isWord_57 : dec 3 cX8_isWord 57 (.iinc 2 1) 60 := ⟨by decide +kernel, rfl⟩
theorem d_X8_isWord_60 : decB cX8_isWord 60 (.goto (-32)) (-32) 63 28 := ⟨by decide +kernel, rfl, by decide⟩
theorem d_X8_isWord_63 : dec 1 cX8_isWord 63 (.iconst 1) 64 := ⟨by decide +kernel, rfl⟩
theorem d_X8_isWord_64 : dec 1 cX8_isWord 64 .ireturn 65 := ⟨by decide +kernel, rfl⟩
def b_X8_isWord_28 (F : Nat)   (v0 : Nat) (v1 : Nat) (G : GH) (rec28 : Int32 → Option (Int32)) : Int32 → Option (Int32) := fun v2 =>
  cvS v1 (f_J0_length_8abf5 F v1 G) (fun (x5 : Int32) =>
  if x5 ≤ v2 then
  (rP .boolean (1 : Int32))
  else (Option.bind (gR G v0 8 0) (fun (x6 : Nat) =>
  Option.bind (gI G v0 8 3) (fun (x7 : Int32) =>
  Option.bind (aI G x6 1 (x7 + v2)) (fun (x8 : Int32) =>
  cvS v1 (f_J0_charAt_5068e F v1 v2 G) (fun (x9 : Int32) =>
  if x8 = x9 then
  (rec28 (v2 + 1))
  else (rP .boolean (0 : Int32))))))))
def f_X8_isWord (F : Nat)  (v0 : Nat) (v1 : Nat) (G : GH) : Option (Int32) :=
  Option.bind (gI G v0 8 2) (fun (x1 : Int32) =>
  if x1 = (1 : Int32) then
  (Option.bind (gI G v0 8 4) (fun (x2 : Int32) =>
  Option.bind (gI G v0 8 3) (fun (x3 : Int32) =>
  cvS v1 (f_J0_length_8abf5 F v1 G) (fun (x4 : Int32) =>
  if (x2 - x3) = x4 then
  (fixN (fun _ => none) (b_X8_isWord_28 F   v0 v1 G) F (0 : Int32))
  else (rP .boolean (0 : Int32))))))
  else (rP .boolean (0 : Int32)))
set_option maxRecDepth 100000 in
set_option maxHeartbeats 4000000 in
theorem l_X8_isWord_28 {E : GE} {F : Nat}   {v0 : Nat} {v1 : Nat} {n : Nat} {G : GH}   : ∀ (K : Nat) (v2 : Int32) (z : Int32), fixN ((fun _ => none) : Int32 → Option (Int32)) (b_X8_isWord_28 F   v0 v1 G) K v2 = some z → WG E RX8 "isWord" cX8_isWord 3 (some .boolean) 4 85 0 0 28 [(0, .ref v0), (1, .ref (E.2.2.2.1 v1)), (2, .int v2)] [] n G (g_O E (some (.int z), n, G)) := by
  intro K
  refine fixN_ind (P := fun (r : Int32 → Option (Int32)) => ∀ (v2 : Int32) (z : Int32), r v2 = some z → WG E RX8 "isWord" cX8_isWord 3 (some .boolean) 4 85 0 0 28 [(0, .ref v0), (1, .ref (E.2.2.2.1 v1)), (2, .int v2)] [] n G (g_O E (some (.int z), n, G))) ?_ ?_ K
  · intro v2 z h
    cases h
  · intro rec28 hrec28 v2 z h
    unfold b_X8_isWord_28 at h
    refine r_iload d_X8_isWord_28 rfl ?_
    refine r_aload d_X8_isWord_29 rfl ?_
    refine r_invPS [] h (fun _ hq => s_J0_length_8abf5 hq) d_X8_isWord_30 pl_X8_39 py_J0_length_8abf5 pi_J0_length_8abf5 rfl rfl rfl (fun x5 h => ?_)
    refine r_icmp_ge h d_X8_isWord_33 (fun h => ?_) (fun h => ?_)
    · refine r_iconst d_X8_isWord_63 ic_1 ?_
      exact r_pzret h d_X8_isWord_64
    · refine r_aload d_X8_isWord_36 rfl ?_
      refine r_getR h d_X8_isWord_37 pf_X8_28 (fun x6 h => ?_)
      refine r_aload d_X8_isWord_40 rfl ?_
      refine r_getI h d_X8_isWord_41 pf_X8_13 (fun x7 h => ?_)
      refine r_iload d_X8_isWord_44 rfl ?_
      refine r_iadd d_X8_isWord_45 ?_
      refine r_bald h d_X8_isWord_46 (fun x8 h => ?_)
      refine r_aload d_X8_isWord_47 rfl ?_
      refine r_iload d_X8_isWord_48 rfl ?_
      refine r_invPS [_] h (fun _ hq => s_J0_charAt_5068e hq) d_X8_isWord_49 pl_X8_44 py_J0_charAt_5068e pi_J0_charAt_5068e rfl rfl rfl (fun x9 h => ?_)
      refine r_icmp_eq h d_X8_isWord_52 (fun h => ?_) (fun h => ?_)
      · refine r_iinc d_X8_isWord_57 rfl (ii_1 _) rfl rfl ?_
        refine r_goto d_X8_isWord_60 ?_
        refine r_lv [(0, .ref v0), (1, .ref (E.2.2.2.1 v1)), (2, .int (v2 + 1))] (g_allc rfl (g_allc rfl (g_allc rfl g_alln))) ?_
        exact hrec28 _ _ h
      · refine r_iconst d_X8_isWord_55 ic_0 ?_
        exact r_pzret h d_X8_isWord_56
set_option maxRecDepth 100000 in
set_option maxHeartbeats 4000000 in
theorem s_X8_isWord {E : GE} {F : Nat}  {v0 : Nat} {v1 : Nat} {n : Nat} {G : GH} {z : Int32}  (h : f_X8_isWord F  v0 v1 G = some z) : GM E yX8_isWord cX8_isWord 3 (some .boolean) 4 85 0 0 [.ref v0, .ref (E.2.2.2.1 v1)] n G (some (.int z), n, G) := by
  refine GM.of (by decide) (Nat.le_of_ble_eq_true rfl) ?_
  show WG E RX8 "isWord" cX8_isWord 3 (some .boolean) 4 85 0 0 0 [(0, .ref v0), (1, .ref (E.2.2.2.1 v1))] [] n G (g_O E (some (.int z), n, G))
  unfold f_X8_isWord at h
  refine r_aload d_X8_isWord_0 rfl ?_
  refine r_getI h d_X8_isWord_1 pf_X8_9 (fun x1 h => ?_)
  refine r_iconst d_X8_isWord_4 ic_1 ?_
  refine r_icmp_ne h d_X8_isWord_5 (fun h => ?_) (fun h => ?_)
  · refine r_iconst d_X8_isWord_24 ic_0 ?_
    exact r_pzret h d_X8_isWord_25
  · refine r_aload d_X8_isWord_8 rfl ?_
    refine r_getI h d_X8_isWord_9 pf_X8_16 (fun x2 h => ?_)
    refine r_aload d_X8_isWord_12 rfl ?_
    refine r_getI h d_X8_isWord_13 pf_X8_13 (fun x3 h => ?_)
    refine r_isub d_X8_isWord_16 ?_
    refine r_aload d_X8_isWord_17 rfl ?_
    refine r_invPS [] h (fun _ hq => s_J0_length_8abf5 hq) d_X8_isWord_18 pl_X8_39 py_J0_length_8abf5 pi_J0_length_8abf5 rfl rfl rfl (fun x4 h => ?_)
    refine r_icmp_eq h d_X8_isWord_21 (fun h => ?_) (fun h => ?_)
    · refine r_iconst d_X8_isWord_26 ic_0 ?_
      refine r_istore d_X8_isWord_27 rfl rfl ?_
      refine r_lv [(0, .ref v0), (1, .ref (E.2.2.2.1 v1)), (2, .int (0 : Int32))] (g_allc rfl (g_allc rfl (g_allc rfl g_alln))) ?_
      exact l_X8_isWord_28   _ _ _ h
    · refine r_iconst d_X8_isWord_24 ic_0 ?_
      exact r_pzret h d_X8_isWord_25
/-! X8_take -/
theorem py_X8_advance : pY yX8_advance cX8_advance 1 none 0 := ⟨g_in 517 (by decide +kernel) rfl, g_in 106 (by decide +kernel) rfl, by decide, by decide, by decide +kernel⟩
theorem pi_X8_advance : pI yX8_advance 8 := ⟨g_in 515 (by decide +kernel) rfl, g_in 516 (by decide +kernel) rfl, (RX8, TX8, 6), rfl, rfl⟩
theorem pl_X8_48 : pL RX8 48 yX8_advance := Or.inl (g_in 587 (by decide +kernel) rfl)
theorem d_X8_take_0 : decAL cX8_take 0 0 1 := Or.inr ⟨0, rfl, by decide +kernel, rfl⟩
theorem d_X8_take_1 : dec 3 cX8_take 1 (.getfield 9) 4 := ⟨by decide +kernel, rfl⟩
theorem d_X8_take_4 : decIL cX8_take 4 1 5 := Or.inr ⟨1, rfl, by decide +kernel, rfl⟩
theorem d_X8_take_5 : decB cX8_take 5 (.if_icmp .eq 5) (5) 8 10 := ⟨by decide +kernel, rfl, by decide⟩
theorem d_X8_take_8 : dec 1 cX8_take 8 (.iconst 0) 9 := ⟨by decide +kernel, rfl⟩
theorem d_X8_take_9 : dec 1 cX8_take 9 .ireturn 10 := ⟨by decide +kernel, rfl⟩
theorem d_X8_take_10 : decAL cX8_take 10 0 11 := Or.inr ⟨0, rfl, by decide +kernel, rfl⟩
theorem d_X8_take_11 : dec 3 cX8_take 11 (.invokevirtual 48) 14 := ⟨by decide +kernel, rfl⟩
theorem d_X8_take_14 : dec 1 cX8_take 14 (.iconst 1) 15 := ⟨by decide +kernel, rfl⟩
theorem d_X8_take_15 : dec 1 cX8_take 15 .ireturn 16 := ⟨by decide +kernel, rfl⟩
def f_X8_take (F : Nat)  (v0 : Nat) (v1 : Int32) (n : Nat) (G : GH) : Option (Int32 × Nat × GH) :=
  Option.bind (gI G v0 8 2) (fun (x1 : Int32) =>
  if x1 = v1 then
  (cvU G v0 8 (f_X8_advance F v0 n G) (fun (n2 : Nat) (G3 : GH) =>
  rN .boolean (1 : Int32) n2 G3))
  else (rN .boolean (0 : Int32) n G))
set_option maxRecDepth 100000 in
set_option maxHeartbeats 4000000 in
theorem s_X8_take {E : GE} {F : Nat}  {v0 : Nat} {v1 : Int32} {n : Nat} {G : GH} {z : Int32 × Nat × GH}  (h : f_X8_take F  v0 v1 n G = some z) : GM E yX8_take cX8_take 2 (some .boolean) 2 40 0 0 [.ref v0, .int v1] n G (some (.int z.1), z.2.1, z.2.2) := by
  refine GM.of (by decide) (Nat.le_of_ble_eq_true rfl) ?_
  show WG E RX8 "take" cX8_take 2 (some .boolean) 2 40 0 0 0 [(0, .ref v0), (1, .int v1)] [] n G (g_O E (some (.int z.1), z.2.1, z.2.2))
  unfold f_X8_take at h
  refine r_aload d_X8_take_0 rfl ?_
  refine r_getI h d_X8_take_1 pf_X8_9 (fun x1 h => ?_)
  refine r_iload d_X8_take_4 rfl ?_
  refine r_icmp_eq h d_X8_take_5 (fun h => ?_) (fun h => ?_)
  · refine r_aload d_X8_take_10 rfl ?_
    refine r_invU [] h (fun _ hq => s_X8_advance hq) d_X8_take_11 pl_X8_48 py_X8_advance pi_X8_advance rfl rfl rfl (fun n2 G3 h => ?_)
    refine r_iconst d_X8_take_14 ic_1 ?_
    exact r_zret h d_X8_take_15
  · refine r_iconst d_X8_take_8 ic_0 ?_
    exact r_zret h d_X8_take_9
/-! X8_takeWord -/
theorem py_X8_isWord : pY yX8_isWord cX8_isWord 3 (some .boolean) 1 := ⟨g_in 538 (by decide +kernel) rfl, g_in 106 (by decide +kernel) rfl, by decide, by decide, by decide +kernel⟩
theorem pi_X8_isWord : pI yX8_isWord 8 := ⟨g_in 536 (by decide +kernel) rfl, g_in 537 (by decide +kernel) rfl, (RX8, TX8, 6), rfl, rfl⟩
theorem pl_X8_51 : pL RX8 51 yX8_isWord := Or.inl (g_in 535 (by decide +kernel) rfl)
theorem d_X8_takeWord_0 : decAL cX8_takeWord 0 0 1 := Or.inr ⟨0, rfl, by decide +kernel, rfl⟩
theorem d_X8_takeWord_1 : decAL cX8_takeWord 1 1 2 := Or.inr ⟨1, rfl, by decide +kernel, rfl⟩
theorem d_X8_takeWord_2 : dec 3 cX8_takeWord 2 (.invokevirtual 51) 5 := ⟨by decide +kernel, rfl⟩
theorem d_X8_takeWord_5 : decB cX8_takeWord 5 (.ifCond .ne 5) (5) 8 10 := ⟨by decide +kernel, rfl, by decide⟩
theorem d_X8_takeWord_8 : dec 1 cX8_takeWord 8 (.iconst 0) 9 := ⟨by decide +kernel, rfl⟩
theorem d_X8_takeWord_9 : dec 1 cX8_takeWord 9 .ireturn 10 := ⟨by decide +kernel, rfl⟩
theorem d_X8_takeWord_10 : decAL cX8_takeWord 10 0 11 := Or.inr ⟨0, rfl, by decide +kernel, rfl⟩
theorem d_X8_takeWord_11 : dec 3 cX8_takeWord 11 (.invokevirtual 48) 14 := ⟨by decide +kernel, rfl⟩
theorem d_X8_takeWord_14 : dec 1 cX8_takeWord 14 (.iconst 1) 15 := ⟨by decide +kernel, rfl⟩
theorem d_X8_takeWord_15 : dec 1 cX8_takeWord 15 .ireturn 16 := ⟨by decide +kernel, rfl⟩
def f_X8_takeWord (F : Nat)  (v0 : Nat) (v1 : Nat) (n : Nat) (G : GH) : Option (Int32 × Nat × GH) :=
  cvP G v0 8 (f_X8_isWord F v0 v1 G) (fun (x1 : Int32) =>
  if x1 = 0 then
  (rN .boolean (0 : Int32) n G)
  else (cvU G v0 8 (f_X8_advance F v0 n G) (fun (n2 : Nat) (G3 : GH) =>
  rN .boolean (1 : Int32) n2 G3)))
set_option maxRecDepth 100000 in
set_option maxHeartbeats 4000000 in
theorem s_X8_takeWord {E : GE} {F : Nat}  {v0 : Nat} {v1 : Nat} {n : Nat} {G : GH} {z : Int32 × Nat × GH}  (h : f_X8_takeWord F  v0 v1 n G = some z) : GM E yX8_takeWord cX8_takeWord 2 (some .boolean) 5 107 0 0 [.ref v0, .ref (E.2.2.2.1 v1)] n G (some (.int z.1), z.2.1, z.2.2) := by
  refine GM.of (by decide) (Nat.le_of_ble_eq_true rfl) ?_
  show WG E RX8 "takeWord" cX8_takeWord 2 (some .boolean) 5 107 0 0 0 [(0, .ref v0), (1, .ref (E.2.2.2.1 v1))] [] n G (g_O E (some (.int z.1), z.2.1, z.2.2))
  unfold f_X8_takeWord at h
  refine r_aload d_X8_takeWord_0 rfl ?_
  refine r_aload d_X8_takeWord_1 rfl ?_
  refine r_invP [_] h (fun _ hq => s_X8_isWord hq) d_X8_takeWord_2 pl_X8_51 py_X8_isWord pi_X8_isWord rfl rfl rfl (fun x1 h => ?_)
  refine r_if_ne h d_X8_takeWord_5 (fun h => ?_) (fun h => ?_)
  · refine r_aload d_X8_takeWord_10 rfl ?_
    refine r_invU [] h (fun _ hq => s_X8_advance hq) d_X8_takeWord_11 pl_X8_48 py_X8_advance pi_X8_advance rfl rfl rfl (fun n2 G3 h => ?_)
    refine r_iconst d_X8_takeWord_14 ic_1 ?_
    exact r_zret h d_X8_takeWord_15
  · refine r_iconst d_X8_takeWord_8 ic_0 ?_
    exact r_zret h d_X8_takeWord_9
/-! X6_init -/
theorem qol_X6_3 : Cond.methodLink RX6 3 objectInit ∈ g_tbl := g_in 450 (by decide +kernel) rfl
def df_X3 : List Value := [.int 0, .null, .null, .null, .null, .null, .null, .null, .null]
theorem dv_X3 : ∀ j, j < 9 → defaultValue (tyX3 j) = vp_V df_X3 j := by decide +kernel
theorem pn_X6_9 : pN RX6 9 3 df_X3 := ⟨RX3, TX3, 9, rfl, g_in 451 (by decide +kernel) rfl, g_in 172 (by decide +kernel) rfl, g_in 97 (by decide +kernel) rfl, rfl, tyX3, tyX3_ok, dv_X3⟩
theorem py_X3_init : pY yX3_init cX3_init 1 none 0 := ⟨g_in 175 (by decide +kernel) rfl, g_in 97 (by decide +kernel) rfl, by decide, by decide, by decide +kernel⟩
theorem pm_X3_init : Cond.instanceMethod yX3_init ∈ g_tbl := g_in 174 (by decide +kernel) rfl
theorem pl_X6_11 : pL RX6 11 yX3_init := Or.inr ⟨"PlugBoard", g_in 452 (by decide +kernel) rfl⟩
theorem pw_X6_12 : pW RX6 "<init>" 12 6 1 (.object "PlugBoard$Parts") := ⟨RX6, TX6, 8, rfl, by decide, rfl, Or.inl ⟨g_in 483 (by decide +kernel) rfl, Or.inr ⟨rfl, rfl, rfl⟩⟩, by decide +kernel⟩
theorem pw_X6_18 : pW RX6 "<init>" 18 6 2 (.array .int) := ⟨RX6, TX6, 8, rfl, by decide, rfl, Or.inl ⟨g_in 485 (by decide +kernel) rfl, Or.inr ⟨rfl, rfl, rfl⟩⟩, by decide +kernel⟩
theorem pw_X6_22 {nm : String} : pW RX6 nm 22 6 3 .int := ⟨RX6, TX6, 8, rfl, by decide, rfl, Or.inl ⟨g_in 486 (by decide +kernel) rfl, Or.inl rfl⟩, by decide +kernel⟩
theorem pw_X6_26 {nm : String} : pW RX6 nm 26 6 4 .int := ⟨RX6, TX6, 8, rfl, by decide, rfl, Or.inl ⟨g_in 487 (by decide +kernel) rfl, Or.inl rfl⟩, by decide +kernel⟩
theorem pw_X6_29 {nm : String} : pW RX6 nm 29 6 5 .int := ⟨RX6, TX6, 8, rfl, by decide, rfl, Or.inl ⟨g_in 488 (by decide +kernel) rfl, Or.inl rfl⟩, by decide +kernel⟩
theorem pw_X6_32 {nm : String} : pW RX6 nm 32 6 6 .int := ⟨RX6, TX6, 8, rfl, by decide, rfl, Or.inl ⟨g_in 489 (by decide +kernel) rfl, Or.inl rfl⟩, by decide +kernel⟩
theorem pw_X6_35 {nm : String} : pW RX6 nm 35 6 7 .int := ⟨RX6, TX6, 8, rfl, by decide, rfl, Or.inl ⟨g_in 491 (by decide +kernel) rfl, Or.inl rfl⟩, by decide +kernel⟩
def df_X8 : List Value := [.null, .int 0, .int 0, .int 0, .int 0, .int 0]
theorem dv_X8 : ∀ j, j < 6 → defaultValue (tyX8 j) = vp_V df_X8 j := by decide +kernel
theorem pn_X6_38 : pN RX6 38 8 df_X8 := ⟨RX8, TX8, 6, rfl, g_in 453 (by decide +kernel) rfl, g_in 454 (by decide +kernel) rfl, g_in 106 (by decide +kernel) rfl, rfl, tyX8, tyX8_ok, dv_X8⟩
theorem py_X8_init : pY yX8_init cX8_init 2 none 1 := ⟨g_in 457 (by decide +kernel) rfl, g_in 106 (by decide +kernel) rfl, by decide, by decide, by decide +kernel⟩
theorem pm_X8_init : Cond.instanceMethod yX8_init ∈ g_tbl := g_in 456 (by decide +kernel) rfl
theorem pl_X6_40 : pL RX6 40 yX8_init := Or.inl (g_in 455 (by decide +kernel) rfl)
theorem pw_X6_43 : pW RX6 "<init>" 43 6 0 (.object "PlugBoard$Tokens") := ⟨RX6, TX6, 8, rfl, by decide, rfl, Or.inl ⟨g_in 482 (by decide +kernel) rfl, Or.inr ⟨rfl, rfl, rfl⟩⟩, by decide +kernel⟩
theorem pf_X6_18 : pF RX6 18 6 2 := ⟨RX6, TX6, 8, rfl, by decide, rfl, Or.inl (g_in 485 (by decide +kernel) rfl)⟩
theorem pl_X6_47 : pL RX6 47 yJ7_fill_53178 := Or.inl (g_in 481 (by decide +kernel) rfl)
theorem d_X6_init_0 : decAL cX6_init 0 0 1 := Or.inr ⟨0, rfl, by decide +kernel, rfl⟩
theorem d_X6_init_1 : dec 3 cX6_init 1 (.invokespecial 3) 4 := ⟨by decide +kernel, rfl⟩
theorem d_X6_init_4 : decAL cX6_init 4 0 5 := Or.inr ⟨0, rfl, by decide +kernel, rfl⟩
theorem d_X6_init_5 : dec 3 cX6_init 5 (.new 9) 8 := ⟨by decide +kernel, rfl⟩
theorem d_X6_init_8 : dec 1 cX6_init 8 .dup 9 := ⟨by decide +kernel, rfl⟩
theorem d_X6_init_9 : dec 3 cX6_init 9 (.invokespecial 11) 12 := ⟨by decide +kernel, rfl⟩
theorem d_X6_init_12 : dec 3 cX6_init 12 (.putfield 12) 15 := ⟨by decide +kernel, rfl⟩
theorem d_X6_init_15 : decAL cX6_init 15 0 16 := Or.inr ⟨0, rfl, by decide +kernel, rfl⟩
theorem d_X6_init_16 : dec 2 cX6_init 16 (.bipush 12) 18 := ⟨by decide +kernel, rfl⟩
theorem d_X6_init_18 : dec 2 cX6_init 18 (.newarray .int) 20 := ⟨by decide +kernel, rfl⟩
theorem d_X6_init_20 : dec 3 cX6_init 20 (.putfield 18) 23 := ⟨by decide +kernel, rfl⟩
theorem d_X6_init_23 : decAL cX6_init 23 0 24 := Or.inr ⟨0, rfl, by decide +kernel, rfl⟩
theorem d_X6_init_24 : dec 1 cX6_init 24 (.iconst 0) 25 := ⟨by decide +kernel, rfl⟩
theorem d_X6_init_25 : dec 3 cX6_init 25 (.putfield 22) 28 := ⟨by decide +kernel, rfl⟩
theorem d_X6_init_28 : decAL cX6_init 28 0 29 := Or.inr ⟨0, rfl, by decide +kernel, rfl⟩
theorem d_X6_init_29 : dec 1 cX6_init 29 (.iconst 0) 30 := ⟨by decide +kernel, rfl⟩
theorem d_X6_init_30 : dec 3 cX6_init 30 (.putfield 26) 33 := ⟨by decide +kernel, rfl⟩
theorem d_X6_init_33 : decAL cX6_init 33 0 34 := Or.inr ⟨0, rfl, by decide +kernel, rfl⟩
theorem d_X6_init_34 : dec 1 cX6_init 34 (.iconst 0) 35 := ⟨by decide +kernel, rfl⟩
theorem d_X6_init_35 : dec 3 cX6_init 35 (.putfield 29) 38 := ⟨by decide +kernel, rfl⟩
theorem d_X6_init_38 : decAL cX6_init 38 0 39 := Or.inr ⟨0, rfl, by decide +kernel, rfl⟩
theorem d_X6_init_39 : dec 1 cX6_init 39 (.iconst 0) 40 := ⟨by decide +kernel, rfl⟩
theorem d_X6_init_40 : dec 3 cX6_init 40 (.putfield 32) 43 := ⟨by decide +kernel, rfl⟩
theorem d_X6_init_43 : decAL cX6_init 43 0 44 := Or.inr ⟨0, rfl, by decide +kernel, rfl⟩
theorem d_X6_init_44 : dec 1 cX6_init 44 (.iconst (-1)) 45 := ⟨by decide +kernel, rfl⟩
theorem d_X6_init_45 : dec 3 cX6_init 45 (.putfield 35) 48 := ⟨by decide +kernel, rfl⟩
theorem d_X6_init_48 : decAL cX6_init 48 0 49 := Or.inr ⟨0, rfl, by decide +kernel, rfl⟩
theorem d_X6_init_49 : dec 3 cX6_init 49 (.new 38) 52 := ⟨by decide +kernel, rfl⟩
theorem d_X6_init_52 : dec 1 cX6_init 52 .dup 53 := ⟨by decide +kernel, rfl⟩
theorem d_X6_init_53 : decAL cX6_init 53 1 54 := Or.inr ⟨1, rfl, by decide +kernel, rfl⟩
theorem d_X6_init_54 : dec 3 cX6_init 54 (.invokespecial 40) 57 := ⟨by decide +kernel, rfl⟩
theorem d_X6_init_57 : dec 3 cX6_init 57 (.putfield 43) 60 := ⟨by decide +kernel, rfl⟩
theorem d_X6_init_60 : decAL cX6_init 60 0 61 := Or.inr ⟨0, rfl, by decide +kernel, rfl⟩
theorem d_X6_init_61 : dec 3 cX6_init 61 (.getfield 18) 64 := ⟨by decide +kernel, rfl⟩
theorem d_X6_init_64 : dec 1 cX6_init 64 (.iconst (-1)) 65 := ⟨by decide +kernel, rfl⟩
theorem d_X6_init_65 : dec 3 cX6_init 65 (.invokestatic 47) 68 := ⟨by decide +kernel, rfl⟩
theorem d_X6_init_68 : dec 1 cX6_init 68 .return_ 69 := ⟨by decide +kernel, rfl⟩
def f_X6_init (F : Nat)  (v0 : Nat) (v1 : Nat) (n : Nat) (G : GH) : Option (Nat × GH) :=
  csU (f_X3_init F n (n + 1) (gset G n (.inr (3, df_X3)))) (fun (n1 : Nat) (G2 : GH) =>
  Option.bind (pV G2 v0 6 1 (.ref n)) (fun (G3 : GH) =>
  Option.bind (pV (gset G3 n1 (.inl (0, 12, .inl (fun _ => 0)))) v0 6 2 (.ref n1)) (fun (G4 : GH) =>
  Option.bind (pV G4 v0 6 3 (.int (0 : Int32))) (fun (G5 : GH) =>
  Option.bind (pV G5 v0 6 4 (.int (0 : Int32))) (fun (G6 : GH) =>
  Option.bind (pV G6 v0 6 5 (.int (0 : Int32))) (fun (G7 : GH) =>
  Option.bind (pV G7 v0 6 6 (.int (0 : Int32))) (fun (G8 : GH) =>
  Option.bind (pV G8 v0 6 7 (.int (-1 : Int32))) (fun (G9 : GH) =>
  csU (f_X8_init F (n1 + 1) v1 ((n1 + 1) + 1) (gset G9 (n1 + 1) (.inr (8, df_X8)))) (fun (n10 : Nat) (G11 : GH) =>
  Option.bind (pV G11 v0 6 0 (.ref (n1 + 1))) (fun (G12 : GH) =>
  Option.bind (gR G12 v0 6 2) (fun (x13 : Nat) =>
  csU (f_J7_fill_53178 F x13 (-1 : Int32) n10 G12) (fun (n14 : Nat) (G15 : GH) =>
  some (n14, G15)))))))))))))
set_option maxRecDepth 100000 in
set_option maxHeartbeats 4000000 in
theorem s_X6_init {E : GE} {F : Nat}  {v0 : Nat} {v1 : Nat} {n : Nat} {G : GH} {z : Nat × GH}  (h : f_X6_init F  v0 v1 n G = some z) : GM E yX6_init cX6_init 2 none 2 61 11 159 [.ref v0, .ref v1] n G (none, z.1, z.2) := by
  refine GM.of (by decide) (Nat.le_of_ble_eq_true rfl) ?_
  show WG E RX6 "<init>" cX6_init 2 none 2 61 11 159 0 [(0, .ref v0), (1, .ref v1)] [] n G (g_O E (none, z.1, z.2))
  unfold f_X6_init at h
  refine r_aload d_X6_init_0 rfl ?_
  refine r_obj d_X6_init_1 qol_X6_3 qoi qoc rfl rfl ?_
  refine r_aload d_X6_init_4 rfl ?_
  refine r_new d_X6_init_5 pn_X6_9 rfl rfl ?_
  refine r_dup d_X6_init_8 rfl ?_
  refine r_invN [] h (fun _ hq => s_X3_init hq) d_X6_init_9 pl_X6_11 py_X3_init pm_X3_init rfl rfl rfl rfl (fun n1 G2 h => ?_)
  refine r_put h d_X6_init_12 pw_X6_12 rfl rfl (fun G3 h => ?_)
  refine r_aload d_X6_init_15 rfl ?_
  refine r_bipush d_X6_init_16 bp_12 ?_
  refine r_newaI (N := 12) d_X6_init_18 qa_int (by decide) (by decide) rfl rfl rfl ?_
  refine r_put h d_X6_init_20 pw_X6_18 rfl rfl (fun G4 h => ?_)
  refine r_aload d_X6_init_23 rfl ?_
  refine r_iconst d_X6_init_24 ic_0 ?_
  refine r_put h d_X6_init_25 pw_X6_22 rfl rfl (fun G5 h => ?_)
  refine r_aload d_X6_init_28 rfl ?_
  refine r_iconst d_X6_init_29 ic_0 ?_
  refine r_put h d_X6_init_30 pw_X6_26 rfl rfl (fun G6 h => ?_)
  refine r_aload d_X6_init_33 rfl ?_
  refine r_iconst d_X6_init_34 ic_0 ?_
  refine r_put h d_X6_init_35 pw_X6_29 rfl rfl (fun G7 h => ?_)
  refine r_aload d_X6_init_38 rfl ?_
  refine r_iconst d_X6_init_39 ic_0 ?_
  refine r_put h d_X6_init_40 pw_X6_32 rfl rfl (fun G8 h => ?_)
  refine r_aload d_X6_init_43 rfl ?_
  refine r_iconst d_X6_init_44 ic_m1 ?_
  refine r_put h d_X6_init_45 pw_X6_35 rfl rfl (fun G9 h => ?_)
  refine r_aload d_X6_init_48 rfl ?_
  refine r_new d_X6_init_49 pn_X6_38 rfl rfl ?_
  refine r_dup d_X6_init_52 rfl ?_
  refine r_aload d_X6_init_53 rfl ?_
  refine r_invN [_] h (fun _ hq => s_X8_init hq) d_X6_init_54 pl_X6_40 py_X8_init pm_X8_init rfl rfl rfl rfl (fun n10 G11 h => ?_)
  refine r_put h d_X6_init_57 pw_X6_43 rfl rfl (fun G12 h => ?_)
  refine r_aload d_X6_init_60 rfl ?_
  refine r_getR h d_X6_init_61 pf_X6_18 (fun x13 h => ?_)
  refine r_iconst d_X6_init_64 ic_m1 ?_
  refine r_invSU [_, _] h (fun _ hq => s_J7_fill_53178 hq) d_X6_init_65 pl_X6_47 py_J7_fill_53178 ps_J7_fill_53178 rfl rfl rfl (fun n14 G15 h => ?_)
  exact r_vret h d_X6_init_68
/-! X6_note -/
theorem pf_X6_32 : pF RX6 32 6 6 := ⟨RX6, TX6, 8, rfl, by decide, rfl, Or.inl (g_in 489 (by decide +kernel) rfl)⟩
theorem pf_X6_35 : pF RX6 35 6 7 := ⟨RX6, TX6, 8, rfl, by decide, rfl, Or.inl (g_in 491 (by decide +kernel) rfl)⟩
theorem d_X6_note_0 : decAL cX6_note 0 0 1 := Or.inr ⟨0, rfl, by decide +kernel, rfl⟩
theorem d_X6_note_1 : dec 3 cX6_note 1 (.getfield 32) 4 := ⟨by decide +kernel, rfl⟩
theorem d_X6_note_4 : decB cX6_note 4 (.ifCond .eq 27) (27) 7 31 := ⟨by decide +kernel, rfl, by decide⟩
theorem d_X6_note_7 : decIL cX6_note 7 2 8 := Or.inr ⟨2, rfl, by decide +kernel, rfl⟩
theorem d_X6_note_8 : decAL cX6_note 8 0 9 := Or.inr ⟨0, rfl, by decide +kernel, rfl⟩
theorem d_X6_note_9 : dec 3 cX6_note 9 (.getfield 35) 12 := ⟨by decide +kernel, rfl⟩
theorem d_X6_note_12 : decB cX6_note 12 (.if_icmp .lt 19) (19) 15 31 := ⟨by decide +kernel, rfl, by decide⟩
theorem d_X6_note_15 : decIL cX6_note 15 2 16 := Or.inr ⟨2, rfl, by decide +kernel, rfl⟩
theorem d_X6_note_16 : decAL cX6_note 16 0 17 := Or.inr ⟨0, rfl, by decide +kernel, rfl⟩
theorem d_X6_note_17 : dec 3 cX6_note 17 (.getfield 35) 20 := ⟨by decide +kernel, rfl⟩
theorem d_X6_note_20 : decB cX6_note 20 (.if_icmp .ne 21) (21) 23 41 := ⟨by decide +kernel, rfl, by decide⟩
theorem d_X6_note_23 : decIL cX6_note 23 1 24 := Or.inr ⟨1, rfl, by decide +kernel, rfl⟩
theorem d_X6_note_24 : decAL cX6_note 24 0 25 := Or.inr ⟨0, rfl, by decide +kernel, rfl⟩
theorem d_X6_note_25 : dec 3 cX6_note 25 (.getfield 32) 28 := ⟨by decide +kernel, rfl⟩
theorem d_X6_note_28 : decB cX6_note 28 (.if_icmp .ge 13) (13) 31 41 := ⟨by decide +kernel, rfl, by decide⟩
theorem d_X6_note_31 : decAL cX6_note 31 0 32 := Or.inr ⟨0, rfl, by decide +kernel, rfl⟩
theorem d_X6_note_32 : decIL cX6_note 32 1 33 := Or.inr ⟨1, rfl, by decide +kernel, rfl⟩
theorem d_X6_note_33 : dec 3 cX6_note 33 (.putfield 32) 36 := ⟨by decide +kernel, rfl⟩
theorem d_X6_note_36 : decAL cX6_note 36 0 37 := Or.inr ⟨0, rfl, by decide +kernel, rfl⟩
theorem d_X6_note_37 : decIL cX6_note 37 2 38 := Or.inr ⟨2, rfl, by decide +kernel, rfl⟩
theorem d_X6_note_38 : dec 3 cX6_note 38 (.putfield 35) 41 := ⟨by decide +kernel, rfl⟩
theorem d_X6_note_41 : dec 1 cX6_note 41 .return_ 42 := ⟨by decide +kernel, rfl⟩
def k_X6_note_31 (F : Nat)   (v0 : Nat) (v1 : Int32) (v2 : Int32)  (n : Nat) (G : GH) : Option (Nat × GH) :=
  Option.bind (pV G v0 6 6 (.int v1)) (fun (G2 : GH) =>
  Option.bind (pV G2 v0 6 7 (.int v2)) (fun (G3 : GH) =>
  some (n, G3)))
def f_X6_note (F : Nat)  (v0 : Nat) (v1 : Int32) (v2 : Int32) (n : Nat) (G : GH) : Option (Nat × GH) :=
  Option.bind (gI G v0 6 6) (fun (x1 : Int32) =>
  if x1 = 0 then
  (k_X6_note_31 F   v0 v1 v2 n G)
  else (Option.bind (gI G v0 6 7) (fun (x4 : Int32) =>
  if v2 < x4 then
  (k_X6_note_31 F   v0 v1 v2 n G)
  else (Option.bind (gI G v0 6 7) (fun (x5 : Int32) =>
  if v2 = x5 then
  (Option.bind (gI G v0 6 6) (fun (x6 : Int32) =>
  if x6 ≤ v1 then
  (some (n, G))
  else (k_X6_note_31 F   v0 v1 v2 n G)))
  else (some (n, G)))))))
set_option maxRecDepth 100000 in
set_option maxHeartbeats 4000000 in
theorem c_X6_note_31 {E : GE} {F : Nat}   {v0 : Nat} {v1 : Int32} {v2 : Int32}  {n : Nat} {G : GH} {z : Nat × GH}   (h : k_X6_note_31 F   v0 v1 v2  n G = some z) : WG E RX6 "note" cX6_note 3 none 0 0 0 0 31 [(0, .ref v0), (1, .int v1), (2, .int v2)] [] n G (g_O E (none, z.1, z.2)) := by
  unfold k_X6_note_31 at h
  refine r_aload d_X6_note_31 rfl ?_
  refine r_iload d_X6_note_32 rfl ?_
  refine r_put h d_X6_note_33 pw_X6_32 rfl rfl (fun G2 h => ?_)
  refine r_aload d_X6_note_36 rfl ?_
  refine r_iload d_X6_note_37 rfl ?_
  refine r_put h d_X6_note_38 pw_X6_35 rfl rfl (fun G3 h => ?_)
  exact r_vret h d_X6_note_41
set_option maxRecDepth 100000 in
set_option maxHeartbeats 4000000 in
theorem s_X6_note {E : GE} {F : Nat}  {v0 : Nat} {v1 : Int32} {v2 : Int32} {n : Nat} {G : GH} {z : Nat × GH}  (h : f_X6_note F  v0 v1 v2 n G = some z) : GM E yX6_note cX6_note 3 none 0 0 0 0 [.ref v0, .int v1, .int v2] n G (none, z.1, z.2) := by
  refine GM.of (by decide) (Nat.le_of_ble_eq_true rfl) ?_
  show WG E RX6 "note" cX6_note 3 none 0 0 0 0 0 [(0, .ref v0), (1, .int v1), (2, .int v2)] [] n G (g_O E (none, z.1, z.2))
  unfold f_X6_note at h
  refine r_aload d_X6_note_0 rfl ?_
  refine r_getI h d_X6_note_1 pf_X6_32 (fun x1 h => ?_)
  refine r_if_eq h d_X6_note_4 (fun h => ?_) (fun h => ?_)
  · refine r_lv [(0, .ref v0), (1, .int v1), (2, .int v2)] (g_allc rfl (g_allc rfl (g_allc rfl g_alln))) ?_
    exact c_X6_note_31   h
  · refine r_iload d_X6_note_7 rfl ?_
    refine r_aload d_X6_note_8 rfl ?_
    refine r_getI h d_X6_note_9 pf_X6_35 (fun x4 h => ?_)
    refine r_icmp_lt h d_X6_note_12 (fun h => ?_) (fun h => ?_)
    · refine r_lv [(0, .ref v0), (1, .int v1), (2, .int v2)] (g_allc rfl (g_allc rfl (g_allc rfl g_alln))) ?_
      exact c_X6_note_31   h
    · refine r_iload d_X6_note_15 rfl ?_
      refine r_aload d_X6_note_16 rfl ?_
      refine r_getI h d_X6_note_17 pf_X6_35 (fun x5 h => ?_)
      refine r_icmp_ne h d_X6_note_20 (fun h => ?_) (fun h => ?_)
      · exact r_vret h d_X6_note_41
      · refine r_iload d_X6_note_23 rfl ?_
        refine r_aload d_X6_note_24 rfl ?_
        refine r_getI h d_X6_note_25 pf_X6_32 (fun x6 h => ?_)
        refine r_icmp_ge h d_X6_note_28 (fun h => ?_) (fun h => ?_)
        · exact r_vret h d_X6_note_41
        · refine r_lv [(0, .ref v0), (1, .int v1), (2, .int v2)] (g_allc rfl (g_allc rfl (g_allc rfl g_alln))) ?_
          exact c_X6_note_31   h
/-! X6_actOfToken -/
theorem pf_X6_43 : pF RX6 43 6 0 := ⟨RX6, TX6, 8, rfl, by decide, rfl, Or.inl (g_in 482 (by decide +kernel) rfl)⟩
theorem pl_X6_109 : pL RX6 109 yX8_isWord := Or.inl (g_in 604 (by decide +kernel) rfl)
theorem d_X6_actOfToken_0 : decAL cX6_actOfToken 0 0 1 := Or.inr ⟨0, rfl, by decide +kernel, rfl⟩
theorem d_X6_actOfToken_1 : dec 3 cX6_actOfToken 1 (.getfield 43) 4 := ⟨by decide +kernel, rfl⟩
theorem d_X6_actOfToken_4 : dec 2 cX6_actOfToken 4 (.ldc 107) 6 := ⟨by decide +kernel, rfl⟩
theorem d_X6_actOfToken_6 : dec 3 cX6_actOfToken 6 (.invokevirtual 109) 9 := ⟨by decide +kernel, rfl⟩
theorem d_X6_actOfToken_9 : decB cX6_actOfToken 9 (.ifCond .eq 5) (5) 12 14 := ⟨by decide +kernel, rfl, by decide⟩
theorem d_X6_actOfToken_12 : dec 1 cX6_actOfToken 12 (.iconst 0) 13 := ⟨by decide +kernel, rfl⟩
theorem d_X6_actOfToken_13 : dec 1 cX6_actOfToken 13 .ireturn 14 := ⟨by decide +kernel, rfl⟩
theorem d_X6_actOfToken_14 : decAL cX6_actOfToken 14 0 15 := Or.inr ⟨0, rfl, by decide +kernel, rfl⟩
theorem d_X6_actOfToken_15 : dec 3 cX6_actOfToken 15 (.getfield 43) 18 := ⟨by decide +kernel, rfl⟩
theorem d_X6_actOfToken_18 : dec 2 cX6_actOfToken 18 (.ldc 112) 20 := ⟨by decide +kernel, rfl⟩
theorem d_X6_actOfToken_20 : dec 3 cX6_actOfToken 20 (.invokevirtual 109) 23 := ⟨by decide +kernel, rfl⟩
theorem d_X6_actOfToken_23 : decB cX6_actOfToken 23 (.ifCond .eq 5) (5) 26 28 := ⟨by decide +kernel, rfl, by decide⟩
theorem d_X6_actOfToken_26 : dec 1 cX6_actOfToken 26 (.iconst 1) 27 := ⟨by decide +kernel, rfl⟩
theorem d_X6_actOfToken_27 : dec 1 cX6_actOfToken 27 .ireturn 28 := ⟨by decide +kernel, rfl⟩
theorem d_X6_actOfToken_28 : decAL cX6_actOfToken 28 0 29 := Or.inr ⟨0, rfl, by decide +kernel, rfl⟩
theorem d_X6_actOfToken_29 : dec 3 cX6_actOfToken 29 (.getfield 43) 32 := ⟨by decide +kernel, rfl⟩
theorem d_X6_actOfToken_32 : dec 2 cX6_actOfToken 32 (.ldc 114) 34 := ⟨by decide +kernel, rfl⟩
theorem d_X6_actOfToken_34 : dec 3 cX6_actOfToken 34 (.invokevirtual 109) 37 := ⟨by decide +kernel, rfl⟩
theorem d_X6_actOfToken_37 : decB cX6_actOfToken 37 (.ifCond .eq 5) (5) 40 42 := ⟨by decide +kernel, rfl, by decide⟩
theorem d_X6_actOfToken_40 : dec 1 cX6_actOfToken 40 (.iconst 2) 41 := ⟨by decide +kernel, rfl⟩
theorem d_X6_actOfToken_41 : dec 1 cX6_actOfToken 41 .ireturn 42 := ⟨by decide +kernel, rfl⟩
theorem d_X6_actOfToken_42 : decAL cX6_actOfToken 42 0 43 := Or.inr ⟨0, rfl, by decide +kernel, rfl⟩
theorem d_X6_actOfToken_43 : dec 3 cX6_actOfToken 43 (.getfield 43) 46 := ⟨by decide +kernel, rfl⟩
theorem d_X6_actOfToken_46 : dec 2 cX6_actOfToken 46 (.ldc 116) 48 := ⟨by decide +kernel, rfl⟩
theorem d_X6_actOfToken_48 : dec 3 cX6_actOfToken 48 (.invokevirtual 109) 51 := ⟨by decide +kernel, rfl⟩
theorem d_X6_actOfToken_51 : decB cX6_actOfToken 51 (.ifCond .eq 5) (5) 54 56 := ⟨by decide +kernel, rfl, by decide⟩
theorem d_X6_actOfToken_54 : dec 1 cX6_actOfToken 54 (.iconst 3) 55 := ⟨by decide +kernel, rfl⟩
theorem d_X6_actOfToken_55 : dec 1 cX6_actOfToken 55 .ireturn 56 := ⟨by decide +kernel, rfl⟩
theorem d_X6_actOfToken_56 : decAL cX6_actOfToken 56 0 57 := Or.inr ⟨0, rfl, by decide +kernel, rfl⟩
theorem d_X6_actOfToken_57 : dec 3 cX6_actOfToken 57 (.getfield 43) 60 := ⟨by decide +kernel, rfl⟩
theorem d_X6_actOfToken_60 : dec 2 cX6_actOfToken 60 (.ldc 118) 62 := ⟨by decide +kernel, rfl⟩
theorem d_X6_actOfToken_62 : dec 3 cX6_actOfToken 62 (.invokevirtual 109) 65 := ⟨by decide +kernel, rfl⟩
theorem d_X6_actOfToken_65 : decB cX6_actOfToken 65 (.ifCond .eq 5) (5) 68 70 := ⟨by decide +kernel, rfl, by decide⟩
theorem d_X6_actOfToken_68 : dec 1 cX6_actOfToken 68 (.iconst 4) 69 := ⟨by decide +kernel, rfl⟩
theorem d_X6_actOfToken_69 : dec 1 cX6_actOfToken 69 .ireturn 70 := ⟨by decide +kernel, rfl⟩
theorem d_X6_actOfToken_70 : decAL cX6_actOfToken 70 0 71 := Or.inr ⟨0, rfl, by decide +kernel, rfl⟩
theorem d_X6_actOfToken_71 : dec 3 cX6_actOfToken 71 (.getfield 43) 74 := ⟨by decide +kernel, rfl⟩
theorem d_X6_actOfToken_74 : dec 2 cX6_actOfToken 74 (.ldc 119) 76 := ⟨by decide +kernel, rfl⟩
theorem d_X6_actOfToken_76 : dec 3 cX6_actOfToken 76 (.invokevirtual 109) 79 := ⟨by decide +kernel, rfl⟩
theorem d_X6_actOfToken_79 : decB cX6_actOfToken 79 (.ifCond .eq 7) (7) 82 86 := ⟨by decide +kernel, rfl, by decide⟩
theorem d_X6_actOfToken_82 : dec 1 cX6_actOfToken 82 (.iconst 5) 83 := ⟨by decide +kernel, rfl⟩
theorem d_X6_actOfToken_83 : decB cX6_actOfToken 83 (.goto 4) (4) 86 87 := ⟨by decide +kernel, rfl, by decide⟩
theorem d_X6_actOfToken_86 : dec 1 cX6_actOfToken 86 (.iconst (-1)) 87 := ⟨by decide +kernel, rfl⟩
theorem d_X6_actOfToken_87 : dec 1 cX6_actOfToken 87 .ireturn 88 := ⟨by decide +kernel, rfl⟩
def f_X6_actOfToken (F : Nat)  (v0 : Nat) (G : GH) : Option (Int32) :=
  Option.bind (gR G v0 6 0) (fun (x1 : Nat) =>
  cvP G x1 8 (f_X8_isWord F x1 (1) G) (fun (x2 : Int32) =>
  if x2 = 0 then
  (Option.bind (gR G v0 6 0) (fun (x3 : Nat) =>
  cvP G x3 8 (f_X8_isWord F x3 (2) G) (fun (x4 : Int32) =>
  if x4 = 0 then
  (Option.bind (gR G v0 6 0) (fun (x5 : Nat) =>
  cvP G x5 8 (f_X8_isWord F x5 (3) G) (fun (x6 : Int32) =>
  if x6 = 0 then
  (Option.bind (gR G v0 6 0) (fun (x7 : Nat) =>
  cvP G x7 8 (f_X8_isWord F x7 (4) G) (fun (x8 : Int32) =>
  if x8 = 0 then
  (Option.bind (gR G v0 6 0) (fun (x9 : Nat) =>
  cvP G x9 8 (f_X8_isWord F x9 (5) G) (fun (x10 : Int32) =>
  if x10 = 0 then
  (Option.bind (gR G v0 6 0) (fun (x11 : Nat) =>
  cvP G x11 8 (f_X8_isWord F x11 (6) G) (fun (x12 : Int32) =>
  if x12 = 0 then
  (some (-1 : Int32))
  else (some (5 : Int32)))))
  else (some (4 : Int32)))))
  else (some (3 : Int32)))))
  else (some (2 : Int32)))))
  else (some (1 : Int32)))))
  else (some (0 : Int32))))
set_option maxRecDepth 100000 in
set_option maxHeartbeats 4000000 in
theorem s_X6_actOfToken {E : GE} {F : Nat}  {v0 : Nat} {n : Nat} {G : GH} {z : Int32}  (h : f_X6_actOfToken F  v0 G = some z) : GM E yX6_actOfToken cX6_actOfToken 1 (some .int) 5 107 0 0 [.ref v0] n G (some (.int z), n, G) := by
  refine GM.of (by decide) (Nat.le_of_ble_eq_true rfl) ?_
  show WG E RX6 "actOfToken" cX6_actOfToken 1 (some .int) 5 107 0 0 0 [(0, .ref v0)] [] n G (g_O E (some (.int z), n, G))
  unfold f_X6_actOfToken at h
  refine r_aload d_X6_actOfToken_0 rfl ?_
  refine r_getR h d_X6_actOfToken_1 pf_X6_43 (fun x1 h => ?_)
  refine r_ldcS 1 rfl d_X6_actOfToken_4 ?_
  refine r_invP [_] h (fun _ hq => s_X8_isWord hq) d_X6_actOfToken_6 pl_X6_109 py_X8_isWord pi_X8_isWord rfl rfl rfl (fun x2 h => ?_)
  refine r_if_eq h d_X6_actOfToken_9 (fun h => ?_) (fun h => ?_)
  · refine r_aload d_X6_actOfToken_14 rfl ?_
    refine r_getR h d_X6_actOfToken_15 pf_X6_43 (fun x3 h => ?_)
    refine r_ldcS 2 rfl d_X6_actOfToken_18 ?_
    refine r_invP [_] h (fun _ hq => s_X8_isWord hq) d_X6_actOfToken_20 pl_X6_109 py_X8_isWord pi_X8_isWord rfl rfl rfl (fun x4 h => ?_)
    refine r_if_eq h d_X6_actOfToken_23 (fun h => ?_) (fun h => ?_)
    · refine r_aload d_X6_actOfToken_28 rfl ?_
      refine r_getR h d_X6_actOfToken_29 pf_X6_43 (fun x5 h => ?_)
      refine r_ldcS 3 rfl d_X6_actOfToken_32 ?_
      refine r_invP [_] h (fun _ hq => s_X8_isWord hq) d_X6_actOfToken_34 pl_X6_109 py_X8_isWord pi_X8_isWord rfl rfl rfl (fun x6 h => ?_)
      refine r_if_eq h d_X6_actOfToken_37 (fun h => ?_) (fun h => ?_)
      · refine r_aload d_X6_actOfToken_42 rfl ?_
        refine r_getR h d_X6_actOfToken_43 pf_X6_43 (fun x7 h => ?_)
        refine r_ldcS 4 rfl d_X6_actOfToken_46 ?_
        refine r_invP [_] h (fun _ hq => s_X8_isWord hq) d_X6_actOfToken_48 pl_X6_109 py_X8_isWord pi_X8_isWord rfl rfl rfl (fun x8 h => ?_)
        refine r_if_eq h d_X6_actOfToken_51 (fun h => ?_) (fun h => ?_)
        · refine r_aload d_X6_actOfToken_56 rfl ?_
          refine r_getR h d_X6_actOfToken_57 pf_X6_43 (fun x9 h => ?_)
          refine r_ldcS 5 rfl d_X6_actOfToken_60 ?_
          refine r_invP [_] h (fun _ hq => s_X8_isWord hq) d_X6_actOfToken_62 pl_X6_109 py_X8_isWord pi_X8_isWord rfl rfl rfl (fun x10 h => ?_)
          refine r_if_eq h d_X6_actOfToken_65 (fun h => ?_) (fun h => ?_)
          · refine r_aload d_X6_actOfToken_70 rfl ?_
            refine r_getR h d_X6_actOfToken_71 pf_X6_43 (fun x11 h => ?_)
            refine r_ldcS 6 rfl d_X6_actOfToken_74 ?_
            refine r_invP [_] h (fun _ hq => s_X8_isWord hq) d_X6_actOfToken_76 pl_X6_109 py_X8_isWord pi_X8_isWord rfl rfl rfl (fun x12 h => ?_)
            refine r_if_eq h d_X6_actOfToken_79 (fun h => ?_) (fun h => ?_)
            · refine r_iconst d_X6_actOfToken_86 ic_m1 ?_
              exact r_pret h d_X6_actOfToken_87
            · refine r_iconst d_X6_actOfToken_82 ic_5 ?_
              refine r_goto d_X6_actOfToken_83 ?_
              exact r_pret h d_X6_actOfToken_87
          · refine r_iconst d_X6_actOfToken_68 ic_4 ?_
            exact r_pret h d_X6_actOfToken_69
        · refine r_iconst d_X6_actOfToken_54 ic_3 ?_
          exact r_pret h d_X6_actOfToken_55
      · refine r_iconst d_X6_actOfToken_40 ic_2 ?_
        exact r_pret h d_X6_actOfToken_41
    · refine r_iconst d_X6_actOfToken_26 ic_1 ?_
      exact r_pret h d_X6_actOfToken_27
  · refine r_iconst d_X6_actOfToken_12 ic_0 ?_
    exact r_pret h d_X6_actOfToken_13
/-! X6_readAct -/
theorem py_X6_actOfToken : pY yX6_actOfToken cX6_actOfToken 1 (some .int) 0 := ⟨g_in 602 (by decide +kernel) rfl, g_in 105 (by decide +kernel) rfl, by decide, by decide, by decide +kernel⟩
theorem pi_X6_actOfToken : pI yX6_actOfToken 6 := ⟨g_in 601 (by decide +kernel) rfl, g_in 5 (by decide +kernel) rfl, (RX6, TX6, 8), rfl, rfl⟩
theorem pl_X6_100 : pL RX6 100 yX6_actOfToken := Or.inl (g_in 599 (by decide +kernel) rfl)
theorem pf_X6_12 : pF RX6 12 6 1 := ⟨RX6, TX6, 8, rfl, by decide, rfl, Or.inl (g_in 483 (by decide +kernel) rfl)⟩
theorem pf_X6_104 : pF RX6 104 3 1 := ⟨RX3, TX3, 9, rfl, by decide, rfl, Or.inr ⟨"PlugBoard", g_in 182 (by decide +kernel) rfl⟩⟩
theorem pf_X6_26 : pF RX6 26 6 4 := ⟨RX6, TX6, 8, rfl, by decide, rfl, Or.inl (g_in 487 (by decide +kernel) rfl)⟩
theorem pl_X6_53 : pL RX6 53 yX8_advance := Or.inl (g_in 514 (by decide +kernel) rfl)
theorem d_X6_readAct_0 : decAL cX6_readAct 0 0 1 := Or.inr ⟨0, rfl, by decide +kernel, rfl⟩
theorem d_X6_readAct_1 : dec 3 cX6_readAct 1 (.invokevirtual 100) 4 := ⟨by decide +kernel, rfl⟩
theorem d_X6_readAct_4 : decIS cX6_readAct 4 1 5 := Or.inr ⟨1, rfl, by decide +kernel, rfl⟩
theorem d_X6_readAct_5 : decIL cX6_readAct 5 1 6 := Or.inr ⟨1, rfl, by decide +kernel, rfl⟩
theorem d_X6_readAct_6 : dec 1 cX6_readAct 6 (.iconst (-1)) 7 := ⟨by decide +kernel, rfl⟩
theorem d_X6_readAct_7 : decB cX6_readAct 7 (.if_icmp .ne 5) (5) 10 12 := ⟨by decide +kernel, rfl, by decide⟩
theorem d_X6_readAct_10 : dec 1 cX6_readAct 10 (.iconst 0) 11 := ⟨by decide +kernel, rfl⟩
theorem d_X6_readAct_11 : dec 1 cX6_readAct 11 .ireturn 12 := ⟨by decide +kernel, rfl⟩
theorem d_X6_readAct_12 : decAL cX6_readAct 12 0 13 := Or.inr ⟨0, rfl, by decide +kernel, rfl⟩
theorem d_X6_readAct_13 : dec 3 cX6_readAct 13 (.getfield 12) 16 := ⟨by decide +kernel, rfl⟩
theorem d_X6_readAct_16 : dec 3 cX6_readAct 16 (.getfield 104) 19 := ⟨by decide +kernel, rfl⟩
theorem d_X6_readAct_19 : decAL cX6_readAct 19 0 20 := Or.inr ⟨0, rfl, by decide +kernel, rfl⟩
theorem d_X6_readAct_20 : dec 3 cX6_readAct 20 (.getfield 26) 23 := ⟨by decide +kernel, rfl⟩
theorem d_X6_readAct_23 : decIL cX6_readAct 23 1 24 := Or.inr ⟨1, rfl, by decide +kernel, rfl⟩
theorem d_X6_readAct_24 : dec 1 cX6_readAct 24 .iastore 25 := ⟨by decide +kernel, rfl⟩
theorem d_X6_readAct_25 : decAL cX6_readAct 25 0 26 := Or.inr ⟨0, rfl, by decide +kernel, rfl⟩
theorem d_X6_readAct_26 : dec 3 cX6_readAct 26 (.getfield 43) 29 := ⟨by decide +kernel, rfl⟩
theorem d_X6_readAct_29 : dec 3 cX6_readAct 29 (.invokevirtual 53) 32 := ⟨by decide +kernel, rfl⟩
theorem d_X6_readAct_32 : dec 1 cX6_readAct 32 (.iconst 1) 33 := ⟨by decide +kernel, rfl⟩
theorem d_X6_readAct_33 : dec 1 cX6_readAct 33 .ireturn 34 := ⟨by decide +kernel, rfl⟩
def f_X6_readAct (F : Nat)  (v0 : Nat) (n : Nat) (G : GH) : Option (Int32 × Nat × GH) :=
  cvP G v0 6 (f_X6_actOfToken F v0 G) (fun (x1 : Int32) =>
  if x1 = (-1 : Int32) then
  (rN .boolean (0 : Int32) n G)
  else (Option.bind (gR G v0 6 1) (fun (x2 : Nat) =>
  Option.bind (gR G x2 3 1) (fun (x3 : Nat) =>
  Option.bind (gI G v0 6 4) (fun (x4 : Int32) =>
  Option.bind (aS G x3 0 x4 x1) (fun (G5 : GH) =>
  Option.bind (gR G5 v0 6 0) (fun (x6 : Nat) =>
  cvU G5 x6 8 (f_X8_advance F x6 n G5) (fun (n7 : Nat) (G8 : GH) =>
  rN .boolean (1 : Int32) n7 G8))))))))
set_option maxRecDepth 100000 in
set_option maxHeartbeats 4000000 in
theorem s_X6_readAct {E : GE} {F : Nat}  {v0 : Nat} {n : Nat} {G : GH} {z : Int32 × Nat × GH}  (h : f_X6_readAct F  v0 n G = some z) : GM E yX6_readAct cX6_readAct 2 (some .boolean) 6 127 0 0 [.ref v0] n G (some (.int z.1), z.2.1, z.2.2) := by
  refine GM.of (by decide) (Nat.le_of_ble_eq_true rfl) ?_
  show WG E RX6 "readAct" cX6_readAct 2 (some .boolean) 6 127 0 0 0 [(0, .ref v0)] [] n G (g_O E (some (.int z.1), z.2.1, z.2.2))
  unfold f_X6_readAct at h
  refine r_aload d_X6_readAct_0 rfl ?_
  refine r_invP [] h (fun _ hq => s_X6_actOfToken hq) d_X6_readAct_1 pl_X6_100 py_X6_actOfToken pi_X6_actOfToken rfl rfl rfl (fun x1 h => ?_)
  refine r_istore d_X6_readAct_4 rfl rfl ?_
  refine r_iload d_X6_readAct_5 rfl ?_
  refine r_iconst d_X6_readAct_6 ic_m1 ?_
  refine r_icmp_ne h d_X6_readAct_7 (fun h => ?_) (fun h => ?_)
  · refine r_aload d_X6_readAct_12 rfl ?_
    refine r_getR h d_X6_readAct_13 pf_X6_12 (fun x2 h => ?_)
    refine r_getR h d_X6_readAct_16 pf_X6_104 (fun x3 h => ?_)
    refine r_aload d_X6_readAct_19 rfl ?_
    refine r_getI h d_X6_readAct_20 pf_X6_26 (fun x4 h => ?_)
    refine r_iload d_X6_readAct_23 rfl ?_
    refine r_iast h d_X6_readAct_24 (fun G5 h => ?_)
    refine r_aload d_X6_readAct_25 rfl ?_
    refine r_getR h d_X6_readAct_26 pf_X6_43 (fun x6 h => ?_)
    refine r_invU [] h (fun _ hq => s_X8_advance hq) d_X6_readAct_29 pl_X6_53 py_X8_advance pi_X8_advance rfl rfl rfl (fun n7 G8 h => ?_)
    refine r_iconst d_X6_readAct_32 ic_1 ?_
    exact r_zret h d_X6_readAct_33
  · refine r_iconst d_X6_readAct_10 ic_0 ?_
    exact r_zret h d_X6_readAct_11
/-! X6_readNumber -/
theorem py_X8_take : pY yX8_take cX8_take 2 (some .boolean) 1 := ⟨g_in 617 (by decide +kernel) rfl, g_in 106 (by decide +kernel) rfl, by decide, by decide, by decide +kernel⟩
theorem pi_X8_take : pI yX8_take 8 := ⟨g_in 615 (by decide +kernel) rfl, g_in 616 (by decide +kernel) rfl, (RX8, TX8, 6), rfl, rfl⟩
theorem pl_X6_93 : pL RX6 93 yX8_take := Or.inl (g_in 614 (by decide +kernel) rfl)
theorem pf_X6_56 : pF RX6 56 8 2 := ⟨RX8, TX8, 6, rfl, by decide, rfl, Or.inr ⟨"PlugBoard", g_in 462 (by decide +kernel) rfl⟩⟩
theorem pf_X6_121 : pF RX6 121 3 2 := ⟨RX3, TX3, 9, rfl, by decide, rfl, Or.inr ⟨"PlugBoard", g_in 186 (by decide +kernel) rfl⟩⟩
theorem pf_X6_124 : pF RX6 124 8 5 := ⟨RX8, TX8, 6, rfl, by decide, rfl, Or.inr ⟨"PlugBoard", g_in 467 (by decide +kernel) rfl⟩⟩
theorem d_X6_readNumber_0 : decAL cX6_readNumber 0 0 1 := Or.inr ⟨0, rfl, by decide +kernel, rfl⟩
theorem d_X6_readNumber_1 : dec 3 cX6_readNumber 1 (.getfield 43) 4 := ⟨by decide +kernel, rfl⟩
theorem d_X6_readNumber_4 : dec 1 cX6_readNumber 4 (.iconst 4) 5 := ⟨by decide +kernel, rfl⟩
theorem d_X6_readNumber_5 : dec 3 cX6_readNumber 5 (.invokevirtual 93) 8 := ⟨by decide +kernel, rfl⟩
theorem d_X6_readNumber_8 : decIS cX6_readNumber 8 1 9 := Or.inr ⟨1, rfl, by decide +kernel, rfl⟩
theorem d_X6_readNumber_9 : decAL cX6_readNumber 9 0 10 := Or.inr ⟨0, rfl, by decide +kernel, rfl⟩
theorem d_X6_readNumber_10 : dec 3 cX6_readNumber 10 (.getfield 43) 13 := ⟨by decide +kernel, rfl⟩
theorem d_X6_readNumber_13 : dec 3 cX6_readNumber 13 (.getfield 56) 16 := ⟨by decide +kernel, rfl⟩
theorem d_X6_readNumber_16 : dec 1 cX6_readNumber 16 (.iconst 2) 17 := ⟨by decide +kernel, rfl⟩
theorem d_X6_readNumber_17 : decB cX6_readNumber 17 (.if_icmp .eq 5) (5) 20 22 := ⟨by decide +kernel, rfl, by decide⟩
theorem d_X6_readNumber_20 : dec 1 cX6_readNumber 20 (.iconst 0) 21 := ⟨by decide +kernel, rfl⟩
theorem d_X6_readNumber_21 : dec 1 cX6_readNumber 21 .ireturn 22 := ⟨by decide +kernel, rfl⟩
theorem d_X6_readNumber_22 : decAL cX6_readNumber 22 0 23 := Or.inr ⟨0, rfl, by decide +kernel, rfl⟩
theorem d_X6_readNumber_23 : dec 3 cX6_readNumber 23 (.getfield 12) 26 := ⟨by decide +kernel, rfl⟩
theorem d_X6_readNumber_26 : dec 3 cX6_readNumber 26 (.getfield 121) 29 := ⟨by decide +kernel, rfl⟩
theorem d_X6_readNumber_29 : decAL cX6_readNumber 29 0 30 := Or.inr ⟨0, rfl, by decide +kernel, rfl⟩
theorem d_X6_readNumber_30 : dec 3 cX6_readNumber 30 (.getfield 26) 33 := ⟨by decide +kernel, rfl⟩
theorem d_X6_readNumber_33 : decIL cX6_readNumber 33 1 34 := Or.inr ⟨1, rfl, by decide +kernel, rfl⟩
theorem d_X6_readNumber_34 : decB cX6_readNumber 34 (.ifCond .eq 14) (14) 37 48 := ⟨by decide +kernel, rfl, by decide⟩
theorem d_X6_readNumber_37 : decAL cX6_readNumber 37 0 38 := Or.inr ⟨0, rfl, by decide +kernel, rfl⟩
theorem d_X6_readNumber_38 : dec 3 cX6_readNumber 38 (.getfield 43) 41 := ⟨by decide +kernel, rfl⟩
theorem d_X6_readNumber_41 : dec 3 cX6_readNumber 41 (.getfield 124) 44 := ⟨by decide +kernel, rfl⟩
theorem d_X6_readNumber_44 : dec 1 cX6_readNumber 44 .ineg 45 := ⟨by decide +kernel, rfl⟩
theorem d_X6_readNumber_45 : decB cX6_readNumber 45 (.goto 10) (10) 48 55 := ⟨by decide +kernel, rfl, by decide⟩
theorem d_X6_readNumber_48 : decAL cX6_readNumber 48 0 49 := Or.inr ⟨0, rfl, by decide +kernel, rfl⟩
theorem d_X6_readNumber_49 : dec 3 cX6_readNumber 49 (.getfield 43) 52 := ⟨by decide +kernel, rfl⟩
theorem d_X6_readNumber_52 : dec 3 cX6_readNumber 52 (.getfield 124) 55 := ⟨by decide +kernel, rfl⟩
theorem d_X6_readNumber_55 : dec 1 cX6_readNumber 55 .iastore 56 := ⟨by decide +kernel, rfl⟩
theorem d_X6_readNumber_56 : decAL cX6_readNumber 56 0 57 := Or.inr ⟨0, rfl, by decide +kernel, rfl⟩
theorem d_X6_readNumber_57 : dec 3 cX6_readNumber 57 (.getfield 43) 60 := ⟨by decide +kernel, rfl⟩
theorem d_X6_readNumber_60 : dec 3 cX6_readNumber 60 (.invokevirtual 53) 63 := ⟨by decide +kernel, rfl⟩
theorem d_X6_readNumber_63 : dec 1 cX6_readNumber 63 (.iconst 1) 64 := ⟨by decide +kernel, rfl⟩
theorem d_X6_readNumber_64 : dec 1 cX6_readNumber 64 .ireturn 65 := ⟨by decide +kernel, rfl⟩
def f_X6_readNumber (F : Nat)  (v0 : Nat) (n : Nat) (G : GH) : Option (Int32 × Nat × GH) :=
  Option.bind (gR G v0 6 0) (fun (x1 : Nat) =>
  cvI G x1 8 (f_X8_take F x1 (4 : Int32) n G) (fun (x4 : Int32) (n2 : Nat) (G3 : GH) =>
  Option.bind (gR G3 v0 6 0) (fun (x5 : Nat) =>
  Option.bind (gI G3 x5 8 2) (fun (x6 : Int32) =>
  if x6 = (2 : Int32) then
  (Option.bind (gR G3 v0 6 1) (fun (x7 : Nat) =>
  Option.bind (gR G3 x7 3 2) (fun (x8 : Nat) =>
  Option.bind (gI G3 v0 6 4) (fun (x9 : Int32) =>
  if x4 = 0 then
  (Option.bind (gR G3 v0 6 0) (fun (x10 : Nat) =>
  Option.bind (gI G3 x10 8 5) (fun (x11 : Int32) =>
  Option.bind (aS G3 x8 0 x9 x11) (fun (G12 : GH) =>
  Option.bind (gR G12 v0 6 0) (fun (x13 : Nat) =>
  cvU G12 x13 8 (f_X8_advance F x13 n2 G12) (fun (n14 : Nat) (G15 : GH) =>
  rN .boolean (1 : Int32) n14 G15))))))
  else (Option.bind (gR G3 v0 6 0) (fun (x16 : Nat) =>
  Option.bind (gI G3 x16 8 5) (fun (x17 : Int32) =>
  Option.bind (aS G3 x8 0 x9 (-x17)) (fun (G18 : GH) =>
  Option.bind (gR G18 v0 6 0) (fun (x19 : Nat) =>
  cvU G18 x19 8 (f_X8_advance F x19 n2 G18) (fun (n20 : Nat) (G21 : GH) =>
  rN .boolean (1 : Int32) n20 G21))))))))))
  else (rN .boolean (0 : Int32) n2 G3)))))
set_option maxRecDepth 100000 in
set_option maxHeartbeats 4000000 in
theorem s_X6_readNumber {E : GE} {F : Nat}  {v0 : Nat} {n : Nat} {G : GH} {z : Int32 × Nat × GH}  (h : f_X6_readNumber F  v0 n G = some z) : GM E yX6_readNumber cX6_readNumber 2 (some .boolean) 3 61 0 0 [.ref v0] n G (some (.int z.1), z.2.1, z.2.2) := by
  refine GM.of (by decide) (Nat.le_of_ble_eq_true rfl) ?_
  show WG E RX6 "readNumber" cX6_readNumber 2 (some .boolean) 3 61 0 0 0 [(0, .ref v0)] [] n G (g_O E (some (.int z.1), z.2.1, z.2.2))
  unfold f_X6_readNumber at h
  refine r_aload d_X6_readNumber_0 rfl ?_
  refine r_getR h d_X6_readNumber_1 pf_X6_43 (fun x1 h => ?_)
  refine r_iconst d_X6_readNumber_4 ic_4 ?_
  refine r_invI [_] h (fun _ hq => s_X8_take hq) d_X6_readNumber_5 pl_X6_93 py_X8_take pi_X8_take rfl rfl rfl (fun x4 n2 G3 h => ?_)
  refine r_istore d_X6_readNumber_8 rfl rfl ?_
  refine r_aload d_X6_readNumber_9 rfl ?_
  refine r_getR h d_X6_readNumber_10 pf_X6_43 (fun x5 h => ?_)
  refine r_getI h d_X6_readNumber_13 pf_X6_56 (fun x6 h => ?_)
  refine r_iconst d_X6_readNumber_16 ic_2 ?_
  refine r_icmp_eq h d_X6_readNumber_17 (fun h => ?_) (fun h => ?_)
  · refine r_aload d_X6_readNumber_22 rfl ?_
    refine r_getR h d_X6_readNumber_23 pf_X6_12 (fun x7 h => ?_)
    refine r_getR h d_X6_readNumber_26 pf_X6_121 (fun x8 h => ?_)
    refine r_aload d_X6_readNumber_29 rfl ?_
    refine r_getI h d_X6_readNumber_30 pf_X6_26 (fun x9 h => ?_)
    refine r_iload d_X6_readNumber_33 rfl ?_
    refine r_if_eq h d_X6_readNumber_34 (fun h => ?_) (fun h => ?_)
    · refine r_aload d_X6_readNumber_48 rfl ?_
      refine r_getR h d_X6_readNumber_49 pf_X6_43 (fun x10 h => ?_)
      refine r_getI h d_X6_readNumber_52 pf_X6_124 (fun x11 h => ?_)
      refine r_iast h d_X6_readNumber_55 (fun G12 h => ?_)
      refine r_aload d_X6_readNumber_56 rfl ?_
      refine r_getR h d_X6_readNumber_57 pf_X6_43 (fun x13 h => ?_)
      refine r_invU [] h (fun _ hq => s_X8_advance hq) d_X6_readNumber_60 pl_X6_53 py_X8_advance pi_X8_advance rfl rfl rfl (fun n14 G15 h => ?_)
      refine r_iconst d_X6_readNumber_63 ic_1 ?_
      exact r_zret h d_X6_readNumber_64
    · refine r_aload d_X6_readNumber_37 rfl ?_
      refine r_getR h d_X6_readNumber_38 pf_X6_43 (fun x16 h => ?_)
      refine r_getI h d_X6_readNumber_41 pf_X6_124 (fun x17 h => ?_)
      refine r_ineg d_X6_readNumber_44 ?_
      refine r_goto d_X6_readNumber_45 ?_
      refine r_iast h d_X6_readNumber_55 (fun G18 h => ?_)
      refine r_aload d_X6_readNumber_56 rfl ?_
      refine r_getR h d_X6_readNumber_57 pf_X6_43 (fun x19 h => ?_)
      refine r_invU [] h (fun _ hq => s_X8_advance hq) d_X6_readNumber_60 pl_X6_53 py_X8_advance pi_X8_advance rfl rfl rfl (fun n20 G21 h => ?_)
      refine r_iconst d_X6_readNumber_63 ic_1 ?_
      exact r_zret h d_X6_readNumber_64
  · refine r_iconst d_X6_readNumber_20 ic_0 ?_
    exact r_zret h d_X6_readNumber_21
/-! X6_readSpan -/
theorem pf_X6_155 : pF RX6 155 3 3 := ⟨RX3, TX3, 9, rfl, by decide, rfl, Or.inr ⟨"PlugBoard", g_in 190 (by decide +kernel) rfl⟩⟩
theorem d_X6_readSpan_0 : decAL cX6_readSpan 0 0 1 := Or.inr ⟨0, rfl, by decide +kernel, rfl⟩
theorem d_X6_readSpan_1 : dec 3 cX6_readSpan 1 (.getfield 43) 4 := ⟨by decide +kernel, rfl⟩
theorem d_X6_readSpan_4 : dec 2 cX6_readSpan 4 (.ldc 149) 6 := ⟨by decide +kernel, rfl⟩
theorem d_X6_readSpan_6 : dec 3 cX6_readSpan 6 (.invokevirtual 109) 9 := ⟨by decide +kernel, rfl⟩
theorem d_X6_readSpan_9 : decB cX6_readSpan 9 (.ifCond .eq 7) (7) 12 16 := ⟨by decide +kernel, rfl, by decide⟩
theorem d_X6_readSpan_12 : dec 1 cX6_readSpan 12 (.iconst 0) 13 := ⟨by decide +kernel, rfl⟩
theorem d_X6_readSpan_13 : decB cX6_readSpan 13 (.goto 36) (36) 16 49 := ⟨by decide +kernel, rfl, by decide⟩
theorem d_X6_readSpan_16 : decAL cX6_readSpan 16 0 17 := Or.inr ⟨0, rfl, by decide +kernel, rfl⟩
theorem d_X6_readSpan_17 : dec 3 cX6_readSpan 17 (.getfield 43) 20 := ⟨by decide +kernel, rfl⟩
theorem d_X6_readSpan_20 : dec 2 cX6_readSpan 20 (.ldc 151) 22 := ⟨by decide +kernel, rfl⟩
theorem d_X6_readSpan_22 : dec 3 cX6_readSpan 22 (.invokevirtual 109) 25 := ⟨by decide +kernel, rfl⟩
theorem d_X6_readSpan_25 : decB cX6_readSpan 25 (.ifCond .eq 7) (7) 28 32 := ⟨by decide +kernel, rfl, by decide⟩
theorem d_X6_readSpan_28 : dec 1 cX6_readSpan 28 (.iconst 1) 29 := ⟨by decide +kernel, rfl⟩
theorem d_X6_readSpan_29 : decB cX6_readSpan 29 (.goto 20) (20) 32 49 := ⟨by decide +kernel, rfl, by decide⟩
theorem d_X6_readSpan_32 : decAL cX6_readSpan 32 0 33 := Or.inr ⟨0, rfl, by decide +kernel, rfl⟩
theorem d_X6_readSpan_33 : dec 3 cX6_readSpan 33 (.getfield 43) 36 := ⟨by decide +kernel, rfl⟩
theorem d_X6_readSpan_36 : dec 2 cX6_readSpan 36 (.ldc 153) 38 := ⟨by decide +kernel, rfl⟩
theorem d_X6_readSpan_38 : dec 3 cX6_readSpan 38 (.invokevirtual 109) 41 := ⟨by decide +kernel, rfl⟩
theorem d_X6_readSpan_41 : decB cX6_readSpan 41 (.ifCond .eq 7) (7) 44 48 := ⟨by decide +kernel, rfl, by decide⟩
theorem d_X6_readSpan_44 : dec 1 cX6_readSpan 44 (.iconst 2) 45 := ⟨by decide +kernel, rfl⟩
theorem d_X6_readSpan_45 : decB cX6_readSpan 45 (.goto 4) (4) 48 49 := ⟨by decide +kernel, rfl, by decide⟩
theorem d_X6_readSpan_48 : dec 1 cX6_readSpan 48 (.iconst (-1)) 49 := ⟨by decide +kernel, rfl⟩
theorem d_X6_readSpan_49 : decIS cX6_readSpan 49 1 50 := Or.inr ⟨1, rfl, by decide +kernel, rfl⟩
theorem d_X6_readSpan_50 : decIL cX6_readSpan 50 1 51 := Or.inr ⟨1, rfl, by decide +kernel, rfl⟩
theorem d_X6_readSpan_51 : dec 1 cX6_readSpan 51 (.iconst (-1)) 52 := ⟨by decide +kernel, rfl⟩
theorem d_X6_readSpan_52 : decB cX6_readSpan 52 (.if_icmp .ne 5) (5) 55 57 := ⟨by decide +kernel, rfl, by decide⟩
theorem d_X6_readSpan_55 : dec 1 cX6_readSpan 55 (.iconst 0) 56 := ⟨by decide +kernel, rfl⟩
theorem d_X6_readSpan_56 : dec 1 cX6_readSpan 56 .ireturn 57 := ⟨by decide +kernel, rfl⟩
theorem d_X6_readSpan_57 : decAL cX6_readSpan 57 0 58 := Or.inr ⟨0, rfl, by decide +kernel, rfl⟩
theorem d_X6_readSpan_58 : dec 3 cX6_readSpan 58 (.getfield 12) 61 := ⟨by decide +kernel, rfl⟩
theorem d_X6_readSpan_61 : dec 3 cX6_readSpan 61 (.getfield 155) 64 := ⟨by decide +kernel, rfl⟩
theorem d_X6_readSpan_64 : decAL cX6_readSpan 64 0 65 := Or.inr ⟨0, rfl, by decide +kernel, rfl⟩
theorem d_X6_readSpan_65 : dec 3 cX6_readSpan 65 (.getfield 26) 68 := ⟨by decide +kernel, rfl⟩
theorem d_X6_readSpan_68 : decIL cX6_readSpan 68 1 69 := Or.inr ⟨1, rfl, by decide +kernel, rfl⟩
theorem d_X6_readSpan_69 : dec 1 cX6_readSpan 69 .iastore 70 := ⟨by decide +kernel, rfl⟩
theorem d_X6_readSpan_70 : decAL cX6_readSpan 70 0 71 := Or.inr ⟨0, rfl, by decide +kernel, rfl⟩
theorem d_X6_readSpan_71 : dec 3 cX6_readSpan 71 (.getfield 43) 74 := ⟨by decide +kernel, rfl⟩
theorem d_X6_readSpan_74 : dec 3 cX6_readSpan 74 (.invokevirtual 53) 77 := ⟨by decide +kernel, rfl⟩
theorem d_X6_readSpan_77 : dec 1 cX6_readSpan 77 (.iconst 1) 78 := ⟨by decide +kernel, rfl⟩
theorem d_X6_readSpan_78 : dec 1 cX6_readSpan 78 .ireturn 79 := ⟨by decide +kernel, rfl⟩
def k_X6_readSpan_49 (F : Nat)   (v0 : Nat) (s0 : Int32) (n : Nat) (G : GH) : Option (Int32 × Nat × GH) :=
  if s0 = (-1 : Int32) then
  (rN .boolean (0 : Int32) n G)
  else (Option.bind (gR G v0 6 1) (fun (x7 : Nat) =>
  Option.bind (gR G x7 3 3) (fun (x8 : Nat) =>
  Option.bind (gI G v0 6 4) (fun (x9 : Int32) =>
  Option.bind (aS G x8 0 x9 s0) (fun (G10 : GH) =>
  Option.bind (gR G10 v0 6 0) (fun (x11 : Nat) =>
  cvU G10 x11 8 (f_X8_advance F x11 n G10) (fun (n12 : Nat) (G13 : GH) =>
  rN .boolean (1 : Int32) n12 G13)))))))
def f_X6_readSpan (F : Nat)  (v0 : Nat) (n : Nat) (G : GH) : Option (Int32 × Nat × GH) :=
  Option.bind (gR G v0 6 0) (fun (x1 : Nat) =>
  cvP G x1 8 (f_X8_isWord F x1 (12) G) (fun (x2 : Int32) =>
  if x2 = 0 then
  (Option.bind (gR G v0 6 0) (fun (x3 : Nat) =>
  cvP G x3 8 (f_X8_isWord F x3 (13) G) (fun (x4 : Int32) =>
  if x4 = 0 then
  (Option.bind (gR G v0 6 0) (fun (x5 : Nat) =>
  cvP G x5 8 (f_X8_isWord F x5 (14) G) (fun (x6 : Int32) =>
  if x6 = 0 then
  (k_X6_readSpan_49 F   v0 (-1 : Int32) n G)
  else (k_X6_readSpan_49 F   v0 (2 : Int32) n G))))
  else (k_X6_readSpan_49 F   v0 (1 : Int32) n G))))
  else (k_X6_readSpan_49 F   v0 (0 : Int32) n G)))
set_option maxRecDepth 100000 in
set_option maxHeartbeats 4000000 in
theorem c_X6_readSpan_49 {E : GE} {F : Nat}   {v0 : Nat} {s0 : Int32} {n : Nat} {G : GH} {z : Int32 × Nat × GH}   (h : k_X6_readSpan_49 F   v0 s0 n G = some z) : WG E RX6 "readSpan" cX6_readSpan 2 (some .boolean) 5 107 0 0 49 [(0, .ref v0)] [.int s0] n G (g_O E (some (.int z.1), z.2.1, z.2.2)) := by
  unfold k_X6_readSpan_49 at h
  refine r_istore d_X6_readSpan_49 rfl rfl ?_
  refine r_iload d_X6_readSpan_50 rfl ?_
  refine r_iconst d_X6_readSpan_51 ic_m1 ?_
  refine r_icmp_ne h d_X6_readSpan_52 (fun h => ?_) (fun h => ?_)
  · refine r_aload d_X6_readSpan_57 rfl ?_
    refine r_getR h d_X6_readSpan_58 pf_X6_12 (fun x7 h => ?_)
    refine r_getR h d_X6_readSpan_61 pf_X6_155 (fun x8 h => ?_)
    refine r_aload d_X6_readSpan_64 rfl ?_
    refine r_getI h d_X6_readSpan_65 pf_X6_26 (fun x9 h => ?_)
    refine r_iload d_X6_readSpan_68 rfl ?_
    refine r_iast h d_X6_readSpan_69 (fun G10 h => ?_)
    refine r_aload d_X6_readSpan_70 rfl ?_
    refine r_getR h d_X6_readSpan_71 pf_X6_43 (fun x11 h => ?_)
    refine r_invU [] h (fun _ hq => s_X8_advance hq) d_X6_readSpan_74 pl_X6_53 py_X8_advance pi_X8_advance rfl rfl rfl (fun n12 G13 h => ?_)
    refine r_iconst d_X6_readSpan_77 ic_1 ?_
    exact r_zret h d_X6_readSpan_78
  · refine r_iconst d_X6_readSpan_55 ic_0 ?_
    exact r_zret h d_X6_readSpan_56
set_option maxRecDepth 100000 in
set_option maxHeartbeats 4000000 in
theorem s_X6_readSpan {E : GE} {F : Nat}  {v0 : Nat} {n : Nat} {G : GH} {z : Int32 × Nat × GH}  (h : f_X6_readSpan F  v0 n G = some z) : GM E yX6_readSpan cX6_readSpan 2 (some .boolean) 5 107 0 0 [.ref v0] n G (some (.int z.1), z.2.1, z.2.2) := by
  refine GM.of (by decide) (Nat.le_of_ble_eq_true rfl) ?_
  show WG E RX6 "readSpan" cX6_readSpan 2 (some .boolean) 5 107 0 0 0 [(0, .ref v0)] [] n G (g_O E (some (.int z.1), z.2.1, z.2.2))
  unfold f_X6_readSpan at h
  refine r_aload d_X6_readSpan_0 rfl ?_
  refine r_getR h d_X6_readSpan_1 pf_X6_43 (fun x1 h => ?_)
  refine r_ldcS 12 rfl d_X6_readSpan_4 ?_
  refine r_invP [_] h (fun _ hq => s_X8_isWord hq) d_X6_readSpan_6 pl_X6_109 py_X8_isWord pi_X8_isWord rfl rfl rfl (fun x2 h => ?_)
  refine r_if_eq h d_X6_readSpan_9 (fun h => ?_) (fun h => ?_)
  · refine r_aload d_X6_readSpan_16 rfl ?_
    refine r_getR h d_X6_readSpan_17 pf_X6_43 (fun x3 h => ?_)
    refine r_ldcS 13 rfl d_X6_readSpan_20 ?_
    refine r_invP [_] h (fun _ hq => s_X8_isWord hq) d_X6_readSpan_22 pl_X6_109 py_X8_isWord pi_X8_isWord rfl rfl rfl (fun x4 h => ?_)
    refine r_if_eq h d_X6_readSpan_25 (fun h => ?_) (fun h => ?_)
    · refine r_aload d_X6_readSpan_32 rfl ?_
      refine r_getR h d_X6_readSpan_33 pf_X6_43 (fun x5 h => ?_)
      refine r_ldcS 14 rfl d_X6_readSpan_36 ?_
      refine r_invP [_] h (fun _ hq => s_X8_isWord hq) d_X6_readSpan_38 pl_X6_109 py_X8_isWord pi_X8_isWord rfl rfl rfl (fun x6 h => ?_)
      refine r_if_eq h d_X6_readSpan_41 (fun h => ?_) (fun h => ?_)
      · refine r_iconst d_X6_readSpan_48 ic_m1 ?_
        refine r_lv [(0, .ref v0)] (g_allc rfl g_alln) ?_
        exact c_X6_readSpan_49   h
      · refine r_iconst d_X6_readSpan_44 ic_2 ?_
        refine r_goto d_X6_readSpan_45 ?_
        refine r_lv [(0, .ref v0)] (g_allc rfl g_alln) ?_
        exact c_X6_readSpan_49   h
    · refine r_iconst d_X6_readSpan_28 ic_1 ?_
      refine r_goto d_X6_readSpan_29 ?_
      refine r_lv [(0, .ref v0)] (g_allc rfl g_alln) ?_
      exact c_X6_readSpan_49   h
  · refine r_iconst d_X6_readSpan_12 ic_0 ?_
    refine r_goto d_X6_readSpan_13 ?_
    refine r_lv [(0, .ref v0)] (g_allc rfl g_alln) ?_
    exact c_X6_readSpan_49   h
/-! X6_addNeed -/
theorem pf_X6_63 : pF RX6 63 8 3 := ⟨RX8, TX8, 6, rfl, by decide, rfl, Or.inr ⟨"PlugBoard", g_in 464 (by decide +kernel) rfl⟩⟩
theorem py_X6_note : pY yX6_note cX6_note 3 none 2 := ⟨g_in 591 (by decide +kernel) rfl, g_in 105 (by decide +kernel) rfl, by decide, by decide, by decide +kernel⟩
theorem pi_X6_note : pI yX6_note 6 := ⟨g_in 590 (by decide +kernel) rfl, g_in 3 (by decide +kernel) rfl, (RX6, TX6, 8), rfl, rfl⟩
theorem pl_X6_83 : pL RX6 83 yX6_note := Or.inl (g_in 588 (by decide +kernel) rfl)
theorem pf_X6_29 : pF RX6 29 6 5 := ⟨RX6, TX6, 8, rfl, by decide, rfl, Or.inl (g_in 488 (by decide +kernel) rfl)⟩
theorem py_X3_addNeed : pY yX3_addNeed cX3_addNeed 5 none 3 := ⟨g_in 642 (by decide +kernel) rfl, g_in 97 (by decide +kernel) rfl, by decide, by decide, by decide +kernel⟩
theorem pi_X3_addNeed : pI yX3_addNeed 3 := ⟨g_in 640 (by decide +kernel) rfl, g_in 641 (by decide +kernel) rfl, (RX3, TX3, 9), rfl, rfl⟩
theorem pl_X6_161 : pL RX6 161 yX3_addNeed := Or.inl (g_in 639 (by decide +kernel) rfl)
theorem d_X6_addNeed_0 : decAL cX6_addNeed 0 0 1 := Or.inr ⟨0, rfl, by decide +kernel, rfl⟩
theorem d_X6_addNeed_1 : dec 3 cX6_addNeed 1 (.getfield 43) 4 := ⟨by decide +kernel, rfl⟩
theorem d_X6_addNeed_4 : dec 3 cX6_addNeed 4 (.getfield 124) 7 := ⟨by decide +kernel, rfl⟩
theorem d_X6_addNeed_7 : decIS cX6_addNeed 7 2 8 := Or.inr ⟨2, rfl, by decide +kernel, rfl⟩
theorem d_X6_addNeed_8 : decIL cX6_addNeed 8 2 9 := Or.inr ⟨2, rfl, by decide +kernel, rfl⟩
theorem d_X6_addNeed_9 : decB cX6_addNeed 9 (.ifCond .lt 9) (9) 12 18 := ⟨by decide +kernel, rfl, by decide⟩
theorem d_X6_addNeed_12 : decIL cX6_addNeed 12 2 13 := Or.inr ⟨2, rfl, by decide +kernel, rfl⟩
theorem d_X6_addNeed_13 : dec 2 cX6_addNeed 13 (.bipush 12) 15 := ⟨by decide +kernel, rfl⟩
theorem d_X6_addNeed_15 : decB cX6_addNeed 15 (.if_icmp .lt 18) (18) 18 33 := ⟨by decide +kernel, rfl, by decide⟩
theorem d_X6_addNeed_18 : decAL cX6_addNeed 18 0 19 := Or.inr ⟨0, rfl, by decide +kernel, rfl⟩
theorem d_X6_addNeed_19 : dec 1 cX6_addNeed 19 (.iconst 2) 20 := ⟨by decide +kernel, rfl⟩
theorem d_X6_addNeed_20 : decAL cX6_addNeed 20 0 21 := Or.inr ⟨0, rfl, by decide +kernel, rfl⟩
theorem d_X6_addNeed_21 : dec 3 cX6_addNeed 21 (.getfield 43) 24 := ⟨by decide +kernel, rfl⟩
theorem d_X6_addNeed_24 : dec 3 cX6_addNeed 24 (.getfield 63) 27 := ⟨by decide +kernel, rfl⟩
theorem d_X6_addNeed_27 : dec 3 cX6_addNeed 27 (.invokevirtual 83) 30 := ⟨by decide +kernel, rfl⟩
theorem d_X6_addNeed_30 : decB cX6_addNeed 30 (.goto 26) (26) 33 56 := ⟨by decide +kernel, rfl, by decide⟩
theorem d_X6_addNeed_33 : decAL cX6_addNeed 33 0 34 := Or.inr ⟨0, rfl, by decide +kernel, rfl⟩
theorem d_X6_addNeed_34 : dec 3 cX6_addNeed 34 (.getfield 18) 37 := ⟨by decide +kernel, rfl⟩
theorem d_X6_addNeed_37 : decIL cX6_addNeed 37 2 38 := Or.inr ⟨2, rfl, by decide +kernel, rfl⟩
theorem d_X6_addNeed_38 : dec 1 cX6_addNeed 38 .iaload 39 := ⟨by decide +kernel, rfl⟩
theorem d_X6_addNeed_39 : dec 1 cX6_addNeed 39 (.iconst (-1)) 40 := ⟨by decide +kernel, rfl⟩
theorem d_X6_addNeed_40 : decB cX6_addNeed 40 (.if_icmp .ne 16) (16) 43 56 := ⟨by decide +kernel, rfl, by decide⟩
theorem d_X6_addNeed_43 : decAL cX6_addNeed 43 0 44 := Or.inr ⟨0, rfl, by decide +kernel, rfl⟩
theorem d_X6_addNeed_44 : dec 3 cX6_addNeed 44 (.getfield 18) 47 := ⟨by decide +kernel, rfl⟩
theorem d_X6_addNeed_47 : decIL cX6_addNeed 47 2 48 := Or.inr ⟨2, rfl, by decide +kernel, rfl⟩
theorem d_X6_addNeed_48 : decAL cX6_addNeed 48 0 49 := Or.inr ⟨0, rfl, by decide +kernel, rfl⟩
theorem d_X6_addNeed_49 : dec 3 cX6_addNeed 49 (.getfield 43) 52 := ⟨by decide +kernel, rfl⟩
theorem d_X6_addNeed_52 : dec 3 cX6_addNeed 52 (.getfield 63) 55 := ⟨by decide +kernel, rfl⟩
theorem d_X6_addNeed_55 : dec 1 cX6_addNeed 55 .iastore 56 := ⟨by decide +kernel, rfl⟩
theorem d_X6_addNeed_56 : decAL cX6_addNeed 56 0 57 := Or.inr ⟨0, rfl, by decide +kernel, rfl⟩
theorem d_X6_addNeed_57 : dec 3 cX6_addNeed 57 (.getfield 29) 60 := ⟨by decide +kernel, rfl⟩
theorem d_X6_addNeed_60 : dec 1 cX6_addNeed 60 (.iconst 4) 61 := ⟨by decide +kernel, rfl⟩
theorem d_X6_addNeed_61 : decB cX6_addNeed 61 (.if_icmp .lt 18) (18) 64 79 := ⟨by decide +kernel, rfl, by decide⟩
theorem d_X6_addNeed_64 : decAL cX6_addNeed 64 0 65 := Or.inr ⟨0, rfl, by decide +kernel, rfl⟩
theorem d_X6_addNeed_65 : dec 1 cX6_addNeed 65 (.iconst 3) 66 := ⟨by decide +kernel, rfl⟩
theorem d_X6_addNeed_66 : decAL cX6_addNeed 66 0 67 := Or.inr ⟨0, rfl, by decide +kernel, rfl⟩
theorem d_X6_addNeed_67 : dec 3 cX6_addNeed 67 (.getfield 43) 70 := ⟨by decide +kernel, rfl⟩
theorem d_X6_addNeed_70 : dec 3 cX6_addNeed 70 (.getfield 63) 73 := ⟨by decide +kernel, rfl⟩
theorem d_X6_addNeed_73 : dec 3 cX6_addNeed 73 (.invokevirtual 83) 76 := ⟨by decide +kernel, rfl⟩
theorem d_X6_addNeed_76 : decB cX6_addNeed 76 (.goto 16) (16) 79 92 := ⟨by decide +kernel, rfl, by decide⟩
theorem d_X6_addNeed_79 : decAL cX6_addNeed 79 0 80 := Or.inr ⟨0, rfl, by decide +kernel, rfl⟩
theorem d_X6_addNeed_80 : dec 3 cX6_addNeed 80 (.getfield 12) 83 := ⟨by decide +kernel, rfl⟩
theorem d_X6_addNeed_83 : decAL cX6_addNeed 83 0 84 := Or.inr ⟨0, rfl, by decide +kernel, rfl⟩
theorem d_X6_addNeed_84 : dec 3 cX6_addNeed 84 (.getfield 26) 87 := ⟨by decide +kernel, rfl⟩
theorem d_X6_addNeed_87 : decIL cX6_addNeed 87 2 88 := Or.inr ⟨2, rfl, by decide +kernel, rfl⟩
theorem d_X6_addNeed_88 : decIL cX6_addNeed 88 1 89 := Or.inr ⟨1, rfl, by decide +kernel, rfl⟩
theorem d_X6_addNeed_89 : dec 3 cX6_addNeed 89 (.invokevirtual 161) 92 := ⟨by decide +kernel, rfl⟩
theorem d_X6_addNeed_92 : decAL cX6_addNeed 92 0 93 := Or.inr ⟨0, rfl, by decide +kernel, rfl⟩
theorem d_X6_addNeed_93 : dec 1 cX6_addNeed 93 .dup 94 := ⟨by decide +kernel, rfl⟩
theorem d_X6_addNeed_94 : dec 3 cX6_addNeed 94 (.getfield 29) 97 := ⟨by decide +kernel, rfl⟩
theorem d_X6_addNeed_97 : dec 1 cX6_addNeed 97 (.iconst 1) 98 := ⟨by decide +kernel, rfl⟩
theorem d_X6_addNeed_98 : dec 1 cX6_addNeed 98 .iadd 99 := ⟨by decide +kernel, rfl⟩
theorem d_X6_addNeed_99 : dec 3 cX6_addNeed 99 (.putfield 29) 102 := ⟨by decide +kernel, rfl⟩
theorem d_X6_addNeed_102 : dec 1 cX6_addNeed 102 .return_ 103 := ⟨by decide +kernel, rfl⟩
def k_X6_addNeed_92 (F : Nat)   (v0 : Nat)  (n : Nat) (G : GH) : Option (Nat × GH) :=
  Option.bind (gI G v0 6 5) (fun (x12 : Int32) =>
  Option.bind (pV G v0 6 5 (.int (x12 + (1 : Int32)))) (fun (G13 : GH) =>
  some (n, G13)))
def k_X6_addNeed_56 (F : Nat)   (v0 : Nat) (v1 : Int32) (v2 : Int32)  (n : Nat) (G : GH) : Option (Nat × GH) :=
  Option.bind (gI G v0 6 5) (fun (x7 : Int32) =>
  if x7 < (4 : Int32) then
  (Option.bind (gR G v0 6 1) (fun (x8 : Nat) =>
  Option.bind (gI G v0 6 4) (fun (x9 : Int32) =>
  cvU G x8 3 (f_X3_addNeed F x8 x9 v2 v1 n G) (fun (n10 : Nat) (G11 : GH) =>
  k_X6_addNeed_92 F   v0 n10 G11))))
  else (Option.bind (gR G v0 6 0) (fun (x14 : Nat) =>
  Option.bind (gI G x14 8 3) (fun (x15 : Int32) =>
  cvU G v0 6 (f_X6_note F v0 (3 : Int32) x15 n G) (fun (n16 : Nat) (G17 : GH) =>
  k_X6_addNeed_92 F   v0 n16 G17)))))
def k_X6_addNeed_18 (F : Nat)   (v0 : Nat) (v1 : Int32) (v2 : Int32)  (n : Nat) (G : GH) : Option (Nat × GH) :=
  Option.bind (gR G v0 6 0) (fun (x3 : Nat) =>
  Option.bind (gI G x3 8 3) (fun (x4 : Int32) =>
  cvU G v0 6 (f_X6_note F v0 (2 : Int32) x4 n G) (fun (n5 : Nat) (G6 : GH) =>
  k_X6_addNeed_56 F   v0 v1 v2 n5 G6)))
def f_X6_addNeed (F : Nat)  (v0 : Nat) (v1 : Int32) (n : Nat) (G : GH) : Option (Nat × GH) :=
  Option.bind (gR G v0 6 0) (fun (x1 : Nat) =>
  Option.bind (gI G x1 8 5) (fun (x2 : Int32) =>
  if x2 < 0 then
  (k_X6_addNeed_18 F   v0 v1 x2 n G)
  else (if x2 < (12 : Int32) then
  (Option.bind (gR G v0 6 2) (fun (x18 : Nat) =>
  Option.bind (aI G x18 0 x2) (fun (x19 : Int32) =>
  if x19 = (-1 : Int32) then
  (Option.bind (gR G v0 6 2) (fun (x20 : Nat) =>
  Option.bind (gR G v0 6 0) (fun (x21 : Nat) =>
  Option.bind (gI G x21 8 3) (fun (x22 : Int32) =>
  Option.bind (aS G x20 0 x2 x22) (fun (G23 : GH) =>
  k_X6_addNeed_56 F   v0 v1 x2 n G23)))))
  else (k_X6_addNeed_56 F   v0 v1 x2 n G))))
  else (k_X6_addNeed_18 F   v0 v1 x2 n G))))
set_option maxRecDepth 100000 in
set_option maxHeartbeats 4000000 in
theorem c_X6_addNeed_92 {E : GE} {F : Nat}   {v0 : Nat}  {n : Nat} {G : GH} {z : Nat × GH}   (h : k_X6_addNeed_92 F   v0  n G = some z) : WG E RX6 "addNeed" cX6_addNeed 3 none 1 24 0 0 92 [(0, .ref v0)] [] n G (g_O E (none, z.1, z.2)) := by
  unfold k_X6_addNeed_92 at h
  refine r_aload d_X6_addNeed_92 rfl ?_
  refine r_dup d_X6_addNeed_93 rfl ?_
  refine r_getI h d_X6_addNeed_94 pf_X6_29 (fun x12 h => ?_)
  refine r_iconst d_X6_addNeed_97 ic_1 ?_
  refine r_iadd d_X6_addNeed_98 ?_
  refine r_put h d_X6_addNeed_99 pw_X6_29 rfl rfl (fun G13 h => ?_)
  exact r_vret h d_X6_addNeed_102
set_option maxRecDepth 100000 in
set_option maxHeartbeats 4000000 in
theorem c_X6_addNeed_56 {E : GE} {F : Nat}   {v0 : Nat} {v1 : Int32} {v2 : Int32}  {n : Nat} {G : GH} {z : Nat × GH}   (h : k_X6_addNeed_56 F   v0 v1 v2  n G = some z) : WG E RX6 "addNeed" cX6_addNeed 3 none 1 24 0 0 56 [(0, .ref v0), (1, .int v1), (2, .int v2)] [] n G (g_O E (none, z.1, z.2)) := by
  unfold k_X6_addNeed_56 at h
  refine r_aload d_X6_addNeed_56 rfl ?_
  refine r_getI h d_X6_addNeed_57 pf_X6_29 (fun x7 h => ?_)
  refine r_iconst d_X6_addNeed_60 ic_4 ?_
  refine r_icmp_lt h d_X6_addNeed_61 (fun h => ?_) (fun h => ?_)
  · refine r_aload d_X6_addNeed_79 rfl ?_
    refine r_getR h d_X6_addNeed_80 pf_X6_12 (fun x8 h => ?_)
    refine r_aload d_X6_addNeed_83 rfl ?_
    refine r_getI h d_X6_addNeed_84 pf_X6_26 (fun x9 h => ?_)
    refine r_iload d_X6_addNeed_87 rfl ?_
    refine r_iload d_X6_addNeed_88 rfl ?_
    refine r_invU [_, _, _] h (fun _ hq => s_X3_addNeed hq) d_X6_addNeed_89 pl_X6_161 py_X3_addNeed pi_X3_addNeed rfl rfl rfl (fun n10 G11 h => ?_)
    refine r_lv [(0, .ref v0)] (g_allc rfl g_alln) ?_
    exact c_X6_addNeed_92   h
  · refine r_aload d_X6_addNeed_64 rfl ?_
    refine r_iconst d_X6_addNeed_65 ic_3 ?_
    refine r_aload d_X6_addNeed_66 rfl ?_
    refine r_getR h d_X6_addNeed_67 pf_X6_43 (fun x14 h => ?_)
    refine r_getI h d_X6_addNeed_70 pf_X6_63 (fun x15 h => ?_)
    refine r_invU [_, _] h (fun _ hq => s_X6_note hq) d_X6_addNeed_73 pl_X6_83 py_X6_note pi_X6_note rfl rfl rfl (fun n16 G17 h => ?_)
    refine r_goto d_X6_addNeed_76 ?_
    refine r_lv [(0, .ref v0)] (g_allc rfl g_alln) ?_
    exact c_X6_addNeed_92   h
set_option maxRecDepth 100000 in
set_option maxHeartbeats 4000000 in
theorem c_X6_addNeed_18 {E : GE} {F : Nat}   {v0 : Nat} {v1 : Int32} {v2 : Int32}  {n : Nat} {G : GH} {z : Nat × GH}   (h : k_X6_addNeed_18 F   v0 v1 v2  n G = some z) : WG E RX6 "addNeed" cX6_addNeed 3 none 1 24 0 0 18 [(0, .ref v0), (1, .int v1), (2, .int v2)] [] n G (g_O E (none, z.1, z.2)) := by
  unfold k_X6_addNeed_18 at h
  refine r_aload d_X6_addNeed_18 rfl ?_
  refine r_iconst d_X6_addNeed_19 ic_2 ?_
  refine r_aload d_X6_addNeed_20 rfl ?_
  refine r_getR h d_X6_addNeed_21 pf_X6_43 (fun x3 h => ?_)
  refine r_getI h d_X6_addNeed_24 pf_X6_63 (fun x4 h => ?_)
  refine r_invU [_, _] h (fun _ hq => s_X6_note hq) d_X6_addNeed_27 pl_X6_83 py_X6_note pi_X6_note rfl rfl rfl (fun n5 G6 h => ?_)
  refine r_goto d_X6_addNeed_30 ?_
  refine r_lv [(0, .ref v0), (1, .int v1), (2, .int v2)] (g_allc rfl (g_allc rfl (g_allc rfl g_alln))) ?_
  exact c_X6_addNeed_56   h
set_option maxRecDepth 100000 in
set_option maxHeartbeats 4000000 in
theorem s_X6_addNeed {E : GE} {F : Nat}  {v0 : Nat} {v1 : Int32} {n : Nat} {G : GH} {z : Nat × GH}  (h : f_X6_addNeed F  v0 v1 n G = some z) : GM E yX6_addNeed cX6_addNeed 3 none 1 24 0 0 [.ref v0, .int v1] n G (none, z.1, z.2) := by
  refine GM.of (by decide) (Nat.le_of_ble_eq_true rfl) ?_
  show WG E RX6 "addNeed" cX6_addNeed 3 none 1 24 0 0 0 [(0, .ref v0), (1, .int v1)] [] n G (g_O E (none, z.1, z.2))
  unfold f_X6_addNeed at h
  refine r_aload d_X6_addNeed_0 rfl ?_
  refine r_getR h d_X6_addNeed_1 pf_X6_43 (fun x1 h => ?_)
  refine r_getI h d_X6_addNeed_4 pf_X6_124 (fun x2 h => ?_)
  refine r_istore d_X6_addNeed_7 rfl rfl ?_
  refine r_iload d_X6_addNeed_8 rfl ?_
  refine r_if_lt h d_X6_addNeed_9 (fun h => ?_) (fun h => ?_)
  · refine r_lv [(0, .ref v0), (1, .int v1), (2, .int x2)] (g_allc rfl (g_allc rfl (g_allc rfl g_alln))) ?_
    exact c_X6_addNeed_18   h
  · refine r_iload d_X6_addNeed_12 rfl ?_
    refine r_bipush d_X6_addNeed_13 bp_12 ?_
    refine r_icmp_lt h d_X6_addNeed_15 (fun h => ?_) (fun h => ?_)
    · refine r_aload d_X6_addNeed_33 rfl ?_
      refine r_getR h d_X6_addNeed_34 pf_X6_18 (fun x18 h => ?_)
      refine r_iload d_X6_addNeed_37 rfl ?_
      refine r_iald h d_X6_addNeed_38 (fun x19 h => ?_)
      refine r_iconst d_X6_addNeed_39 ic_m1 ?_
      refine r_icmp_ne h d_X6_addNeed_40 (fun h => ?_) (fun h => ?_)
      · refine r_lv [(0, .ref v0), (1, .int v1), (2, .int x2)] (g_allc rfl (g_allc rfl (g_allc rfl g_alln))) ?_
        exact c_X6_addNeed_56   h
      · refine r_aload d_X6_addNeed_43 rfl ?_
        refine r_getR h d_X6_addNeed_44 pf_X6_18 (fun x20 h => ?_)
        refine r_iload d_X6_addNeed_47 rfl ?_
        refine r_aload d_X6_addNeed_48 rfl ?_
        refine r_getR h d_X6_addNeed_49 pf_X6_43 (fun x21 h => ?_)
        refine r_getI h d_X6_addNeed_52 pf_X6_63 (fun x22 h => ?_)
        refine r_iast h d_X6_addNeed_55 (fun G23 h => ?_)
        refine r_lv [(0, .ref v0), (1, .int v1), (2, .int x2)] (g_allc rfl (g_allc rfl (g_allc rfl g_alln))) ?_
        exact c_X6_addNeed_56   h
    · refine r_lv [(0, .ref v0), (1, .int v1), (2, .int x2)] (g_allc rfl (g_allc rfl (g_allc rfl g_alln))) ?_
      exact c_X6_addNeed_18   h
/-! X6_readNeeds -/
theorem py_X6_addNeed : pY yX6_addNeed cX6_addNeed 3 none 1 := ⟨g_in 638 (by decide +kernel) rfl, g_in 105 (by decide +kernel) rfl, by decide, by decide, by decide +kernel⟩
theorem pi_X6_addNeed : pI yX6_addNeed 6 := ⟨g_in 637 (by decide +kernel) rfl, g_in 10 (by decide +kernel) rfl, (RX6, TX6, 8), rfl, rfl⟩
theorem pl_X6_157 : pL RX6 157 yX6_addNeed := Or.inl (g_in 635 (by decide +kernel) rfl)
theorem d_X6_readNeeds_0 : decAL cX6_readNeeds 0 0 1 := Or.inr ⟨0, rfl, by decide +kernel, rfl⟩
theorem d_X6_readNeeds_1 : dec 3 cX6_readNeeds 1 (.getfield 43) 4 := ⟨by decide +kernel, rfl⟩
theorem d_X6_readNeeds_4 : dec 3 cX6_readNeeds 4 (.getfield 56) 7 := ⟨by decide +kernel, rfl⟩
theorem d_X6_readNeeds_7 : dec 1 cX6_readNeeds 7 (.iconst 2) 8 := ⟨by decide +kernel, rfl⟩
theorem d_X6_readNeeds_8 : decB cX6_readNeeds 8 (.if_icmp .eq 5) (5) 11 13 := ⟨by decide +kernel, rfl, by decide⟩
theorem d_X6_readNeeds_11 : dec 1 cX6_readNeeds 11 (.iconst 0) 12 := ⟨by decide +kernel, rfl⟩
theorem d_X6_readNeeds_12 : dec 1 cX6_readNeeds 12 .ireturn 13 := ⟨by decide +kernel, rfl⟩
theorem d_X6_readNeeds_13 : dec 1 cX6_readNeeds 13 (.iconst 0) 14 := ⟨by decide +kernel, rfl⟩
theorem d_X6_readNeeds_14 : decIS cX6_readNeeds 14 2 15 := Or.inr ⟨2, rfl, by decide +kernel, rfl⟩
theorem d_X6_readNeeds_15 : decIL cX6_readNeeds 15 2 16 := Or.inr ⟨2, rfl, by decide +kernel, rfl⟩
theorem d_X6_readNeeds_16 : dec 3 cX6_readNeeds 16 (.sipush 600) 19 := ⟨by decide +kernel, rfl⟩
theorem d_X6_readNeeds_19 : decB cX6_readNeeds 19 (.if_icmp .ge 32) (32) 22 51 := ⟨by decide +kernel, rfl, by decide⟩
theorem d_X6_readNeeds_22 : decAL cX6_readNeeds 22 0 23 := Or.inr ⟨0, rfl, by decide +kernel, rfl⟩
theorem d_X6_readNeeds_23 : dec 3 cX6_readNeeds 23 (.getfield 43) 26 := ⟨by decide +kernel, rfl⟩
theorem d_X6_readNeeds_26 : dec 3 cX6_readNeeds 26 (.getfield 56) 29 := ⟨by decide +kernel, rfl⟩
theorem d_X6_readNeeds_29 : dec 1 cX6_readNeeds 29 (.iconst 2) 30 := ⟨by decide +kernel, rfl⟩
theorem d_X6_readNeeds_30 : decB cX6_readNeeds 30 (.if_icmp .ne 21) (21) 33 51 := ⟨by decide +kernel, rfl, by decide⟩
theorem d_X6_readNeeds_33 : decAL cX6_readNeeds 33 0 34 := Or.inr ⟨0, rfl, by decide +kernel, rfl⟩
theorem d_X6_readNeeds_34 : decIL cX6_readNeeds 34 1 35 := Or.inr ⟨1, rfl, by decide +kernel, rfl⟩
theorem d_X6_readNeeds_35 : dec 3 cX6_readNeeds 35 (.invokevirtual 157) 38 := ⟨by decide +kernel, rfl⟩
theorem d_X6_readNeeds_38 : decAL cX6_readNeeds 38 0 39 := Or.inr ⟨0, rfl, by decide +kernel, rfl⟩
theorem d_X6_readNeeds_39 : dec 3 cX6_readNeeds 39 (.getfield 43) 42 := ⟨by decide +kernel, rfl⟩
theorem d_X6_readNeeds_42 : dec 3 cX6_readNeeds 42 (.invokevirtual 53) 45 := ⟨by decide +kernel, rfl⟩
theorem d_X6_readNeeds_45 : dec 3 cX6_readNeeds 45 (.iinc 2 1) 48 := ⟨by decide +kernel, rfl⟩
theorem d_X6_readNeeds_48 : decB cX6_readNeeds 48 (.goto (-33)) (-33) 51 15 := ⟨by decide +kernel, rfl, by decide⟩
theorem d_X6_readNeeds_51 : dec 1 cX6_readNeeds 51 (.iconst 1) 52 := ⟨by decide +kernel, rfl⟩
theorem d_X6_readNeeds_52 : dec 1 cX6_readNeeds 52 .ireturn 53 := ⟨by decide +kernel, rfl⟩
def b_X6_readNeeds_15 (F : Nat)   (v0 : Nat) (v1 : Int32) (rec15 : Int32 → Nat → GH → Option (Int32 × Nat × GH)) : Int32 → Nat → GH → Option (Int32 × Nat × GH) := fun v2 n G =>
  if (600 : Int32) ≤ v2 then
  (rN .boolean (1 : Int32) n G)
  else (Option.bind (gR G v0 6 0) (fun (x3 : Nat) =>
  Option.bind (gI G x3 8 2) (fun (x4 : Int32) =>
  if x4 = (2 : Int32) then
  (cvU G v0 6 (f_X6_addNeed F v0 v1 n G) (fun (n5 : Nat) (G6 : GH) =>
  Option.bind (gR G6 v0 6 0) (fun (x7 : Nat) =>
  cvU G6 x7 8 (f_X8_advance F x7 n5 G6) (fun (n8 : Nat) (G9 : GH) =>
  rec15 (v2 + 1) n8 G9))))
  else (rN .boolean (1 : Int32) n G))))
def f_X6_readNeeds (F : Nat)  (v0 : Nat) (v1 : Int32) (n : Nat) (G : GH) : Option (Int32 × Nat × GH) :=
  Option.bind (gR G v0 6 0) (fun (x1 : Nat) =>
  Option.bind (gI G x1 8 2) (fun (x2 : Int32) =>
  if x2 = (2 : Int32) then
  (fixN (fun _ _ _ => none) (b_X6_readNeeds_15 F   v0 v1) F (0 : Int32) n G)
  else (rN .boolean (0 : Int32) n G)))
set_option maxRecDepth 100000 in
set_option maxHeartbeats 4000000 in
theorem l_X6_readNeeds_15 {E : GE} {F : Nat}   {v0 : Nat} {v1 : Int32}   : ∀ (K : Nat) (v2 : Int32) (n : Nat) (G : GH) (z : Int32 × Nat × GH), fixN ((fun _ _ _ => none) : Int32 → Nat → GH → Option (Int32 × Nat × GH)) (b_X6_readNeeds_15 F   v0 v1) K v2 n G = some z → WG E RX6 "readNeeds" cX6_readNeeds 3 (some .boolean) 2 46 0 0 15 [(0, .ref v0), (1, .int v1), (2, .int v2)] [] n G (g_O E (some (.int z.1), z.2.1, z.2.2)) := by
  intro K
  refine fixN_ind (P := fun (r : Int32 → Nat → GH → Option (Int32 × Nat × GH)) => ∀ (v2 : Int32) (n : Nat) (G : GH) (z : Int32 × Nat × GH), r v2 n G = some z → WG E RX6 "readNeeds" cX6_readNeeds 3 (some .boolean) 2 46 0 0 15 [(0, .ref v0), (1, .int v1), (2, .int v2)] [] n G (g_O E (some (.int z.1), z.2.1, z.2.2))) ?_ ?_ K
  · intro v2 n G z h
    cases h
  · intro rec15 hrec15 v2 n G z h
    unfold b_X6_readNeeds_15 at h
    refine r_iload d_X6_readNeeds_15 rfl ?_
    refine r_sipush d_X6_readNeeds_16 sp_600 ?_
    refine r_icmp_ge h d_X6_readNeeds_19 (fun h => ?_) (fun h => ?_)
    · refine r_iconst d_X6_readNeeds_51 ic_1 ?_
      exact r_zret h d_X6_readNeeds_52
    · refine r_aload d_X6_readNeeds_22 rfl ?_
      refine r_getR h d_X6_readNeeds_23 pf_X6_43 (fun x3 h => ?_)
      refine r_getI h d_X6_readNeeds_26 pf_X6_56 (fun x4 h => ?_)
      refine r_iconst d_X6_readNeeds_29 ic_2 ?_
      refine r_icmp_ne h d_X6_readNeeds_30 (fun h => ?_) (fun h => ?_)
      · refine r_iconst d_X6_readNeeds_51 ic_1 ?_
        exact r_zret h d_X6_readNeeds_52
      · refine r_aload d_X6_readNeeds_33 rfl ?_
        refine r_iload d_X6_readNeeds_34 rfl ?_
        refine r_invU [_] h (fun _ hq => s_X6_addNeed hq) d_X6_readNeeds_35 pl_X6_157 py_X6_addNeed pi_X6_addNeed rfl rfl rfl (fun n5 G6 h => ?_)
        refine r_aload d_X6_readNeeds_38 rfl ?_
        refine r_getR h d_X6_readNeeds_39 pf_X6_43 (fun x7 h => ?_)
        refine r_invU [] h (fun _ hq => s_X8_advance hq) d_X6_readNeeds_42 pl_X6_53 py_X8_advance pi_X8_advance rfl rfl rfl (fun n8 G9 h => ?_)
        refine r_iinc d_X6_readNeeds_45 rfl (ii_1 _) rfl rfl ?_
        refine r_goto d_X6_readNeeds_48 ?_
        refine r_lv [(0, .ref v0), (1, .int v1), (2, .int (v2 + 1))] (g_allc rfl (g_allc rfl (g_allc rfl g_alln))) ?_
        exact hrec15 _ _ _ _ h
set_option maxRecDepth 100000 in
set_option maxHeartbeats 4000000 in
theorem s_X6_readNeeds {E : GE} {F : Nat}  {v0 : Nat} {v1 : Int32} {n : Nat} {G : GH} {z : Int32 × Nat × GH}  (h : f_X6_readNeeds F  v0 v1 n G = some z) : GM E yX6_readNeeds cX6_readNeeds 3 (some .boolean) 2 46 0 0 [.ref v0, .int v1] n G (some (.int z.1), z.2.1, z.2.2) := by
  refine GM.of (by decide) (Nat.le_of_ble_eq_true rfl) ?_
  show WG E RX6 "readNeeds" cX6_readNeeds 3 (some .boolean) 2 46 0 0 0 [(0, .ref v0), (1, .int v1)] [] n G (g_O E (some (.int z.1), z.2.1, z.2.2))
  unfold f_X6_readNeeds at h
  refine r_aload d_X6_readNeeds_0 rfl ?_
  refine r_getR h d_X6_readNeeds_1 pf_X6_43 (fun x1 h => ?_)
  refine r_getI h d_X6_readNeeds_4 pf_X6_56 (fun x2 h => ?_)
  refine r_iconst d_X6_readNeeds_7 ic_2 ?_
  refine r_icmp_eq h d_X6_readNeeds_8 (fun h => ?_) (fun h => ?_)
  · refine r_iconst d_X6_readNeeds_13 ic_0 ?_
    refine r_istore d_X6_readNeeds_14 rfl rfl ?_
    refine r_lv [(0, .ref v0), (1, .int v1), (2, .int (0 : Int32))] (g_allc rfl (g_allc rfl (g_allc rfl g_alln))) ?_
    exact l_X6_readNeeds_15   _ _ _ _ _ h
  · refine r_iconst d_X6_readNeeds_11 ic_0 ?_
    exact r_zret h d_X6_readNeeds_12
/-! X6_readBreaks -/
theorem pf_X6_164 : pF RX6 164 3 4 := ⟨RX3, TX3, 9, rfl, by decide, rfl, Or.inr ⟨"PlugBoard", g_in 195 (by decide +kernel) rfl⟩⟩
theorem d_X6_readBreaks_0 : decAL cX6_readBreaks 0 0 1 := Or.inr ⟨0, rfl, by decide +kernel, rfl⟩
theorem d_X6_readBreaks_1 : dec 3 cX6_readBreaks 1 (.getfield 43) 4 := ⟨by decide +kernel, rfl⟩
theorem d_X6_readBreaks_4 : dec 3 cX6_readBreaks 4 (.getfield 56) 7 := ⟨by decide +kernel, rfl⟩
theorem d_X6_readBreaks_7 : dec 1 cX6_readBreaks 7 (.iconst 2) 8 := ⟨by decide +kernel, rfl⟩
theorem d_X6_readBreaks_8 : decB cX6_readBreaks 8 (.if_icmp .eq 5) (5) 11 13 := ⟨by decide +kernel, rfl, by decide⟩
theorem d_X6_readBreaks_11 : dec 1 cX6_readBreaks 11 (.iconst 0) 12 := ⟨by decide +kernel, rfl⟩
theorem d_X6_readBreaks_12 : dec 1 cX6_readBreaks 12 .ireturn 13 := ⟨by decide +kernel, rfl⟩
theorem d_X6_readBreaks_13 : decAL cX6_readBreaks 13 0 14 := Or.inr ⟨0, rfl, by decide +kernel, rfl⟩
theorem d_X6_readBreaks_14 : dec 3 cX6_readBreaks 14 (.getfield 43) 17 := ⟨by decide +kernel, rfl⟩
theorem d_X6_readBreaks_17 : dec 3 cX6_readBreaks 17 (.getfield 124) 20 := ⟨by decide +kernel, rfl⟩
theorem d_X6_readBreaks_20 : dec 2 cX6_readBreaks 20 (.bipush 9) 22 := ⟨by decide +kernel, rfl⟩
theorem d_X6_readBreaks_22 : decB cX6_readBreaks 22 (.if_icmp .le 15) (15) 25 37 := ⟨by decide +kernel, rfl, by decide⟩
theorem d_X6_readBreaks_25 : decAL cX6_readBreaks 25 0 26 := Or.inr ⟨0, rfl, by decide +kernel, rfl⟩
theorem d_X6_readBreaks_26 : dec 1 cX6_readBreaks 26 (.iconst 2) 27 := ⟨by decide +kernel, rfl⟩
theorem d_X6_readBreaks_27 : decAL cX6_readBreaks 27 0 28 := Or.inr ⟨0, rfl, by decide +kernel, rfl⟩
theorem d_X6_readBreaks_28 : dec 3 cX6_readBreaks 28 (.getfield 43) 31 := ⟨by decide +kernel, rfl⟩
theorem d_X6_readBreaks_31 : dec 3 cX6_readBreaks 31 (.getfield 63) 34 := ⟨by decide +kernel, rfl⟩
theorem d_X6_readBreaks_34 : dec 3 cX6_readBreaks 34 (.invokevirtual 83) 37 := ⟨by decide +kernel, rfl⟩
theorem d_X6_readBreaks_37 : decAL cX6_readBreaks 37 0 38 := Or.inr ⟨0, rfl, by decide +kernel, rfl⟩
theorem d_X6_readBreaks_38 : dec 3 cX6_readBreaks 38 (.getfield 12) 41 := ⟨by decide +kernel, rfl⟩
theorem d_X6_readBreaks_41 : dec 3 cX6_readBreaks 41 (.getfield 164) 44 := ⟨by decide +kernel, rfl⟩
theorem d_X6_readBreaks_44 : decAL cX6_readBreaks 44 0 45 := Or.inr ⟨0, rfl, by decide +kernel, rfl⟩
theorem d_X6_readBreaks_45 : dec 3 cX6_readBreaks 45 (.getfield 26) 48 := ⟨by decide +kernel, rfl⟩
theorem d_X6_readBreaks_48 : decAL cX6_readBreaks 48 0 49 := Or.inr ⟨0, rfl, by decide +kernel, rfl⟩
theorem d_X6_readBreaks_49 : dec 3 cX6_readBreaks 49 (.getfield 43) 52 := ⟨by decide +kernel, rfl⟩
theorem d_X6_readBreaks_52 : dec 3 cX6_readBreaks 52 (.getfield 124) 55 := ⟨by decide +kernel, rfl⟩
theorem d_X6_readBreaks_55 : dec 1 cX6_readBreaks 55 .iastore 56 := ⟨by decide +kernel, rfl⟩
theorem d_X6_readBreaks_56 : decAL cX6_readBreaks 56 0 57 := Or.inr ⟨0, rfl, by decide +kernel, rfl⟩
theorem d_X6_readBreaks_57 : dec 3 cX6_readBreaks 57 (.getfield 43) 60 := ⟨by decide +kernel, rfl⟩
theorem d_X6_readBreaks_60 : dec 3 cX6_readBreaks 60 (.invokevirtual 53) 63 := ⟨by decide +kernel, rfl⟩
theorem d_X6_readBreaks_63 : dec 1 cX6_readBreaks 63 (.iconst 1) 64 := ⟨by decide +kernel, rfl⟩
theorem d_X6_readBreaks_64 : dec 1 cX6_readBreaks 64 .ireturn 65 := ⟨by decide +kernel, rfl⟩
def k_X6_readBreaks_37 (F : Nat)   (v0 : Nat)  (n : Nat) (G : GH) : Option (Int32 × Nat × GH) :=
  Option.bind (gR G v0 6 1) (fun (x5 : Nat) =>
  Option.bind (gR G x5 3 4) (fun (x6 : Nat) =>
  Option.bind (gI G v0 6 4) (fun (x7 : Int32) =>
  Option.bind (gR G v0 6 0) (fun (x8 : Nat) =>
  Option.bind (gI G x8 8 5) (fun (x9 : Int32) =>
  Option.bind (aS G x6 0 x7 x9) (fun (G10 : GH) =>
  Option.bind (gR G10 v0 6 0) (fun (x11 : Nat) =>
  cvU G10 x11 8 (f_X8_advance F x11 n G10) (fun (n12 : Nat) (G13 : GH) =>
  rN .boolean (1 : Int32) n12 G13))))))))
def f_X6_readBreaks (F : Nat)  (v0 : Nat) (n : Nat) (G : GH) : Option (Int32 × Nat × GH) :=
  Option.bind (gR G v0 6 0) (fun (x1 : Nat) =>
  Option.bind (gI G x1 8 2) (fun (x2 : Int32) =>
  if x2 = (2 : Int32) then
  (Option.bind (gR G v0 6 0) (fun (x3 : Nat) =>
  Option.bind (gI G x3 8 5) (fun (x4 : Int32) =>
  if x4 ≤ (9 : Int32) then
  (k_X6_readBreaks_37 F   v0 n G)
  else (Option.bind (gR G v0 6 0) (fun (x14 : Nat) =>
  Option.bind (gI G x14 8 3) (fun (x15 : Int32) =>
  cvU G v0 6 (f_X6_note F v0 (2 : Int32) x15 n G) (fun (n16 : Nat) (G17 : GH) =>
  k_X6_readBreaks_37 F   v0 n16 G17)))))))
  else (rN .boolean (0 : Int32) n G)))
set_option maxRecDepth 100000 in
set_option maxHeartbeats 4000000 in
theorem c_X6_readBreaks_37 {E : GE} {F : Nat}   {v0 : Nat}  {n : Nat} {G : GH} {z : Int32 × Nat × GH}   (h : k_X6_readBreaks_37 F   v0  n G = some z) : WG E RX6 "readBreaks" cX6_readBreaks 1 (some .boolean) 2 40 0 0 37 [(0, .ref v0)] [] n G (g_O E (some (.int z.1), z.2.1, z.2.2)) := by
  unfold k_X6_readBreaks_37 at h
  refine r_aload d_X6_readBreaks_37 rfl ?_
  refine r_getR h d_X6_readBreaks_38 pf_X6_12 (fun x5 h => ?_)
  refine r_getR h d_X6_readBreaks_41 pf_X6_164 (fun x6 h => ?_)
  refine r_aload d_X6_readBreaks_44 rfl ?_
  refine r_getI h d_X6_readBreaks_45 pf_X6_26 (fun x7 h => ?_)
  refine r_aload d_X6_readBreaks_48 rfl ?_
  refine r_getR h d_X6_readBreaks_49 pf_X6_43 (fun x8 h => ?_)
  refine r_getI h d_X6_readBreaks_52 pf_X6_124 (fun x9 h => ?_)
  refine r_iast h d_X6_readBreaks_55 (fun G10 h => ?_)
  refine r_aload d_X6_readBreaks_56 rfl ?_
  refine r_getR h d_X6_readBreaks_57 pf_X6_43 (fun x11 h => ?_)
  refine r_invU [] h (fun _ hq => s_X8_advance hq) d_X6_readBreaks_60 pl_X6_53 py_X8_advance pi_X8_advance rfl rfl rfl (fun n12 G13 h => ?_)
  refine r_iconst d_X6_readBreaks_63 ic_1 ?_
  exact r_zret h d_X6_readBreaks_64
set_option maxRecDepth 100000 in
set_option maxHeartbeats 4000000 in
theorem s_X6_readBreaks {E : GE} {F : Nat}  {v0 : Nat} {n : Nat} {G : GH} {z : Int32 × Nat × GH}  (h : f_X6_readBreaks F  v0 n G = some z) : GM E yX6_readBreaks cX6_readBreaks 1 (some .boolean) 2 40 0 0 [.ref v0] n G (some (.int z.1), z.2.1, z.2.2) := by
  refine GM.of (by decide) (Nat.le_of_ble_eq_true rfl) ?_
  show WG E RX6 "readBreaks" cX6_readBreaks 1 (some .boolean) 2 40 0 0 0 [(0, .ref v0)] [] n G (g_O E (some (.int z.1), z.2.1, z.2.2))
  unfold f_X6_readBreaks at h
  refine r_aload d_X6_readBreaks_0 rfl ?_
  refine r_getR h d_X6_readBreaks_1 pf_X6_43 (fun x1 h => ?_)
  refine r_getI h d_X6_readBreaks_4 pf_X6_56 (fun x2 h => ?_)
  refine r_iconst d_X6_readBreaks_7 ic_2 ?_
  refine r_icmp_eq h d_X6_readBreaks_8 (fun h => ?_) (fun h => ?_)
  · refine r_aload d_X6_readBreaks_13 rfl ?_
    refine r_getR h d_X6_readBreaks_14 pf_X6_43 (fun x3 h => ?_)
    refine r_getI h d_X6_readBreaks_17 pf_X6_124 (fun x4 h => ?_)
    refine r_bipush d_X6_readBreaks_20 bp_9 ?_
    refine r_icmp_le h d_X6_readBreaks_22 (fun h => ?_) (fun h => ?_)
    · refine r_lv [(0, .ref v0)] (g_allc rfl g_alln) ?_
      exact c_X6_readBreaks_37   h
    · refine r_aload d_X6_readBreaks_25 rfl ?_
      refine r_iconst d_X6_readBreaks_26 ic_2 ?_
      refine r_aload d_X6_readBreaks_27 rfl ?_
      refine r_getR h d_X6_readBreaks_28 pf_X6_43 (fun x14 h => ?_)
      refine r_getI h d_X6_readBreaks_31 pf_X6_63 (fun x15 h => ?_)
      refine r_invU [_, _] h (fun _ hq => s_X6_note hq) d_X6_readBreaks_34 pl_X6_83 py_X6_note pi_X6_note rfl rfl rfl (fun n16 G17 h => ?_)
      refine r_lv [(0, .ref v0)] (g_allc rfl g_alln) ?_
      exact c_X6_readBreaks_37   h
  · refine r_iconst d_X6_readBreaks_11 ic_0 ?_
    exact r_zret h d_X6_readBreaks_12
/-! X6_readClause -/
theorem py_X8_takeWord : pY yX8_takeWord cX8_takeWord 2 (some .boolean) 1 := ⟨g_in 534 (by decide +kernel) rfl, g_in 106 (by decide +kernel) rfl, by decide, by decide, by decide +kernel⟩
theorem pi_X8_takeWord : pI yX8_takeWord 8 := ⟨g_in 532 (by decide +kernel) rfl, g_in 533 (by decide +kernel) rfl, (RX8, TX8, 6), rfl, rfl⟩
theorem pl_X6_79 : pL RX6 79 yX8_takeWord := Or.inl (g_in 531 (by decide +kernel) rfl)
theorem pf_X6_146 : pF RX6 146 3 5 := ⟨RX3, TX3, 9, rfl, by decide, rfl, Or.inr ⟨"PlugBoard", g_in 199 (by decide +kernel) rfl⟩⟩
theorem py_X6_readBreaks : pY yX6_readBreaks cX6_readBreaks 1 (some .boolean) 0 := ⟨g_in 648 (by decide +kernel) rfl, g_in 105 (by decide +kernel) rfl, by decide, by decide, by decide +kernel⟩
theorem pi_X6_readBreaks : pI yX6_readBreaks 6 := ⟨g_in 647 (by decide +kernel) rfl, g_in 11 (by decide +kernel) rfl, (RX6, TX6, 8), rfl, rfl⟩
theorem pl_X6_141 : pL RX6 141 yX6_readBreaks := Or.inl (g_in 645 (by decide +kernel) rfl)
theorem py_X6_readNeeds : pY yX6_readNeeds cX6_readNeeds 3 (some .boolean) 1 := ⟨g_in 634 (by decide +kernel) rfl, g_in 105 (by decide +kernel) rfl, by decide, by decide, by decide +kernel⟩
theorem pi_X6_readNeeds : pI yX6_readNeeds 6 := ⟨g_in 633 (by decide +kernel) rfl, g_in 9 (by decide +kernel) rfl, (RX6, TX6, 8), rfl, rfl⟩
theorem pl_X6_133 : pL RX6 133 yX6_readNeeds := Or.inl (g_in 631 (by decide +kernel) rfl)
theorem py_X6_readSpan : pY yX6_readSpan cX6_readSpan 2 (some .boolean) 0 := ⟨g_in 626 (by decide +kernel) rfl, g_in 105 (by decide +kernel) rfl, by decide, by decide, by decide +kernel⟩
theorem pi_X6_readSpan : pI yX6_readSpan 6 := ⟨g_in 625 (by decide +kernel) rfl, g_in 8 (by decide +kernel) rfl, (RX6, TX6, 8), rfl, rfl⟩
theorem pl_X6_128 : pL RX6 128 yX6_readSpan := Or.inl (g_in 623 (by decide +kernel) rfl)
theorem d_X6_readClause_0 : decAL cX6_readClause 0 0 1 := Or.inr ⟨0, rfl, by decide +kernel, rfl⟩
theorem d_X6_readClause_1 : dec 3 cX6_readClause 1 (.getfield 43) 4 := ⟨by decide +kernel, rfl⟩
theorem d_X6_readClause_4 : dec 2 cX6_readClause 4 (.ldc 126) 6 := ⟨by decide +kernel, rfl⟩
theorem d_X6_readClause_6 : dec 3 cX6_readClause 6 (.invokevirtual 79) 9 := ⟨by decide +kernel, rfl⟩
theorem d_X6_readClause_9 : decB cX6_readClause 9 (.ifCond .eq 8) (8) 12 17 := ⟨by decide +kernel, rfl, by decide⟩
theorem d_X6_readClause_12 : decAL cX6_readClause 12 0 13 := Or.inr ⟨0, rfl, by decide +kernel, rfl⟩
theorem d_X6_readClause_13 : dec 3 cX6_readClause 13 (.invokevirtual 128) 16 := ⟨by decide +kernel, rfl⟩
theorem d_X6_readClause_16 : dec 1 cX6_readClause 16 .ireturn 17 := ⟨by decide +kernel, rfl⟩
theorem d_X6_readClause_17 : decAL cX6_readClause 17 0 18 := Or.inr ⟨0, rfl, by decide +kernel, rfl⟩
theorem d_X6_readClause_18 : dec 3 cX6_readClause 18 (.getfield 43) 21 := ⟨by decide +kernel, rfl⟩
theorem d_X6_readClause_21 : dec 2 cX6_readClause 21 (.ldc 131) 23 := ⟨by decide +kernel, rfl⟩
theorem d_X6_readClause_23 : dec 3 cX6_readClause 23 (.invokevirtual 79) 26 := ⟨by decide +kernel, rfl⟩
theorem d_X6_readClause_26 : decB cX6_readClause 26 (.ifCond .eq 9) (9) 29 35 := ⟨by decide +kernel, rfl, by decide⟩
theorem d_X6_readClause_29 : decAL cX6_readClause 29 0 30 := Or.inr ⟨0, rfl, by decide +kernel, rfl⟩
theorem d_X6_readClause_30 : dec 1 cX6_readClause 30 (.iconst 0) 31 := ⟨by decide +kernel, rfl⟩
theorem d_X6_readClause_31 : dec 3 cX6_readClause 31 (.invokevirtual 133) 34 := ⟨by decide +kernel, rfl⟩
theorem d_X6_readClause_34 : dec 1 cX6_readClause 34 .ireturn 35 := ⟨by decide +kernel, rfl⟩
theorem d_X6_readClause_35 : decAL cX6_readClause 35 0 36 := Or.inr ⟨0, rfl, by decide +kernel, rfl⟩
theorem d_X6_readClause_36 : dec 3 cX6_readClause 36 (.getfield 43) 39 := ⟨by decide +kernel, rfl⟩
theorem d_X6_readClause_39 : dec 2 cX6_readClause 39 (.ldc 137) 41 := ⟨by decide +kernel, rfl⟩
theorem d_X6_readClause_41 : dec 3 cX6_readClause 41 (.invokevirtual 79) 44 := ⟨by decide +kernel, rfl⟩
theorem d_X6_readClause_44 : decB cX6_readClause 44 (.ifCond .eq 9) (9) 47 53 := ⟨by decide +kernel, rfl, by decide⟩
theorem d_X6_readClause_47 : decAL cX6_readClause 47 0 48 := Or.inr ⟨0, rfl, by decide +kernel, rfl⟩
theorem d_X6_readClause_48 : dec 1 cX6_readClause 48 (.iconst 1) 49 := ⟨by decide +kernel, rfl⟩
theorem d_X6_readClause_49 : dec 3 cX6_readClause 49 (.invokevirtual 133) 52 := ⟨by decide +kernel, rfl⟩
theorem d_X6_readClause_52 : dec 1 cX6_readClause 52 .ireturn 53 := ⟨by decide +kernel, rfl⟩
theorem d_X6_readClause_53 : decAL cX6_readClause 53 0 54 := Or.inr ⟨0, rfl, by decide +kernel, rfl⟩
theorem d_X6_readClause_54 : dec 3 cX6_readClause 54 (.getfield 43) 57 := ⟨by decide +kernel, rfl⟩
theorem d_X6_readClause_57 : dec 2 cX6_readClause 57 (.ldc 139) 59 := ⟨by decide +kernel, rfl⟩
theorem d_X6_readClause_59 : dec 3 cX6_readClause 59 (.invokevirtual 79) 62 := ⟨by decide +kernel, rfl⟩
theorem d_X6_readClause_62 : decB cX6_readClause 62 (.ifCond .eq 8) (8) 65 70 := ⟨by decide +kernel, rfl, by decide⟩
theorem d_X6_readClause_65 : decAL cX6_readClause 65 0 66 := Or.inr ⟨0, rfl, by decide +kernel, rfl⟩
theorem d_X6_readClause_66 : dec 3 cX6_readClause 66 (.invokevirtual 141) 69 := ⟨by decide +kernel, rfl⟩
theorem d_X6_readClause_69 : dec 1 cX6_readClause 69 .ireturn 70 := ⟨by decide +kernel, rfl⟩
theorem d_X6_readClause_70 : decAL cX6_readClause 70 0 71 := Or.inr ⟨0, rfl, by decide +kernel, rfl⟩
theorem d_X6_readClause_71 : dec 3 cX6_readClause 71 (.getfield 43) 74 := ⟨by decide +kernel, rfl⟩
theorem d_X6_readClause_74 : dec 2 cX6_readClause 74 (.ldc 144) 76 := ⟨by decide +kernel, rfl⟩
theorem d_X6_readClause_76 : dec 3 cX6_readClause 76 (.invokevirtual 79) 79 := ⟨by decide +kernel, rfl⟩
theorem d_X6_readClause_79 : decB cX6_readClause 79 (.ifCond .ne 5) (5) 82 84 := ⟨by decide +kernel, rfl, by decide⟩
theorem d_X6_readClause_82 : dec 1 cX6_readClause 82 (.iconst 0) 83 := ⟨by decide +kernel, rfl⟩
theorem d_X6_readClause_83 : dec 1 cX6_readClause 83 .ireturn 84 := ⟨by decide +kernel, rfl⟩
theorem d_X6_readClause_84 : decAL cX6_readClause 84 0 85 := Or.inr ⟨0, rfl, by decide +kernel, rfl⟩
theorem d_X6_readClause_85 : dec 3 cX6_readClause 85 (.getfield 12) 88 := ⟨by decide +kernel, rfl⟩
theorem d_X6_readClause_88 : dec 3 cX6_readClause 88 (.getfield 146) 91 := ⟨by decide +kernel, rfl⟩
theorem d_X6_readClause_91 : decAL cX6_readClause 91 0 92 := Or.inr ⟨0, rfl, by decide +kernel, rfl⟩
theorem d_X6_readClause_92 : dec 3 cX6_readClause 92 (.getfield 26) 95 := ⟨by decide +kernel, rfl⟩
theorem d_X6_readClause_95 : dec 1 cX6_readClause 95 (.iconst 1) 96 := ⟨by decide +kernel, rfl⟩
theorem d_X6_readClause_96 : dec 1 cX6_readClause 96 .bastore 97 := ⟨by decide +kernel, rfl⟩
theorem d_X6_readClause_97 : dec 1 cX6_readClause 97 (.iconst 1) 98 := ⟨by decide +kernel, rfl⟩
theorem d_X6_readClause_98 : dec 1 cX6_readClause 98 .ireturn 99 := ⟨by decide +kernel, rfl⟩
def f_X6_readClause (F : Nat)  (v0 : Nat) (n : Nat) (G : GH) : Option (Int32 × Nat × GH) :=
  Option.bind (gR G v0 6 0) (fun (x1 : Nat) =>
  cvI G x1 8 (f_X8_takeWord F x1 (7) n G) (fun (x4 : Int32) (n2 : Nat) (G3 : GH) =>
  if x4 = 0 then
  (Option.bind (gR G3 v0 6 0) (fun (x5 : Nat) =>
  cvI G3 x5 8 (f_X8_takeWord F x5 (8) n2 G3) (fun (x8 : Int32) (n6 : Nat) (G7 : GH) =>
  if x8 = 0 then
  (Option.bind (gR G7 v0 6 0) (fun (x9 : Nat) =>
  cvI G7 x9 8 (f_X8_takeWord F x9 (9) n6 G7) (fun (x12 : Int32) (n10 : Nat) (G11 : GH) =>
  if x12 = 0 then
  (Option.bind (gR G11 v0 6 0) (fun (x13 : Nat) =>
  cvI G11 x13 8 (f_X8_takeWord F x13 (10) n10 G11) (fun (x16 : Int32) (n14 : Nat) (G15 : GH) =>
  if x16 = 0 then
  (Option.bind (gR G15 v0 6 0) (fun (x17 : Nat) =>
  cvI G15 x17 8 (f_X8_takeWord F x17 (11) n14 G15) (fun (x20 : Int32) (n18 : Nat) (G19 : GH) =>
  if x20 = 0 then
  (rN .boolean (0 : Int32) n18 G19)
  else (Option.bind (gR G19 v0 6 1) (fun (x21 : Nat) =>
  Option.bind (gR G19 x21 3 5) (fun (x22 : Nat) =>
  Option.bind (gI G19 v0 6 4) (fun (x23 : Int32) =>
  Option.bind (aS G19 x22 2 x23 (vp_nar .boolean (1 : Int32))) (fun (G24 : GH) =>
  rN .boolean (1 : Int32) n18 G24))))))))
  else (cvI G15 v0 6 (f_X6_readBreaks F v0 n14 G15) (fun (x27 : Int32) (n25 : Nat) (G26 : GH) =>
  rN .boolean x27 n25 G26)))))
  else (cvI G11 v0 6 (f_X6_readNeeds F v0 (1 : Int32) n10 G11) (fun (x30 : Int32) (n28 : Nat) (G29 : GH) =>
  rN .boolean x30 n28 G29)))))
  else (cvI G7 v0 6 (f_X6_readNeeds F v0 (0 : Int32) n6 G7) (fun (x33 : Int32) (n31 : Nat) (G32 : GH) =>
  rN .boolean x33 n31 G32)))))
  else (cvI G3 v0 6 (f_X6_readSpan F v0 n2 G3) (fun (x36 : Int32) (n34 : Nat) (G35 : GH) =>
  rN .boolean x36 n34 G35))))
set_option maxRecDepth 100000 in
set_option maxHeartbeats 4000000 in
theorem s_X6_readClause {E : GE} {F : Nat}  {v0 : Nat} {n : Nat} {G : GH} {z : Int32 × Nat × GH}  (h : f_X6_readClause F  v0 n G = some z) : GM E yX6_readClause cX6_readClause 1 (some .boolean) 6 128 0 0 [.ref v0] n G (some (.int z.1), z.2.1, z.2.2) := by
  refine GM.of (by decide) (Nat.le_of_ble_eq_true rfl) ?_
  show WG E RX6 "readClause" cX6_readClause 1 (some .boolean) 6 128 0 0 0 [(0, .ref v0)] [] n G (g_O E (some (.int z.1), z.2.1, z.2.2))
  unfold f_X6_readClause at h
  refine r_aload d_X6_readClause_0 rfl ?_
  refine r_getR h d_X6_readClause_1 pf_X6_43 (fun x1 h => ?_)
  refine r_ldcS 7 rfl d_X6_readClause_4 ?_
  refine r_invI [_] h (fun _ hq => s_X8_takeWord hq) d_X6_readClause_6 pl_X6_79 py_X8_takeWord pi_X8_takeWord rfl rfl rfl (fun x4 n2 G3 h => ?_)
  refine r_if_eq h d_X6_readClause_9 (fun h => ?_) (fun h => ?_)
  · refine r_aload d_X6_readClause_17 rfl ?_
    refine r_getR h d_X6_readClause_18 pf_X6_43 (fun x5 h => ?_)
    refine r_ldcS 8 rfl d_X6_readClause_21 ?_
    refine r_invI [_] h (fun _ hq => s_X8_takeWord hq) d_X6_readClause_23 pl_X6_79 py_X8_takeWord pi_X8_takeWord rfl rfl rfl (fun x8 n6 G7 h => ?_)
    refine r_if_eq h d_X6_readClause_26 (fun h => ?_) (fun h => ?_)
    · refine r_aload d_X6_readClause_35 rfl ?_
      refine r_getR h d_X6_readClause_36 pf_X6_43 (fun x9 h => ?_)
      refine r_ldcS 9 rfl d_X6_readClause_39 ?_
      refine r_invI [_] h (fun _ hq => s_X8_takeWord hq) d_X6_readClause_41 pl_X6_79 py_X8_takeWord pi_X8_takeWord rfl rfl rfl (fun x12 n10 G11 h => ?_)
      refine r_if_eq h d_X6_readClause_44 (fun h => ?_) (fun h => ?_)
      · refine r_aload d_X6_readClause_53 rfl ?_
        refine r_getR h d_X6_readClause_54 pf_X6_43 (fun x13 h => ?_)
        refine r_ldcS 10 rfl d_X6_readClause_57 ?_
        refine r_invI [_] h (fun _ hq => s_X8_takeWord hq) d_X6_readClause_59 pl_X6_79 py_X8_takeWord pi_X8_takeWord rfl rfl rfl (fun x16 n14 G15 h => ?_)
        refine r_if_eq h d_X6_readClause_62 (fun h => ?_) (fun h => ?_)
        · refine r_aload d_X6_readClause_70 rfl ?_
          refine r_getR h d_X6_readClause_71 pf_X6_43 (fun x17 h => ?_)
          refine r_ldcS 11 rfl d_X6_readClause_74 ?_
          refine r_invI [_] h (fun _ hq => s_X8_takeWord hq) d_X6_readClause_76 pl_X6_79 py_X8_takeWord pi_X8_takeWord rfl rfl rfl (fun x20 n18 G19 h => ?_)
          refine r_if_ne h d_X6_readClause_79 (fun h => ?_) (fun h => ?_)
          · refine r_aload d_X6_readClause_84 rfl ?_
            refine r_getR h d_X6_readClause_85 pf_X6_12 (fun x21 h => ?_)
            refine r_getR h d_X6_readClause_88 pf_X6_146 (fun x22 h => ?_)
            refine r_aload d_X6_readClause_91 rfl ?_
            refine r_getI h d_X6_readClause_92 pf_X6_26 (fun x23 h => ?_)
            refine r_iconst d_X6_readClause_95 ic_1 ?_
            refine r_zast h d_X6_readClause_96 (fun G24 h => ?_)
            refine r_iconst d_X6_readClause_97 ic_1 ?_
            exact r_zret h d_X6_readClause_98
          · refine r_iconst d_X6_readClause_82 ic_0 ?_
            exact r_zret h d_X6_readClause_83
        · refine r_aload d_X6_readClause_65 rfl ?_
          refine r_invI [] h (fun _ hq => s_X6_readBreaks hq) d_X6_readClause_66 pl_X6_141 py_X6_readBreaks pi_X6_readBreaks rfl rfl rfl (fun x27 n25 G26 h => ?_)
          exact r_zret h d_X6_readClause_69
      · refine r_aload d_X6_readClause_47 rfl ?_
        refine r_iconst d_X6_readClause_48 ic_1 ?_
        refine r_invI [_] h (fun _ hq => s_X6_readNeeds hq) d_X6_readClause_49 pl_X6_133 py_X6_readNeeds pi_X6_readNeeds rfl rfl rfl (fun x30 n28 G29 h => ?_)
        exact r_zret h d_X6_readClause_52
    · refine r_aload d_X6_readClause_29 rfl ?_
      refine r_iconst d_X6_readClause_30 ic_0 ?_
      refine r_invI [_] h (fun _ hq => s_X6_readNeeds hq) d_X6_readClause_31 pl_X6_133 py_X6_readNeeds pi_X6_readNeeds rfl rfl rfl (fun x33 n31 G32 h => ?_)
      exact r_zret h d_X6_readClause_34
  · refine r_aload d_X6_readClause_12 rfl ?_
    refine r_invI [] h (fun _ hq => s_X6_readSpan hq) d_X6_readClause_13 pl_X6_128 py_X6_readSpan pi_X6_readSpan rfl rfl rfl (fun x36 n34 G35 h => ?_)
    exact r_zret h d_X6_readClause_16
/-! X6_readPart -/
theorem pf_X6_22 : pF RX6 22 6 3 := ⟨RX6, TX6, 8, rfl, by decide, rfl, Or.inl (g_in 486 (by decide +kernel) rfl)⟩
theorem qm_min_l_X6_69 : Cond.methodLink RX6 69 Lib.Math.min.name ∈ g_tbl := g_in 592 (by decide +kernel) rfl
theorem py_X6_readAct : pY yX6_readAct cX6_readAct 2 (some .boolean) 0 := ⟨g_in 598 (by decide +kernel) rfl, g_in 105 (by decide +kernel) rfl, by decide, by decide, by decide +kernel⟩
theorem pi_X6_readAct : pI yX6_readAct 6 := ⟨g_in 597 (by decide +kernel) rfl, g_in 4 (by decide +kernel) rfl, (RX6, TX6, 8), rfl, rfl⟩
theorem pl_X6_87 : pL RX6 87 yX6_readAct := Or.inl (g_in 595 (by decide +kernel) rfl)
theorem py_X6_readNumber : pY yX6_readNumber cX6_readNumber 2 (some .boolean) 0 := ⟨g_in 613 (by decide +kernel) rfl, g_in 105 (by decide +kernel) rfl, by decide, by decide, by decide +kernel⟩
theorem pi_X6_readNumber : pI yX6_readNumber 6 := ⟨g_in 612 (by decide +kernel) rfl, g_in 6 (by decide +kernel) rfl, (RX6, TX6, 8), rfl, rfl⟩
theorem pl_X6_90 : pL RX6 90 yX6_readNumber := Or.inl (g_in 610 (by decide +kernel) rfl)
theorem py_X6_readClause : pY yX6_readClause cX6_readClause 1 (some .boolean) 0 := ⟨g_in 621 (by decide +kernel) rfl, g_in 105 (by decide +kernel) rfl, by decide, by decide, by decide +kernel⟩
theorem pi_X6_readClause : pI yX6_readClause 6 := ⟨g_in 620 (by decide +kernel) rfl, g_in 7 (by decide +kernel) rfl, (RX6, TX6, 8), rfl, rfl⟩
theorem pl_X6_97 : pL RX6 97 yX6_readClause := Or.inl (g_in 618 (by decide +kernel) rfl)
theorem d_X6_readPart_0 : decAL cX6_readPart 0 0 1 := Or.inr ⟨0, rfl, by decide +kernel, rfl⟩
theorem d_X6_readPart_1 : dec 3 cX6_readPart 1 (.getfield 43) 4 := ⟨by decide +kernel, rfl⟩
theorem d_X6_readPart_4 : dec 3 cX6_readPart 4 (.getfield 63) 7 := ⟨by decide +kernel, rfl⟩
theorem d_X6_readPart_7 : decIS cX6_readPart 7 1 8 := Or.inr ⟨1, rfl, by decide +kernel, rfl⟩
theorem d_X6_readPart_8 : decAL cX6_readPart 8 0 9 := Or.inr ⟨0, rfl, by decide +kernel, rfl⟩
theorem d_X6_readPart_9 : dec 3 cX6_readPart 9 (.getfield 43) 12 := ⟨by decide +kernel, rfl⟩
theorem d_X6_readPart_12 : dec 2 cX6_readPart 12 (.ldc 78) 14 := ⟨by decide +kernel, rfl⟩
theorem d_X6_readPart_14 : dec 3 cX6_readPart 14 (.invokevirtual 79) 17 := ⟨by decide +kernel, rfl⟩
theorem d_X6_readPart_17 : decB cX6_readPart 17 (.ifCond .ne 5) (5) 20 22 := ⟨by decide +kernel, rfl, by decide⟩
theorem d_X6_readPart_20 : dec 1 cX6_readPart 20 (.iconst 0) 21 := ⟨by decide +kernel, rfl⟩
theorem d_X6_readPart_21 : dec 1 cX6_readPart 21 .ireturn 22 := ⟨by decide +kernel, rfl⟩
theorem d_X6_readPart_22 : decAL cX6_readPart 22 0 23 := Or.inr ⟨0, rfl, by decide +kernel, rfl⟩
theorem d_X6_readPart_23 : dec 3 cX6_readPart 23 (.getfield 22) 26 := ⟨by decide +kernel, rfl⟩
theorem d_X6_readPart_26 : dec 2 cX6_readPart 26 (.bipush 12) 28 := ⟨by decide +kernel, rfl⟩
theorem d_X6_readPart_28 : decB cX6_readPart 28 (.if_icmp .lt 9) (9) 31 37 := ⟨by decide +kernel, rfl, by decide⟩
theorem d_X6_readPart_31 : decAL cX6_readPart 31 0 32 := Or.inr ⟨0, rfl, by decide +kernel, rfl⟩
theorem d_X6_readPart_32 : dec 1 cX6_readPart 32 (.iconst 4) 33 := ⟨by decide +kernel, rfl⟩
theorem d_X6_readPart_33 : decIL cX6_readPart 33 1 34 := Or.inr ⟨1, rfl, by decide +kernel, rfl⟩
theorem d_X6_readPart_34 : dec 3 cX6_readPart 34 (.invokevirtual 83) 37 := ⟨by decide +kernel, rfl⟩
theorem d_X6_readPart_37 : decAL cX6_readPart 37 0 38 := Or.inr ⟨0, rfl, by decide +kernel, rfl⟩
theorem d_X6_readPart_38 : decAL cX6_readPart 38 0 39 := Or.inr ⟨0, rfl, by decide +kernel, rfl⟩
theorem d_X6_readPart_39 : dec 3 cX6_readPart 39 (.getfield 22) 42 := ⟨by decide +kernel, rfl⟩
theorem d_X6_readPart_42 : dec 2 cX6_readPart 42 (.bipush 11) 44 := ⟨by decide +kernel, rfl⟩
theorem d_X6_readPart_44 : dec 3 cX6_readPart 44 (.invokestatic 69) 47 := ⟨by decide +kernel, rfl⟩
theorem d_X6_readPart_47 : dec 3 cX6_readPart 47 (.putfield 26) 50 := ⟨by decide +kernel, rfl⟩
theorem d_X6_readPart_50 : decAL cX6_readPart 50 0 51 := Or.inr ⟨0, rfl, by decide +kernel, rfl⟩
theorem d_X6_readPart_51 : dec 1 cX6_readPart 51 .dup 52 := ⟨by decide +kernel, rfl⟩
theorem d_X6_readPart_52 : dec 3 cX6_readPart 52 (.getfield 22) 55 := ⟨by decide +kernel, rfl⟩
theorem d_X6_readPart_55 : dec 1 cX6_readPart 55 (.iconst 1) 56 := ⟨by decide +kernel, rfl⟩
theorem d_X6_readPart_56 : dec 1 cX6_readPart 56 .iadd 57 := ⟨by decide +kernel, rfl⟩
theorem d_X6_readPart_57 : dec 3 cX6_readPart 57 (.putfield 22) 60 := ⟨by decide +kernel, rfl⟩
theorem d_X6_readPart_60 : decAL cX6_readPart 60 0 61 := Or.inr ⟨0, rfl, by decide +kernel, rfl⟩
theorem d_X6_readPart_61 : dec 1 cX6_readPart 61 (.iconst 0) 62 := ⟨by decide +kernel, rfl⟩
theorem d_X6_readPart_62 : dec 3 cX6_readPart 62 (.putfield 29) 65 := ⟨by decide +kernel, rfl⟩
theorem d_X6_readPart_65 : decAL cX6_readPart 65 0 66 := Or.inr ⟨0, rfl, by decide +kernel, rfl⟩
theorem d_X6_readPart_66 : dec 3 cX6_readPart 66 (.invokevirtual 87) 69 := ⟨by decide +kernel, rfl⟩
theorem d_X6_readPart_69 : decB cX6_readPart 69 (.ifCond .eq 10) (10) 72 79 := ⟨by decide +kernel, rfl, by decide⟩
theorem d_X6_readPart_72 : decAL cX6_readPart 72 0 73 := Or.inr ⟨0, rfl, by decide +kernel, rfl⟩
theorem d_X6_readPart_73 : dec 3 cX6_readPart 73 (.invokevirtual 90) 76 := ⟨by decide +kernel, rfl⟩
theorem d_X6_readPart_76 : decB cX6_readPart 76 (.ifCond .ne 5) (5) 79 81 := ⟨by decide +kernel, rfl, by decide⟩
theorem d_X6_readPart_79 : dec 1 cX6_readPart 79 (.iconst 0) 80 := ⟨by decide +kernel, rfl⟩
theorem d_X6_readPart_80 : dec 1 cX6_readPart 80 .ireturn 81 := ⟨by decide +kernel, rfl⟩
theorem d_X6_readPart_81 : dec 1 cX6_readPart 81 (.iconst 0) 82 := ⟨by decide +kernel, rfl⟩
theorem d_X6_readPart_82 : decIS cX6_readPart 82 2 83 := Or.inr ⟨2, rfl, by decide +kernel, rfl⟩
theorem d_X6_readPart_83 : decIL cX6_readPart 83 2 84 := Or.inr ⟨2, rfl, by decide +kernel, rfl⟩
theorem d_X6_readPart_84 : dec 3 cX6_readPart 84 (.sipush 600) 87 := ⟨by decide +kernel, rfl⟩
theorem d_X6_readPart_87 : decB cX6_readPart 87 (.if_icmp .ge 31) (31) 90 118 := ⟨by decide +kernel, rfl, by decide⟩
theorem d_X6_readPart_90 : decAL cX6_readPart 90 0 91 := Or.inr ⟨0, rfl, by decide +kernel, rfl⟩
theorem d_X6_readPart_91 : dec 3 cX6_readPart 91 (.getfield 43) 94 := ⟨by decide +kernel, rfl⟩
theorem d_X6_readPart_94 : dec 1 cX6_readPart 94 (.iconst 3) 95 := ⟨by decide +kernel, rfl⟩
theorem d_X6_readPart_95 : dec 3 cX6_readPart 95 (.invokevirtual 93) 98 := ⟨by decide +kernel, rfl⟩
theorem d_X6_readPart_98 : decB cX6_readPart 98 (.ifCond .eq 5) (5) 101 103 := ⟨by decide +kernel, rfl, by decide⟩
theorem d_X6_readPart_101 : dec 1 cX6_readPart 101 (.iconst 1) 102 := ⟨by decide +kernel, rfl⟩
theorem d_X6_readPart_102 : dec 1 cX6_readPart 102 .ireturn 103 := ⟨by decide +kernel, rfl⟩
theorem d_X6_readPart_103 : decAL cX6_readPart 103 0 104 := Or.inr ⟨0, rfl, by decide +kernel, rfl⟩
theorem d_X6_readPart_104 : dec 3 cX6_readPart 104 (.invokevirtual 97) 107 := ⟨by decide +kernel, rfl⟩
theorem d_X6_readPart_107 : decB cX6_readPart 107 (.ifCond .ne 5) (5) 110 112 := ⟨by decide +kernel, rfl, by decide⟩
theorem d_X6_readPart_110 : dec 1 cX6_readPart 110 (.iconst 0) 111 := ⟨by decide +kernel, rfl⟩
theorem d_X6_readPart_111 : dec 1 cX6_readPart 111 .ireturn 112 := ⟨by decide +kernel, rfl⟩
theorem d_X6_readPart_112 : dec 3 cX6_readPart 112 (.iinc 2 1) 115 := ⟨by decide +kernel, rfl⟩
theorem d_X6_readPart_115 : decB cX6_readPart 115 (.goto (-32)) (-32) 118 83 := ⟨by decide +kernel, rfl, by decide⟩
theorem d_X6_readPart_118 : dec 1 cX6_readPart 118 (.iconst 0) 119 := ⟨by decide +kernel, rfl⟩
theorem d_X6_readPart_119 : dec 1 cX6_readPart 119 .ireturn 120 := ⟨by decide +kernel, rfl⟩
def b_X6_readPart_83 (F : Nat)   (v0 : Nat) (rec83 : Int32 → Nat → GH → Option (Int32 × Nat × GH)) : Int32 → Nat → GH → Option (Int32 × Nat × GH) := fun v2 n G =>
  if (600 : Int32) ≤ v2 then
  (rN .boolean (0 : Int32) n G)
  else (Option.bind (gR G v0 6 0) (fun (x19 : Nat) =>
  cvI G x19 8 (f_X8_take F x19 (3 : Int32) n G) (fun (x22 : Int32) (n20 : Nat) (G21 : GH) =>
  if x22 = 0 then
  (cvI G21 v0 6 (f_X6_readClause F v0 n20 G21) (fun (x25 : Int32) (n23 : Nat) (G24 : GH) =>
  if x25 = 0 then
  (rN .boolean (0 : Int32) n23 G24)
  else (rec83 (v2 + 1) n23 G24)))
  else (rN .boolean (1 : Int32) n20 G21))))
def k_X6_readPart_37 (F : Nat)   (v0 : Nat)  (n : Nat) (G : GH) : Option (Int32 × Nat × GH) :=
  Option.bind (gI G v0 6 3) (fun (x8 : Int32) =>
  Option.bind (pV G v0 6 4 (.int (if (11 : Int32) < x8 then (11 : Int32) else x8))) (fun (G9 : GH) =>
  Option.bind (gI G9 v0 6 3) (fun (x10 : Int32) =>
  Option.bind (pV G9 v0 6 3 (.int (x10 + (1 : Int32)))) (fun (G11 : GH) =>
  Option.bind (pV G11 v0 6 5 (.int (0 : Int32))) (fun (G12 : GH) =>
  cvI G12 v0 6 (f_X6_readAct F v0 n G12) (fun (x15 : Int32) (n13 : Nat) (G14 : GH) =>
  if x15 = 0 then
  (rN .boolean (0 : Int32) n13 G14)
  else (cvI G14 v0 6 (f_X6_readNumber F v0 n13 G14) (fun (x18 : Int32) (n16 : Nat) (G17 : GH) =>
  if x18 = 0 then
  (rN .boolean (0 : Int32) n16 G17)
  else (fixN (fun _ _ _ => none) (b_X6_readPart_83 F   v0) F (0 : Int32) n16 G17)))))))))
def f_X6_readPart (F : Nat)  (v0 : Nat) (n : Nat) (G : GH) : Option (Int32 × Nat × GH) :=
  Option.bind (gR G v0 6 0) (fun (x1 : Nat) =>
  Option.bind (gI G x1 8 3) (fun (x2 : Int32) =>
  Option.bind (gR G v0 6 0) (fun (x3 : Nat) =>
  cvI G x3 8 (f_X8_takeWord F x3 (0) n G) (fun (x6 : Int32) (n4 : Nat) (G5 : GH) =>
  if x6 = 0 then
  (rN .boolean (0 : Int32) n4 G5)
  else (Option.bind (gI G5 v0 6 3) (fun (x7 : Int32) =>
  if x7 < (12 : Int32) then
  (k_X6_readPart_37 F   v0 n4 G5)
  else (cvU G5 v0 6 (f_X6_note F v0 (4 : Int32) x2 n4 G5) (fun (n26 : Nat) (G27 : GH) =>
  k_X6_readPart_37 F   v0 n26 G27))))))))
set_option maxRecDepth 100000 in
set_option maxHeartbeats 4000000 in
theorem l_X6_readPart_83 {E : GE} {F : Nat}   {v0 : Nat}   : ∀ (K : Nat) (v2 : Int32) (n : Nat) (G : GH) (z : Int32 × Nat × GH), fixN ((fun _ _ _ => none) : Int32 → Nat → GH → Option (Int32 × Nat × GH)) (b_X6_readPart_83 F   v0) K v2 n G = some z → WG E RX6 "readPart" cX6_readPart 3 (some .boolean) 7 148 0 0 83 [(0, .ref v0), (2, .int v2)] [] n G (g_O E (some (.int z.1), z.2.1, z.2.2)) := by
  intro K
  refine fixN_ind (P := fun (r : Int32 → Nat → GH → Option (Int32 × Nat × GH)) => ∀ (v2 : Int32) (n : Nat) (G : GH) (z : Int32 × Nat × GH), r v2 n G = some z → WG E RX6 "readPart" cX6_readPart 3 (some .boolean) 7 148 0 0 83 [(0, .ref v0), (2, .int v2)] [] n G (g_O E (some (.int z.1), z.2.1, z.2.2))) ?_ ?_ K
  · intro v2 n G z h
    cases h
  · intro rec83 hrec83 v2 n G z h
    unfold b_X6_readPart_83 at h
    refine r_iload d_X6_readPart_83 rfl ?_
    refine r_sipush d_X6_readPart_84 sp_600 ?_
    refine r_icmp_ge h d_X6_readPart_87 (fun h => ?_) (fun h => ?_)
    · refine r_iconst d_X6_readPart_118 ic_0 ?_
      exact r_zret h d_X6_readPart_119
    · refine r_aload d_X6_readPart_90 rfl ?_
      refine r_getR h d_X6_readPart_91 pf_X6_43 (fun x19 h => ?_)
      refine r_iconst d_X6_readPart_94 ic_3 ?_
      refine r_invI [_] h (fun _ hq => s_X8_take hq) d_X6_readPart_95 pl_X6_93 py_X8_take pi_X8_take rfl rfl rfl (fun x22 n20 G21 h => ?_)
      refine r_if_eq h d_X6_readPart_98 (fun h => ?_) (fun h => ?_)
      · refine r_aload d_X6_readPart_103 rfl ?_
        refine r_invI [] h (fun _ hq => s_X6_readClause hq) d_X6_readPart_104 pl_X6_97 py_X6_readClause pi_X6_readClause rfl rfl rfl (fun x25 n23 G24 h => ?_)
        refine r_if_ne h d_X6_readPart_107 (fun h => ?_) (fun h => ?_)
        · refine r_iinc d_X6_readPart_112 rfl (ii_1 _) rfl rfl ?_
          refine r_goto d_X6_readPart_115 ?_
          refine r_lv [(0, .ref v0), (2, .int (v2 + 1))] (g_allc rfl (g_allc rfl g_alln)) ?_
          exact hrec83 _ _ _ _ h
        · refine r_iconst d_X6_readPart_110 ic_0 ?_
          exact r_zret h d_X6_readPart_111
      · refine r_iconst d_X6_readPart_101 ic_1 ?_
        exact r_zret h d_X6_readPart_102
set_option maxRecDepth 100000 in
set_option maxHeartbeats 4000000 in
theorem c_X6_readPart_37 {E : GE} {F : Nat}   {v0 : Nat}  {n : Nat} {G : GH} {z : Int32 × Nat × GH}   (h : k_X6_readPart_37 F   v0  n G = some z) : WG E RX6 "readPart" cX6_readPart 3 (some .boolean) 7 148 0 0 37 [(0, .ref v0)] [] n G (g_O E (some (.int z.1), z.2.1, z.2.2)) := by
  unfold k_X6_readPart_37 at h
  refine r_aload d_X6_readPart_37 rfl ?_
  refine r_aload d_X6_readPart_38 rfl ?_
  refine r_getI h d_X6_readPart_39 pf_X6_22 (fun x8 h => ?_)
  refine r_bipush d_X6_readPart_42 bp_11 ?_
  refine r_min d_X6_readPart_44 qm_min_l_X6_69 qm_min_s qm_i qm_min_c rfl rfl ?_
  refine r_put h d_X6_readPart_47 pw_X6_26 rfl rfl (fun G9 h => ?_)
  refine r_aload d_X6_readPart_50 rfl ?_
  refine r_dup d_X6_readPart_51 rfl ?_
  refine r_getI h d_X6_readPart_52 pf_X6_22 (fun x10 h => ?_)
  refine r_iconst d_X6_readPart_55 ic_1 ?_
  refine r_iadd d_X6_readPart_56 ?_
  refine r_put h d_X6_readPart_57 pw_X6_22 rfl rfl (fun G11 h => ?_)
  refine r_aload d_X6_readPart_60 rfl ?_
  refine r_iconst d_X6_readPart_61 ic_0 ?_
  refine r_put h d_X6_readPart_62 pw_X6_29 rfl rfl (fun G12 h => ?_)
  refine r_aload d_X6_readPart_65 rfl ?_
  refine r_invI [] h (fun _ hq => s_X6_readAct hq) d_X6_readPart_66 pl_X6_87 py_X6_readAct pi_X6_readAct rfl rfl rfl (fun x15 n13 G14 h => ?_)
  refine r_if_eq h d_X6_readPart_69 (fun h => ?_) (fun h => ?_)
  · refine r_iconst d_X6_readPart_79 ic_0 ?_
    exact r_zret h d_X6_readPart_80
  · refine r_aload d_X6_readPart_72 rfl ?_
    refine r_invI [] h (fun _ hq => s_X6_readNumber hq) d_X6_readPart_73 pl_X6_90 py_X6_readNumber pi_X6_readNumber rfl rfl rfl (fun x18 n16 G17 h => ?_)
    refine r_if_ne h d_X6_readPart_76 (fun h => ?_) (fun h => ?_)
    · refine r_iconst d_X6_readPart_81 ic_0 ?_
      refine r_istore d_X6_readPart_82 rfl rfl ?_
      refine r_lv [(0, .ref v0), (2, .int (0 : Int32))] (g_allc rfl (g_allc rfl g_alln)) ?_
      exact l_X6_readPart_83   _ _ _ _ _ h
    · refine r_iconst d_X6_readPart_79 ic_0 ?_
      exact r_zret h d_X6_readPart_80
set_option maxRecDepth 100000 in
set_option maxHeartbeats 4000000 in
theorem s_X6_readPart {E : GE} {F : Nat}  {v0 : Nat} {n : Nat} {G : GH} {z : Int32 × Nat × GH}  (h : f_X6_readPart F  v0 n G = some z) : GM E yX6_readPart cX6_readPart 3 (some .boolean) 7 148 0 0 [.ref v0] n G (some (.int z.1), z.2.1, z.2.2) := by
  refine GM.of (by decide) (Nat.le_of_ble_eq_true rfl) ?_
  show WG E RX6 "readPart" cX6_readPart 3 (some .boolean) 7 148 0 0 0 [(0, .ref v0)] [] n G (g_O E (some (.int z.1), z.2.1, z.2.2))
  unfold f_X6_readPart at h
  refine r_aload d_X6_readPart_0 rfl ?_
  refine r_getR h d_X6_readPart_1 pf_X6_43 (fun x1 h => ?_)
  refine r_getI h d_X6_readPart_4 pf_X6_63 (fun x2 h => ?_)
  refine r_istore d_X6_readPart_7 rfl rfl ?_
  refine r_aload d_X6_readPart_8 rfl ?_
  refine r_getR h d_X6_readPart_9 pf_X6_43 (fun x3 h => ?_)
  refine r_ldcS 0 rfl d_X6_readPart_12 ?_
  refine r_invI [_] h (fun _ hq => s_X8_takeWord hq) d_X6_readPart_14 pl_X6_79 py_X8_takeWord pi_X8_takeWord rfl rfl rfl (fun x6 n4 G5 h => ?_)
  refine r_if_ne h d_X6_readPart_17 (fun h => ?_) (fun h => ?_)
  · refine r_aload d_X6_readPart_22 rfl ?_
    refine r_getI h d_X6_readPart_23 pf_X6_22 (fun x7 h => ?_)
    refine r_bipush d_X6_readPart_26 bp_12 ?_
    refine r_icmp_lt h d_X6_readPart_28 (fun h => ?_) (fun h => ?_)
    · refine r_lv [(0, .ref v0)] (g_allc rfl g_alln) ?_
      exact c_X6_readPart_37   h
    · refine r_aload d_X6_readPart_31 rfl ?_
      refine r_iconst d_X6_readPart_32 ic_4 ?_
      refine r_iload d_X6_readPart_33 rfl ?_
      refine r_invU [_, _] h (fun _ hq => s_X6_note hq) d_X6_readPart_34 pl_X6_83 py_X6_note pi_X6_note rfl rfl rfl (fun n26 G27 h => ?_)
      refine r_lv [(0, .ref v0)] (g_allc rfl g_alln) ?_
      exact c_X6_readPart_37   h
  · refine r_iconst d_X6_readPart_20 ic_0 ?_
    exact r_zret h d_X6_readPart_21
/-! X6_noteStrangeNeeds -/
theorem d_X6_noteStrangeNeeds_0 : decAL cX6_noteStrangeNeeds 0 0 1 := Or.inr ⟨0, rfl, by decide +kernel, rfl⟩
theorem d_X6_noteStrangeNeeds_1 : dec 3 cX6_noteStrangeNeeds 1 (.getfield 22) 4 := ⟨by decide +kernel, rfl⟩
theorem d_X6_noteStrangeNeeds_4 : decIS cX6_noteStrangeNeeds 4 1 5 := Or.inr ⟨1, rfl, by decide +kernel, rfl⟩
theorem d_X6_noteStrangeNeeds_5 : decIL cX6_noteStrangeNeeds 5 1 6 := Or.inr ⟨1, rfl, by decide +kernel, rfl⟩
theorem d_X6_noteStrangeNeeds_6 : dec 2 cX6_noteStrangeNeeds 6 (.bipush 12) 8 := ⟨by decide +kernel, rfl⟩
theorem d_X6_noteStrangeNeeds_8 : decB cX6_noteStrangeNeeds 8 (.if_icmp .ge 30) (30) 11 38 := ⟨by decide +kernel, rfl, by decide⟩
theorem d_X6_noteStrangeNeeds_11 : decAL cX6_noteStrangeNeeds 11 0 12 := Or.inr ⟨0, rfl, by decide +kernel, rfl⟩
theorem d_X6_noteStrangeNeeds_12 : dec 3 cX6_noteStrangeNeeds 12 (.getfield 18) 15 := ⟨by decide +kernel, rfl⟩
theorem d_X6_noteStrangeNeeds_15 : decIL cX6_noteStrangeNeeds 15 1 16 := Or.inr ⟨1, rfl, by decide +kernel, rfl⟩
theorem d_X6_noteStrangeNeeds_16 : dec 1 cX6_noteStrangeNeeds 16 .iaload 17 := ⟨by decide +kernel, rfl⟩
theorem d_X6_noteStrangeNeeds_17 : dec 1 cX6_noteStrangeNeeds 17 (.iconst (-1)) 18 := ⟨by decide +kernel, rfl⟩
theorem d_X6_noteStrangeNeeds_18 : decB cX6_noteStrangeNeeds 18 (.if_icmp .eq 14) (14) 21 32 := ⟨by decide +kernel, rfl, by decide⟩
theorem d_X6_noteStrangeNeeds_21 : decAL cX6_noteStrangeNeeds 21 0 22 := Or.inr ⟨0, rfl, by decide +kernel, rfl⟩
theorem d_X6_noteStrangeNeeds_22 : dec 1 cX6_noteStrangeNeeds 22 (.iconst 5) 23 := ⟨by decide +kernel, rfl⟩
theorem d_X6_noteStrangeNeeds_23 : decAL cX6_noteStrangeNeeds 23 0 24 := Or.inr ⟨0, rfl, by decide +kernel, rfl⟩
theorem d_X6_noteStrangeNeeds_24 : dec 3 cX6_noteStrangeNeeds 24 (.getfield 18) 27 := ⟨by decide +kernel, rfl⟩
theorem d_X6_noteStrangeNeeds_27 : decIL cX6_noteStrangeNeeds 27 1 28 := Or.inr ⟨1, rfl, by decide +kernel, rfl⟩
theorem d_X6_noteStrangeNeeds_28 : dec 1 cX6_noteStrangeNeeds 28 .iaload 29 := ⟨by decide +kernel, rfl⟩
theorem d_X6_noteStrangeNeeds_29 : dec 3 cX6_noteStrangeNeeds 29 (.invokevirtual 83) 32 := ⟨by decide +kernel, rfl⟩
theorem d_X6_noteStrangeNeeds_32 : dec 3 cX6_noteStrangeNeeds 32 (.iinc 1 1) 35 := ⟨by decide +kernel, rfl⟩
theorem d_X6_noteStrangeNeeds_35 : decB cX6_noteStrangeNeeds 35 (.goto (-30)) (-30) 38 5 := ⟨by decide +kernel, rfl, by decide⟩
theorem d_X6_noteStrangeNeeds_38 : dec 1 cX6_noteStrangeNeeds 38 .return_ 39 := ⟨by decide +kernel, rfl⟩
def b_X6_noteStrangeNeeds_5 (F : Nat)   (v0 : Nat) (rec5 : Int32 → Nat → GH → Option (Nat × GH)) : Int32 → Nat → GH → Option (Nat × GH) := fun v1 n G =>
  if (12 : Int32) ≤ v1 then
  (some (n, G))
  else (Option.bind (gR G v0 6 2) (fun (x2 : Nat) =>
  Option.bind (aI G x2 0 v1) (fun (x3 : Int32) =>
  if x3 = (-1 : Int32) then
  (rec5 (v1 + 1) n G)
  else (Option.bind (gR G v0 6 2) (fun (x4 : Nat) =>
  Option.bind (aI G x4 0 v1) (fun (x5 : Int32) =>
  cvU G v0 6 (f_X6_note F v0 (5 : Int32) x5 n G) (fun (n6 : Nat) (G7 : GH) =>
  rec5 (v1 + 1) n6 G7)))))))
def f_X6_noteStrangeNeeds (F : Nat)  (v0 : Nat) (n : Nat) (G : GH) : Option (Nat × GH) :=
  Option.bind (gI G v0 6 3) (fun (x1 : Int32) =>
  fixN (fun _ _ _ => none) (b_X6_noteStrangeNeeds_5 F   v0) F x1 n G)
set_option maxRecDepth 100000 in
set_option maxHeartbeats 4000000 in
theorem l_X6_noteStrangeNeeds_5 {E : GE} {F : Nat}   {v0 : Nat}   : ∀ (K : Nat) (v1 : Int32) (n : Nat) (G : GH) (z : Nat × GH), fixN ((fun _ _ _ => none) : Int32 → Nat → GH → Option (Nat × GH)) (b_X6_noteStrangeNeeds_5 F   v0) K v1 n G = some z → WG E RX6 "noteStrangeNeeds" cX6_noteStrangeNeeds 2 none 1 22 0 0 5 [(0, .ref v0), (1, .int v1)] [] n G (g_O E (none, z.1, z.2)) := by
  intro K
  refine fixN_ind (P := fun (r : Int32 → Nat → GH → Option (Nat × GH)) => ∀ (v1 : Int32) (n : Nat) (G : GH) (z : Nat × GH), r v1 n G = some z → WG E RX6 "noteStrangeNeeds" cX6_noteStrangeNeeds 2 none 1 22 0 0 5 [(0, .ref v0), (1, .int v1)] [] n G (g_O E (none, z.1, z.2))) ?_ ?_ K
  · intro v1 n G z h
    cases h
  · intro rec5 hrec5 v1 n G z h
    unfold b_X6_noteStrangeNeeds_5 at h
    refine r_iload d_X6_noteStrangeNeeds_5 rfl ?_
    refine r_bipush d_X6_noteStrangeNeeds_6 bp_12 ?_
    refine r_icmp_ge h d_X6_noteStrangeNeeds_8 (fun h => ?_) (fun h => ?_)
    · exact r_vret h d_X6_noteStrangeNeeds_38
    · refine r_aload d_X6_noteStrangeNeeds_11 rfl ?_
      refine r_getR h d_X6_noteStrangeNeeds_12 pf_X6_18 (fun x2 h => ?_)
      refine r_iload d_X6_noteStrangeNeeds_15 rfl ?_
      refine r_iald h d_X6_noteStrangeNeeds_16 (fun x3 h => ?_)
      refine r_iconst d_X6_noteStrangeNeeds_17 ic_m1 ?_
      refine r_icmp_eq h d_X6_noteStrangeNeeds_18 (fun h => ?_) (fun h => ?_)
      · refine r_iinc d_X6_noteStrangeNeeds_32 rfl (ii_1 _) rfl rfl ?_
        refine r_goto d_X6_noteStrangeNeeds_35 ?_
        refine r_lv [(0, .ref v0), (1, .int (v1 + 1))] (g_allc rfl (g_allc rfl g_alln)) ?_
        exact hrec5 _ _ _ _ h
      · refine r_aload d_X6_noteStrangeNeeds_21 rfl ?_
        refine r_iconst d_X6_noteStrangeNeeds_22 ic_5 ?_
        refine r_aload d_X6_noteStrangeNeeds_23 rfl ?_
        refine r_getR h d_X6_noteStrangeNeeds_24 pf_X6_18 (fun x4 h => ?_)
        refine r_iload d_X6_noteStrangeNeeds_27 rfl ?_
        refine r_iald h d_X6_noteStrangeNeeds_28 (fun x5 h => ?_)
        refine r_invU [_, _] h (fun _ hq => s_X6_note hq) d_X6_noteStrangeNeeds_29 pl_X6_83 py_X6_note pi_X6_note rfl rfl rfl (fun n6 G7 h => ?_)
        refine r_iinc d_X6_noteStrangeNeeds_32 rfl (ii_1 _) rfl rfl ?_
        refine r_goto d_X6_noteStrangeNeeds_35 ?_
        refine r_lv [(0, .ref v0), (1, .int (v1 + 1))] (g_allc rfl (g_allc rfl g_alln)) ?_
        exact hrec5 _ _ _ _ h
set_option maxRecDepth 100000 in
set_option maxHeartbeats 4000000 in
theorem s_X6_noteStrangeNeeds {E : GE} {F : Nat}  {v0 : Nat} {n : Nat} {G : GH} {z : Nat × GH}  (h : f_X6_noteStrangeNeeds F  v0 n G = some z) : GM E yX6_noteStrangeNeeds cX6_noteStrangeNeeds 2 none 1 22 0 0 [.ref v0] n G (none, z.1, z.2) := by
  refine GM.of (by decide) (Nat.le_of_ble_eq_true rfl) ?_
  show WG E RX6 "noteStrangeNeeds" cX6_noteStrangeNeeds 2 none 1 22 0 0 0 [(0, .ref v0)] [] n G (g_O E (none, z.1, z.2))
  unfold f_X6_noteStrangeNeeds at h
  refine r_aload d_X6_noteStrangeNeeds_0 rfl ?_
  refine r_getI h d_X6_noteStrangeNeeds_1 pf_X6_22 (fun x1 h => ?_)
  refine r_istore d_X6_noteStrangeNeeds_4 rfl rfl ?_
  refine r_lv [(0, .ref v0), (1, .int x1)] (g_allc rfl (g_allc rfl g_alln)) ?_
  exact l_X6_noteStrangeNeeds_5   _ _ _ _ _ h
/-! X6_readAll -/
theorem py_X6_noteStrangeNeeds : pY yX6_noteStrangeNeeds cX6_noteStrangeNeeds 2 none 0 := ⟨g_in 653 (by decide +kernel) rfl, g_in 105 (by decide +kernel) rfl, by decide, by decide, by decide +kernel⟩
theorem pi_X6_noteStrangeNeeds : pI yX6_noteStrangeNeeds 6 := ⟨g_in 652 (by decide +kernel) rfl, g_in 12 (by decide +kernel) rfl, (RX6, TX6, 8), rfl, rfl⟩
theorem pl_X6_66 : pL RX6 66 yX6_noteStrangeNeeds := Or.inl (g_in 650 (by decide +kernel) rfl)
theorem pw_X6_75 {nm : String} : pW RX6 nm 75 3 0 .int := ⟨RX3, TX3, 9, rfl, by decide, rfl, Or.inr ⟨rfl, "PlugBoard", g_in 178 (by decide +kernel) rfl⟩, by decide +kernel⟩
theorem py_X6_readPart : pY yX6_readPart cX6_readPart 3 (some .boolean) 0 := ⟨g_in 529 (by decide +kernel) rfl, g_in 105 (by decide +kernel) rfl, by decide, by decide, by decide +kernel⟩
theorem pi_X6_readPart : pI yX6_readPart 6 := ⟨g_in 528 (by decide +kernel) rfl, g_in 2 (by decide +kernel) rfl, (RX6, TX6, 8), rfl, rfl⟩
theorem pl_X6_59 : pL RX6 59 yX6_readPart := Or.inl (g_in 526 (by decide +kernel) rfl)
theorem d_X6_readAll_0 : decAL cX6_readAll 0 0 1 := Or.inr ⟨0, rfl, by decide +kernel, rfl⟩
theorem d_X6_readAll_1 : dec 3 cX6_readAll 1 (.getfield 43) 4 := ⟨by decide +kernel, rfl⟩
theorem d_X6_readAll_4 : dec 3 cX6_readAll 4 (.invokevirtual 53) 7 := ⟨by decide +kernel, rfl⟩
theorem d_X6_readAll_7 : dec 1 cX6_readAll 7 (.iconst 0) 8 := ⟨by decide +kernel, rfl⟩
theorem d_X6_readAll_8 : decIS cX6_readAll 8 1 9 := Or.inr ⟨1, rfl, by decide +kernel, rfl⟩
theorem d_X6_readAll_9 : decIL cX6_readAll 9 1 10 := Or.inr ⟨1, rfl, by decide +kernel, rfl⟩
theorem d_X6_readAll_10 : dec 3 cX6_readAll 10 (.sipush 600) 13 := ⟨by decide +kernel, rfl⟩
theorem d_X6_readAll_13 : decB cX6_readAll 13 (.if_icmp .ge 43) (43) 16 56 := ⟨by decide +kernel, rfl, by decide⟩
theorem d_X6_readAll_16 : decAL cX6_readAll 16 0 17 := Or.inr ⟨0, rfl, by decide +kernel, rfl⟩
theorem d_X6_readAll_17 : dec 3 cX6_readAll 17 (.getfield 43) 20 := ⟨by decide +kernel, rfl⟩
theorem d_X6_readAll_20 : dec 3 cX6_readAll 20 (.getfield 56) 23 := ⟨by decide +kernel, rfl⟩
theorem d_X6_readAll_23 : decB cX6_readAll 23 (.ifCond .eq 33) (33) 26 56 := ⟨by decide +kernel, rfl, by decide⟩
theorem d_X6_readAll_26 : decAL cX6_readAll 26 0 27 := Or.inr ⟨0, rfl, by decide +kernel, rfl⟩
theorem d_X6_readAll_27 : dec 3 cX6_readAll 27 (.invokevirtual 59) 30 := ⟨by decide +kernel, rfl⟩
theorem d_X6_readAll_30 : decB cX6_readAll 30 (.ifCond .ne 20) (20) 33 50 := ⟨by decide +kernel, rfl, by decide⟩
theorem d_X6_readAll_33 : decAL cX6_readAll 33 0 34 := Or.inr ⟨0, rfl, by decide +kernel, rfl⟩
theorem d_X6_readAll_34 : dec 1 cX6_readAll 34 (.iconst 1) 35 := ⟨by decide +kernel, rfl⟩
theorem d_X6_readAll_35 : dec 3 cX6_readAll 35 (.putfield 32) 38 := ⟨by decide +kernel, rfl⟩
theorem d_X6_readAll_38 : decAL cX6_readAll 38 0 39 := Or.inr ⟨0, rfl, by decide +kernel, rfl⟩
theorem d_X6_readAll_39 : decAL cX6_readAll 39 0 40 := Or.inr ⟨0, rfl, by decide +kernel, rfl⟩
theorem d_X6_readAll_40 : dec 3 cX6_readAll 40 (.getfield 43) 43 := ⟨by decide +kernel, rfl⟩
theorem d_X6_readAll_43 : dec 3 cX6_readAll 43 (.getfield 63) 46 := ⟨by decide +kernel, rfl⟩
theorem d_X6_readAll_46 : dec 3 cX6_readAll 46 (.putfield 35) 49 := ⟨by decide +kernel, rfl⟩
theorem d_X6_readAll_49 : dec 1 cX6_readAll 49 .return_ 50 := ⟨by decide +kernel, rfl⟩
theorem d_X6_readAll_50 : dec 3 cX6_readAll 50 (.iinc 1 1) 53 := ⟨by decide +kernel, rfl⟩
theorem d_X6_readAll_53 : decB cX6_readAll 53 (.goto (-44)) (-44) 56 9 := ⟨by decide +kernel, rfl, by decide⟩
theorem d_X6_readAll_56 : decAL cX6_readAll 56 0 57 := Or.inr ⟨0, rfl, by decide +kernel, rfl⟩
theorem d_X6_readAll_57 : dec 3 cX6_readAll 57 (.invokevirtual 66) 60 := ⟨by decide +kernel, rfl⟩
theorem d_X6_readAll_60 : decAL cX6_readAll 60 0 61 := Or.inr ⟨0, rfl, by decide +kernel, rfl⟩
theorem d_X6_readAll_61 : dec 3 cX6_readAll 61 (.getfield 32) 64 := ⟨by decide +kernel, rfl⟩
theorem d_X6_readAll_64 : decB cX6_readAll 64 (.ifCond .ne 19) (19) 67 83 := ⟨by decide +kernel, rfl, by decide⟩
theorem d_X6_readAll_67 : decAL cX6_readAll 67 0 68 := Or.inr ⟨0, rfl, by decide +kernel, rfl⟩
theorem d_X6_readAll_68 : dec 3 cX6_readAll 68 (.getfield 12) 71 := ⟨by decide +kernel, rfl⟩
theorem d_X6_readAll_71 : decAL cX6_readAll 71 0 72 := Or.inr ⟨0, rfl, by decide +kernel, rfl⟩
theorem d_X6_readAll_72 : dec 3 cX6_readAll 72 (.getfield 22) 75 := ⟨by decide +kernel, rfl⟩
theorem d_X6_readAll_75 : dec 2 cX6_readAll 75 (.bipush 12) 77 := ⟨by decide +kernel, rfl⟩
theorem d_X6_readAll_77 : dec 3 cX6_readAll 77 (.invokestatic 69) 80 := ⟨by decide +kernel, rfl⟩
theorem d_X6_readAll_80 : dec 3 cX6_readAll 80 (.putfield 75) 83 := ⟨by decide +kernel, rfl⟩
theorem d_X6_readAll_83 : dec 1 cX6_readAll 83 .return_ 84 := ⟨by decide +kernel, rfl⟩
def k_X6_readAll_56 (F : Nat)   (v0 : Nat)  (n : Nat) (G : GH) : Option (Nat × GH) :=
  cvU G v0 6 (f_X6_noteStrangeNeeds F v0 n G) (fun (n4 : Nat) (G5 : GH) =>
  Option.bind (gI G5 v0 6 6) (fun (x6 : Int32) =>
  if x6 = 0 then
  (Option.bind (gR G5 v0 6 1) (fun (x7 : Nat) =>
  Option.bind (gI G5 v0 6 3) (fun (x8 : Int32) =>
  Option.bind (pV G5 x7 3 0 (.int (if (12 : Int32) < x8 then (12 : Int32) else x8))) (fun (G9 : GH) =>
  some (n4, G9)))))
  else (some (n4, G5))))
def k_X6_readAll_33 (F : Nat)   (v0 : Nat)  (n : Nat) (G : GH) : Option (Nat × GH) :=
  Option.bind (pV G v0 6 6 (.int (1 : Int32))) (fun (G15 : GH) =>
  Option.bind (gR G15 v0 6 0) (fun (x16 : Nat) =>
  Option.bind (gI G15 x16 8 3) (fun (x17 : Int32) =>
  Option.bind (pV G15 v0 6 7 (.int x17)) (fun (G18 : GH) =>
  some (n, G18)))))
def b_X6_readAll_9 (F : Nat)   (v0 : Nat) (rec9 : Int32 → Nat → GH → Option (Nat × GH)) : Int32 → Nat → GH → Option (Nat × GH) := fun v1 n G =>
  if (600 : Int32) ≤ v1 then
  (k_X6_readAll_56 F   v0 n G)
  else (Option.bind (gR G v0 6 0) (fun (x10 : Nat) =>
  Option.bind (gI G x10 8 2) (fun (x11 : Int32) =>
  if x11 = 0 then
  (k_X6_readAll_56 F   v0 n G)
  else (cvI G v0 6 (f_X6_readPart F v0 n G) (fun (x14 : Int32) (n12 : Nat) (G13 : GH) =>
  if x14 = 0 then
  (k_X6_readAll_33 F   v0 n12 G13)
  else (rec9 (v1 + 1) n12 G13))))))
def f_X6_readAll (F : Nat)  (v0 : Nat) (n : Nat) (G : GH) : Option (Nat × GH) :=
  Option.bind (gR G v0 6 0) (fun (x1 : Nat) =>
  cvU G x1 8 (f_X8_advance F x1 n G) (fun (n2 : Nat) (G3 : GH) =>
  fixN (fun _ _ _ => none) (b_X6_readAll_9 F   v0) F (0 : Int32) n2 G3))
set_option maxRecDepth 100000 in
set_option maxHeartbeats 4000000 in
theorem c_X6_readAll_56 {E : GE} {F : Nat}   {v0 : Nat}  {n : Nat} {G : GH} {z : Nat × GH}   (h : k_X6_readAll_56 F   v0  n G = some z) : WG E RX6 "readAll" cX6_readAll 2 none 8 170 0 0 56 [(0, .ref v0)] [] n G (g_O E (none, z.1, z.2)) := by
  unfold k_X6_readAll_56 at h
  refine r_aload d_X6_readAll_56 rfl ?_
  refine r_invU [] h (fun _ hq => s_X6_noteStrangeNeeds hq) d_X6_readAll_57 pl_X6_66 py_X6_noteStrangeNeeds pi_X6_noteStrangeNeeds rfl rfl rfl (fun n4 G5 h => ?_)
  refine r_aload d_X6_readAll_60 rfl ?_
  refine r_getI h d_X6_readAll_61 pf_X6_32 (fun x6 h => ?_)
  refine r_if_ne h d_X6_readAll_64 (fun h => ?_) (fun h => ?_)
  · exact r_vret h d_X6_readAll_83
  · refine r_aload d_X6_readAll_67 rfl ?_
    refine r_getR h d_X6_readAll_68 pf_X6_12 (fun x7 h => ?_)
    refine r_aload d_X6_readAll_71 rfl ?_
    refine r_getI h d_X6_readAll_72 pf_X6_22 (fun x8 h => ?_)
    refine r_bipush d_X6_readAll_75 bp_12 ?_
    refine r_min d_X6_readAll_77 qm_min_l_X6_69 qm_min_s qm_i qm_min_c rfl rfl ?_
    refine r_put h d_X6_readAll_80 pw_X6_75 rfl rfl (fun G9 h => ?_)
    exact r_vret h d_X6_readAll_83
set_option maxRecDepth 100000 in
set_option maxHeartbeats 4000000 in
theorem c_X6_readAll_33 {E : GE} {F : Nat}   {v0 : Nat}  {n : Nat} {G : GH} {z : Nat × GH}   (h : k_X6_readAll_33 F   v0  n G = some z) : WG E RX6 "readAll" cX6_readAll 2 none 8 170 0 0 33 [(0, .ref v0)] [] n G (g_O E (none, z.1, z.2)) := by
  unfold k_X6_readAll_33 at h
  refine r_aload d_X6_readAll_33 rfl ?_
  refine r_iconst d_X6_readAll_34 ic_1 ?_
  refine r_put h d_X6_readAll_35 pw_X6_32 rfl rfl (fun G15 h => ?_)
  refine r_aload d_X6_readAll_38 rfl ?_
  refine r_aload d_X6_readAll_39 rfl ?_
  refine r_getR h d_X6_readAll_40 pf_X6_43 (fun x16 h => ?_)
  refine r_getI h d_X6_readAll_43 pf_X6_63 (fun x17 h => ?_)
  refine r_put h d_X6_readAll_46 pw_X6_35 rfl rfl (fun G18 h => ?_)
  exact r_vret h d_X6_readAll_49
set_option maxRecDepth 100000 in
set_option maxHeartbeats 4000000 in
theorem l_X6_readAll_9 {E : GE} {F : Nat}   {v0 : Nat}   : ∀ (K : Nat) (v1 : Int32) (n : Nat) (G : GH) (z : Nat × GH), fixN ((fun _ _ _ => none) : Int32 → Nat → GH → Option (Nat × GH)) (b_X6_readAll_9 F   v0) K v1 n G = some z → WG E RX6 "readAll" cX6_readAll 2 none 8 170 0 0 9 [(0, .ref v0), (1, .int v1)] [] n G (g_O E (none, z.1, z.2)) := by
  intro K
  refine fixN_ind (P := fun (r : Int32 → Nat → GH → Option (Nat × GH)) => ∀ (v1 : Int32) (n : Nat) (G : GH) (z : Nat × GH), r v1 n G = some z → WG E RX6 "readAll" cX6_readAll 2 none 8 170 0 0 9 [(0, .ref v0), (1, .int v1)] [] n G (g_O E (none, z.1, z.2))) ?_ ?_ K
  · intro v1 n G z h
    cases h
  · intro rec9 hrec9 v1 n G z h
    unfold b_X6_readAll_9 at h
    refine r_iload d_X6_readAll_9 rfl ?_
    refine r_sipush d_X6_readAll_10 sp_600 ?_
    refine r_icmp_ge h d_X6_readAll_13 (fun h => ?_) (fun h => ?_)
    · refine r_lv [(0, .ref v0)] (g_allc rfl g_alln) ?_
      exact c_X6_readAll_56   h
    · refine r_aload d_X6_readAll_16 rfl ?_
      refine r_getR h d_X6_readAll_17 pf_X6_43 (fun x10 h => ?_)
      refine r_getI h d_X6_readAll_20 pf_X6_56 (fun x11 h => ?_)
      refine r_if_eq h d_X6_readAll_23 (fun h => ?_) (fun h => ?_)
      · refine r_lv [(0, .ref v0)] (g_allc rfl g_alln) ?_
        exact c_X6_readAll_56   h
      · refine r_aload d_X6_readAll_26 rfl ?_
        refine r_invI [] h (fun _ hq => s_X6_readPart hq) d_X6_readAll_27 pl_X6_59 py_X6_readPart pi_X6_readPart rfl rfl rfl (fun x14 n12 G13 h => ?_)
        refine r_if_ne h d_X6_readAll_30 (fun h => ?_) (fun h => ?_)
        · refine r_iinc d_X6_readAll_50 rfl (ii_1 _) rfl rfl ?_
          refine r_goto d_X6_readAll_53 ?_
          refine r_lv [(0, .ref v0), (1, .int (v1 + 1))] (g_allc rfl (g_allc rfl g_alln)) ?_
          exact hrec9 _ _ _ _ h
        · refine r_lv [(0, .ref v0)] (g_allc rfl g_alln) ?_
          exact c_X6_readAll_33   h
set_option maxRecDepth 100000 in
set_option maxHeartbeats 4000000 in
theorem s_X6_readAll {E : GE} {F : Nat}  {v0 : Nat} {n : Nat} {G : GH} {z : Nat × GH}  (h : f_X6_readAll F  v0 n G = some z) : GM E yX6_readAll cX6_readAll 2 none 8 170 0 0 [.ref v0] n G (none, z.1, z.2) := by
  refine GM.of (by decide) (Nat.le_of_ble_eq_true rfl) ?_
  show WG E RX6 "readAll" cX6_readAll 2 none 8 170 0 0 0 [(0, .ref v0)] [] n G (g_O E (none, z.1, z.2))
  unfold f_X6_readAll at h
  refine r_aload d_X6_readAll_0 rfl ?_
  refine r_getR h d_X6_readAll_1 pf_X6_43 (fun x1 h => ?_)
  refine r_invU [] h (fun _ hq => s_X8_advance hq) d_X6_readAll_4 pl_X6_53 py_X8_advance pi_X8_advance rfl rfl rfl (fun n2 G3 h => ?_)
  refine r_iconst d_X6_readAll_7 ic_0 ?_
  refine r_istore d_X6_readAll_8 rfl rfl ?_
  refine r_lv [(0, .ref v0), (1, .int (0 : Int32))] (g_allc rfl (g_allc rfl g_alln)) ?_
  exact l_X6_readAll_9   _ _ _ _ _ h
