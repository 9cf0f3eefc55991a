/-! X5_init -/
theorem qol_X5_3 : Cond.methodLink RX5 3 objectInit ∈ g_tbl := g_in 368 (by decide +kernel) rfl
theorem pw_X5_9 {nm : String} : pW RX5 nm 9 5 1 .int := ⟨RX5, TX5, 9, rfl, by decide, rfl, Or.inl ⟨g_in 370 (by decide +kernel) rfl, Or.inl rfl⟩, by decide +kernel⟩
theorem pw_X5_15 : pW RX5 "<init>" 15 5 2 (.array .int) := ⟨RX5, TX5, 9, rfl, by decide, rfl, Or.inl ⟨g_in 372 (by decide +kernel) rfl, Or.inr ⟨rfl, rfl, rfl⟩⟩, by decide +kernel⟩
theorem pw_X5_19 : pW RX5 "<init>" 19 5 3 (.array .int) := ⟨RX5, TX5, 9, rfl, by decide, rfl, Or.inl ⟨g_in 374 (by decide +kernel) rfl, Or.inr ⟨rfl, rfl, rfl⟩⟩, by decide +kernel⟩
theorem pw_X5_22 {nm : String} : pW RX5 nm 22 5 4 .int := ⟨RX5, TX5, 9, rfl, by decide, rfl, Or.inl ⟨g_in 376 (by decide +kernel) rfl, Or.inl rfl⟩, by decide +kernel⟩
theorem pw_X5_25 : pW RX5 "<init>" 25 5 5 (.array .int) := ⟨RX5, TX5, 9, rfl, by decide, rfl, Or.inl ⟨g_in 378 (by decide +kernel) rfl, Or.inr ⟨rfl, rfl, rfl⟩⟩, by decide +kernel⟩
theorem pw_X5_28 {nm : String} : pW RX5 nm 28 5 6 .int := ⟨RX5, TX5, 9, rfl, by decide, rfl, Or.inl ⟨g_in 380 (by decide +kernel) rfl, Or.inl rfl⟩, by decide +kernel⟩
theorem pw_X5_31 {nm : String} : pW RX5 nm 31 5 7 .long := ⟨RX5, TX5, 9, rfl, by decide, rfl, Or.inl ⟨g_in 381 (by decide +kernel) rfl, Or.inl rfl⟩, by decide +kernel⟩
theorem pw_X5_35 {nm : String} : pW RX5 nm 35 5 8 .boolean := ⟨RX5, TX5, 9, rfl, by decide, rfl, Or.inl ⟨g_in 382 (by decide +kernel) rfl, Or.inl rfl⟩, by decide +kernel⟩
theorem pw_X5_39 {nm : String} : pW RX5 nm 39 5 0 (.object "PlugBoard$Parts") := ⟨RX5, TX5, 9, rfl, by decide, rfl, Or.inl ⟨g_in 369 (by decide +kernel) rfl, Or.inl rfl⟩, by decide +kernel⟩
theorem d_X5_init_0 : decAL cX5_init 0 0 1 := Or.inr ⟨0, rfl, by decide +kernel, rfl⟩
theorem d_X5_init_1 : dec 3 cX5_init 1 (.invokespecial 3) 4 := ⟨by decide +kernel, rfl⟩
theorem d_X5_init_4 : decAL cX5_init 4 0 5 := Or.inr ⟨0, rfl, by decide +kernel, rfl⟩
theorem d_X5_init_5 : dec 1 cX5_init 5 (.iconst 0) 6 := ⟨by decide +kernel, rfl⟩
theorem d_X5_init_6 : dec 3 cX5_init 6 (.putfield 9) 9 := ⟨by decide +kernel, rfl⟩
theorem d_X5_init_9 : decAL cX5_init 9 0 10 := Or.inr ⟨0, rfl, by decide +kernel, rfl⟩
theorem d_X5_init_10 : dec 2 cX5_init 10 (.bipush 12) 12 := ⟨by decide +kernel, rfl⟩
theorem d_X5_init_12 : dec 2 cX5_init 12 (.newarray .int) 14 := ⟨by decide +kernel, rfl⟩
theorem d_X5_init_14 : dec 3 cX5_init 14 (.putfield 15) 17 := ⟨by decide +kernel, rfl⟩
theorem d_X5_init_17 : decAL cX5_init 17 0 18 := Or.inr ⟨0, rfl, by decide +kernel, rfl⟩
theorem d_X5_init_18 : dec 2 cX5_init 18 (.bipush 12) 20 := ⟨by decide +kernel, rfl⟩
theorem d_X5_init_20 : dec 2 cX5_init 20 (.newarray .int) 22 := ⟨by decide +kernel, rfl⟩
theorem d_X5_init_22 : dec 3 cX5_init 22 (.putfield 19) 25 := ⟨by decide +kernel, rfl⟩
theorem d_X5_init_25 : decAL cX5_init 25 0 26 := Or.inr ⟨0, rfl, by decide +kernel, rfl⟩
theorem d_X5_init_26 : dec 1 cX5_init 26 (.iconst 0) 27 := ⟨by decide +kernel, rfl⟩
theorem d_X5_init_27 : dec 3 cX5_init 27 (.putfield 22) 30 := ⟨by decide +kernel, rfl⟩
theorem d_X5_init_30 : decAL cX5_init 30 0 31 := Or.inr ⟨0, rfl, by decide +kernel, rfl⟩
theorem d_X5_init_31 : dec 2 cX5_init 31 (.bipush 12) 33 := ⟨by decide +kernel, rfl⟩
theorem d_X5_init_33 : dec 2 cX5_init 33 (.newarray .int) 35 := ⟨by decide +kernel, rfl⟩
theorem d_X5_init_35 : dec 3 cX5_init 35 (.putfield 25) 38 := ⟨by decide +kernel, rfl⟩
theorem d_X5_init_38 : decAL cX5_init 38 0 39 := Or.inr ⟨0, rfl, by decide +kernel, rfl⟩
theorem d_X5_init_39 : dec 2 cX5_init 39 (.bipush (-3)) 41 := ⟨by decide +kernel, rfl⟩
theorem d_X5_init_41 : dec 3 cX5_init 41 (.putfield 28) 44 := ⟨by decide +kernel, rfl⟩
theorem d_X5_init_44 : decAL cX5_init 44 0 45 := Or.inr ⟨0, rfl, by decide +kernel, rfl⟩
theorem d_X5_init_45 : dec 1 cX5_init 45 (.lconst 0) 46 := ⟨by decide +kernel, rfl⟩
theorem d_X5_init_46 : dec 3 cX5_init 46 (.putfield 31) 49 := ⟨by decide +kernel, rfl⟩
theorem d_X5_init_49 : decAL cX5_init 49 0 50 := Or.inr ⟨0, rfl, by decide +kernel, rfl⟩
theorem d_X5_init_50 : dec 1 cX5_init 50 (.iconst 0) 51 := ⟨by decide +kernel, rfl⟩
theorem d_X5_init_51 : dec 3 cX5_init 51 (.putfield 35) 54 := ⟨by decide +kernel, rfl⟩
theorem d_X5_init_54 : decAL cX5_init 54 0 55 := Or.inr ⟨0, rfl, by decide +kernel, rfl⟩
theorem d_X5_init_55 : decAL cX5_init 55 1 56 := Or.inr ⟨1, rfl, by decide +kernel, rfl⟩
theorem d_X5_init_56 : dec 3 cX5_init 56 (.putfield 39) 59 := ⟨by decide +kernel, rfl⟩
theorem d_X5_init_59 : dec 1 cX5_init 59 .return_ 60 := ⟨by decide +kernel, rfl⟩
def f_X5_init (F : Nat)  (v0 : Nat) (v1 : Nat) (n : Nat) (G : GH) : Option (Nat × GH) :=
  Option.bind (pV G v0 5 1 (.int (0 : Int32))) (fun (G1 : GH) =>
  Option.bind (pV (gset G1 n (.inl (0, 12, .inl (fun _ => 0)))) v0 5 2 (.ref n)) (fun (G2 : GH) =>
  Option.bind (pV (gset G2 (n + 1) (.inl (0, 12, .inl (fun _ => 0)))) v0 5 3 (.ref (n + 1))) (fun (G3 : GH) =>
  Option.bind (pV G3 v0 5 4 (.int (0 : Int32))) (fun (G4 : GH) =>
  Option.bind (pV (gset G4 ((n + 1) + 1) (.inl (0, 12, .inl (fun _ => 0)))) v0 5 5 (.ref ((n + 1) + 1))) (fun (G5 : GH) =>
  Option.bind (pV G5 v0 5 6 (.int (-3 : Int32))) (fun (G6 : GH) =>
  Option.bind (pV G6 v0 5 7 (.long (0 : Int64))) (fun (G7 : GH) =>
  Option.bind (pV G7 v0 5 8 (.int (0 : Int32))) (fun (G8 : GH) =>
  Option.bind (pV G8 v0 5 0 (.ref v1)) (fun (G9 : GH) =>
  some (((n + 1) + 1) + 1, G9))))))))))
set_option maxRecDepth 100000 in
set_option maxHeartbeats 4000000 in
theorem s_X5_init {E : GE} {F : Nat}  {v0 : Nat} {v1 : Nat} {n : Nat} {G : GH} {z : Nat × GH}  (h : f_X5_init F  v0 v1 n G = some z) : GM E yX5_init cX5_init 2 none 1 40 3 36 [.ref v0, .ref v1] n G (none, z.1, z.2) := by
  refine GM.of (by decide) (Nat.le_of_ble_eq_true rfl) ?_
  show WG E RX5 "<init>" cX5_init 2 none 1 40 3 36 0 [(0, .ref v0), (1, .ref v1)] [] n G (g_O E (none, z.1, z.2))
  unfold f_X5_init at h
  refine r_aload d_X5_init_0 rfl ?_
  refine r_obj d_X5_init_1 qol_X5_3 qoi qoc rfl rfl ?_
  refine r_aload d_X5_init_4 rfl ?_
  refine r_iconst d_X5_init_5 ic_0 ?_
  refine r_put h d_X5_init_6 pw_X5_9 rfl rfl (fun G1 h => ?_)
  refine r_aload d_X5_init_9 rfl ?_
  refine r_bipush d_X5_init_10 bp_12 ?_
  refine r_newaI (N := 12) d_X5_init_12 qa_int (by decide) (by decide) rfl rfl rfl ?_
  refine r_put h d_X5_init_14 pw_X5_15 rfl rfl (fun G2 h => ?_)
  refine r_aload d_X5_init_17 rfl ?_
  refine r_bipush d_X5_init_18 bp_12 ?_
  refine r_newaI (N := 12) d_X5_init_20 qa_int (by decide) (by decide) rfl rfl rfl ?_
  refine r_put h d_X5_init_22 pw_X5_19 rfl rfl (fun G3 h => ?_)
  refine r_aload d_X5_init_25 rfl ?_
  refine r_iconst d_X5_init_26 ic_0 ?_
  refine r_put h d_X5_init_27 pw_X5_22 rfl rfl (fun G4 h => ?_)
  refine r_aload d_X5_init_30 rfl ?_
  refine r_bipush d_X5_init_31 bp_12 ?_
  refine r_newaI (N := 12) d_X5_init_33 qa_int (by decide) (by decide) rfl rfl rfl ?_
  refine r_put h d_X5_init_35 pw_X5_25 rfl rfl (fun G5 h => ?_)
  refine r_aload d_X5_init_38 rfl ?_
  refine r_bipush d_X5_init_39 bp_m3 ?_
  refine r_put h d_X5_init_41 pw_X5_28 rfl rfl (fun G6 h => ?_)
  refine r_aload d_X5_init_44 rfl ?_
  refine r_lconst d_X5_init_45 lc_0 ?_
  refine r_put h d_X5_init_46 pw_X5_31 rfl rfl (fun G7 h => ?_)
  refine r_aload d_X5_init_49 rfl ?_
  refine r_iconst d_X5_init_50 ic_0 ?_
  refine r_put h d_X5_init_51 pw_X5_35 rfl rfl (fun G8 h => ?_)
  refine r_aload d_X5_init_54 rfl ?_
  refine r_aload d_X5_init_55 rfl ?_
  refine r_put h d_X5_init_56 pw_X5_39 rfl rfl (fun G9 h => ?_)
  exact r_vret h d_X5_init_59
/-! X5_leastReady -/
theorem pf_X5_39 : pF RX5 39 5 0 := ⟨RX5, TX5, 9, rfl, by decide, rfl, Or.inl (g_in 369 (by decide +kernel) rfl)⟩
theorem pf_X5_55 : pF RX5 55 3 0 := ⟨RX3, TX3, 9, rfl, by decide, rfl, Or.inr ⟨"PlugBoard", g_in 179 (by decide +kernel) rfl⟩⟩
theorem py_X3_needBits : pY yX3_needBits cX3_needBits 9 (some .int) 3 := ⟨g_in 938 (by decide +kernel) rfl, g_in 97 (by decide +kernel) rfl, by decide, by decide, by decide +kernel⟩
theorem pi_X3_needBits : pI yX3_needBits 3 := ⟨g_in 936 (by decide +kernel) rfl, g_in 937 (by decide +kernel) rfl, (RX3, TX3, 9), rfl, rfl⟩
theorem pl_X5_64 : pL RX5 64 yX3_needBits := Or.inl (g_in 935 (by decide +kernel) rfl)
theorem d_X5_leastReady_0 : dec 1 cX5_leastReady 0 (.iconst 0) 1 := ⟨by decide +kernel, rfl⟩
theorem d_X5_leastReady_1 : decIS cX5_leastReady 1 2 2 := Or.inr ⟨2, rfl, by decide +kernel, rfl⟩
theorem d_X5_leastReady_2 : decIL cX5_leastReady 2 2 3 := Or.inr ⟨2, rfl, by decide +kernel, rfl⟩
theorem d_X5_leastReady_3 : decAL cX5_leastReady 3 0 4 := Or.inr ⟨0, rfl, by decide +kernel, rfl⟩
theorem d_X5_leastReady_4 : dec 3 cX5_leastReady 4 (.getfield 39) 7 := ⟨by decide +kernel, rfl⟩
theorem d_X5_leastReady_7 : dec 3 cX5_leastReady 7 (.getfield 55) 10 := ⟨by decide +kernel, rfl⟩
theorem d_X5_leastReady_10 : decB cX5_leastReady 10 (.if_icmp .ge 46) (46) 13 56 := ⟨by decide +kernel, rfl, by decide⟩
theorem d_X5_leastReady_13 : decAL cX5_leastReady 13 0 14 := Or.inr ⟨0, rfl, by decide +kernel, rfl⟩
theorem d_X5_leastReady_14 : dec 3 cX5_leastReady 14 (.getfield 39) 17 := ⟨by decide +kernel, rfl⟩
theorem d_X5_leastReady_17 : decIL cX5_leastReady 17 2 18 := Or.inr ⟨2, rfl, by decide +kernel, rfl⟩
theorem d_X5_leastReady_18 : dec 1 cX5_leastReady 18 (.iconst 0) 19 := ⟨by decide +kernel, rfl⟩
theorem d_X5_leastReady_19 : dec 1 cX5_leastReady 19 (.lconst 0) 20 := ⟨by decide +kernel, rfl⟩
theorem d_X5_leastReady_20 : dec 3 cX5_leastReady 20 (.invokevirtual 64) 23 := ⟨by decide +kernel, rfl⟩
theorem d_X5_leastReady_23 : decIL cX5_leastReady 23 1 24 := Or.inr ⟨1, rfl, by decide +kernel, rfl⟩
theorem d_X5_leastReady_24 : dec 1 cX5_leastReady 24 (.iconst (-1)) 25 := ⟨by decide +kernel, rfl⟩
theorem d_X5_leastReady_25 : dec 1 cX5_leastReady 25 .ixor 26 := ⟨by decide +kernel, rfl⟩
theorem d_X5_leastReady_26 : dec 1 cX5_leastReady 26 .iand 27 := ⟨by decide +kernel, rfl⟩
theorem d_X5_leastReady_27 : decB cX5_leastReady 27 (.ifCond .eq 7) (7) 30 34 := ⟨by decide +kernel, rfl, by decide⟩
theorem d_X5_leastReady_30 : dec 1 cX5_leastReady 30 (.iconst 1) 31 := ⟨by decide +kernel, rfl⟩
theorem d_X5_leastReady_31 : decB cX5_leastReady 31 (.goto 4) (4) 34 35 := ⟨by decide +kernel, rfl, by decide⟩
theorem d_X5_leastReady_34 : dec 1 cX5_leastReady 34 (.iconst 0) 35 := ⟨by decide +kernel, rfl⟩
theorem d_X5_leastReady_35 : decIS cX5_leastReady 35 3 36 := Or.inr ⟨3, rfl, by decide +kernel, rfl⟩
theorem d_X5_leastReady_36 : decIL cX5_leastReady 36 1 37 := Or.inr ⟨1, rfl, by decide +kernel, rfl⟩
theorem d_X5_leastReady_37 : dec 1 cX5_leastReady 37 (.iconst 1) 38 := ⟨by decide +kernel, rfl⟩
theorem d_X5_leastReady_38 : decIL cX5_leastReady 38 2 39 := Or.inr ⟨2, rfl, by decide +kernel, rfl⟩
theorem d_X5_leastReady_39 : dec 1 cX5_leastReady 39 .ishl 40 := ⟨by decide +kernel, rfl⟩
theorem d_X5_leastReady_40 : dec 1 cX5_leastReady 40 .iand 41 := ⟨by decide +kernel, rfl⟩
theorem d_X5_leastReady_41 : decB cX5_leastReady 41 (.ifCond .ne 9) (9) 44 50 := ⟨by decide +kernel, rfl, by decide⟩
theorem d_X5_leastReady_44 : decIL cX5_leastReady 44 3 45 := Or.inr ⟨3, rfl, by decide +kernel, rfl⟩
theorem d_X5_leastReady_45 : decB cX5_leastReady 45 (.ifCond .ne 5) (5) 48 50 := ⟨by decide +kernel, rfl, by decide⟩
theorem d_X5_leastReady_48 : decIL cX5_leastReady 48 2 49 := Or.inr ⟨2, rfl, by decide +kernel, rfl⟩
theorem d_X5_leastReady_49 : dec 1 cX5_leastReady 49 .ireturn 50 := ⟨by decide +kernel, rfl⟩
theorem d_X5_leastReady_50 : dec 3 cX5_leastReady 50 (.iinc 2 1) 53 := ⟨by decide +kernel, rfl⟩
theorem d_X5_leastReady_53 : decB cX5_leastReady 53 (.goto (-51)) (-51) 56 2 := ⟨by decide +kernel, rfl, by decide⟩
theorem d_X5_leastReady_56 : dec 1 cX5_leastReady 56 (.iconst (-1)) 57 := ⟨by decide +kernel, rfl⟩
theorem d_X5_leastReady_57 : dec 1 cX5_leastReady 57 .ireturn 58 := ⟨by decide +kernel, rfl⟩
def k_X5_leastReady_35 (F : Nat)  (rec2 : Int32 → Option (Int32)) (v0 : Nat) (v1 : Int32) (v2 : Int32) (s0 : Int32) (G : GH) : Option (Int32) :=
  if (v1 &&& ((1 : Int32) <<< (v2 &&& 31))) = 0 then
  (if s0 = 0 then
  (some v2)
  else (rec2 (v2 + 1)))
  else (rec2 (v2 + 1))
def b_X5_leastReady_2 (F : Nat)   (v0 : Nat) (v1 : Int32) (G : GH) (rec2 : Int32 → Option (Int32)) : Int32 → Option (Int32) := fun v2 =>
  Option.bind (gR G v0 5 0) (fun (x1 : Nat) =>
  Option.bind (gI G x1 3 0) (fun (x2 : Int32) =>
  if x2 ≤ v2 then
  (some (-1 : Int32))
  else (Option.bind (gR G v0 5 0) (fun (x3 : Nat) =>
  cvP G x3 3 (f_X3_needBits F x3 v2 (0 : Int32) (0 : Int64) G) (fun (x4 : Int32) =>
  if (x4 &&& (v1 ^^^ (-1 : Int32))) = 0 then
  (k_X5_leastReady_35 F  rec2 v0 v1 v2 (0 : Int32) G)
  else (k_X5_leastReady_35 F  rec2 v0 v1 v2 (1 : Int32) G))))))
def f_X5_leastReady (F : Nat)  (v0 : Nat) (v1 : Int32) (G : GH) : Option (Int32) :=
  fixN (fun _ => none) (b_X5_leastReady_2 F   v0 v1 G) F (0 : Int32)
set_option maxRecDepth 100000 in
set_option maxHeartbeats 4000000 in
theorem c_X5_leastReady_35 {E : GE} {F : Nat}  {rec2 : Int32 → Option (Int32)} {v0 : Nat} {v1 : Int32} {v2 : Int32} {s0 : Int32} {n : Nat} {G : GH} {z : Int32}  (hrec2 : ∀ (w2 : Int32) (z : Int32), rec2 w2 = some z → WG E RX5 "leastReady" cX5_leastReady 4 (some .int) 2 50 0 0 2 [(0, .ref v0), (1, .int v1), (2, .int w2)] [] n G (g_O E (some (.int z), n, G))) (h : k_X5_leastReady_35 F  rec2 v0 v1 v2 s0 G = some z) : WG E RX5 "leastReady" cX5_leastReady 4 (some .int) 2 50 0 0 35 [(0, .ref v0), (1, .int v1), (2, .int v2)] [.int s0] n G (g_O E (some (.int z), n, G)) := by
  unfold k_X5_leastReady_35 at h
  refine r_istore d_X5_leastReady_35 rfl rfl ?_
  refine r_iload d_X5_leastReady_36 rfl ?_
  refine r_iconst d_X5_leastReady_37 ic_1 ?_
  refine r_iload d_X5_leastReady_38 rfl ?_
  refine r_ishl d_X5_leastReady_39 ?_
  refine r_iand d_X5_leastReady_40 ?_
  refine r_if_ne h d_X5_leastReady_41 (fun h => ?_) (fun h => ?_)
  · refine r_iinc d_X5_leastReady_50 rfl (ii_1 _) rfl rfl ?_
    refine r_goto d_X5_leastReady_53 ?_
    refine r_lv [(0, .ref v0), (1, .int v1), (2, .int (v2 + 1))] (g_allc rfl (g_allc rfl (g_allc rfl g_alln))) ?_
    exact hrec2 _ _ h
  · refine r_iload d_X5_leastReady_44 rfl ?_
    refine r_if_ne h d_X5_leastReady_45 (fun h => ?_) (fun h => ?_)
    · refine r_iinc d_X5_leastReady_50 rfl (ii_1 _) rfl rfl ?_
      refine r_goto d_X5_leastReady_53 ?_
      refine r_lv [(0, .ref v0), (1, .int v1), (2, .int (v2 + 1))] (g_allc rfl (g_allc rfl (g_allc rfl g_alln))) ?_
      exact hrec2 _ _ h
    · refine r_iload d_X5_leastReady_48 rfl ?_
      exact r_pret h d_X5_leastReady_49
set_option maxRecDepth 100000 in
set_option maxHeartbeats 4000000 in
theorem l_X5_leastReady_2 {E : GE} {F : Nat}   {v0 : Nat} {v1 : Int32} {n : Nat} {G : GH}   : ∀ (K : Nat) (v2 : Int32) (z : Int32), fixN ((fun _ => none) : Int32 → Option (Int32)) (b_X5_leastReady_2 F   v0 v1 G) K v2 = some z → WG E RX5 "leastReady" cX5_leastReady 4 (some .int) 2 50 0 0 2 [(0, .ref v0), (1, .int v1), (2, .int v2)] [] n G (g_O E (some (.int z), n, G)) := by
  intro K
  refine fixN_ind (P := fun (r : Int32 → Option (Int32)) => ∀ (v2 : Int32) (z : Int32), r v2 = some z → WG E RX5 "leastReady" cX5_leastReady 4 (some .int) 2 50 0 0 2 [(0, .ref v0), (1, .int v1), (2, .int v2)] [] n G (g_O E (some (.int z), n, G))) ?_ ?_ K
  · intro v2 z h
    cases h
  · intro rec2 hrec2 v2 z h
    unfold b_X5_leastReady_2 at h
    refine r_iload d_X5_leastReady_2 rfl ?_
    refine r_aload d_X5_leastReady_3 rfl ?_
    refine r_getR h d_X5_leastReady_4 pf_X5_39 (fun x1 h => ?_)
    refine r_getI h d_X5_leastReady_7 pf_X5_55 (fun x2 h => ?_)
    refine r_icmp_ge h d_X5_leastReady_10 (fun h => ?_) (fun h => ?_)
    · refine r_iconst d_X5_leastReady_56 ic_m1 ?_
      exact r_pret h d_X5_leastReady_57
    · refine r_aload d_X5_leastReady_13 rfl ?_
      refine r_getR h d_X5_leastReady_14 pf_X5_39 (fun x3 h => ?_)
      refine r_iload d_X5_leastReady_17 rfl ?_
      refine r_iconst d_X5_leastReady_18 ic_0 ?_
      refine r_lconst d_X5_leastReady_19 lc_0 ?_
      refine r_invP [_, _, _] h (fun _ hq => s_X3_needBits hq) d_X5_leastReady_20 pl_X5_64 py_X3_needBits pi_X3_needBits rfl rfl rfl (fun x4 h => ?_)
      refine r_iload d_X5_leastReady_23 rfl ?_
      refine r_iconst d_X5_leastReady_24 ic_m1 ?_
      refine r_ixor d_X5_leastReady_25 ?_
      refine r_iand d_X5_leastReady_26 ?_
      refine r_if_eq h d_X5_leastReady_27 (fun h => ?_) (fun h => ?_)
      · refine r_iconst d_X5_leastReady_34 ic_0 ?_
        refine r_lv [(0, .ref v0), (1, .int v1), (2, .int v2)] (g_allc rfl (g_allc rfl (g_allc rfl g_alln))) ?_
        exact c_X5_leastReady_35  hrec2 h
      · refine r_iconst d_X5_leastReady_30 ic_1 ?_
        refine r_goto d_X5_leastReady_31 ?_
        refine r_lv [(0, .ref v0), (1, .int v1), (2, .int v2)] (g_allc rfl (g_allc rfl (g_allc rfl g_alln))) ?_
        exact c_X5_leastReady_35  hrec2 h
set_option maxRecDepth 100000 in
set_option maxHeartbeats 4000000 in
theorem s_X5_leastReady {E : GE} {F : Nat}  {v0 : Nat} {v1 : Int32} {n : Nat} {G : GH} {z : Int32}  (h : f_X5_leastReady F  v0 v1 G = some z) : GM E yX5_leastReady cX5_leastReady 4 (some .int) 2 50 0 0 [.ref v0, .int v1] n G (some (.int z), n, G) := by
  refine GM.of (by decide) (Nat.le_of_ble_eq_true rfl) ?_
  show WG E RX5 "leastReady" cX5_leastReady 4 (some .int) 2 50 0 0 0 [(0, .ref v0), (1, .int v1)] [] n G (g_O E (some (.int z), n, G))
  unfold f_X5_leastReady at h
  refine r_iconst d_X5_leastReady_0 ic_0 ?_
  refine r_istore d_X5_leastReady_1 rfl rfl ?_
  refine r_lv [(0, .ref v0), (1, .int v1), (2, .int (0 : Int32))] (g_allc rfl (g_allc rfl (g_allc rfl g_alln))) ?_
  exact l_X5_leastReady_2   _ _ _ h
/-! X5_waveAbove -/
theorem pf_X5_19 : pF RX5 19 5 3 := ⟨RX5, TX5, 9, rfl, by decide, rfl, Or.inl (g_in 374 (by decide +kernel) rfl)⟩
theorem qm_max_l_X5_71 : Cond.methodLink RX5 71 Lib.Math.max.name ∈ g_tbl := g_in 944 (by decide +kernel) rfl
theorem qm_max_s : Cond.static Lib.Math.max.name ∈ g_tbl := g_in 847 (by decide +kernel) rfl
theorem qm_max_c : Cond.code Lib.Math.max.name Lib.Math.max.code 2 (some .int) ∈ g_tbl := g_in 848 (by decide +kernel) rfl
theorem d_X5_waveAbove_0 : dec 1 cX5_waveAbove 0 (.iconst 0) 1 := ⟨by decide +kernel, rfl⟩
theorem d_X5_waveAbove_1 : decIS cX5_waveAbove 1 2 2 := Or.inr ⟨2, rfl, by decide +kernel, rfl⟩
theorem d_X5_waveAbove_2 : dec 1 cX5_waveAbove 2 (.iconst 0) 3 := ⟨by decide +kernel, rfl⟩
theorem d_X5_waveAbove_3 : decIS cX5_waveAbove 3 3 4 := Or.inr ⟨3, rfl, by decide +kernel, rfl⟩
theorem d_X5_waveAbove_4 : decIL cX5_waveAbove 4 3 5 := Or.inr ⟨3, rfl, by decide +kernel, rfl⟩
theorem d_X5_waveAbove_5 : decAL cX5_waveAbove 5 0 6 := Or.inr ⟨0, rfl, by decide +kernel, rfl⟩
theorem d_X5_waveAbove_6 : dec 3 cX5_waveAbove 6 (.getfield 39) 9 := ⟨by decide +kernel, rfl⟩
theorem d_X5_waveAbove_9 : dec 3 cX5_waveAbove 9 (.getfield 55) 12 := ⟨by decide +kernel, rfl⟩
theorem d_X5_waveAbove_12 : decB cX5_waveAbove 12 (.if_icmp .ge 30) (30) 15 42 := ⟨by decide +kernel, rfl, by decide⟩
theorem d_X5_waveAbove_15 : decIL cX5_waveAbove 15 1 16 := Or.inr ⟨1, rfl, by decide +kernel, rfl⟩
theorem d_X5_waveAbove_16 : dec 1 cX5_waveAbove 16 (.iconst 1) 17 := ⟨by decide +kernel, rfl⟩
theorem d_X5_waveAbove_17 : decIL cX5_waveAbove 17 3 18 := Or.inr ⟨3, rfl, by decide +kernel, rfl⟩
theorem d_X5_waveAbove_18 : dec 1 cX5_waveAbove 18 .ishl 19 := ⟨by decide +kernel, rfl⟩
theorem d_X5_waveAbove_19 : dec 1 cX5_waveAbove 19 .iand 20 := ⟨by decide +kernel, rfl⟩
theorem d_X5_waveAbove_20 : decB cX5_waveAbove 20 (.ifCond .eq 16) (16) 23 36 := ⟨by decide +kernel, rfl, by decide⟩
theorem d_X5_waveAbove_23 : decIL cX5_waveAbove 23 2 24 := Or.inr ⟨2, rfl, by decide +kernel, rfl⟩
theorem d_X5_waveAbove_24 : decAL cX5_waveAbove 24 0 25 := Or.inr ⟨0, rfl, by decide +kernel, rfl⟩
theorem d_X5_waveAbove_25 : dec 3 cX5_waveAbove 25 (.getfield 19) 28 := ⟨by decide +kernel, rfl⟩
theorem d_X5_waveAbove_28 : decIL cX5_waveAbove 28 3 29 := Or.inr ⟨3, rfl, by decide +kernel, rfl⟩
theorem d_X5_waveAbove_29 : dec 1 cX5_waveAbove 29 .iaload 30 := ⟨by decide +kernel, rfl⟩
theorem d_X5_waveAbove_30 : dec 1 cX5_waveAbove 30 (.iconst 1) 31 := ⟨by decide +kernel, rfl⟩
theorem d_X5_waveAbove_31 : dec 1 cX5_waveAbove 31 .iadd 32 := ⟨by decide +kernel, rfl⟩
theorem d_X5_waveAbove_32 : dec 3 cX5_waveAbove 32 (.invokestatic 71) 35 := ⟨by decide +kernel, rfl⟩
theorem d_X5_waveAbove_35 : decIS cX5_waveAbove 35 2 36 := Or.inr ⟨2, rfl, by decide +kernel, rfl⟩
theorem d_X5_waveAbove_36 : dec 3 cX5_waveAbove 36 (.iinc 3 1) 39 := ⟨by decide +kernel, rfl⟩
theorem d_X5_waveAbove_39 : decB cX5_waveAbove 39 (.goto (-35)) (-35) 42 4 := ⟨by decide +kernel, rfl, by decide⟩
theorem d_X5_waveAbove_42 : decIL cX5_waveAbove 42 2 43 := Or.inr ⟨2, rfl, by decide +kernel, rfl⟩
theorem d_X5_waveAbove_43 : dec 1 cX5_waveAbove 43 .ireturn 44 := ⟨by decide +kernel, rfl⟩
def b_X5_waveAbove_4 (F : Nat)   (v0 : Nat) (v1 : Int32) (G : GH) (rec4 : Int32 → Int32 → Option (Int32)) : Int32 → Int32 → Option (Int32) := fun v2 v3 =>
  Option.bind (gR G v0 5 0) (fun (x1 : Nat) =>
  Option.bind (gI G x1 3 0) (fun (x2 : Int32) =>
  if x2 ≤ v3 then
  (some v2)
  else (if (v1 &&& ((1 : Int32) <<< (v3 &&& 31))) = 0 then
  (rec4 v2 (v3 + 1))
  else (Option.bind (gR G v0 5 3) (fun (x3 : Nat) =>
  Option.bind (aI G x3 0 v3) (fun (x4 : Int32) =>
  gnm (if v2 < (x4 + (1 : Int32)) then (x4 + (1 : Int32)) else v2) (fun (y5 : Int32) =>
  rec4 y5 (v3 + 1))))))))
def f_X5_waveAbove (F : Nat)  (v0 : Nat) (v1 : Int32) (G : GH) : Option (Int32) :=
  fixN (fun _ _ => none) (b_X5_waveAbove_4 F   v0 v1 G) F (0 : Int32) (0 : Int32)
set_option maxRecDepth 100000 in
set_option maxHeartbeats 4000000 in
theorem l_X5_waveAbove_4 {E : GE} {F : Nat}   {v0 : Nat} {v1 : Int32} {n : Nat} {G : GH}   : ∀ (K : Nat) (v2 : Int32) (v3 : Int32) (z : Int32), fixN ((fun _ _ => none) : Int32 → Int32 → Option (Int32)) (b_X5_waveAbove_4 F   v0 v1 G) K v2 v3 = some z → WG E RX5 "waveAbove" cX5_waveAbove 4 (some .int) 1 40 0 0 4 [(0, .ref v0), (1, .int v1), (2, .int v2), (3, .int v3)] [] n G (g_O E (some (.int z), n, G)) := by
  intro K
  refine fixN_ind (P := fun (r : Int32 → Int32 → Option (Int32)) => ∀ (v2 : Int32) (v3 : Int32) (z : Int32), r v2 v3 = some z → WG E RX5 "waveAbove" cX5_waveAbove 4 (some .int) 1 40 0 0 4 [(0, .ref v0), (1, .int v1), (2, .int v2), (3, .int v3)] [] n G (g_O E (some (.int z), n, G))) ?_ ?_ K
  · intro v2 v3 z h
    cases h
  · intro rec4 hrec4 v2 v3 z h
    unfold b_X5_waveAbove_4 at h
    refine r_iload d_X5_waveAbove_4 rfl ?_
    refine r_aload d_X5_waveAbove_5 rfl ?_
    refine r_getR h d_X5_waveAbove_6 pf_X5_39 (fun x1 h => ?_)
    refine r_getI h d_X5_waveAbove_9 pf_X5_55 (fun x2 h => ?_)
    refine r_icmp_ge h d_X5_waveAbove_12 (fun h => ?_) (fun h => ?_)
    · refine r_iload d_X5_waveAbove_42 rfl ?_
      exact r_pret h d_X5_waveAbove_43
    · refine r_iload d_X5_waveAbove_15 rfl ?_
      refine r_iconst d_X5_waveAbove_16 ic_1 ?_
      refine r_iload d_X5_waveAbove_17 rfl ?_
      refine r_ishl d_X5_waveAbove_18 ?_
      refine r_iand d_X5_waveAbove_19 ?_
      refine r_if_eq h d_X5_waveAbove_20 (fun h => ?_) (fun h => ?_)
      · refine r_iinc d_X5_waveAbove_36 rfl (ii_1 _) rfl rfl ?_
        refine r_goto d_X5_waveAbove_39 ?_
        refine r_lv [(0, .ref v0), (1, .int v1), (2, .int v2), (3, .int (v3 + 1))] (g_allc rfl (g_allc rfl (g_allc rfl (g_allc rfl g_alln)))) ?_
        exact hrec4 _ _ _ h
      · refine r_iload d_X5_waveAbove_23 rfl ?_
        refine r_aload d_X5_waveAbove_24 rfl ?_
        refine r_getR h d_X5_waveAbove_25 pf_X5_19 (fun x3 h => ?_)
        refine r_iload d_X5_waveAbove_28 rfl ?_
        refine r_iald h d_X5_waveAbove_29 (fun x4 h => ?_)
        refine r_iconst d_X5_waveAbove_30 ic_1 ?_
        refine r_iadd d_X5_waveAbove_31 ?_
        refine r_max d_X5_waveAbove_32 qm_max_l_X5_71 qm_max_s qm_i qm_max_c rfl rfl ?_
        refine r_nmI h (fun y5 _ h => ?_)
        refine r_istore d_X5_waveAbove_35 rfl rfl ?_
        refine r_iinc d_X5_waveAbove_36 rfl (ii_1 _) rfl rfl ?_
        refine r_goto d_X5_waveAbove_39 ?_
        refine r_lv [(0, .ref v0), (1, .int v1), (2, .int y5), (3, .int (v3 + 1))] (g_allc rfl (g_allc rfl (g_allc rfl (g_allc rfl g_alln)))) ?_
        exact hrec4 _ _ _ h
set_option maxRecDepth 100000 in
set_option maxHeartbeats 4000000 in
theorem s_X5_waveAbove {E : GE} {F : Nat}  {v0 : Nat} {v1 : Int32} {n : Nat} {G : GH} {z : Int32}  (h : f_X5_waveAbove F  v0 v1 G = some z) : GM E yX5_waveAbove cX5_waveAbove 4 (some .int) 1 40 0 0 [.ref v0, .int v1] n G (some (.int z), n, G) := by
  refine GM.of (by decide) (Nat.le_of_ble_eq_true rfl) ?_
  show WG E RX5 "waveAbove" cX5_waveAbove 4 (some .int) 1 40 0 0 0 [(0, .ref v0), (1, .int v1)] [] n G (g_O E (some (.int z), n, G))
  unfold f_X5_waveAbove at h
  refine r_iconst d_X5_waveAbove_0 ic_0 ?_
  refine r_istore d_X5_waveAbove_1 rfl rfl ?_
  refine r_iconst d_X5_waveAbove_2 ic_0 ?_
  refine r_istore d_X5_waveAbove_3 rfl rfl ?_
  refine r_lv [(0, .ref v0), (1, .int v1), (2, .int (0 : Int32)), (3, .int (0 : Int32))] (g_allc rfl (g_allc rfl (g_allc rfl (g_allc rfl g_alln)))) ?_
  exact l_X5_waveAbove_4   _ _ _ _ h
/-! X5_findStart -/
theorem pl_X5_49 : pL RX5 49 yJ7_fill_53178 := Or.inl (g_in 930 (by decide +kernel) rfl)
theorem py_X5_leastReady : pY yX5_leastReady cX5_leastReady 4 (some .int) 1 := ⟨g_in 934 (by decide +kernel) rfl, g_in 103 (by decide +kernel) rfl, by decide, by decide, by decide +kernel⟩
theorem pi_X5_leastReady : pI yX5_leastReady 5 := ⟨g_in 933 (by decide +kernel) rfl, g_in 26 (by decide +kernel) rfl, (RX5, TX5, 9), rfl, rfl⟩
theorem pl_X5_60 : pL RX5 60 yX5_leastReady := Or.inl (g_in 931 (by decide +kernel) rfl)
theorem pf_X5_15 : pF RX5 15 5 2 := ⟨RX5, TX5, 9, rfl, by decide, rfl, Or.inl (g_in 372 (by decide +kernel) rfl)⟩
theorem pf_X5_9 : pF RX5 9 5 1 := ⟨RX5, TX5, 9, rfl, by decide, rfl, Or.inl (g_in 370 (by decide +kernel) rfl)⟩
theorem py_X5_waveAbove : pY yX5_waveAbove cX5_waveAbove 4 (some .int) 1 := ⟨g_in 943 (by decide +kernel) rfl, g_in 103 (by decide +kernel) rfl, by decide, by decide, by decide +kernel⟩
theorem pi_X5_waveAbove : pI yX5_waveAbove 5 := ⟨g_in 942 (by decide +kernel) rfl, g_in 27 (by decide +kernel) rfl, (RX5, TX5, 9), rfl, rfl⟩
theorem pl_X5_68 : pL RX5 68 yX5_waveAbove := Or.inl (g_in 940 (by decide +kernel) rfl)
theorem d_X5_findStart_0 : decAL cX5_findStart 0 0 1 := Or.inr ⟨0, rfl, by decide +kernel, rfl⟩
theorem d_X5_findStart_1 : dec 1 cX5_findStart 1 (.iconst 0) 2 := ⟨by decide +kernel, rfl⟩
theorem d_X5_findStart_2 : dec 3 cX5_findStart 2 (.putfield 9) 5 := ⟨by decide +kernel, rfl⟩
theorem d_X5_findStart_5 : decAL cX5_findStart 5 0 6 := Or.inr ⟨0, rfl, by decide +kernel, rfl⟩
theorem d_X5_findStart_6 : dec 3 cX5_findStart 6 (.getfield 19) 9 := ⟨by decide +kernel, rfl⟩
theorem d_X5_findStart_9 : dec 1 cX5_findStart 9 (.iconst (-1)) 10 := ⟨by decide +kernel, rfl⟩
theorem d_X5_findStart_10 : dec 3 cX5_findStart 10 (.invokestatic 49) 13 := ⟨by decide +kernel, rfl⟩
theorem d_X5_findStart_13 : dec 1 cX5_findStart 13 (.iconst 0) 14 := ⟨by decide +kernel, rfl⟩
theorem d_X5_findStart_14 : decIS cX5_findStart 14 1 15 := Or.inr ⟨1, rfl, by decide +kernel, rfl⟩
theorem d_X5_findStart_15 : dec 1 cX5_findStart 15 (.iconst 0) 16 := ⟨by decide +kernel, rfl⟩
theorem d_X5_findStart_16 : decIS cX5_findStart 16 2 17 := Or.inr ⟨2, rfl, by decide +kernel, rfl⟩
theorem d_X5_findStart_17 : decIL cX5_findStart 17 2 18 := Or.inr ⟨2, rfl, by decide +kernel, rfl⟩
theorem d_X5_findStart_18 : decAL cX5_findStart 18 0 19 := Or.inr ⟨0, rfl, by decide +kernel, rfl⟩
theorem d_X5_findStart_19 : dec 3 cX5_findStart 19 (.getfield 39) 22 := ⟨by decide +kernel, rfl⟩
theorem d_X5_findStart_22 : dec 3 cX5_findStart 22 (.getfield 55) 25 := ⟨by decide +kernel, rfl⟩
theorem d_X5_findStart_25 : decB cX5_findStart 25 (.if_icmp .ge 67) (67) 28 92 := ⟨by decide +kernel, rfl, by decide⟩
theorem d_X5_findStart_28 : decAL cX5_findStart 28 0 29 := Or.inr ⟨0, rfl, by decide +kernel, rfl⟩
theorem d_X5_findStart_29 : decIL cX5_findStart 29 1 30 := Or.inr ⟨1, rfl, by decide +kernel, rfl⟩
theorem d_X5_findStart_30 : dec 3 cX5_findStart 30 (.invokevirtual 60) 33 := ⟨by decide +kernel, rfl⟩
theorem d_X5_findStart_33 : decIS cX5_findStart 33 3 34 := Or.inr ⟨3, rfl, by decide +kernel, rfl⟩
theorem d_X5_findStart_34 : decIL cX5_findStart 34 3 35 := Or.inr ⟨3, rfl, by decide +kernel, rfl⟩
theorem d_X5_findStart_35 : dec 1 cX5_findStart 35 (.iconst (-1)) 36 := ⟨by decide +kernel, rfl⟩
theorem d_X5_findStart_36 : decB cX5_findStart 36 (.if_icmp .ne 4) (4) 39 40 := ⟨by decide +kernel, rfl, by decide⟩
theorem d_X5_findStart_39 : dec 1 cX5_findStart 39 .return_ 40 := ⟨by decide +kernel, rfl⟩
theorem d_X5_findStart_40 : decAL cX5_findStart 40 0 41 := Or.inr ⟨0, rfl, by decide +kernel, rfl⟩
theorem d_X5_findStart_41 : dec 3 cX5_findStart 41 (.getfield 15) 44 := ⟨by decide +kernel, rfl⟩
theorem d_X5_findStart_44 : decAL cX5_findStart 44 0 45 := Or.inr ⟨0, rfl, by decide +kernel, rfl⟩
theorem d_X5_findStart_45 : dec 3 cX5_findStart 45 (.getfield 9) 48 := ⟨by decide +kernel, rfl⟩
theorem d_X5_findStart_48 : decIL cX5_findStart 48 3 49 := Or.inr ⟨3, rfl, by decide +kernel, rfl⟩
theorem d_X5_findStart_49 : dec 1 cX5_findStart 49 .iastore 50 := ⟨by decide +kernel, rfl⟩
theorem d_X5_findStart_50 : decAL cX5_findStart 50 0 51 := Or.inr ⟨0, rfl, by decide +kernel, rfl⟩
theorem d_X5_findStart_51 : dec 1 cX5_findStart 51 .dup 52 := ⟨by decide +kernel, rfl⟩
theorem d_X5_findStart_52 : dec 3 cX5_findStart 52 (.getfield 9) 55 := ⟨by decide +kernel, rfl⟩
theorem d_X5_findStart_55 : dec 1 cX5_findStart 55 (.iconst 1) 56 := ⟨by decide +kernel, rfl⟩
theorem d_X5_findStart_56 : dec 1 cX5_findStart 56 .iadd 57 := ⟨by decide +kernel, rfl⟩
theorem d_X5_findStart_57 : dec 3 cX5_findStart 57 (.putfield 9) 60 := ⟨by decide +kernel, rfl⟩
theorem d_X5_findStart_60 : decIL cX5_findStart 60 1 61 := Or.inr ⟨1, rfl, by decide +kernel, rfl⟩
theorem d_X5_findStart_61 : dec 1 cX5_findStart 61 (.iconst 1) 62 := ⟨by decide +kernel, rfl⟩
theorem d_X5_findStart_62 : decIL cX5_findStart 62 3 63 := Or.inr ⟨3, rfl, by decide +kernel, rfl⟩
theorem d_X5_findStart_63 : dec 1 cX5_findStart 63 .ishl 64 := ⟨by decide +kernel, rfl⟩
theorem d_X5_findStart_64 : dec 1 cX5_findStart 64 .ior 65 := ⟨by decide +kernel, rfl⟩
theorem d_X5_findStart_65 : decIS cX5_findStart 65 1 66 := Or.inr ⟨1, rfl, by decide +kernel, rfl⟩
theorem d_X5_findStart_66 : decAL cX5_findStart 66 0 67 := Or.inr ⟨0, rfl, by decide +kernel, rfl⟩
theorem d_X5_findStart_67 : dec 3 cX5_findStart 67 (.getfield 19) 70 := ⟨by decide +kernel, rfl⟩
theorem d_X5_findStart_70 : decIL cX5_findStart 70 3 71 := Or.inr ⟨3, rfl, by decide +kernel, rfl⟩
theorem d_X5_findStart_71 : decAL cX5_findStart 71 0 72 := Or.inr ⟨0, rfl, by decide +kernel, rfl⟩
theorem d_X5_findStart_72 : decAL cX5_findStart 72 0 73 := Or.inr ⟨0, rfl, by decide +kernel, rfl⟩
theorem d_X5_findStart_73 : dec 3 cX5_findStart 73 (.getfield 39) 76 := ⟨by decide +kernel, rfl⟩
theorem d_X5_findStart_76 : decIL cX5_findStart 76 3 77 := Or.inr ⟨3, rfl, by decide +kernel, rfl⟩
theorem d_X5_findStart_77 : dec 1 cX5_findStart 77 (.iconst 0) 78 := ⟨by decide +kernel, rfl⟩
theorem d_X5_findStart_78 : dec 1 cX5_findStart 78 (.lconst 0) 79 := ⟨by decide +kernel, rfl⟩
theorem d_X5_findStart_79 : dec 3 cX5_findStart 79 (.invokevirtual 64) 82 := ⟨by decide +kernel, rfl⟩
theorem d_X5_findStart_82 : dec 3 cX5_findStart 82 (.invokevirtual 68) 85 := ⟨by decide +kernel, rfl⟩
theorem d_X5_findStart_85 : dec 1 cX5_findStart 85 .iastore 86 := ⟨by decide +kernel, rfl⟩
theorem d_X5_findStart_86 : dec 3 cX5_findStart 86 (.iinc 2 1) 89 := ⟨by decide +kernel, rfl⟩
theorem d_X5_findStart_89 : decB cX5_findStart 89 (.goto (-72)) (-72) 92 17 := ⟨by decide +kernel, rfl, by decide⟩
theorem d_X5_findStart_92 : dec 1 cX5_findStart 92 .return_ 93 := ⟨by decide +kernel, rfl⟩
def b_X5_findStart_17 (F : Nat)   (v0 : Nat) (rec17 : Int32 → Int32 → Nat → GH → Option (Nat × GH)) : Int32 → Int32 → Nat → GH → Option (Nat × GH) := fun v1 v2 n G =>
  Option.bind (gR G v0 5 0) (fun (x5 : Nat) =>
  Option.bind (gI G x5 3 0) (fun (x6 : Int32) =>
  if x6 ≤ v2 then
  (some (n, G))
  else (cvP G v0 5 (f_X5_leastReady F v0 v1 G) (fun (x7 : Int32) =>
  if x7 = (-1 : Int32) then
  (some (n, G))
  else (Option.bind (gR G v0 5 2) (fun (x8 : Nat) =>
  Option.bind (gI G v0 5 1) (fun (x9 : Int32) =>
  Option.bind (aS G x8 0 x9 x7) (fun (G10 : GH) =>
  Option.bind (gI G10 v0 5 1) (fun (x11 : Int32) =>
  Option.bind (pV G10 v0 5 1 (.int (x11 + (1 : Int32)))) (fun (G12 : GH) =>
  gnm (v1 ||| ((1 : Int32) <<< (x7 &&& 31))) (fun (y13 : Int32) =>
  Option.bind (gR G12 v0 5 3) (fun (x14 : Nat) =>
  Option.bind (gR G12 v0 5 0) (fun (x15 : Nat) =>
  cvP G12 x15 3 (f_X3_needBits F x15 x7 (0 : Int32) (0 : Int64) G12) (fun (x16 : Int32) =>
  cvP G12 v0 5 (f_X5_waveAbove F v0 x16 G12) (fun (x17 : Int32) =>
  Option.bind (aS G12 x14 0 x7 x17) (fun (G18 : GH) =>
  rec17 y13 (v2 + 1) n G18))))))))))))))))
def f_X5_findStart (F : Nat)  (v0 : Nat) (n : Nat) (G : GH) : Option (Nat × GH) :=
  Option.bind (pV G v0 5 1 (.int (0 : Int32))) (fun (G1 : GH) =>
  Option.bind (gR G1 v0 5 3) (fun (x2 : Nat) =>
  csU (f_J7_fill_53178 F x2 (-1 : Int32) n G1) (fun (n3 : Nat) (G4 : GH) =>
  fixN (fun _ _ _ _ => none) (b_X5_findStart_17 F   v0) F (0 : Int32) (0 : Int32) n3 G4)))
set_option maxRecDepth 100000 in
set_option maxHeartbeats 4000000 in
theorem l_X5_findStart_17 {E : GE} {F : Nat}   {v0 : Nat}   : ∀ (K : Nat) (v1 : Int32) (v2 : Int32) (n : Nat) (G : GH) (z : Nat × GH), fixN ((fun _ _ _ _ => none) : Int32 → Int32 → Nat → GH → Option (Nat × GH)) (b_X5_findStart_17 F   v0) K v1 v2 n G = some z → WG E RX5 "findStart" cX5_findStart 4 none 3 73 0 0 17 [(0, .ref v0), (1, .int v1), (2, .int v2)] [] n G (g_O E (none, z.1, z.2)) := by
  intro K
  refine fixN_ind (P := fun (r : Int32 → Int32 → Nat → GH → Option (Nat × GH)) => ∀ (v1 : Int32) (v2 : Int32) (n : Nat) (G : GH) (z : Nat × GH), r v1 v2 n G = some z → WG E RX5 "findStart" cX5_findStart 4 none 3 73 0 0 17 [(0, .ref v0), (1, .int v1), (2, .int v2)] [] n G (g_O E (none, z.1, z.2))) ?_ ?_ K
  · intro v1 v2 n G z h
    cases h
  · intro rec17 hrec17 v1 v2 n G z h
    unfold b_X5_findStart_17 at h
    refine r_iload d_X5_findStart_17 rfl ?_
    refine r_aload d_X5_findStart_18 rfl ?_
    refine r_getR h d_X5_findStart_19 pf_X5_39 (fun x5 h => ?_)
    refine r_getI h d_X5_findStart_22 pf_X5_55 (fun x6 h => ?_)
    refine r_icmp_ge h d_X5_findStart_25 (fun h => ?_) (fun h => ?_)
    · exact r_vret h d_X5_findStart_92
    · refine r_aload d_X5_findStart_28 rfl ?_
      refine r_iload d_X5_findStart_29 rfl ?_
      refine r_invP [_] h (fun _ hq => s_X5_leastReady hq) d_X5_findStart_30 pl_X5_60 py_X5_leastReady pi_X5_leastReady rfl rfl rfl (fun x7 h => ?_)
      refine r_istore d_X5_findStart_33 rfl rfl ?_
      refine r_iload d_X5_findStart_34 rfl ?_
      refine r_iconst d_X5_findStart_35 ic_m1 ?_
      refine r_icmp_ne h d_X5_findStart_36 (fun h => ?_) (fun h => ?_)
      · refine r_aload d_X5_findStart_40 rfl ?_
        refine r_getR h d_X5_findStart_41 pf_X5_15 (fun x8 h => ?_)
        refine r_aload d_X5_findStart_44 rfl ?_
        refine r_getI h d_X5_findStart_45 pf_X5_9 (fun x9 h => ?_)
        refine r_iload d_X5_findStart_48 rfl ?_
        refine r_iast h d_X5_findStart_49 (fun G10 h => ?_)
        refine r_aload d_X5_findStart_50 rfl ?_
        refine r_dup d_X5_findStart_51 rfl ?_
        refine r_getI h d_X5_findStart_52 pf_X5_9 (fun x11 h => ?_)
        refine r_iconst d_X5_findStart_55 ic_1 ?_
        refine r_iadd d_X5_findStart_56 ?_
        refine r_put h d_X5_findStart_57 pw_X5_9 rfl rfl (fun G12 h => ?_)
        refine r_iload d_X5_findStart_60 rfl ?_
        refine r_iconst d_X5_findStart_61 ic_1 ?_
        refine r_iload d_X5_findStart_62 rfl ?_
        refine r_ishl d_X5_findStart_63 ?_
        refine r_ior d_X5_findStart_64 ?_
        refine r_nmI h (fun y13 _ h => ?_)
        refine r_istore d_X5_findStart_65 rfl rfl ?_
        refine r_aload d_X5_findStart_66 rfl ?_
        refine r_getR h d_X5_findStart_67 pf_X5_19 (fun x14 h => ?_)
        refine r_iload d_X5_findStart_70 rfl ?_
        refine r_aload d_X5_findStart_71 rfl ?_
        refine r_aload d_X5_findStart_72 rfl ?_
        refine r_getR h d_X5_findStart_73 pf_X5_39 (fun x15 h => ?_)
        refine r_iload d_X5_findStart_76 rfl ?_
        refine r_iconst d_X5_findStart_77 ic_0 ?_
        refine r_lconst d_X5_findStart_78 lc_0 ?_
        refine r_invP [_, _, _] h (fun _ hq => s_X3_needBits hq) d_X5_findStart_79 pl_X5_64 py_X3_needBits pi_X3_needBits rfl rfl rfl (fun x16 h => ?_)
        refine r_invP [_] h (fun _ hq => s_X5_waveAbove hq) d_X5_findStart_82 pl_X5_68 py_X5_waveAbove pi_X5_waveAbove rfl rfl rfl (fun x17 h => ?_)
        refine r_iast h d_X5_findStart_85 (fun G18 h => ?_)
        refine r_iinc d_X5_findStart_86 rfl (ii_1 _) rfl rfl ?_
        refine r_goto d_X5_findStart_89 ?_
        refine r_lv [(0, .ref v0), (1, .int y13), (2, .int (v2 + 1))] (g_allc rfl (g_allc rfl (g_allc rfl g_alln))) ?_
        exact hrec17 _ _ _ _ _ h
      · exact r_vret h d_X5_findStart_39
set_option maxRecDepth 100000 in
set_option maxHeartbeats 4000000 in
theorem s_X5_findStart {E : GE} {F : Nat}  {v0 : Nat} {n : Nat} {G : GH} {z : Nat × GH}  (h : f_X5_findStart F  v0 n G = some z) : GM E yX5_findStart cX5_findStart 4 none 3 73 0 0 [.ref v0] n G (none, z.1, z.2) := by
  refine GM.of (by decide) (Nat.le_of_ble_eq_true rfl) ?_
  show WG E RX5 "findStart" cX5_findStart 4 none 3 73 0 0 0 [(0, .ref v0)] [] n G (g_O E (none, z.1, z.2))
  unfold f_X5_findStart at h
  refine r_aload d_X5_findStart_0 rfl ?_
  refine r_iconst d_X5_findStart_1 ic_0 ?_
  refine r_put h d_X5_findStart_2 pw_X5_9 rfl rfl (fun G1 h => ?_)
  refine r_aload d_X5_findStart_5 rfl ?_
  refine r_getR h d_X5_findStart_6 pf_X5_19 (fun x2 h => ?_)
  refine r_iconst d_X5_findStart_9 ic_m1 ?_
  refine r_invSU [_, _] h (fun _ hq => s_J7_fill_53178 hq) d_X5_findStart_10 pl_X5_49 py_J7_fill_53178 ps_J7_fill_53178 rfl rfl rfl (fun n3 G4 h => ?_)
  refine r_iconst d_X5_findStart_13 ic_0 ?_
  refine r_istore d_X5_findStart_14 rfl rfl ?_
  refine r_iconst d_X5_findStart_15 ic_0 ?_
  refine r_istore d_X5_findStart_16 rfl rfl ?_
  refine r_lv [(0, .ref v0), (1, .int (0 : Int32)), (2, .int (0 : Int32))] (g_allc rfl (g_allc rfl (g_allc rfl g_alln))) ?_
  exact l_X5_findStart_17   _ _ _ _ _ _ h
/-! X5_startable -/
theorem d_X5_startable_0 : decIL cX5_startable 0 3 1 := Or.inr ⟨3, rfl, by decide +kernel, rfl⟩
theorem d_X5_startable_1 : decIS cX5_startable 1 4 3 := Or.inl ⟨by decide +kernel, rfl⟩
theorem d_X5_startable_3 : dec 1 cX5_startable 3 (.iconst 0) 4 := ⟨by decide +kernel, rfl⟩
theorem d_X5_startable_4 : decIS cX5_startable 4 5 6 := Or.inl ⟨by decide +kernel, rfl⟩
theorem d_X5_startable_6 : decIL cX5_startable 6 5 8 := Or.inl ⟨by decide +kernel, rfl⟩
theorem d_X5_startable_8 : decAL cX5_startable 8 0 9 := Or.inr ⟨0, rfl, by decide +kernel, rfl⟩
theorem d_X5_startable_9 : dec 3 cX5_startable 9 (.getfield 39) 12 := ⟨by decide +kernel, rfl⟩
theorem d_X5_startable_12 : dec 3 cX5_startable 12 (.getfield 55) 15 := ⟨by decide +kernel, rfl⟩
theorem d_X5_startable_15 : decB cX5_startable 15 (.if_icmp .ge 94) (94) 18 109 := ⟨by decide +kernel, rfl, by decide⟩
theorem d_X5_startable_18 : decIL cX5_startable 18 4 20 := Or.inl ⟨by decide +kernel, rfl⟩
theorem d_X5_startable_20 : decIS cX5_startable 20 6 22 := Or.inl ⟨by decide +kernel, rfl⟩
theorem d_X5_startable_22 : dec 1 cX5_startable 22 (.iconst 0) 23 := ⟨by decide +kernel, rfl⟩
theorem d_X5_startable_23 : decIS cX5_startable 23 7 25 := Or.inl ⟨by decide +kernel, rfl⟩
theorem d_X5_startable_25 : decIL cX5_startable 25 7 27 := Or.inl ⟨by decide +kernel, rfl⟩
theorem d_X5_startable_27 : decAL cX5_startable 27 0 28 := Or.inr ⟨0, rfl, by decide +kernel, rfl⟩
theorem d_X5_startable_28 : dec 3 cX5_startable 28 (.getfield 39) 31 := ⟨by decide +kernel, rfl⟩
theorem d_X5_startable_31 : dec 3 cX5_startable 31 (.getfield 55) 34 := ⟨by decide +kernel, rfl⟩
theorem d_X5_startable_34 : decB cX5_startable 34 (.if_icmp .ge 59) (59) 37 93 := ⟨by decide +kernel, rfl, by decide⟩
theorem d_X5_startable_37 : decIL cX5_startable 37 4 39 := Or.inl ⟨by decide +kernel, rfl⟩
theorem d_X5_startable_39 : dec 1 cX5_startable 39 (.iconst 1) 40 := ⟨by decide +kernel, rfl⟩
theorem d_X5_startable_40 : decIL cX5_startable 40 7 42 := Or.inl ⟨by decide +kernel, rfl⟩
theorem d_X5_startable_42 : dec 1 cX5_startable 42 .ishl 43 := ⟨by decide +kernel, rfl⟩
theorem d_X5_startable_43 : dec 1 cX5_startable 43 .iand 44 := ⟨by decide +kernel, rfl⟩
theorem d_X5_startable_44 : decB cX5_startable 44 (.ifCond .eq 7) (7) 47 51 := ⟨by decide +kernel, rfl, by decide⟩
theorem d_X5_startable_47 : dec 1 cX5_startable 47 (.iconst 1) 48 := ⟨by decide +kernel, rfl⟩
theorem d_X5_startable_48 : decB cX5_startable 48 (.goto 4) (4) 51 52 := ⟨by decide +kernel, rfl, by decide⟩
theorem d_X5_startable_51 : dec 1 cX5_startable 51 (.iconst 0) 52 := ⟨by decide +kernel, rfl⟩
theorem d_X5_startable_52 : decIS cX5_startable 52 8 54 := Or.inl ⟨by decide +kernel, rfl⟩
theorem d_X5_startable_54 : decIL cX5_startable 54 8 56 := Or.inl ⟨by decide +kernel, rfl⟩
theorem d_X5_startable_56 : decB cX5_startable 56 (.ifCond .ne 31) (31) 59 87 := ⟨by decide +kernel, rfl, by decide⟩
theorem d_X5_startable_59 : decAL cX5_startable 59 0 60 := Or.inr ⟨0, rfl, by decide +kernel, rfl⟩
theorem d_X5_startable_60 : dec 3 cX5_startable 60 (.getfield 39) 63 := ⟨by decide +kernel, rfl⟩
theorem d_X5_startable_63 : decIL cX5_startable 63 7 65 := Or.inl ⟨by decide +kernel, rfl⟩
theorem d_X5_startable_65 : dec 1 cX5_startable 65 (.iconst 0) 66 := ⟨by decide +kernel, rfl⟩
theorem d_X5_startable_66 : decLL cX5_startable 66 1 67 := Or.inr ⟨1, rfl, by decide +kernel, rfl⟩
theorem d_X5_startable_67 : dec 3 cX5_startable 67 (.invokevirtual 64) 70 := ⟨by decide +kernel, rfl⟩
theorem d_X5_startable_70 : decIL cX5_startable 70 4 72 := Or.inl ⟨by decide +kernel, rfl⟩
theorem d_X5_startable_72 : dec 1 cX5_startable 72 (.iconst (-1)) 73 := ⟨by decide +kernel, rfl⟩
theorem d_X5_startable_73 : dec 1 cX5_startable 73 .ixor 74 := ⟨by decide +kernel, rfl⟩
theorem d_X5_startable_74 : dec 1 cX5_startable 74 .iand 75 := ⟨by decide +kernel, rfl⟩
theorem d_X5_startable_75 : decB cX5_startable 75 (.ifCond .ne 12) (12) 78 87 := ⟨by decide +kernel, rfl, by decide⟩
theorem d_X5_startable_78 : decIL cX5_startable 78 4 80 := Or.inl ⟨by decide +kernel, rfl⟩
theorem d_X5_startable_80 : dec 1 cX5_startable 80 (.iconst 1) 81 := ⟨by decide +kernel, rfl⟩
theorem d_X5_startable_81 : decIL cX5_startable 81 7 83 := Or.inl ⟨by decide +kernel, rfl⟩
theorem d_X5_startable_83 : dec 1 cX5_startable 83 .ishl 84 := ⟨by decide +kernel, rfl⟩
theorem d_X5_startable_84 : dec 1 cX5_startable 84 .ior 85 := ⟨by decide +kernel, rfl⟩
theorem d_X5_startable_85 : decIS cX5_startable 85 4 87 := Or.inl ⟨by decide +kernel, rfl⟩
theorem d_X5_startable_87 : dec 3 cX5_startable 87 (.iinc 7 1) 90 := ⟨by decide +kernel, rfl⟩
theorem d_X5_startable_90 : decB cX5_startable 90 (.goto (-65)) (-65) 93 25 := ⟨by decide +kernel, rfl, by decide⟩
theorem d_X5_startable_93 : decIL cX5_startable 93 4 95 := Or.inl ⟨by decide +kernel, rfl⟩
theorem d_X5_startable_95 : decIL cX5_startable 95 6 97 := Or.inl ⟨by decide +kernel, rfl⟩
theorem d_X5_startable_97 : decB cX5_startable 97 (.if_icmp .ne 6) (6) 100 103 := ⟨by decide +kernel, rfl, by decide⟩
theorem d_X5_startable_100 : decIL cX5_startable 100 4 102 := Or.inl ⟨by decide +kernel, rfl⟩
theorem d_X5_startable_102 : dec 1 cX5_startable 102 .ireturn 103 := ⟨by decide +kernel, rfl⟩
theorem d_X5_startable_103 : dec 3 cX5_startable 103 (.iinc 5 1) 106 := ⟨by decide +kernel, rfl⟩
theorem d_X5_startable_106 : decB cX5_startable 106 (.goto (-100)) (-100) 109 6 := ⟨by decide +kernel, rfl, by decide⟩
theorem d_X5_startable_109 : decIL cX5_startable 109 4 111 := Or.inl ⟨by decide +kernel, rfl⟩
theorem d_X5_startable_111 : dec 1 cX5_startable 111 .ireturn 112 := ⟨by decide +kernel, rfl⟩
def k_X5_startable_93 (F : Nat)  (rec6 : Int32 → Int32 → Option (Int32)) (v0 : Nat) (v1 : Int64) (v4 : Int32) (v5 : Int32) (v6 : Int32)  (G : GH) : Option (Int32) :=
  if v4 = v6 then
  (some v4)
  else (rec6 v4 (v5 + 1))
def k_X5_startable_52 (F : Nat)  (rec25 : Int32 → Int32 → Option (Int32)) (v0 : Nat) (v1 : Int64) (v4 : Int32) (v5 : Int32) (v6 : Int32) (v7 : Int32) (s0 : Int32) (G : GH) : Option (Int32) :=
  if s0 = 0 then
  (Option.bind (gR G v0 5 0) (fun (x5 : Nat) =>
  cvP G x5 3 (f_X3_needBits F x5 v7 (0 : Int32) v1 G) (fun (x6 : Int32) =>
  if (x6 &&& (v4 ^^^ (-1 : Int32))) = 0 then
  (gnm (v4 ||| ((1 : Int32) <<< (v7 &&& 31))) (fun (y7 : Int32) =>
  rec25 y7 (v7 + 1)))
  else (rec25 v4 (v7 + 1)))))
  else (rec25 v4 (v7 + 1))
def b_X5_startable_25 (F : Nat)  (rec6 : Int32 → Int32 → Option (Int32)) (v0 : Nat) (v1 : Int64) (v5 : Int32) (v6 : Int32) (G : GH) (rec25 : Int32 → Int32 → Option (Int32)) : Int32 → Int32 → Option (Int32) := fun v4 v7 =>
  Option.bind (gR G v0 5 0) (fun (x3 : Nat) =>
  Option.bind (gI G x3 3 0) (fun (x4 : Int32) =>
  if x4 ≤ v7 then
  (k_X5_startable_93 F  rec6 v0 v1 v4 v5 v6 G)
  else (if (v4 &&& ((1 : Int32) <<< (v7 &&& 31))) = 0 then
  (k_X5_startable_52 F  rec25 v0 v1 v4 v5 v6 v7 (0 : Int32) G)
  else (k_X5_startable_52 F  rec25 v0 v1 v4 v5 v6 v7 (1 : Int32) G))))
def b_X5_startable_6 (F : Nat)   (v0 : Nat) (v1 : Int64) (G : GH) (rec6 : Int32 → Int32 → Option (Int32)) : Int32 → Int32 → Option (Int32) := fun v4 v5 =>
  Option.bind (gR G v0 5 0) (fun (x1 : Nat) =>
  Option.bind (gI G x1 3 0) (fun (x2 : Int32) =>
  if x2 ≤ v5 then
  (some v4)
  else (fixN (fun _ _ => none) (b_X5_startable_25 F  rec6 v0 v1 v5 v4 G) F v4 (0 : Int32))))
def f_X5_startable (F : Nat)  (v0 : Nat) (v1 : Int64) (v3 : Int32) (G : GH) : Option (Int32) :=
  fixN (fun _ _ => none) (b_X5_startable_6 F   v0 v1 G) F v3 (0 : Int32)
set_option maxRecDepth 100000 in
set_option maxHeartbeats 4000000 in
theorem c_X5_startable_93 {E : GE} {F : Nat}  {rec6 : Int32 → Int32 → Option (Int32)} {v0 : Nat} {v1 : Int64} {v4 : Int32} {v5 : Int32} {v6 : Int32}  {n : Nat} {G : GH} {z : Int32}  (hrec6 : ∀ (w4 : Int32) (w5 : Int32) (z : Int32), rec6 w4 w5 = some z → WG E RX5 "startable" cX5_startable 9 (some .int) 2 50 0 0 6 [(0, .ref v0), (1, .long v1), (4, .int w4), (5, .int w5)] [] n G (g_O E (some (.int z), n, G))) (h : k_X5_startable_93 F  rec6 v0 v1 v4 v5 v6  G = some z) : WG E RX5 "startable" cX5_startable 9 (some .int) 2 50 0 0 93 [(0, .ref v0), (1, .long v1), (4, .int v4), (5, .int v5), (6, .int v6)] [] n G (g_O E (some (.int z), n, G)) := by
  unfold k_X5_startable_93 at h
  refine r_iload d_X5_startable_93 rfl ?_
  refine r_iload d_X5_startable_95 rfl ?_
  refine r_icmp_ne h d_X5_startable_97 (fun h => ?_) (fun h => ?_)
  · refine r_iinc d_X5_startable_103 rfl (ii_1 _) rfl rfl ?_
    refine r_goto d_X5_startable_106 ?_
    refine r_lv [(0, .ref v0), (1, .long v1), (4, .int v4), (5, .int (v5 + 1))] (g_allc rfl (g_allc rfl (g_allc rfl (g_allc rfl g_alln)))) ?_
    exact hrec6 _ _ _ h
  · refine r_iload d_X5_startable_100 rfl ?_
    exact r_pret h d_X5_startable_102
set_option maxRecDepth 100000 in
set_option maxHeartbeats 4000000 in
theorem c_X5_startable_52 {E : GE} {F : Nat}  {rec25 : Int32 → Int32 → Option (Int32)} {v0 : Nat} {v1 : Int64} {v4 : Int32} {v5 : Int32} {v6 : Int32} {v7 : Int32} {s0 : Int32} {n : Nat} {G : GH} {z : Int32}  (hrec25 : ∀ (w4 : Int32) (w7 : Int32) (z : Int32), rec25 w4 w7 = some z → WG E RX5 "startable" cX5_startable 9 (some .int) 2 50 0 0 25 [(0, .ref v0), (1, .long v1), (4, .int w4), (5, .int v5), (6, .int v6), (7, .int w7)] [] n G (g_O E (some (.int z), n, G))) (h : k_X5_startable_52 F  rec25 v0 v1 v4 v5 v6 v7 s0 G = some z) : WG E RX5 "startable" cX5_startable 9 (some .int) 2 50 0 0 52 [(0, .ref v0), (1, .long v1), (4, .int v4), (5, .int v5), (6, .int v6), (7, .int v7)] [.int s0] n G (g_O E (some (.int z), n, G)) := by
  unfold k_X5_startable_52 at h
  refine r_istore d_X5_startable_52 rfl rfl ?_
  refine r_iload d_X5_startable_54 rfl ?_
  refine r_if_ne h d_X5_startable_56 (fun h => ?_) (fun h => ?_)
  · refine r_iinc d_X5_startable_87 rfl (ii_1 _) rfl rfl ?_
    refine r_goto d_X5_startable_90 ?_
    refine r_lv [(0, .ref v0), (1, .long v1), (4, .int v4), (5, .int v5), (6, .int v6), (7, .int (v7 + 1))] (g_allc rfl (g_allc rfl (g_allc rfl (g_allc rfl (g_allc rfl (g_allc rfl g_alln)))))) ?_
    exact hrec25 _ _ _ h
  · refine r_aload d_X5_startable_59 rfl ?_
    refine r_getR h d_X5_startable_60 pf_X5_39 (fun x5 h => ?_)
    refine r_iload d_X5_startable_63 rfl ?_
    refine r_iconst d_X5_startable_65 ic_0 ?_
    refine r_lload d_X5_startable_66 rfl ?_
    refine r_invP [_, _, _] h (fun _ hq => s_X3_needBits hq) d_X5_startable_67 pl_X5_64 py_X3_needBits pi_X3_needBits rfl rfl rfl (fun x6 h => ?_)
    refine r_iload d_X5_startable_70 rfl ?_
    refine r_iconst d_X5_startable_72 ic_m1 ?_
    refine r_ixor d_X5_startable_73 ?_
    refine r_iand d_X5_startable_74 ?_
    refine r_if_ne h d_X5_startable_75 (fun h => ?_) (fun h => ?_)
    · refine r_iinc d_X5_startable_87 rfl (ii_1 _) rfl rfl ?_
      refine r_goto d_X5_startable_90 ?_
      refine r_lv [(0, .ref v0), (1, .long v1), (4, .int v4), (5, .int v5), (6, .int v6), (7, .int (v7 + 1))] (g_allc rfl (g_allc rfl (g_allc rfl (g_allc rfl (g_allc rfl (g_allc rfl g_alln)))))) ?_
      exact hrec25 _ _ _ h
    · refine r_iload d_X5_startable_78 rfl ?_
      refine r_iconst d_X5_startable_80 ic_1 ?_
      refine r_iload d_X5_startable_81 rfl ?_
      refine r_ishl d_X5_startable_83 ?_
      refine r_ior d_X5_startable_84 ?_
      refine r_nmI h (fun y7 _ h => ?_)
      refine r_istore d_X5_startable_85 rfl rfl ?_
      refine r_iinc d_X5_startable_87 rfl (ii_1 _) rfl rfl ?_
      refine r_goto d_X5_startable_90 ?_
      refine r_lv [(0, .ref v0), (1, .long v1), (4, .int y7), (5, .int v5), (6, .int v6), (7, .int (v7 + 1))] (g_allc rfl (g_allc rfl (g_allc rfl (g_allc rfl (g_allc rfl (g_allc rfl g_alln)))))) ?_
      exact hrec25 _ _ _ h
set_option maxRecDepth 100000 in
set_option maxHeartbeats 4000000 in
theorem l_X5_startable_25 {E : GE} {F : Nat}  {rec6 : Int32 → Int32 → Option (Int32)} {v0 : Nat} {v1 : Int64} {v5 : Int32} {v6 : Int32} {n : Nat} {G : GH}  (hrec6 : ∀ (w4 : Int32) (w5 : Int32) (z : Int32), rec6 w4 w5 = some z → WG E RX5 "startable" cX5_startable 9 (some .int) 2 50 0 0 6 [(0, .ref v0), (1, .long v1), (4, .int w4), (5, .int w5)] [] n G (g_O E (some (.int z), n, G))) : ∀ (K : Nat) (v4 : Int32) (v7 : Int32) (z : Int32), fixN ((fun _ _ => none) : Int32 → Int32 → Option (Int32)) (b_X5_startable_25 F  rec6 v0 v1 v5 v6 G) K v4 v7 = some z → WG E RX5 "startable" cX5_startable 9 (some .int) 2 50 0 0 25 [(0, .ref v0), (1, .long v1), (4, .int v4), (5, .int v5), (6, .int v6), (7, .int v7)] [] n G (g_O E (some (.int z), n, G)) := by
  intro K
  refine fixN_ind (P := fun (r : Int32 → Int32 → Option (Int32)) => ∀ (v4 : Int32) (v7 : Int32) (z : Int32), r v4 v7 = some z → WG E RX5 "startable" cX5_startable 9 (some .int) 2 50 0 0 25 [(0, .ref v0), (1, .long v1), (4, .int v4), (5, .int v5), (6, .int v6), (7, .int v7)] [] n G (g_O E (some (.int z), n, G))) ?_ ?_ K
  · intro v4 v7 z h
    cases h
  · intro rec25 hrec25 v4 v7 z h
    unfold b_X5_startable_25 at h
    refine r_iload d_X5_startable_25 rfl ?_
    refine r_aload d_X5_startable_27 rfl ?_
    refine r_getR h d_X5_startable_28 pf_X5_39 (fun x3 h => ?_)
    refine r_getI h d_X5_startable_31 pf_X5_55 (fun x4 h => ?_)
    refine r_icmp_ge h d_X5_startable_34 (fun h => ?_) (fun h => ?_)
    · refine r_lv [(0, .ref v0), (1, .long v1), (4, .int v4), (5, .int v5), (6, .int v6)] (g_allc rfl (g_allc rfl (g_allc rfl (g_allc rfl (g_allc rfl g_alln))))) ?_
      exact c_X5_startable_93  hrec6 h
    · refine r_iload d_X5_startable_37 rfl ?_
      refine r_iconst d_X5_startable_39 ic_1 ?_
      refine r_iload d_X5_startable_40 rfl ?_
      refine r_ishl d_X5_startable_42 ?_
      refine r_iand d_X5_startable_43 ?_
      refine r_if_eq h d_X5_startable_44 (fun h => ?_) (fun h => ?_)
      · refine r_iconst d_X5_startable_51 ic_0 ?_
        refine r_lv [(0, .ref v0), (1, .long v1), (4, .int v4), (5, .int v5), (6, .int v6), (7, .int v7)] (g_allc rfl (g_allc rfl (g_allc rfl (g_allc rfl (g_allc rfl (g_allc rfl g_alln)))))) ?_
        exact c_X5_startable_52  hrec25 h
      · refine r_iconst d_X5_startable_47 ic_1 ?_
        refine r_goto d_X5_startable_48 ?_
        refine r_lv [(0, .ref v0), (1, .long v1), (4, .int v4), (5, .int v5), (6, .int v6), (7, .int v7)] (g_allc rfl (g_allc rfl (g_allc rfl (g_allc rfl (g_allc rfl (g_allc rfl g_alln)))))) ?_
        exact c_X5_startable_52  hrec25 h
set_option maxRecDepth 100000 in
set_option maxHeartbeats 4000000 in
theorem l_X5_startable_6 {E : GE} {F : Nat}   {v0 : Nat} {v1 : Int64} {n : Nat} {G : GH}   : ∀ (K : Nat) (v4 : Int32) (v5 : Int32) (z : Int32), fixN ((fun _ _ => none) : Int32 → Int32 → Option (Int32)) (b_X5_startable_6 F   v0 v1 G) K v4 v5 = some z → WG E RX5 "startable" cX5_startable 9 (some .int) 2 50 0 0 6 [(0, .ref v0), (1, .long v1), (4, .int v4), (5, .int v5)] [] n G (g_O E (some (.int z), n, G)) := by
  intro K
  refine fixN_ind (P := fun (r : Int32 → Int32 → Option (Int32)) => ∀ (v4 : Int32) (v5 : Int32) (z : Int32), r v4 v5 = some z → WG E RX5 "startable" cX5_startable 9 (some .int) 2 50 0 0 6 [(0, .ref v0), (1, .long v1), (4, .int v4), (5, .int v5)] [] n G (g_O E (some (.int z), n, G))) ?_ ?_ K
  · intro v4 v5 z h
    cases h
  · intro rec6 hrec6 v4 v5 z h
    unfold b_X5_startable_6 at h
    refine r_iload d_X5_startable_6 rfl ?_
    refine r_aload d_X5_startable_8 rfl ?_
    refine r_getR h d_X5_startable_9 pf_X5_39 (fun x1 h => ?_)
    refine r_getI h d_X5_startable_12 pf_X5_55 (fun x2 h => ?_)
    refine r_icmp_ge h d_X5_startable_15 (fun h => ?_) (fun h => ?_)
    · refine r_iload d_X5_startable_109 rfl ?_
      exact r_pret h d_X5_startable_111
    · refine r_iload d_X5_startable_18 rfl ?_
      refine r_istore d_X5_startable_20 rfl rfl ?_
      refine r_iconst d_X5_startable_22 ic_0 ?_
      refine r_istore d_X5_startable_23 rfl rfl ?_
      refine r_lv [(0, .ref v0), (1, .long v1), (4, .int v4), (5, .int v5), (6, .int v4), (7, .int (0 : Int32))] (g_allc rfl (g_allc rfl (g_allc rfl (g_allc rfl (g_allc rfl (g_allc rfl g_alln)))))) ?_
      exact l_X5_startable_25  hrec6 _ _ _ _ h
set_option maxRecDepth 100000 in
set_option maxHeartbeats 4000000 in
theorem s_X5_startable {E : GE} {F : Nat}  {v0 : Nat} {v1 : Int64} {v3 : Int32} {n : Nat} {G : GH} {z : Int32}  (h : f_X5_startable F  v0 v1 v3 G = some z) : GM E yX5_startable cX5_startable 9 (some .int) 2 50 0 0 [.ref v0, .long v1, .int v3] n G (some (.int z), n, G) := by
  refine GM.of (by decide) (Nat.le_of_ble_eq_true rfl) ?_
  show WG E RX5 "startable" cX5_startable 9 (some .int) 2 50 0 0 0 [(0, .ref v0), (1, .long v1), (3, .int v3)] [] n G (g_O E (some (.int z), n, G))
  unfold f_X5_startable at h
  refine r_iload d_X5_startable_0 rfl ?_
  refine r_istore d_X5_startable_1 rfl rfl ?_
  refine r_iconst d_X5_startable_3 ic_0 ?_
  refine r_istore d_X5_startable_4 rfl rfl ?_
  refine r_lv [(0, .ref v0), (1, .long v1), (4, .int v3), (5, .int (0 : Int32))] (g_allc rfl (g_allc rfl (g_allc rfl (g_allc rfl g_alln)))) ?_
  exact l_X5_startable_6   _ _ _ _ h
/-! X5_leastStuck -/
theorem d_X5_leastStuck_0 : dec 1 cX5_leastStuck 0 (.iconst 0) 1 := ⟨by decide +kernel, rfl⟩
theorem d_X5_leastStuck_1 : decIS cX5_leastStuck 1 2 2 := Or.inr ⟨2, rfl, by decide +kernel, rfl⟩
theorem d_X5_leastStuck_2 : decIL cX5_leastStuck 2 2 3 := Or.inr ⟨2, rfl, by decide +kernel, rfl⟩
theorem d_X5_leastStuck_3 : decAL cX5_leastStuck 3 0 4 := Or.inr ⟨0, rfl, by decide +kernel, rfl⟩
theorem d_X5_leastStuck_4 : dec 3 cX5_leastStuck 4 (.getfield 39) 7 := ⟨by decide +kernel, rfl⟩
theorem d_X5_leastStuck_7 : dec 3 cX5_leastStuck 7 (.getfield 55) 10 := ⟨by decide +kernel, rfl⟩
theorem d_X5_leastStuck_10 : decB cX5_leastStuck 10 (.if_icmp .ge 19) (19) 13 29 := ⟨by decide +kernel, rfl, by decide⟩
theorem d_X5_leastStuck_13 : decIL cX5_leastStuck 13 1 14 := Or.inr ⟨1, rfl, by decide +kernel, rfl⟩
theorem d_X5_leastStuck_14 : dec 1 cX5_leastStuck 14 (.iconst 1) 15 := ⟨by decide +kernel, rfl⟩
theorem d_X5_leastStuck_15 : decIL cX5_leastStuck 15 2 16 := Or.inr ⟨2, rfl, by decide +kernel, rfl⟩
theorem d_X5_leastStuck_16 : dec 1 cX5_leastStuck 16 .ishl 17 := ⟨by decide +kernel, rfl⟩
theorem d_X5_leastStuck_17 : dec 1 cX5_leastStuck 17 .iand 18 := ⟨by decide +kernel, rfl⟩
theorem d_X5_leastStuck_18 : decB cX5_leastStuck 18 (.ifCond .ne 5) (5) 21 23 := ⟨by decide +kernel, rfl, by decide⟩
theorem d_X5_leastStuck_21 : decIL cX5_leastStuck 21 2 22 := Or.inr ⟨2, rfl, by decide +kernel, rfl⟩
theorem d_X5_leastStuck_22 : dec 1 cX5_leastStuck 22 .ireturn 23 := ⟨by decide +kernel, rfl⟩
theorem d_X5_leastStuck_23 : dec 3 cX5_leastStuck 23 (.iinc 2 1) 26 := ⟨by decide +kernel, rfl⟩
theorem d_X5_leastStuck_26 : decB cX5_leastStuck 26 (.goto (-24)) (-24) 29 2 := ⟨by decide +kernel, rfl, by decide⟩
theorem d_X5_leastStuck_29 : dec 1 cX5_leastStuck 29 (.iconst (-1)) 30 := ⟨by decide +kernel, rfl⟩
theorem d_X5_leastStuck_30 : dec 1 cX5_leastStuck 30 .ireturn 31 := ⟨by decide +kernel, rfl⟩
def b_X5_leastStuck_2 (F : Nat)   (v0 : Nat) (v1 : Int32) (G : GH) (rec2 : Int32 → Option (Int32)) : Int32 → Option (Int32) := fun v2 =>
  Option.bind (gR G v0 5 0) (fun (x1 : Nat) =>
  Option.bind (gI G x1 3 0) (fun (x2 : Int32) =>
  if x2 ≤ v2 then
  (some (-1 : Int32))
  else (if (v1 &&& ((1 : Int32) <<< (v2 &&& 31))) = 0 then
  (some v2)
  else (rec2 (v2 + 1)))))
def f_X5_leastStuck (F : Nat)  (v0 : Nat) (v1 : Int32) (G : GH) : Option (Int32) :=
  fixN (fun _ => none) (b_X5_leastStuck_2 F   v0 v1 G) F (0 : Int32)
set_option maxRecDepth 100000 in
set_option maxHeartbeats 4000000 in
theorem l_X5_leastStuck_2 {E : GE} {F : Nat}   {v0 : Nat} {v1 : Int32} {n : Nat} {G : GH}   : ∀ (K : Nat) (v2 : Int32) (z : Int32), fixN ((fun _ => none) : Int32 → Option (Int32)) (b_X5_leastStuck_2 F   v0 v1 G) K v2 = some z → WG E RX5 "leastStuck" cX5_leastStuck 3 (some .int) 0 0 0 0 2 [(0, .ref v0), (1, .int v1), (2, .int v2)] [] n G (g_O E (some (.int z), n, G)) := by
  intro K
  refine fixN_ind (P := fun (r : Int32 → Option (Int32)) => ∀ (v2 : Int32) (z : Int32), r v2 = some z → WG E RX5 "leastStuck" cX5_leastStuck 3 (some .int) 0 0 0 0 2 [(0, .ref v0), (1, .int v1), (2, .int v2)] [] n G (g_O E (some (.int z), n, G))) ?_ ?_ K
  · intro v2 z h
    cases h
  · intro rec2 hrec2 v2 z h
    unfold b_X5_leastStuck_2 at h
    refine r_iload d_X5_leastStuck_2 rfl ?_
    refine r_aload d_X5_leastStuck_3 rfl ?_
    refine r_getR h d_X5_leastStuck_4 pf_X5_39 (fun x1 h => ?_)
    refine r_getI h d_X5_leastStuck_7 pf_X5_55 (fun x2 h => ?_)
    refine r_icmp_ge h d_X5_leastStuck_10 (fun h => ?_) (fun h => ?_)
    · refine r_iconst d_X5_leastStuck_29 ic_m1 ?_
      exact r_pret h d_X5_leastStuck_30
    · refine r_iload d_X5_leastStuck_13 rfl ?_
      refine r_iconst d_X5_leastStuck_14 ic_1 ?_
      refine r_iload d_X5_leastStuck_15 rfl ?_
      refine r_ishl d_X5_leastStuck_16 ?_
      refine r_iand d_X5_leastStuck_17 ?_
      refine r_if_ne h d_X5_leastStuck_18 (fun h => ?_) (fun h => ?_)
      · refine r_iinc d_X5_leastStuck_23 rfl (ii_1 _) rfl rfl ?_
        refine r_goto d_X5_leastStuck_26 ?_
        refine r_lv [(0, .ref v0), (1, .int v1), (2, .int (v2 + 1))] (g_allc rfl (g_allc rfl (g_allc rfl g_alln))) ?_
        exact hrec2 _ _ h
      · refine r_iload d_X5_leastStuck_21 rfl ?_
        exact r_pret h d_X5_leastStuck_22
set_option maxRecDepth 100000 in
set_option maxHeartbeats 4000000 in
theorem s_X5_leastStuck {E : GE} {F : Nat}  {v0 : Nat} {v1 : Int32} {n : Nat} {G : GH} {z : Int32}  (h : f_X5_leastStuck F  v0 v1 G = some z) : GM E yX5_leastStuck cX5_leastStuck 3 (some .int) 0 0 0 0 [.ref v0, .int v1] n G (some (.int z), n, G) := by
  refine GM.of (by decide) (Nat.le_of_ble_eq_true rfl) ?_
  show WG E RX5 "leastStuck" cX5_leastStuck 3 (some .int) 0 0 0 0 0 [(0, .ref v0), (1, .int v1)] [] n G (g_O E (some (.int z), n, G))
  unfold f_X5_leastStuck at h
  refine r_iconst d_X5_leastStuck_0 ic_0 ?_
  refine r_istore d_X5_leastStuck_1 rfl rfl ?_
  refine r_lv [(0, .ref v0), (1, .int v1), (2, .int (0 : Int32))] (g_allc rfl (g_allc rfl (g_allc rfl g_alln))) ?_
  exact l_X5_leastStuck_2   _ _ _ h
/-! X5_stuckSlot -/
theorem pf_X5_95 : pF RX5 95 3 6 := ⟨RX3, TX3, 9, rfl, by decide, rfl, Or.inr ⟨"PlugBoard", g_in 202 (by decide +kernel) rfl⟩⟩
theorem pl_X5_98 : pL RX5 98 yX3_isEager := Or.inl (g_in 965 (by decide +kernel) rfl)
theorem pf_X5_102 : pF RX5 102 3 8 := ⟨RX3, TX3, 9, rfl, by decide, rfl, Or.inr ⟨"PlugBoard", g_in 208 (by decide +kernel) rfl⟩⟩
theorem d_X5_stuckSlot_0 : dec 1 cX5_stuckSlot 0 (.iconst 0) 1 := ⟨by decide +kernel, rfl⟩
theorem d_X5_stuckSlot_1 : decIS cX5_stuckSlot 1 5 3 := Or.inl ⟨by decide +kernel, rfl⟩
theorem d_X5_stuckSlot_3 : decIL cX5_stuckSlot 3 5 5 := Or.inl ⟨by decide +kernel, rfl⟩
theorem d_X5_stuckSlot_5 : decAL cX5_stuckSlot 5 0 6 := Or.inr ⟨0, rfl, by decide +kernel, rfl⟩
theorem d_X5_stuckSlot_6 : dec 3 cX5_stuckSlot 6 (.getfield 39) 9 := ⟨by decide +kernel, rfl⟩
theorem d_X5_stuckSlot_9 : dec 3 cX5_stuckSlot 9 (.getfield 95) 12 := ⟨by decide +kernel, rfl⟩
theorem d_X5_stuckSlot_12 : decIL cX5_stuckSlot 12 1 13 := Or.inr ⟨1, rfl, by decide +kernel, rfl⟩
theorem d_X5_stuckSlot_13 : dec 1 cX5_stuckSlot 13 .iaload 14 := ⟨by decide +kernel, rfl⟩
theorem d_X5_stuckSlot_14 : decB cX5_stuckSlot 14 (.if_icmp .ge 73) (73) 17 87 := ⟨by decide +kernel, rfl, by decide⟩
theorem d_X5_stuckSlot_17 : decIL cX5_stuckSlot 17 1 18 := Or.inr ⟨1, rfl, by decide +kernel, rfl⟩
theorem d_X5_stuckSlot_18 : dec 1 cX5_stuckSlot 18 (.iconst 4) 19 := ⟨by decide +kernel, rfl⟩
theorem d_X5_stuckSlot_19 : dec 1 cX5_stuckSlot 19 .imul 20 := ⟨by decide +kernel, rfl⟩
theorem d_X5_stuckSlot_20 : decIL cX5_stuckSlot 20 5 22 := Or.inl ⟨by decide +kernel, rfl⟩
theorem d_X5_stuckSlot_22 : dec 1 cX5_stuckSlot 22 .iadd 23 := ⟨by decide +kernel, rfl⟩
theorem d_X5_stuckSlot_23 : decIS cX5_stuckSlot 23 6 25 := Or.inl ⟨by decide +kernel, rfl⟩
theorem d_X5_stuckSlot_25 : decAL cX5_stuckSlot 25 0 26 := Or.inr ⟨0, rfl, by decide +kernel, rfl⟩
theorem d_X5_stuckSlot_26 : dec 3 cX5_stuckSlot 26 (.getfield 39) 29 := ⟨by decide +kernel, rfl⟩
theorem d_X5_stuckSlot_29 : decIL cX5_stuckSlot 29 1 30 := Or.inr ⟨1, rfl, by decide +kernel, rfl⟩
theorem d_X5_stuckSlot_30 : decIL cX5_stuckSlot 30 5 32 := Or.inl ⟨by decide +kernel, rfl⟩
theorem d_X5_stuckSlot_32 : dec 3 cX5_stuckSlot 32 (.invokevirtual 98) 35 := ⟨by decide +kernel, rfl⟩
theorem d_X5_stuckSlot_35 : decB cX5_stuckSlot 35 (.ifCond .eq 18) (18) 38 53 := ⟨by decide +kernel, rfl, by decide⟩
theorem d_X5_stuckSlot_38 : decLL cX5_stuckSlot 38 3 39 := Or.inr ⟨3, rfl, by decide +kernel, rfl⟩
theorem d_X5_stuckSlot_39 : dec 1 cX5_stuckSlot 39 (.lconst 1) 40 := ⟨by decide +kernel, rfl⟩
theorem d_X5_stuckSlot_40 : decIL cX5_stuckSlot 40 6 42 := Or.inl ⟨by decide +kernel, rfl⟩
theorem d_X5_stuckSlot_42 : dec 1 cX5_stuckSlot 42 .lshl 43 := ⟨by decide +kernel, rfl⟩
theorem d_X5_stuckSlot_43 : dec 1 cX5_stuckSlot 43 .land 44 := ⟨by decide +kernel, rfl⟩
theorem d_X5_stuckSlot_44 : dec 1 cX5_stuckSlot 44 (.lconst 0) 45 := ⟨by decide +kernel, rfl⟩
theorem d_X5_stuckSlot_45 : dec 1 cX5_stuckSlot 45 .lcmp 46 := ⟨by decide +kernel, rfl⟩
theorem d_X5_stuckSlot_46 : decB cX5_stuckSlot 46 (.ifCond .ne 7) (7) 49 53 := ⟨by decide +kernel, rfl, by decide⟩
theorem d_X5_stuckSlot_49 : dec 1 cX5_stuckSlot 49 (.iconst 1) 50 := ⟨by decide +kernel, rfl⟩
theorem d_X5_stuckSlot_50 : decB cX5_stuckSlot 50 (.goto 4) (4) 53 54 := ⟨by decide +kernel, rfl, by decide⟩
theorem d_X5_stuckSlot_53 : dec 1 cX5_stuckSlot 53 (.iconst 0) 54 := ⟨by decide +kernel, rfl⟩
theorem d_X5_stuckSlot_54 : decIS cX5_stuckSlot 54 7 56 := Or.inl ⟨by decide +kernel, rfl⟩
theorem d_X5_stuckSlot_56 : decIL cX5_stuckSlot 56 7 58 := Or.inl ⟨by decide +kernel, rfl⟩
theorem d_X5_stuckSlot_58 : decB cX5_stuckSlot 58 (.ifCond .eq 23) (23) 61 81 := ⟨by decide +kernel, rfl, by decide⟩
theorem d_X5_stuckSlot_61 : decIL cX5_stuckSlot 61 2 62 := Or.inr ⟨2, rfl, by decide +kernel, rfl⟩
theorem d_X5_stuckSlot_62 : dec 1 cX5_stuckSlot 62 (.iconst 1) 63 := ⟨by decide +kernel, rfl⟩
theorem d_X5_stuckSlot_63 : decAL cX5_stuckSlot 63 0 64 := Or.inr ⟨0, rfl, by decide +kernel, rfl⟩
theorem d_X5_stuckSlot_64 : dec 3 cX5_stuckSlot 64 (.getfield 39) 67 := ⟨by decide +kernel, rfl⟩
theorem d_X5_stuckSlot_67 : dec 3 cX5_stuckSlot 67 (.getfield 102) 70 := ⟨by decide +kernel, rfl⟩
theorem d_X5_stuckSlot_70 : decIL cX5_stuckSlot 70 6 72 := Or.inl ⟨by decide +kernel, rfl⟩
theorem d_X5_stuckSlot_72 : dec 1 cX5_stuckSlot 72 .iaload 73 := ⟨by decide +kernel, rfl⟩
theorem d_X5_stuckSlot_73 : dec 1 cX5_stuckSlot 73 .ishl 74 := ⟨by decide +kernel, rfl⟩
theorem d_X5_stuckSlot_74 : dec 1 cX5_stuckSlot 74 .iand 75 := ⟨by decide +kernel, rfl⟩
theorem d_X5_stuckSlot_75 : decB cX5_stuckSlot 75 (.ifCond .ne 6) (6) 78 81 := ⟨by decide +kernel, rfl, by decide⟩
theorem d_X5_stuckSlot_78 : decIL cX5_stuckSlot 78 6 80 := Or.inl ⟨by decide +kernel, rfl⟩
theorem d_X5_stuckSlot_80 : dec 1 cX5_stuckSlot 80 .ireturn 81 := ⟨by decide +kernel, rfl⟩
theorem d_X5_stuckSlot_81 : dec 3 cX5_stuckSlot 81 (.iinc 5 1) 84 := ⟨by decide +kernel, rfl⟩
theorem d_X5_stuckSlot_84 : decB cX5_stuckSlot 84 (.goto (-81)) (-81) 87 3 := ⟨by decide +kernel, rfl, by decide⟩
theorem d_X5_stuckSlot_87 : dec 1 cX5_stuckSlot 87 (.iconst (-1)) 88 := ⟨by decide +kernel, rfl⟩
theorem d_X5_stuckSlot_88 : dec 1 cX5_stuckSlot 88 .ireturn 89 := ⟨by decide +kernel, rfl⟩
def k_X5_stuckSlot_54 (F : Nat)  (rec3 : Int32 → Option (Int32)) (v0 : Nat) (v1 : Int32) (v2 : Int32) (v3 : Int64) (v5 : Int32) (v6 : Int32) (s0 : Int32) (G : GH) : Option (Int32) :=
  if s0 = 0 then
  (rec3 (v5 + 1))
  else (Option.bind (gR G v0 5 0) (fun (x7 : Nat) =>
  Option.bind (gR G x7 3 8) (fun (x8 : Nat) =>
  Option.bind (aI G x8 0 v6) (fun (x9 : Int32) =>
  if (v2 &&& ((1 : Int32) <<< (x9 &&& 31))) = 0 then
  (some v6)
  else (rec3 (v5 + 1))))))
def k_X5_stuckSlot_53 (F : Nat)  (rec3 : Int32 → Option (Int32)) (v0 : Nat) (v1 : Int32) (v2 : Int32) (v3 : Int64) (v5 : Int32) (v6 : Int32)  (G : GH) : Option (Int32) :=
  k_X5_stuckSlot_54 F  rec3 v0 v1 v2 v3 v5 v6 (0 : Int32) G
def b_X5_stuckSlot_3 (F : Nat)   (v0 : Nat) (v1 : Int32) (v2 : Int32) (v3 : Int64) (G : GH) (rec3 : Int32 → Option (Int32)) : Int32 → Option (Int32) := fun v5 =>
  Option.bind (gR G v0 5 0) (fun (x1 : Nat) =>
  Option.bind (gR G x1 3 6) (fun (x2 : Nat) =>
  Option.bind (aI G x2 0 v1) (fun (x3 : Int32) =>
  if x3 ≤ v5 then
  (some (-1 : Int32))
  else (gnm ((v1 * (4 : Int32)) + v5) (fun (y4 : Int32) =>
  Option.bind (gR G v0 5 0) (fun (x5 : Nat) =>
  cvP G x5 3 (f_X3_isEager F x5 v1 v5 G) (fun (x6 : Int32) =>
  if x6 = 0 then
  (k_X5_stuckSlot_53 F  rec3 v0 v1 v2 v3 v5 y4 G)
  else (if (lg_cmp (v3 &&& ((1 : Int64) <<< ((Int32.toInt64 y4) &&& 63))) (0 : Int64)) = 0 then
  (k_X5_stuckSlot_54 F  rec3 v0 v1 v2 v3 v5 y4 (1 : Int32) G)
  else (k_X5_stuckSlot_53 F  rec3 v0 v1 v2 v3 v5 y4 G)))))))))
def f_X5_stuckSlot (F : Nat)  (v0 : Nat) (v1 : Int32) (v2 : Int32) (v3 : Int64) (G : GH) : Option (Int32) :=
  fixN (fun _ => none) (b_X5_stuckSlot_3 F   v0 v1 v2 v3 G) F (0 : Int32)
set_option maxRecDepth 100000 in
set_option maxHeartbeats 4000000 in
theorem c_X5_stuckSlot_54 {E : GE} {F : Nat}  {rec3 : Int32 → Option (Int32)} {v0 : Nat} {v1 : Int32} {v2 : Int32} {v3 : Int64} {v5 : Int32} {v6 : Int32} {s0 : Int32} {n : Nat} {G : GH} {z : Int32}  (hrec3 : ∀ (w5 : Int32) (z : Int32), rec3 w5 = some z → WG E RX5 "stuckSlot" cX5_stuckSlot 8 (some .int) 1 22 0 0 3 [(0, .ref v0), (1, .int v1), (2, .int v2), (3, .long v3), (5, .int w5)] [] n G (g_O E (some (.int z), n, G))) (h : k_X5_stuckSlot_54 F  rec3 v0 v1 v2 v3 v5 v6 s0 G = some z) : WG E RX5 "stuckSlot" cX5_stuckSlot 8 (some .int) 1 22 0 0 54 [(0, .ref v0), (1, .int v1), (2, .int v2), (3, .long v3), (5, .int v5), (6, .int v6)] [.int s0] n G (g_O E (some (.int z), n, G)) := by
  unfold k_X5_stuckSlot_54 at h
  refine r_istore d_X5_stuckSlot_54 rfl rfl ?_
  refine r_iload d_X5_stuckSlot_56 rfl ?_
  refine r_if_eq h d_X5_stuckSlot_58 (fun h => ?_) (fun h => ?_)
  · refine r_iinc d_X5_stuckSlot_81 rfl (ii_1 _) rfl rfl ?_
    refine r_goto d_X5_stuckSlot_84 ?_
    refine r_lv [(0, .ref v0), (1, .int v1), (2, .int v2), (3, .long v3), (5, .int (v5 + 1))] (g_allc rfl (g_allc rfl (g_allc rfl (g_allc rfl (g_allc rfl g_alln))))) ?_
    exact hrec3 _ _ h
  · refine r_iload d_X5_stuckSlot_61 rfl ?_
    refine r_iconst d_X5_stuckSlot_62 ic_1 ?_
    refine r_aload d_X5_stuckSlot_63 rfl ?_
    refine r_getR h d_X5_stuckSlot_64 pf_X5_39 (fun x7 h => ?_)
    refine r_getR h d_X5_stuckSlot_67 pf_X5_102 (fun x8 h => ?_)
    refine r_iload d_X5_stuckSlot_70 rfl ?_
    refine r_iald h d_X5_stuckSlot_72 (fun x9 h => ?_)
    refine r_ishl d_X5_stuckSlot_73 ?_
    refine r_iand d_X5_stuckSlot_74 ?_
    refine r_if_ne h d_X5_stuckSlot_75 (fun h => ?_) (fun h => ?_)
    · refine r_iinc d_X5_stuckSlot_81 rfl (ii_1 _) rfl rfl ?_
      refine r_goto d_X5_stuckSlot_84 ?_
      refine r_lv [(0, .ref v0), (1, .int v1), (2, .int v2), (3, .long v3), (5, .int (v5 + 1))] (g_allc rfl (g_allc rfl (g_allc rfl (g_allc rfl (g_allc rfl g_alln))))) ?_
      exact hrec3 _ _ h
    · refine r_iload d_X5_stuckSlot_78 rfl ?_
      exact r_pret h d_X5_stuckSlot_80
set_option maxRecDepth 100000 in
set_option maxHeartbeats 4000000 in
theorem c_X5_stuckSlot_53 {E : GE} {F : Nat}  {rec3 : Int32 → Option (Int32)} {v0 : Nat} {v1 : Int32} {v2 : Int32} {v3 : Int64} {v5 : Int32} {v6 : Int32}  {n : Nat} {G : GH} {z : Int32}  (hrec3 : ∀ (w5 : Int32) (z : Int32), rec3 w5 = some z → WG E RX5 "stuckSlot" cX5_stuckSlot 8 (some .int) 1 22 0 0 3 [(0, .ref v0), (1, .int v1), (2, .int v2), (3, .long v3), (5, .int w5)] [] n G (g_O E (some (.int z), n, G))) (h : k_X5_stuckSlot_53 F  rec3 v0 v1 v2 v3 v5 v6  G = some z) : WG E RX5 "stuckSlot" cX5_stuckSlot 8 (some .int) 1 22 0 0 53 [(0, .ref v0), (1, .int v1), (2, .int v2), (3, .long v3), (5, .int v5), (6, .int v6)] [] n G (g_O E (some (.int z), n, G)) := by
  unfold k_X5_stuckSlot_53 at h
  refine r_iconst d_X5_stuckSlot_53 ic_0 ?_
  refine r_lv [(0, .ref v0), (1, .int v1), (2, .int v2), (3, .long v3), (5, .int v5), (6, .int v6)] (g_allc rfl (g_allc rfl (g_allc rfl (g_allc rfl (g_allc rfl (g_allc rfl g_alln)))))) ?_
  exact c_X5_stuckSlot_54  hrec3 h
set_option maxRecDepth 100000 in
set_option maxHeartbeats 4000000 in
theorem l_X5_stuckSlot_3 {E : GE} {F : Nat}   {v0 : Nat} {v1 : Int32} {v2 : Int32} {v3 : Int64} {n : Nat} {G : GH}   : ∀ (K : Nat) (v5 : Int32) (z : Int32), fixN ((fun _ => none) : Int32 → Option (Int32)) (b_X5_stuckSlot_3 F   v0 v1 v2 v3 G) K v5 = some z → WG E RX5 "stuckSlot" cX5_stuckSlot 8 (some .int) 1 22 0 0 3 [(0, .ref v0), (1, .int v1), (2, .int v2), (3, .long v3), (5, .int v5)] [] n G (g_O E (some (.int z), n, G)) := by
  intro K
  refine fixN_ind (P := fun (r : Int32 → Option (Int32)) => ∀ (v5 : Int32) (z : Int32), r v5 = some z → WG E RX5 "stuckSlot" cX5_stuckSlot 8 (some .int) 1 22 0 0 3 [(0, .ref v0), (1, .int v1), (2, .int v2), (3, .long v3), (5, .int v5)] [] n G (g_O E (some (.int z), n, G))) ?_ ?_ K
  · intro v5 z h
    cases h
  · intro rec3 hrec3 v5 z h
    unfold b_X5_stuckSlot_3 at h
    refine r_iload d_X5_stuckSlot_3 rfl ?_
    refine r_aload d_X5_stuckSlot_5 rfl ?_
    refine r_getR h d_X5_stuckSlot_6 pf_X5_39 (fun x1 h => ?_)
    refine r_getR h d_X5_stuckSlot_9 pf_X5_95 (fun x2 h => ?_)
    refine r_iload d_X5_stuckSlot_12 rfl ?_
    refine r_iald h d_X5_stuckSlot_13 (fun x3 h => ?_)
    refine r_icmp_ge h d_X5_stuckSlot_14 (fun h => ?_) (fun h => ?_)
    · refine r_iconst d_X5_stuckSlot_87 ic_m1 ?_
      exact r_pret h d_X5_stuckSlot_88
    · refine r_iload d_X5_stuckSlot_17 rfl ?_
      refine r_iconst d_X5_stuckSlot_18 ic_4 ?_
      refine r_imul d_X5_stuckSlot_19 ?_
      refine r_iload d_X5_stuckSlot_20 rfl ?_
      refine r_iadd d_X5_stuckSlot_22 ?_
      refine r_nmI h (fun y4 _ h => ?_)
      refine r_istore d_X5_stuckSlot_23 rfl rfl ?_
      refine r_aload d_X5_stuckSlot_25 rfl ?_
      refine r_getR h d_X5_stuckSlot_26 pf_X5_39 (fun x5 h => ?_)
      refine r_iload d_X5_stuckSlot_29 rfl ?_
      refine r_iload d_X5_stuckSlot_30 rfl ?_
      refine r_invP [_, _] h (fun _ hq => s_X3_isEager hq) d_X5_stuckSlot_32 pl_X5_98 py_X3_isEager pi_X3_isEager rfl rfl rfl (fun x6 h => ?_)
      refine r_if_eq h d_X5_stuckSlot_35 (fun h => ?_) (fun h => ?_)
      · refine r_lv [(0, .ref v0), (1, .int v1), (2, .int v2), (3, .long v3), (5, .int v5), (6, .int y4)] (g_allc rfl (g_allc rfl (g_allc rfl (g_allc rfl (g_allc rfl (g_allc rfl g_alln)))))) ?_
        exact c_X5_stuckSlot_53  hrec3 h
      · refine r_lload d_X5_stuckSlot_38 rfl ?_
        refine r_lconst d_X5_stuckSlot_39 lc_1 ?_
        refine r_iload d_X5_stuckSlot_40 rfl ?_
        refine r_lshl d_X5_stuckSlot_42 ?_
        refine r_land d_X5_stuckSlot_43 ?_
        refine r_lconst d_X5_stuckSlot_44 lc_0 ?_
        refine r_lcmp d_X5_stuckSlot_45 ?_
        refine r_if_ne h d_X5_stuckSlot_46 (fun h => ?_) (fun h => ?_)
        · refine r_lv [(0, .ref v0), (1, .int v1), (2, .int v2), (3, .long v3), (5, .int v5), (6, .int y4)] (g_allc rfl (g_allc rfl (g_allc rfl (g_allc rfl (g_allc rfl (g_allc rfl g_alln)))))) ?_
          exact c_X5_stuckSlot_53  hrec3 h
        · refine r_iconst d_X5_stuckSlot_49 ic_1 ?_
          refine r_goto d_X5_stuckSlot_50 ?_
          refine r_lv [(0, .ref v0), (1, .int v1), (2, .int v2), (3, .long v3), (5, .int v5), (6, .int y4)] (g_allc rfl (g_allc rfl (g_allc rfl (g_allc rfl (g_allc rfl (g_allc rfl g_alln)))))) ?_
          exact c_X5_stuckSlot_54  hrec3 h
set_option maxRecDepth 100000 in
set_option maxHeartbeats 4000000 in
theorem s_X5_stuckSlot {E : GE} {F : Nat}  {v0 : Nat} {v1 : Int32} {v2 : Int32} {v3 : Int64} {n : Nat} {G : GH} {z : Int32}  (h : f_X5_stuckSlot F  v0 v1 v2 v3 G = some z) : GM E yX5_stuckSlot cX5_stuckSlot 8 (some .int) 1 22 0 0 [.ref v0, .int v1, .int v2, .long v3] n G (some (.int z), n, G) := by
  refine GM.of (by decide) (Nat.le_of_ble_eq_true rfl) ?_
  show WG E RX5 "stuckSlot" cX5_stuckSlot 8 (some .int) 1 22 0 0 0 [(0, .ref v0), (1, .int v1), (2, .int v2), (3, .long v3)] [] n G (g_O E (some (.int z), n, G))
  unfold f_X5_stuckSlot at h
  refine r_iconst d_X5_stuckSlot_0 ic_0 ?_
  refine r_istore d_X5_stuckSlot_1 rfl rfl ?_
  refine r_lv [(0, .ref v0), (1, .int v1), (2, .int v2), (3, .long v3), (5, .int (0 : Int32))] (g_allc rfl (g_allc rfl (g_allc rfl (g_allc rfl (g_allc rfl g_alln))))) ?_
  exact l_X5_stuckSlot_3   _ _ _ h
/-! X5_behind -/
theorem d_X5_behind_0 : decIL cX5_behind 0 1 1 := Or.inr ⟨1, rfl, by decide +kernel, rfl⟩
theorem d_X5_behind_1 : decB cX5_behind 1 (.ifCond .lt 21) (21) 4 22 := ⟨by decide +kernel, rfl, by decide⟩
theorem d_X5_behind_4 : decIL cX5_behind 4 1 5 := Or.inr ⟨1, rfl, by decide +kernel, rfl⟩
theorem d_X5_behind_5 : dec 2 cX5_behind 5 (.bipush 48) 7 := ⟨by decide +kernel, rfl⟩
theorem d_X5_behind_7 : decB cX5_behind 7 (.if_icmp .ge 15) (15) 10 22 := ⟨by decide +kernel, rfl, by decide⟩
theorem d_X5_behind_10 : decAL cX5_behind 10 0 11 := Or.inr ⟨0, rfl, by decide +kernel, rfl⟩
theorem d_X5_behind_11 : dec 3 cX5_behind 11 (.getfield 39) 14 := ⟨by decide +kernel, rfl⟩
theorem d_X5_behind_14 : dec 3 cX5_behind 14 (.getfield 102) 17 := ⟨by decide +kernel, rfl⟩
theorem d_X5_behind_17 : decIL cX5_behind 17 1 18 := Or.inr ⟨1, rfl, by decide +kernel, rfl⟩
theorem d_X5_behind_18 : dec 1 cX5_behind 18 .iaload 19 := ⟨by decide +kernel, rfl⟩
theorem d_X5_behind_19 : decB cX5_behind 19 (.goto 4) (4) 22 23 := ⟨by decide +kernel, rfl, by decide⟩
theorem d_X5_behind_22 : dec 1 cX5_behind 22 (.iconst (-1)) 23 := ⟨by decide +kernel, rfl⟩
theorem d_X5_behind_23 : dec 1 cX5_behind 23 .ireturn 24 := ⟨by decide +kernel, rfl⟩
def f_X5_behind (F : Nat)  (v0 : Nat) (v1 : Int32) (G : GH) : Option (Int32) :=
  if v1 < 0 then
  (some (-1 : Int32))
  else (if (48 : Int32) ≤ v1 then
  (some (-1 : Int32))
  else (Option.bind (gR G v0 5 0) (fun (x1 : Nat) =>
  Option.bind (gR G x1 3 8) (fun (x2 : Nat) =>
  Option.bind (aI G x2 0 v1) (fun (x3 : Int32) =>
  some x3)))))
set_option maxRecDepth 100000 in
set_option maxHeartbeats 4000000 in
theorem s_X5_behind {E : GE} {F : Nat}  {v0 : Nat} {v1 : Int32} {n : Nat} {G : GH} {z : Int32}  (h : f_X5_behind F  v0 v1 G = some z) : GM E yX5_behind cX5_behind 2 (some .int) 0 0 0 0 [.ref v0, .int v1] n G (some (.int z), n, G) := by
  refine GM.of (by decide) (Nat.le_of_ble_eq_true rfl) ?_
  show WG E RX5 "behind" cX5_behind 2 (some .int) 0 0 0 0 0 [(0, .ref v0), (1, .int v1)] [] n G (g_O E (some (.int z), n, G))
  unfold f_X5_behind at h
  refine r_iload d_X5_behind_0 rfl ?_
  refine r_if_lt h d_X5_behind_1 (fun h => ?_) (fun h => ?_)
  · refine r_iconst d_X5_behind_22 ic_m1 ?_
    exact r_pret h d_X5_behind_23
  · refine r_iload d_X5_behind_4 rfl ?_
    refine r_bipush d_X5_behind_5 bp_48 ?_
    refine r_icmp_ge h d_X5_behind_7 (fun h => ?_) (fun h => ?_)
    · refine r_iconst d_X5_behind_22 ic_m1 ?_
      exact r_pret h d_X5_behind_23
    · refine r_aload d_X5_behind_10 rfl ?_
      refine r_getR h d_X5_behind_11 pf_X5_39 (fun x1 h => ?_)
      refine r_getR h d_X5_behind_14 pf_X5_102 (fun x2 h => ?_)
      refine r_iload d_X5_behind_17 rfl ?_
      refine r_iald h d_X5_behind_18 (fun x3 h => ?_)
      refine r_goto d_X5_behind_19 ?_
      exact r_pret h d_X5_behind_23
/-! X5_loopEntry -/
theorem py_X5_leastStuck : pY yX5_leastStuck cX5_leastStuck 3 (some .int) 1 := ⟨g_in 960 (by decide +kernel) rfl, g_in 103 (by decide +kernel) rfl, by decide, by decide, by decide +kernel⟩
theorem pi_X5_leastStuck : pI yX5_leastStuck 5 := ⟨g_in 959 (by decide +kernel) rfl, g_in 31 (by decide +kernel) rfl, (RX5, TX5, 9), rfl, rfl⟩
theorem pl_X5_92 : pL RX5 92 yX5_leastStuck := Or.inl (g_in 957 (by decide +kernel) rfl)
theorem py_X5_stuckSlot : pY yX5_stuckSlot cX5_stuckSlot 8 (some .int) 3 := ⟨g_in 964 (by decide +kernel) rfl, g_in 103 (by decide +kernel) rfl, by decide, by decide, by decide +kernel⟩
theorem pi_X5_stuckSlot : pI yX5_stuckSlot 5 := ⟨g_in 963 (by decide +kernel) rfl, g_in 32 (by decide +kernel) rfl, (RX5, TX5, 9), rfl, rfl⟩
theorem pl_X5_85 : pL RX5 85 yX5_stuckSlot := Or.inl (g_in 961 (by decide +kernel) rfl)
theorem py_X5_behind : pY yX5_behind cX5_behind 2 (some .int) 1 := ⟨g_in 969 (by decide +kernel) rfl, g_in 103 (by decide +kernel) rfl, by decide, by decide, by decide +kernel⟩
theorem pi_X5_behind : pI yX5_behind 5 := ⟨g_in 968 (by decide +kernel) rfl, g_in 33 (by decide +kernel) rfl, (RX5, TX5, 9), rfl, rfl⟩
theorem pl_X5_89 : pL RX5 89 yX5_behind := Or.inl (g_in 966 (by decide +kernel) rfl)
theorem d_X5_loopEntry_0 : decAL cX5_loopEntry 0 0 1 := Or.inr ⟨0, rfl, by decide +kernel, rfl⟩
theorem d_X5_loopEntry_1 : decIL cX5_loopEntry 1 1 2 := Or.inr ⟨1, rfl, by decide +kernel, rfl⟩
theorem d_X5_loopEntry_2 : dec 3 cX5_loopEntry 2 (.invokevirtual 92) 5 := ⟨by decide +kernel, rfl⟩
theorem d_X5_loopEntry_5 : decIS cX5_loopEntry 5 4 7 := Or.inl ⟨by decide +kernel, rfl⟩
theorem d_X5_loopEntry_7 : dec 1 cX5_loopEntry 7 (.iconst 0) 8 := ⟨by decide +kernel, rfl⟩
theorem d_X5_loopEntry_8 : decIS cX5_loopEntry 8 5 10 := Or.inl ⟨by decide +kernel, rfl⟩
theorem d_X5_loopEntry_10 : dec 1 cX5_loopEntry 10 (.iconst 0) 11 := ⟨by decide +kernel, rfl⟩
theorem d_X5_loopEntry_11 : decIS cX5_loopEntry 11 6 13 := Or.inl ⟨by decide +kernel, rfl⟩
theorem d_X5_loopEntry_13 : decIL cX5_loopEntry 13 6 15 := Or.inl ⟨by decide +kernel, rfl⟩
theorem d_X5_loopEntry_15 : decAL cX5_loopEntry 15 0 16 := Or.inr ⟨0, rfl, by decide +kernel, rfl⟩
theorem d_X5_loopEntry_16 : dec 3 cX5_loopEntry 16 (.getfield 39) 19 := ⟨by decide +kernel, rfl⟩
theorem d_X5_loopEntry_19 : dec 3 cX5_loopEntry 19 (.getfield 55) 22 := ⟨by decide +kernel, rfl⟩
theorem d_X5_loopEntry_22 : decB cX5_loopEntry 22 (.if_icmp .gt 51) (51) 25 73 := ⟨by decide +kernel, rfl, by decide⟩
theorem d_X5_loopEntry_25 : decIL cX5_loopEntry 25 4 27 := Or.inl ⟨by decide +kernel, rfl⟩
theorem d_X5_loopEntry_27 : dec 1 cX5_loopEntry 27 (.iconst (-1)) 28 := ⟨by decide +kernel, rfl⟩
theorem d_X5_loopEntry_28 : decB cX5_loopEntry 28 (.if_icmp .eq 45) (45) 31 73 := ⟨by decide +kernel, rfl, by decide⟩
theorem d_X5_loopEntry_31 : decIL cX5_loopEntry 31 5 33 := Or.inl ⟨by decide +kernel, rfl⟩
theorem d_X5_loopEntry_33 : dec 1 cX5_loopEntry 33 (.iconst 1) 34 := ⟨by decide +kernel, rfl⟩
theorem d_X5_loopEntry_34 : decIL cX5_loopEntry 34 4 36 := Or.inl ⟨by decide +kernel, rfl⟩
theorem d_X5_loopEntry_36 : dec 1 cX5_loopEntry 36 .ishl 37 := ⟨by decide +kernel, rfl⟩
theorem d_X5_loopEntry_37 : dec 1 cX5_loopEntry 37 .iand 38 := ⟨by decide +kernel, rfl⟩
theorem d_X5_loopEntry_38 : decB cX5_loopEntry 38 (.ifCond .eq 6) (6) 41 44 := ⟨by decide +kernel, rfl, by decide⟩
theorem d_X5_loopEntry_41 : decIL cX5_loopEntry 41 4 43 := Or.inl ⟨by decide +kernel, rfl⟩
theorem d_X5_loopEntry_43 : dec 1 cX5_loopEntry 43 .ireturn 44 := ⟨by decide +kernel, rfl⟩
theorem d_X5_loopEntry_44 : decIL cX5_loopEntry 44 5 46 := Or.inl ⟨by decide +kernel, rfl⟩
theorem d_X5_loopEntry_46 : dec 1 cX5_loopEntry 46 (.iconst 1) 47 := ⟨by decide +kernel, rfl⟩
theorem d_X5_loopEntry_47 : decIL cX5_loopEntry 47 4 49 := Or.inl ⟨by decide +kernel, rfl⟩
theorem d_X5_loopEntry_49 : dec 1 cX5_loopEntry 49 .ishl 50 := ⟨by decide +kernel, rfl⟩
theorem d_X5_loopEntry_50 : dec 1 cX5_loopEntry 50 .ior 51 := ⟨by decide +kernel, rfl⟩
theorem d_X5_loopEntry_51 : decIS cX5_loopEntry 51 5 53 := Or.inl ⟨by decide +kernel, rfl⟩
theorem d_X5_loopEntry_53 : decAL cX5_loopEntry 53 0 54 := Or.inr ⟨0, rfl, by decide +kernel, rfl⟩
theorem d_X5_loopEntry_54 : decAL cX5_loopEntry 54 0 55 := Or.inr ⟨0, rfl, by decide +kernel, rfl⟩
theorem d_X5_loopEntry_55 : decIL cX5_loopEntry 55 4 57 := Or.inl ⟨by decide +kernel, rfl⟩
theorem d_X5_loopEntry_57 : decIL cX5_loopEntry 57 1 58 := Or.inr ⟨1, rfl, by decide +kernel, rfl⟩
theorem d_X5_loopEntry_58 : decLL cX5_loopEntry 58 2 59 := Or.inr ⟨2, rfl, by decide +kernel, rfl⟩
theorem d_X5_loopEntry_59 : dec 3 cX5_loopEntry 59 (.invokevirtual 85) 62 := ⟨by decide +kernel, rfl⟩
theorem d_X5_loopEntry_62 : dec 3 cX5_loopEntry 62 (.invokevirtual 89) 65 := ⟨by decide +kernel, rfl⟩
theorem d_X5_loopEntry_65 : decIS cX5_loopEntry 65 4 67 := Or.inl ⟨by decide +kernel, rfl⟩
theorem d_X5_loopEntry_67 : dec 3 cX5_loopEntry 67 (.iinc 6 1) 70 := ⟨by decide +kernel, rfl⟩
theorem d_X5_loopEntry_70 : decB cX5_loopEntry 70 (.goto (-57)) (-57) 73 13 := ⟨by decide +kernel, rfl, by decide⟩
theorem d_X5_loopEntry_73 : dec 1 cX5_loopEntry 73 (.iconst (-1)) 74 := ⟨by decide +kernel, rfl⟩
theorem d_X5_loopEntry_74 : dec 1 cX5_loopEntry 74 .ireturn 75 := ⟨by decide +kernel, rfl⟩
def b_X5_loopEntry_13 (F : Nat)   (v0 : Nat) (v1 : Int32) (v2 : Int64) (G : GH) (rec13 : Int32 → Int32 → Int32 → Option (Int32)) : Int32 → Int32 → Int32 → Option (Int32) := fun v4 v5 v6 =>
  Option.bind (gR G v0 5 0) (fun (x2 : Nat) =>
  Option.bind (gI G x2 3 0) (fun (x3 : Int32) =>
  if x3 < v6 then
  (some (-1 : Int32))
  else (if v4 = (-1 : Int32) then
  (some (-1 : Int32))
  else (if (v5 &&& ((1 : Int32) <<< (v4 &&& 31))) = 0 then
  (gnm (v5 ||| ((1 : Int32) <<< (v4 &&& 31))) (fun (y4 : Int32) =>
  cvP G v0 5 (f_X5_stuckSlot F v0 v4 v1 v2 G) (fun (x5 : Int32) =>
  cvP G v0 5 (f_X5_behind F v0 x5 G) (fun (x6 : Int32) =>
  rec13 x6 y4 (v6 + 1)))))
  else (some v4)))))
def f_X5_loopEntry (F : Nat)  (v0 : Nat) (v1 : Int32) (v2 : Int64) (G : GH) : Option (Int32) :=
  cvP G v0 5 (f_X5_leastStuck F v0 v1 G) (fun (x1 : Int32) =>
  fixN (fun _ _ _ => none) (b_X5_loopEntry_13 F   v0 v1 v2 G) F x1 (0 : Int32) (0 : Int32))
set_option maxRecDepth 100000 in
set_option maxHeartbeats 4000000 in
theorem l_X5_loopEntry_13 {E : GE} {F : Nat}   {v0 : Nat} {v1 : Int32} {v2 : Int64} {n : Nat} {G : GH}   : ∀ (K : Nat) (v4 : Int32) (v5 : Int32) (v6 : Int32) (z : Int32), fixN ((fun _ _ _ => none) : Int32 → Int32 → Int32 → Option (Int32)) (b_X5_loopEntry_13 F   v0 v1 v2 G) K v4 v5 v6 = some z → WG E RX5 "loopEntry" cX5_loopEntry 7 (some .int) 2 49 0 0 13 [(0, .ref v0), (1, .int v1), (2, .long v2), (4, .int v4), (5, .int v5), (6, .int v6)] [] n G (g_O E (some (.int z), n, G)) := by
  intro K
  refine fixN_ind (P := fun (r : Int32 → Int32 → Int32 → Option (Int32)) => ∀ (v4 : Int32) (v5 : Int32) (v6 : Int32) (z : Int32), r v4 v5 v6 = some z → WG E RX5 "loopEntry" cX5_loopEntry 7 (some .int) 2 49 0 0 13 [(0, .ref v0), (1, .int v1), (2, .long v2), (4, .int v4), (5, .int v5), (6, .int v6)] [] n G (g_O E (some (.int z), n, G))) ?_ ?_ K
  · intro v4 v5 v6 z h
    cases h
  · intro rec13 hrec13 v4 v5 v6 z h
    unfold b_X5_loopEntry_13 at h
    refine r_iload d_X5_loopEntry_13 rfl ?_
    refine r_aload d_X5_loopEntry_15 rfl ?_
    refine r_getR h d_X5_loopEntry_16 pf_X5_39 (fun x2 h => ?_)
    refine r_getI h d_X5_loopEntry_19 pf_X5_55 (fun x3 h => ?_)
    refine r_icmp_gt h d_X5_loopEntry_22 (fun h => ?_) (fun h => ?_)
    · refine r_iconst d_X5_loopEntry_73 ic_m1 ?_
      exact r_pret h d_X5_loopEntry_74
    · refine r_iload d_X5_loopEntry_25 rfl ?_
      refine r_iconst d_X5_loopEntry_27 ic_m1 ?_
      refine r_icmp_eq h d_X5_loopEntry_28 (fun h => ?_) (fun h => ?_)
      · refine r_iconst d_X5_loopEntry_73 ic_m1 ?_
        exact r_pret h d_X5_loopEntry_74
      · refine r_iload d_X5_loopEntry_31 rfl ?_
        refine r_iconst d_X5_loopEntry_33 ic_1 ?_
        refine r_iload d_X5_loopEntry_34 rfl ?_
        refine r_ishl d_X5_loopEntry_36 ?_
        refine r_iand d_X5_loopEntry_37 ?_
        refine r_if_eq h d_X5_loopEntry_38 (fun h => ?_) (fun h => ?_)
        · refine r_iload d_X5_loopEntry_44 rfl ?_
          refine r_iconst d_X5_loopEntry_46 ic_1 ?_
          refine r_iload d_X5_loopEntry_47 rfl ?_
          refine r_ishl d_X5_loopEntry_49 ?_
          refine r_ior d_X5_loopEntry_50 ?_
          refine r_nmI h (fun y4 _ h => ?_)
          refine r_istore d_X5_loopEntry_51 rfl rfl ?_
          refine r_aload d_X5_loopEntry_53 rfl ?_
          refine r_aload d_X5_loopEntry_54 rfl ?_
          refine r_iload d_X5_loopEntry_55 rfl ?_
          refine r_iload d_X5_loopEntry_57 rfl ?_
          refine r_lload d_X5_loopEntry_58 rfl ?_
          refine r_invP [_, _, _] h (fun _ hq => s_X5_stuckSlot hq) d_X5_loopEntry_59 pl_X5_85 py_X5_stuckSlot pi_X5_stuckSlot rfl rfl rfl (fun x5 h => ?_)
          refine r_invP [_] h (fun _ hq => s_X5_behind hq) d_X5_loopEntry_62 pl_X5_89 py_X5_behind pi_X5_behind rfl rfl rfl (fun x6 h => ?_)
          refine r_istore d_X5_loopEntry_65 rfl rfl ?_
          refine r_iinc d_X5_loopEntry_67 rfl (ii_1 _) rfl rfl ?_
          refine r_goto d_X5_loopEntry_70 ?_
          refine r_lv [(0, .ref v0), (1, .int v1), (2, .long v2), (4, .int x6), (5, .int y4), (6, .int (v6 + 1))] (g_allc rfl (g_allc rfl (g_allc rfl (g_allc rfl (g_allc rfl (g_allc rfl g_alln)))))) ?_
          exact hrec13 _ _ _ _ h
        · refine r_iload d_X5_loopEntry_41 rfl ?_
          exact r_pret h d_X5_loopEntry_43
set_option maxRecDepth 100000 in
set_option maxHeartbeats 4000000 in
theorem s_X5_loopEntry {E : GE} {F : Nat}  {v0 : Nat} {v1 : Int32} {v2 : Int64} {n : Nat} {G : GH} {z : Int32}  (h : f_X5_loopEntry F  v0 v1 v2 G = some z) : GM E yX5_loopEntry cX5_loopEntry 7 (some .int) 2 49 0 0 [.ref v0, .int v1, .long v2] n G (some (.int z), n, G) := by
  refine GM.of (by decide) (Nat.le_of_ble_eq_true rfl) ?_
  show WG E RX5 "loopEntry" cX5_loopEntry 7 (some .int) 2 49 0 0 0 [(0, .ref v0), (1, .int v1), (2, .long v2)] [] n G (g_O E (some (.int z), n, G))
  unfold f_X5_loopEntry at h
  refine r_aload d_X5_loopEntry_0 rfl ?_
  refine r_iload d_X5_loopEntry_1 rfl ?_
  refine r_invP [_] h (fun _ hq => s_X5_leastStuck hq) d_X5_loopEntry_2 pl_X5_92 py_X5_leastStuck pi_X5_leastStuck rfl rfl rfl (fun x1 h => ?_)
  refine r_istore d_X5_loopEntry_5 rfl rfl ?_
  refine r_iconst d_X5_loopEntry_7 ic_0 ?_
  refine r_istore d_X5_loopEntry_8 rfl rfl ?_
  refine r_iconst d_X5_loopEntry_10 ic_0 ?_
  refine r_istore d_X5_loopEntry_11 rfl rfl ?_
  refine r_lv [(0, .ref v0), (1, .int v1), (2, .long v2), (4, .int x1), (5, .int (0 : Int32)), (6, .int (0 : Int32))] (g_allc rfl (g_allc rfl (g_allc rfl (g_allc rfl (g_allc rfl (g_allc rfl g_alln)))))) ?_
  exact l_X5_loopEntry_13   _ _ _ _ _ h
/-! X5_findLoop -/
theorem py_X5_startable : pY yX5_startable cX5_startable 9 (some .int) 2 := ⟨g_in 952 (by decide +kernel) rfl, g_in 103 (by decide +kernel) rfl, by decide, by decide, by decide +kernel⟩
theorem pi_X5_startable : pI yX5_startable 5 := ⟨g_in 951 (by decide +kernel) rfl, g_in 29 (by decide +kernel) rfl, (RX5, TX5, 9), rfl, rfl⟩
theorem pl_X5_77 : pL RX5 77 yX5_startable := Or.inl (g_in 949 (by decide +kernel) rfl)
theorem py_X5_loopEntry : pY yX5_loopEntry cX5_loopEntry 7 (some .int) 2 := ⟨g_in 956 (by decide +kernel) rfl, g_in 103 (by decide +kernel) rfl, by decide, by decide, by decide +kernel⟩
theorem pi_X5_loopEntry : pI yX5_loopEntry 5 := ⟨g_in 955 (by decide +kernel) rfl, g_in 30 (by decide +kernel) rfl, (RX5, TX5, 9), rfl, rfl⟩
theorem pl_X5_81 : pL RX5 81 yX5_loopEntry := Or.inl (g_in 953 (by decide +kernel) rfl)
theorem pf_X5_25 : pF RX5 25 5 5 := ⟨RX5, TX5, 9, rfl, by decide, rfl, Or.inl (g_in 378 (by decide +kernel) rfl)⟩
theorem pf_X5_22 : pF RX5 22 5 4 := ⟨RX5, TX5, 9, rfl, by decide, rfl, Or.inl (g_in 376 (by decide +kernel) rfl)⟩
theorem d_X5_findLoop_0 : decAL cX5_findLoop 0 0 1 := Or.inr ⟨0, rfl, by decide +kernel, rfl⟩
theorem d_X5_findLoop_1 : dec 1 cX5_findLoop 1 (.iconst 0) 2 := ⟨by decide +kernel, rfl⟩
theorem d_X5_findLoop_2 : dec 3 cX5_findLoop 2 (.putfield 22) 5 := ⟨by decide +kernel, rfl⟩
theorem d_X5_findLoop_5 : decAL cX5_findLoop 5 0 6 := Or.inr ⟨0, rfl, by decide +kernel, rfl⟩
theorem d_X5_findLoop_6 : dec 1 cX5_findLoop 6 (.lconst 0) 7 := ⟨by decide +kernel, rfl⟩
theorem d_X5_findLoop_7 : dec 1 cX5_findLoop 7 (.iconst 0) 8 := ⟨by decide +kernel, rfl⟩
theorem d_X5_findLoop_8 : dec 3 cX5_findLoop 8 (.invokevirtual 77) 11 := ⟨by decide +kernel, rfl⟩
theorem d_X5_findLoop_11 : decIS cX5_findLoop 11 1 12 := Or.inr ⟨1, rfl, by decide +kernel, rfl⟩
theorem d_X5_findLoop_12 : decAL cX5_findLoop 12 0 13 := Or.inr ⟨0, rfl, by decide +kernel, rfl⟩
theorem d_X5_findLoop_13 : decIL cX5_findLoop 13 1 14 := Or.inr ⟨1, rfl, by decide +kernel, rfl⟩
theorem d_X5_findLoop_14 : dec 1 cX5_findLoop 14 (.lconst 0) 15 := ⟨by decide +kernel, rfl⟩
theorem d_X5_findLoop_15 : dec 3 cX5_findLoop 15 (.invokevirtual 81) 18 := ⟨by decide +kernel, rfl⟩
theorem d_X5_findLoop_18 : decIS cX5_findLoop 18 2 19 := Or.inr ⟨2, rfl, by decide +kernel, rfl⟩
theorem d_X5_findLoop_19 : decIL cX5_findLoop 19 2 20 := Or.inr ⟨2, rfl, by decide +kernel, rfl⟩
theorem d_X5_findLoop_20 : decIS cX5_findLoop 20 3 21 := Or.inr ⟨3, rfl, by decide +kernel, rfl⟩
theorem d_X5_findLoop_21 : dec 1 cX5_findLoop 21 (.iconst 0) 22 := ⟨by decide +kernel, rfl⟩
theorem d_X5_findLoop_22 : decIS cX5_findLoop 22 4 24 := Or.inl ⟨by decide +kernel, rfl⟩
theorem d_X5_findLoop_24 : decIL cX5_findLoop 24 4 26 := Or.inl ⟨by decide +kernel, rfl⟩
theorem d_X5_findLoop_26 : decAL cX5_findLoop 26 0 27 := Or.inr ⟨0, rfl, by decide +kernel, rfl⟩
theorem d_X5_findLoop_27 : dec 3 cX5_findLoop 27 (.getfield 39) 30 := ⟨by decide +kernel, rfl⟩
theorem d_X5_findLoop_30 : dec 3 cX5_findLoop 30 (.getfield 55) 33 := ⟨by decide +kernel, rfl⟩
theorem d_X5_findLoop_33 : decB cX5_findLoop 33 (.if_icmp .ge 52) (52) 36 85 := ⟨by decide +kernel, rfl, by decide⟩
theorem d_X5_findLoop_36 : decIL cX5_findLoop 36 3 37 := Or.inr ⟨3, rfl, by decide +kernel, rfl⟩
theorem d_X5_findLoop_37 : dec 1 cX5_findLoop 37 (.iconst (-1)) 38 := ⟨by decide +kernel, rfl⟩
theorem d_X5_findLoop_38 : decB cX5_findLoop 38 (.if_icmp .eq 47) (47) 41 85 := ⟨by decide +kernel, rfl, by decide⟩
theorem d_X5_findLoop_41 : decAL cX5_findLoop 41 0 42 := Or.inr ⟨0, rfl, by decide +kernel, rfl⟩
theorem d_X5_findLoop_42 : dec 3 cX5_findLoop 42 (.getfield 25) 45 := ⟨by decide +kernel, rfl⟩
theorem d_X5_findLoop_45 : decAL cX5_findLoop 45 0 46 := Or.inr ⟨0, rfl, by decide +kernel, rfl⟩
theorem d_X5_findLoop_46 : dec 3 cX5_findLoop 46 (.getfield 22) 49 := ⟨by decide +kernel, rfl⟩
theorem d_X5_findLoop_49 : decIL cX5_findLoop 49 3 50 := Or.inr ⟨3, rfl, by decide +kernel, rfl⟩
theorem d_X5_findLoop_50 : dec 1 cX5_findLoop 50 .iastore 51 := ⟨by decide +kernel, rfl⟩
theorem d_X5_findLoop_51 : decAL cX5_findLoop 51 0 52 := Or.inr ⟨0, rfl, by decide +kernel, rfl⟩
theorem d_X5_findLoop_52 : dec 1 cX5_findLoop 52 .dup 53 := ⟨by decide +kernel, rfl⟩
theorem d_X5_findLoop_53 : dec 3 cX5_findLoop 53 (.getfield 22) 56 := ⟨by decide +kernel, rfl⟩
theorem d_X5_findLoop_56 : dec 1 cX5_findLoop 56 (.iconst 1) 57 := ⟨by decide +kernel, rfl⟩
theorem d_X5_findLoop_57 : dec 1 cX5_findLoop 57 .iadd 58 := ⟨by decide +kernel, rfl⟩
theorem d_X5_findLoop_58 : dec 3 cX5_findLoop 58 (.putfield 22) 61 := ⟨by decide +kernel, rfl⟩
theorem d_X5_findLoop_61 : decAL cX5_findLoop 61 0 62 := Or.inr ⟨0, rfl, by decide +kernel, rfl⟩
theorem d_X5_findLoop_62 : decAL cX5_findLoop 62 0 63 := Or.inr ⟨0, rfl, by decide +kernel, rfl⟩
theorem d_X5_findLoop_63 : decIL cX5_findLoop 63 3 64 := Or.inr ⟨3, rfl, by decide +kernel, rfl⟩
theorem d_X5_findLoop_64 : decIL cX5_findLoop 64 1 65 := Or.inr ⟨1, rfl, by decide +kernel, rfl⟩
theorem d_X5_findLoop_65 : dec 1 cX5_findLoop 65 (.lconst 0) 66 := ⟨by decide +kernel, rfl⟩
theorem d_X5_findLoop_66 : dec 3 cX5_findLoop 66 (.invokevirtual 85) 69 := ⟨by decide +kernel, rfl⟩
theorem d_X5_findLoop_69 : dec 3 cX5_findLoop 69 (.invokevirtual 89) 72 := ⟨by decide +kernel, rfl⟩
theorem d_X5_findLoop_72 : decIS cX5_findLoop 72 3 73 := Or.inr ⟨3, rfl, by decide +kernel, rfl⟩
theorem d_X5_findLoop_73 : decIL cX5_findLoop 73 3 74 := Or.inr ⟨3, rfl, by decide +kernel, rfl⟩
theorem d_X5_findLoop_74 : decIL cX5_findLoop 74 2 75 := Or.inr ⟨2, rfl, by decide +kernel, rfl⟩
theorem d_X5_findLoop_75 : decB cX5_findLoop 75 (.if_icmp .ne 4) (4) 78 79 := ⟨by decide +kernel, rfl, by decide⟩
theorem d_X5_findLoop_78 : dec 1 cX5_findLoop 78 .return_ 79 := ⟨by decide +kernel, rfl⟩
theorem d_X5_findLoop_79 : dec 3 cX5_findLoop 79 (.iinc 4 1) 82 := ⟨by decide +kernel, rfl⟩
theorem d_X5_findLoop_82 : decB cX5_findLoop 82 (.goto (-58)) (-58) 85 24 := ⟨by decide +kernel, rfl, by decide⟩
theorem d_X5_findLoop_85 : dec 1 cX5_findLoop 85 .return_ 86 := ⟨by decide +kernel, rfl⟩
def b_X5_findLoop_24 (F : Nat)   (v0 : Nat) (v1 : Int32) (v2 : Int32) (rec24 : Int32 → Int32 → Nat → GH → Option (Nat × GH)) : Int32 → Int32 → Nat → GH → Option (Nat × GH) := fun v3 v4 n G =>
  Option.bind (gR G v0 5 0) (fun (x4 : Nat) =>
  Option.bind (gI G x4 3 0) (fun (x5 : Int32) =>
  if x5 ≤ v4 then
  (some (n, G))
  else (if v3 = (-1 : Int32) then
  (some (n, G))
  else (Option.bind (gR G v0 5 5) (fun (x6 : Nat) =>
  Option.bind (gI G v0 5 4) (fun (x7 : Int32) =>
  Option.bind (aS G x6 0 x7 v3) (fun (G8 : GH) =>
  Option.bind (gI G8 v0 5 4) (fun (x9 : Int32) =>
  Option.bind (pV G8 v0 5 4 (.int (x9 + (1 : Int32)))) (fun (G10 : GH) =>
  cvP G10 v0 5 (f_X5_stuckSlot F v0 v3 v1 (0 : Int64) G10) (fun (x11 : Int32) =>
  cvP G10 v0 5 (f_X5_behind F v0 x11 G10) (fun (x12 : Int32) =>
  if x12 = v2 then
  (some (n, G10))
  else (rec24 x12 (v4 + 1) n G10))))))))))))
def f_X5_findLoop (F : Nat)  (v0 : Nat) (n : Nat) (G : GH) : Option (Nat × GH) :=
  Option.bind (pV G v0 5 4 (.int (0 : Int32))) (fun (G1 : GH) =>
  cvP G1 v0 5 (f_X5_startable F v0 (0 : Int64) (0 : Int32) G1) (fun (x2 : Int32) =>
  cvP G1 v0 5 (f_X5_loopEntry F v0 x2 (0 : Int64) G1) (fun (x3 : Int32) =>
  fixN (fun _ _ _ _ => none) (b_X5_findLoop_24 F   v0 x2 x3) F x3 (0 : Int32) n G1)))
set_option maxRecDepth 100000 in
set_option maxHeartbeats 4000000 in
theorem l_X5_findLoop_24 {E : GE} {F : Nat}   {v0 : Nat} {v1 : Int32} {v2 : Int32}   : ∀ (K : Nat) (v3 : Int32) (v4 : Int32) (n : Nat) (G : GH) (z : Nat × GH), fixN ((fun _ _ _ _ => none) : Int32 → Int32 → Nat → GH → Option (Nat × GH)) (b_X5_findLoop_24 F   v0 v1 v2) K v3 v4 n G = some z → WG E RX5 "findLoop" cX5_findLoop 5 none 3 78 0 0 24 [(0, .ref v0), (1, .int v1), (2, .int v2), (3, .int v3), (4, .int v4)] [] n G (g_O E (none, z.1, z.2)) := by
  intro K
  refine fixN_ind (P := fun (r : Int32 → Int32 → Nat → GH → Option (Nat × GH)) => ∀ (v3 : Int32) (v4 : Int32) (n : Nat) (G : GH) (z : Nat × GH), r v3 v4 n G = some z → WG E RX5 "findLoop" cX5_findLoop 5 none 3 78 0 0 24 [(0, .ref v0), (1, .int v1), (2, .int v2), (3, .int v3), (4, .int v4)] [] n G (g_O E (none, z.1, z.2))) ?_ ?_ K
  · intro v3 v4 n G z h
    cases h
  · intro rec24 hrec24 v3 v4 n G z h
    unfold b_X5_findLoop_24 at h
    refine r_iload d_X5_findLoop_24 rfl ?_
    refine r_aload d_X5_findLoop_26 rfl ?_
    refine r_getR h d_X5_findLoop_27 pf_X5_39 (fun x4 h => ?_)
    refine r_getI h d_X5_findLoop_30 pf_X5_55 (fun x5 h => ?_)
    refine r_icmp_ge h d_X5_findLoop_33 (fun h => ?_) (fun h => ?_)
    · exact r_vret h d_X5_findLoop_85
    · refine r_iload d_X5_findLoop_36 rfl ?_
      refine r_iconst d_X5_findLoop_37 ic_m1 ?_
      refine r_icmp_eq h d_X5_findLoop_38 (fun h => ?_) (fun h => ?_)
      · exact r_vret h d_X5_findLoop_85
      · refine r_aload d_X5_findLoop_41 rfl ?_
        refine r_getR h d_X5_findLoop_42 pf_X5_25 (fun x6 h => ?_)
        refine r_aload d_X5_findLoop_45 rfl ?_
        refine r_getI h d_X5_findLoop_46 pf_X5_22 (fun x7 h => ?_)
        refine r_iload d_X5_findLoop_49 rfl ?_
        refine r_iast h d_X5_findLoop_50 (fun G8 h => ?_)
        refine r_aload d_X5_findLoop_51 rfl ?_
        refine r_dup d_X5_findLoop_52 rfl ?_
        refine r_getI h d_X5_findLoop_53 pf_X5_22 (fun x9 h => ?_)
        refine r_iconst d_X5_findLoop_56 ic_1 ?_
        refine r_iadd d_X5_findLoop_57 ?_
        refine r_put h d_X5_findLoop_58 pw_X5_22 rfl rfl (fun G10 h => ?_)
        refine r_aload d_X5_findLoop_61 rfl ?_
        refine r_aload d_X5_findLoop_62 rfl ?_
        refine r_iload d_X5_findLoop_63 rfl ?_
        refine r_iload d_X5_findLoop_64 rfl ?_
        refine r_lconst d_X5_findLoop_65 lc_0 ?_
        refine r_invP [_, _, _] h (fun _ hq => s_X5_stuckSlot hq) d_X5_findLoop_66 pl_X5_85 py_X5_stuckSlot pi_X5_stuckSlot rfl rfl rfl (fun x11 h => ?_)
        refine r_invP [_] h (fun _ hq => s_X5_behind hq) d_X5_findLoop_69 pl_X5_89 py_X5_behind pi_X5_behind rfl rfl rfl (fun x12 h => ?_)
        refine r_istore d_X5_findLoop_72 rfl rfl ?_
        refine r_iload d_X5_findLoop_73 rfl ?_
        refine r_iload d_X5_findLoop_74 rfl ?_
        refine r_icmp_ne h d_X5_findLoop_75 (fun h => ?_) (fun h => ?_)
        · refine r_iinc d_X5_findLoop_79 rfl (ii_1 _) rfl rfl ?_
          refine r_goto d_X5_findLoop_82 ?_
          refine r_lv [(0, .ref v0), (1, .int v1), (2, .int v2), (3, .int x12), (4, .int (v4 + 1))] (g_allc rfl (g_allc rfl (g_allc rfl (g_allc rfl (g_allc rfl g_alln))))) ?_
          exact hrec24 _ _ _ _ _ h
        · exact r_vret h d_X5_findLoop_78
set_option maxRecDepth 100000 in
set_option maxHeartbeats 4000000 in
theorem s_X5_findLoop {E : GE} {F : Nat}  {v0 : Nat} {n : Nat} {G : GH} {z : Nat × GH}  (h : f_X5_findLoop F  v0 n G = some z) : GM E yX5_findLoop cX5_findLoop 5 none 3 78 0 0 [.ref v0] n G (none, z.1, z.2) := by
  refine GM.of (by decide) (Nat.le_of_ble_eq_true rfl) ?_
  show WG E RX5 "findLoop" cX5_findLoop 5 none 3 78 0 0 0 [(0, .ref v0)] [] n G (g_O E (none, z.1, z.2))
  unfold f_X5_findLoop at h
  refine r_aload d_X5_findLoop_0 rfl ?_
  refine r_iconst d_X5_findLoop_1 ic_0 ?_
  refine r_put h d_X5_findLoop_2 pw_X5_22 rfl rfl (fun G1 h => ?_)
  refine r_aload d_X5_findLoop_5 rfl ?_
  refine r_lconst d_X5_findLoop_6 lc_0 ?_
  refine r_iconst d_X5_findLoop_7 ic_0 ?_
  refine r_invP [_, _] h (fun _ hq => s_X5_startable hq) d_X5_findLoop_8 pl_X5_77 py_X5_startable pi_X5_startable rfl rfl rfl (fun x2 h => ?_)
  refine r_istore d_X5_findLoop_11 rfl rfl ?_
  refine r_aload d_X5_findLoop_12 rfl ?_
  refine r_iload d_X5_findLoop_13 rfl ?_
  refine r_lconst d_X5_findLoop_14 lc_0 ?_
  refine r_invP [_, _] h (fun _ hq => s_X5_loopEntry hq) d_X5_findLoop_15 pl_X5_81 py_X5_loopEntry pi_X5_loopEntry rfl rfl rfl (fun x3 h => ?_)
  refine r_istore d_X5_findLoop_18 rfl rfl ?_
  refine r_iload d_X5_findLoop_19 rfl ?_
  refine r_istore d_X5_findLoop_20 rfl rfl ?_
  refine r_iconst d_X5_findLoop_21 ic_0 ?_
  refine r_istore d_X5_findLoop_22 rfl rfl ?_
  refine r_lv [(0, .ref v0), (1, .int x2), (2, .int x3), (3, .int x3), (4, .int (0 : Int32))] (g_allc rfl (g_allc rfl (g_allc rfl (g_allc rfl (g_allc rfl g_alln))))) ?_
  exact l_X5_findLoop_24   _ _ _ _ _ _ h
/-! X5_study -/
theorem py_X5_findStart : pY yX5_findStart cX5_findStart 4 none 0 := ⟨g_in 929 (by decide +kernel) rfl, g_in 103 (by decide +kernel) rfl, by decide, by decide, by decide +kernel⟩
theorem pi_X5_findStart : pI yX5_findStart 5 := ⟨g_in 928 (by decide +kernel) rfl, g_in 25 (by decide +kernel) rfl, (RX5, TX5, 9), rfl, rfl⟩
theorem pl_X5_43 : pL RX5 43 yX5_findStart := Or.inl (g_in 926 (by decide +kernel) rfl)
theorem py_X5_findLoop : pY yX5_findLoop cX5_findLoop 5 none 0 := ⟨g_in 948 (by decide +kernel) rfl, g_in 103 (by decide +kernel) rfl, by decide, by decide, by decide +kernel⟩
theorem pi_X5_findLoop : pI yX5_findLoop 5 := ⟨g_in 947 (by decide +kernel) rfl, g_in 28 (by decide +kernel) rfl, (RX5, TX5, 9), rfl, rfl⟩
theorem pl_X5_46 : pL RX5 46 yX5_findLoop := Or.inl (g_in 945 (by decide +kernel) rfl)
theorem d_X5_study_0 : decAL cX5_study 0 1 1 := Or.inr ⟨1, rfl, by decide +kernel, rfl⟩
theorem d_X5_study_1 : decAL cX5_study 1 0 2 := Or.inr ⟨0, rfl, by decide +kernel, rfl⟩
theorem d_X5_study_2 : dec 3 cX5_study 2 (.getfield 39) 5 := ⟨by decide +kernel, rfl⟩
theorem d_X5_study_5 : decB cX5_study 5 (.if_acmp .ne 4) (4) 8 9 := ⟨by decide +kernel, rfl, by decide⟩
theorem d_X5_study_8 : dec 1 cX5_study 8 .return_ 9 := ⟨by decide +kernel, rfl⟩
theorem d_X5_study_9 : decAL cX5_study 9 0 10 := Or.inr ⟨0, rfl, by decide +kernel, rfl⟩
theorem d_X5_study_10 : decAL cX5_study 10 1 11 := Or.inr ⟨1, rfl, by decide +kernel, rfl⟩
theorem d_X5_study_11 : dec 3 cX5_study 11 (.putfield 39) 14 := ⟨by decide +kernel, rfl⟩
theorem d_X5_study_14 : decAL cX5_study 14 0 15 := Or.inr ⟨0, rfl, by decide +kernel, rfl⟩
theorem d_X5_study_15 : dec 2 cX5_study 15 (.bipush (-3)) 17 := ⟨by decide +kernel, rfl⟩
theorem d_X5_study_17 : dec 3 cX5_study 17 (.putfield 28) 20 := ⟨by decide +kernel, rfl⟩
theorem d_X5_study_20 : decAL cX5_study 20 0 21 := Or.inr ⟨0, rfl, by decide +kernel, rfl⟩
theorem d_X5_study_21 : dec 3 cX5_study 21 (.invokevirtual 43) 24 := ⟨by decide +kernel, rfl⟩
theorem d_X5_study_24 : decAL cX5_study 24 0 25 := Or.inr ⟨0, rfl, by decide +kernel, rfl⟩
theorem d_X5_study_25 : dec 3 cX5_study 25 (.invokevirtual 46) 28 := ⟨by decide +kernel, rfl⟩
theorem d_X5_study_28 : dec 1 cX5_study 28 .return_ 29 := ⟨by decide +kernel, rfl⟩
def f_X5_study (F : Nat)  (v0 : Nat) (v1 : Nat) (n : Nat) (G : GH) : Option (Nat × GH) :=
  Option.bind (gR G v0 5 0) (fun (x1 : Nat) =>
  if v1 = x1 then
  (some (n, G))
  else (Option.bind (pV G v0 5 0 (.ref v1)) (fun (G2 : GH) =>
  Option.bind (pV G2 v0 5 6 (.int (-3 : Int32))) (fun (G3 : GH) =>
  cvU G3 v0 5 (f_X5_findStart F v0 n G3) (fun (n4 : Nat) (G5 : GH) =>
  cvU G5 v0 5 (f_X5_findLoop F v0 n4 G5) (fun (n6 : Nat) (G7 : GH) =>
  some (n6, G7)))))))
set_option maxRecDepth 100000 in
set_option maxHeartbeats 4000000 in
theorem s_X5_study {E : GE} {F : Nat}  {v0 : Nat} {v1 : Nat} {n : Nat} {G : GH} {z : Nat × GH}  (h : f_X5_study F  v0 v1 n G = some z) : GM E yX5_study cX5_study 2 none 4 102 0 0 [.ref v0, .ref v1] n G (none, z.1, z.2) := by
  refine GM.of (by decide) (Nat.le_of_ble_eq_true rfl) ?_
  show WG E RX5 "study" cX5_study 2 none 4 102 0 0 0 [(0, .ref v0), (1, .ref v1)] [] n G (g_O E (none, z.1, z.2))
  unfold f_X5_study at h
  refine r_aload d_X5_study_0 rfl ?_
  refine r_aload d_X5_study_1 rfl ?_
  refine r_getR h d_X5_study_2 pf_X5_39 (fun x1 h => ?_)
  refine r_acmp_ne h d_X5_study_5 (fun h => ?_) (fun h => ?_)
  · refine r_aload d_X5_study_9 rfl ?_
    refine r_aload d_X5_study_10 rfl ?_
    refine r_put h d_X5_study_11 pw_X5_39 rfl rfl (fun G2 h => ?_)
    refine r_aload d_X5_study_14 rfl ?_
    refine r_bipush d_X5_study_15 bp_m3 ?_
    refine r_put h d_X5_study_17 pw_X5_28 rfl rfl (fun G3 h => ?_)
    refine r_aload d_X5_study_20 rfl ?_
    refine r_invU [] h (fun _ hq => s_X5_findStart hq) d_X5_study_21 pl_X5_43 py_X5_findStart pi_X5_findStart rfl rfl rfl (fun n4 G5 h => ?_)
    refine r_aload d_X5_study_24 rfl ?_
    refine r_invU [] h (fun _ hq => s_X5_findLoop hq) d_X5_study_25 pl_X5_46 py_X5_findLoop pi_X5_findLoop rfl rfl rfl (fun n6 G7 h => ?_)
    exact r_vret h d_X5_study_28
  · exact r_vret h d_X5_study_8
/-! X5_neededBy -/
theorem d_X5_neededBy_0 : decAL cX5_neededBy 0 0 1 := Or.inr ⟨0, rfl, by decide +kernel, rfl⟩
theorem d_X5_neededBy_1 : dec 3 cX5_neededBy 1 (.getfield 39) 4 := ⟨by decide +kernel, rfl⟩
theorem d_X5_neededBy_4 : decIL cX5_neededBy 4 1 5 := Or.inr ⟨1, rfl, by decide +kernel, rfl⟩
theorem d_X5_neededBy_5 : decIL cX5_neededBy 5 2 6 := Or.inr ⟨2, rfl, by decide +kernel, rfl⟩
theorem d_X5_neededBy_6 : dec 1 cX5_neededBy 6 (.lconst 0) 7 := ⟨by decide +kernel, rfl⟩
theorem d_X5_neededBy_7 : dec 3 cX5_neededBy 7 (.invokevirtual 64) 10 := ⟨by decide +kernel, rfl⟩
theorem d_X5_neededBy_10 : decIS cX5_neededBy 10 3 11 := Or.inr ⟨3, rfl, by decide +kernel, rfl⟩
theorem d_X5_neededBy_11 : dec 1 cX5_neededBy 11 (.iconst 0) 12 := ⟨by decide +kernel, rfl⟩
theorem d_X5_neededBy_12 : decIS cX5_neededBy 12 4 14 := Or.inl ⟨by decide +kernel, rfl⟩
theorem d_X5_neededBy_14 : decIL cX5_neededBy 14 4 16 := Or.inl ⟨by decide +kernel, rfl⟩
theorem d_X5_neededBy_16 : decAL cX5_neededBy 16 0 17 := Or.inr ⟨0, rfl, by decide +kernel, rfl⟩
theorem d_X5_neededBy_17 : dec 3 cX5_neededBy 17 (.getfield 39) 20 := ⟨by decide +kernel, rfl⟩
theorem d_X5_neededBy_20 : dec 3 cX5_neededBy 20 (.getfield 55) 23 := ⟨by decide +kernel, rfl⟩
theorem d_X5_neededBy_23 : decB cX5_neededBy 23 (.if_icmp .ge 64) (64) 26 87 := ⟨by decide +kernel, rfl, by decide⟩
theorem d_X5_neededBy_26 : decIL cX5_neededBy 26 3 27 := Or.inr ⟨3, rfl, by decide +kernel, rfl⟩
theorem d_X5_neededBy_27 : decIS cX5_neededBy 27 5 29 := Or.inl ⟨by decide +kernel, rfl⟩
theorem d_X5_neededBy_29 : dec 1 cX5_neededBy 29 (.iconst 0) 30 := ⟨by decide +kernel, rfl⟩
theorem d_X5_neededBy_30 : decIS cX5_neededBy 30 6 32 := Or.inl ⟨by decide +kernel, rfl⟩
theorem d_X5_neededBy_32 : decIL cX5_neededBy 32 6 34 := Or.inl ⟨by decide +kernel, rfl⟩
theorem d_X5_neededBy_34 : decAL cX5_neededBy 34 0 35 := Or.inr ⟨0, rfl, by decide +kernel, rfl⟩
theorem d_X5_neededBy_35 : dec 3 cX5_neededBy 35 (.getfield 39) 38 := ⟨by decide +kernel, rfl⟩
theorem d_X5_neededBy_38 : dec 3 cX5_neededBy 38 (.getfield 55) 41 := ⟨by decide +kernel, rfl⟩
theorem d_X5_neededBy_41 : decB cX5_neededBy 41 (.if_icmp .ge 32) (32) 44 73 := ⟨by decide +kernel, rfl, by decide⟩
theorem d_X5_neededBy_44 : decIL cX5_neededBy 44 3 45 := Or.inr ⟨3, rfl, by decide +kernel, rfl⟩
theorem d_X5_neededBy_45 : dec 1 cX5_neededBy 45 (.iconst 1) 46 := ⟨by decide +kernel, rfl⟩
theorem d_X5_neededBy_46 : decIL cX5_neededBy 46 6 48 := Or.inl ⟨by decide +kernel, rfl⟩
theorem d_X5_neededBy_48 : dec 1 cX5_neededBy 48 .ishl 49 := ⟨by decide +kernel, rfl⟩
theorem d_X5_neededBy_49 : dec 1 cX5_neededBy 49 .iand 50 := ⟨by decide +kernel, rfl⟩
theorem d_X5_neededBy_50 : decB cX5_neededBy 50 (.ifCond .eq 17) (17) 53 67 := ⟨by decide +kernel, rfl, by decide⟩
theorem d_X5_neededBy_53 : decIL cX5_neededBy 53 3 54 := Or.inr ⟨3, rfl, by decide +kernel, rfl⟩
theorem d_X5_neededBy_54 : decAL cX5_neededBy 54 0 55 := Or.inr ⟨0, rfl, by decide +kernel, rfl⟩
theorem d_X5_neededBy_55 : dec 3 cX5_neededBy 55 (.getfield 39) 58 := ⟨by decide +kernel, rfl⟩
theorem d_X5_neededBy_58 : decIL cX5_neededBy 58 6 60 := Or.inl ⟨by decide +kernel, rfl⟩
theorem d_X5_neededBy_60 : decIL cX5_neededBy 60 2 61 := Or.inr ⟨2, rfl, by decide +kernel, rfl⟩
theorem d_X5_neededBy_61 : dec 1 cX5_neededBy 61 (.lconst 0) 62 := ⟨by decide +kernel, rfl⟩
theorem d_X5_neededBy_62 : dec 3 cX5_neededBy 62 (.invokevirtual 64) 65 := ⟨by decide +kernel, rfl⟩
theorem d_X5_neededBy_65 : dec 1 cX5_neededBy 65 .ior 66 := ⟨by decide +kernel, rfl⟩
theorem d_X5_neededBy_66 : decIS cX5_neededBy 66 3 67 := Or.inr ⟨3, rfl, by decide +kernel, rfl⟩
theorem d_X5_neededBy_67 : dec 3 cX5_neededBy 67 (.iinc 6 1) 70 := ⟨by decide +kernel, rfl⟩
theorem d_X5_neededBy_70 : decB cX5_neededBy 70 (.goto (-38)) (-38) 73 32 := ⟨by decide +kernel, rfl, by decide⟩
theorem d_X5_neededBy_73 : decIL cX5_neededBy 73 3 74 := Or.inr ⟨3, rfl, by decide +kernel, rfl⟩
theorem d_X5_neededBy_74 : decIL cX5_neededBy 74 5 76 := Or.inl ⟨by decide +kernel, rfl⟩
theorem d_X5_neededBy_76 : decB cX5_neededBy 76 (.if_icmp .ne 5) (5) 79 81 := ⟨by decide +kernel, rfl, by decide⟩
theorem d_X5_neededBy_79 : decIL cX5_neededBy 79 3 80 := Or.inr ⟨3, rfl, by decide +kernel, rfl⟩
theorem d_X5_neededBy_80 : dec 1 cX5_neededBy 80 .ireturn 81 := ⟨by decide +kernel, rfl⟩
theorem d_X5_neededBy_81 : dec 3 cX5_neededBy 81 (.iinc 4 1) 84 := ⟨by decide +kernel, rfl⟩
theorem d_X5_neededBy_84 : decB cX5_neededBy 84 (.goto (-70)) (-70) 87 14 := ⟨by decide +kernel, rfl, by decide⟩
theorem d_X5_neededBy_87 : decIL cX5_neededBy 87 3 88 := Or.inr ⟨3, rfl, by decide +kernel, rfl⟩
theorem d_X5_neededBy_88 : dec 1 cX5_neededBy 88 .ireturn 89 := ⟨by decide +kernel, rfl⟩
def k_X5_neededBy_73 (F : Nat)  (rec14 : Int32 → Int32 → Option (Int32)) (v0 : Nat) (v2 : Int32) (v3 : Int32) (v4 : Int32) (v5 : Int32)  (G : GH) : Option (Int32) :=
  if v3 = v5 then
  (some v3)
  else (rec14 v3 (v4 + 1))
def b_X5_neededBy_32 (F : Nat)  (rec14 : Int32 → Int32 → Option (Int32)) (v0 : Nat) (v2 : Int32) (v4 : Int32) (v5 : Int32) (G : GH) (rec32 : Int32 → Int32 → Option (Int32)) : Int32 → Int32 → Option (Int32) := fun v3 v6 =>
  Option.bind (gR G v0 5 0) (fun (x5 : Nat) =>
  Option.bind (gI G x5 3 0) (fun (x6 : Int32) =>
  if x6 ≤ v6 then
  (k_X5_neededBy_73 F  rec14 v0 v2 v3 v4 v5 G)
  else (if (v3 &&& ((1 : Int32) <<< (v6 &&& 31))) = 0 then
  (rec32 v3 (v6 + 1))
  else (Option.bind (gR G v0 5 0) (fun (x7 : Nat) =>
  cvP G x7 3 (f_X3_needBits F x7 v6 v2 (0 : Int64) G) (fun (x8 : Int32) =>
  gnm (v3 ||| x8) (fun (y9 : Int32) =>
  rec32 y9 (v6 + 1))))))))
def b_X5_neededBy_14 (F : Nat)   (v0 : Nat) (v2 : Int32) (G : GH) (rec14 : Int32 → Int32 → Option (Int32)) : Int32 → Int32 → Option (Int32) := fun v3 v4 =>
  Option.bind (gR G v0 5 0) (fun (x3 : Nat) =>
  Option.bind (gI G x3 3 0) (fun (x4 : Int32) =>
  if x4 ≤ v4 then
  (some v3)
  else (fixN (fun _ _ => none) (b_X5_neededBy_32 F  rec14 v0 v2 v4 v3 G) F v3 (0 : Int32))))
def f_X5_neededBy (F : Nat)  (v0 : Nat) (v1 : Int32) (v2 : Int32) (G : GH) : Option (Int32) :=
  Option.bind (gR G v0 5 0) (fun (x1 : Nat) =>
  cvP G x1 3 (f_X3_needBits F x1 v1 v2 (0 : Int64) G) (fun (x2 : Int32) =>
  fixN (fun _ _ => none) (b_X5_neededBy_14 F   v0 v2 G) F x2 (0 : Int32)))
set_option maxRecDepth 100000 in
set_option maxHeartbeats 4000000 in
theorem c_X5_neededBy_73 {E : GE} {F : Nat}  {rec14 : Int32 → Int32 → Option (Int32)} {v0 : Nat} {v2 : Int32} {v3 : Int32} {v4 : Int32} {v5 : Int32}  {n : Nat} {G : GH} {z : Int32}  (hrec14 : ∀ (w3 : Int32) (w4 : Int32) (z : Int32), rec14 w3 w4 = some z → WG E RX5 "neededBy" cX5_neededBy 7 (some .int) 2 50 0 0 14 [(0, .ref v0), (2, .int v2), (3, .int w3), (4, .int w4)] [] n G (g_O E (some (.int z), n, G))) (h : k_X5_neededBy_73 F  rec14 v0 v2 v3 v4 v5  G = some z) : WG E RX5 "neededBy" cX5_neededBy 7 (some .int) 2 50 0 0 73 [(0, .ref v0), (2, .int v2), (3, .int v3), (4, .int v4), (5, .int v5)] [] n G (g_O E (some (.int z), n, G)) := by
  unfold k_X5_neededBy_73 at h
  refine r_iload d_X5_neededBy_73 rfl ?_
  refine r_iload d_X5_neededBy_74 rfl ?_
  refine r_icmp_ne h d_X5_neededBy_76 (fun h => ?_) (fun h => ?_)
  · refine r_iinc d_X5_neededBy_81 rfl (ii_1 _) rfl rfl ?_
    refine r_goto d_X5_neededBy_84 ?_
    refine r_lv [(0, .ref v0), (2, .int v2), (3, .int v3), (4, .int (v4 + 1))] (g_allc rfl (g_allc rfl (g_allc rfl (g_allc rfl g_alln)))) ?_
    exact hrec14 _ _ _ h
  · refine r_iload d_X5_neededBy_79 rfl ?_
    exact r_pret h d_X5_neededBy_80
set_option maxRecDepth 100000 in
set_option maxHeartbeats 4000000 in
theorem l_X5_neededBy_32 {E : GE} {F : Nat}  {rec14 : Int32 → Int32 → Option (Int32)} {v0 : Nat} {v2 : Int32} {v4 : Int32} {v5 : Int32} {n : Nat} {G : GH}  (hrec14 : ∀ (w3 : Int32) (w4 : Int32) (z : Int32), rec14 w3 w4 = some z → WG E RX5 "neededBy" cX5_neededBy 7 (some .int) 2 50 0 0 14 [(0, .ref v0), (2, .int v2), (3, .int w3), (4, .int w4)] [] n G (g_O E (some (.int z), n, G))) : ∀ (K : Nat) (v3 : Int32) (v6 : Int32) (z : Int32), fixN ((fun _ _ => none) : Int32 → Int32 → Option (Int32)) (b_X5_neededBy_32 F  rec14 v0 v2 v4 v5 G) K v3 v6 = some z → WG E RX5 "neededBy" cX5_neededBy 7 (some .int) 2 50 0 0 32 [(0, .ref v0), (2, .int v2), (3, .int v3), (4, .int v4), (5, .int v5), (6, .int v6)] [] n G (g_O E (some (.int z), n, G)) := by
  intro K
  refine fixN_ind (P := fun (r : Int32 → Int32 → Option (Int32)) => ∀ (v3 : Int32) (v6 : Int32) (z : Int32), r v3 v6 = some z → WG E RX5 "neededBy" cX5_neededBy 7 (some .int) 2 50 0 0 32 [(0, .ref v0), (2, .int v2), (3, .int v3), (4, .int v4), (5, .int v5), (6, .int v6)] [] n G (g_O E (some (.int z), n, G))) ?_ ?_ K
  · intro v3 v6 z h
    cases h
  · intro rec32 hrec32 v3 v6 z h
    unfold b_X5_neededBy_32 at h
    refine r_iload d_X5_neededBy_32 rfl ?_
    refine r_aload d_X5_neededBy_34 rfl ?_
    refine r_getR h d_X5_neededBy_35 pf_X5_39 (fun x5 h => ?_)
    refine r_getI h d_X5_neededBy_38 pf_X5_55 (fun x6 h => ?_)
    refine r_icmp_ge h d_X5_neededBy_41 (fun h => ?_) (fun h => ?_)
    · refine r_lv [(0, .ref v0), (2, .int v2), (3, .int v3), (4, .int v4), (5, .int v5)] (g_allc rfl (g_allc rfl (g_allc rfl (g_allc rfl (g_allc rfl g_alln))))) ?_
      exact c_X5_neededBy_73  hrec14 h
    · refine r_iload d_X5_neededBy_44 rfl ?_
      refine r_iconst d_X5_neededBy_45 ic_1 ?_
      refine r_iload d_X5_neededBy_46 rfl ?_
      refine r_ishl d_X5_neededBy_48 ?_
      refine r_iand d_X5_neededBy_49 ?_
      refine r_if_eq h d_X5_neededBy_50 (fun h => ?_) (fun h => ?_)
      · refine r_iinc d_X5_neededBy_67 rfl (ii_1 _) rfl rfl ?_
        refine r_goto d_X5_neededBy_70 ?_
        refine r_lv [(0, .ref v0), (2, .int v2), (3, .int v3), (4, .int v4), (5, .int v5), (6, .int (v6 + 1))] (g_allc rfl (g_allc rfl (g_allc rfl (g_allc rfl (g_allc rfl (g_allc rfl g_alln)))))) ?_
        exact hrec32 _ _ _ h
      · refine r_iload d_X5_neededBy_53 rfl ?_
        refine r_aload d_X5_neededBy_54 rfl ?_
        refine r_getR h d_X5_neededBy_55 pf_X5_39 (fun x7 h => ?_)
        refine r_iload d_X5_neededBy_58 rfl ?_
        refine r_iload d_X5_neededBy_60 rfl ?_
        refine r_lconst d_X5_neededBy_61 lc_0 ?_
        refine r_invP [_, _, _] h (fun _ hq => s_X3_needBits hq) d_X5_neededBy_62 pl_X5_64 py_X3_needBits pi_X3_needBits rfl rfl rfl (fun x8 h => ?_)
        refine r_ior d_X5_neededBy_65 ?_
        refine r_nmI h (fun y9 _ h => ?_)
        refine r_istore d_X5_neededBy_66 rfl rfl ?_
        refine r_iinc d_X5_neededBy_67 rfl (ii_1 _) rfl rfl ?_
        refine r_goto d_X5_neededBy_70 ?_
        refine r_lv [(0, .ref v0), (2, .int v2), (3, .int y9), (4, .int v4), (5, .int v5), (6, .int (v6 + 1))] (g_allc rfl (g_allc rfl (g_allc rfl (g_allc rfl (g_allc rfl (g_allc rfl g_alln)))))) ?_
        exact hrec32 _ _ _ h
set_option maxRecDepth 100000 in
set_option maxHeartbeats 4000000 in
theorem l_X5_neededBy_14 {E : GE} {F : Nat}   {v0 : Nat} {v2 : Int32} {n : Nat} {G : GH}   : ∀ (K : Nat) (v3 : Int32) (v4 : Int32) (z : Int32), fixN ((fun _ _ => none) : Int32 → Int32 → Option (Int32)) (b_X5_neededBy_14 F   v0 v2 G) K v3 v4 = some z → WG E RX5 "neededBy" cX5_neededBy 7 (some .int) 2 50 0 0 14 [(0, .ref v0), (2, .int v2), (3, .int v3), (4, .int v4)] [] n G (g_O E (some (.int z), n, G)) := by
  intro K
  refine fixN_ind (P := fun (r : Int32 → Int32 → Option (Int32)) => ∀ (v3 : Int32) (v4 : Int32) (z : Int32), r v3 v4 = some z → WG E RX5 "neededBy" cX5_neededBy 7 (some .int) 2 50 0 0 14 [(0, .ref v0), (2, .int v2), (3, .int v3), (4, .int v4)] [] n G (g_O E (some (.int z), n, G))) ?_ ?_ K
  · intro v3 v4 z h
    cases h
  · intro rec14 hrec14 v3 v4 z h
    unfold b_X5_neededBy_14 at h
    refine r_iload d_X5_neededBy_14 rfl ?_
    refine r_aload d_X5_neededBy_16 rfl ?_
    refine r_getR h d_X5_neededBy_17 pf_X5_39 (fun x3 h => ?_)
    refine r_getI h d_X5_neededBy_20 pf_X5_55 (fun x4 h => ?_)
    refine r_icmp_ge h d_X5_neededBy_23 (fun h => ?_) (fun h => ?_)
    · refine r_iload d_X5_neededBy_87 rfl ?_
      exact r_pret h d_X5_neededBy_88
    · refine r_iload d_X5_neededBy_26 rfl ?_
      refine r_istore d_X5_neededBy_27 rfl rfl ?_
      refine r_iconst d_X5_neededBy_29 ic_0 ?_
      refine r_istore d_X5_neededBy_30 rfl rfl ?_
      refine r_lv [(0, .ref v0), (2, .int v2), (3, .int v3), (4, .int v4), (5, .int v3), (6, .int (0 : Int32))] (g_allc rfl (g_allc rfl (g_allc rfl (g_allc rfl (g_allc rfl (g_allc rfl g_alln)))))) ?_
      exact l_X5_neededBy_32  hrec14 _ _ _ _ h
set_option maxRecDepth 100000 in
set_option maxHeartbeats 4000000 in
theorem s_X5_neededBy {E : GE} {F : Nat}  {v0 : Nat} {v1 : Int32} {v2 : Int32} {n : Nat} {G : GH} {z : Int32}  (h : f_X5_neededBy F  v0 v1 v2 G = some z) : GM E yX5_neededBy cX5_neededBy 7 (some .int) 2 50 0 0 [.ref v0, .int v1, .int v2] n G (some (.int z), n, G) := by
  refine GM.of (by decide) (Nat.le_of_ble_eq_true rfl) ?_
  show WG E RX5 "neededBy" cX5_neededBy 7 (some .int) 2 50 0 0 0 [(0, .ref v0), (1, .int v1), (2, .int v2)] [] n G (g_O E (some (.int z), n, G))
  unfold f_X5_neededBy at h
  refine r_aload d_X5_neededBy_0 rfl ?_
  refine r_getR h d_X5_neededBy_1 pf_X5_39 (fun x1 h => ?_)
  refine r_iload d_X5_neededBy_4 rfl ?_
  refine r_iload d_X5_neededBy_5 rfl ?_
  refine r_lconst d_X5_neededBy_6 lc_0 ?_
  refine r_invP [_, _, _] h (fun _ hq => s_X3_needBits hq) d_X5_neededBy_7 pl_X5_64 py_X3_needBits pi_X3_needBits rfl rfl rfl (fun x2 h => ?_)
  refine r_istore d_X5_neededBy_10 rfl rfl ?_
  refine r_iconst d_X5_neededBy_11 ic_0 ?_
  refine r_istore d_X5_neededBy_12 rfl rfl ?_
  refine r_lv [(0, .ref v0), (2, .int v2), (3, .int x2), (4, .int (0 : Int32))] (g_allc rfl (g_allc rfl (g_allc rfl (g_allc rfl g_alln)))) ?_
  exact l_X5_neededBy_14   _ _ _ _ h
/-! X5_lostWith -/
theorem d_X5_lostWith_0 : dec 1 cX5_lostWith 0 (.iconst 1) 1 := ⟨by decide +kernel, rfl⟩
theorem d_X5_lostWith_1 : decIL cX5_lostWith 1 1 2 := Or.inr ⟨1, rfl, by decide +kernel, rfl⟩
theorem d_X5_lostWith_2 : dec 1 cX5_lostWith 2 .ishl 3 := ⟨by decide +kernel, rfl⟩
theorem d_X5_lostWith_3 : decIS cX5_lostWith 3 2 4 := Or.inr ⟨2, rfl, by decide +kernel, rfl⟩
theorem d_X5_lostWith_4 : dec 1 cX5_lostWith 4 (.iconst 0) 5 := ⟨by decide +kernel, rfl⟩
theorem d_X5_lostWith_5 : decIS cX5_lostWith 5 3 6 := Or.inr ⟨3, rfl, by decide +kernel, rfl⟩
theorem d_X5_lostWith_6 : decIL cX5_lostWith 6 3 7 := Or.inr ⟨3, rfl, by decide +kernel, rfl⟩
theorem d_X5_lostWith_7 : decAL cX5_lostWith 7 0 8 := Or.inr ⟨0, rfl, by decide +kernel, rfl⟩
theorem d_X5_lostWith_8 : dec 3 cX5_lostWith 8 (.getfield 39) 11 := ⟨by decide +kernel, rfl⟩
theorem d_X5_lostWith_11 : dec 3 cX5_lostWith 11 (.getfield 55) 14 := ⟨by decide +kernel, rfl⟩
theorem d_X5_lostWith_14 : decB cX5_lostWith 14 (.if_icmp .ge 64) (64) 17 78 := ⟨by decide +kernel, rfl, by decide⟩
theorem d_X5_lostWith_17 : decIL cX5_lostWith 17 2 18 := Or.inr ⟨2, rfl, by decide +kernel, rfl⟩
theorem d_X5_lostWith_18 : decIS cX5_lostWith 18 4 20 := Or.inl ⟨by decide +kernel, rfl⟩
theorem d_X5_lostWith_20 : dec 1 cX5_lostWith 20 (.iconst 0) 21 := ⟨by decide +kernel, rfl⟩
theorem d_X5_lostWith_21 : decIS cX5_lostWith 21 5 23 := Or.inl ⟨by decide +kernel, rfl⟩
theorem d_X5_lostWith_23 : decIL cX5_lostWith 23 5 25 := Or.inl ⟨by decide +kernel, rfl⟩
theorem d_X5_lostWith_25 : decAL cX5_lostWith 25 0 26 := Or.inr ⟨0, rfl, by decide +kernel, rfl⟩
theorem d_X5_lostWith_26 : dec 3 cX5_lostWith 26 (.getfield 39) 29 := ⟨by decide +kernel, rfl⟩
theorem d_X5_lostWith_29 : dec 3 cX5_lostWith 29 (.getfield 55) 32 := ⟨by decide +kernel, rfl⟩
theorem d_X5_lostWith_32 : decB cX5_lostWith 32 (.if_icmp .ge 32) (32) 35 64 := ⟨by decide +kernel, rfl, by decide⟩
theorem d_X5_lostWith_35 : decAL cX5_lostWith 35 0 36 := Or.inr ⟨0, rfl, by decide +kernel, rfl⟩
theorem d_X5_lostWith_36 : dec 3 cX5_lostWith 36 (.getfield 39) 39 := ⟨by decide +kernel, rfl⟩
theorem d_X5_lostWith_39 : decIL cX5_lostWith 39 5 41 := Or.inl ⟨by decide +kernel, rfl⟩
theorem d_X5_lostWith_41 : dec 1 cX5_lostWith 41 (.iconst 0) 42 := ⟨by decide +kernel, rfl⟩
theorem d_X5_lostWith_42 : dec 1 cX5_lostWith 42 (.lconst 0) 43 := ⟨by decide +kernel, rfl⟩
theorem d_X5_lostWith_43 : dec 3 cX5_lostWith 43 (.invokevirtual 64) 46 := ⟨by decide +kernel, rfl⟩
theorem d_X5_lostWith_46 : decIL cX5_lostWith 46 2 47 := Or.inr ⟨2, rfl, by decide +kernel, rfl⟩
theorem d_X5_lostWith_47 : dec 1 cX5_lostWith 47 .iand 48 := ⟨by decide +kernel, rfl⟩
theorem d_X5_lostWith_48 : decB cX5_lostWith 48 (.ifCond .eq 10) (10) 51 58 := ⟨by decide +kernel, rfl, by decide⟩
theorem d_X5_lostWith_51 : decIL cX5_lostWith 51 2 52 := Or.inr ⟨2, rfl, by decide +kernel, rfl⟩
theorem d_X5_lostWith_52 : dec 1 cX5_lostWith 52 (.iconst 1) 53 := ⟨by decide +kernel, rfl⟩
theorem d_X5_lostWith_53 : decIL cX5_lostWith 53 5 55 := Or.inl ⟨by decide +kernel, rfl⟩
theorem d_X5_lostWith_55 : dec 1 cX5_lostWith 55 .ishl 56 := ⟨by decide +kernel, rfl⟩
theorem d_X5_lostWith_56 : dec 1 cX5_lostWith 56 .ior 57 := ⟨by decide +kernel, rfl⟩
theorem d_X5_lostWith_57 : decIS cX5_lostWith 57 2 58 := Or.inr ⟨2, rfl, by decide +kernel, rfl⟩
theorem d_X5_lostWith_58 : dec 3 cX5_lostWith 58 (.iinc 5 1) 61 := ⟨by decide +kernel, rfl⟩
theorem d_X5_lostWith_61 : decB cX5_lostWith 61 (.goto (-38)) (-38) 64 23 := ⟨by decide +kernel, rfl, by decide⟩
theorem d_X5_lostWith_64 : decIL cX5_lostWith 64 2 65 := Or.inr ⟨2, rfl, by decide +kernel, rfl⟩
theorem d_X5_lostWith_65 : decIL cX5_lostWith 65 4 67 := Or.inl ⟨by decide +kernel, rfl⟩
theorem d_X5_lostWith_67 : decB cX5_lostWith 67 (.if_icmp .ne 5) (5) 70 72 := ⟨by decide +kernel, rfl, by decide⟩
theorem d_X5_lostWith_70 : decIL cX5_lostWith 70 2 71 := Or.inr ⟨2, rfl, by decide +kernel, rfl⟩
theorem d_X5_lostWith_71 : dec 1 cX5_lostWith 71 .ireturn 72 := ⟨by decide +kernel, rfl⟩
theorem d_X5_lostWith_72 : dec 3 cX5_lostWith 72 (.iinc 3 1) 75 := ⟨by decide +kernel, rfl⟩
theorem d_X5_lostWith_75 : decB cX5_lostWith 75 (.goto (-69)) (-69) 78 6 := ⟨by decide +kernel, rfl, by decide⟩
theorem d_X5_lostWith_78 : decIL cX5_lostWith 78 2 79 := Or.inr ⟨2, rfl, by decide +kernel, rfl⟩
theorem d_X5_lostWith_79 : dec 1 cX5_lostWith 79 .ireturn 80 := ⟨by decide +kernel, rfl⟩
def k_X5_lostWith_64 (F : Nat)  (rec6 : Int32 → Int32 → Option (Int32)) (v0 : Nat) (v2 : Int32) (v3 : Int32) (v4 : Int32)  (G : GH) : Option (Int32) :=
  if v2 = v4 then
  (some v2)
  else (rec6 v2 (v3 + 1))
def b_X5_lostWith_23 (F : Nat)  (rec6 : Int32 → Int32 → Option (Int32)) (v0 : Nat) (v3 : Int32) (v4 : Int32) (G : GH) (rec23 : Int32 → Int32 → Option (Int32)) : Int32 → Int32 → Option (Int32) := fun v2 v5 =>
  Option.bind (gR G v0 5 0) (fun (x4 : Nat) =>
  Option.bind (gI G x4 3 0) (fun (x5 : Int32) =>
  if x5 ≤ v5 then
  (k_X5_lostWith_64 F  rec6 v0 v2 v3 v4 G)
  else (Option.bind (gR G v0 5 0) (fun (x6 : Nat) =>
  cvP G x6 3 (f_X3_needBits F x6 v5 (0 : Int32) (0 : Int64) G) (fun (x7 : Int32) =>
  if (x7 &&& v2) = 0 then
  (rec23 v2 (v5 + 1))
  else (gnm (v2 ||| ((1 : Int32) <<< (v5 &&& 31))) (fun (y8 : Int32) =>
  rec23 y8 (v5 + 1))))))))
def b_X5_lostWith_6 (F : Nat)   (v0 : Nat) (G : GH) (rec6 : Int32 → Int32 → Option (Int32)) : Int32 → Int32 → Option (Int32) := fun v2 v3 =>
  Option.bind (gR G v0 5 0) (fun (x2 : Nat) =>
  Option.bind (gI G x2 3 0) (fun (x3 : Int32) =>
  if x3 ≤ v3 then
  (some v2)
  else (fixN (fun _ _ => none) (b_X5_lostWith_23 F  rec6 v0 v3 v2 G) F v2 (0 : Int32))))
def f_X5_lostWith (F : Nat)  (v0 : Nat) (v1 : Int32) (G : GH) : Option (Int32) :=
  gnm ((1 : Int32) <<< (v1 &&& 31)) (fun (y1 : Int32) =>
  fixN (fun _ _ => none) (b_X5_lostWith_6 F   v0 G) F y1 (0 : Int32))
set_option maxRecDepth 100000 in
set_option maxHeartbeats 4000000 in
theorem c_X5_lostWith_64 {E : GE} {F : Nat}  {rec6 : Int32 → Int32 → Option (Int32)} {v0 : Nat} {v2 : Int32} {v3 : Int32} {v4 : Int32}  {n : Nat} {G : GH} {z : Int32}  (hrec6 : ∀ (w2 : Int32) (w3 : Int32) (z : Int32), rec6 w2 w3 = some z → WG E RX5 "lostWith" cX5_lostWith 6 (some .int) 2 50 0 0 6 [(0, .ref v0), (2, .int w2), (3, .int w3)] [] n G (g_O E (some (.int z), n, G))) (h : k_X5_lostWith_64 F  rec6 v0 v2 v3 v4  G = some z) : WG E RX5 "lostWith" cX5_lostWith 6 (some .int) 2 50 0 0 64 [(0, .ref v0), (2, .int v2), (3, .int v3), (4, .int v4)] [] n G (g_O E (some (.int z), n, G)) := by
  unfold k_X5_lostWith_64 at h
  refine r_iload d_X5_lostWith_64 rfl ?_
  refine r_iload d_X5_lostWith_65 rfl ?_
  refine r_icmp_ne h d_X5_lostWith_67 (fun h => ?_) (fun h => ?_)
  · refine r_iinc d_X5_lostWith_72 rfl (ii_1 _) rfl rfl ?_
    refine r_goto d_X5_lostWith_75 ?_
    refine r_lv [(0, .ref v0), (2, .int v2), (3, .int (v3 + 1))] (g_allc rfl (g_allc rfl (g_allc rfl g_alln))) ?_
    exact hrec6 _ _ _ h
  · refine r_iload d_X5_lostWith_70 rfl ?_
    exact r_pret h d_X5_lostWith_71
set_option maxRecDepth 100000 in
set_option maxHeartbeats 4000000 in
theorem l_X5_lostWith_23 {E : GE} {F : Nat}  {rec6 : Int32 → Int32 → Option (Int32)} {v0 : Nat} {v3 : Int32} {v4 : Int32} {n : Nat} {G : GH}  (hrec6 : ∀ (w2 : Int32) (w3 : Int32) (z : Int32), rec6 w2 w3 = some z → WG E RX5 "lostWith" cX5_lostWith 6 (some .int) 2 50 0 0 6 [(0, .ref v0), (2, .int w2), (3, .int w3)] [] n G (g_O E (some (.int z), n, G))) : ∀ (K : Nat) (v2 : Int32) (v5 : Int32) (z : Int32), fixN ((fun _ _ => none) : Int32 → Int32 → Option (Int32)) (b_X5_lostWith_23 F  rec6 v0 v3 v4 G) K v2 v5 = some z → WG E RX5 "lostWith" cX5_lostWith 6 (some .int) 2 50 0 0 23 [(0, .ref v0), (2, .int v2), (3, .int v3), (4, .int v4), (5, .int v5)] [] n G (g_O E (some (.int z), n, G)) := by
  intro K
  refine fixN_ind (P := fun (r : Int32 → Int32 → Option (Int32)) => ∀ (v2 : Int32) (v5 : Int32) (z : Int32), r v2 v5 = some z → WG E RX5 "lostWith" cX5_lostWith 6 (some .int) 2 50 0 0 23 [(0, .ref v0), (2, .int v2), (3, .int v3), (4, .int v4), (5, .int v5)] [] n G (g_O E (some (.int z), n, G))) ?_ ?_ K
  · intro v2 v5 z h
    cases h
  · intro rec23 hrec23 v2 v5 z h
    unfold b_X5_lostWith_23 at h
    refine r_iload d_X5_lostWith_23 rfl ?_
    refine r_aload d_X5_lostWith_25 rfl ?_
    refine r_getR h d_X5_lostWith_26 pf_X5_39 (fun x4 h => ?_)
    refine r_getI h d_X5_lostWith_29 pf_X5_55 (fun x5 h => ?_)
    refine r_icmp_ge h d_X5_lostWith_32 (fun h => ?_) (fun h => ?_)
    · refine r_lv [(0, .ref v0), (2, .int v2), (3, .int v3), (4, .int v4)] (g_allc rfl (g_allc rfl (g_allc rfl (g_allc rfl g_alln)))) ?_
      exact c_X5_lostWith_64  hrec6 h
    · refine r_aload d_X5_lostWith_35 rfl ?_
      refine r_getR h d_X5_lostWith_36 pf_X5_39 (fun x6 h => ?_)
      refine r_iload d_X5_lostWith_39 rfl ?_
      refine r_iconst d_X5_lostWith_41 ic_0 ?_
      refine r_lconst d_X5_lostWith_42 lc_0 ?_
      refine r_invP [_, _, _] h (fun _ hq => s_X3_needBits hq) d_X5_lostWith_43 pl_X5_64 py_X3_needBits pi_X3_needBits rfl rfl rfl (fun x7 h => ?_)
      refine r_iload d_X5_lostWith_46 rfl ?_
      refine r_iand d_X5_lostWith_47 ?_
      refine r_if_eq h d_X5_lostWith_48 (fun h => ?_) (fun h => ?_)
      · refine r_iinc d_X5_lostWith_58 rfl (ii_1 _) rfl rfl ?_
        refine r_goto d_X5_lostWith_61 ?_
        refine r_lv [(0, .ref v0), (2, .int v2), (3, .int v3), (4, .int v4), (5, .int (v5 + 1))] (g_allc rfl (g_allc rfl (g_allc rfl (g_allc rfl (g_allc rfl g_alln))))) ?_
        exact hrec23 _ _ _ h
      · refine r_iload d_X5_lostWith_51 rfl ?_
        refine r_iconst d_X5_lostWith_52 ic_1 ?_
        refine r_iload d_X5_lostWith_53 rfl ?_
        refine r_ishl d_X5_lostWith_55 ?_
        refine r_ior d_X5_lostWith_56 ?_
        refine r_nmI h (fun y8 _ h => ?_)
        refine r_istore d_X5_lostWith_57 rfl rfl ?_
        refine r_iinc d_X5_lostWith_58 rfl (ii_1 _) rfl rfl ?_
        refine r_goto d_X5_lostWith_61 ?_
        refine r_lv [(0, .ref v0), (2, .int y8), (3, .int v3), (4, .int v4), (5, .int (v5 + 1))] (g_allc rfl (g_allc rfl (g_allc rfl (g_allc rfl (g_allc rfl g_alln))))) ?_
        exact hrec23 _ _ _ h
set_option maxRecDepth 100000 in
set_option maxHeartbeats 4000000 in
theorem l_X5_lostWith_6 {E : GE} {F : Nat}   {v0 : Nat} {n : Nat} {G : GH}   : ∀ (K : Nat) (v2 : Int32) (v3 : Int32) (z : Int32), fixN ((fun _ _ => none) : Int32 → Int32 → Option (Int32)) (b_X5_lostWith_6 F   v0 G) K v2 v3 = some z → WG E RX5 "lostWith" cX5_lostWith 6 (some .int) 2 50 0 0 6 [(0, .ref v0), (2, .int v2), (3, .int v3)] [] n G (g_O E (some (.int z), n, G)) := by
  intro K
  refine fixN_ind (P := fun (r : Int32 → Int32 → Option (Int32)) => ∀ (v2 : Int32) (v3 : Int32) (z : Int32), r v2 v3 = some z → WG E RX5 "lostWith" cX5_lostWith 6 (some .int) 2 50 0 0 6 [(0, .ref v0), (2, .int v2), (3, .int v3)] [] n G (g_O E (some (.int z), n, G))) ?_ ?_ K
  · intro v2 v3 z h
    cases h
  · intro rec6 hrec6 v2 v3 z h
    unfold b_X5_lostWith_6 at h
    refine r_iload d_X5_lostWith_6 rfl ?_
    refine r_aload d_X5_lostWith_7 rfl ?_
    refine r_getR h d_X5_lostWith_8 pf_X5_39 (fun x2 h => ?_)
    refine r_getI h d_X5_lostWith_11 pf_X5_55 (fun x3 h => ?_)
    refine r_icmp_ge h d_X5_lostWith_14 (fun h => ?_) (fun h => ?_)
    · refine r_iload d_X5_lostWith_78 rfl ?_
      exact r_pret h d_X5_lostWith_79
    · refine r_iload d_X5_lostWith_17 rfl ?_
      refine r_istore d_X5_lostWith_18 rfl rfl ?_
      refine r_iconst d_X5_lostWith_20 ic_0 ?_
      refine r_istore d_X5_lostWith_21 rfl rfl ?_
      refine r_lv [(0, .ref v0), (2, .int v2), (3, .int v3), (4, .int v2), (5, .int (0 : Int32))] (g_allc rfl (g_allc rfl (g_allc rfl (g_allc rfl (g_allc rfl g_alln))))) ?_
      exact l_X5_lostWith_23  hrec6 _ _ _ _ h
set_option maxRecDepth 100000 in
set_option maxHeartbeats 4000000 in
theorem s_X5_lostWith {E : GE} {F : Nat}  {v0 : Nat} {v1 : Int32} {n : Nat} {G : GH} {z : Int32}  (h : f_X5_lostWith F  v0 v1 G = some z) : GM E yX5_lostWith cX5_lostWith 6 (some .int) 2 50 0 0 [.ref v0, .int v1] n G (some (.int z), n, G) := by
  refine GM.of (by decide) (Nat.le_of_ble_eq_true rfl) ?_
  show WG E RX5 "lostWith" cX5_lostWith 6 (some .int) 2 50 0 0 0 [(0, .ref v0), (1, .int v1)] [] n G (g_O E (some (.int z), n, G))
  unfold f_X5_lostWith at h
  refine r_iconst d_X5_lostWith_0 ic_1 ?_
  refine r_iload d_X5_lostWith_1 rfl ?_
  refine r_ishl d_X5_lostWith_2 ?_
  refine r_nmI h (fun y1 _ h => ?_)
  refine r_istore d_X5_lostWith_3 rfl rfl ?_
  refine r_iconst d_X5_lostWith_4 ic_0 ?_
  refine r_istore d_X5_lostWith_5 rfl rfl ?_
  refine r_lv [(0, .ref v0), (2, .int y1), (3, .int (0 : Int32))] (g_allc rfl (g_allc rfl (g_allc rfl g_alln))) ?_
  exact l_X5_lostWith_6   _ _ _ _ h
/-! X5_longestRow -/
theorem d_X5_longestRow_0 : decAL cX5_longestRow 0 0 1 := Or.inr ⟨0, rfl, by decide +kernel, rfl⟩
theorem d_X5_longestRow_1 : dec 3 cX5_longestRow 1 (.getfield 22) 4 := ⟨by decide +kernel, rfl⟩
theorem d_X5_longestRow_4 : decB cX5_longestRow 4 (.ifCond .le 5) (5) 7 9 := ⟨by decide +kernel, rfl, by decide⟩
theorem d_X5_longestRow_7 : dec 1 cX5_longestRow 7 (.iconst (-1)) 8 := ⟨by decide +kernel, rfl⟩
theorem d_X5_longestRow_8 : dec 1 cX5_longestRow 8 .ireturn 9 := ⟨by decide +kernel, rfl⟩
theorem d_X5_longestRow_9 : dec 1 cX5_longestRow 9 (.iconst 0) 10 := ⟨by decide +kernel, rfl⟩
theorem d_X5_longestRow_10 : decIS cX5_longestRow 10 1 11 := Or.inr ⟨1, rfl, by decide +kernel, rfl⟩
theorem d_X5_longestRow_11 : dec 1 cX5_longestRow 11 (.iconst 0) 12 := ⟨by decide +kernel, rfl⟩
theorem d_X5_longestRow_12 : decIS cX5_longestRow 12 2 13 := Or.inr ⟨2, rfl, by decide +kernel, rfl⟩
theorem d_X5_longestRow_13 : decIL cX5_longestRow 13 2 14 := Or.inr ⟨2, rfl, by decide +kernel, rfl⟩
theorem d_X5_longestRow_14 : decAL cX5_longestRow 14 0 15 := Or.inr ⟨0, rfl, by decide +kernel, rfl⟩
theorem d_X5_longestRow_15 : dec 3 cX5_longestRow 15 (.getfield 39) 18 := ⟨by decide +kernel, rfl⟩
theorem d_X5_longestRow_18 : dec 3 cX5_longestRow 18 (.getfield 55) 21 := ⟨by decide +kernel, rfl⟩
theorem d_X5_longestRow_21 : decB cX5_longestRow 21 (.if_icmp .ge 22) (22) 24 43 := ⟨by decide +kernel, rfl, by decide⟩
theorem d_X5_longestRow_24 : decIL cX5_longestRow 24 1 25 := Or.inr ⟨1, rfl, by decide +kernel, rfl⟩
theorem d_X5_longestRow_25 : decAL cX5_longestRow 25 0 26 := Or.inr ⟨0, rfl, by decide +kernel, rfl⟩
theorem d_X5_longestRow_26 : dec 3 cX5_longestRow 26 (.getfield 19) 29 := ⟨by decide +kernel, rfl⟩
theorem d_X5_longestRow_29 : decIL cX5_longestRow 29 2 30 := Or.inr ⟨2, rfl, by decide +kernel, rfl⟩
theorem d_X5_longestRow_30 : dec 1 cX5_longestRow 30 .iaload 31 := ⟨by decide +kernel, rfl⟩
theorem d_X5_longestRow_31 : dec 1 cX5_longestRow 31 (.iconst 1) 32 := ⟨by decide +kernel, rfl⟩
theorem d_X5_longestRow_32 : dec 1 cX5_longestRow 32 .iadd 33 := ⟨by decide +kernel, rfl⟩
theorem d_X5_longestRow_33 : dec 3 cX5_longestRow 33 (.invokestatic 71) 36 := ⟨by decide +kernel, rfl⟩
theorem d_X5_longestRow_36 : decIS cX5_longestRow 36 1 37 := Or.inr ⟨1, rfl, by decide +kernel, rfl⟩
theorem d_X5_longestRow_37 : dec 3 cX5_longestRow 37 (.iinc 2 1) 40 := ⟨by decide +kernel, rfl⟩
theorem d_X5_longestRow_40 : decB cX5_longestRow 40 (.goto (-27)) (-27) 43 13 := ⟨by decide +kernel, rfl, by decide⟩
theorem d_X5_longestRow_43 : decIL cX5_longestRow 43 1 44 := Or.inr ⟨1, rfl, by decide +kernel, rfl⟩
theorem d_X5_longestRow_44 : dec 1 cX5_longestRow 44 .ireturn 45 := ⟨by decide +kernel, rfl⟩
def b_X5_longestRow_13 (F : Nat)   (v0 : Nat) (G : GH) (rec13 : Int32 → Int32 → Option (Int32)) : Int32 → Int32 → Option (Int32) := fun v1 v2 =>
  Option.bind (gR G v0 5 0) (fun (x2 : Nat) =>
  Option.bind (gI G x2 3 0) (fun (x3 : Int32) =>
  if x3 ≤ v2 then
  (some v1)
  else (Option.bind (gR G v0 5 3) (fun (x4 : Nat) =>
  Option.bind (aI G x4 0 v2) (fun (x5 : Int32) =>
  gnm (if v1 < (x5 + (1 : Int32)) then (x5 + (1 : Int32)) else v1) (fun (y6 : Int32) =>
  rec13 y6 (v2 + 1)))))))
def f_X5_longestRow (F : Nat)  (v0 : Nat) (G : GH) : Option (Int32) :=
  Option.bind (gI G v0 5 4) (fun (x1 : Int32) =>
  if x1 ≤ 0 then
  (fixN (fun _ _ => none) (b_X5_longestRow_13 F   v0 G) F (0 : Int32) (0 : Int32))
  else (some (-1 : Int32)))
set_option maxRecDepth 100000 in
set_option maxHeartbeats 4000000 in
theorem l_X5_longestRow_13 {E : GE} {F : Nat}   {v0 : Nat} {n : Nat} {G : GH}   : ∀ (K : Nat) (v1 : Int32) (v2 : Int32) (z : Int32), fixN ((fun _ _ => none) : Int32 → Int32 → Option (Int32)) (b_X5_longestRow_13 F   v0 G) K v1 v2 = some z → WG E RX5 "longestRow" cX5_longestRow 3 (some .int) 1 40 0 0 13 [(0, .ref v0), (1, .int v1), (2, .int v2)] [] n G (g_O E (some (.int z), n, G)) := by
  intro K
  refine fixN_ind (P := fun (r : Int32 → Int32 → Option (Int32)) => ∀ (v1 : Int32) (v2 : Int32) (z : Int32), r v1 v2 = some z → WG E RX5 "longestRow" cX5_longestRow 3 (some .int) 1 40 0 0 13 [(0, .ref v0), (1, .int v1), (2, .int v2)] [] n G (g_O E (some (.int z), n, G))) ?_ ?_ K
  · intro v1 v2 z h
    cases h
  · intro rec13 hrec13 v1 v2 z h
    unfold b_X5_longestRow_13 at h
    refine r_iload d_X5_longestRow_13 rfl ?_
    refine r_aload d_X5_longestRow_14 rfl ?_
    refine r_getR h d_X5_longestRow_15 pf_X5_39 (fun x2 h => ?_)
    refine r_getI h d_X5_longestRow_18 pf_X5_55 (fun x3 h => ?_)
    refine r_icmp_ge h d_X5_longestRow_21 (fun h => ?_) (fun h => ?_)
    · refine r_iload d_X5_longestRow_43 rfl ?_
      exact r_pret h d_X5_longestRow_44
    · refine r_iload d_X5_longestRow_24 rfl ?_
      refine r_aload d_X5_longestRow_25 rfl ?_
      refine r_getR h d_X5_longestRow_26 pf_X5_19 (fun x4 h => ?_)
      refine r_iload d_X5_longestRow_29 rfl ?_
      refine r_iald h d_X5_longestRow_30 (fun x5 h => ?_)
      refine r_iconst d_X5_longestRow_31 ic_1 ?_
      refine r_iadd d_X5_longestRow_32 ?_
      refine r_max d_X5_longestRow_33 qm_max_l_X5_71 qm_max_s qm_i qm_max_c rfl rfl ?_
      refine r_nmI h (fun y6 _ h => ?_)
      refine r_istore d_X5_longestRow_36 rfl rfl ?_
      refine r_iinc d_X5_longestRow_37 rfl (ii_1 _) rfl rfl ?_
      refine r_goto d_X5_longestRow_40 ?_
      refine r_lv [(0, .ref v0), (1, .int y6), (2, .int (v2 + 1))] (g_allc rfl (g_allc rfl (g_allc rfl g_alln))) ?_
      exact hrec13 _ _ _ h
set_option maxRecDepth 100000 in
set_option maxHeartbeats 4000000 in
theorem s_X5_longestRow {E : GE} {F : Nat}  {v0 : Nat} {n : Nat} {G : GH} {z : Int32}  (h : f_X5_longestRow F  v0 G = some z) : GM E yX5_longestRow cX5_longestRow 3 (some .int) 1 40 0 0 [.ref v0] n G (some (.int z), n, G) := by
  refine GM.of (by decide) (Nat.le_of_ble_eq_true rfl) ?_
  show WG E RX5 "longestRow" cX5_longestRow 3 (some .int) 1 40 0 0 0 [(0, .ref v0)] [] n G (g_O E (some (.int z), n, G))
  unfold f_X5_longestRow at h
  refine r_aload d_X5_longestRow_0 rfl ?_
  refine r_getI h d_X5_longestRow_1 pf_X5_22 (fun x1 h => ?_)
  refine r_if_le h d_X5_longestRow_4 (fun h => ?_) (fun h => ?_)
  · refine r_iconst d_X5_longestRow_9 ic_0 ?_
    refine r_istore d_X5_longestRow_10 rfl rfl ?_
    refine r_iconst d_X5_longestRow_11 ic_0 ?_
    refine r_istore d_X5_longestRow_12 rfl rfl ?_
    refine r_lv [(0, .ref v0), (1, .int (0 : Int32)), (2, .int (0 : Int32))] (g_allc rfl (g_allc rfl (g_allc rfl g_alln))) ?_
    exact l_X5_longestRow_13   _ _ _ _ h
  · refine r_iconst d_X5_longestRow_7 ic_m1 ?_
    exact r_pret h d_X5_longestRow_8
/-! X5_consider -/
theorem pf_X5_31 : pF RX5 31 5 7 := ⟨RX5, TX5, 9, rfl, by decide, rfl, Or.inl (g_in 381 (by decide +kernel) rfl)⟩
theorem pf_X5_35 : pF RX5 35 5 8 := ⟨RX5, TX5, 9, rfl, by decide, rfl, Or.inl (g_in 382 (by decide +kernel) rfl)⟩
theorem d_X5_consider_0 : decLL cX5_consider 0 1 1 := Or.inr ⟨1, rfl, by decide +kernel, rfl⟩
theorem d_X5_consider_1 : decAL cX5_consider 1 0 2 := Or.inr ⟨0, rfl, by decide +kernel, rfl⟩
theorem d_X5_consider_2 : dec 3 cX5_consider 2 (.getfield 31) 5 := ⟨by decide +kernel, rfl⟩
theorem d_X5_consider_5 : dec 1 cX5_consider 5 .lxor 6 := ⟨by decide +kernel, rfl⟩
theorem d_X5_consider_6 : decLS cX5_consider 6 3 7 := Or.inr ⟨3, rfl, by decide +kernel, rfl⟩
theorem d_X5_consider_7 : decLL cX5_consider 7 3 8 := Or.inr ⟨3, rfl, by decide +kernel, rfl⟩
theorem d_X5_consider_8 : decLL cX5_consider 8 3 9 := Or.inr ⟨3, rfl, by decide +kernel, rfl⟩
theorem d_X5_consider_9 : dec 1 cX5_consider 9 .lneg 10 := ⟨by decide +kernel, rfl⟩
theorem d_X5_consider_10 : dec 1 cX5_consider 10 .land 11 := ⟨by decide +kernel, rfl⟩
theorem d_X5_consider_11 : decLS cX5_consider 11 5 13 := Or.inl ⟨by decide +kernel, rfl⟩
theorem d_X5_consider_13 : decAL cX5_consider 13 0 14 := Or.inr ⟨0, rfl, by decide +kernel, rfl⟩
theorem d_X5_consider_14 : dec 3 cX5_consider 14 (.getfield 35) 17 := ⟨by decide +kernel, rfl⟩
theorem d_X5_consider_17 : decB cX5_consider 17 (.ifCond .eq 12) (12) 20 29 := ⟨by decide +kernel, rfl, by decide⟩
theorem d_X5_consider_20 : decLL cX5_consider 20 1 21 := Or.inr ⟨1, rfl, by decide +kernel, rfl⟩
theorem d_X5_consider_21 : decLL cX5_consider 21 5 23 := Or.inl ⟨by decide +kernel, rfl⟩
theorem d_X5_consider_23 : dec 1 cX5_consider 23 .land 24 := ⟨by decide +kernel, rfl⟩
theorem d_X5_consider_24 : dec 1 cX5_consider 24 (.lconst 0) 25 := ⟨by decide +kernel, rfl⟩
theorem d_X5_consider_25 : dec 1 cX5_consider 25 .lcmp 26 := ⟨by decide +kernel, rfl⟩
theorem d_X5_consider_26 : decB cX5_consider 26 (.ifCond .eq 13) (13) 29 39 := ⟨by decide +kernel, rfl, by decide⟩
theorem d_X5_consider_29 : decAL cX5_consider 29 0 30 := Or.inr ⟨0, rfl, by decide +kernel, rfl⟩
theorem d_X5_consider_30 : decLL cX5_consider 30 1 31 := Or.inr ⟨1, rfl, by decide +kernel, rfl⟩
theorem d_X5_consider_31 : dec 3 cX5_consider 31 (.putfield 31) 34 := ⟨by decide +kernel, rfl⟩
theorem d_X5_consider_34 : decAL cX5_consider 34 0 35 := Or.inr ⟨0, rfl, by decide +kernel, rfl⟩
theorem d_X5_consider_35 : dec 1 cX5_consider 35 (.iconst 1) 36 := ⟨by decide +kernel, rfl⟩
theorem d_X5_consider_36 : dec 3 cX5_consider 36 (.putfield 35) 39 := ⟨by decide +kernel, rfl⟩
theorem d_X5_consider_39 : dec 1 cX5_consider 39 .return_ 40 := ⟨by decide +kernel, rfl⟩
def k_X5_consider_29 (F : Nat)   (v0 : Nat) (v1 : Int64)  (n : Nat) (G : GH) : Option (Nat × GH) :=
  Option.bind (pV G v0 5 7 (.long v1)) (fun (G5 : GH) =>
  Option.bind (pV G5 v0 5 8 (.int (1 : Int32))) (fun (G6 : GH) =>
  some (n, G6)))
def f_X5_consider (F : Nat)  (v0 : Nat) (v1 : Int64) (n : Nat) (G : GH) : Option (Nat × GH) :=
  Option.bind (gJ G v0 5 7) (fun (x1 : Int64) =>
  gnm (v1 ^^^ x1) (fun (y2 : Int64) =>
  gnm (y2 &&& (-y2)) (fun (y3 : Int64) =>
  Option.bind (gI G v0 5 8) (fun (x4 : Int32) =>
  if x4 = 0 then
  (k_X5_consider_29 F   v0 v1 n G)
  else (if (lg_cmp (v1 &&& y3) (0 : Int64)) = 0 then
  (some (n, G))
  else (k_X5_consider_29 F   v0 v1 n G))))))
set_option maxRecDepth 100000 in
set_option maxHeartbeats 4000000 in
theorem c_X5_consider_29 {E : GE} {F : Nat}   {v0 : Nat} {v1 : Int64}  {n : Nat} {G : GH} {z : Nat × GH}   (h : k_X5_consider_29 F   v0 v1  n G = some z) : WG E RX5 "consider" cX5_consider 7 none 0 0 0 0 29 [(0, .ref v0), (1, .long v1)] [] n G (g_O E (none, z.1, z.2)) := by
  unfold k_X5_consider_29 at h
  refine r_aload d_X5_consider_29 rfl ?_
  refine r_lload d_X5_consider_30 rfl ?_
  refine r_put h d_X5_consider_31 pw_X5_31 rfl rfl (fun G5 h => ?_)
  refine r_aload d_X5_consider_34 rfl ?_
  refine r_iconst d_X5_consider_35 ic_1 ?_
  refine r_put h d_X5_consider_36 pw_X5_35 rfl rfl (fun G6 h => ?_)
  exact r_vret h d_X5_consider_39
set_option maxRecDepth 100000 in
set_option maxHeartbeats 4000000 in
theorem s_X5_consider {E : GE} {F : Nat}  {v0 : Nat} {v1 : Int64} {n : Nat} {G : GH} {z : Nat × GH}  (h : f_X5_consider F  v0 v1 n G = some z) : GM E yX5_consider cX5_consider 7 none 0 0 0 0 [.ref v0, .long v1] n G (none, z.1, z.2) := by
  refine GM.of (by decide) (Nat.le_of_ble_eq_true rfl) ?_
  show WG E RX5 "consider" cX5_consider 7 none 0 0 0 0 0 [(0, .ref v0), (1, .long v1)] [] n G (g_O E (none, z.1, z.2))
  unfold f_X5_consider at h
  refine r_lload d_X5_consider_0 rfl ?_
  refine r_aload d_X5_consider_1 rfl ?_
  refine r_getJ h d_X5_consider_2 pf_X5_31 (fun x1 h => ?_)
  refine r_lxor d_X5_consider_5 ?_
  refine r_nmJ h (fun y2 _ h => ?_)
  refine r_lstore d_X5_consider_6 rfl rfl rfl ?_
  refine r_lload d_X5_consider_7 rfl ?_
  refine r_lload d_X5_consider_8 rfl ?_
  refine r_lneg d_X5_consider_9 ?_
  refine r_land d_X5_consider_10 ?_
  refine r_nmJ h (fun y3 _ h => ?_)
  refine r_lstore d_X5_consider_11 rfl rfl rfl ?_
  refine r_aload d_X5_consider_13 rfl ?_
  refine r_getI h d_X5_consider_14 pf_X5_35 (fun x4 h => ?_)
  refine r_if_eq h d_X5_consider_17 (fun h => ?_) (fun h => ?_)
  · refine r_lv [(0, .ref v0), (1, .long v1)] (g_allc rfl (g_allc rfl g_alln)) ?_
    exact c_X5_consider_29   h
  · refine r_lload d_X5_consider_20 rfl ?_
    refine r_lload d_X5_consider_21 rfl ?_
    refine r_land d_X5_consider_23 ?_
    refine r_lconst d_X5_consider_24 lc_0 ?_
    refine r_lcmp d_X5_consider_25 ?_
    refine r_if_eq h d_X5_consider_26 (fun h => ?_) (fun h => ?_)
    · exact r_vret h d_X5_consider_39
    · refine r_lv [(0, .ref v0), (1, .long v1)] (g_allc rfl (g_allc rfl g_alln)) ?_
      exact c_X5_consider_29   h
/-! X5_loosen -/
theorem py_X5_loosen : pY yX5_loosen cX5_loosen 14 none 4 := ⟨g_in 1029 (by decide +kernel) rfl, g_in 103 (by decide +kernel) rfl, by decide, by decide, by decide +kernel⟩
theorem pi_X5_loosen : pI yX5_loosen 5 := ⟨g_in 1028 (by decide +kernel) rfl, g_in 35 (by decide +kernel) rfl, (RX5, TX5, 9), rfl, rfl⟩
theorem pl_X5_108 : pL RX5 108 yX5_loosen := Or.inl (g_in 1026 (by decide +kernel) rfl)
theorem py_X5_consider : pY yX5_consider cX5_consider 7 none 1 := ⟨g_in 1033 (by decide +kernel) rfl, g_in 103 (by decide +kernel) rfl, by decide, by decide, by decide +kernel⟩
theorem pi_X5_consider : pI yX5_consider 5 := ⟨g_in 1032 (by decide +kernel) rfl, g_in 36 (by decide +kernel) rfl, (RX5, TX5, 9), rfl, rfl⟩
theorem pl_X5_112 : pL RX5 112 yX5_consider := Or.inl (g_in 1030 (by decide +kernel) rfl)
theorem d_X5_loosen_0 : decAL cX5_loosen 0 0 1 := Or.inr ⟨0, rfl, by decide +kernel, rfl⟩
theorem d_X5_loosen_1 : decLL cX5_loosen 1 1 2 := Or.inr ⟨1, rfl, by decide +kernel, rfl⟩
theorem d_X5_loosen_2 : decIL cX5_loosen 2 5 4 := Or.inl ⟨by decide +kernel, rfl⟩
theorem d_X5_loosen_4 : dec 3 cX5_loosen 4 (.invokevirtual 77) 7 := ⟨by decide +kernel, rfl⟩
theorem d_X5_loosen_7 : decIS cX5_loosen 7 7 9 := Or.inl ⟨by decide +kernel, rfl⟩
theorem d_X5_loosen_9 : decAL cX5_loosen 9 0 10 := Or.inr ⟨0, rfl, by decide +kernel, rfl⟩
theorem d_X5_loosen_10 : decIL cX5_loosen 10 7 12 := Or.inl ⟨by decide +kernel, rfl⟩
theorem d_X5_loosen_12 : dec 3 cX5_loosen 12 (.invokevirtual 92) 15 := ⟨by decide +kernel, rfl⟩
theorem d_X5_loosen_15 : dec 1 cX5_loosen 15 (.iconst (-1)) 16 := ⟨by decide +kernel, rfl⟩
theorem d_X5_loosen_16 : decB cX5_loosen 16 (.if_icmp .ne 9) (9) 19 25 := ⟨by decide +kernel, rfl, by decide⟩
theorem d_X5_loosen_19 : decAL cX5_loosen 19 0 20 := Or.inr ⟨0, rfl, by decide +kernel, rfl⟩
theorem d_X5_loosen_20 : decLL cX5_loosen 20 1 21 := Or.inr ⟨1, rfl, by decide +kernel, rfl⟩
theorem d_X5_loosen_21 : dec 3 cX5_loosen 21 (.invokevirtual 112) 24 := ⟨by decide +kernel, rfl⟩
theorem d_X5_loosen_24 : dec 1 cX5_loosen 24 .return_ 25 := ⟨by decide +kernel, rfl⟩
theorem d_X5_loosen_25 : decIL cX5_loosen 25 6 27 := Or.inl ⟨by decide +kernel, rfl⟩
theorem d_X5_loosen_27 : decB cX5_loosen 27 (.ifCond .le 13) (13) 30 40 := ⟨by decide +kernel, rfl, by decide⟩
theorem d_X5_loosen_30 : decAL cX5_loosen 30 0 31 := Or.inr ⟨0, rfl, by decide +kernel, rfl⟩
theorem d_X5_loosen_31 : decIL cX5_loosen 31 7 33 := Or.inl ⟨by decide +kernel, rfl⟩
theorem d_X5_loosen_33 : decLL cX5_loosen 33 1 34 := Or.inr ⟨1, rfl, by decide +kernel, rfl⟩
theorem d_X5_loosen_34 : dec 3 cX5_loosen 34 (.invokevirtual 81) 37 := ⟨by decide +kernel, rfl⟩
theorem d_X5_loosen_37 : decB cX5_loosen 37 (.goto 4) (4) 40 41 := ⟨by decide +kernel, rfl, by decide⟩
theorem d_X5_loosen_40 : dec 1 cX5_loosen 40 (.iconst (-1)) 41 := ⟨by decide +kernel, rfl⟩
theorem d_X5_loosen_41 : decIS cX5_loosen 41 8 43 := Or.inl ⟨by decide +kernel, rfl⟩
theorem d_X5_loosen_43 : decIL cX5_loosen 43 8 45 := Or.inl ⟨by decide +kernel, rfl⟩
theorem d_X5_loosen_45 : decIS cX5_loosen 45 9 47 := Or.inl ⟨by decide +kernel, rfl⟩
theorem d_X5_loosen_47 : decLL cX5_loosen 47 3 48 := Or.inr ⟨3, rfl, by decide +kernel, rfl⟩
theorem d_X5_loosen_48 : decLS cX5_loosen 48 10 50 := Or.inl ⟨by decide +kernel, rfl⟩
theorem d_X5_loosen_50 : dec 1 cX5_loosen 50 (.iconst 0) 51 := ⟨by decide +kernel, rfl⟩
theorem d_X5_loosen_51 : decIS cX5_loosen 51 12 53 := Or.inl ⟨by decide +kernel, rfl⟩
theorem d_X5_loosen_53 : decIL cX5_loosen 53 12 55 := Or.inl ⟨by decide +kernel, rfl⟩
theorem d_X5_loosen_55 : decAL cX5_loosen 55 0 56 := Or.inr ⟨0, rfl, by decide +kernel, rfl⟩
theorem d_X5_loosen_56 : dec 3 cX5_loosen 56 (.getfield 39) 59 := ⟨by decide +kernel, rfl⟩
theorem d_X5_loosen_59 : dec 3 cX5_loosen 59 (.getfield 55) 62 := ⟨by decide +kernel, rfl⟩
theorem d_X5_loosen_62 : decB cX5_loosen 62 (.if_icmp .ge 88) (88) 65 150 := ⟨by decide +kernel, rfl, by decide⟩
theorem d_X5_loosen_65 : decIL cX5_loosen 65 9 67 := Or.inl ⟨by decide +kernel, rfl⟩
theorem d_X5_loosen_67 : dec 1 cX5_loosen 67 (.iconst (-1)) 68 := ⟨by decide +kernel, rfl⟩
theorem d_X5_loosen_68 : decB cX5_loosen 68 (.if_icmp .eq 82) (82) 71 150 := ⟨by decide +kernel, rfl, by decide⟩
theorem d_X5_loosen_71 : decAL cX5_loosen 71 0 72 := Or.inr ⟨0, rfl, by decide +kernel, rfl⟩
theorem d_X5_loosen_72 : decIL cX5_loosen 72 9 74 := Or.inl ⟨by decide +kernel, rfl⟩
theorem d_X5_loosen_74 : decIL cX5_loosen 74 7 76 := Or.inl ⟨by decide +kernel, rfl⟩
theorem d_X5_loosen_76 : decLL cX5_loosen 76 1 77 := Or.inr ⟨1, rfl, by decide +kernel, rfl⟩
theorem d_X5_loosen_77 : dec 3 cX5_loosen 77 (.invokevirtual 85) 80 := ⟨by decide +kernel, rfl⟩
theorem d_X5_loosen_80 : decIS cX5_loosen 80 13 82 := Or.inl ⟨by decide +kernel, rfl⟩
theorem d_X5_loosen_82 : decIL cX5_loosen 82 13 84 := Or.inl ⟨by decide +kernel, rfl⟩
theorem d_X5_loosen_84 : dec 1 cX5_loosen 84 (.iconst (-1)) 85 := ⟨by decide +kernel, rfl⟩
theorem d_X5_loosen_85 : decB cX5_loosen 85 (.if_icmp .ne 4) (4) 88 89 := ⟨by decide +kernel, rfl, by decide⟩
theorem d_X5_loosen_88 : dec 1 cX5_loosen 88 .return_ 89 := ⟨by decide +kernel, rfl⟩
theorem d_X5_loosen_89 : decLL cX5_loosen 89 10 91 := Or.inl ⟨by decide +kernel, rfl⟩
theorem d_X5_loosen_91 : dec 1 cX5_loosen 91 (.lconst 1) 92 := ⟨by decide +kernel, rfl⟩
theorem d_X5_loosen_92 : decIL cX5_loosen 92 13 94 := Or.inl ⟨by decide +kernel, rfl⟩
theorem d_X5_loosen_94 : dec 1 cX5_loosen 94 .lshl 95 := ⟨by decide +kernel, rfl⟩
theorem d_X5_loosen_95 : dec 1 cX5_loosen 95 .land 96 := ⟨by decide +kernel, rfl⟩
theorem d_X5_loosen_96 : dec 1 cX5_loosen 96 (.lconst 0) 97 := ⟨by decide +kernel, rfl⟩
theorem d_X5_loosen_97 : dec 1 cX5_loosen 97 .lcmp 98 := ⟨by decide +kernel, rfl⟩
theorem d_X5_loosen_98 : decB cX5_loosen 98 (.ifCond .ne 21) (21) 101 119 := ⟨by decide +kernel, rfl, by decide⟩
theorem d_X5_loosen_101 : decAL cX5_loosen 101 0 102 := Or.inr ⟨0, rfl, by decide +kernel, rfl⟩
theorem d_X5_loosen_102 : decLL cX5_loosen 102 1 103 := Or.inr ⟨1, rfl, by decide +kernel, rfl⟩
theorem d_X5_loosen_103 : dec 1 cX5_loosen 103 (.lconst 1) 104 := ⟨by decide +kernel, rfl⟩
theorem d_X5_loosen_104 : decIL cX5_loosen 104 13 106 := Or.inl ⟨by decide +kernel, rfl⟩
theorem d_X5_loosen_106 : dec 1 cX5_loosen 106 .lshl 107 := ⟨by decide +kernel, rfl⟩
theorem d_X5_loosen_107 : dec 1 cX5_loosen 107 .lor 108 := ⟨by decide +kernel, rfl⟩
theorem d_X5_loosen_108 : decLL cX5_loosen 108 10 110 := Or.inl ⟨by decide +kernel, rfl⟩
theorem d_X5_loosen_110 : decIL cX5_loosen 110 7 112 := Or.inl ⟨by decide +kernel, rfl⟩
theorem d_X5_loosen_112 : decIL cX5_loosen 112 6 114 := Or.inl ⟨by decide +kernel, rfl⟩
theorem d_X5_loosen_114 : dec 1 cX5_loosen 114 (.iconst 1) 115 := ⟨by decide +kernel, rfl⟩
theorem d_X5_loosen_115 : dec 1 cX5_loosen 115 .isub 116 := ⟨by decide +kernel, rfl⟩
theorem d_X5_loosen_116 : dec 3 cX5_loosen 116 (.invokevirtual 108) 119 := ⟨by decide +kernel, rfl⟩
theorem d_X5_loosen_119 : decLL cX5_loosen 119 10 121 := Or.inl ⟨by decide +kernel, rfl⟩
theorem d_X5_loosen_121 : dec 1 cX5_loosen 121 (.lconst 1) 122 := ⟨by decide +kernel, rfl⟩
theorem d_X5_loosen_122 : decIL cX5_loosen 122 13 124 := Or.inl ⟨by decide +kernel, rfl⟩
theorem d_X5_loosen_124 : dec 1 cX5_loosen 124 .lshl 125 := ⟨by decide +kernel, rfl⟩
theorem d_X5_loosen_125 : dec 1 cX5_loosen 125 .lor 126 := ⟨by decide +kernel, rfl⟩
theorem d_X5_loosen_126 : decLS cX5_loosen 126 10 128 := Or.inl ⟨by decide +kernel, rfl⟩
theorem d_X5_loosen_128 : decAL cX5_loosen 128 0 129 := Or.inr ⟨0, rfl, by decide +kernel, rfl⟩
theorem d_X5_loosen_129 : decIL cX5_loosen 129 13 131 := Or.inl ⟨by decide +kernel, rfl⟩
theorem d_X5_loosen_131 : dec 3 cX5_loosen 131 (.invokevirtual 89) 134 := ⟨by decide +kernel, rfl⟩
theorem d_X5_loosen_134 : decIS cX5_loosen 134 9 136 := Or.inl ⟨by decide +kernel, rfl⟩
theorem d_X5_loosen_136 : decIL cX5_loosen 136 9 138 := Or.inl ⟨by decide +kernel, rfl⟩
theorem d_X5_loosen_138 : decIL cX5_loosen 138 8 140 := Or.inl ⟨by decide +kernel, rfl⟩
theorem d_X5_loosen_140 : decB cX5_loosen 140 (.if_icmp .ne 4) (4) 143 144 := ⟨by decide +kernel, rfl, by decide⟩
theorem d_X5_loosen_143 : dec 1 cX5_loosen 143 .return_ 144 := ⟨by decide +kernel, rfl⟩
theorem d_X5_loosen_144 : dec 3 cX5_loosen 144 (.iinc 12 1) 147 := ⟨by decide +kernel, rfl⟩
theorem d_X5_loosen_147 : decB cX5_loosen 147 (.goto (-94)) (-94) 150 53 := ⟨by decide +kernel, rfl, by decide⟩
theorem d_X5_loosen_150 : dec 1 cX5_loosen 150 .return_ 151 := ⟨by decide +kernel, rfl⟩
def k_X5_loosen_119 (F : Nat) (rf_X5_loosen : Nat → Int64 → Int64 → Int32 → Int32 → Nat → GH → Option (Nat × GH)) (rec53 : Int32 → Int64 → Int32 → Nat → GH → Option (Nat × GH)) (v0 : Nat) (v1 : Int64) (v6 : Int32) (v7 : Int32) (v8 : Int32) (v10 : Int64) (v12 : Int32) (v13 : Int32)  (n : Nat) (G : GH) : Option (Nat × GH) :=
  gnm (v10 ||| ((1 : Int64) <<< ((Int32.toInt64 v13) &&& 63))) (fun (y6 : Int64) =>
  cvP G v0 5 (f_X5_behind F v0 v13 G) (fun (x7 : Int32) =>
  if x7 = v8 then
  (some (n, G))
  else (rec53 x7 y6 (v12 + 1) n G)))
def b_X5_loosen_53 (F : Nat) (rf_X5_loosen : Nat → Int64 → Int64 → Int32 → Int32 → Nat → GH → Option (Nat × GH))  (v0 : Nat) (v1 : Int64) (v6 : Int32) (v7 : Int32) (v8 : Int32) (rec53 : Int32 → Int64 → Int32 → Nat → GH → Option (Nat × GH)) : Int32 → Int64 → Int32 → Nat → GH → Option (Nat × GH) := fun v9 v10 v12 n G =>
  Option.bind (gR G v0 5 0) (fun (x3 : Nat) =>
  Option.bind (gI G x3 3 0) (fun (x4 : Int32) =>
  if x4 ≤ v12 then
  (some (n, G))
  else (if v9 = (-1 : Int32) then
  (some (n, G))
  else (cvP G v0 5 (f_X5_stuckSlot F v0 v9 v7 v1 G) (fun (x5 : Int32) =>
  if x5 = (-1 : Int32) then
  (some (n, G))
  else (if (lg_cmp (v10 &&& ((1 : Int64) <<< ((Int32.toInt64 x5) &&& 63))) (0 : Int64)) = 0 then
  (cvU G v0 5 (rf_X5_loosen v0 (v1 ||| ((1 : Int64) <<< ((Int32.toInt64 x5) &&& 63))) v10 v7 (v6 - (1 : Int32)) n G) (fun (n8 : Nat) (G9 : GH) =>
  k_X5_loosen_119 F rf_X5_loosen rec53 v0 v1 v6 v7 v8 v10 v12 x5 n8 G9))
  else (k_X5_loosen_119 F rf_X5_loosen rec53 v0 v1 v6 v7 v8 v10 v12 x5 n G)))))))
def k_X5_loosen_41 (F : Nat) (rf_X5_loosen : Nat → Int64 → Int64 → Int32 → Int32 → Nat → GH → Option (Nat × GH))  (v0 : Nat) (v1 : Int64) (v3 : Int64) (v6 : Int32) (v7 : Int32) (s0 : Int32) (n : Nat) (G : GH) : Option (Nat × GH) :=
  fixN (fun _ _ _ _ _ => none) (b_X5_loosen_53 F rf_X5_loosen  v0 v1 v6 v7 s0) F s0 v3 (0 : Int32) n G
def g_X5_loosen (F : Nat) (rf_X5_loosen : Nat → Int64 → Int64 → Int32 → Int32 → Nat → GH → Option (Nat × GH)) (v0 : Nat) (v1 : Int64) (v3 : Int64) (v5 : Int32) (v6 : Int32) (n : Nat) (G : GH) : Option (Nat × GH) :=
  cvP G v0 5 (f_X5_startable F v0 v1 v5 G) (fun (x1 : Int32) =>
  cvP G v0 5 (f_X5_leastStuck F v0 x1 G) (fun (x2 : Int32) =>
  if x2 = (-1 : Int32) then
  (cvU G v0 5 (f_X5_consider F v0 v1 n G) (fun (n11 : Nat) (G12 : GH) =>
  some (n11, G12)))
  else (if v6 ≤ 0 then
  (k_X5_loosen_41 F rf_X5_loosen  v0 v1 v3 v6 x1 (-1 : Int32) n G)
  else (cvP G v0 5 (f_X5_loopEntry F v0 x1 v1 G) (fun (x10 : Int32) =>
  k_X5_loosen_41 F rf_X5_loosen  v0 v1 v3 v6 x1 x10 n G)))))
set_option maxRecDepth 100000 in
set_option maxHeartbeats 4000000 in
theorem c_X5_loosen_119 {E : GE} {F : Nat} {rf_X5_loosen : Nat → Int64 → Int64 → Int32 → Int32 → Nat → GH → Option (Nat × GH)} {kf kl : Nat} {rec53 : Int32 → Int64 → Int32 → Nat → GH → Option (Nat × GH)} {v0 : Nat} {v1 : Int64} {v6 : Int32} {v7 : Int32} {v8 : Int32} {v10 : Int64} {v12 : Int32} {v13 : Int32}  {n : Nat} {G : GH} {z : Nat × GH} (hkf : 10 ≤ kf) (hkl : 300 ≤ kl) (hrf_X5_loosen : ∀ (u0 : Nat) (u1 : Int64) (u2 : Int64) (u3 : Int32) (u4 : Int32) (n : Nat) (G : GH) (z : Nat × GH), rf_X5_loosen u0 u1 u2 u3 u4 n G = some z → GM E yX5_loosen cX5_loosen 14 none kf kl 0 0 [.ref u0, .long u1, .long u2, .int u3, .int u4] n G (none, z.1, z.2)) (hrec53 : ∀ (w9 : Int32) (w10 : Int64) (w12 : Int32) (n : Nat) (G : GH) (z : Nat × GH), rec53 w9 w10 w12 n G = some z → WG E RX5 "loosen" cX5_loosen 14 none (kf + 1) (kl + 40) 0 0 53 [(0, .ref v0), (1, .long v1), (6, .int v6), (7, .int v7), (8, .int v8), (9, .int w9), (10, .long w10), (12, .int w12)] [] n G (g_O E (none, z.1, z.2))) (h : k_X5_loosen_119 F rf_X5_loosen rec53 v0 v1 v6 v7 v8 v10 v12 v13  n G = some z) : WG E RX5 "loosen" cX5_loosen 14 none (kf + 1) (kl + 40) 0 0 119 [(0, .ref v0), (1, .long v1), (6, .int v6), (7, .int v7), (8, .int v8), (10, .long v10), (12, .int v12), (13, .int v13)] [] n G (g_O E (none, z.1, z.2)) := by
  unfold k_X5_loosen_119 at h
  refine r_lload d_X5_loosen_119 rfl ?_
  refine r_lconst d_X5_loosen_121 lc_1 ?_
  refine r_iload d_X5_loosen_122 rfl ?_
  refine r_lshl d_X5_loosen_124 ?_
  refine r_lor d_X5_loosen_125 ?_
  refine r_nmJ h (fun y6 _ h => ?_)
  refine r_lstore d_X5_loosen_126 rfl rfl rfl ?_
  refine r_aload d_X5_loosen_128 rfl ?_
  refine r_iload d_X5_loosen_129 rfl ?_
  refine r_invP [_] h (fun _ hq => s_X5_behind hq) d_X5_loosen_131 pl_X5_89 py_X5_behind pi_X5_behind rfl rfl (g_room_of ⟨by omega, by omega, by omega, by omega⟩) (fun x7 h => ?_)
  refine r_istore d_X5_loosen_134 rfl rfl ?_
  refine r_iload d_X5_loosen_136 rfl ?_
  refine r_iload d_X5_loosen_138 rfl ?_
  refine r_icmp_ne h d_X5_loosen_140 (fun h => ?_) (fun h => ?_)
  · refine r_iinc d_X5_loosen_144 rfl (ii_1 _) rfl rfl ?_
    refine r_goto d_X5_loosen_147 ?_
    refine r_lv [(0, .ref v0), (1, .long v1), (6, .int v6), (7, .int v7), (8, .int v8), (9, .int x7), (10, .long y6), (12, .int (v12 + 1))] (g_allc rfl (g_allc rfl (g_allc rfl (g_allc rfl (g_allc rfl (g_allc rfl (g_allc rfl (g_allc rfl g_alln)))))))) ?_
    exact hrec53 _ _ _ _ _ _ h
  · exact r_vret h d_X5_loosen_143
set_option maxRecDepth 100000 in
set_option maxHeartbeats 4000000 in
theorem l_X5_loosen_53 {E : GE} {F : Nat} {rf_X5_loosen : Nat → Int64 → Int64 → Int32 → Int32 → Nat → GH → Option (Nat × GH)} {kf kl : Nat}  {v0 : Nat} {v1 : Int64} {v6 : Int32} {v7 : Int32} {v8 : Int32} (hkf : 10 ≤ kf) (hkl : 300 ≤ kl) (hrf_X5_loosen : ∀ (u0 : Nat) (u1 : Int64) (u2 : Int64) (u3 : Int32) (u4 : Int32) (n : Nat) (G : GH) (z : Nat × GH), rf_X5_loosen u0 u1 u2 u3 u4 n G = some z → GM E yX5_loosen cX5_loosen 14 none kf kl 0 0 [.ref u0, .long u1, .long u2, .int u3, .int u4] n G (none, z.1, z.2))  : ∀ (K : Nat) (v9 : Int32) (v10 : Int64) (v12 : Int32) (n : Nat) (G : GH) (z : Nat × GH), fixN ((fun _ _ _ _ _ => none) : Int32 → Int64 → Int32 → Nat → GH → Option (Nat × GH)) (b_X5_loosen_53 F rf_X5_loosen  v0 v1 v6 v7 v8) K v9 v10 v12 n G = some z → WG E RX5 "loosen" cX5_loosen 14 none (kf + 1) (kl + 40) 0 0 53 [(0, .ref v0), (1, .long v1), (6, .int v6), (7, .int v7), (8, .int v8), (9, .int v9), (10, .long v10), (12, .int v12)] [] n G (g_O E (none, z.1, z.2)) := by
  intro K
  refine fixN_ind (P := fun (r : Int32 → Int64 → Int32 → Nat → GH → Option (Nat × GH)) => ∀ (v9 : Int32) (v10 : Int64) (v12 : Int32) (n : Nat) (G : GH) (z : Nat × GH), r v9 v10 v12 n G = some z → WG E RX5 "loosen" cX5_loosen 14 none (kf + 1) (kl + 40) 0 0 53 [(0, .ref v0), (1, .long v1), (6, .int v6), (7, .int v7), (8, .int v8), (9, .int v9), (10, .long v10), (12, .int v12)] [] n G (g_O E (none, z.1, z.2))) ?_ ?_ K
  · intro v9 v10 v12 n G z h
    cases h
  · intro rec53 hrec53 v9 v10 v12 n G z h
    unfold b_X5_loosen_53 at h
    refine r_iload d_X5_loosen_53 rfl ?_
    refine r_aload d_X5_loosen_55 rfl ?_
    refine r_getR h d_X5_loosen_56 pf_X5_39 (fun x3 h => ?_)
    refine r_getI h d_X5_loosen_59 pf_X5_55 (fun x4 h => ?_)
    refine r_icmp_ge h d_X5_loosen_62 (fun h => ?_) (fun h => ?_)
    · exact r_vret h d_X5_loosen_150
    · refine r_iload d_X5_loosen_65 rfl ?_
      refine r_iconst d_X5_loosen_67 ic_m1 ?_
      refine r_icmp_eq h d_X5_loosen_68 (fun h => ?_) (fun h => ?_)
      · exact r_vret h d_X5_loosen_150
      · refine r_aload d_X5_loosen_71 rfl ?_
        refine r_iload d_X5_loosen_72 rfl ?_
        refine r_iload d_X5_loosen_74 rfl ?_
        refine r_lload d_X5_loosen_76 rfl ?_
        refine r_invP [_, _, _] h (fun _ hq => s_X5_stuckSlot hq) d_X5_loosen_77 pl_X5_85 py_X5_stuckSlot pi_X5_stuckSlot rfl rfl (g_room_of ⟨by omega, by omega, by omega, by omega⟩) (fun x5 h => ?_)
        refine r_istore d_X5_loosen_80 rfl rfl ?_
        refine r_iload d_X5_loosen_82 rfl ?_
        refine r_iconst d_X5_loosen_84 ic_m1 ?_
        refine r_icmp_ne h d_X5_loosen_85 (fun h => ?_) (fun h => ?_)
        · refine r_lload d_X5_loosen_89 rfl ?_
          refine r_lconst d_X5_loosen_91 lc_1 ?_
          refine r_iload d_X5_loosen_92 rfl ?_
          refine r_lshl d_X5_loosen_94 ?_
          refine r_land d_X5_loosen_95 ?_
          refine r_lconst d_X5_loosen_96 lc_0 ?_
          refine r_lcmp d_X5_loosen_97 ?_
          refine r_if_ne h d_X5_loosen_98 (fun h => ?_) (fun h => ?_)
          · refine r_lv [(0, .ref v0), (1, .long v1), (6, .int v6), (7, .int v7), (8, .int v8), (10, .long v10), (12, .int v12), (13, .int x5)] (g_allc rfl (g_allc rfl (g_allc rfl (g_allc rfl (g_allc rfl (g_allc rfl (g_allc rfl (g_allc rfl g_alln)))))))) ?_
            exact c_X5_loosen_119 hkf hkl hrf_X5_loosen hrec53 h
          · refine r_aload d_X5_loosen_101 rfl ?_
            refine r_lload d_X5_loosen_102 rfl ?_
            refine r_lconst d_X5_loosen_103 lc_1 ?_
            refine r_iload d_X5_loosen_104 rfl ?_
            refine r_lshl d_X5_loosen_106 ?_
            refine r_lor d_X5_loosen_107 ?_
            refine r_lload d_X5_loosen_108 rfl ?_
            refine r_iload d_X5_loosen_110 rfl ?_
            refine r_iload d_X5_loosen_112 rfl ?_
            refine r_iconst d_X5_loosen_114 ic_1 ?_
            refine r_isub d_X5_loosen_115 ?_
            refine r_invU [_, _, _, _] h (fun _ hq => hrf_X5_loosen _ _ _ _ _ _ _ _ hq) d_X5_loosen_116 pl_X5_108 py_X5_loosen pi_X5_loosen rfl rfl (g_room_of ⟨by omega, by omega, by omega, by omega⟩) (fun n8 G9 h => ?_)
            refine r_lv [(0, .ref v0), (1, .long v1), (6, .int v6), (7, .int v7), (8, .int v8), (10, .long v10), (12, .int v12), (13, .int x5)] (g_allc rfl (g_allc rfl (g_allc rfl (g_allc rfl (g_allc rfl (g_allc rfl (g_allc rfl (g_allc rfl g_alln)))))))) ?_
            exact c_X5_loosen_119 hkf hkl hrf_X5_loosen hrec53 h
        · exact r_vret h d_X5_loosen_88
set_option maxRecDepth 100000 in
set_option maxHeartbeats 4000000 in
theorem c_X5_loosen_41 {E : GE} {F : Nat} {rf_X5_loosen : Nat → Int64 → Int64 → Int32 → Int32 → Nat → GH → Option (Nat × GH)} {kf kl : Nat}  {v0 : Nat} {v1 : Int64} {v3 : Int64} {v6 : Int32} {v7 : Int32} {s0 : Int32} {n : Nat} {G : GH} {z : Nat × GH} (hkf : 10 ≤ kf) (hkl : 300 ≤ kl) (hrf_X5_loosen : ∀ (u0 : Nat) (u1 : Int64) (u2 : Int64) (u3 : Int32) (u4 : Int32) (n : Nat) (G : GH) (z : Nat × GH), rf_X5_loosen u0 u1 u2 u3 u4 n G = some z → GM E yX5_loosen cX5_loosen 14 none kf kl 0 0 [.ref u0, .long u1, .long u2, .int u3, .int u4] n G (none, z.1, z.2))  (h : k_X5_loosen_41 F rf_X5_loosen  v0 v1 v3 v6 v7 s0 n G = some z) : WG E RX5 "loosen" cX5_loosen 14 none (kf + 1) (kl + 40) 0 0 41 [(0, .ref v0), (1, .long v1), (3, .long v3), (6, .int v6), (7, .int v7)] [.int s0] n G (g_O E (none, z.1, z.2)) := by
  unfold k_X5_loosen_41 at h
  refine r_istore d_X5_loosen_41 rfl rfl ?_
  refine r_iload d_X5_loosen_43 rfl ?_
  refine r_istore d_X5_loosen_45 rfl rfl ?_
  refine r_lload d_X5_loosen_47 rfl ?_
  refine r_lstore d_X5_loosen_48 rfl rfl rfl ?_
  refine r_iconst d_X5_loosen_50 ic_0 ?_
  refine r_istore d_X5_loosen_51 rfl rfl ?_
  refine r_lv [(0, .ref v0), (1, .long v1), (6, .int v6), (7, .int v7), (8, .int s0), (9, .int s0), (10, .long v3), (12, .int (0 : Int32))] (g_allc rfl (g_allc rfl (g_allc rfl (g_allc rfl (g_allc rfl (g_allc rfl (g_allc rfl (g_allc rfl g_alln)))))))) ?_
  exact l_X5_loosen_53 hkf hkl hrf_X5_loosen  _ _ _ _ _ _ _ h
set_option maxRecDepth 100000 in
set_option maxHeartbeats 4000000 in
theorem t_X5_loosen {E : GE} {F : Nat} {rf_X5_loosen : Nat → Int64 → Int64 → Int32 → Int32 → Nat → GH → Option (Nat × GH)} {kf kl : Nat} {v0 : Nat} {v1 : Int64} {v3 : Int64} {v5 : Int32} {v6 : Int32} {n : Nat} {G : GH} {z : Nat × GH} (hkf : 10 ≤ kf) (hkl : 300 ≤ kl) (hrf_X5_loosen : ∀ (u0 : Nat) (u1 : Int64) (u2 : Int64) (u3 : Int32) (u4 : Int32) (n : Nat) (G : GH) (z : Nat × GH), rf_X5_loosen u0 u1 u2 u3 u4 n G = some z → GM E yX5_loosen cX5_loosen 14 none kf kl 0 0 [.ref u0, .long u1, .long u2, .int u3, .int u4] n G (none, z.1, z.2)) (h : g_X5_loosen F rf_X5_loosen v0 v1 v3 v5 v6 n G = some z) : GM E yX5_loosen cX5_loosen 14 none (kf + 1) (kl + 40) 0 0 [.ref v0, .long v1, .long v3, .int v5, .int v6] n G (none, z.1, z.2) := by
  refine GM.of (by decide) (Nat.le_of_ble_eq_true rfl) ?_
  show WG E RX5 "loosen" cX5_loosen 14 none (kf + 1) (kl + 40) 0 0 0 [(0, .ref v0), (1, .long v1), (3, .long v3), (5, .int v5), (6, .int v6)] [] n G (g_O E (none, z.1, z.2))
  unfold g_X5_loosen at h
  refine r_aload d_X5_loosen_0 rfl ?_
  refine r_lload d_X5_loosen_1 rfl ?_
  refine r_iload d_X5_loosen_2 rfl ?_
  refine r_invP [_, _] h (fun _ hq => s_X5_startable hq) d_X5_loosen_4 pl_X5_77 py_X5_startable pi_X5_startable rfl rfl (g_room_of ⟨by omega, by omega, by omega, by omega⟩) (fun x1 h => ?_)
  refine r_istore d_X5_loosen_7 rfl rfl ?_
  refine r_aload d_X5_loosen_9 rfl ?_
  refine r_iload d_X5_loosen_10 rfl ?_
  refine r_invP [_] h (fun _ hq => s_X5_leastStuck hq) d_X5_loosen_12 pl_X5_92 py_X5_leastStuck pi_X5_leastStuck rfl rfl (g_room_of ⟨by omega, by omega, by omega, by omega⟩) (fun x2 h => ?_)
  refine r_iconst d_X5_loosen_15 ic_m1 ?_
  refine r_icmp_ne h d_X5_loosen_16 (fun h => ?_) (fun h => ?_)
  · refine r_iload d_X5_loosen_25 rfl ?_
    refine r_if_le h d_X5_loosen_27 (fun h => ?_) (fun h => ?_)
    · refine r_iconst d_X5_loosen_40 ic_m1 ?_
      refine r_lv [(0, .ref v0), (1, .long v1), (3, .long v3), (6, .int v6), (7, .int x1)] (g_allc rfl (g_allc rfl (g_allc rfl (g_allc rfl (g_allc rfl g_alln))))) ?_
      exact c_X5_loosen_41 hkf hkl hrf_X5_loosen  h
    · refine r_aload d_X5_loosen_30 rfl ?_
      refine r_iload d_X5_loosen_31 rfl ?_
      refine r_lload d_X5_loosen_33 rfl ?_
      refine r_invP [_, _] h (fun _ hq => s_X5_loopEntry hq) d_X5_loosen_34 pl_X5_81 py_X5_loopEntry pi_X5_loopEntry rfl rfl (g_room_of ⟨by omega, by omega, by omega, by omega⟩) (fun x10 h => ?_)
      refine r_goto d_X5_loosen_37 ?_
      refine r_lv [(0, .ref v0), (1, .long v1), (3, .long v3), (6, .int v6), (7, .int x1)] (g_allc rfl (g_allc rfl (g_allc rfl (g_allc rfl (g_allc rfl g_alln))))) ?_
      exact c_X5_loosen_41 hkf hkl hrf_X5_loosen  h
  · refine r_aload d_X5_loosen_19 rfl ?_
    refine r_lload d_X5_loosen_20 rfl ?_
    refine r_invU [_] h (fun _ hq => s_X5_consider hq) d_X5_loosen_21 pl_X5_112 py_X5_consider pi_X5_consider rfl rfl (g_room_of ⟨by omega, by omega, by omega, by omega⟩) (fun n11 G12 h => ?_)
    exact r_vret h d_X5_loosen_24
def f_X5_loosen (F : Nat) : Nat → Int64 → Int64 → Int32 → Int32 → Nat → GH → Option (Nat × GH) := fixN (fun _ _ _ _ _ _ _ => none) (fun rf => g_X5_loosen F rf) 5
theorem s_X5_loosen {E : GE} {F : Nat} {v0 : Nat} {v1 : Int64} {v3 : Int64} {v5 : Int32} {v6 : Int32} {n : Nat} {G : GH} {z : Nat × GH} (h : f_X5_loosen F v0 v1 v3 v5 v6 n G = some z) : GM E yX5_loosen cX5_loosen 14 none 15 500 0 0 [.ref v0, .long v1, .long v3, .int v5, .int v6] n G (none, z.1, z.2) := by
  have key : ∀ (d : Nat) (v0 : Nat) (v1 : Int64) (v3 : Int64) (v5 : Int32) (v6 : Int32) (n : Nat) (G : GH) (z : Nat × GH), fixN ((fun _ _ _ _ _ _ _ => none) : Nat → Int64 → Int64 → Int32 → Int32 → Nat → GH → Option (Nat × GH)) (fun rf => g_X5_loosen F rf) d v0 v1 v3 v5 v6 n G = some z → GM E yX5_loosen cX5_loosen 14 none (1 * d + 10) (40 * d + 300) 0 0 [.ref v0, .long v1, .long v3, .int v5, .int v6] n G (none, z.1, z.2) := by
    intro d
    induction d with
    | zero => intro v0 v1 v3 v5 v6 n G z h; cases h
    | succ d ih =>
      intro v0 v1 v3 v5 v6 n G z h
      have h2 := t_X5_loosen (E := E) (kf := 1 * d + 10) (kl := 40 * d + 300) (by omega) (by omega) ih h
      rw [show 1 * (d + 1) + 10 = 1 * d + 10 + 1 by omega, show 40 * (d + 1) + 300 = 40 * d + 300 + 40 by omega]
      exact h2
  exact key 5 _ _ _ _ _ _ _ _ h
/-! X5_findFewest -/
theorem d_X5_findFewest_0 : decAL cX5_findFewest 0 0 1 := Or.inr ⟨0, rfl, by decide +kernel, rfl⟩
theorem d_X5_findFewest_1 : dec 1 cX5_findFewest 1 (.iconst 0) 2 := ⟨by decide +kernel, rfl⟩
theorem d_X5_findFewest_2 : dec 3 cX5_findFewest 2 (.putfield 35) 5 := ⟨by decide +kernel, rfl⟩
theorem d_X5_findFewest_5 : decAL cX5_findFewest 5 0 6 := Or.inr ⟨0, rfl, by decide +kernel, rfl⟩
theorem d_X5_findFewest_6 : dec 1 cX5_findFewest 6 (.lconst 0) 7 := ⟨by decide +kernel, rfl⟩
theorem d_X5_findFewest_7 : dec 3 cX5_findFewest 7 (.putfield 31) 10 := ⟨by decide +kernel, rfl⟩
theorem d_X5_findFewest_10 : dec 1 cX5_findFewest 10 (.iconst 0) 11 := ⟨by decide +kernel, rfl⟩
theorem d_X5_findFewest_11 : decIS cX5_findFewest 11 1 12 := Or.inr ⟨1, rfl, by decide +kernel, rfl⟩
theorem d_X5_findFewest_12 : decIL cX5_findFewest 12 1 13 := Or.inr ⟨1, rfl, by decide +kernel, rfl⟩
theorem d_X5_findFewest_13 : dec 1 cX5_findFewest 13 (.iconst 3) 14 := ⟨by decide +kernel, rfl⟩
theorem d_X5_findFewest_14 : decB cX5_findFewest 14 (.if_icmp .gt 30) (30) 17 44 := ⟨by decide +kernel, rfl, by decide⟩
theorem d_X5_findFewest_17 : decAL cX5_findFewest 17 0 18 := Or.inr ⟨0, rfl, by decide +kernel, rfl⟩
theorem d_X5_findFewest_18 : dec 1 cX5_findFewest 18 (.lconst 0) 19 := ⟨by decide +kernel, rfl⟩
theorem d_X5_findFewest_19 : dec 1 cX5_findFewest 19 (.lconst 0) 20 := ⟨by decide +kernel, rfl⟩
theorem d_X5_findFewest_20 : dec 1 cX5_findFewest 20 (.iconst 0) 21 := ⟨by decide +kernel, rfl⟩
theorem d_X5_findFewest_21 : decIL cX5_findFewest 21 1 22 := Or.inr ⟨1, rfl, by decide +kernel, rfl⟩
theorem d_X5_findFewest_22 : dec 3 cX5_findFewest 22 (.invokevirtual 108) 25 := ⟨by decide +kernel, rfl⟩
theorem d_X5_findFewest_25 : decAL cX5_findFewest 25 0 26 := Or.inr ⟨0, rfl, by decide +kernel, rfl⟩
theorem d_X5_findFewest_26 : dec 3 cX5_findFewest 26 (.getfield 35) 29 := ⟨by decide +kernel, rfl⟩
theorem d_X5_findFewest_29 : decB cX5_findFewest 29 (.ifCond .eq 9) (9) 32 38 := ⟨by decide +kernel, rfl, by decide⟩
theorem d_X5_findFewest_32 : decAL cX5_findFewest 32 0 33 := Or.inr ⟨0, rfl, by decide +kernel, rfl⟩
theorem d_X5_findFewest_33 : decIL cX5_findFewest 33 1 34 := Or.inr ⟨1, rfl, by decide +kernel, rfl⟩
theorem d_X5_findFewest_34 : dec 3 cX5_findFewest 34 (.putfield 28) 37 := ⟨by decide +kernel, rfl⟩
theorem d_X5_findFewest_37 : dec 1 cX5_findFewest 37 .return_ 38 := ⟨by decide +kernel, rfl⟩
theorem d_X5_findFewest_38 : dec 3 cX5_findFewest 38 (.iinc 1 1) 41 := ⟨by decide +kernel, rfl⟩
theorem d_X5_findFewest_41 : decB cX5_findFewest 41 (.goto (-29)) (-29) 44 12 := ⟨by decide +kernel, rfl, by decide⟩
theorem d_X5_findFewest_44 : decAL cX5_findFewest 44 0 45 := Or.inr ⟨0, rfl, by decide +kernel, rfl⟩
theorem d_X5_findFewest_45 : dec 2 cX5_findFewest 45 (.bipush (-2)) 47 := ⟨by decide +kernel, rfl⟩
theorem d_X5_findFewest_47 : dec 3 cX5_findFewest 47 (.putfield 28) 50 := ⟨by decide +kernel, rfl⟩
theorem d_X5_findFewest_50 : dec 1 cX5_findFewest 50 .return_ 51 := ⟨by decide +kernel, rfl⟩
def b_X5_findFewest_12 (F : Nat)   (v0 : Nat) (rec12 : Int32 → Nat → GH → Option (Nat × GH)) : Int32 → Nat → GH → Option (Nat × GH) := fun v1 n G =>
  if (3 : Int32) < v1 then
  (Option.bind (pV G v0 5 6 (.int (-2 : Int32))) (fun (G3 : GH) =>
  some (n, G3)))
  else (cvU G v0 5 (f_X5_loosen F v0 (0 : Int64) (0 : Int64) (0 : Int32) v1 n G) (fun (n4 : Nat) (G5 : GH) =>
  Option.bind (gI G5 v0 5 8) (fun (x6 : Int32) =>
  if x6 = 0 then
  (rec12 (v1 + 1) n4 G5)
  else (Option.bind (pV G5 v0 5 6 (.int v1)) (fun (G7 : GH) =>
  some (n4, G7))))))
def f_X5_findFewest (F : Nat)  (v0 : Nat) (n : Nat) (G : GH) : Option (Nat × GH) :=
  Option.bind (pV G v0 5 8 (.int (0 : Int32))) (fun (G1 : GH) =>
  Option.bind (pV G1 v0 5 7 (.long (0 : Int64))) (fun (G2 : GH) =>
  fixN (fun _ _ _ => none) (b_X5_findFewest_12 F   v0) F (0 : Int32) n G2))
set_option maxRecDepth 100000 in
set_option maxHeartbeats 4000000 in
theorem l_X5_findFewest_12 {E : GE} {F : Nat}   {v0 : Nat}   : ∀ (K : Nat) (v1 : Int32) (n : Nat) (G : GH) (z : Nat × GH), fixN ((fun _ _ _ => none) : Int32 → Nat → GH → Option (Nat × GH)) (b_X5_findFewest_12 F   v0) K v1 n G = some z → WG E RX5 "findFewest" cX5_findFewest 2 none 16 533 0 0 12 [(0, .ref v0), (1, .int v1)] [] n G (g_O E (none, z.1, z.2)) := by
  intro K
  refine fixN_ind (P := fun (r : Int32 → Nat → GH → Option (Nat × GH)) => ∀ (v1 : Int32) (n : Nat) (G : GH) (z : Nat × GH), r v1 n G = some z → WG E RX5 "findFewest" cX5_findFewest 2 none 16 533 0 0 12 [(0, .ref v0), (1, .int v1)] [] n G (g_O E (none, z.1, z.2))) ?_ ?_ K
  · intro v1 n G z h
    cases h
  · intro rec12 hrec12 v1 n G z h
    unfold b_X5_findFewest_12 at h
    refine r_iload d_X5_findFewest_12 rfl ?_
    refine r_iconst d_X5_findFewest_13 ic_3 ?_
    refine r_icmp_gt h d_X5_findFewest_14 (fun h => ?_) (fun h => ?_)
    · refine r_aload d_X5_findFewest_44 rfl ?_
      refine r_bipush d_X5_findFewest_45 bp_m2 ?_
      refine r_put h d_X5_findFewest_47 pw_X5_28 rfl rfl (fun G3 h => ?_)
      exact r_vret h d_X5_findFewest_50
    · refine r_aload d_X5_findFewest_17 rfl ?_
      refine r_lconst d_X5_findFewest_18 lc_0 ?_
      refine r_lconst d_X5_findFewest_19 lc_0 ?_
      refine r_iconst d_X5_findFewest_20 ic_0 ?_
      refine r_iload d_X5_findFewest_21 rfl ?_
      refine r_invU [_, _, _, _] h (fun _ hq => s_X5_loosen hq) d_X5_findFewest_22 pl_X5_108 py_X5_loosen pi_X5_loosen rfl rfl rfl (fun n4 G5 h => ?_)
      refine r_aload d_X5_findFewest_25 rfl ?_
      refine r_getI h d_X5_findFewest_26 pf_X5_35 (fun x6 h => ?_)
      refine r_if_eq h d_X5_findFewest_29 (fun h => ?_) (fun h => ?_)
      · refine r_iinc d_X5_findFewest_38 rfl (ii_1 _) rfl rfl ?_
        refine r_goto d_X5_findFewest_41 ?_
        refine r_lv [(0, .ref v0), (1, .int (v1 + 1))] (g_allc rfl (g_allc rfl g_alln)) ?_
        exact hrec12 _ _ _ _ h
      · refine r_aload d_X5_findFewest_32 rfl ?_
        refine r_iload d_X5_findFewest_33 rfl ?_
        refine r_put h d_X5_findFewest_34 pw_X5_28 rfl rfl (fun G7 h => ?_)
        exact r_vret h d_X5_findFewest_37
set_option maxRecDepth 100000 in
set_option maxHeartbeats 4000000 in
theorem s_X5_findFewest {E : GE} {F : Nat}  {v0 : Nat} {n : Nat} {G : GH} {z : Nat × GH}  (h : f_X5_findFewest F  v0 n G = some z) : GM E yX5_findFewest cX5_findFewest 2 none 16 533 0 0 [.ref v0] n G (none, z.1, z.2) := by
  refine GM.of (by decide) (Nat.le_of_ble_eq_true rfl) ?_
  show WG E RX5 "findFewest" cX5_findFewest 2 none 16 533 0 0 0 [(0, .ref v0)] [] n G (g_O E (none, z.1, z.2))
  unfold f_X5_findFewest at h
  refine r_aload d_X5_findFewest_0 rfl ?_
  refine r_iconst d_X5_findFewest_1 ic_0 ?_
  refine r_put h d_X5_findFewest_2 pw_X5_35 rfl rfl (fun G1 h => ?_)
  refine r_aload d_X5_findFewest_5 rfl ?_
  refine r_lconst d_X5_findFewest_6 lc_0 ?_
  refine r_put h d_X5_findFewest_7 pw_X5_31 rfl rfl (fun G2 h => ?_)
  refine r_iconst d_X5_findFewest_10 ic_0 ?_
  refine r_istore d_X5_findFewest_11 rfl rfl ?_
  refine r_lv [(0, .ref v0), (1, .int (0 : Int32))] (g_allc rfl (g_allc rfl g_alln)) ?_
  exact l_X5_findFewest_12   _ _ _ _ _ h
/-! X5_loosenedAt -/
theorem pf_X5_28 : pF RX5 28 5 6 := ⟨RX5, TX5, 9, rfl, by decide, rfl, Or.inl (g_in 380 (by decide +kernel) rfl)⟩
theorem py_X5_findFewest : pY yX5_findFewest cX5_findFewest 2 none 0 := ⟨g_in 1025 (by decide +kernel) rfl, g_in 103 (by decide +kernel) rfl, by decide, by decide, by decide +kernel⟩
theorem pi_X5_findFewest : pI yX5_findFewest 5 := ⟨g_in 1024 (by decide +kernel) rfl, g_in 34 (by decide +kernel) rfl, (RX5, TX5, 9), rfl, rfl⟩
theorem pl_X5_105 : pL RX5 105 yX5_findFewest := Or.inl (g_in 1022 (by decide +kernel) rfl)
theorem d_X5_loosenedAt_0 : decAL cX5_loosenedAt 0 0 1 := Or.inr ⟨0, rfl, by decide +kernel, rfl⟩
theorem d_X5_loosenedAt_1 : dec 3 cX5_loosenedAt 1 (.getfield 28) 4 := ⟨by decide +kernel, rfl⟩
theorem d_X5_loosenedAt_4 : dec 2 cX5_loosenedAt 4 (.bipush (-3)) 6 := ⟨by decide +kernel, rfl⟩
theorem d_X5_loosenedAt_6 : decB cX5_loosenedAt 6 (.if_icmp .ne 7) (7) 9 13 := ⟨by decide +kernel, rfl, by decide⟩
theorem d_X5_loosenedAt_9 : decAL cX5_loosenedAt 9 0 10 := Or.inr ⟨0, rfl, by decide +kernel, rfl⟩
theorem d_X5_loosenedAt_10 : dec 3 cX5_loosenedAt 10 (.invokevirtual 105) 13 := ⟨by decide +kernel, rfl⟩
theorem d_X5_loosenedAt_13 : decAL cX5_loosenedAt 13 0 14 := Or.inr ⟨0, rfl, by decide +kernel, rfl⟩
theorem d_X5_loosenedAt_14 : dec 3 cX5_loosenedAt 14 (.getfield 28) 17 := ⟨by decide +kernel, rfl⟩
theorem d_X5_loosenedAt_17 : dec 2 cX5_loosenedAt 17 (.bipush (-2)) 19 := ⟨by decide +kernel, rfl⟩
theorem d_X5_loosenedAt_19 : decB cX5_loosenedAt 19 (.if_icmp .eq 8) (8) 22 27 := ⟨by decide +kernel, rfl, by decide⟩
theorem d_X5_loosenedAt_22 : decIL cX5_loosenedAt 22 1 23 := Or.inr ⟨1, rfl, by decide +kernel, rfl⟩
theorem d_X5_loosenedAt_23 : dec 1 cX5_loosenedAt 23 (.iconst (-1)) 24 := ⟨by decide +kernel, rfl⟩
theorem d_X5_loosenedAt_24 : decB cX5_loosenedAt 24 (.if_icmp .ne 8) (8) 27 32 := ⟨by decide +kernel, rfl, by decide⟩
theorem d_X5_loosenedAt_27 : decAL cX5_loosenedAt 27 0 28 := Or.inr ⟨0, rfl, by decide +kernel, rfl⟩
theorem d_X5_loosenedAt_28 : dec 3 cX5_loosenedAt 28 (.getfield 28) 31 := ⟨by decide +kernel, rfl⟩
theorem d_X5_loosenedAt_31 : dec 1 cX5_loosenedAt 31 .ireturn 32 := ⟨by decide +kernel, rfl⟩
theorem d_X5_loosenedAt_32 : dec 1 cX5_loosenedAt 32 (.iconst 0) 33 := ⟨by decide +kernel, rfl⟩
theorem d_X5_loosenedAt_33 : decIS cX5_loosenedAt 33 2 34 := Or.inr ⟨2, rfl, by decide +kernel, rfl⟩
theorem d_X5_loosenedAt_34 : dec 1 cX5_loosenedAt 34 (.iconst 0) 35 := ⟨by decide +kernel, rfl⟩
theorem d_X5_loosenedAt_35 : decIS cX5_loosenedAt 35 3 36 := Or.inr ⟨3, rfl, by decide +kernel, rfl⟩
theorem d_X5_loosenedAt_36 : decIL cX5_loosenedAt 36 3 37 := Or.inr ⟨3, rfl, by decide +kernel, rfl⟩
theorem d_X5_loosenedAt_37 : dec 2 cX5_loosenedAt 37 (.bipush 48) 39 := ⟨by decide +kernel, rfl⟩
theorem d_X5_loosenedAt_39 : decB cX5_loosenedAt 39 (.if_icmp .ge 32) (32) 42 71 := ⟨by decide +kernel, rfl, by decide⟩
theorem d_X5_loosenedAt_42 : decAL cX5_loosenedAt 42 0 43 := Or.inr ⟨0, rfl, by decide +kernel, rfl⟩
theorem d_X5_loosenedAt_43 : dec 3 cX5_loosenedAt 43 (.getfield 31) 46 := ⟨by decide +kernel, rfl⟩
theorem d_X5_loosenedAt_46 : dec 1 cX5_loosenedAt 46 (.lconst 1) 47 := ⟨by decide +kernel, rfl⟩
theorem d_X5_loosenedAt_47 : decIL cX5_loosenedAt 47 3 48 := Or.inr ⟨3, rfl, by decide +kernel, rfl⟩
theorem d_X5_loosenedAt_48 : dec 1 cX5_loosenedAt 48 .lshl 49 := ⟨by decide +kernel, rfl⟩
theorem d_X5_loosenedAt_49 : dec 1 cX5_loosenedAt 49 .land 50 := ⟨by decide +kernel, rfl⟩
theorem d_X5_loosenedAt_50 : dec 1 cX5_loosenedAt 50 (.lconst 0) 51 := ⟨by decide +kernel, rfl⟩
theorem d_X5_loosenedAt_51 : dec 1 cX5_loosenedAt 51 .lcmp 52 := ⟨by decide +kernel, rfl⟩
theorem d_X5_loosenedAt_52 : decB cX5_loosenedAt 52 (.ifCond .eq 13) (13) 55 65 := ⟨by decide +kernel, rfl, by decide⟩
theorem d_X5_loosenedAt_55 : decIL cX5_loosenedAt 55 2 56 := Or.inr ⟨2, rfl, by decide +kernel, rfl⟩
theorem d_X5_loosenedAt_56 : decIL cX5_loosenedAt 56 1 57 := Or.inr ⟨1, rfl, by decide +kernel, rfl⟩
theorem d_X5_loosenedAt_57 : decB cX5_loosenedAt 57 (.if_icmp .ne 5) (5) 60 62 := ⟨by decide +kernel, rfl, by decide⟩
theorem d_X5_loosenedAt_60 : decIL cX5_loosenedAt 60 3 61 := Or.inr ⟨3, rfl, by decide +kernel, rfl⟩
theorem d_X5_loosenedAt_61 : dec 1 cX5_loosenedAt 61 .ireturn 62 := ⟨by decide +kernel, rfl⟩
theorem d_X5_loosenedAt_62 : dec 3 cX5_loosenedAt 62 (.iinc 2 1) 65 := ⟨by decide +kernel, rfl⟩
theorem d_X5_loosenedAt_65 : dec 3 cX5_loosenedAt 65 (.iinc 3 1) 68 := ⟨by decide +kernel, rfl⟩
theorem d_X5_loosenedAt_68 : decB cX5_loosenedAt 68 (.goto (-32)) (-32) 71 36 := ⟨by decide +kernel, rfl, by decide⟩
theorem d_X5_loosenedAt_71 : dec 1 cX5_loosenedAt 71 (.iconst (-1)) 72 := ⟨by decide +kernel, rfl⟩
theorem d_X5_loosenedAt_72 : dec 1 cX5_loosenedAt 72 .ireturn 73 := ⟨by decide +kernel, rfl⟩
def b_X5_loosenedAt_36 (F : Nat)   (v0 : Nat) (v1 : Int32) (n : Nat) (G : GH) (rec36 : Int32 → Int32 → Option (Int32 × Nat × GH)) : Int32 → Int32 → Option (Int32 × Nat × GH) := fun v2 v3 =>
  if (48 : Int32) ≤ v3 then
  (some ((-1 : Int32), n, G))
  else (Option.bind (gJ G v0 5 7) (fun (x4 : Int64) =>
  if (lg_cmp (x4 &&& ((1 : Int64) <<< ((Int32.toInt64 v3) &&& 63))) (0 : Int64)) = 0 then
  (rec36 v2 (v3 + 1))
  else (if v2 = v1 then
  (some (v3, n, G))
  else (rec36 (v2 + 1) (v3 + 1)))))
def k_X5_loosenedAt_13 (F : Nat)   (v0 : Nat) (v1 : Int32)  (n : Nat) (G : GH) : Option (Int32 × Nat × GH) :=
  Option.bind (gI G v0 5 6) (fun (x2 : Int32) =>
  if x2 = (-2 : Int32) then
  (Option.bind (gI G v0 5 6) (fun (x3 : Int32) =>
  some (x3, n, G)))
  else (if v1 = (-1 : Int32) then
  (Option.bind (gI G v0 5 6) (fun (x5 : Int32) =>
  some (x5, n, G)))
  else (fixN (fun _ _ => none) (b_X5_loosenedAt_36 F   v0 v1 n G) F (0 : Int32) (0 : Int32))))
def f_X5_loosenedAt (F : Nat)  (v0 : Nat) (v1 : Int32) (n : Nat) (G : GH) : Option (Int32 × Nat × GH) :=
  Option.bind (gI G v0 5 6) (fun (x1 : Int32) =>
  if x1 = (-3 : Int32) then
  (cvU G v0 5 (f_X5_findFewest F v0 n G) (fun (n6 : Nat) (G7 : GH) =>
  k_X5_loosenedAt_13 F   v0 v1 n6 G7))
  else (k_X5_loosenedAt_13 F   v0 v1 n G))
set_option maxRecDepth 100000 in
set_option maxHeartbeats 4000000 in
theorem l_X5_loosenedAt_36 {E : GE} {F : Nat}   {v0 : Nat} {v1 : Int32} {n : Nat} {G : GH}   : ∀ (K : Nat) (v2 : Int32) (v3 : Int32) (z : Int32 × Nat × GH), fixN ((fun _ _ => none) : Int32 → Int32 → Option (Int32 × Nat × GH)) (b_X5_loosenedAt_36 F   v0 v1 n G) K v2 v3 = some z → WG E RX5 "loosenedAt" cX5_loosenedAt 4 (some .int) 17 554 0 0 36 [(0, .ref v0), (1, .int v1), (2, .int v2), (3, .int v3)] [] n G (g_O E (some (.int z.1), z.2.1, z.2.2)) := by
  intro K
  refine fixN_ind (P := fun (r : Int32 → Int32 → Option (Int32 × Nat × GH)) => ∀ (v2 : Int32) (v3 : Int32) (z : Int32 × Nat × GH), r v2 v3 = some z → WG E RX5 "loosenedAt" cX5_loosenedAt 4 (some .int) 17 554 0 0 36 [(0, .ref v0), (1, .int v1), (2, .int v2), (3, .int v3)] [] n G (g_O E (some (.int z.1), z.2.1, z.2.2))) ?_ ?_ K
  · intro v2 v3 z h
    cases h
  · intro rec36 hrec36 v2 v3 z h
    unfold b_X5_loosenedAt_36 at h
    refine r_iload d_X5_loosenedAt_36 rfl ?_
    refine r_bipush d_X5_loosenedAt_37 bp_48 ?_
    refine r_icmp_ge h d_X5_loosenedAt_39 (fun h => ?_) (fun h => ?_)
    · refine r_iconst d_X5_loosenedAt_71 ic_m1 ?_
      exact r_iret h d_X5_loosenedAt_72
    · refine r_aload d_X5_loosenedAt_42 rfl ?_
      refine r_getJ h d_X5_loosenedAt_43 pf_X5_31 (fun x4 h => ?_)
      refine r_lconst d_X5_loosenedAt_46 lc_1 ?_
      refine r_iload d_X5_loosenedAt_47 rfl ?_
      refine r_lshl d_X5_loosenedAt_48 ?_
      refine r_land d_X5_loosenedAt_49 ?_
      refine r_lconst d_X5_loosenedAt_50 lc_0 ?_
      refine r_lcmp d_X5_loosenedAt_51 ?_
      refine r_if_eq h d_X5_loosenedAt_52 (fun h => ?_) (fun h => ?_)
      · refine r_iinc d_X5_loosenedAt_65 rfl (ii_1 _) rfl rfl ?_
        refine r_goto d_X5_loosenedAt_68 ?_
        refine r_lv [(0, .ref v0), (1, .int v1), (2, .int v2), (3, .int (v3 + 1))] (g_allc rfl (g_allc rfl (g_allc rfl (g_allc rfl g_alln)))) ?_
        exact hrec36 _ _ _ h
      · refine r_iload d_X5_loosenedAt_55 rfl ?_
        refine r_iload d_X5_loosenedAt_56 rfl ?_
        refine r_icmp_ne h d_X5_loosenedAt_57 (fun h => ?_) (fun h => ?_)
        · refine r_iinc d_X5_loosenedAt_62 rfl (ii_1 _) rfl rfl ?_
          refine r_iinc d_X5_loosenedAt_65 rfl (ii_1 _) rfl rfl ?_
          refine r_goto d_X5_loosenedAt_68 ?_
          refine r_lv [(0, .ref v0), (1, .int v1), (2, .int (v2 + 1)), (3, .int (v3 + 1))] (g_allc rfl (g_allc rfl (g_allc rfl (g_allc rfl g_alln)))) ?_
          exact hrec36 _ _ _ h
        · refine r_iload d_X5_loosenedAt_60 rfl ?_
          exact r_iret h d_X5_loosenedAt_61
set_option maxRecDepth 100000 in
set_option maxHeartbeats 4000000 in
theorem c_X5_loosenedAt_13 {E : GE} {F : Nat}   {v0 : Nat} {v1 : Int32}  {n : Nat} {G : GH} {z : Int32 × Nat × GH}   (h : k_X5_loosenedAt_13 F   v0 v1  n G = some z) : WG E RX5 "loosenedAt" cX5_loosenedAt 4 (some .int) 17 554 0 0 13 [(0, .ref v0), (1, .int v1)] [] n G (g_O E (some (.int z.1), z.2.1, z.2.2)) := by
  unfold k_X5_loosenedAt_13 at h
  refine r_aload d_X5_loosenedAt_13 rfl ?_
  refine r_getI h d_X5_loosenedAt_14 pf_X5_28 (fun x2 h => ?_)
  refine r_bipush d_X5_loosenedAt_17 bp_m2 ?_
  refine r_icmp_eq h d_X5_loosenedAt_19 (fun h => ?_) (fun h => ?_)
  · refine r_aload d_X5_loosenedAt_27 rfl ?_
    refine r_getI h d_X5_loosenedAt_28 pf_X5_28 (fun x3 h => ?_)
    exact r_iret h d_X5_loosenedAt_31
  · refine r_iload d_X5_loosenedAt_22 rfl ?_
    refine r_iconst d_X5_loosenedAt_23 ic_m1 ?_
    refine r_icmp_ne h d_X5_loosenedAt_24 (fun h => ?_) (fun h => ?_)
    · refine r_iconst d_X5_loosenedAt_32 ic_0 ?_
      refine r_istore d_X5_loosenedAt_33 rfl rfl ?_
      refine r_iconst d_X5_loosenedAt_34 ic_0 ?_
      refine r_istore d_X5_loosenedAt_35 rfl rfl ?_
      refine r_lv [(0, .ref v0), (1, .int v1), (2, .int (0 : Int32)), (3, .int (0 : Int32))] (g_allc rfl (g_allc rfl (g_allc rfl (g_allc rfl g_alln)))) ?_
      exact l_X5_loosenedAt_36   _ _ _ _ h
    · refine r_aload d_X5_loosenedAt_27 rfl ?_
      refine r_getI h d_X5_loosenedAt_28 pf_X5_28 (fun x5 h => ?_)
      exact r_iret h d_X5_loosenedAt_31
set_option maxRecDepth 100000 in
set_option maxHeartbeats 4000000 in
theorem s_X5_loosenedAt {E : GE} {F : Nat}  {v0 : Nat} {v1 : Int32} {n : Nat} {G : GH} {z : Int32 × Nat × GH}  (h : f_X5_loosenedAt F  v0 v1 n G = some z) : GM E yX5_loosenedAt cX5_loosenedAt 4 (some .int) 17 554 0 0 [.ref v0, .int v1] n G (some (.int z.1), z.2.1, z.2.2) := by
  refine GM.of (by decide) (Nat.le_of_ble_eq_true rfl) ?_
  show WG E RX5 "loosenedAt" cX5_loosenedAt 4 (some .int) 17 554 0 0 0 [(0, .ref v0), (1, .int v1)] [] n G (g_O E (some (.int z.1), z.2.1, z.2.2))
  unfold f_X5_loosenedAt at h
  refine r_aload d_X5_loosenedAt_0 rfl ?_
  refine r_getI h d_X5_loosenedAt_1 pf_X5_28 (fun x1 h => ?_)
  refine r_bipush d_X5_loosenedAt_4 bp_m3 ?_
  refine r_icmp_ne h d_X5_loosenedAt_6 (fun h => ?_) (fun h => ?_)
  · refine r_lv [(0, .ref v0), (1, .int v1)] (g_allc rfl (g_allc rfl g_alln)) ?_
    exact c_X5_loosenedAt_13   h
  · refine r_aload d_X5_loosenedAt_9 rfl ?_
    refine r_invU [] h (fun _ hq => s_X5_findFewest hq) d_X5_loosenedAt_10 pl_X5_105 py_X5_findFewest pi_X5_findFewest rfl rfl rfl (fun n6 G7 h => ?_)
    refine r_lv [(0, .ref v0), (1, .int v1)] (g_allc rfl (g_allc rfl g_alln)) ?_
    exact c_X5_loosenedAt_13   h
