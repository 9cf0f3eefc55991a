/-! The law's entry: the environment of the run. -/
def st_tm (i : Nat) : Term := .string (g_strs.getD i ("", 0, "")).1 (g_strs.getD i ("", 0, "")).2.1
abbrev st_fl : List Cond := flatC (Jvm.Cond.and given_1 narrow_1)
set_option maxRecDepth 100000 in
theorem st_hex : ∀ i : Nat, i < 19 → Cond.exactly (st_tm i) "java/lang/String" ∈ st_fl := by decide +kernel
set_option maxRecDepth 100000 in
theorem st_hco : ∀ i : Nat, i < 19 → Cond.eq (.field (st_tm i) "java/lang/String" "coder" "B") (.int 0) ∈ st_fl := by decide +kernel
set_option maxRecDepth 100000 in
theorem st_har : ∀ i : Nat, i < 19 → Cond.arrayOf (.field (st_tm i) "java/lang/String" "value" "[B") .byte ∈ st_fl := by decide +kernel
set_option maxRecDepth 100000 in
theorem st_hle : ∀ i : Nat, i < 19 → Cond.eq (.length (.field (st_tm i) "java/lang/String" "value" "[B")) (.int (Int32.ofNat (g_len.getD i 0))) ∈ st_fl := by decide +kernel
set_option maxRecDepth 100000 in
theorem st_hel : ∀ i : Nat, i < 19 → ∀ j : Nat, j < g_len.getD i 0 → Cond.eq (.elem (.field (st_tm i) "java/lang/String" "value" "[B") (.int (Int32.ofNat j))) (.int ((g_byt.getD i []).getD j 0)) ∈ st_fl := by decide +kernel
def st_sub : List Cond → List Cond → Bool
  | [], _ => true
  | _ :: _, [] => false
  | x :: xs, y :: ys => if x = y then st_sub xs ys else st_sub (x :: xs) ys
theorem st_sub_mem : ∀ (m l : List Cond), st_sub l m = true → ∀ x ∈ l, x ∈ m
  | [], [], _, x, hx => hx
  | [], _ :: _, h, x, hx => by cases h
  | y :: ys, [], _, x, hx => by cases hx
  | y :: ys, z :: zs, h, x, hx => by
    unfold st_sub at h
    by_cases e : z = y
    · rw [if_pos e] at h
      rcases List.mem_cons.mp hx with rfl | hx
      · rw [e]; exact List.mem_cons_self
      · exact List.mem_cons_of_mem _ (st_sub_mem ys zs h x hx)
    · rw [if_neg e] at h
      exact List.mem_cons_of_mem _ (st_sub_mem ys (z :: zs) h x hx)
def st_prs : List (Nat × Nat) := [(0, 1), (0, 2), (1, 2), (0, 3), (1, 3), (2, 3), (0, 4), (1, 4), (2, 4), (3, 4), (0, 5), (1, 5), (2, 5), (3, 5), (4, 5), (0, 6), (1, 6), (2, 6), (3, 6), (4, 6), (5, 6), (0, 7), (1, 7), (2, 7), (3, 7), (4, 7), (5, 7), (6, 7), (0, 12), (1, 12), (2, 12), (3, 12), (4, 12), (5, 12), (6, 12), (7, 12), (0, 13), (1, 13), (2, 13), (3, 13), (4, 13), (5, 13), (6, 13), (7, 13), (12, 13), (0, 14), (1, 14), (2, 14), (3, 14), (4, 14), (5, 14), (6, 14), (7, 14), (12, 14), (13, 14), (0, 8), (1, 8), (2, 8), (3, 8), (4, 8), (5, 8), (6, 8), (7, 8), (12, 8), (13, 8), (14, 8), (0, 9), (1, 9), (2, 9), (3, 9), (4, 9), (5, 9), (6, 9), (7, 9), (12, 9), (13, 9), (14, 9), (8, 9), (0, 10), (1, 10), (2, 10), (3, 10), (4, 10), (5, 10), (6, 10), (7, 10), (12, 10), (13, 10), (14, 10), (8, 10), (9, 10), (0, 11), (1, 11), (2, 11), (3, 11), (4, 11), (5, 11), (6, 11), (7, 11), (12, 11), (13, 11), (14, 11), (8, 11), (9, 11), (10, 11), (0, 15), (1, 15), (2, 15), (3, 15), (4, 15), (5, 15), (6, 15), (7, 15), (12, 15), (13, 15), (14, 15), (8, 15), (9, 15), (10, 15), (11, 15), (0, 16), (1, 16), (2, 16), (3, 16), (4, 16), (5, 16), (6, 16), (7, 16), (12, 16), (13, 16), (14, 16), (8, 16), (9, 16), (10, 16), (11, 16), (15, 16), (0, 17), (1, 17), (2, 17), (3, 17), (4, 17), (5, 17), (6, 17), (7, 17), (12, 17), (13, 17), (14, 17), (8, 17), (9, 17), (10, 17), (11, 17), (15, 17), (16, 17), (0, 18), (1, 18), (2, 18), (3, 18), (4, 18), (5, 18), (6, 18), (7, 18), (12, 18), (13, 18), (14, 18), (8, 18), (9, 18), (10, 18), (11, 18), (15, 18), (16, 18), (17, 18)]
def st_np (q : Nat × Nat) : Cond := Cond.not (Cond.eq (st_tm q.1) (st_tm q.2))
set_option maxRecDepth 100000 in
theorem st_nes : st_sub (st_prs.map st_np) st_fl = true := by decide +kernel
set_option maxRecDepth 100000 in
theorem st_npr : ∀ i : Nat, i < 19 → ∀ j : Nat, j < 19 → (i = j ∨ st_prs.contains (i, j) = true ∨ st_prs.contains (j, i) = true) := by decide +kernel
theorem st_hne (i : Nat) (hi : i < 19) (j : Nat) (hj : j < 19) (h : i ≠ j) : (Cond.not (Cond.eq (st_tm i) (st_tm j)) ∈ st_fl ∨ Cond.not (Cond.eq (st_tm j) (st_tm i)) ∈ st_fl) :=
  ((st_npr i hi j hj).resolve_left h).imp (fun q => st_sub_mem _ _ st_nes _ (List.mem_map.mpr ⟨_, List.contains_iff_mem.mp q, rfl⟩)) (fun q => st_sub_mem _ _ st_nes _ (List.mem_map.mpr ⟨_, List.contains_iff_mem.mp q, rfl⟩))
theorem st_len : ∀ i : Nat, i < 19 → g_len.getD i 0 < 2 ^ 31 := by decide +kernel
set_option maxRecDepth 100000 in
theorem st_ref : ∀ i : Nat, i < 19 → Cond.stringRef (g_strs.getD i ("", 0, "")).1 (g_strs.getD i ("", 0, "")).2.1 (g_strs.getD i ("", 0, "")).2.2 ∈ lw_tbl := by decide +kernel
set_option maxRecDepth 100000 in
theorem st_cs : Cond.eq (.static "java/lang/String" "COMPACT_STRINGS" "Z") (.int 1) ∈ st_fl := by decide +kernel
set_option maxRecDepth 100000 in
theorem st_fm : Cond.isRef (.static "jdk/internal/util/Preconditions" "SIOOBE_FORMATTER" "Ljava/util/function/BiFunction;") ∈ st_fl := by decide +kernel
set_option maxRecDepth 100000 in
theorem st_us : Cond.isRef (.static Bundle.tN "UNASSIGNED_STACK" Bundle.steD) ∈ st_fl ∧ Cond.isRef (.static Bundle.tN "SUPPRESSED_SENTINEL" Bundle.listD) ∈ st_fl := by decide +kernel
set_option maxRecDepth 100000 in
theorem st_lst : (Cond.laysStatic "java/lang/String" "COMPACT_STRINGS" "Z" ∈ lw_tbl ∧ Cond.initialized "java/lang/String" ∈ lw_tbl) ∧ (Cond.laysStatic "jdk/internal/util/Preconditions" "SIOOBE_FORMATTER" "Ljava/util/function/BiFunction;" ∈ lw_tbl ∧ Cond.initialized "jdk/internal/util/Preconditions" ∈ lw_tbl) ∧ Cond.laysStatic Bundle.tN "UNASSIGNED_STACK" Bundle.steD ∈ lw_tbl ∧ Cond.laysStatic Bundle.tN "SUPPRESSED_SENTINEL" Bundle.listD ∈ lw_tbl ∧ Cond.initialized Bundle.tN ∈ lw_tbl := by decide +kernel
set_option maxRecDepth 100000 in
theorem st_in : Cond.instantiable RX0 6 ∈ lw_tbl ∧ Cond.instantiable RX1 7 ∈ lw_tbl ∧ Cond.instantiable RX2 4 ∈ lw_tbl ∧ Cond.instantiable RX3 9 ∈ lw_tbl ∧ Cond.instantiable RX4 3 ∈ lw_tbl ∧ Cond.instantiable RX5 9 ∈ lw_tbl ∧ Cond.instantiable RX6 8 ∈ lw_tbl ∧ Cond.instantiable RX7 7 ∈ lw_tbl ∧ Cond.instantiable RX8 6 ∈ lw_tbl ∧ Cond.instantiable RX9 5 ∈ lw_tbl ∧ Cond.instantiable RX10 9 ∈ lw_tbl ∧ Cond.instantiable RX11 37 ∈ lw_tbl := by decide +kernel
set_option maxRecDepth 100000 in
theorem st_ar : Cond.arrayClass .int ∈ lw_tbl ∧ Cond.arrayClass .byte ∈ lw_tbl ∧ Cond.arrayClass .boolean ∈ lw_tbl ∧ Cond.arrayClass .long ∈ lw_tbl ∧ Cond.arrayOver (.object RX0) ∈ lw_tbl ∧ Cond.arrayOver (.object RX2) ∈ lw_tbl := by decide +kernel
theorem st_cls {s : State} {args : Array Value} (hts : ∀ w ∈ lw_tbl, w.before args s = true) : ∃ (dC : Nat → ClassId) (dI : Nat → Nat → Nat), ∀ (k : Nat) (q : vw_C), vwCl[k]? = some q → u_Kn s q.1 q.2.1 q.2.2 (dC k) (dI k) := by
  obtain ⟨i0, i1, i2, i3, i4, i5, i6, i7, i8, i9, i10, i11⟩ := st_in
  obtain ⟨c0, I0, h0⟩ := u_known (C := RX0) (T := TX0) (N := 6) (n := 6) hts g_ws0 (hts _ i0)
  obtain ⟨c1, I1, h1⟩ := u_known (C := RX1) (T := TX1) (N := 7) (n := 7) hts g_ws1 (hts _ i1)
  obtain ⟨c2, I2, h2⟩ := u_known (C := RX2) (T := TX2) (N := 4) (n := 4) hts g_ws2 (hts _ i2)
  obtain ⟨c3, I3, h3⟩ := u_known (C := RX3) (T := TX3) (N := 9) (n := 9) hts g_ws3 (hts _ i3)
  obtain ⟨c4, I4, h4⟩ := u_known (C := RX4) (T := TX4) (N := 3) (n := 3) hts g_ws4 (hts _ i4)
  obtain ⟨c5, I5, h5⟩ := u_known (C := RX5) (T := TX5) (N := 9) (n := 9) hts g_ws5 (hts _ i5)
  obtain ⟨c6, I6, h6⟩ := u_known (C := RX6) (T := TX6) (N := 8) (n := 8) hts g_ws6 (hts _ i6)
  obtain ⟨c7, I7, h7⟩ := u_known (C := RX7) (T := TX7) (N := 7) (n := 7) hts g_ws7 (hts _ i7)
  obtain ⟨c8, I8, h8⟩ := u_known (C := RX8) (T := TX8) (N := 6) (n := 6) hts g_ws8 (hts _ i8)
  obtain ⟨c9, I9, h9⟩ := u_known (C := RX9) (T := TX9) (N := 5) (n := 5) hts g_ws9 (hts _ i9)
  obtain ⟨c10, I10, h10⟩ := u_known (C := RX10) (T := TX10) (N := 9) (n := 9) hts g_ws10 (hts _ i10)
  obtain ⟨c11, I11, h11⟩ := u_known (C := RX11) (T := TX11) (N := 37) (n := 37) hts g_ws11 (hts _ i11)
  refine ⟨fun k => match k with
    | 0 => c0 | 1 => c1 | 2 => c2 | 3 => c3 | 4 => c4 | 5 => c5 | 6 => c6 | 7 => c7 | 8 => c8 | 9 => c9 | 10 => c10 | _ => c11,
    fun k => match k with
    | 0 => I0 | 1 => I1 | 2 => I2 | 3 => I3 | 4 => I4 | 5 => I5 | 6 => I6 | 7 => I7 | 8 => I8 | 9 => I9 | 10 => I10 | _ => I11, ?_⟩
  intro k q hq
  match k, hq with
  | 0, hq => cases hq; exact h0
  | 1, hq => cases hq; exact h1
  | 2, hq => cases hq; exact h2
  | 3, hq => cases hq; exact h3
  | 4, hq => cases hq; exact h4
  | 5, hq => cases hq; exact h5
  | 6, hq => cases hq; exact h6
  | 7, hq => cases hq; exact h7
  | 8, hq => cases hq; exact h8
  | 9, hq => cases hq; exact h9
  | 10, hq => cases hq; exact h10
  | 11, hq => cases hq; exact h11
  | k + 12, hq => simp [vwCl] at hq
theorem st_prim {s : State} {args : Array Value} {ty : FieldType} (h : (Cond.arrayClass ty).before args s = true) (hp : ∀ C, ty ≠ .object C) : ∃ cA : ClassId, ArrOfT s cA ty ∧ va_RA s cA ty := by
  obtain ⟨c, k, comp, h1, h2, h3⟩ := Cond.arrayClass_spec (args := args) (first := s) (o := none) (s := s) (idx := []) h
  refine ⟨c, fun n z => ⟨fun k h => (by cases h), k, h2, comp, h3⟩, ?_⟩
  cases ty with
  | object C => exact absurd rfl (hp C)
  | _ => exact h1
theorem st_obj {s : State} {args : Array Value} {C : String} (h : (Cond.arrayOver (.object C)).before args s = true) : ∃ cA : ClassId, ArrOfT s cA (.object C) ∧ va_RA s cA (.object C) := by
  obtain ⟨comp, c, k, h1, -, h2, h3, h4⟩ := Cond.arrayOver_spec (args := args) (first := s) (o := none) (s := s) (idx := []) h
  exact ⟨c, fun n z => ⟨fun k h => (by cases h), k, h2, comp, h3⟩, k, comp, h2, h3, h1, h4⟩
/-- the environment of a run of the law on the script xs -/
theorem start_env {s : State} {b L : Nat} {xs : Nat → Int32} {args : Array Value} (hts : ∀ w ∈ lw_tbl, w.before args s = true) (hgv : (Jvm.Cond.and given_1 narrow_1).before args s = true) (hX : va_X b L xs s s.heap) :
    ∃ E : GE, g_H E = s.heap ∧ g_K E s ∧ (∀ U, E.2.2.2.2.2 U → x_Z E U) ∧ ∀ U, E.2.2.2.2.2 U → va_X b L xs U (g_H E) := by
  have hf := flat_of_before _ hgv
  have hA : ∀ a : Nat, a < s.heap.size → ¬ (s.heap.size ≤ a) := fun a h => Nat.not_le.mpr h
  obtain ⟨dC, dI, hC⟩ := st_cls hts
  obtain ⟨a0, a1, a2, a3, a4, a5⟩ := st_ar
  obtain ⟨t0, p0⟩ := st_prim (hts _ a0) (fun C h => by cases h)
  obtain ⟨t1, p1⟩ := st_prim (hts _ a1) (fun C h => by cases h)
  obtain ⟨t2, p2⟩ := st_prim (hts _ a2) (fun C h => by cases h)
  obtain ⟨t3, p3⟩ := st_prim (hts _ a3) (fun C h => by cases h)
  obtain ⟨t4, p4⟩ := st_obj (hts _ a4)
  obtain ⟨t5, p5⟩ := st_obj (hts _ a5)
  obtain ⟨adK, adV, hS, hE⟩ := vk_Sof (args := args) (s := s) (N := 19) (tm := st_tm) (len := g_len) (byt := g_byt) (A := fun q => s.heap.size ≤ q) st_len (fun i hi => hf _ (st_hex i hi)) (fun i hi => hf _ (st_hco i hi)) (fun i hi => hf _ (st_har i hi)) (fun i hi => hf _ (st_hle i hi)) (fun i hi j hj => hf _ (st_hel i hi j hj)) (fun i j hi hj hij => (st_hne i hi j hj hij).imp (fun h => hf _ h) (fun h => hf _ h)) hA
  obtain ⟨⟨l1, l2⟩, ⟨l3, l4⟩, l5, l6, l7⟩ := st_lst
  have z1 := va_Zof (A := fun q => s.heap.size ≤ q) (hts _ l1) (hts _ l2) (va_eqi (hf _ st_cs)) hA
  have z2 := va_Zqof (A := fun q => s.heap.size ≤ q) (hts _ l3) (hts _ l4) (hf _ st_fm) hA
  have z3 := vx_Zqof (A := fun q => s.heap.size ≤ q) (hts _ l5) (hts _ l7) (hf _ st_us.1) hA
  have z4 := vx_Zqof (A := fun q => s.heap.size ≤ q) (hts _ l6) (hts _ l7) (hf _ st_us.2) hA
  refine ⟨((dC, dI), (fun k => match k with | 0 => t0 | 1 => t1 | 2 => t2 | 3 => t3 | 4 => t4 | _ => t5), s.heap, adK, adV, fun U => (vx_Zq Bundle.tN "UNASSIGNED_STACK" Bundle.steD (fun q => s.heap.size ≤ q) U s.heap ∧ vx_Zq Bundle.tN "SUPPRESSED_SENTINEL" Bundle.listD (fun q => s.heap.size ≤ q) U s.heap) ∧ va_X b L xs U s.heap), rfl, ⟨⟨hC, ?_⟩, ⟨?_, hS, z1, z2⟩, va_AO.of (hts _ a4), va_AO.of (hts _ a5), ⟨⟨z3, z4⟩, hX⟩, ?_, ?_⟩, fun U h => h.1, fun U h => h.2⟩
  · intro k q hk
    match k, hk with
    | 0, hk => cases hk; exact p0
    | 1, hk => cases hk; exact p1
    | 2, hk => cases hk; exact p2
    | 3, hk => cases hk; exact p3
    | 4, hk => cases hk; exact p4
    | 5, hk => cases hk; exact p5
    | k + 6, hk => simp [g_tys] at hk
  · intro j q hj
    have hlt : j < 19 := (List.getElem?_eq_some_iff.mp hj).1
    have hq : g_strs.getD j ("", 0, "") = q := by rw [List.getD_eq_getElem?_getD, hj]; rfl
    have h1 := hts _ (st_ref j hlt)
    have h2 := hE j hlt
    unfold st_tm at h2
    rw [hq] at h1 h2
    exact vk_R.of h1 h2
  · intro u U hW h
    exact ⟨⟨vx_Zq.moved hW.alike h.1.1, vx_Zq.moved hW.alike h.1.2⟩, va_X.moved hW.alike h.2⟩
  · intro u U hW h
    have hv : u.vm.Alike U.vm := by rw [hW]; exact Vm.Alike.refl _
    exact ⟨⟨vx_Zq.moved hv h.1.1, vx_Zq.moved hv h.1.2⟩, va_X.moved hv h.2⟩
