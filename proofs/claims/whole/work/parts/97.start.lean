/-! The law's entry: the environment of the run. -/
def st_tm (i : Nat) : Term := .string (g_strs.getD i ("", 0, "")).1 (g_strs.getD i ("", 0, "")).2.1
abbrev st_fl : List Cond := flatC (Jvm.Cond.and given_1 narrow_1)
set_option maxRecDepth 100000 in
theorem st_hex : ∀ i : Nat, i < 19 → Cond.exactly (st_tm i) "java/lang/String" ∈ st_fl := by decide +kernel
set_option maxRecDepth 100000 in
theorem st_hco : ∀ i : Nat, i < 19 → Cond.eq (.field (st_tm i) "java/lang/String" "coder" "B") (.int 0) ∈ st_fl := by decide +kernel
set_option maxRecDepth 100000 in
theorem st_har : ∀ i : Nat, i < 19 → Cond.arrayOf (.field (st_tm i) "java/lang/String" "value" "[B") .byte ∈ st_fl := by decide +kernel
set_option maxRecDepth 100000 in
theorem st_hle : ∀ i : Nat, i < 19 → Cond.eq (.length (.field (st_tm i) "java/lang/String" "value" "[B")) (.int (Int32.ofNat (g_len.getD i 0))) ∈ st_fl := by decide +kernel
set_option maxRecDepth 100000 in
theorem st_hel : ∀ i : Nat, i < 19 → ∀ j : Nat, j < g_len.getD i 0 → Cond.eq (.elem (.field (st_tm i) "java/lang/String" "value" "[B") (.int (Int32.ofNat j))) (.int ((g_byt.getD i []).getD j 0)) ∈ st_fl := by decide +kernel
set_option maxRecDepth 100000 in
theorem st_hne : ∀ i : Nat, i < 19 → ∀ j : Nat, j < 19 → i ≠ j → (Cond.not (Cond.eq (st_tm i) (st_tm j)) ∈ st_fl ∨ Cond.not (Cond.eq (st_tm j) (st_tm i)) ∈ st_fl) := by decide +kernel
theorem st_len : ∀ i : Nat, i < 19 → g_len.getD i 0 < 2 ^ 31 := by decide +kernel
set_option maxRecDepth 100000 in
theorem st_ref : ∀ i : Nat, i < 19 → Cond.stringRef (g_strs.getD i ("", 0, "")).1 (g_strs.getD i ("", 0, "")).2.1 (g_strs.getD i ("", 0, "")).2.2 ∈ lw_tbl := by decide +kernel
set_option maxRecDepth 100000 in
theorem st_cs : Cond.eq (.static "java/lang/String" "COMPACT_STRINGS" "Z") (.int 1) ∈ st_fl := by decide +kernel
set_option maxRecDepth 100000 in
theorem st_fm : Cond.isRef (.static "jdk/internal/util/Preconditions" "SIOOBE_FORMATTER" "Ljava/util/function/BiFunction;") ∈ st_fl := by decide +kernel
set_option maxRecDepth 100000 in
theorem st_us : Cond.isRef (.static Bundle.tN "UNASSIGNED_STACK" Bundle.steD) ∈ st_fl ∧ Cond.isRef (.static Bundle.tN "SUPPRESSED_SENTINEL" Bundle.listD) ∈ st_fl := by decide +kernel
set_option maxRecDepth 100000 in
theorem st_ls : (Cond.laysStatic "java/lang/String" "COMPACT_STRINGS" "Z" ∈ lw_tbl ∧ Cond.initialized "java/lang/String" ∈ lw_tbl) ∧ (Cond.laysStatic "jdk/internal/util/Preconditions" "SIOOBE_FORMATTER" "Ljava/util/function/BiFunction;" ∈ lw_tbl ∧ Cond.initialized "jdk/internal/util/Preconditions" ∈ lw_tbl) ∧ Cond.laysStatic Bundle.tN "UNASSIGNED_STACK" Bundle.steD ∈ lw_tbl ∧ Cond.laysStatic Bundle.tN "SUPPRESSED_SENTINEL" Bundle.listD ∈ lw_tbl ∧ Cond.initialized Bundle.tN ∈ lw_tbl := by decide +kernel
set_option maxRecDepth 100000 in
theorem st_in : Cond.instantiable RX0 6 ∈ lw_tbl ∧ Cond.instantiable RX1 7 ∈ lw_tbl ∧ Cond.instantiable RX2 4 ∈ lw_tbl ∧ Cond.instantiable RX3 9 ∈ lw_tbl ∧ Cond.instantiable RX4 3 ∈ lw_tbl ∧ Cond.instantiable RX5 9 ∈ lw_tbl ∧ Cond.instantiable RX6 8 ∈ lw_tbl ∧ Cond.instantiable RX7 7 ∈ lw_tbl ∧ Cond.instantiable RX8 6 ∈ lw_tbl ∧ Cond.instantiable RX9 5 ∈ lw_tbl ∧ Cond.instantiable RX10 9 ∈ lw_tbl ∧ Cond.instantiable RX11 37 ∈ lw_tbl := by decide +kernel
set_option maxRecDepth 100000 in
theorem st_ar : Cond.arrayClass .int ∈ lw_tbl ∧ Cond.arrayClass .byte ∈ lw_tbl ∧ Cond.arrayClass .boolean ∈ lw_tbl ∧ Cond.arrayClass .long ∈ lw_tbl ∧ Cond.arrayOver (.object RX0) ∈ lw_tbl ∧ Cond.arrayOver (.object RX2) ∈ lw_tbl := by decide +kernel
theorem st_cls {s : State} {args : Array Value} (hts : ∀ w ∈ lw_tbl, w.before args s = true) : ∃ (dC : Nat → ClassId) (dI : Nat → Nat → Nat), ∀ (k : Nat) (q : vw_C), vwCl[k]? = some q → u_Kn s q.1 q.2.1 q.2.2 (dC k) (dI k) := by
  obtain ⟨i0, i1, i2, i3, i4, i5, i6, i7, i8, i9, i10, i11⟩ := st_in
  obtain ⟨c0, I0, h0⟩ := u_known (C := RX0) (T := TX0) (N := 6) (n := 6) hts g_ws0 (hts _ i0)
  obtain ⟨c1, I1, h1⟩ := u_known (C := RX1) (T := TX1) (N := 7) (n := 7) hts g_ws1 (hts _ i1)
  obtain ⟨c2, I2, h2⟩ := u_known (C := RX2) (T := TX2) (N := 4) (n := 4) hts g_ws2 (hts _ i2)
  obtain ⟨c3, I3, h3⟩ := u_known (C := RX3) (T := TX3) (N := 9) (n := 9) hts g_ws3 (hts _ i3)
  obtain ⟨c4, I4, h4⟩ := u_known (C := RX4) (T := TX4) (N := 3) (n := 3) hts g_ws4 (hts _ i4)
  obtain ⟨c5, I5, h5⟩ := u_known (C := RX5) (T := TX5) (N := 9) (n := 9) hts g_ws5 (hts _ i5)
  obtain ⟨c6, I6, h6⟩ := u_known (C := RX6) (T := TX6) (N := 8) (n := 8) hts g_ws6 (hts _ i6)
  obtain ⟨c7, I7, h7⟩ := u_known (C := RX7) (T := TX7) (N := 7) (n := 7) hts g_ws7 (hts _ i7)
  obtain ⟨c8, I8, h8⟩ := u_known (C := RX8) (T := TX8) (N := 6) (n := 6) hts g_ws8 (hts _ i8)
  obtain ⟨c9, I9, h9⟩ := u_known (C := RX9) (T := TX9) (N := 5) (n := 5) hts g_ws9 (hts _ i9)
  obtain ⟨c10, I10, h10⟩ := u_known (C := RX10) (T := TX10) (N := 9) (n := 9) hts g_ws10 (hts _ i10)
  obtain ⟨c11, I11, h11⟩ := u_known (C := RX11) (T := TX11) (N := 37) (n := 37) hts g_ws11 (hts _ i11)
  refine ⟨fun k => match k with
    | 0 => c0 | 1 => c1 | 2 => c2 | 3 => c3 | 4 => c4 | 5 => c5 | 6 => c6 | 7 => c7 | 8 => c8 | 9 => c9 | 10 => c10 | _ => c11,
    fun k => match k with
    | 0 => I0 | 1 => I1 | 2 => I2 | 3 => I3 | 4 => I4 | 5 => I5 | 6 => I6 | 7 => I7 | 8 => I8 | 9 => I9 | 10 => I10 | _ => I11, ?_⟩
  intro k q hq
  match k, hq with
  | 0, hq => cases hq; exact h0
  | 1, hq => cases hq; exact h1
  | 2, hq => cases hq; exact h2
  | 3, hq => cases hq; exact h3
  | 4, hq => cases hq; exact h4
  | 5, hq => cases hq; exact h5
  | 6, hq => cases hq; exact h6
  | 7, hq => cases hq; exact h7
  | 8, hq => cases hq; exact h8
  | 9, hq => cases hq; exact h9
  | 10, hq => cases hq; exact h10
  | 11, hq => cases hq; exact h11
  | k + 12, hq => simp [vwCl] at hq
theorem st_prim {s : State} {args : Array Value} {ty : FieldType} (h : (Cond.arrayClass ty).before args s = true) (hp : ∀ C, ty ≠ .object C) : ∃ cA : ClassId, ArrOfT s cA ty ∧ va_RA s cA ty := by
  obtain ⟨c, k, comp, h1, h2, h3⟩ := Cond.arrayClass_spec (args := args) (first := s) (o := none) (s := s) (idx := []) h
  refine ⟨c, fun n z => ⟨fun k h => (by cases h), k, h2, comp, h3⟩, ?_⟩
  cases ty with
  | object C => exact absurd rfl (hp C)
  | _ => exact h1
theorem st_obj {s : State} {args : Array Value} {C : String} (h : (Cond.arrayOver (.object C)).before args s = true) : ∃ cA : ClassId, ArrOfT s cA (.object C) ∧ va_RA s cA (.object C) := by
  obtain ⟨comp, c, k, h1, -, h2, h3, h4⟩ := Cond.arrayOver_spec (args := args) (first := s) (o := none) (s := s) (idx := []) h
  exact ⟨c, fun n z => ⟨fun k h => (by cases h), k, h2, comp, h3⟩, k, comp, h2, h3, h1, h4⟩
/-- the environment of a run of the law on the script xs -/
theorem start_env {s : State} {b L : Nat} {xs : Nat → Int32} {args : Array Value} (hts : ∀ w ∈ lw_tbl, w.before args s = true) (hgv : (Jvm.Cond.and given_1 narrow_1).before args s = true) (hX : va_X b L xs s s.heap) :
    ∃ E : GE, g_H E = s.heap ∧ g_K E s ∧ (∀ U, E.2.2.2.2.2 U → x_Z E U) ∧ ∀ U, E.2.2.2.2.2 U → va_X b L xs U (g_H E) := by
  have hf := flat_of_before _ hgv
  have hA : ∀ a : Nat, a < s.heap.size → ¬ (s.heap.size ≤ a) := fun a h => Nat.not_le.mpr h
  obtain ⟨dC, dI, hC⟩ := st_cls hts
  obtain ⟨a0, a1, a2, a3, a4, a5⟩ := st_ar
  obtain ⟨t0, p0⟩ := st_prim (hts _ a0) (fun C h => by cases h)
  obtain ⟨t1, p1⟩ := st_prim (hts _ a1) (fun C h => by cases h)
  obtain ⟨t2, p2⟩ := st_prim (hts _ a2) (fun C h => by cases h)
  obtain ⟨t3, p3⟩ := st_prim (hts _ a3) (fun C h => by cases h)
  obtain ⟨t4, p4⟩ := st_obj (hts _ a4)
  obtain ⟨t5, p5⟩ := st_obj (hts _ a5)
  obtain ⟨adK, adV, hS, hE⟩ := vk_Sof (args := args) (s := s) (N := 19) (tm := st_tm) (len := g_len) (byt := g_byt) (A := fun q => s.heap.size ≤ q) st_len (fun i hi => hf _ (st_hex i hi)) (fun i hi => hf _ (st_hco i hi)) (fun i hi => hf _ (st_har i hi)) (fun i hi => hf _ (st_hle i hi)) (fun i hi j hj => hf _ (st_hel i hi j hj)) (fun i j hi hj hij => (st_hne i hi j hj hij).imp (fun h => hf _ h) (fun h => hf _ h)) hA
  obtain ⟨⟨l1, l2⟩, ⟨l3, l4⟩, l5, l6, l7⟩ := st_ls
  have z1 := va_Zof (A := fun q => s.heap.size ≤ q) (hts _ l1) (hts _ l2) (va_eqi (hf _ st_cs)) hA
  have z2 := va_Zqof (A := fun q => s.heap.size ≤ q) (hts _ l3) (hts _ l4) (hf _ st_fm) hA
  have z3 := vx_Zqof (A := fun q => s.heap.size ≤ q) (hts _ l5) (hts _ l7) (hf _ st_us.1) hA
  have z4 := vx_Zqof (A := fun q => s.heap.size ≤ q) (hts _ l6) (hts _ l7) (hf _ st_us.2) hA
  refine ⟨((dC, dI), (fun k => match k with | 0 => t0 | 1 => t1 | 2 => t2 | 3 => t3 | 4 => t4 | _ => t5), s.heap, adK, adV, fun U => (vx_Zq Bundle.tN "UNASSIGNED_STACK" Bundle.steD (fun q => s.heap.size ≤ q) U s.heap ∧ vx_Zq Bundle.tN "SUPPRESSED_SENTINEL" Bundle.listD (fun q => s.heap.size ≤ q) U s.heap) ∧ va_X b L xs U s.heap), rfl, ⟨⟨hC, ?_⟩, ⟨?_, hS, z1, z2⟩, va_AO.of (hts _ a4), va_AO.of (hts _ a5), ⟨⟨z3, z4⟩, hX⟩, ?_, ?_⟩, fun U h => h.1, fun U h => h.2⟩
  · intro k q hk
    match k, hk with
    | 0, hk => cases hk; exact p0
    | 1, hk => cases hk; exact p1
    | 2, hk => cases hk; exact p2
    | 3, hk => cases hk; exact p3
    | 4, hk => cases hk; exact p4
    | 5, hk => cases hk; exact p5
    | k + 6, hk => simp [g_tys] at hk
  · intro j q hj
    have hlt : j < 19 := (List.getElem?_eq_some_iff.mp hj).1
    have hq : g_strs.getD j ("", 0, "") = q := by rw [List.getD_eq_getElem?_getD, hj]; rfl
    have h1 := hts _ (st_ref j hlt)
    have h2 := hE j hlt
    unfold st_tm at h2
    rw [hq] at h1 h2
    exact vk_R.of h1 h2
  · intro u U hW h
    exact ⟨⟨vx_Zq.moved hW.alike h.1.1, vx_Zq.moved hW.alike h.1.2⟩, va_X.moved hW.alike h.2⟩
  · intro u U hW h
    have hv : u.vm.Alike U.vm := by rw [hW]; exact Vm.Alike.refl _
    exact ⟨⟨vx_Zq.moved hv h.1.1, vx_Zq.moved hv h.1.2⟩, va_X.moved hv h.2⟩
