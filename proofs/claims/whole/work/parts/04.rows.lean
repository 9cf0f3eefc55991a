/-! One-instruction rows of WG. -/
abbrev dec (ln : Nat) (cc : ByteArray) (pc : Nat) (i : Instr) (nx : Nat) : Prop := decode cc pc = .ok (i, ln) ∧ pc + ln = nx
abbrev decB (cc : ByteArray) (pc : Nat) (i : Instr) (off : Int) (nx tg : Nat) : Prop := decode cc pc = .ok (i, 3) ∧ pc + 3 = nx ∧ (pc : Int) + off = (tg : Int)
abbrev decIL (cc : ByteArray) (pc i nx : Nat) : Prop := (decode cc pc = .ok (.iload i, 2) ∧ pc + 2 = nx) ∨ ∃ k : Fin 4, (k : Nat) = i ∧ decode cc pc = .ok (.iload_n k, 1) ∧ pc + 1 = nx
abbrev decLL (cc : ByteArray) (pc i nx : Nat) : Prop := (decode cc pc = .ok (.lload i, 2) ∧ pc + 2 = nx) ∨ ∃ k : Fin 4, (k : Nat) = i ∧ decode cc pc = .ok (.lload_n k, 1) ∧ pc + 1 = nx
abbrev decAL (cc : ByteArray) (pc i nx : Nat) : Prop := (decode cc pc = .ok (.aload i, 2) ∧ pc + 2 = nx) ∨ ∃ k : Fin 4, (k : Nat) = i ∧ decode cc pc = .ok (.aload_n k, 1) ∧ pc + 1 = nx
abbrev decIS (cc : ByteArray) (pc i nx : Nat) : Prop := (decode cc pc = .ok (.istore i, 2) ∧ pc + 2 = nx) ∨ ∃ k : Fin 4, (k : Nat) = i ∧ decode cc pc = .ok (.istore_n k, 1) ∧ pc + 1 = nx
abbrev decLS (cc : ByteArray) (pc i nx : Nat) : Prop := (decode cc pc = .ok (.lstore i, 2) ∧ pc + 2 = nx) ∨ ∃ k : Fin 4, (k : Nat) = i ∧ decode cc pc = .ok (.lstore_n k, 1) ∧ pc + 1 = nx
abbrev decAS (cc : ByteArray) (pc i nx : Nat) : Prop := (decode cc pc = .ok (.astore i, 2) ∧ pc + 2 = nx) ∨ ∃ k : Fin 4, (k : Nat) = i ∧ decode cc pc = .ok (.astore_n k, 1) ∧ pc + 1 = nx
def g_c1 (lv : List (Nat × Value)) (i : Nat) : Bool := match i with
  | 0 => true
  | j + 1 => match g_lk lv j with
    | some v => Nat.beq v.category 1
    | none => true
theorem g_lv_at {ls : Array Slot} {mL : Nat} {lv : List (Nat × Value)} (h : g_lv ls mL lv) {i : Nat} {v : Value} (hv : g_lk lv i = some v) : ls[i]? = some (.val v) := by
  obtain ⟨k, h1, h2⟩ := h
  exact h1.2.2 _ (h2 i v hv)
theorem g_lv_st1 {ls' : Array Slot} {mL : Nat} {lv k : List (Nat × Value)} {i : Nat} {x : Value} (h2 : ∀ i v, g_lk lv i = some v → (i, v) ∈ k) (hc : g_c1 lv i = true) (h : lv_has ls' mL ((i, x) :: k.filter (fun q => !(q.1 == i) && !(q.1 + 1 == i && q.2.category == 2)))) : g_lv ls' mL ((i, x) :: lv) := by
  refine ⟨_, h, fun j v hj => ?_⟩
  unfold g_lk at hj
  cases hb : Nat.beq i j with
  | true =>
    dsimp only at hj
    rw [hb] at hj
    cases hj
    rw [← Nat.eq_of_beq_eq_true hb]
    exact List.mem_cons_self
  | false =>
    dsimp only at hj
    rw [hb] at hj
    have hne : ¬ j = i := fun z => by subst z; rw [Nat.beq_refl] at hb; cases hb
    refine List.mem_cons_of_mem _ (List.mem_filter.mpr ⟨h2 j v hj, ?_⟩)
    have h3 : ¬ (j + 1 = i ∧ v.category = 2) := by
      rintro ⟨rfl, h4⟩
      simp only [g_c1, hj, h4] at hc
      cases hc
    simp only [Bool.and_eq_true, Bool.not_eq_true', beq_eq_false_iff_ne, ne_eq, Bool.and_eq_false_iff]
    refine ⟨hne, ?_⟩
    by_cases h5 : j + 1 = i
    · exact Or.inr (fun z => h3 ⟨h5, z⟩)
    · exact Or.inl h5
theorem g_lv_st2 {ls' : Array Slot} {mL : Nat} {lv k : List (Nat × Value)} {i : Nat} {x : Value} (h2 : ∀ i v, g_lk lv i = some v → (i, v) ∈ k) (hc : g_c1 lv i = true) (hn : g_lk lv (i + 1) = none) (h : lv_has ls' mL ((i, x) :: k.filter (fun q => !(q.1 == i) && (!(q.1 == i + 1) && !(q.1 + 1 == i && q.2.category == 2))))) : g_lv ls' mL ((i, x) :: lv) := by
  refine ⟨_, h, fun j v hj => ?_⟩
  unfold g_lk at hj
  cases hb : Nat.beq i j with
  | true =>
    dsimp only at hj
    rw [hb] at hj
    cases hj
    rw [← Nat.eq_of_beq_eq_true hb]
    exact List.mem_cons_self
  | false =>
    dsimp only at hj
    rw [hb] at hj
    have hne : ¬ j = i := fun z => by subst z; rw [Nat.beq_refl] at hb; cases hb
    have hne2 : ¬ j = i + 1 := fun z => by subst z; rw [hn] at hj; cases hj
    refine List.mem_cons_of_mem _ (List.mem_filter.mpr ⟨h2 j v hj, ?_⟩)
    have h3 : ¬ (j + 1 = i ∧ v.category = 2) := by
      rintro ⟨rfl, h4⟩
      simp only [g_c1, hj, h4] at hc
      cases hc
    simp only [Bool.and_eq_true, Bool.not_eq_true', beq_eq_false_iff_ne, ne_eq, Bool.and_eq_false_iff]
    refine ⟨hne, hne2, ?_⟩
    by_cases h5 : j + 1 = i
    · exact Or.inr (fun z => h3 ⟨h5, z⟩)
    · exact Or.inl h5
def g_all : List (Nat × Value) → List (Nat × Value) → Prop
  | [], _ => True
  | q :: r, lv => g_lk lv q.1 = some q.2 ∧ g_all r lv
theorem g_all_at : ∀ {r lv : List (Nat × Value)}, g_all r lv → ∀ i v, g_lk r i = some v → g_lk lv i = some v
  | [], _, _, i, v, h => by cases h
  | q :: r, lv, ⟨h1, h2⟩, i, v, h => by
    unfold g_lk at h
    cases hb : Nat.beq q.1 i with
    | true =>
      rw [hb] at h
      cases h
      rw [← Nat.eq_of_beq_eq_true hb]
      exact h1
    | false =>
      rw [hb] at h
      exact g_all_at h2 i v h
section GR
variable {E : GE} {own nm : String} {cc : ByteArray} {mL : Nat} {ret : Option FieldType} {fr lo rc rs pc nx tg : Nat} {off : Int} {lv : List (Nat × Value)} {st : List Value} {n : Nat} {G : GH} {out : GQ}
theorem r_lv (lv' : List (Nat × Value)) (h : g_all lv' lv) (k : WG E own nm cc mL ret fr lo rc rs pc lv' st n G out) : WG E own nm cc mL ret fr lo rc rs pc lv st n G out := by
  intro p l e R s m args below meth c H locs cells slots ls C hc hs hr ho hv
  obtain ⟨kk, h1, h2⟩ := hv
  exact k p l e R s m args below meth c H locs cells slots ls C hc hs hr ho ⟨kk, h1, fun i v hi => h2 i v (g_all_at h i v hi)⟩
theorem r_iconst {z : Int} {v : Int32} (hd : dec 1 cc pc (.iconst z) nx) (hz : Int32.ofInt z = v) (k : WG E own nm cc mL ret fr lo rc rs nx lv (.int v :: st) n G out) : WG E own nm cc mL ret fr lo rc rs pc lv (st) n G out := by
  intro p l e R s m args below meth c H locs cells slots ls C hc hs hr ho hv
  obtain ⟨hd, rfl⟩ := hd
  exact lv_iconst C.1 C.2.1 hd hz (k p l e R s m args below meth c H locs cells slots ls C hc hs hr ho hv)
theorem r_bipush {z : Int} {v : Int32} (hd : dec 2 cc pc (.bipush z) nx) (hz : (Int8.ofInt z).toInt32 = v) (k : WG E own nm cc mL ret fr lo rc rs nx lv (.int v :: st) n G out) : WG E own nm cc mL ret fr lo rc rs pc lv (st) n G out := by
  intro p l e R s m args below meth c H locs cells slots ls C hc hs hr ho hv
  obtain ⟨hd, rfl⟩ := hd
  exact lv_bipush C.1 C.2.1 hd hz (k p l e R s m args below meth c H locs cells slots ls C hc hs hr ho hv)
theorem r_sipush {z : Int} {v : Int32} (hd : dec 3 cc pc (.sipush z) nx) (hz : (Int16.ofInt z).toInt32 = v) (k : WG E own nm cc mL ret fr lo rc rs nx lv (.int v :: st) n G out) : WG E own nm cc mL ret fr lo rc rs pc lv (st) n G out := by
  intro p l e R s m args below meth c H locs cells slots ls C hc hs hr ho hv
  obtain ⟨hd, rfl⟩ := hd
  exact lv_sipush C.1 C.2.1 hd hz (k p l e R s m args below meth c H locs cells slots ls C hc hs hr ho hv)
theorem r_lconst {z : Fin 2} {v : Int64} (hd : dec 1 cc pc (.lconst z) nx) (hz : Int64.ofNat (z : Nat) = v) (k : WG E own nm cc mL ret fr lo rc rs nx lv (.long v :: st) n G out) : WG E own nm cc mL ret fr lo rc rs pc lv (st) n G out := by
  intro p l e R s m args below meth c H locs cells slots ls C hc hs hr ho hv
  obtain ⟨hd, rfl⟩ := hd
  exact lv_lconst C.1 C.2.1 hd hz (k p l e R s m args below meth c H locs cells slots ls C hc hs hr ho hv)
theorem r_iadd {x y : Int32} (hd : dec 1 cc pc .iadd nx) (k : WG E own nm cc mL ret fr lo rc rs nx lv (.int (x + y) :: st) n G out) : WG E own nm cc mL ret fr lo rc rs pc lv (.int y :: .int x :: st) n G out := by
  intro p l e R s m args below meth c H locs cells slots ls C hc hs hr ho hv
  obtain ⟨hd, rfl⟩ := hd
  exact lv_iadd C.1 C.2.1 hd (k p l e R s m args below meth c H locs cells slots ls C hc hs hr ho hv)
theorem r_isub {x y : Int32} (hd : dec 1 cc pc .isub nx) (k : WG E own nm cc mL ret fr lo rc rs nx lv (.int (x - y) :: st) n G out) : WG E own nm cc mL ret fr lo rc rs pc lv (.int y :: .int x :: st) n G out := by
  intro p l e R s m args below meth c H locs cells slots ls C hc hs hr ho hv
  obtain ⟨hd, rfl⟩ := hd
  exact lv_isub C.1 C.2.1 hd (k p l e R s m args below meth c H locs cells slots ls C hc hs hr ho hv)
theorem r_imul {x y : Int32} (hd : dec 1 cc pc .imul nx) (k : WG E own nm cc mL ret fr lo rc rs nx lv (.int (x * y) :: st) n G out) : WG E own nm cc mL ret fr lo rc rs pc lv (.int y :: .int x :: st) n G out := by
  intro p l e R s m args below meth c H locs cells slots ls C hc hs hr ho hv
  obtain ⟨hd, rfl⟩ := hd
  exact lv_imul C.1 C.2.1 hd (k p l e R s m args below meth c H locs cells slots ls C hc hs hr ho hv)
theorem r_iand {x y : Int32} (hd : dec 1 cc pc .iand nx) (k : WG E own nm cc mL ret fr lo rc rs nx lv (.int (x &&& y) :: st) n G out) : WG E own nm cc mL ret fr lo rc rs pc lv (.int y :: .int x :: st) n G out := by
  intro p l e R s m args below meth c H locs cells slots ls C hc hs hr ho hv
  obtain ⟨hd, rfl⟩ := hd
  exact lv_iand C.1 C.2.1 hd (k p l e R s m args below meth c H locs cells slots ls C hc hs hr ho hv)
theorem r_ior {x y : Int32} (hd : dec 1 cc pc .ior nx) (k : WG E own nm cc mL ret fr lo rc rs nx lv (.int (x ||| y) :: st) n G out) : WG E own nm cc mL ret fr lo rc rs pc lv (.int y :: .int x :: st) n G out := by
  intro p l e R s m args below meth c H locs cells slots ls C hc hs hr ho hv
  obtain ⟨hd, rfl⟩ := hd
  exact lv_ior C.1 C.2.1 hd (k p l e R s m args below meth c H locs cells slots ls C hc hs hr ho hv)
theorem r_ixor {x y : Int32} (hd : dec 1 cc pc .ixor nx) (k : WG E own nm cc mL ret fr lo rc rs nx lv (.int (x ^^^ y) :: st) n G out) : WG E own nm cc mL ret fr lo rc rs pc lv (.int y :: .int x :: st) n G out := by
  intro p l e R s m args below meth c H locs cells slots ls C hc hs hr ho hv
  obtain ⟨hd, rfl⟩ := hd
  exact lv_ixor C.1 C.2.1 hd (k p l e R s m args below meth c H locs cells slots ls C hc hs hr ho hv)
theorem r_ishl {x y : Int32} (hd : dec 1 cc pc .ishl nx) (k : WG E own nm cc mL ret fr lo rc rs nx lv (.int (x <<< (y &&& 31)) :: st) n G out) : WG E own nm cc mL ret fr lo rc rs pc lv (.int y :: .int x :: st) n G out := by
  intro p l e R s m args below meth c H locs cells slots ls C hc hs hr ho hv
  obtain ⟨hd, rfl⟩ := hd
  exact lv_ishl C.1 C.2.1 hd (k p l e R s m args below meth c H locs cells slots ls C hc hs hr ho hv)
theorem r_ishr {x y : Int32} (hd : dec 1 cc pc .ishr nx) (k : WG E own nm cc mL ret fr lo rc rs nx lv (.int (x >>> (y &&& 31)) :: st) n G out) : WG E own nm cc mL ret fr lo rc rs pc lv (.int y :: .int x :: st) n G out := by
  intro p l e R s m args below meth c H locs cells slots ls C hc hs hr ho hv
  obtain ⟨hd, rfl⟩ := hd
  exact lv_ishr C.1 C.2.1 hd (k p l e R s m args below meth c H locs cells slots ls C hc hs hr ho hv)
theorem r_idiv {x y : Int32} (hd : dec 1 cc pc .idiv nx) (hz : ¬ y = 0) (k : WG E own nm cc mL ret fr lo rc rs nx lv (.int (x / y) :: st) n G out) : WG E own nm cc mL ret fr lo rc rs pc lv (.int y :: .int x :: st) n G out := by
  intro p l e R s m args below meth c H locs cells slots ls C hc hs hr ho hv
  obtain ⟨hd, rfl⟩ := hd
  exact lv_idiv C.1 C.2.1 hd hz (k p l e R s m args below meth c H locs cells slots ls C hc hs hr ho hv)
theorem r_irem {x y : Int32} (hd : dec 1 cc pc .irem nx) (hz : ¬ y = 0) (k : WG E own nm cc mL ret fr lo rc rs nx lv (.int (x - x / y * y) :: st) n G out) : WG E own nm cc mL ret fr lo rc rs pc lv (.int y :: .int x :: st) n G out := by
  intro p l e R s m args below meth c H locs cells slots ls C hc hs hr ho hv
  obtain ⟨hd, rfl⟩ := hd
  exact lv_irem C.1 C.2.1 hd hz (k p l e R s m args below meth c H locs cells slots ls C hc hs hr ho hv)
theorem r_land {x y : Int64} (hd : dec 1 cc pc .land nx) (k : WG E own nm cc mL ret fr lo rc rs nx lv (.long (x &&& y) :: st) n G out) : WG E own nm cc mL ret fr lo rc rs pc lv (.long y :: .long x :: st) n G out := by
  intro p l e R s m args below meth c H locs cells slots ls C hc hs hr ho hv
  obtain ⟨hd, rfl⟩ := hd
  exact lv_land C.1 C.2.1 hd (k p l e R s m args below meth c H locs cells slots ls C hc hs hr ho hv)
theorem r_lor {x y : Int64} (hd : dec 1 cc pc .lor nx) (k : WG E own nm cc mL ret fr lo rc rs nx lv (.long (x ||| y) :: st) n G out) : WG E own nm cc mL ret fr lo rc rs pc lv (.long y :: .long x :: st) n G out := by
  intro p l e R s m args below meth c H locs cells slots ls C hc hs hr ho hv
  obtain ⟨hd, rfl⟩ := hd
  exact lv_lor C.1 C.2.1 hd (k p l e R s m args below meth c H locs cells slots ls C hc hs hr ho hv)
theorem r_lxor {x y : Int64} (hd : dec 1 cc pc .lxor nx) (k : WG E own nm cc mL ret fr lo rc rs nx lv (.long (x ^^^ y) :: st) n G out) : WG E own nm cc mL ret fr lo rc rs pc lv (.long y :: .long x :: st) n G out := by
  intro p l e R s m args below meth c H locs cells slots ls C hc hs hr ho hv
  obtain ⟨hd, rfl⟩ := hd
  exact lv_lxor C.1 C.2.1 hd (k p l e R s m args below meth c H locs cells slots ls C hc hs hr ho hv)
theorem r_ineg {x : Int32} (hd : dec 1 cc pc .ineg nx) (k : WG E own nm cc mL ret fr lo rc rs nx lv (.int (-x) :: st) n G out) : WG E own nm cc mL ret fr lo rc rs pc lv (.int x :: st) n G out := by
  intro p l e R s m args below meth c H locs cells slots ls C hc hs hr ho hv
  obtain ⟨hd, rfl⟩ := hd
  exact lv_ineg C.1 C.2.1 hd (k p l e R s m args below meth c H locs cells slots ls C hc hs hr ho hv)
theorem r_lneg {x : Int64} (hd : dec 1 cc pc .lneg nx) (k : WG E own nm cc mL ret fr lo rc rs nx lv (.long (-x) :: st) n G out) : WG E own nm cc mL ret fr lo rc rs pc lv (.long x :: st) n G out := by
  intro p l e R s m args below meth c H locs cells slots ls C hc hs hr ho hv
  obtain ⟨hd, rfl⟩ := hd
  exact lv_lneg C.1 C.2.1 hd (k p l e R s m args below meth c H locs cells slots ls C hc hs hr ho hv)
theorem r_i2l {x : Int32} (hd : dec 1 cc pc .i2l nx) (k : WG E own nm cc mL ret fr lo rc rs nx lv (.long x.toInt64 :: st) n G out) : WG E own nm cc mL ret fr lo rc rs pc lv (.int x :: st) n G out := by
  intro p l e R s m args below meth c H locs cells slots ls C hc hs hr ho hv
  obtain ⟨hd, rfl⟩ := hd
  exact lv_i2l C.1 C.2.1 hd rfl (k p l e R s m args below meth c H locs cells slots ls C hc hs hr ho hv)
theorem r_l2i {x : Int64} (hd : dec 1 cc pc .l2i nx) (k : WG E own nm cc mL ret fr lo rc rs nx lv (.int x.toInt32 :: st) n G out) : WG E own nm cc mL ret fr lo rc rs pc lv (.long x :: st) n G out := by
  intro p l e R s m args below meth c H locs cells slots ls C hc hs hr ho hv
  obtain ⟨hd, rfl⟩ := hd
  exact lv_l2i C.1 C.2.1 hd rfl (k p l e R s m args below meth c H locs cells slots ls C hc hs hr ho hv)
theorem r_i2b {x : Int32} (hd : dec 1 cc pc .i2b nx) (k : WG E own nm cc mL ret fr lo rc rs nx lv (.int x.toInt8.toInt32 :: st) n G out) : WG E own nm cc mL ret fr lo rc rs pc lv (.int x :: st) n G out := by
  intro p l e R s m args below meth c H locs cells slots ls C hc hs hr ho hv
  obtain ⟨hd, rfl⟩ := hd
  exact lv_i2b C.1 C.2.1 hd rfl (k p l e R s m args below meth c H locs cells slots ls C hc hs hr ho hv)
theorem r_lushr {x : Int64} {y : Int32} (hd : dec 1 cc pc .lushr nx) (k : WG E own nm cc mL ret fr lo rc rs nx lv (.long (x.toUInt64 >>> (y.toInt64.toUInt64 &&& Int64.toUInt64 63)).toInt64 :: st) n G out) : WG E own nm cc mL ret fr lo rc rs pc lv (.int y :: .long x :: st) n G out := by
  intro p l e R s m args below meth c H locs cells slots ls C hc hs hr ho hv
  obtain ⟨hd, rfl⟩ := hd
  exact lv_lushr C.1 C.2.1 hd rfl (k p l e R s m args below meth c H locs cells slots ls C hc hs hr ho hv)
theorem r_lshl {x : Int64} {y : Int32} (hd : dec 1 cc pc .lshl nx) (k : WG E own nm cc mL ret fr lo rc rs nx lv (.long (x <<< (y.toInt64 &&& 63)) :: st) n G out) : WG E own nm cc mL ret fr lo rc rs pc lv (.int y :: .long x :: st) n G out := by
  intro p l e R s m args below meth c H locs cells slots ls C hc hs hr ho hv
  obtain ⟨hd, rfl⟩ := hd
  exact lv_lshl C.1 C.2.1 hd rfl (k p l e R s m args below meth c H locs cells slots ls C hc hs hr ho hv)
theorem r_lshr {x : Int64} {y : Int32} (hd : dec 1 cc pc .lshr nx) (k : WG E own nm cc mL ret fr lo rc rs nx lv (.long (x >>> (y.toInt64 &&& 63)) :: st) n G out) : WG E own nm cc mL ret fr lo rc rs pc lv (.int y :: .long x :: st) n G out := by
  intro p l e R s m args below meth c H locs cells slots ls C hc hs hr ho hv
  obtain ⟨hd, rfl⟩ := hd
  exact lv_lshr C.1 C.2.1 hd rfl (k p l e R s m args below meth c H locs cells slots ls C hc hs hr ho hv)
theorem r_lcmp {x y : Int64} (hd : dec 1 cc pc .lcmp nx) (k : WG E own nm cc mL ret fr lo rc rs nx lv (.int (lg_cmp x y) :: st) n G out) : WG E own nm cc mL ret fr lo rc rs pc lv (.long y :: .long x :: st) n G out := by
  intro p l e R s m args below meth c H locs cells slots ls C hc hs hr ho hv
  obtain ⟨hd, rfl⟩ := hd
  exact W.lcmp C.1 C.2.1 hd (k p l e R s m args below meth c H locs cells slots ls C hc hs hr ho hv)
theorem r_dup {v : Value} (hd : dec 1 cc pc .dup nx) (hz : v.category = 1) (k : WG E own nm cc mL ret fr lo rc rs nx lv (v :: v :: st) n G out) : WG E own nm cc mL ret fr lo rc rs pc lv (v :: st) n G out := by
  intro p l e R s m args below meth c H locs cells slots ls C hc hs hr ho hv
  obtain ⟨hd, rfl⟩ := hd
  exact lv_dup C.1 C.2.1 hd hz (k p l e R s m args below meth c H locs cells slots ls C hc hs hr ho hv)
theorem r_dup2 {v w : Value} (hd : dec 1 cc pc .dup2 nx) (hz : v.category = 1) (hz2 : w.category = 1) (k : WG E own nm cc mL ret fr lo rc rs nx lv (v :: w :: v :: w :: st) n G out) : WG E own nm cc mL ret fr lo rc rs pc lv (v :: w :: st) n G out := by
  intro p l e R s m args below meth c H locs cells slots ls C hc hs hr ho hv
  obtain ⟨hd, rfl⟩ := hd
  exact lv_dup2_11 C.1 C.2.1 hd hz hz2 (k p l e R s m args below meth c H locs cells slots ls C hc hs hr ho hv)
theorem r_iload {i : Nat} {x : Int32} (hd : decIL cc pc i nx) (hl : g_lk lv i = some (.int x)) (k : WG E own nm cc mL ret fr lo rc rs nx lv (.int x :: st) n G out) : WG E own nm cc mL ret fr lo rc rs pc lv st n G out := by
  intro p l e R s m args below meth c H locs cells slots ls C hc hs hr ho hv
  rcases hd with ⟨hd, rfl⟩ | ⟨f, rfl, hd, rfl⟩
  · exact lv_iload C.1 C.2.1 hd (g_lv_at hv hl) (k p l e R s m args below meth c H locs cells slots ls C hc hs hr ho hv)
  · exact lv_iload_n C.1 C.2.1 hd rfl (g_lv_at hv hl) (k p l e R s m args below meth c H locs cells slots ls C hc hs hr ho hv)
theorem r_lload {i : Nat} {x : Int64} (hd : decLL cc pc i nx) (hl : g_lk lv i = some (.long x)) (k : WG E own nm cc mL ret fr lo rc rs nx lv (.long x :: st) n G out) : WG E own nm cc mL ret fr lo rc rs pc lv st n G out := by
  intro p l e R s m args below meth c H locs cells slots ls C hc hs hr ho hv
  rcases hd with ⟨hd, rfl⟩ | ⟨f, rfl, hd, rfl⟩
  · exact lv_lload C.1 C.2.1 hd (g_lv_at hv hl) (k p l e R s m args below meth c H locs cells slots ls C hc hs hr ho hv)
  · exact lv_lload_n C.1 C.2.1 hd rfl (g_lv_at hv hl) (k p l e R s m args below meth c H locs cells slots ls C hc hs hr ho hv)
theorem r_aload {i : Nat} {x : Nat} (hd : decAL cc pc i nx) (hl : g_lk lv i = some (.ref x)) (k : WG E own nm cc mL ret fr lo rc rs nx lv (.ref x :: st) n G out) : WG E own nm cc mL ret fr lo rc rs pc lv st n G out := by
  intro p l e R s m args below meth c H locs cells slots ls C hc hs hr ho hv
  rcases hd with ⟨hd, rfl⟩ | ⟨f, rfl, hd, rfl⟩
  · exact lv_aload C.1 C.2.1 hd (g_lv_at hv hl) (k p l e R s m args below meth c H locs cells slots ls C hc hs hr ho hv)
  · exact lv_aload_n C.1 C.2.1 hd rfl (g_lv_at hv hl) (k p l e R s m args below meth c H locs cells slots ls C hc hs hr ho hv)
theorem r_istore {i : Nat} {x : Int32} (hd : decIS cc pc i nx) (hn : Nat.blt i mL = true) (h3 : g_c1 lv i = true) (k : WG E own nm cc mL ret fr lo rc rs nx ((i, .int x) :: lv) st n G out) : WG E own nm cc mL ret fr lo rc rs pc lv (.int x :: st) n G out := by
  intro p l e R s m args below meth c H locs cells slots ls C hc hs hr ho hv
  obtain ⟨kl, h1, h2⟩ := hv
  have hn' : i < mL := Nat.le_of_ble_eq_true hn
  rcases hd with ⟨hd, rfl⟩ | ⟨f, rfl, hd, rfl⟩
  · exact lv_istore C.1 C.2.1 hd h1 hn' rfl (fun ls' h' => k p l e R s m args below meth c H locs cells slots ls' C hc hs hr ho (g_lv_st1 h2 h3 h'))
  · exact lv_istore_n C.1 C.2.1 hd rfl h1 hn' rfl (fun ls' h' => k p l e R s m args below meth c H locs cells slots ls' C hc hs hr ho (g_lv_st1 h2 h3 h'))
theorem r_astore {i : Nat} {x : Nat} (hd : decAS cc pc i nx) (hn : Nat.blt i mL = true) (h3 : g_c1 lv i = true) (k : WG E own nm cc mL ret fr lo rc rs nx ((i, .ref x) :: lv) st n G out) : WG E own nm cc mL ret fr lo rc rs pc lv (.ref x :: st) n G out := by
  intro p l e R s m args below meth c H locs cells slots ls C hc hs hr ho hv
  obtain ⟨kl, h1, h2⟩ := hv
  have hn' : i < mL := Nat.le_of_ble_eq_true hn
  rcases hd with ⟨hd, rfl⟩ | ⟨f, rfl, hd, rfl⟩
  · exact lv_astore C.1 C.2.1 hd h1 hn' rfl (fun ls' h' => k p l e R s m args below meth c H locs cells slots ls' C hc hs hr ho (g_lv_st1 h2 h3 h'))
  · exact lv_astore_n C.1 C.2.1 hd rfl h1 hn' rfl (fun ls' h' => k p l e R s m args below meth c H locs cells slots ls' C hc hs hr ho (g_lv_st1 h2 h3 h'))
theorem r_lstore {i : Nat} {x : Int64} (hd : decLS cc pc i nx) (hn : Nat.blt (i + 1) mL = true) (h3 : g_c1 lv i = true) (hn2 : g_lk lv (i + 1) = none) (k : WG E own nm cc mL ret fr lo rc rs nx ((i, .long x) :: lv) st n G out) : WG E own nm cc mL ret fr lo rc rs pc lv (.long x :: st) n G out := by
  intro p l e R s m args below meth c H locs cells slots ls C hc hs hr ho hv
  obtain ⟨kl, h1, h2⟩ := hv
  have hn' : (i + 1) < mL := Nat.le_of_ble_eq_true hn
  rcases hd with ⟨hd, rfl⟩ | ⟨f, rfl, hd, rfl⟩
  · exact lv_lstore C.1 C.2.1 hd h1 hn' rfl (fun ls' h' => k p l e R s m args below meth c H locs cells slots ls' C hc hs hr ho (g_lv_st2 h2 h3 hn2 h'))
  · exact lv_lstore_n C.1 C.2.1 hd rfl h1 hn' rfl (fun ls' h' => k p l e R s m args below meth c H locs cells slots ls' C hc hs hr ho (g_lv_st2 h2 h3 hn2 h'))
theorem r_iinc {i : Nat} {z : Int} {x v : Int32} (hd : dec 3 cc pc (.iinc i z) nx) (hl : g_lk lv i = some (.int x)) (hz : x + Int32.ofInt z = v) (hn : Nat.blt i mL = true) (h3 : g_c1 lv i = true) (k : WG E own nm cc mL ret fr lo rc rs nx ((i, .int v) :: lv) st n G out) : WG E own nm cc mL ret fr lo rc rs pc lv st n G out := by
  intro p l e R s m args below meth c H locs cells slots ls C hc hs hr ho hv
  obtain ⟨kl, h1, h2⟩ := hv
  obtain ⟨hd, rfl⟩ := hd
  obtain ⟨j, hj⟩ := List.getElem?_of_mem (h2 _ _ hl)
  exact lv_iinc C.1 C.2.1 hd h1 hj hz (Nat.le_of_ble_eq_true hn) rfl (fun ls' h' => k p l e R s m args below meth c H locs cells slots ls' C hc hs hr ho (g_lv_st1 h2 h3 h'))
theorem r_goto (hd : decB cc pc (.goto off) off nx tg) (k : WG E own nm cc mL ret fr lo rc rs tg lv st n G out) : WG E own nm cc mL ret fr lo rc rs pc lv st n G out := by
  intro p l e R s m args below meth c H locs cells slots ls C hc hs hr ho hv
  exact lv_goto C.1 C.2.1 hd.1 hd.2.2 (k p l e R s m args below meth c H locs cells slots ls C hc hs hr ho hv)
theorem r_if_eq {x : Int32} {X : Type} {A B : Option X} {z : X} (h : (if x = 0 then A else B) = some z) (hd : decB cc pc (.ifCond .eq off) off nx tg) (kt : A = some z → WG E own nm cc mL ret fr lo rc rs tg lv st n G out) (kf : B = some z → WG E own nm cc mL ret fr lo rc rs nx lv st n G out) : WG E own nm cc mL ret fr lo rc rs pc lv (.int x :: st) n G out := by
  intro p l e R s m args below meth c H locs cells slots ls C hc hs hr ho hv
  obtain ⟨h1, rfl, h2⟩ := hd
  exact lv_if_eq C.1 C.2.1 h1 h2 (fun hq => kt (by rw [if_pos hq] at h; exact h) p l e R s m args below meth c H locs cells slots ls C hc hs hr ho hv) (fun hq => kf (by rw [if_neg hq] at h; exact h) p l e R s m args below meth c H locs cells slots ls C hc hs hr ho hv)
theorem r_icmp_eq {x y : Int32} {X : Type} {A B : Option X} {z : X} (h : (if x = y then A else B) = some z) (hd : decB cc pc (.if_icmp .eq off) off nx tg) (kt : A = some z → WG E own nm cc mL ret fr lo rc rs tg lv st n G out) (kf : B = some z → WG E own nm cc mL ret fr lo rc rs nx lv st n G out) : WG E own nm cc mL ret fr lo rc rs pc lv (.int y :: .int x :: st) n G out := by
  intro p l e R s m args below meth c H locs cells slots ls C hc hs hr ho hv
  obtain ⟨h1, rfl, h2⟩ := hd
  exact lv_icmp_eq C.1 C.2.1 h1 h2 (fun hq => kt (by rw [if_pos hq] at h; exact h) p l e R s m args below meth c H locs cells slots ls C hc hs hr ho hv) (fun hq => kf (by rw [if_neg hq] at h; exact h) p l e R s m args below meth c H locs cells slots ls C hc hs hr ho hv)
theorem r_if_ne {x : Int32} {X : Type} {A B : Option X} {z : X} (h : (if x = 0 then A else B) = some z) (hd : decB cc pc (.ifCond .ne off) off nx tg) (kt : B = some z → WG E own nm cc mL ret fr lo rc rs tg lv st n G out) (kf : A = some z → WG E own nm cc mL ret fr lo rc rs nx lv st n G out) : WG E own nm cc mL ret fr lo rc rs pc lv (.int x :: st) n G out := by
  intro p l e R s m args below meth c H locs cells slots ls C hc hs hr ho hv
  obtain ⟨h1, rfl, h2⟩ := hd
  exact lv_if_ne C.1 C.2.1 h1 h2 (fun hq => kt (by rw [if_neg hq] at h; exact h) p l e R s m args below meth c H locs cells slots ls C hc hs hr ho hv) (fun hq => kf (by rw [if_pos hq] at h; exact h) p l e R s m args below meth c H locs cells slots ls C hc hs hr ho hv)
theorem r_icmp_ne {x y : Int32} {X : Type} {A B : Option X} {z : X} (h : (if x = y then A else B) = some z) (hd : decB cc pc (.if_icmp .ne off) off nx tg) (kt : B = some z → WG E own nm cc mL ret fr lo rc rs tg lv st n G out) (kf : A = some z → WG E own nm cc mL ret fr lo rc rs nx lv st n G out) : WG E own nm cc mL ret fr lo rc rs pc lv (.int y :: .int x :: st) n G out := by
  intro p l e R s m args below meth c H locs cells slots ls C hc hs hr ho hv
  obtain ⟨h1, rfl, h2⟩ := hd
  exact lv_icmp_ne C.1 C.2.1 h1 h2 (fun hq => kt (by rw [if_neg hq] at h; exact h) p l e R s m args below meth c H locs cells slots ls C hc hs hr ho hv) (fun hq => kf (by rw [if_pos hq] at h; exact h) p l e R s m args below meth c H locs cells slots ls C hc hs hr ho hv)
theorem r_if_lt {x : Int32} {X : Type} {A B : Option X} {z : X} (h : (if x < 0 then A else B) = some z) (hd : decB cc pc (.ifCond .lt off) off nx tg) (kt : A = some z → WG E own nm cc mL ret fr lo rc rs tg lv st n G out) (kf : B = some z → WG E own nm cc mL ret fr lo rc rs nx lv st n G out) : WG E own nm cc mL ret fr lo rc rs pc lv (.int x :: st) n G out := by
  intro p l e R s m args below meth c H locs cells slots ls C hc hs hr ho hv
  obtain ⟨h1, rfl, h2⟩ := hd
  exact lv_if_lt C.1 C.2.1 h1 h2 (fun hq => kt (by rw [if_pos hq] at h; exact h) p l e R s m args below meth c H locs cells slots ls C hc hs hr ho hv) (fun hq => kf (by rw [if_neg hq] at h; exact h) p l e R s m args below meth c H locs cells slots ls C hc hs hr ho hv)
theorem r_icmp_lt {x y : Int32} {X : Type} {A B : Option X} {z : X} (h : (if x < y then A else B) = some z) (hd : decB cc pc (.if_icmp .lt off) off nx tg) (kt : A = some z → WG E own nm cc mL ret fr lo rc rs tg lv st n G out) (kf : B = some z → WG E own nm cc mL ret fr lo rc rs nx lv st n G out) : WG E own nm cc mL ret fr lo rc rs pc lv (.int y :: .int x :: st) n G out := by
  intro p l e R s m args below meth c H locs cells slots ls C hc hs hr ho hv
  obtain ⟨h1, rfl, h2⟩ := hd
  exact lv_icmp_lt C.1 C.2.1 h1 h2 (fun hq => kt (by rw [if_pos hq] at h; exact h) p l e R s m args below meth c H locs cells slots ls C hc hs hr ho hv) (fun hq => kf (by rw [if_neg hq] at h; exact h) p l e R s m args below meth c H locs cells slots ls C hc hs hr ho hv)
theorem r_if_ge {x : Int32} {X : Type} {A B : Option X} {z : X} (h : (if 0 ≤ x then A else B) = some z) (hd : decB cc pc (.ifCond .ge off) off nx tg) (kt : A = some z → WG E own nm cc mL ret fr lo rc rs tg lv st n G out) (kf : B = some z → WG E own nm cc mL ret fr lo rc rs nx lv st n G out) : WG E own nm cc mL ret fr lo rc rs pc lv (.int x :: st) n G out := by
  intro p l e R s m args below meth c H locs cells slots ls C hc hs hr ho hv
  obtain ⟨h1, rfl, h2⟩ := hd
  exact lv_if_ge C.1 C.2.1 h1 h2 (fun hq => kt (by rw [if_pos hq] at h; exact h) p l e R s m args below meth c H locs cells slots ls C hc hs hr ho hv) (fun hq => kf (by rw [if_neg hq] at h; exact h) p l e R s m args below meth c H locs cells slots ls C hc hs hr ho hv)
theorem r_icmp_ge {x y : Int32} {X : Type} {A B : Option X} {z : X} (h : (if y ≤ x then A else B) = some z) (hd : decB cc pc (.if_icmp .ge off) off nx tg) (kt : A = some z → WG E own nm cc mL ret fr lo rc rs tg lv st n G out) (kf : B = some z → WG E own nm cc mL ret fr lo rc rs nx lv st n G out) : WG E own nm cc mL ret fr lo rc rs pc lv (.int y :: .int x :: st) n G out := by
  intro p l e R s m args below meth c H locs cells slots ls C hc hs hr ho hv
  obtain ⟨h1, rfl, h2⟩ := hd
  exact lv_icmp_ge C.1 C.2.1 h1 h2 (fun hq => kt (by rw [if_pos hq] at h; exact h) p l e R s m args below meth c H locs cells slots ls C hc hs hr ho hv) (fun hq => kf (by rw [if_neg hq] at h; exact h) p l e R s m args below meth c H locs cells slots ls C hc hs hr ho hv)
theorem r_if_gt {x : Int32} {X : Type} {A B : Option X} {z : X} (h : (if 0 < x then A else B) = some z) (hd : decB cc pc (.ifCond .gt off) off nx tg) (kt : A = some z → WG E own nm cc mL ret fr lo rc rs tg lv st n G out) (kf : B = some z → WG E own nm cc mL ret fr lo rc rs nx lv st n G out) : WG E own nm cc mL ret fr lo rc rs pc lv (.int x :: st) n G out := by
  intro p l e R s m args below meth c H locs cells slots ls C hc hs hr ho hv
  obtain ⟨h1, rfl, h2⟩ := hd
  exact lv_if_gt C.1 C.2.1 h1 h2 (fun hq => kt (by rw [if_pos hq] at h; exact h) p l e R s m args below meth c H locs cells slots ls C hc hs hr ho hv) (fun hq => kf (by rw [if_neg hq] at h; exact h) p l e R s m args below meth c H locs cells slots ls C hc hs hr ho hv)
theorem r_icmp_gt {x y : Int32} {X : Type} {A B : Option X} {z : X} (h : (if y < x then A else B) = some z) (hd : decB cc pc (.if_icmp .gt off) off nx tg) (kt : A = some z → WG E own nm cc mL ret fr lo rc rs tg lv st n G out) (kf : B = some z → WG E own nm cc mL ret fr lo rc rs nx lv st n G out) : WG E own nm cc mL ret fr lo rc rs pc lv (.int y :: .int x :: st) n G out := by
  intro p l e R s m args below meth c H locs cells slots ls C hc hs hr ho hv
  obtain ⟨h1, rfl, h2⟩ := hd
  exact lv_icmp_gt C.1 C.2.1 h1 h2 (fun hq => kt (by rw [if_pos hq] at h; exact h) p l e R s m args below meth c H locs cells slots ls C hc hs hr ho hv) (fun hq => kf (by rw [if_neg hq] at h; exact h) p l e R s m args below meth c H locs cells slots ls C hc hs hr ho hv)
theorem r_if_le {x : Int32} {X : Type} {A B : Option X} {z : X} (h : (if x ≤ 0 then A else B) = some z) (hd : decB cc pc (.ifCond .le off) off nx tg) (kt : A = some z → WG E own nm cc mL ret fr lo rc rs tg lv st n G out) (kf : B = some z → WG E own nm cc mL ret fr lo rc rs nx lv st n G out) : WG E own nm cc mL ret fr lo rc rs pc lv (.int x :: st) n G out := by
  intro p l e R s m args below meth c H locs cells slots ls C hc hs hr ho hv
  obtain ⟨h1, rfl, h2⟩ := hd
  exact lv_if_le C.1 C.2.1 h1 h2 (fun hq => kt (by rw [if_pos hq] at h; exact h) p l e R s m args below meth c H locs cells slots ls C hc hs hr ho hv) (fun hq => kf (by rw [if_neg hq] at h; exact h) p l e R s m args below meth c H locs cells slots ls C hc hs hr ho hv)
theorem r_icmp_le {x y : Int32} {X : Type} {A B : Option X} {z : X} (h : (if x ≤ y then A else B) = some z) (hd : decB cc pc (.if_icmp .le off) off nx tg) (kt : A = some z → WG E own nm cc mL ret fr lo rc rs tg lv st n G out) (kf : B = some z → WG E own nm cc mL ret fr lo rc rs nx lv st n G out) : WG E own nm cc mL ret fr lo rc rs pc lv (.int y :: .int x :: st) n G out := by
  intro p l e R s m args below meth c H locs cells slots ls C hc hs hr ho hv
  obtain ⟨h1, rfl, h2⟩ := hd
  exact lv_icmp_le C.1 C.2.1 h1 h2 (fun hq => kt (by rw [if_pos hq] at h; exact h) p l e R s m args below meth c H locs cells slots ls C hc hs hr ho hv) (fun hq => kf (by rw [if_neg hq] at h; exact h) p l e R s m args below meth c H locs cells slots ls C hc hs hr ho hv)
end GR
