/-! The run's own heap as a function: every cell that is made behind the law's entry, by its address. -/
abbrev GE : Type := va_G × (Nat → ClassId) × Heap × (Nat → Nat) × (Nat → Nat) × (State → Prop)
def g_H (E : GE) : Heap := E.2.2.1
def g_b (E : GE) : Nat := E.2.2.1.size
abbrev AC : Type := (Nat × vp_A) ⊕ (Nat × List Value)
abbrev GH : Type := Nat → Option AC
abbrev GO : Type := Option Value × Nat × GH
/-- what a body owes at its end -/
abbrev GQ : Type := List Frame → Array Value → State → Room → State → Prop
def g_tys (E : GE) : List (ClassId × FieldType) := [(E.2.1 0, .int), (E.2.1 1, .byte), (E.2.1 2, .boolean), (E.2.1 3, .long), (E.2.1 4, .object RX0), (E.2.1 5, .object RX2)]
def g_at (E : GE) (q : Nat) (e : AC) (H : Heap) : Prop := match e with
  | .inl a => H[q]? = some (vp_cell (E.2.1 a.1) a.2)
  | .inr o => ∃ r : vw_C, vwCl[o.1]? = some r ∧ t_OB q (E.1.1 o.1) r.2.2 (E.1.2 o.1) H (vp_V o.2) ∧ o.2.length = r.2.2
def g_rep (E : GE) (G : GH) (n : Nat) (H : Heap) : Prop := H.size = n ∧ g_b E ≤ n ∧ (∀ q, q < g_b E → H[q]? = (g_H E)[q]?) ∧ ∀ q e, G q = some e → g_b E ≤ q ∧ g_at E q e H
def gset (G : GH) (q : Nat) (e : AC) : GH := fun j => if j = q then some e else G j
theorem gset_same (G : GH) (q : Nat) (e : AC) : gset G q e q = some e := if_pos rfl
theorem gset_ne {G : GH} {q j : Nat} {e : AC} (h : j ≠ q) : gset G q e j = G j := if_neg h
theorem g_at.kept {E : GE} {q : Nat} {e : AC} {H H1 : Heap} (h : g_at E q e H) (hq : H1[q]? = H[q]?) : g_at E q e H1 := by
  cases e with
  | inl x => exact hq.trans h
  | inr o =>
    obtain ⟨r, h1, h2, h3⟩ := h
    exact ⟨r, h1, h2.kept hq, h3⟩
theorem g_at.lt {E : GE} {q : Nat} {e : AC} {H : Heap} (h : g_at E q e H) : q < H.size := by
  cases e with
  | inl x => exact (Array.getElem?_eq_some_iff.mp h).1
  | inr o =>
    obtain ⟨r, h1, ⟨cell, h2, -⟩, -⟩ := h
    exact (Array.getElem?_eq_some_iff.mp h2).1
theorem g_rep.lt {E : GE} {G : GH} {n q : Nat} {e : AC} {H : Heap} (h : g_rep E G n H) (hq : G q = some e) : q < n := by
  rw [← h.1]; exact (h.2.2.2 q e hq).2.lt
theorem g_rep.put {E : GE} {G : GH} {n a : Nat} {e0 e : AC} {H H1 : Heap} (h : g_rep E G n H) (ha : G a = some e0) (z : H1.size = H.size) (o : ∀ q, q ≠ a → H1[q]? = H[q]?) (he : g_at E a e H1) : g_rep E (gset G a e) n H1 := by
  refine ⟨z.trans h.1, h.2.1, fun q hq => ?_, fun q x hx => ?_⟩
  · rw [o q (fun z => by have := (h.2.2.2 a e0 ha).1; omega)]; exact h.2.2.1 q hq
  · by_cases hqa : q = a
    · subst hqa
      rw [gset_same] at hx
      cases hx
      exact ⟨(h.2.2.2 q e0 ha).1, he⟩
    · rw [gset_ne hqa] at hx
      exact ⟨(h.2.2.2 q x hx).1, (h.2.2.2 q x hx).2.kept (o q hqa)⟩
theorem g_rep.new {E : GE} {G : GH} {n : Nat} {e : AC} {H H1 : Heap} (h : g_rep E G n H) (z : H1.size = n + 1) (o : ∀ q, q < n → H1[q]? = H[q]?) (he : g_at E n e H1) : g_rep E (gset G n e) (n + 1) H1 := by
  refine ⟨z, Nat.le_succ_of_le h.2.1, fun q hq => ?_, fun q x hx => ?_⟩
  · rw [o q (Nat.lt_of_lt_of_le hq h.2.1)]; exact h.2.2.1 q hq
  · by_cases hqa : q = n
    · subst hqa
      rw [gset_same] at hx
      cases hx
      exact ⟨h.2.1, he⟩
    · rw [gset_ne hqa] at hx
      exact ⟨(h.2.2.2 q x hx).1, (h.2.2.2 q x hx).2.kept (o q (h.lt hx))⟩
/-! what the tables say, kept over the run -/
def g_strs : List (String × Nat × String) := [(RX6, 78, "part"), (RX6, 107, "just"), (RX6, 112, "add"), (RX6, 114, "mul"), (RX6, 116, "max"), (RX6, 118, "min"), (RX6, 119, "sub"), (RX6, 126, "span"), (RX6, 131, "needs"), (RX6, 137, "lazy"), (RX6, 139, "breaks"), (RX6, 144, "bad"), (RX6, 149, "board"), (RX6, 151, "scope"), (RX6, 153, "each"), (RX10, 174, "no such part"), (RX10, 208, "nothing such of a part"), (RX10, 213, "no such thing"), (RX10, 230, "nothing such of a thing")]
def g_byt : List (List Int32) := g_strs.map (fun q => q.2.2.toList.map (fun c => Int32.ofNat c.toNat))
def g_len : List Nat := g_byt.map List.length
def g_S (E : GE) (U : State) : Prop := (∀ j q, g_strs[j]? = some q → vk_R q.1 q.2.1 q.2.2 (E.2.2.2.1 j) U) ∧ vk_S 19 g_len g_byt E.2.2.2.1 E.2.2.2.2.1 (fun q => g_b E ≤ q) U (g_H E) ∧ va_Z "java/lang/String" "COMPACT_STRINGS" "Z" (.int 1) (fun q => g_b E ≤ q) U (g_H E) ∧ va_Zq "jdk/internal/util/Preconditions" "SIOOBE_FORMATTER" "Ljava/util/function/BiFunction;" (fun q => g_b E ≤ q) U (g_H E)
def g_X (E : GE) (U : State) : Prop := E.2.2.2.2.2 U ∧ (∀ s U : State, s.WarmedH U.vm → E.2.2.2.2.2 s → E.2.2.2.2.2 U) ∧ ∀ s U : State, U.vm = s.vm → E.2.2.2.2.2 s → E.2.2.2.2.2 U
def g_K (E : GE) (U : State) : Prop := va_K E.1 vwCl (g_tys E) U ∧ g_S E U ∧ va_AO RX0 U ∧ va_AO RX2 U ∧ g_X E U
theorem g_K.warm {E : GE} {s U : State} (hW : s.WarmedH U.vm) (h : g_K E s) : g_K E U :=
  ⟨va_K.moved hW.alike h.1, ⟨fun j q hj => vk_R.warm hW (h.2.1.1 j q hj), vk_S.moved hW.alike h.2.1.2.1, va_Z.moved hW.alike h.2.1.2.2.1, va_Zq.moved hW.alike h.2.1.2.2.2⟩, va_AO.moved hW.alike h.2.2.1, va_AO.moved hW.alike h.2.2.2.1, h.2.2.2.2.2.1 _ _ hW h.2.2.2.2.1, h.2.2.2.2.2⟩
theorem g_K.same {E : GE} {s U : State} (hW : U.vm = s.vm) (h : g_K E s) : g_K E U :=
  ⟨va_K.moved (by rw [hW]; exact Vm.Alike.refl _) h.1, ⟨fun j q hj => vk_R.same hW (h.2.1.1 j q hj), vk_S.moved (by rw [hW]; exact Vm.Alike.refl _) h.2.1.2.1, va_Z.moved (by rw [hW]; exact Vm.Alike.refl _) h.2.1.2.2.1, va_Zq.moved (by rw [hW]; exact Vm.Alike.refl _) h.2.1.2.2.2⟩, va_AO.moved (by rw [hW]; exact Vm.Alike.refl _) h.2.2.1, va_AO.moved (by rw [hW]; exact Vm.Alike.refl _) h.2.2.2.1, h.2.2.2.2.2.2 _ _ hW h.2.2.2.2.1, h.2.2.2.2.2⟩
def g_nest : Cond → Bool
  | .fieldLinkNest .. => true
  | .methodLinkNest .. => true
  | .declares .. => true
  | .castable .. => true
  | _ => false
def g_okw (w : Cond) : Bool := goodWord w || g_nest w
def g_tbl : List Cond := lw_tbl.filter g_okw
theorem g_in {w : Cond} (i : Nat) (h : lw_tbl[i]? = some w) (hk : g_okw w = true) : w ∈ g_tbl := List.mem_filter.mpr ⟨List.mem_of_getElem? h, hk⟩
theorem g_in' {w : Cond} (h : w ∈ lw_tbl) (hk : g_okw w = true) : w ∈ g_tbl := List.mem_filter.mpr ⟨h, hk⟩
theorem g_nest_warm {w : Cond} (h : g_nest w = true) {args a' : Array Value} {s U : State} (hW : s.WarmedH U.vm) (hb : w.before args s = true) : w.before a' U = true := by
  cases w <;> first | (simp [g_nest] at h; done) | exact va_Nw.use rfl (va_Nw.warmF hW (va_Nw.of rfl hb)) | exact va_Nw.use rfl (va_Nw.warmM hW (va_Nw.of rfl hb)) | exact va_tabs rfl (rfl : (s.setVm U.vm).vm = U.vm) (by rw [Cond.declares_setVm hW.alike]; exact hb) | exact va_tabs rfl (rfl : (s.setVm U.vm).vm = U.vm) (by rw [Cond.castable_setVm hW.alike]; exact hb)
theorem g_warm {args : Array Value} {s : State} (hts : ∀ w ∈ g_tbl, w.before args s = true) : ∀ w ∈ g_tbl, ∀ (a' : Array Value) (U : State), s.WarmedH U.vm → w.before a' U = true := by
  intro w hw a' U hW
  have h := (List.mem_filter.mp hw).2
  rcases Bool.or_eq_true_iff.mp h with h1 | h1
  · exact word_at hW (good_of_word h1) (hts w hw)
  · exact g_nest_warm h1 hW (hts w hw)
/-! the judgement of a walk over the run's heap -/
def g_lk : List (Nat × Value) → Nat → Option Value
  | [], _ => none
  | q :: r, i => match Nat.beq q.1 i with
    | true => some q.2
    | false => g_lk r i
def g_lv (ls : Array Slot) (mL : Nat) (lv : List (Nat × Value)) : Prop := ∃ k, lv_has ls mL k ∧ ∀ i v, g_lk lv i = some v → (i, v) ∈ k
def g_Q (E : GE) (out : GO) : Array Value → State → Outcome → State → Prop := fun _ _ oc t => oc = .returned out.1 ∧ g_rep E out.2.2 out.2.1 t.heap
def g_ws (y : MethodName) (cc : ByteArray) (mL : Nat) (ret : Option FieldType) : List Cond := .code y cc mL ret :: g_tbl
def g_C (E : GE) (own nm : String) (cc : ByteArray) (mL : Nat) (ret : Option FieldType) (fr lo : Nat) (p : Program) (l : Launch) (R : Room) (s : State) (m : MethodId) (args : Array Value) (meth : Method) (c : Code) : Prop :=
  p.tables.exec = Jvm.exec ∧ c.code = cc ∧ meth.sig.returnType = ret ∧ c.maxLocals = mL ∧ s.vm.findClass own = some m.cls ∧ (∀ w ∈ g_tbl, w.before args s = true) ∧ meth.locks = false ∧ meth.name = nm ∧ g_K E s ∧ fr ≤ R.frames ∧ lo ≤ R.locals ∧ l.flags = flags0 ∧ (g_b E ≤ s.heap.size ∧ ∀ q, q < g_b E → s.heap[q]? = (g_H E)[q]?) ∧ (own ≠ RL → ∀ x ∈ c.exceptionTable.toList, False) ∧ (own = RL → nm ≠ "law" → c.exceptionTable.toList = tableOf [(0, 10, 13, 13)])
/-- a body that comes to 'out' -/
def g_O (E : GE) (out : GO) : GQ := fun below args s R => MQ below (g_Q E out) args s R.cells R.slots (fun q => g_b E ≤ q)
def WG (E : GE) (own nm : String) (cc : ByteArray) (mL : Nat) (ret : Option FieldType) (fr lo rc rs pc : Nat) (lv : List (Nat × Value)) (st : List Value) (n : Nat) (G : GH) (out : GQ) : Prop :=
  ∀ (p : Program) (l : Launch) (e : Env) (R : Room) (s : State) (m : MethodId) (args : Array Value) (below : List Frame) (meth : Method) (c : Code) (H : Heap) (locs : List Loc) (cells slots : Nat) (ls : Array Slot),
    g_C E own nm cc mL ret fr lo p l R s m args meth c → cells + rc ≤ R.cells → slots + rs ≤ R.slots → g_rep E G n H → (∀ q ∈ locs, g_b E ≤ q.base) → g_lv ls mL lv →
    W p l e R s m args below meth c H locs cells slots (out below args s R) (F0 m pc ls st)
/-- a method's contract over the run's heap: from these arguments and this heap it comes to 'out' -/
def GM (E : GE) (y : MethodName) (cc : ByteArray) (mL : Nat) (ret : Option FieldType) (fr lo mc ms : Nat) (vs : List Value) (n : Nat) (G : GH) (out : GO) : Prop :=
  ∀ l : Launch, l.flags = flags0 → Met l y (g_ws y cc mL ret) { frames := fr, cells := mc, slots := ms, locals := lo } (va_Pc vs (fun U => g_rep E G n U.heap ∧ g_K E U)) (g_Q E out) mc ms (fun q => g_b E ≤ q)
theorem g_lv_args {ls : Array Slot} {mL : Nat} (lv : List (Nat × Value)) (h : lv_has ls mL lv) : g_lv ls mL lv := by
  refine ⟨lv, h, fun i v hv => ?_⟩
  clear h
  induction lv with
  | nil => cases hv
  | cons q r ih =>
    unfold g_lk at hv
    cases hb : Nat.beq q.1 i with
    | true =>
      rw [hb] at hv
      cases hv
      rw [← Nat.eq_of_beq_eq_true hb]
      exact List.mem_cons_self
    | false =>
      rw [hb] at hv
      exact List.mem_cons_of_mem _ (ih hv)
theorem GM.of {E : GE} {y : MethodName} {cc : ByteArray} {mL : Nat} {ret : Option FieldType} {fr lo mc ms : Nat} {vs : List Value} {n : Nat} {G : GH} {out : GO} (hy : plainName y.cls = true) (hlen : (lg_sl vs).length ≤ mL)
    (hw : WG E y.cls y.name cc mL ret fr lo mc ms 0 (lv_args 0 vs) [] n G (g_O E out)) (hRL : y.cls ≠ RL := by decide) : GM E y cc mL ret fr lo mc ms vs n G out := by
  intro l hfl
  refine Met.ofW (cc := cc) (maxL := mL) (ret := ret) hy rfl ?_
  intro p e s m args below meth c s₁ B hml hv
  obtain ⟨rfl, hrep, hK⟩ := hv
  have hts := atoms_spec (ws := g_ws y cc mL ret) B.pre
  have hl := lv_entry vs (n := mL) hlen
  have ht : ∀ x ∈ c.exceptionTable.toList, False := by
    obtain ⟨meth9, c9, h1, h2, -, -, -, -, h7, -⟩ := Cond.code_spec B.named (hts _ List.mem_cons_self)
    cases Option.some.inj (h1.symm.trans B.method)
    cases Option.some.inj (h2.symm.trans (Stand.of_body B).code)
    intro x hx
    rw [Array.isEmpty_iff.mp h7] at hx
    cases hx
  rw [lg_entry_eq]
  exact hw p l e _ s m _ below meth c s.heap [] 0 0 _ ⟨B.exec, B.bytes, B.returns, hml, findClass_of_methodNamed B.named, fun w h => hts w (List.mem_cons_of_mem _ h), B.notSynchronized, (name_of_methodNamed B.named B.method).1, hK, Nat.le_refl _, Nat.le_refl _, hfl, ⟨by rw [hrep.1]; exact hrep.2.1, hrep.2.2.1⟩, fun _ => ht, fun h => absurd h hRL⟩ (Nat.le_of_eq (Nat.zero_add _)) (Nat.le_of_eq (Nat.zero_add _)) hrep (fun q h => by cases h) (g_lv_args _ hl)
