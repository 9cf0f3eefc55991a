/-! Rows of arrays, of new cells, of returns and of calls. -/
section GA
variable {E : GE} {own nm : String} {cc : ByteArray} {mL : Nat} {ret : Option FieldType} {fr lo rc rs pc nx tg : Nat} {off : Int} {lv : List (Nat × Value)} {st : List Value} {n : Nat} {G : GH} {out : GQ}
theorem g_mem1 {locs : List Loc} {b a k : Nat} (ho : ∀ q ∈ locs, b ≤ q.base) (ha : b ≤ a) : ∀ q ∈ locs ++ [(⟨a, k⟩ : Loc)], b ≤ q.base := by
  intro x hx
  rcases List.mem_append.mp hx with hx | hx
  · exact ho x hx
  · cases List.mem_singleton.mp hx
    exact ha
theorem r_iald {q : Nat} {i : Int32} {X : Type} {K : Int32 → Option X} {z : X} (h : Option.bind (aI G q 0 i) K = some z) (hd : dec 1 cc pc .iaload nx)
    (kk : ∀ v, K v = some z → WG E own nm cc mL ret fr lo rc rs nx lv (.int v :: st) n G out) : WG E own nm cc mL ret fr lo rc rs pc lv (.int i :: .ref q :: st) n G out := by
  obtain ⟨v, h1, h2⟩ := Option.bind_eq_some_iff.mp h
  obtain ⟨N, f, h3, h4, rfl⟩ := aI_is h1
  intro p l e R s m args below meth c H locs cells slots ls C hc hs hr ho hv
  obtain ⟨hd, rfl⟩ := hd
  exact va_iald (D := E.1) (cl := vwCl) (tys := g_tys E) C.1 C.2.1 C.2.2.2.2.2.2.2.2.1.1 (g_P2 hr h3) 0 0 rfl rfl h4 hd (kk _ h2 p l e R s m args below meth c H locs cells slots ls C hc hs hr ho hv)
theorem r_bald {q : Nat} {i : Int32} {X : Type} {K : Int32 → Option X} {z : X} (h : Option.bind (aI G q 1 i) K = some z) (hd : dec 1 cc pc .baload nx)
    (kk : ∀ v, K v = some z → WG E own nm cc mL ret fr lo rc rs nx lv (.int v :: st) n G out) : WG E own nm cc mL ret fr lo rc rs pc lv (.int i :: .ref q :: st) n G out := by
  obtain ⟨v, h1, h2⟩ := Option.bind_eq_some_iff.mp h
  obtain ⟨N, f, h3, h4, rfl⟩ := aI_is h1
  intro p l e R s m args below meth c H locs cells slots ls C hc hs hr ho hv
  obtain ⟨hd, rfl⟩ := hd
  exact va_bald (D := E.1) (cl := vwCl) (tys := g_tys E) C.1 C.2.1 C.2.2.2.2.2.2.2.2.1.1 (g_P2 hr h3) 0 1 rfl rfl h4 hd (kk _ h2 p l e R s m args below meth c H locs cells slots ls C hc hs hr ho hv)
theorem r_zald {q : Nat} {i : Int32} {X : Type} {K : Int32 → Option X} {z : X} (h : Option.bind (aI G q 2 i) K = some z) (hd : dec 1 cc pc .baload nx)
    (kk : ∀ v, K v = some z → WG E own nm cc mL ret fr lo rc rs nx lv (.int v :: st) n G out) : WG E own nm cc mL ret fr lo rc rs pc lv (.int i :: .ref q :: st) n G out := by
  obtain ⟨v, h1, h2⟩ := Option.bind_eq_some_iff.mp h
  obtain ⟨N, f, h3, h4, rfl⟩ := aI_is h1
  intro p l e R s m args below meth c H locs cells slots ls C hc hs hr ho hv
  obtain ⟨hd, rfl⟩ := hd
  exact va_zald (D := E.1) (cl := vwCl) (tys := g_tys E) C.1 C.2.1 C.2.2.2.2.2.2.2.2.1.1 (g_P2 hr h3) 0 2 rfl rfl h4 hd (kk _ h2 p l e R s m args below meth c H locs cells slots ls C hc hs hr ho hv)
theorem r_lald {q : Nat} {i : Int32} {X : Type} {K : Int64 → Option X} {z : X} (h : Option.bind (aJ G q i) K = some z) (hd : dec 1 cc pc .laload nx)
    (kk : ∀ v, K v = some z → WG E own nm cc mL ret fr lo rc rs nx lv (.long v :: st) n G out) : WG E own nm cc mL ret fr lo rc rs pc lv (.int i :: .ref q :: st) n G out := by
  obtain ⟨v, h1, h2⟩ := Option.bind_eq_some_iff.mp h
  obtain ⟨N, f, h3, h4, rfl⟩ := aJ_is h1
  intro p l e R s m args below meth c H locs cells slots ls C hc hs hr ho hv
  obtain ⟨hd, rfl⟩ := hd
  exact va_lald (D := E.1) (cl := vwCl) (tys := g_tys E) C.1 C.2.1 C.2.2.2.2.2.2.2.2.1.1 (g_P2 hr h3) 0 3 rfl rfl h4 hd (kk _ h2 p l e R s m args below meth c H locs cells slots ls C hc hs hr ho hv)
theorem r_alen {q : Nat} {X : Type} {K : Int32 → Option X} {z : X} (h : Option.bind (aL G q) K = some z) (hd : dec 1 cc pc .arraylength nx)
    (kk : ∀ v, K v = some z → WG E own nm cc mL ret fr lo rc rs nx lv (.int v :: st) n G out) : WG E own nm cc mL ret fr lo rc rs pc lv (.ref q :: st) n G out := by
  obtain ⟨v, h1, h2⟩ := Option.bind_eq_some_iff.mp h
  obtain ⟨t, N, f, h3, h4, rfl⟩ := aL_is h1
  intro p l e R s m args below meth c H locs cells slots ls C hc hs hr ho hv
  obtain ⟨hd, rfl⟩ := hd
  have ht : ∃ ty, (g_tys E)[t]? = some (E.2.1 t, ty) := by
    match t, h4 with
    | 0, _ => exact ⟨_, rfl⟩
    | 1, _ => exact ⟨_, rfl⟩
    | 2, _ => exact ⟨_, rfl⟩
    | 3, _ => exact ⟨_, rfl⟩
    | 4, _ => exact ⟨_, rfl⟩
    | 5, _ => exact ⟨_, rfl⟩
  obtain ⟨ty, ht⟩ := ht
  exact va_alen (D := E.1) (cl := vwCl) (tys := g_tys E) C.1 C.2.1 C.2.2.2.2.2.2.2.2.1.1 (g_P2 hr h3) 0 t rfl ht rfl hd (kk _ h2 p l e R s m args below meth c H locs cells slots ls C hc hs hr ho hv)
theorem g_aldq {q t : Nat} {i : Int32} {N : Nat} {f : Nat → Option Nat} (h3 : G q = some (.inl (t, N, .inr (.inr (.inr (.inr f)))))) (h4 : vp_in i N) (hd : dec 1 cc pc .aaload nx) (ht : t = 4 ∨ t = 5)
    (kk : WG E own nm cc mL ret fr lo rc rs nx lv (va_rf (f i.toNatClampNeg) :: st) n G out) : WG E own nm cc mL ret fr lo rc rs pc lv (.int i :: .ref q :: st) n G out := by
  intro p l e R s m args below meth c H locs cells slots ls C hc hs hr ho hv
  obtain ⟨hd, rfl⟩ := hd
  rcases ht with rfl | rfl
  · exact va_aldq (D := E.1) (cl := vwCl) (tys := g_tys E) C.1 C.2.1 C.2.2.2.2.2.2.2.2.1.1 (g_P2 hr h3) 0 4 rfl rfl h4 hd (kk p l e R s m args below meth c H locs cells slots ls C hc hs hr ho hv)
  · exact va_aldq (D := E.1) (cl := vwCl) (tys := g_tys E) C.1 C.2.1 C.2.2.2.2.2.2.2.2.1.1 (g_P2 hr h3) 0 5 rfl rfl h4 hd (kk p l e R s m args below meth c H locs cells slots ls C hc hs hr ho hv)
theorem r_aaldq {q t : Nat} {i : Int32} {X : Type} {K : Option Nat → Option X} {z : X} (h : Option.bind (aQ G q t i) K = some z) (hd : dec 1 cc pc .aaload nx) (ht : t = 4 ∨ t = 5)
    (kk : ∀ v, K v = some z → WG E own nm cc mL ret fr lo rc rs nx lv (va_rf v :: st) n G out) : WG E own nm cc mL ret fr lo rc rs pc lv (.int i :: .ref q :: st) n G out := by
  obtain ⟨v, h1, h2⟩ := Option.bind_eq_some_iff.mp h
  obtain ⟨N, f, h3, h4, rfl⟩ := aQ_is h1
  exact g_aldq h3 h4 hd ht (kk _ h2)
theorem r_aaldn {q t : Nat} {i : Int32} {X : Type} {K : Nat → Option X} {z : X} (h : Option.bind (aN G q t i) K = some z) (hd : dec 1 cc pc .aaload nx) (ht : t = 4 ∨ t = 5)
    (kk : ∀ v, K v = some z → WG E own nm cc mL ret fr lo rc rs nx lv (.ref v :: st) n G out) : WG E own nm cc mL ret fr lo rc rs pc lv (.int i :: .ref q :: st) n G out := by
  obtain ⟨v, h1, h2⟩ := Option.bind_eq_some_iff.mp h
  obtain ⟨N, f, h3, h4, h5⟩ := aN_is h1
  refine g_aldq h3 h4 hd ht ?_
  rw [← h5]
  exact kk _ h2
theorem r_iast {q : Nat} {i x : Int32} {X : Type} {K : GH → Option X} {z : X} (h : Option.bind (aS G q 0 i x) K = some z) (hd : dec 1 cc pc .iastore nx)
    (kk : ∀ G', K G' = some z → WG E own nm cc mL ret fr lo rc rs nx lv st n G' out) : WG E own nm cc mL ret fr lo rc rs pc lv (.int x :: .int i :: .ref q :: st) n G out := by
  obtain ⟨G', h1, h2⟩ := Option.bind_eq_some_iff.mp h
  obtain ⟨N, f, h3, h4, rfl⟩ := aS_is h1
  intro p l e R s m args below meth c H locs cells slots ls C hc hs hr ho hv
  obtain ⟨hd, rfl⟩ := hd
  have hA := (hr.2.2.2 q _ h3)
  refine W.iast C.1 C.2.1 hA.2 ((C.2.2.2.2.2.2.2.2.1.1.2 0 _ rfl).1 N (fun j => .int (f j))) (fun q => by cases q) (by show ¬ (i < 0 ∨ (arrV _ _ _).slots.size ≤ _); rw [arrV_size]; exact h4) rfl rfl hd fun H1 e1 e2 e3 => ?_
  refine kk _ h2 p l e R s m args below meth c H1 _ cells slots ls C hc hs (hr.put h3 e2 e3 ?_) (g_mem1 ho hA.1) hv
  show H1[q]? = some (vp_cell _ _)
  rw [e1]
  rw [vp_cell_i, vp_cell_i, arrV_store]
  congr 2
  funext j
  by_cases hq : j = i.toNatClampNeg
  · subst hq
    simp [updV, upd]
  · simp [updV, upd, hq]
theorem r_bast {q : Nat} {i x : Int32} {X : Type} {K : GH → Option X} {z : X} (h : Option.bind (aS G q 1 i (vp_nar .byte x)) K = some z) (hd : dec 1 cc pc .bastore nx)
    (kk : ∀ G', K G' = some z → WG E own nm cc mL ret fr lo rc rs nx lv st n G' out) : WG E own nm cc mL ret fr lo rc rs pc lv (.int x :: .int i :: .ref q :: st) n G out := by
  obtain ⟨G', h1, h2⟩ := Option.bind_eq_some_iff.mp h
  obtain ⟨N, f, h3, h4, rfl⟩ := aS_is h1
  intro p l e R s m args below meth c H locs cells slots ls C hc hs hr ho hv
  obtain ⟨hd, rfl⟩ := hd
  have hA := (hr.2.2.2 q _ h3)
  refine W.bast C.1 C.2.1 hA.2 ((C.2.2.2.2.2.2.2.2.1.1.2 1 _ rfl).1 N (fun j => .int (f j))) (fun q => by cases q) (by show ¬ (i < 0 ∨ (arrV _ _ _).slots.size ≤ _); rw [arrV_size]; exact h4) rfl rfl hd fun H1 e1 e2 e3 => ?_
  refine kk _ h2 p l e R s m args below meth c H1 _ cells slots ls C hc hs (hr.put h3 e2 e3 ?_) (g_mem1 ho hA.1) hv
  show H1[q]? = some (vp_cell _ _)
  rw [e1]
  rw [vp_cell_i, vp_cell_i, arrV_store]
  congr 2
  funext j
  by_cases hq : j = i.toNatClampNeg
  · subst hq
    simp [updV, upd, vp_nar]
    try rfl
  · simp [updV, upd, hq]
theorem r_zast {q : Nat} {i x : Int32} {X : Type} {K : GH → Option X} {z : X} (h : Option.bind (aS G q 2 i (vp_nar .boolean x)) K = some z) (hd : dec 1 cc pc .bastore nx)
    (kk : ∀ G', K G' = some z → WG E own nm cc mL ret fr lo rc rs nx lv st n G' out) : WG E own nm cc mL ret fr lo rc rs pc lv (.int x :: .int i :: .ref q :: st) n G out := by
  obtain ⟨G', h1, h2⟩ := Option.bind_eq_some_iff.mp h
  obtain ⟨N, f, h3, h4, rfl⟩ := aS_is h1
  intro p l e R s m args below meth c H locs cells slots ls C hc hs hr ho hv
  obtain ⟨hd, rfl⟩ := hd
  have hA := (hr.2.2.2 q _ h3)
  refine W.zast C.1 C.2.1 hA.2 ((C.2.2.2.2.2.2.2.2.1.1.2 2 _ rfl).1 N (fun j => .int (f j))) (fun q => by cases q) (by show ¬ (i < 0 ∨ (arrV _ _ _).slots.size ≤ _); rw [arrV_size]; exact h4) rfl rfl hd fun H1 e1 e2 e3 => ?_
  refine kk _ h2 p l e R s m args below meth c H1 _ cells slots ls C hc hs (hr.put h3 e2 e3 ?_) (g_mem1 ho hA.1) hv
  show H1[q]? = some (vp_cell _ _)
  rw [e1]
  rw [vp_cell_i, vp_cell_i, arrV_store]
  congr 2
  funext j
  by_cases hq : j = i.toNatClampNeg
  · subst hq
    simp [updV, upd, vp_nar]
    try rfl
  · simp [updV, upd, hq]
theorem r_last {q : Nat} {i : Int32} {x : Int64} {X : Type} {K : GH → Option X} {z : X} (h : Option.bind (aK G q i x) K = some z) (hd : dec 1 cc pc .lastore nx)
    (kk : ∀ G', K G' = some z → WG E own nm cc mL ret fr lo rc rs nx lv st n G' out) : WG E own nm cc mL ret fr lo rc rs pc lv (.long x :: .int i :: .ref q :: st) n G out := by
  obtain ⟨G', h1, h2⟩ := Option.bind_eq_some_iff.mp h
  obtain ⟨N, f, h3, h4, rfl⟩ := aK_is h1
  intro p l e R s m args below meth c H locs cells slots ls C hc hs hr ho hv
  obtain ⟨hd, rfl⟩ := hd
  have hA := (hr.2.2.2 q _ h3)
  refine W.last C.1 C.2.1 hA.2 ((C.2.2.2.2.2.2.2.2.1.1.2 3 _ rfl).1 N (fun j => .long (f j))) (fun q => by cases q) (by show ¬ (i < 0 ∨ (arrV _ _ _).slots.size ≤ _); rw [arrV_size]; exact h4) rfl rfl hd fun H1 e1 e2 e3 => ?_
  refine kk _ h2 p l e R s m args below meth c H1 _ cells slots ls C hc hs (hr.put h3 e2 e3 ?_) (g_mem1 ho hA.1) hv
  show H1[q]? = some (vp_cell _ _)
  rw [e1]
  rw [vp_cell_l, vp_cell_l, arrV_store]
  congr 2
  funext j
  by_cases hq : j = i.toNatClampNeg
  · subst hq
    simp [updV, vp_updL]
  · simp [updV, vp_updL, hq]
theorem r_ifnull {r : Option Nat} {X : Type} {A B : Option X} {z : X} (h : (if r = none then A else B) = some z) (hd : decB cc pc (.ifnull off) off nx tg) (kt : A = some z → WG E own nm cc mL ret fr lo rc rs tg lv st n G out) (kf : B = some z → WG E own nm cc mL ret fr lo rc rs nx lv st n G out) : WG E own nm cc mL ret fr lo rc rs pc lv (va_rf r :: st) n G out := by
  intro p l e R s m args below meth c H locs cells slots ls C hc hs hr ho hv
  obtain ⟨h1, rfl, h2⟩ := hd
  obtain ⟨hx, hb, -⟩ := id C
  cases r with
  | none =>
    rw [if_pos rfl] at h
    have k2 := kt h p l e R s m args below meth c H locs cells slots ls C hc hs hr ho hv
    intro T hT X0
    obtain ⟨t, a, b⟩ := k2 T hT X0
    refine ⟨t, ?_, b⟩
    jvm_step X0.here [X0.here.top, hx, hb, h1, va_rf, Value.asRef?, h2]
    exact a
  | some y =>
    rw [if_neg (by simp)] at h
    have k2 := kf h p l e R s m args below meth c H locs cells slots ls C hc hs hr ho hv
    intro T hT X0
    obtain ⟨t, a, b⟩ := k2 T hT X0
    refine ⟨t, ?_, b⟩
    jvm_step X0.here [X0.here.top, hx, hb, h1, va_rf, Value.asRef?, h2]
    exact a
theorem r_ifnonnull {r : Option Nat} {X : Type} {A B : Option X} {z : X} (h : (if r = none then A else B) = some z) (hd : decB cc pc (.ifnonnull off) off nx tg) (kt : B = some z → WG E own nm cc mL ret fr lo rc rs tg lv st n G out) (kf : A = some z → WG E own nm cc mL ret fr lo rc rs nx lv st n G out) : WG E own nm cc mL ret fr lo rc rs pc lv (va_rf r :: st) n G out := by
  intro p l e R s m args below meth c H locs cells slots ls C hc hs hr ho hv
  obtain ⟨h1, rfl, h2⟩ := hd
  obtain ⟨hx, hb, -⟩ := id C
  cases r with
  | none =>
    rw [if_pos rfl] at h
    have k2 := kf h p l e R s m args below meth c H locs cells slots ls C hc hs hr ho hv
    intro T hT X0
    obtain ⟨t, a, b⟩ := k2 T hT X0
    refine ⟨t, ?_, b⟩
    jvm_step X0.here [X0.here.top, hx, hb, h1, va_rf, Value.asRef?, h2]
    exact a
  | some y =>
    rw [if_neg (by simp)] at h
    have k2 := kt h p l e R s m args below meth c H locs cells slots ls C hc hs hr ho hv
    intro T hT X0
    obtain ⟨t, a, b⟩ := k2 T hT X0
    refine ⟨t, ?_, b⟩
    jvm_step X0.here [X0.here.top, hx, hb, h1, va_rf, Value.asRef?, h2]
    exact a
theorem r_acmp_ne {x y : Nat} {X : Type} {A B : Option X} {z : X} (h : (if x = y then A else B) = some z) (hd : decB cc pc (.if_acmp .ne off) off nx tg) (kt : B = some z → WG E own nm cc mL ret fr lo rc rs tg lv st n G out) (kf : A = some z → WG E own nm cc mL ret fr lo rc rs nx lv st n G out) : WG E own nm cc mL ret fr lo rc rs pc lv (.ref y :: .ref x :: st) n G out := by
  intro p l e R s m args below meth c H locs cells slots ls C hc hs hr ho hv
  obtain ⟨h1, rfl, h2⟩ := hd
  exact lv_acmp_ne (rx := some x) (ry := some y) C.1 C.2.1 h1 h2 (fun hq => kt (by rw [if_neg (fun w => hq (by rw [w]))] at h; exact h) p l e R s m args below meth c H locs cells slots ls C hc hs hr ho hv) (fun hq => kf (by rw [if_pos (Option.some.inj hq)] at h; exact h) p l e R s m args below meth c H locs cells slots ls C hc hs hr ho hv)
/-- the end of a method -/
theorem r_iret {v : Int32} {z : Int32 × Nat × GH} (h : some (v, n, G) = some z) (hd : dec 1 cc pc .ireturn nx) : WG E own nm cc mL (some .int) fr lo rc rs pc lv [.int v] n G (g_O E (some (.int z.1), z.2.1, z.2.2)) := by
  cases h
  intro p l e R s m args below meth c H locs cells slots ls C hc hs hr ho hv
  refine W.widen (k := R.cells) (n := R.slots) (by omega) (by omega) ?_
  exact W.iret (v := v) C.1 C.2.1 C.2.2.1 (fun t ht hW => ⟨rfl, by rw [ht]; exact hr⟩) ho hd.1 C.2.2.2.2.2.2.1
/-- a small type's answer -/
def rN (ty : FieldType) (v : Int32) (n : Nat) (G : GH) : Option (Int32 × Nat × GH) := if vp_nar ty v = v then some (v, n, G) else none
theorem r_zret {v : Int32} {z : Int32 × Nat × GH} (h : rN .boolean v n G = some z) (hd : dec 1 cc pc .ireturn nx) : WG E own nm cc mL (some .boolean) fr lo rc rs pc lv [.int v] n G (g_O E (some (.int z.1), z.2.1, z.2.2)) := by
  unfold rN at h
  split at h
  · rename_i hq
    cases h
    intro p l e R s m args below meth c H locs cells slots ls C hc hs hr ho hv
    refine W.widen (k := R.cells) (n := R.slots) (by omega) (by omega) ?_
    exact W.zret (v := v) C.1 C.2.1 C.2.2.1 (by unfold vp_nar at hq; simp [narrow] at hq ⊢; exact hq) (fun t ht hW => ⟨rfl, by rw [ht]; exact hr⟩) ho hd.1 C.2.2.2.2.2.2.1
  · cases h
theorem r_bret {v : Int32} {z : Int32 × Nat × GH} (h : rN .byte v n G = some z) (hd : dec 1 cc pc .ireturn nx) : WG E own nm cc mL (some .byte) fr lo rc rs pc lv [.int v] n G (g_O E (some (.int z.1), z.2.1, z.2.2)) := by
  unfold rN at h
  split at h
  · rename_i hq
    cases h
    intro p l e R s m args below meth c H locs cells slots ls C hc hs hr ho hv
    refine W.widen (k := R.cells) (n := R.slots) (by omega) (by omega) ?_
    exact W.zret (v := v) C.1 C.2.1 C.2.2.1 (by unfold vp_nar at hq; simp [narrow] at hq ⊢; exact hq) (fun t ht hW => ⟨rfl, by rw [ht]; exact hr⟩) ho hd.1 C.2.2.2.2.2.2.1
  · cases h
theorem r_vret {z : Nat × GH} (h : some (n, G) = some z) (hd : dec 1 cc pc .return_ nx) : WG E own nm cc mL none fr lo rc rs pc lv [] n G (g_O E (none, z.1, z.2)) := by
  cases h
  intro p l e R s m args below meth c H locs cells slots ls C hc hs hr ho hv
  refine W.widen (k := R.cells) (n := R.slots) (by omega) (by omega) ?_
  exact W.vret C.1 C.2.1 C.2.2.1 (fun t ht hW => ⟨rfl, by rw [ht]; exact hr⟩) ho hd.1 C.2.2.2.2.2.2.1
/-- a name for what stands on top -/
def gnm {α X : Type} (a : α) (K : α → Option X) : Option X := K a
theorem r_nmI {v : Int32} {X : Type} {K : Int32 → Option X} {z : X} (h : gnm v K = some z) (kk : ∀ w, w = v → K w = some z → WG E own nm cc mL ret fr lo rc rs pc lv (.int w :: st) n G out) : WG E own nm cc mL ret fr lo rc rs pc lv (.int v :: st) n G out := kk v rfl h
theorem r_nmJ {v : Int64} {X : Type} {K : Int64 → Option X} {z : X} (h : gnm v K = some z) (kk : ∀ w, w = v → K w = some z → WG E own nm cc mL ret fr lo rc rs pc lv (.long w :: st) n G out) : WG E own nm cc mL ret fr lo rc rs pc lv (.long v :: st) n G out := kk v rfl h
end GA
