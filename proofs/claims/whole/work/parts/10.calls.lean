/-! Rows of calls. -/
def g_room (fr1 lo1 mc1 ms1 ymL fr lo rc rs : Nat) : Bool := Nat.ble (fr1 + 1) fr && (Nat.ble (8 + (ymL + 11) + lo1) lo && (Nat.ble mc1 rc && Nat.ble ms1 rs))
theorem g_room_is {fr1 lo1 mc1 ms1 ymL fr lo rc rs : Nat} (h : g_room fr1 lo1 mc1 ms1 ymL fr lo rc rs = true) : fr1 + 1 ≤ fr ∧ 8 + (ymL + 11) + lo1 ≤ lo ∧ mc1 ≤ rc ∧ ms1 ≤ rs := by
  unfold g_room at h
  simp only [Bool.and_eq_true] at h
  exact ⟨Nat.le_of_ble_eq_true h.1, Nat.le_of_ble_eq_true h.2.1, Nat.le_of_ble_eq_true h.2.2.1, Nat.le_of_ble_eq_true h.2.2.2⟩
def g_cat (st : List Value) : Bool := Nat.ble ((st.map fun v => v.category).sum) 8
/-- a method that can be called: its code and its face, of k arguments -/
def pY (y : MethodName) (ycc : ByteArray) (ymL : Nat) (yret : Option FieldType) (k : Nat) : Prop := Cond.code y ycc ymL yret ∈ g_tbl ∧ Cond.initialized y.cls ∈ g_tbl ∧ y.cls ≠ "java/lang/invoke/MethodHandle" ∧ y.cls ≠ "java/lang/invoke/VarHandle" ∧ (parseMethodDescriptor y.desc).map (fun d => d.parameters.length) = some k
/-- the link of a call -/
def pL (own : String) (idx : Nat) (y : MethodName) : Prop := Cond.methodLink own idx y ∈ g_tbl ∨ ∃ host, Cond.methodLinkNest own idx y host ∈ g_tbl
def pI (y : MethodName) (ci : Nat) : Prop := Cond.instanceMethod y ∈ g_tbl ∧ Cond.selects y.cls y y ∈ g_tbl ∧ ∃ r : vw_C, vwCl[ci]? = some r ∧ r.1 = y.cls
/-- a call on an object of kind ci, and what goes on behind it -/
def cvI {X : Type} (G : GH) (b ci : Nat) (r : Option (Int32 × Nat × GH)) (K : Int32 → Nat → GH → Option X) : Option X := match G b with
  | some (.inr (c, _)) => if c = ci then r.bind (fun q => K q.1 q.2.1 q.2.2) else none
  | _ => none
def cvU {X : Type} (G : GH) (b ci : Nat) (r : Option (Nat × GH)) (K : Nat → GH → Option X) : Option X := match G b with
  | some (.inr (c, _)) => if c = ci then r.bind (fun q => K q.1 q.2) else none
  | _ => none
def csI {X : Type} (r : Option (Int32 × Nat × GH)) (K : Int32 → Nat → GH → Option X) : Option X := r.bind (fun q => K q.1 q.2.1 q.2.2)
def csU {X : Type} (r : Option (Nat × GH)) (K : Nat → GH → Option X) : Option X := r.bind (fun q => K q.1 q.2)
theorem cvI_is {X : Type} {G : GH} {b ci : Nat} {r : Option (Int32 × Nat × GH)} {K : Int32 → Nat → GH → Option X} {z : X} (h : cvI G b ci r K = some z) : (∃ fs, G b = some (.inr (ci, fs))) ∧ ∃ q, r = some q ∧ K q.1 q.2.1 q.2.2 = some z := by
  unfold cvI at h
  split at h
  · rename_i c fs hb
    split at h
    · rename_i hc
      subst hc
      exact ⟨⟨fs, hb⟩, Option.bind_eq_some_iff.mp h⟩
    · cases h
  · cases h
theorem cvU_is {X : Type} {G : GH} {b ci : Nat} {r : Option (Nat × GH)} {K : Nat → GH → Option X} {z : X} (h : cvU G b ci r K = some z) : (∃ fs, G b = some (.inr (ci, fs))) ∧ ∃ q, r = some q ∧ K q.1 q.2 = some z := by
  unfold cvU at h
  split at h
  · rename_i c fs hb
    split at h
    · rename_i hc
      subst hc
      exact ⟨⟨fs, hb⟩, Option.bind_eq_some_iff.mp h⟩
    · cases h
  · cases h
theorem g_goes {p : Program} {l : Launch} {e : Env} {R : Room} {s : State} {m : MethodId} {args : Array Value} {below : List Frame} {meth : Method} {c : Code} {H : Heap} {locs : List Loc} {cells slots mc ms : Nat} {Q : State → Prop} {pc : Nat} {ls : Array Slot} {rest st0 : List Value} {a : Array Value} {E : GE} {o1 : GO}
    (hr : va_Run p l e R s m args below meth c H locs cells slots mc ms (F0 m pc ls st0) rest (g_Q E o1 a) (fun q => g_b E ≤ q)) (ho : ∀ q ∈ locs, g_b E ≤ q.base)
    (kk : ∀ (H1 : Heap) (locs1 : List Loc), g_rep E o1.2.2 o1.2.1 H1 → (∀ q ∈ locs1, g_b E ≤ q.base) → W p l e R s m args below meth c H1 locs1 (cells + mc) (slots + ms) Q (F0 m (pc + 3) ls (o1.1.toList ++ rest))) : W p l e R s m args below meth c H locs cells slots Q (F0 m pc ls st0) := by
  intro T hT X
  obtain ⟨v, st₀, t, T', L, h0, X', hL, e1, e2, ⟨hv, hrep⟩, st⟩ := hr T hT X
  cases hv
  obtain ⟨t2, a1, b1⟩ := kk T'.heap (locs ++ L) (by rw [e1]; exact hrep) (fun q hq => (List.mem_append.mp hq).elim (ho q) (hL q)) T' rfl X'
  exact ⟨t2, st t2 a1, b1⟩
section GK
variable {E : GE} {own nm : String} {cc : ByteArray} {mL : Nat} {ret : Option FieldType} {fr lo rc rs pc nx tg : Nat} {off : Int} {lv : List (Nat × Value)} {rest : List Value} {n : Nat} {G : GH} {out : GQ}
variable {y : MethodName} {ycc : ByteArray} {ymL : Nat} {yret : Option FieldType} {fr1 lo1 mc1 ms1 idx : Nat} {o1 : GO} {b ci : Nat} {st0 : List Value}
theorem g_blind {vs : List Value} : FrameBlind (va_Pc vs (fun U => g_rep E G n U.heap ∧ g_K E U)) := fun a U g mk h => ⟨h.1, h.2.1, g_K.same (s := U) (U := U.calling g mk a) rfl h.2.2⟩
theorem g_callB {p : Program} {l : Launch} {R : Room} {s : State} {m : MethodId} {args : Array Value} {meth : Method} {c : Code} {k : Nat} (C : g_C E own nm cc mL ret fr lo p l R s m args meth c) (hY : pY y ycc ymL yret k) (h1 : fr1 + 1 ≤ fr) (h2 : 8 + (ymL + 11) + lo1 ≤ lo) :
    (mc1 = mc1 ∧ ms1 = ms1 ∧ fr1 + 1 ≤ R.frames ∧ 8 + (ymL + 11) + lo1 ≤ R.locals ∧ (∀ w ∈ g_ws y ycc ymL yret, ∀ (a' : Array Value) (U : State), s.WarmedH U.vm → w.before a' U = true) ∧ Cond.code y ycc ymL yret ∈ g_ws y ycc ymL yret) ∧
    (Cond.code y ycc ymL yret).before args s = true ∧ (Cond.initialized y.cls).before args s = true ∧ (y.cls ≠ "java/lang/invoke/MethodHandle" ∧ y.cls ≠ "java/lang/invoke/VarHandle") ∧ (∀ sig, parseMethodDescriptor y.desc = some sig → k = sig.parameters.length) := by
  obtain ⟨hx, hb, hret, hml, hown, hts, hlk, hnm, hK, hfr, hlo, -⟩ := id C
  refine ⟨⟨rfl, rfl, by omega, by omega, fun w hw a' U hW => ?_, List.mem_cons_self⟩, hts _ hY.1, hts _ hY.2.1, ⟨hY.2.2.1, hY.2.2.2.1⟩, fun sig h => ?_⟩
  · rcases List.mem_cons.mp hw with rfl | hw
    · exact g_warm hts _ hY.1 a' U hW
    · exact g_warm hts _ hw a' U hW
  · have h2 := hY.2.2.2.2
    rw [h] at h2
    exact (Option.some.inj h2).symm
theorem g_invV {as : List Value} (hM : GM E y ycc ymL yret fr1 lo1 mc1 ms1 (.ref b :: as) n G o1) (hd : dec 3 cc pc (.invokevirtual idx) nx) (hl : pL own idx y) (hY : pY y ycc ymL yret as.length) (hI : pI y ci) {fs : List Value} (hb0 : G b = some (.inr (ci, fs))) (hst : st0 = as.reverse ++ .ref b :: rest) (hw : g_cat rest = true) (hR : g_room fr1 lo1 mc1 ms1 ymL fr lo rc rs = true)
    (kk : WG E own nm cc mL ret fr lo (rc - mc1) (rs - ms1) nx lv (o1.1.toList ++ rest) o1.2.1 o1.2.2 out) : WG E own nm cc mL ret fr lo rc rs pc lv st0 n G out := by
  intro p l e R s m args below meth c H locs cells slots ls C hc hs hr ho hv
  obtain ⟨hd, rfl⟩ := hd
  obtain ⟨hx, hb, hret, hml, hown, hts, hlk, hnm, hK, hfr, hlo, hfl, -⟩ := id C
  obtain ⟨r1, r2, r3, r4⟩ := g_room_is hR
  obtain ⟨k1, k2, k3, k4, k5⟩ := g_callB (mc1 := mc1) (ms1 := ms1) C hY r1 r2
  obtain ⟨kl, hkl, -⟩ := id hv
  have hw' : (rest.map fun v => v.category).sum ≤ 8 := Nat.le_of_ble_eq_true hw
  have hp : PreV s H y.cls b (va_Pc (.ref b :: as) (fun U => g_rep E G n U.heap ∧ g_K E U)) as := by
    refine ⟨g_blind, ?_, fun U hU hW => ⟨rfl, by rw [hU]; exact hr, g_K.warm hW hK⟩⟩
    obtain ⟨q, h1, h2⟩ := hI.2.2
    obtain ⟨q', h3, ⟨cell, g1, g2, g3, -⟩, -⟩ := (hr.2.2.2 b _ hb0).2
    exact ⟨cell, g1, by rw [g3]; rfl, by rw [g2, ← h2]; exact (hK.1.1 ci q h1).2.1⟩
  refine g_goes (E := E) (o1 := o1) (rest := rest) (mc := mc1) (ms := ms1) (a := (.ref b :: as).toArray) ?_ ho (fun H1 locs1 h1 h2 => kk p l e R s m args below meth c H1 locs1 _ _ ls C (by omega) (by omega) h1 h2 hv)
  rcases hl with hl | ⟨host, hl⟩
  · exact va_runV (Ts := g_tbl) ⟨hx, hb, hml, hown, hts⟩ (hM l hfl) ⟨⟨k1.1, k1.2.1, k1.2.2.1, k1.2.2.2.1, k1.2.2.2.2.1, k1.2.2.2.2.2, k2, k3, k4, k5, hts _ hl⟩, hts _ hI.1, hts _ hI.2.1⟩ hp rfl rfl hkl.1 hst (by show 2 * 0 + _ ≤ 8; omega) hd ⟨by omega, by omega⟩
  · exact va_runVN (Ts := g_tbl) ⟨hx, hb, hml, hown, hts⟩ (hM l hfl) ⟨⟨k1, k2, k3, k4, k5, hts _ hl⟩, hts _ hI.1, hts _ hI.2.1⟩ hp rfl rfl hkl.1 hst (by show 2 * 0 + _ ≤ 8; omega) hd ⟨by omega, by omega⟩
theorem g_invS {as : List Value} (hM : GM E y ycc ymL yret fr1 lo1 mc1 ms1 as n G o1) (hd : dec 3 cc pc (.invokestatic idx) nx) (hl : pL own idx y) (hY : pY y ycc ymL yret as.length) (hI : Cond.static y ∈ g_tbl) (hst : st0 = as.reverse ++ rest) (hw : g_cat rest = true) (hR : g_room fr1 lo1 mc1 ms1 ymL fr lo rc rs = true)
    (kk : WG E own nm cc mL ret fr lo (rc - mc1) (rs - ms1) nx lv (o1.1.toList ++ rest) o1.2.1 o1.2.2 out) : WG E own nm cc mL ret fr lo rc rs pc lv st0 n G out := by
  intro p l e R s m args below meth c H locs cells slots ls C hc hs hr ho hv
  obtain ⟨hd, rfl⟩ := hd
  obtain ⟨hx, hb, hret, hml, hown, hts, hlk, hnm, hK, hfr, hlo, hfl, -⟩ := id C
  obtain ⟨r1, r2, r3, r4⟩ := g_room_is hR
  obtain ⟨k1, k2, k3, k4, k5⟩ := g_callB (mc1 := mc1) (ms1 := ms1) C hY r1 r2
  obtain ⟨kl, hkl, -⟩ := id hv
  have hw' : (rest.map fun v => v.category).sum ≤ 8 := Nat.le_of_ble_eq_true hw
  have hp : PreS s H (va_Pc as (fun U => g_rep E G n U.heap ∧ g_K E U)) as := ⟨g_blind, fun U hU hW => ⟨rfl, by rw [hU]; exact hr, g_K.warm hW hK⟩⟩
  refine g_goes (E := E) (o1 := o1) (rest := rest) (mc := mc1) (ms := ms1) (a := as.toArray) ?_ ho (fun H1 locs1 h1 h2 => kk p l e R s m args below meth c H1 locs1 _ _ ls C (by omega) (by omega) h1 h2 hv)
  rcases hl with hl | ⟨host, hl⟩
  · exact va_runS (Ts := g_tbl) ⟨hx, hb, hml, hown, hts⟩ (hM l hfl) ⟨⟨k1.1, k1.2.1, k1.2.2.1, k1.2.2.2.1, k1.2.2.2.2.1, k1.2.2.2.2.2, k2, k3, k4, k5, hts _ hl⟩, hts _ hI⟩ hp rfl rfl hkl.1 hst (by show 2 * 0 + _ ≤ 8; omega) hd ⟨by omega, by omega⟩
  · exact va_runSN (Ts := g_tbl) ⟨hx, hb, hml, hown, hts⟩ (hM l hfl) ⟨⟨k1, k2, k3, k4, k5, hts _ hl⟩, hts _ hI, trivial⟩ hp rfl rfl hkl.1 hst (by show 2 * 0 + _ ≤ 8; omega) hd ⟨by omega, by omega⟩
theorem g_invI {as : List Value} (hM : GM E y ycc ymL none fr1 lo1 mc1 ms1 (.ref b :: as) n G o1) (hd : dec 3 cc pc (.invokespecial idx) nx) (hl : pL own idx y) (hY : pY y ycc ymL none as.length) (hI : Cond.instanceMethod y ∈ g_tbl) (hy : y.name = "<init>") (hst : st0 = as.reverse ++ .ref b :: rest) (hw : g_cat rest = true) (hR : g_room fr1 lo1 mc1 ms1 ymL fr lo rc rs = true)
    (kk : WG E own nm cc mL ret fr lo (rc - mc1) (rs - ms1) nx lv (o1.1.toList ++ rest) o1.2.1 o1.2.2 out) : WG E own nm cc mL ret fr lo rc rs pc lv st0 n G out := by
  intro p l e R s m args below meth c H locs cells slots ls C hc hs hr ho hv
  obtain ⟨hd, rfl⟩ := hd
  obtain ⟨hx, hb, hret, hml, hown, hts, hlk, hnm, hK, hfr, hlo, hfl, -⟩ := id C
  obtain ⟨r1, r2, r3, r4⟩ := g_room_is hR
  obtain ⟨k1, k2, k3, k4, k5⟩ := g_callB (mc1 := mc1) (ms1 := ms1) C hY r1 r2
  obtain ⟨kl, hkl, -⟩ := id hv
  have hw' : (rest.map fun v => v.category).sum ≤ 8 := Nat.le_of_ble_eq_true hw
  have hp : PreS s H (va_Pc (.ref b :: as) (fun U => g_rep E G n U.heap ∧ g_K E U)) (.ref b :: as) := ⟨g_blind, fun U hU hW => ⟨rfl, by rw [hU]; exact hr, g_K.warm hW hK⟩⟩
  refine g_goes (E := E) (o1 := o1) (rest := rest) (mc := mc1) (ms := ms1) (a := (.ref b :: as).toArray) ?_ ho (fun H1 locs1 h1 h2 => kk p l e R s m args below meth c H1 locs1 _ _ ls C (by omega) (by omega) h1 h2 hv)
  rcases hl with hl | ⟨host, hl⟩
  · exact va_runI (Ts := g_tbl) ⟨hx, hb, hml, hown, hts⟩ (hM l hfl) ⟨⟨k1.1, k1.2.1, k1.2.2.1, k1.2.2.2.1, k1.2.2.2.2.1, k1.2.2.2.2.2, k2, k3, k4, k5, hts _ hl⟩, hy, hts _ hI⟩ hp rfl rfl hkl.1 hst (by show 2 * 0 + _ ≤ 8; omega) hd ⟨by omega, by omega⟩
  · exact va_runIN (Ts := g_tbl) ⟨hx, hb, hml, hown, hts⟩ (hM l hfl) ⟨⟨k1, k2, k3, k4, k5, hts _ hl⟩, hy, hts _ hI⟩ hp rfl rfl hkl.1 hst (by show 2 * 0 + _ ≤ 8; omega) hd ⟨by omega, by omega⟩
theorem r_invI {X : Type} {r : Option (Int32 × Nat × GH)} {K : Int32 → Nat → GH → Option X} {z : X} (as : List Value) (h : cvI G b ci r K = some z) (hs : ∀ q, r = some q → GM E y ycc ymL yret fr1 lo1 mc1 ms1 (.ref b :: as) n G (some (.int q.1), q.2.1, q.2.2)) (hd : dec 3 cc pc (.invokevirtual idx) nx) (hl : pL own idx y) (hY : pY y ycc ymL yret as.length) (hI : pI y ci) (hst : st0 = as.reverse ++ .ref b :: rest) (hw : g_cat rest = true) (hR : g_room fr1 lo1 mc1 ms1 ymL fr lo rc rs = true)
    (kk : ∀ v n1 G1, K v n1 G1 = some z → WG E own nm cc mL ret fr lo (rc - mc1) (rs - ms1) nx lv (.int v :: rest) n1 G1 out) : WG E own nm cc mL ret fr lo rc rs pc lv st0 n G out := by
  obtain ⟨⟨fs, h1⟩, q, h2, h3⟩ := cvI_is h
  exact g_invV (hs q h2) hd hl hY hI h1 hst hw hR (kk _ _ _ h3)
theorem r_invU {X : Type} {r : Option (Nat × GH)} {K : Nat → GH → Option X} {z : X} (as : List Value) (h : cvU G b ci r K = some z) (hs : ∀ q, r = some q → GM E y ycc ymL yret fr1 lo1 mc1 ms1 (.ref b :: as) n G (none, q.1, q.2)) (hd : dec 3 cc pc (.invokevirtual idx) nx) (hl : pL own idx y) (hY : pY y ycc ymL yret as.length) (hI : pI y ci) (hst : st0 = as.reverse ++ .ref b :: rest) (hw : g_cat rest = true) (hR : g_room fr1 lo1 mc1 ms1 ymL fr lo rc rs = true)
    (kk : ∀ n1 G1, K n1 G1 = some z → WG E own nm cc mL ret fr lo (rc - mc1) (rs - ms1) nx lv rest n1 G1 out) : WG E own nm cc mL ret fr lo rc rs pc lv st0 n G out := by
  obtain ⟨⟨fs, h1⟩, q, h2, h3⟩ := cvU_is h
  exact g_invV (hs q h2) hd hl hY hI h1 hst hw hR (kk _ _ h3)
theorem r_invSI {X : Type} {r : Option (Int32 × Nat × GH)} {K : Int32 → Nat → GH → Option X} {z : X} (as : List Value) (h : csI r K = some z) (hs : ∀ q, r = some q → GM E y ycc ymL yret fr1 lo1 mc1 ms1 as n G (some (.int q.1), q.2.1, q.2.2)) (hd : dec 3 cc pc (.invokestatic idx) nx) (hl : pL own idx y) (hY : pY y ycc ymL yret as.length) (hI : Cond.static y ∈ g_tbl) (hst : st0 = as.reverse ++ rest) (hw : g_cat rest = true) (hR : g_room fr1 lo1 mc1 ms1 ymL fr lo rc rs = true)
    (kk : ∀ v n1 G1, K v n1 G1 = some z → WG E own nm cc mL ret fr lo (rc - mc1) (rs - ms1) nx lv (.int v :: rest) n1 G1 out) : WG E own nm cc mL ret fr lo rc rs pc lv st0 n G out := by
  obtain ⟨q, h2, h3⟩ := Option.bind_eq_some_iff.mp h
  exact g_invS (hs q h2) hd hl hY hI hst hw hR (kk _ _ _ h3)
theorem r_invSU {X : Type} {r : Option (Nat × GH)} {K : Nat → GH → Option X} {z : X} (as : List Value) (h : csU r K = some z) (hs : ∀ q, r = some q → GM E y ycc ymL yret fr1 lo1 mc1 ms1 as n G (none, q.1, q.2)) (hd : dec 3 cc pc (.invokestatic idx) nx) (hl : pL own idx y) (hY : pY y ycc ymL yret as.length) (hI : Cond.static y ∈ g_tbl) (hst : st0 = as.reverse ++ rest) (hw : g_cat rest = true) (hR : g_room fr1 lo1 mc1 ms1 ymL fr lo rc rs = true)
    (kk : ∀ n1 G1, K n1 G1 = some z → WG E own nm cc mL ret fr lo (rc - mc1) (rs - ms1) nx lv rest n1 G1 out) : WG E own nm cc mL ret fr lo rc rs pc lv st0 n G out := by
  obtain ⟨q, h2, h3⟩ := Option.bind_eq_some_iff.mp h
  exact g_invS (hs q h2) hd hl hY hI hst hw hR (kk _ _ h3)
theorem r_invN {X : Type} {r : Option (Nat × GH)} {K : Nat → GH → Option X} {z : X} (as : List Value) (h : csU r K = some z) (hs : ∀ q, r = some q → GM E y ycc ymL none fr1 lo1 mc1 ms1 (.ref b :: as) n G (none, q.1, q.2)) (hd : dec 3 cc pc (.invokespecial idx) nx) (hl : pL own idx y) (hY : pY y ycc ymL none as.length) (hI : Cond.instanceMethod y ∈ g_tbl) (hy : y.name = "<init>") (hst : st0 = as.reverse ++ .ref b :: rest) (hw : g_cat rest = true) (hR : g_room fr1 lo1 mc1 ms1 ymL fr lo rc rs = true)
    (kk : ∀ n1 G1, K n1 G1 = some z → WG E own nm cc mL ret fr lo (rc - mc1) (rs - ms1) nx lv rest n1 G1 out) : WG E own nm cc mL ret fr lo rc rs pc lv st0 n G out := by
  obtain ⟨q, h2, h3⟩ := Option.bind_eq_some_iff.mp h
  exact g_invI (hs q h2) hd hl hY hI hy hst hw hR (kk _ _ h3)
end GK
/-- a loop's meaning: some number of rounds -/
def fixN {F : Type} (z : F) (b : F → F) : Nat → F
  | 0 => z
  | k + 1 => b (fixN z b k)
theorem fixN_ind {F : Type} {z : F} {b : F → F} (P : F → Prop) (hz : P z) (hs : ∀ r, P r → P (b r)) : ∀ k, P (fixN z b k)
  | 0 => hz
  | k + 1 => hs _ (fixN_ind P hz hs k)
