/-! Contracts of methods that throw; of the law's two methods with a table; the call that is caught. -/
def GX (E : GE) (y : MethodName) (cc : ByteArray) (mL : Nat) (ret : Option FieldType) (fr lo mc ms : Nat) (vs : List Value) (n : Nat) (G : GH) (n1 : Nat) : Prop :=
  ∀ l : Launch, l.flags = flags0 → vx_Met l y (g_ws y cc mL ret) { frames := fr, cells := mc, slots := ms, locals := lo } (va_Pc vs (fun U => g_rep E G n U.heap ∧ g_K E U)) (fun _ _ _ _ => False) (g_XC E n1 G) mc ms (fun q => g_b E ≤ q)
theorem GX.of {E : GE} {y : MethodName} {cc : ByteArray} {mL : Nat} {ret : Option FieldType} {fr lo mc ms : Nat} {vs : List Value} {n n1 : Nat} {G : GH} (hy : plainName y.cls = true) (hlen : (lg_sl vs).length ≤ mL)
    (hw : WG E y.cls y.name cc mL ret fr lo mc ms 0 (lv_args 0 vs) [] n G (g_TX E n1 G)) (hRL : y.cls ≠ RL := by decide) : GX E y cc mL ret fr lo mc ms vs n G n1 := by
  intro l hfl
  refine vx_ofW (cc := cc) (maxL := mL) (ret := ret) hy rfl ?_
  intro p e s m args below meth c s₁ B hml ht hv
  obtain ⟨rfl, hrep, hK⟩ := hv
  have hts := atoms_spec (ws := g_ws y cc mL ret) B.pre
  have hl := lv_entry vs (n := mL) hlen
  rw [lg_entry_eq]
  exact hw p l e _ s m _ below meth c s.heap [] 0 0 _ ⟨B.exec, B.bytes, B.returns, hml, findClass_of_methodNamed B.named, fun w h => hts w (List.mem_cons_of_mem _ h), B.notSynchronized, (name_of_methodNamed B.named B.method).1, hK, Nat.le_refl _, Nat.le_refl _, hfl, ⟨by rw [hrep.1]; exact hrep.2.1, hrep.2.2.1⟩, fun _ => ht, fun h => absurd h hRL⟩ (Nat.le_of_eq (Nat.zero_add _)) (Nat.le_of_eq (Nat.zero_add _)) hrep (fun q h => by cases h) (g_lv_args _ hl)
abbrev xH : List (Nat × Nat × Nat × Nat) := [(0, 10, 13, 13)]
def g_wsW (y : MethodName) (cc : ByteArray) (mL : Nat) (ret : Option FieldType) : List Cond := .codeWith y cc mL ret xH :: g_tbl
def GMW (E : GE) (y : MethodName) (cc : ByteArray) (mL : Nat) (ret : Option FieldType) (fr lo mc ms : Nat) (vs : List Value) (n : Nat) (G : GH) (out : GO) : Prop :=
  ∀ l : Launch, l.flags = flags0 → Met l y (g_wsW y cc mL ret) { frames := fr, cells := mc, slots := ms, locals := lo } (va_Pc vs (fun U => g_rep E G n U.heap ∧ g_K E U)) (g_Q E out) mc ms (fun q => g_b E ≤ q)
theorem GMW.of {E : GE} {y : MethodName} {cc : ByteArray} {mL : Nat} {ret : Option FieldType} {fr lo mc ms : Nat} {vs : List Value} {n : Nat} {G : GH} {out : GO} (hy : plainName y.cls = true) (hlen : (lg_sl vs).length ≤ mL) (hRL : y.cls = RL)
    (hw : WG E y.cls y.name cc mL ret fr lo mc ms 0 (lv_args 0 vs) [] n G (g_O E out)) : GMW E y cc mL ret fr lo mc ms vs n G out := by
  intro l hfl
  refine MetFree.of_bodyS (code := cc) (maxLocals := mL) (ret := ret) hy ?_ ?_
  · intro args s m h hn
    obtain ⟨m9, meth, c, hn9, h1, h2, h3, h4, -, h5, h6, -⟩ := Cond.codeWith_spec (atoms_spec (ws := g_wsW y cc mL ret) h _ List.mem_cons_self)
    cases hn.symm.trans hn9
    exact ⟨meth, c, h1, h2, h3, h4, h5, h6⟩
  · intro p e s m args below meth c s₁ B hml hP _
    have hh0 : s₁.heap = s.heap := by rw [B.state]; rfl
    obtain ⟨rfl, hrep, hK⟩ := hP
    have hts := atoms_spec (ws := g_wsW y cc mL ret) B.pre
    have hl := lv_entry vs (n := mL) hlen
    have htb : c.exceptionTable.toList = tableOf xH := vx_table (x := y) B (hts _ List.mem_cons_self)
    have hW := hw p l e { frames := fr, cells := mc, slots := ms, locals := lo } s m _ below meth c s.heap [] 0 0 _ ⟨B.exec, B.bytes, B.returns, hml, findClass_of_methodNamed B.named, fun w h => hts w (List.mem_cons_of_mem _ h), B.notSynchronized, (name_of_methodNamed B.named B.method).1, hK, Nat.le_refl _, Nat.le_refl _, hfl, ⟨by rw [hrep.1]; exact hrep.2.1, hrep.2.2.1⟩, fun h => absurd hRL h, fun _ _ => htb⟩ (Nat.le_of_eq (Nat.zero_add _)) (Nat.le_of_eq (Nat.zero_add _)) hrep (fun q h => by cases h) (g_lv_args _ hl)
    rw [← lg_entry_eq] at hW
    obtain ⟨t, a1, o, b1, b2, b3⟩ := hW s₁ hh0 (Stand.of_body B)
    exact ⟨t, o, a1, b1, b2, ⟨b3.1, b3.2⟩⟩
section GW
variable {E : GE} {own nm : String} {cc : ByteArray} {mL : Nat} {ret : Option FieldType} {fr lo rc rs pc nx : Nat} {lv : List (Nat × Value)} {rest : List Value} {n : Nat} {G : GH} {out : GQ}
variable {y : MethodName} {ycc : ByteArray} {ymL : Nat} {yret : Option FieldType} {fr1 lo1 mc1 ms1 idx : Nat} {o1 : GO} {b ci : Nat} {st0 : List Value}
/-- a call of a static method with a table -/
theorem g_invSW {as : List Value} (hM : GMW E y ycc ymL yret fr1 lo1 mc1 ms1 as n G o1) (hd : dec 3 cc pc (.invokestatic idx) nx) (hl : Cond.methodLink own idx y ∈ g_tbl) (hk : Cond.codeWith y ycc ymL yret xH ∈ g_tbl) (hini : Cond.initialized y.cls ∈ g_tbl) (hy : y.cls ≠ "java/lang/invoke/MethodHandle" ∧ y.cls ≠ "java/lang/invoke/VarHandle") (hn : (parseMethodDescriptor y.desc).map (fun d => d.parameters.length) = some as.length) (hI : Cond.static y ∈ g_tbl) (hst : st0 = as.reverse ++ rest) (hw : g_cat rest = true) (hR : g_room fr1 lo1 mc1 ms1 ymL fr lo rc rs = true)
    (kk : WG E own nm cc mL ret fr lo (rc - mc1) (rs - ms1) nx lv (o1.1.toList ++ rest) o1.2.1 o1.2.2 out) : WG E own nm cc mL ret fr lo rc rs pc lv st0 n G out := by
  intro p l e R s m args below meth c H locs cells slots ls C hc hs hr ho hv
  obtain ⟨hd, rfl⟩ := hd
  obtain ⟨hx, hb, hret, hml, hown, hts, hlk, hnm, hK, hfr, hlo, hfl, -⟩ := id C
  obtain ⟨r1, r2, r3, r4⟩ := g_room_is hR
  obtain ⟨kl, hkl, -⟩ := id hv
  have hw' : (rest.map fun v => v.category).sum ≤ 8 := Nat.le_of_ble_eq_true hw
  have hp : PreS s H (va_Pc as (fun U => g_rep E G n U.heap ∧ g_K E U)) as := ⟨g_blind, fun U hU hW => ⟨rfl, by rw [hU]; exact hr, g_K.warm hW hK⟩⟩
  refine g_goes (E := E) (o1 := o1) (rest := rest) (mc := mc1) (ms := ms1) (a := as.toArray) ?_ ho (fun H1 locs1 h1 h2 => kk p l e R s m args below meth c H1 locs1 _ _ ls C (by omega) (by omega) h1 h2 hv)
  exact vx_runSW (Ts := g_tbl) (hh := xH) ⟨hx, hb, hml, hown, hts⟩ (hM l hfl) ⟨⟨rfl, rfl, by show fr1 + 1 ≤ _; omega, by show 8 + (ymL + 11) + lo1 ≤ _; omega, fun w hw2 a' U hW => by
      rcases List.mem_cons.mp hw2 with rfl | hw2
      · exact g_warm hts _ hk a' U hW
      · exact g_warm hts _ hw2 a' U hW, List.mem_cons_self⟩, hts _ hk, hts _ hini, hy, fun sig h => by rw [h] at hn; exact (Option.some.inj hn).symm, hts _ hl, hts _ hI⟩ hp rfl rfl hkl.1 hst (by show 2 * 0 + _ ≤ 8; omega) hd ⟨by omega, by omega⟩
theorem x_cl : Cond.classLink RL 13 xN ∈ g_tbl := g_in 1050 (by decide +kernel) rfl
theorem x_ca : Cond.castable xN xN ∈ g_tbl := g_in 1057 (by decide +kernel) rfl
/-- a call that throws, in the law's methods: caught at 13 -/
theorem r_caught {as fs : List Value} {n1 : Nat} (hM : GX E y ycc ymL yret fr1 lo1 mc1 ms1 (.ref b :: as) n G n1) (hd : decode cc 5 = .ok (.invokevirtual idx, 3)) (hl : Cond.methodLink RL idx y ∈ g_tbl) (hY : pY y ycc ymL yret as.length) (hI : pI y ci) (hb0 : G b = some (.inr (ci, fs))) (hst : st0 = as.reverse ++ .ref b :: rest) (hw : g_cat rest = true) (hR : g_room fr1 lo1 mc1 ms1 ymL fr lo rc rs = true) (hnl : nm ≠ "law")
    (kk : ∀ q : Nat, WG E RL nm cc mL ret fr lo (rc - mc1) (rs - ms1) 13 lv [.ref q] n1 G out) : WG E RL nm cc mL ret fr lo rc rs 5 lv st0 n G out := by
  intro p l e R s m args below meth c H locs cells slots ls C hc hs hr ho hv
  obtain ⟨hx, hb, hret, hml, hown, hts, hlk, hnm, hK, hfr, hlo, hfl, -, -, htab⟩ := id C
  obtain ⟨r1, r2, r3, r4⟩ := g_room_is hR
  obtain ⟨k1, k2, k3, k4, k5⟩ := g_callB (mc1 := mc1) (ms1 := ms1) C hY r1 r2
  obtain ⟨kl, hkl, -⟩ := id hv
  have hw' : (rest.map fun v => v.category).sum ≤ 8 := Nat.le_of_ble_eq_true hw
  have hp : PreV s H y.cls b (va_Pc (.ref b :: as) (fun U => g_rep E G n U.heap ∧ g_K E U)) as := by
    refine ⟨g_blind, ?_, fun U hU hW => ⟨rfl, by rw [hU]; exact hr, g_K.warm hW hK⟩⟩
    obtain ⟨q, h1, h2⟩ := hI.2.2
    obtain ⟨q', h3, ⟨cell, g1, g2, g3, -⟩, -⟩ := (hr.2.2.2 b _ hb0).2
    exact ⟨cell, g1, by rw [g3]; rfl, by rw [g2, ← h2]; exact (hK.1.1 ci q h1).2.1⟩
  have hrun := vx_runV (Ts := g_tbl) (p := p) (e := e) (below := below) (meth := meth) (locs := locs) (cells := cells) (slots := slots) (g := F0 m 5 ls st0) (rest := rest) ⟨hx, hb, hml, hown, hts⟩ (hM l hfl) ⟨⟨k1.1, k1.2.1, k1.2.2.1, k1.2.2.2.1, k1.2.2.2.2.1, k1.2.2.2.2.2, k2, k3, k4, k5, hts _ hl⟩, hts _ hI.1, hts _ hI.2.1⟩ hp rfl rfl hkl.1 hst (by show 2 * 0 + _ ≤ 8; omega) hd ⟨by omega, by omega⟩
  intro T hT X
  rcases hrun T hT X with ⟨v, st₀, t, T', L, -, -, -, -, -, hF, -⟩ | ⟨q, st₀, t, T', L, E9, ce, h0, X', hL, e1, e2, ⟨rfl, hrep⟩, hce, hcv, hcl, st⟩
  · exact hF.elim
  · have hc9 : T'.heap[q]? = some ce := by rw [e1]; exact hce
    have hcatch := vx_catch (p := p) (l := l) (e := e) (R := R) (s := s) (args := args) (below := below) (meth := meth) (locs := locs ++ L) (cells := cells + mc1) (slots := slots + ms1) (Q := out below args s R) (pc := 5) (ls := ls) (rest := rest) (own := RL) (name := xN) (E := xN) (ce := ce) (q := q) (H := T'.heap) hown [] ⟨0, 10, 13, 13⟩ [] (htab rfl hnl) (fun z hz => by cases hz) (by decide) (by decide) (hts _ x_cl) (hts _ x_ca) hc9 hcv hcl
      (kk q p l e R s m args below meth c T'.heap (locs ++ L) (cells + mc1) (slots + ms1) ls C (by omega) (by omega) (by rw [e1]; exact hrep) (fun z hz => (List.mem_append.mp hz).elim (ho z) (hL z)) hv)
    obtain ⟨t2, a1, b1⟩ := hcatch T' rfl X'
    exact ⟨t2, st.trans a1, b1⟩
end GW
