/-! Rows of the pool's texts: their cells stand where they stood at the law's entry. -/
def sV (k : Nat) : Option Nat := if k < 19 then some k else none
def sC (k : Nat) : Option Int32 := if k < 19 then some 0 else none
def sL (k : Nat) : Option Int32 := if k < 19 then some (Int32.ofNat (g_len.getD k 0)) else none
def sB (k : Nat) (i : Int32) : Option Int32 := if k < 19 ∧ ¬ (i < 0 ∨ g_len.getD k 0 ≤ i.toNatClampNeg) then some ((g_byt.getD k []).getD i.toNatClampNeg 0) else none
def cvS {X : Type} (k : Nat) (r : Option Int32) (K : Int32 → Option X) : Option X := if k < 19 then r.bind K else none
def pIs (y : MethodName) : Prop := Cond.instanceMethod y ∈ g_tbl ∧ Cond.selects y.cls y y ∈ g_tbl ∧ y.cls = "java/lang/String"
section GT
variable {E : GE} {own nm : String} {cc : ByteArray} {mL : Nat} {ret : Option FieldType} {fr lo rc rs pc nx tg : Nat} {off : Int} {lv : List (Nat × Value)} {st rest : List Value} {n : Nat} {G : GH} {out : GQ}
variable {y : MethodName} {ycc : ByteArray} {ymL : Nat} {yret : Option FieldType} {fr1 lo1 mc1 ms1 idx : Nat} {o1 : GO} {b ci : Nat} {st0 : List Value}
theorem g_old {H : Heap} (hr : g_rep E G n H) {t : Nat} {cell : Cell} (h : (g_H E)[t]? = some cell) : H[t]? = some cell := by
  rw [hr.2.2.1 t (Array.getElem?_eq_some_iff.mp h).1]
  exact h
theorem r_sgetV {k : Nat} {X : Type} {K : Nat → Option X} {z : X} (h : Option.bind (sV k) K = some z) (hd : dec 3 cc pc (.getfield idx) nx) (hl : Cond.fieldLink own idx "java/lang/String" "value" "[B" ∈ g_tbl)
    (kk : ∀ v, K v = some z → WG E own nm cc mL ret fr lo rc rs nx lv (.ref (E.2.2.2.2.1 v) :: st) n G out) : WG E own nm cc mL ret fr lo rc rs pc lv (.ref (E.2.2.2.1 k) :: st) n G out := by
  obtain ⟨v, h1, h2⟩ := Option.bind_eq_some_iff.mp h
  unfold sV at h1
  split at h1
  · rename_i hk
    cases h1
    intro p l e R s m args below meth c H locs cells slots ls C hc hs hr ho hv
    obtain ⟨hd, rfl⟩ := hd
    obtain ⟨hx, hb, hret, hml, hown, hts, hlk, hnm, hK, hfr, hlo⟩ := id C
    obtain ⟨cf, kf, fi, f, cell, g1, g2, g3, g4, g5, -⟩ := (hK.2.1.2.1.1 k hk).2.2.1
    exact W.getf hx hb hown (hts _ hl) g1 g2 (g_old hr g3) g4 g5 rfl rfl hd (kk _ h2 p l e R s m args below meth c H locs cells slots ls C hc hs hr ho hv)
  · cases h1
theorem r_sgetC {k : Nat} {X : Type} {K : Int32 → Option X} {z : X} (h : Option.bind (sC k) K = some z) (hd : dec 3 cc pc (.getfield idx) nx) (hl : Cond.fieldLink own idx "java/lang/String" "coder" "B" ∈ g_tbl)
    (kk : ∀ v, K v = some z → WG E own nm cc mL ret fr lo rc rs nx lv (.int v :: st) n G out) : WG E own nm cc mL ret fr lo rc rs pc lv (.ref (E.2.2.2.1 k) :: st) n G out := by
  obtain ⟨v, h1, h2⟩ := Option.bind_eq_some_iff.mp h
  unfold sC at h1
  split at h1
  · rename_i hk
    cases h1
    intro p l e R s m args below meth c H locs cells slots ls C hc hs hr ho hv
    obtain ⟨hd, rfl⟩ := hd
    obtain ⟨hx, hb, hret, hml, hown, hts, hlk, hnm, hK, hfr, hlo⟩ := id C
    obtain ⟨cf, kf, fi, f, cell, g1, g2, g3, g4, g5, -⟩ := (hK.2.1.2.1.1 k hk).2.1
    exact W.getf hx hb hown (hts _ hl) g1 g2 (g_old hr g3) g4 g5 rfl rfl hd (kk _ h2 p l e R s m args below meth c H locs cells slots ls C hc hs hr ho hv)
  · cases h1
theorem r_slen {k : Nat} {X : Type} {K : Int32 → Option X} {z : X} (h : Option.bind (sL k) K = some z) (hd : dec 1 cc pc .arraylength nx)
    (kk : ∀ v, K v = some z → WG E own nm cc mL ret fr lo rc rs nx lv (.int v :: st) n G out) : WG E own nm cc mL ret fr lo rc rs pc lv (.ref (E.2.2.2.2.1 k) :: st) n G out := by
  obtain ⟨v, h1, h2⟩ := Option.bind_eq_some_iff.mp h
  unfold sL at h1
  split at h1
  · rename_i hk
    cases h1
    intro p l e R s m args below meth c H locs cells slots ls C hc hs hr ho hv
    obtain ⟨hd, rfl⟩ := hd
    obtain ⟨hx, hb, hret, hml, hown, hts, hlk, hnm, hK, hfr, hlo⟩ := id C
    obtain ⟨cell, g1, g2, g3, g4, g5, g6, -⟩ := (hK.2.1.2.1.1 k hk).2.2.2
    exact W.alen (n := Int32.ofNat (g_len.getD k 0)) hx hb (g_old hr g1) g2 g5 rfl rfl hd (kk _ h2 p l e R s m args below meth c H locs cells slots ls C hc hs hr ho hv)
  · cases h1
theorem r_sbald {k : Nat} {i : Int32} {X : Type} {K : Int32 → Option X} {z : X} (h : Option.bind (sB k i) K = some z) (hd : dec 1 cc pc .baload nx)
    (kk : ∀ v, K v = some z → WG E own nm cc mL ret fr lo rc rs nx lv (.int v :: st) n G out) : WG E own nm cc mL ret fr lo rc rs pc lv (.int i :: .ref (E.2.2.2.2.1 k) :: st) n G out := by
  obtain ⟨v, h1, h2⟩ := Option.bind_eq_some_iff.mp h
  unfold sB at h1
  split at h1
  · rename_i hk
    obtain ⟨hk, hin⟩ := hk
    cases h1
    intro p l e R s m args below meth c H locs cells slots ls C hc hs hr ho hv
    obtain ⟨hd, rfl⟩ := hd
    obtain ⟨hx, hb, hret, hml, hown, hts, hlk, hnm, hK, hfr, hlo⟩ := id C
    obtain ⟨cell, g1, g2, g3, g4, g5, g6, -⟩ := (hK.2.1.2.1.1 k hk).2.2.2
    have hlt : i.toNatClampNeg < g_len.getD k 0 := Nat.not_le.mp fun q => hin (Or.inr q)
    have hin' : ¬ (i < 0 ∨ cell.slots.size ≤ i.toNatClampNeg) := by
      intro q
      rcases q with q | q
      · exact hin (Or.inl q)
      · omega
    exact W.bald hx hb (g_old hr g1) g2 g3 hin' (g6 _ hlt) rfl rfl hd (kk _ h2 p l e R s m args below meth c H locs cells slots ls C hc hs hr ho hv)
  · cases h1
theorem r_gCS (hd : dec 3 cc pc (.getstatic idx) nx) (hl : Cond.fieldLink own idx "java/lang/String" "COMPACT_STRINGS" "Z" ∈ g_tbl)
    (kk : WG E own nm cc mL ret fr lo rc rs nx lv (.int 1 :: st) n G out) : WG E own nm cc mL ret fr lo rc rs pc lv st n G out := by
  intro p l e R s m args below meth c H locs cells slots ls C hc hs hr ho hv
  obtain ⟨hd, rfl⟩ := hd
  obtain ⟨hx, hb, hret, hml, hown, hts, hlk, hnm, hK, hfr, hlo⟩ := id C
  obtain ⟨cf, kf, fi, f, a, cell, h1, h2, h3, h4, h5, h6, h7, h8⟩ := hK.2.1.2.2.1
  exact W.gets hx hb hown (hts _ hl) h1 h2 h3 h4 (g_old hr h5) (fun e => by rw [e] at h6; cases h6) h7 rfl hd (kk p l e R s m args below meth c H locs cells slots ls C hc hs hr ho hv)
/-- a static that is null or some cell: it is only handed on -/
theorem r_gFM (hd : dec 3 cc pc (.getstatic idx) nx) (hl : Cond.fieldLink own idx "jdk/internal/util/Preconditions" "SIOOBE_FORMATTER" "Ljava/util/function/BiFunction;" ∈ g_tbl)
    (kk : ∀ r : Option Nat, WG E own nm cc mL ret fr lo rc rs nx lv (va_rf r :: st) n G out) : WG E own nm cc mL ret fr lo rc rs pc lv st n G out := by
  intro p l e R s m args below meth c H locs cells slots ls C hc hs hr ho hv
  obtain ⟨hd, rfl⟩ := hd
  obtain ⟨hx, hb, hret, hml, hown, hts, hlk, hnm, hK, hfr, hlo⟩ := id C
  rcases hK.2.1.2.2.2 with hZ | ⟨t, hZ⟩
  · obtain ⟨cf, kf, fi, f, a, cell, h1, h2, h3, h4, h5, h6, h7, h8⟩ := hZ
    exact W.gets hx hb hown (hts _ hl) h1 h2 h3 h4 (g_old hr h5) (fun e => by rw [e] at h6; cases h6) h7 rfl hd (kk none p l e R s m args below meth c H locs cells slots ls C hc hs hr ho hv)
  · obtain ⟨cf, kf, fi, f, a, cell, h1, h2, h3, h4, h5, h6, h7, h8⟩ := hZ
    exact W.gets hx hb hown (hts _ hl) h1 h2 h3 h4 (g_old hr h5) (fun e => by rw [e] at h6; cases h6) h7 rfl hd (kk (some t) p l e R s m args below meth c H locs cells slots ls C hc hs hr ho hv)
theorem r_pop {v : Value} (hd : dec 1 cc pc .pop nx) (hz : v.category = 1) (k : WG E own nm cc mL ret fr lo rc rs nx lv st n G out) : WG E own nm cc mL ret fr lo rc rs pc lv (v :: st) n G out := by
  intro p l e R s m args below meth c H locs cells slots ls C hc hs hr ho hv
  obtain ⟨hd, rfl⟩ := hd
  exact lv_pop C.1 C.2.1 hd hz (k p l e R s m args below meth c H locs cells slots ls C hc hs hr ho hv)
theorem r_i2c {x : Int32} (hd : dec 1 cc pc .i2c nx) (k : WG E own nm cc mL ret fr lo rc rs nx lv (.int (x.toUInt32 % 65536).toInt32 :: st) n G out) : WG E own nm cc mL ret fr lo rc rs pc lv (.int x :: st) n G out := by
  intro p l e R s m args below meth c H locs cells slots ls C hc hs hr ho hv
  obtain ⟨hd, rfl⟩ := hd
  exact lv_i2c C.1 C.2.1 hd rfl (k p l e R s m args below meth c H locs cells slots ls C hc hs hr ho hv)
theorem r_pcret {v z : Int32} (h : rP .char v = some z) (hd : dec 1 cc pc .ireturn nx) : WG E own nm cc mL (some .char) fr lo rc rs pc lv [.int v] n G (g_O E (some (.int z), n, G)) := by
  unfold rP at h
  split at h
  · rename_i hq
    cases h
    intro p l e R s m args below meth c H locs cells slots ls C hc hs hr ho hv
    refine W.widen (k := R.cells) (n := R.slots) (by omega) (by omega) ?_
    exact W.zret (v := v) C.1 C.2.1 C.2.2.1 (by unfold vp_nar at hq; simp [narrow] at hq ⊢; exact hq) (fun t ht hW => ⟨rfl, by rw [ht]; exact hr⟩) ho hd.1 C.2.2.2.2.2.2.1
  · cases h
theorem r_puret {z : Unit} (h : some () = some z) (hd : dec 1 cc pc .return_ nx) : WG E own nm cc mL none fr lo rc rs pc lv [] n G (g_O E (none, n, G)) := r_vret (z := (n, G)) rfl hd
theorem r_invSPU {X : Type} {r : Option Unit} {K : Unit → Option X} {z : X} (as : List Value) (h : Option.bind r K = some z) (hs : ∀ q, r = some q → GM E y ycc ymL yret fr1 lo1 mc1 ms1 as n G (none, n, G)) (hd : dec 3 cc pc (.invokestatic idx) nx) (hl : pL own idx y) (hY : pY y ycc ymL yret as.length) (hI : Cond.static y ∈ g_tbl) (hst : st0 = as.reverse ++ rest) (hw : g_cat rest = true) (hR : g_room fr1 lo1 mc1 ms1 ymL fr lo rc rs = true)
    (kk : ∀ v, K v = some z → WG E own nm cc mL ret fr lo (rc - mc1) (rs - ms1) nx lv rest n G out) : WG E own nm cc mL ret fr lo rc rs pc lv st0 n G out := by
  obtain ⟨q, h2, h3⟩ := Option.bind_eq_some_iff.mp h
  exact g_invS (hs q h2) hd hl hY hI hst hw hR (kk _ h3)
/-- a call on a text of the pool -/
theorem r_invPS {X : Type} {k : Nat} {r : Option Int32} {K : Int32 → Option X} {z : X} (as : List Value) (h : cvS k r K = some z) (hM0 : ∀ q, r = some q → GM E y ycc ymL yret fr1 lo1 mc1 ms1 (.ref (E.2.2.2.1 k) :: as) n G (some (.int q), n, G)) (hd : dec 3 cc pc (.invokevirtual idx) nx) (hl : pL own idx y) (hY : pY y ycc ymL yret as.length) (hI : pIs y) (hst : st0 = as.reverse ++ .ref (E.2.2.2.1 k) :: rest) (hw : g_cat rest = true) (hR : g_room fr1 lo1 mc1 ms1 ymL fr lo rc rs = true)
    (kk : ∀ v, K v = some z → WG E own nm cc mL ret fr lo (rc - mc1) (rs - ms1) nx lv (.int v :: rest) n G out) : WG E own nm cc mL ret fr lo rc rs pc lv st0 n G out := by
  unfold cvS at h
  split at h
  · rename_i hk
    obtain ⟨q0, h2, h3⟩ := Option.bind_eq_some_iff.mp h
    have hM := hM0 q0 h2
    intro p l e R s m args below meth c H locs cells slots ls C hc hs hr ho hv
    obtain ⟨hd, rfl⟩ := hd
    obtain ⟨hx, hb, hret, hml, hown, hts, hlk, hnm, hK, hfr, hlo, hfl, -⟩ := id C
    obtain ⟨r1, r2, r3, r4⟩ := g_room_is hR
    obtain ⟨k1, k2, k3, k4, k5⟩ := g_callB (mc1 := mc1) (ms1 := ms1) C hY r1 r2
    obtain ⟨kl, hkl, -⟩ := id hv
    have hw' : (rest.map fun v => v.category).sum ≤ 8 := Nat.le_of_ble_eq_true hw
    have hp : PreV s H y.cls (E.2.2.2.1 k) (va_Pc (.ref (E.2.2.2.1 k) :: as) (fun U => g_rep E G n U.heap ∧ g_K E U)) as := by
      refine ⟨g_blind, ?_, fun U hU hW => ⟨rfl, by rw [hU]; exact hr, g_K.warm hW hK⟩⟩
      obtain ⟨cell, g1, g2, g3, -⟩ := (hK.2.1.2.1.1 k hk).1
      exact ⟨cell, g_old hr g1, g2, by rw [hI.2.2]; exact g3⟩
    refine g_goes (E := E) (o1 := (some (.int q0), n, G)) (rest := rest) (mc := mc1) (ms := ms1) (a := (.ref (E.2.2.2.1 k) :: as).toArray) ?_ ho (fun H1 locs1 h1 h2 => kk _ h3 p l e R s m args below meth c H1 locs1 _ _ ls C (by omega) (by omega) h1 h2 hv)
    rcases hl with hl | ⟨host, hl⟩
    · exact va_runV (Ts := g_tbl) ⟨hx, hb, hml, hown, hts⟩ (hM l hfl) ⟨⟨k1.1, k1.2.1, k1.2.2.1, k1.2.2.2.1, k1.2.2.2.2.1, k1.2.2.2.2.2, k2, k3, k4, k5, hts _ hl⟩, hts _ hI.1, hts _ hI.2.1⟩ hp rfl rfl hkl.1 hst (by show 2 * 0 + _ ≤ 8; omega) hd ⟨by omega, by omega⟩
    · exact va_runVN (Ts := g_tbl) ⟨hx, hb, hml, hown, hts⟩ (hM l hfl) ⟨⟨k1, k2, k3, k4, k5, hts _ hl⟩, hts _ hI.1, hts _ hI.2.1⟩ hp rfl rfl hkl.1 hst (by show 2 * 0 + _ ≤ 8; omega) hd ⟨by omega, by omega⟩
  · cases h
end GT
