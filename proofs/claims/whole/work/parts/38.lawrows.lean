/-! Rows for the law's own body: the script, its array of one long, its two methods with a table. -/
def scI (L : Nat) (xs : Nat → Int32) (i : Int32) : Option Int32 := if i < 0 ∨ L ≤ i.toNatClampNeg then none else some (xs i.toNatClampNeg)
section GLW
variable {E : GE} {own nm : String} {cc : ByteArray} {mL : Nat} {ret : Option FieldType} {fr lo rc rs pc nx : Nat} {lv : List (Nat × Value)} {st rest : List Value} {n : Nat} {G : GH} {out : GQ} {bS L : Nat} {xs : Nat → Int32}
variable {y : MethodName} {ycc : ByteArray} {ymL : Nat} {yret : Option FieldType} {fr1 lo1 mc1 ms1 idx : Nat} {st0 : List Value}
theorem r_scrL (hS : ∀ U, E.2.2.2.2.2 U → va_X bS L xs U (g_H E)) (hd : dec 1 cc pc .arraylength nx) (kk : WG E own nm cc mL ret fr lo rc rs nx lv (.int (Int32.ofNat L) :: st) n G out) : WG E own nm cc mL ret fr lo rc rs pc lv (.ref bS :: st) n G out := by
  intro p l e R s m args below meth c H locs cells slots ls C hc hs hr ho hv
  obtain ⟨hd, rfl⟩ := hd
  obtain ⟨hx, hb, hret, hml, hown, hts, hlk, hnm, hK, -⟩ := id C
  obtain ⟨scr, g1, g2, g3, g4, g5⟩ := hS s hK.2.2.2.2.1
  exact W.alen (n := Int32.ofNat L) hx hb (g_old hr g1) g2 (by rw [g4]) rfl rfl hd (kk p l e R s m args below meth c H locs cells slots ls C hc hs hr ho hv)
theorem r_scrI (hS : ∀ U, E.2.2.2.2.2 U → va_X bS L xs U (g_H E)) {i : Int32} {X : Type} {K : Int32 → Option X} {z : X} (h : Option.bind (scI L xs i) K = some z) (hd : dec 1 cc pc .iaload nx)
    (kk : ∀ v, K v = some z → WG E own nm cc mL ret fr lo rc rs nx lv (.int v :: st) n G out) : WG E own nm cc mL ret fr lo rc rs pc lv (.int i :: .ref bS :: st) n G out := by
  obtain ⟨v, h1, h2⟩ := Option.bind_eq_some_iff.mp h
  unfold scI at h1
  split at h1
  · cases h1
  · rename_i hin
    cases h1
    intro p l e R s m args below meth c H locs cells slots ls C hc hs hr ho hv
    obtain ⟨hd, rfl⟩ := hd
    obtain ⟨hx, hb, hret, hml, hown, hts, hlk, hnm, hK, -⟩ := id C
    obtain ⟨scr, g1, g2, g3, g4, g5⟩ := hS s hK.2.2.2.2.1
    have hlt : i.toNatClampNeg < L := Nat.not_le.mp fun q => hin (Or.inr q)
    exact W.iald hx hb (g_old hr g1) g2 g3 (by rw [g4]; exact hin) (g5 _ hlt) rfl rfl hd (kk _ h2 p l e R s m args below meth c H locs cells slots ls C hc hs hr ho hv)
theorem r_newaJ {v : Int32} {N : Nat} (hd : dec 2 cc pc (.newarray .long) nx) (hw : Cond.arrayClass .long ∈ g_tbl) (h0 : ¬ v < 0) (hN : v.toNatClampNeg = N) (hB : Nat.ble N 100000 = true) (h1 : Nat.ble 1 rc = true) (h2 : Nat.ble N rs = true)
    (kk : WG E own nm cc mL ret fr lo (rc - 1) (rs - N) nx lv (.ref n :: st) (n + 1) (gset G n (.inl (3, N, .inr (.inl (fun _ => 0))))) out) : WG E own nm cc mL ret fr lo rc rs pc lv (.int v :: st) n G out := by
  intro p l e R s m args below meth c H locs cells slots ls C hc hs hr ho hv
  obtain ⟨hd, rfl⟩ := hd
  obtain ⟨hx, hb, hret, hml, hown, hts, hlk, hnm, hK, hfr, hlo⟩ := id C
  have a1 := Nat.le_of_ble_eq_true h1
  have a2 := Nat.le_of_ble_eq_true h2
  have a3 := Nat.le_of_ble_eq_true hB
  refine va_newaK (atype := .long) hx hb (hts _ hw) rfl hd rfl h0 hN (by simp [newarray.typeOf, componentBytes]; omega) (by omega) (by omega) hr.1 fun H1 cA e1 z1 o1 _ hf => ?_
  refine kk p l e R s m args below meth c H1 locs (cells + 1) (slots + N) ls C (by omega) (by omega) (hr.new z1 o1 ?_) ho hv
  have h5 : s.vm.findClass ("[" ++ (FieldType.toString .long)) = some (E.2.1 3) := (hK.1.2 3 _ rfl).2
  have h6 : cA = E.2.1 3 := Option.some.inj (hf.symm.trans h5)
  subst h6
  exact e1
theorem r_invSWI {X : Type} {r : Option (Int32 × Nat × GH)} {K : Int32 → Nat → GH → Option X} {z : X} (as : List Value) (h : csI r K = some z) (hs : ∀ q, r = some q → GMW E y ycc ymL yret fr1 lo1 mc1 ms1 as n G (some (.int q.1), q.2.1, q.2.2)) (hd : dec 3 cc pc (.invokestatic idx) nx) (hl : Cond.methodLink own idx y ∈ g_tbl) (hk : Cond.codeWith y ycc ymL yret xH ∈ g_tbl) (hini : Cond.initialized y.cls ∈ g_tbl) (hy : y.cls ≠ "java/lang/invoke/MethodHandle" ∧ y.cls ≠ "java/lang/invoke/VarHandle") (hn : (parseMethodDescriptor y.desc).map (fun d => d.parameters.length) = some as.length) (hI : Cond.static y ∈ g_tbl) (hst : st0 = as.reverse ++ rest) (hw : g_cat rest = true) (hR : g_room fr1 lo1 mc1 ms1 ymL fr lo rc rs = true)
    (kk : ∀ v n1 G1, K v n1 G1 = some z → WG E own nm cc mL ret fr lo (rc - mc1) (rs - ms1) nx lv (.int v :: rest) n1 G1 out) : WG E own nm cc mL ret fr lo rc rs pc lv st0 n G out := by
  obtain ⟨q, h2, h3⟩ := Option.bind_eq_some_iff.mp h
  exact g_invSW (hs q h2) hd hl hk hini hy hn hI hst hw hR (kk _ _ _ h3)
end GLW
