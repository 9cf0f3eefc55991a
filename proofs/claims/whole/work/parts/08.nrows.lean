/-! Rows of new cells, of constants out of the pool, of switches, of Math and System; of calls. -/
def pN (own : String) (idx ci : Nat) (fs : List Value) : Prop := ∃ C T N, vwCl[ci]? = some (C, T, N) ∧ Cond.classLink own idx C ∈ g_tbl ∧ Cond.instantiable C N ∈ g_tbl ∧ Cond.initialized C ∈ g_tbl ∧ fs.length = N ∧ ∃ ty : Nat → FieldType, (∀ k, k < N → parseFieldDescriptor (T k).2.2.1 = some (ty k)) ∧ ∀ j, j < N → defaultValue (ty j) = vp_V fs j
section GN
variable {E : GE} {own nm : String} {cc : ByteArray} {mL : Nat} {ret : Option FieldType} {fr lo rc rs pc nx tg : Nat} {off : Int} {lv : List (Nat × Value)} {st : List Value} {n : Nat} {G : GH} {out : GQ}
theorem r_new {idx ci : Nat} {fs : List Value} (hd : dec 3 cc pc (.new idx) nx) (hN : pN own idx ci fs) (h1 : Nat.ble 1 rc = true) (h2 : Nat.ble fs.length rs = true)
    (kk : WG E own nm cc mL ret fr lo (rc - 1) (rs - fs.length) nx lv (.ref n :: st) (n + 1) (gset G n (.inr (ci, fs))) out) : WG E own nm cc mL ret fr lo rc rs pc lv st n G out := by
  intro p l e R s m args below meth c H locs cells slots ls C hc hs hr ho hv
  obtain ⟨hd, rfl⟩ := hd
  obtain ⟨hx, hb, hret, hml, hown, hts, hlk, hnm, hK, hfr, hlo⟩ := id C
  obtain ⟨Cn, T, N, g1, g2, g3, g4, g5, ty, g6, g7⟩ := hN
  have a1 := Nat.le_of_ble_eq_true h1
  have a2 := Nat.le_of_ble_eq_true h2
  obtain ⟨c1, -, -⟩ := g_cls ci Cn T N g1
  have hKn := hK.1.1 ci _ g1
  refine W.newcK hx hb hown (hts _ g2) (hts _ g3) (hts _ g4) rfl hd (by omega) (by omega) hKn.2.1 hr.1 fun H1 kC hkC e1 z1 o1 => ?_
  refine kk p l e R s m args below meth c H1 locs (cells + 1) (slots + N) ls C (by omega) (by omega) (hr.new z1 o1 ?_) ho hv
  exact ⟨_, g1, (u_born ty hts c1 hKn hkC e1 g6).to g7, g5⟩
theorem r_newaI {v : Int32} {N : Nat} (hd : dec 2 cc pc (.newarray .int) nx) (hw : Cond.arrayClass .int ∈ g_tbl) (h0 : ¬ v < 0) (hN : v.toNatClampNeg = N) (hB : Nat.ble N 100000 = true) (h1 : Nat.ble 1 rc = true) (h2 : Nat.ble N rs = true)
    (kk : WG E own nm cc mL ret fr lo (rc - 1) (rs - N) nx lv (.ref n :: st) (n + 1) (gset G n (.inl (0, N, .inl (fun _ => 0)))) out) : WG E own nm cc mL ret fr lo rc rs pc lv (.int v :: st) n G out := by
  intro p l e R s m args below meth c H locs cells slots ls C hc hs hr ho hv
  obtain ⟨hd, rfl⟩ := hd
  obtain ⟨hx, hb, hret, hml, hown, hts, hlk, hnm, hK, hfr, hlo⟩ := id C
  have a1 := Nat.le_of_ble_eq_true h1
  have a2 := Nat.le_of_ble_eq_true h2
  have a3 := Nat.le_of_ble_eq_true hB
  refine va_newaK (atype := .int) hx hb (hts _ hw) rfl hd rfl h0 hN (by simp [newarray.typeOf, componentBytes]; omega) (by omega) (by omega) hr.1 fun H1 cA e1 z1 o1 _ hf => ?_
  refine kk p l e R s m args below meth c H1 locs (cells + 1) (slots + N) ls C (by omega) (by omega) (hr.new z1 o1 ?_) ho hv
  have h5 : s.vm.findClass ("[" ++ (FieldType.toString .int)) = some (E.2.1 0) := (hK.1.2 0 _ rfl).2
  have h6 : cA = E.2.1 0 := Option.some.inj (hf.symm.trans h5)
  subst h6
  exact e1
theorem r_newaB {v : Int32} {N : Nat} (hd : dec 2 cc pc (.newarray .byte) nx) (hw : Cond.arrayClass .byte ∈ g_tbl) (h0 : ¬ v < 0) (hN : v.toNatClampNeg = N) (hB : Nat.ble N 100000 = true) (h1 : Nat.ble 1 rc = true) (h2 : Nat.ble N rs = true)
    (kk : WG E own nm cc mL ret fr lo (rc - 1) (rs - N) nx lv (.ref n :: st) (n + 1) (gset G n (.inl (1, N, .inl (fun _ => 0)))) out) : WG E own nm cc mL ret fr lo rc rs pc lv (.int v :: st) n G out := by
  intro p l e R s m args below meth c H locs cells slots ls C hc hs hr ho hv
  obtain ⟨hd, rfl⟩ := hd
  obtain ⟨hx, hb, hret, hml, hown, hts, hlk, hnm, hK, hfr, hlo⟩ := id C
  have a1 := Nat.le_of_ble_eq_true h1
  have a2 := Nat.le_of_ble_eq_true h2
  have a3 := Nat.le_of_ble_eq_true hB
  refine va_newaK (atype := .byte) hx hb (hts _ hw) rfl hd rfl h0 hN (by simp [newarray.typeOf, componentBytes]; omega) (by omega) (by omega) hr.1 fun H1 cA e1 z1 o1 _ hf => ?_
  refine kk p l e R s m args below meth c H1 locs (cells + 1) (slots + N) ls C (by omega) (by omega) (hr.new z1 o1 ?_) ho hv
  have h5 : s.vm.findClass ("[" ++ (FieldType.toString .byte)) = some (E.2.1 1) := (hK.1.2 1 _ rfl).2
  have h6 : cA = E.2.1 1 := Option.some.inj (hf.symm.trans h5)
  subst h6
  exact e1
theorem r_newaZ {v : Int32} {N : Nat} (hd : dec 2 cc pc (.newarray .boolean) nx) (hw : Cond.arrayClass .boolean ∈ g_tbl) (h0 : ¬ v < 0) (hN : v.toNatClampNeg = N) (hB : Nat.ble N 100000 = true) (h1 : Nat.ble 1 rc = true) (h2 : Nat.ble N rs = true)
    (kk : WG E own nm cc mL ret fr lo (rc - 1) (rs - N) nx lv (.ref n :: st) (n + 1) (gset G n (.inl (2, N, .inl (fun _ => 0)))) out) : WG E own nm cc mL ret fr lo rc rs pc lv (.int v :: st) n G out := by
  intro p l e R s m args below meth c H locs cells slots ls C hc hs hr ho hv
  obtain ⟨hd, rfl⟩ := hd
  obtain ⟨hx, hb, hret, hml, hown, hts, hlk, hnm, hK, hfr, hlo⟩ := id C
  have a1 := Nat.le_of_ble_eq_true h1
  have a2 := Nat.le_of_ble_eq_true h2
  have a3 := Nat.le_of_ble_eq_true hB
  refine va_newaK (atype := .boolean) hx hb (hts _ hw) rfl hd rfl h0 hN (by simp [newarray.typeOf, componentBytes]; omega) (by omega) (by omega) hr.1 fun H1 cA e1 z1 o1 _ hf => ?_
  refine kk p l e R s m args below meth c H1 locs (cells + 1) (slots + N) ls C (by omega) (by omega) (hr.new z1 o1 ?_) ho hv
  have h5 : s.vm.findClass ("[" ++ (FieldType.toString .boolean)) = some (E.2.1 2) := (hK.1.2 2 _ rfl).2
  have h6 : cA = E.2.1 2 := Option.some.inj (hf.symm.trans h5)
  subst h6
  exact e1
theorem r_anew4 {v : Int32} {idx N : Nat} (hd : dec 3 cc pc (.anewarray idx) nx) (hl : Cond.classLink own idx RX0 ∈ g_tbl) (h0 : ¬ v < 0) (hN : v.toNatClampNeg = N) (hB : Nat.ble N 100000 = true) (h1 : Nat.ble 1 rc = true) (h2 : Nat.ble N rs = true)
    (kk : WG E own nm cc mL ret fr lo (rc - 1) (rs - N) nx lv (.ref n :: st) (n + 1) (gset G n (.inl (4, N, .inr (.inr (.inr (.inr (fun _ => none))))))) out) : WG E own nm cc mL ret fr lo rc rs pc lv (.int v :: st) n G out := by
  subst hN
  intro p l e R s m args below meth c H locs cells slots ls C hc hs hr ho hv
  obtain ⟨hd, rfl⟩ := hd
  obtain ⟨hx, hb, hret, hml, hown, hts, hlk, hnm, hK, hfr, hlo⟩ := id C
  have a1 := Nat.le_of_ble_eq_true h1
  have a2 := Nat.le_of_ble_eq_true h2
  have a3 := Nat.le_of_ble_eq_true hB
  refine W.anew hx hb hown (hts _ hl) (va_AO.use hK.2.2.1) rfl hd rfl h0 (by omega) (by omega) (by omega) fun cA kA comp f1 f2 f3 f4 => ?_
  obtain ⟨-, -, -, -, -, hf⟩ := (hK.1.2 4 _ rfl).2
  have h6 : cA = E.2.1 4 := Option.some.inj (f1.symm.trans hf)
  subst h6
  rw [hr.1]
  refine kk p l e R s m args below meth c _ locs (cells + 1) (slots + v.toNatClampNeg) ls C (by omega) (by omega) (hr.new (by rw [Array.size_push, hr.1]) (fun q hq => by rw [Array.getElem?_push, if_neg (by rw [hr.1]; exact Nat.ne_of_lt hq)]) ?_) ho hv
  show (H.push _)[n]? = some (vp_cell _ _)
  rw [← hr.1, Array.getElem?_push_size, vp_cell_q]
  show some _ = some (arrV (E.2.1 4) v.toNatClampNeg (fun _ => .null))
  rw [← arrV_new]
theorem r_aast4 {q v : Nat} {i : Int32} {X : Type} {K : GH → Option X} {z : X} (h : Option.bind (aP G q 4 0 i v) K = some z) (hd : dec 1 cc pc .aastore nx)
    (kk : ∀ G', K G' = some z → WG E own nm cc mL ret fr lo rc rs nx lv st n G' out) : WG E own nm cc mL ret fr lo rc rs pc lv (.ref v :: .int i :: .ref q :: st) n G out := by
  obtain ⟨G', h1, h2⟩ := Option.bind_eq_some_iff.mp h
  obtain ⟨N, f, vs, h3, h4, h5, rfl⟩ := aP_is h1
  intro p l e R s m args below meth c H locs cells slots ls C hc hs hr ho hv
  obtain ⟨hd, rfl⟩ := hd
  obtain ⟨hx, hb, hret, hml, hown, hts, hlk, hnm, hK, hfr, hlo⟩ := id C
  have hA := hr.2.2.2 q _ h3
  have hlt : i.toNatClampNeg < N := Nat.not_le.mp fun q => h4 (Or.inr q)
  have h0 : ¬ i < 0 := fun q => h4 (Or.inl q)
  obtain ⟨r', hr', ⟨cellV, g1, g2, g3, -⟩, -⟩ := (hr.2.2.2 v _ h5).2
  cases hr'
  have hcls := (hK.1.1 0 _ rfl).2
  obtain ⟨kA, comp, k1, k2, k3, -⟩ := (hK.1.2 4 _ rfl).2
  have hcomp : comp = E.1.1 0 := Option.some.inj (k3.symm.trans hcls.1)
  subst hcomp
  obtain ⟨kC, hkC, -⟩ := hcls.2
  refine W.aast hx hb hA.2 (fun q h => by cases h) (fun h => by cases h) k1 k2 rfl hkC ⟨h0, by show _ < (arrV _ _ _).slots.size; rw [arrV_size]; exact hlt⟩ g1 (fun q h => by rw [g3] at h; cases h) (by rw [g2]; exact hkC) (by rw [g2]; exact va_assign hcls) rfl rfl hd fun H1 e1 e2 e3 => ?_
  refine kk _ h2 p l e R s m args below meth c H1 _ cells slots ls C hc hs (hr.put h3 e2 e3 ?_) (g_mem1 ho hA.1) hv
  show H1[q]? = some (vp_cell _ _)
  rw [e1]
  rw [vp_cell_q, vp_cell_q, arrV_store]
  congr 2
  funext j
  by_cases hq : j = i.toNatClampNeg
  · subst hq
    simp [updV, va_up, va_rf]
  · simp [updV, va_up, hq]
theorem r_anew5 {v : Int32} {idx N : Nat} (hd : dec 3 cc pc (.anewarray idx) nx) (hl : Cond.classLink own idx RX2 ∈ g_tbl) (h0 : ¬ v < 0) (hN : v.toNatClampNeg = N) (hB : Nat.ble N 100000 = true) (h1 : Nat.ble 1 rc = true) (h2 : Nat.ble N rs = true)
    (kk : WG E own nm cc mL ret fr lo (rc - 1) (rs - N) nx lv (.ref n :: st) (n + 1) (gset G n (.inl (5, N, .inr (.inr (.inr (.inr (fun _ => none))))))) out) : WG E own nm cc mL ret fr lo rc rs pc lv (.int v :: st) n G out := by
  subst hN
  intro p l e R s m args below meth c H locs cells slots ls C hc hs hr ho hv
  obtain ⟨hd, rfl⟩ := hd
  obtain ⟨hx, hb, hret, hml, hown, hts, hlk, hnm, hK, hfr, hlo⟩ := id C
  have a1 := Nat.le_of_ble_eq_true h1
  have a2 := Nat.le_of_ble_eq_true h2
  have a3 := Nat.le_of_ble_eq_true hB
  refine W.anew hx hb hown (hts _ hl) (va_AO.use hK.2.2.2.1) rfl hd rfl h0 (by omega) (by omega) (by omega) fun cA kA comp f1 f2 f3 f4 => ?_
  obtain ⟨-, -, -, -, -, hf⟩ := (hK.1.2 5 _ rfl).2
  have h6 : cA = E.2.1 5 := Option.some.inj (f1.symm.trans hf)
  subst h6
  rw [hr.1]
  refine kk p l e R s m args below meth c _ locs (cells + 1) (slots + v.toNatClampNeg) ls C (by omega) (by omega) (hr.new (by rw [Array.size_push, hr.1]) (fun q hq => by rw [Array.getElem?_push, if_neg (by rw [hr.1]; exact Nat.ne_of_lt hq)]) ?_) ho hv
  show (H.push _)[n]? = some (vp_cell _ _)
  rw [← hr.1, Array.getElem?_push_size, vp_cell_q]
  show some _ = some (arrV (E.2.1 5) v.toNatClampNeg (fun _ => .null))
  rw [← arrV_new]
theorem r_aast5 {q v : Nat} {i : Int32} {X : Type} {K : GH → Option X} {z : X} (h : Option.bind (aP G q 5 2 i v) K = some z) (hd : dec 1 cc pc .aastore nx)
    (kk : ∀ G', K G' = some z → WG E own nm cc mL ret fr lo rc rs nx lv st n G' out) : WG E own nm cc mL ret fr lo rc rs pc lv (.ref v :: .int i :: .ref q :: st) n G out := by
  obtain ⟨G', h1, h2⟩ := Option.bind_eq_some_iff.mp h
  obtain ⟨N, f, vs, h3, h4, h5, rfl⟩ := aP_is h1
  intro p l e R s m args below meth c H locs cells slots ls C hc hs hr ho hv
  obtain ⟨hd, rfl⟩ := hd
  obtain ⟨hx, hb, hret, hml, hown, hts, hlk, hnm, hK, hfr, hlo⟩ := id C
  have hA := hr.2.2.2 q _ h3
  have hlt : i.toNatClampNeg < N := Nat.not_le.mp fun q => h4 (Or.inr q)
  have h0 : ¬ i < 0 := fun q => h4 (Or.inl q)
  obtain ⟨r', hr', ⟨cellV, g1, g2, g3, -⟩, -⟩ := (hr.2.2.2 v _ h5).2
  cases hr'
  have hcls := (hK.1.1 2 _ rfl).2
  obtain ⟨kA, comp, k1, k2, k3, -⟩ := (hK.1.2 5 _ rfl).2
  have hcomp : comp = E.1.1 2 := Option.some.inj (k3.symm.trans hcls.1)
  subst hcomp
  obtain ⟨kC, hkC, -⟩ := hcls.2
  refine W.aast hx hb hA.2 (fun q h => by cases h) (fun h => by cases h) k1 k2 rfl hkC ⟨h0, by show _ < (arrV _ _ _).slots.size; rw [arrV_size]; exact hlt⟩ g1 (fun q h => by rw [g3] at h; cases h) (by rw [g2]; exact hkC) (by rw [g2]; exact va_assign hcls) rfl rfl hd fun H1 e1 e2 e3 => ?_
  refine kk _ h2 p l e R s m args below meth c H1 _ cells slots ls C hc hs (hr.put h3 e2 e3 ?_) (g_mem1 ho hA.1) hv
  show H1[q]? = some (vp_cell _ _)
  rw [e1]
  rw [vp_cell_q, vp_cell_q, arrV_store]
  congr 2
  funext j
  by_cases hq : j = i.toNatClampNeg
  · subst hq
    simp [updV, va_up, va_rf]
  · simp [updV, va_up, hq]
theorem r_obj {idx q : Nat} (hd : dec 3 cc pc (.invokespecial idx) nx) (hl : Cond.methodLink own idx objectInit ∈ g_tbl) (hi : Cond.instanceMethod objectInit ∈ g_tbl) (hk : Cond.code objectInit ⟨#[0xb1]⟩ 1 none ∈ g_tbl) (h1 : Nat.ble 1 fr = true) (h2 : Nat.ble ((st.map fun v => v.category).sum + 12) lo = true)
    (kk : WG E own nm cc mL ret fr lo rc rs nx lv st n G out) : WG E own nm cc mL ret fr lo rc rs pc lv (.ref q :: st) n G out := by
  intro p l e R s m args below meth c H locs cells slots ls C hc hs hr ho hv
  obtain ⟨hd, rfl⟩ := hd
  obtain ⟨hx, hb, hret, hml, hown, hts, hlk, hnm, hK, hfr, hlo, -⟩ := id C
  have a1 := Nat.le_of_ble_eq_true h1
  have a2 := Nat.le_of_ble_eq_true h2
  obtain ⟨kl, hkl, -⟩ := id hv
  exact W.objInit hx hb hown (hts _ hl) (hts _ hi) (hts _ hk) rfl (by rw [hml]; exact hkl.1) rfl hd (by omega) (by show 2 * 0 + _ + 12 ≤ _; omega) (kk p l e R s m args below meth c H locs cells slots ls C hc hs hr ho hv)
theorem r_ldc2 {idx : Nat} {v : Int64} (hd : dec 3 cc pc (.ldc2_w idx) nx) (hl : Cond.constantLong own idx v ∈ g_tbl) (kk : WG E own nm cc mL ret fr lo rc rs nx lv (.long v :: st) n G out) : WG E own nm cc mL ret fr lo rc rs pc lv st n G out := by
  intro p l e R s m args below meth c H locs cells slots ls C hc hs hr ho hv
  obtain ⟨hd, rfl⟩ := hd
  exact lv_ldc2 C.1 C.2.1 C.2.2.2.2.1 (C.2.2.2.2.2.1 _ hl) hd (kk p l e R s m args below meth c H locs cells slots ls C hc hs hr ho hv)
/-- a text of the pool, by its place in g_strs -/
theorem r_ldcS {idx : Nat} {tx : String} (j : Nat) (hj : g_strs[j]? = some (own, idx, tx)) (hd : dec 2 cc pc (.ldc idx) nx) (kk : WG E own nm cc mL ret fr lo rc rs nx lv (.ref (E.2.2.2.1 j) :: st) n G out) : WG E own nm cc mL ret fr lo rc rs pc lv st n G out := by
  intro p l e R s m args below meth c H locs cells slots ls C hc hs hr ho hv
  obtain ⟨hd, rfl⟩ := hd
  exact va_ldcS C.1 C.2.1 C.2.2.2.2.1 (C.2.2.2.2.2.2.2.2.1.2.1.1 j _ hj) hd (kk p l e R s m args below meth c H locs cells slots ls C hc hs hr ho hv)
theorem r_max {idx : Nat} {x y : Int32} (hd : dec 3 cc pc (.invokestatic idx) nx) (hl : Cond.methodLink own idx Lib.Math.max.name ∈ g_tbl) (hs1 : Cond.static Lib.Math.max.name ∈ g_tbl) (hi : Cond.initialized "java/lang/Math" ∈ g_tbl) (hk : Cond.code Lib.Math.max.name Lib.Math.max.code 2 (some .int) ∈ g_tbl) (h1 : Nat.ble 1 fr = true) (h2 : Nat.ble ((st.map fun v => v.category).sum + 13) lo = true)
    (kk : WG E own nm cc mL ret fr lo rc rs nx lv (.int (if x < y then y else x) :: st) n G out) : WG E own nm cc mL ret fr lo rc rs pc lv (.int y :: .int x :: st) n G out := by
  intro p l e R s m args below meth c H locs cells slots ls C hc hs hr ho hv
  obtain ⟨hd, rfl⟩ := hd
  obtain ⟨hx, hb, hret, hml, hown, hts, hlk, hnm, hK, hfr, hlo, -⟩ := id C
  have a1 := Nat.le_of_ble_eq_true h1
  have a2 := Nat.le_of_ble_eq_true h2
  obtain ⟨kl, hkl, -⟩ := id hv
  exact va_mmax hx hb (hml.trans hkl.1.symm) hown (hts _ hl) (hts _ hs1) (hts _ hi) (hts _ hk) (by omega) (by omega) (by omega) (by omega) hd (kk p l e R s m args below meth c H locs cells slots ls C hc hs hr ho hv)
theorem r_min {idx : Nat} {x y : Int32} (hd : dec 3 cc pc (.invokestatic idx) nx) (hl : Cond.methodLink own idx Lib.Math.min.name ∈ g_tbl) (hs1 : Cond.static Lib.Math.min.name ∈ g_tbl) (hi : Cond.initialized "java/lang/Math" ∈ g_tbl) (hk : Cond.code Lib.Math.min.name Lib.Math.min.code 2 (some .int) ∈ g_tbl) (h1 : Nat.ble 1 fr = true) (h2 : Nat.ble ((st.map fun v => v.category).sum + 13) lo = true)
    (kk : WG E own nm cc mL ret fr lo rc rs nx lv (.int (if y < x then y else x) :: st) n G out) : WG E own nm cc mL ret fr lo rc rs pc lv (.int y :: .int x :: st) n G out := by
  intro p l e R s m args below meth c H locs cells slots ls C hc hs hr ho hv
  obtain ⟨hd, rfl⟩ := hd
  obtain ⟨hx, hb, hret, hml, hown, hts, hlk, hnm, hK, hfr, hlo, -⟩ := id C
  have a1 := Nat.le_of_ble_eq_true h1
  have a2 := Nat.le_of_ble_eq_true h2
  obtain ⟨kl, hkl, -⟩ := id hv
  exact va_mmin hx hb (hml.trans hkl.1.symm) hown (hts _ hl) (hts _ hs1) (hts _ hi) (hts _ hk) (by omega) (by omega) (by omega) (by omega) hd (kk p l e R s m args below meth c H locs cells slots ls C hc hs hr ho hv)
end GN
