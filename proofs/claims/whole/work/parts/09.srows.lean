/-! Rows of switches, of System.arraycopy, of calls. -/
/-- a switch over numbers from k on -/
def g_sw {X : Type} (x : Int32) : List (Option X) → Option X → Nat → Option X
  | [], d, _ => d
  | a :: r, d, k => if x = nI k then a else g_sw x r d (k + 1)
def g_swP {X : Type} (P : Nat → Prop) (z : X) : List (Option X) → List Nat → Prop
  | a :: r, t :: ts => (a = some z → P t) ∧ g_swP P z r ts
  | _, _ => True
theorem g_sw_in {X : Type} {x : Int32} {d : Option X} : ∀ (as : List (Option X)) (k j : Nat), x = nI (k + j) → k + as.length < 2 ^ 31 → j < as.length → as[j]? = some (g_sw x as d k)
  | [], k, j, _, _, h => by simp at h
  | a :: r, k, 0, hx, _, _ => by
    rw [Nat.add_zero] at hx
    simp [g_sw, hx]
  | a :: r, k, j + 1, hx, hl, hj => by
    rw [List.length_cons] at hl hj
    have hne : ¬ x = nI k := by
      rw [hx]
      intro h
      have := (nI_eq (a := k + (j + 1)) (b := k) (by omega) (by omega)).mp h
      omega
    rw [List.getElem?_cons_succ, g_sw, if_neg hne]
    exact g_sw_in r (k + 1) j (by rw [hx]; congr 1; omega) (by omega) (by omega)
theorem g_sw_out {X : Type} {x : Int32} {d : Option X} : ∀ (as : List (Option X)) (k : Nat), (∀ j, j < as.length → x ≠ nI (k + j)) → g_sw x as d k = d
  | [], k, _ => rfl
  | a :: r, k, h => by
    rw [g_sw, if_neg (by have := h 0 (by simp); rwa [Nat.add_zero] at this)]
    exact g_sw_out r (k + 1) (fun j hj => by have := h (j + 1) (by simp; omega); rwa [show k + (j + 1) = k + 1 + j by omega] at this)
theorem g_swP_at {X : Type} {P : Nat → Prop} {z : X} : ∀ {as : List (Option X)} {ts : List Nat}, g_swP P z as ts → as.length = ts.length → ∀ (j t : Nat), as[j]? = some (some z) → ts[j]? = some t → P t
  | [], _, _, _, j, t, h, _ => by simp at h
  | a :: r, [], _, h, j, t, _, _ => by simp at h
  | a :: r, u :: ts, h, hl, 0, t, h1, h2 => by
    simp at h1 h2
    subst h2
    exact h.1 h1
  | a :: r, u :: ts, h, hl, j + 1, t, h1, h2 => by
    rw [List.getElem?_cons_succ] at h1 h2
    exact g_swP_at h.2 (by simpa using hl) j t h1 h2
section GS
variable {E : GE} {own nm : String} {cc : ByteArray} {mL : Nat} {ret : Option FieldType} {fr lo rc rs pc nx tg : Nat} {off : Int} {lv : List (Nat × Value)} {st : List Value} {n : Nat} {G : GH} {out : GQ}
theorem r_switch {x : Int32} {X : Type} {as : List (Option X)} {d : Option X} {k0 ln : Nat} {z : X} (h : g_sw x as d k0 = some z) {dflt lo1 hi1 : Int} {offs : Array Int} (ts : List Nat) (hd : decode cc pc = .ok (.tableswitch dflt lo1 hi1 offs, ln)) (e1 : lo1 = (k0 : Int)) (e2 : hi1 + 1 = ((k0 + as.length : Nat) : Int)) (e3 : Nat.blt (k0 + as.length) 1000 = true) (e4 : offs.toList = ts.map (fun t : Nat => (t : Int) - (pc : Int))) (e5 : as.length = ts.length) (e6 : (pc : Int) + dflt = (tg : Int))
    (kk : g_swP (fun t => WG E own nm cc mL ret fr lo rc rs t lv st n G out) z as ts) (kd : d = some z → WG E own nm cc mL ret fr lo rc rs tg lv st n G out) : WG E own nm cc mL ret fr lo rc rs pc lv (.int x :: st) n G out := by
  intro p l e R s m args below meth c H locs cells slots ls C hc hs hr ho hv
  have e3' : k0 + as.length < 1000 := Nat.le_of_ble_eq_true e3
  by_cases hq : x.toInt < lo1 ∨ hi1 < x.toInt
  · have h2 : g_sw x as d k0 = d := g_sw_out as k0 (fun j hj hx => by
      rw [hx, nI_toInt (by omega)] at hq
      omega)
    rw [h2] at h
    exact lv_tableOut C.1 C.2.1 hd hq e6 (kd h p l e R s m args below meth c H locs cells slots ls C hc hs hr ho hv)
  · have hq1 : ¬ x.toInt < lo1 := fun h => hq (Or.inl h)
    have hq2 : ¬ hi1 < x.toInt := fun h => hq (Or.inr h)
    have hx0 : ¬ x < 0 := by
      intro hx
      have := Int32.lt_iff_toInt_lt.mp hx
      simp at this
      omega
    obtain ⟨j', hj', rfl⟩ := nI_of hx0
    rw [nI_toInt hj'] at hq1 hq2
    have hjk : j' = k0 + (j' - k0) := by omega
    have hlt : j' - k0 < as.length := by omega
    have h3 := g_sw_in (d := d) (x := nI j') as k0 (j' - k0) (by rw [← hjk]) (by omega) hlt
    rw [h] at h3
    have hlt2 : j' - k0 < ts.length := by omega
    have h4 := g_swP_at kk e5 (j' - k0) _ h3 (List.getElem?_eq_getElem hlt2)
    refine lv_tableIn (off := (ts[j' - k0] : Int) - (pc : Int)) C.1 C.2.1 hd (by rw [nI_toInt hj']; exact hq1) (by rw [nI_toInt hj']; exact hq2) ?_ (by omega) (h4 p l e R s m args below meth c H locs cells slots ls C hc hs hr ho hv)
    rw [nI_toInt hj', show ((j' : Int) - lo1).toNat = j' - k0 by omega, ← Array.getElem?_toList, e4, List.getElem?_map, List.getElem?_eq_getElem hlt2]
    rfl
end GS
/-- System.arraycopy over arrays of kind t -/
def g_ty : Nat → FieldType
  | 0 => .int
  | 1 => .byte
  | _ => .boolean
def aC (G : GH) (t a0 : Nat) (sp : Int32) (a : Nat) (dp k : Int32) : Option GH := match G a0, G a with
  | some (.inl (t0, n0, .inl f)), some (.inl (t1, n1, .inl g)) => if t0 = t ∧ t1 = t ∧ (t = 0 ∨ t = 1 ∨ t = 2) ∧ (¬ sp < 0 ∧ ¬ dp < 0 ∧ ¬ k < 0) ∧ sp.toNatClampNeg + k.toNatClampNeg ≤ n0 ∧ dp.toNatClampNeg + k.toNatClampNeg ≤ n1 ∧ (∀ i, i < k.toNatClampNeg → fits (g_ty t) (.int (f (sp.toNatClampNeg + i))) = true) then some (gset G a (.inl (t1, n1, .inl (va_cpy f g sp.toNatClampNeg dp.toNatClampNeg k.toNatClampNeg)))) else none
  | _, _ => none
theorem aC_is {G G' : GH} {t a0 a : Nat} {sp dp k : Int32} (h : aC G t a0 sp a dp k = some G') : ∃ n0 f n1 g, G a0 = some (.inl (t, n0, .inl f)) ∧ G a = some (.inl (t, n1, .inl g)) ∧ (t = 0 ∨ t = 1 ∨ t = 2) ∧ (¬ sp < 0 ∧ ¬ dp < 0 ∧ ¬ k < 0) ∧ sp.toNatClampNeg + k.toNatClampNeg ≤ n0 ∧ dp.toNatClampNeg + k.toNatClampNeg ≤ n1 ∧ (∀ i, i < k.toNatClampNeg → fits (g_ty t) (.int (f (sp.toNatClampNeg + i))) = true) ∧ G' = gset G a (.inl (t, n1, .inl (va_cpy f g sp.toNatClampNeg dp.toNatClampNeg k.toNatClampNeg))) := by
  unfold aC at h
  split at h
  · rename_i t0 n0 f t1 n1 g h0 h1
    split at h
    · rename_i hc
      obtain ⟨rfl, rfl, c3, c4, c5, c6, c7⟩ := hc
      cases h
      exact ⟨n0, f, n1, g, h0, h1, c3, c4, c5, c6, c7, rfl⟩
    · cases h
  · cases h
section GX
variable {E : GE} {own nm : String} {cc : ByteArray} {mL : Nat} {ret : Option FieldType} {fr lo rc rs pc nx tg : Nat} {off : Int} {lv : List (Nat × Value)} {st : List Value} {n : Nat} {G : GH} {out : GQ}
theorem r_acopy {idx t a0 a : Nat} {sp dp k : Int32} {X : Type} {K : GH → Option X} {z : X} (h : Option.bind (aC G t a0 sp a dp k) K = some z) (hd : dec 3 cc pc (.invokestatic idx) nx) (hl : Cond.methodLink own idx arraycopyName ∈ g_tbl) (hna : Cond.native arraycopyName ∈ g_tbl) (hs1 : Cond.static arraycopyName ∈ g_tbl) (hi : Cond.initialized "java/lang/System" ∈ g_tbl) (h1 : Nat.ble 1 fr = true) (h2 : Nat.ble ((st.map fun v => v.category).sum + (nativeFrameWords "java/lang/System" "arraycopy" 5 + 11)) lo = true)
    (kk : ∀ G', K G' = some z → WG E own nm cc mL ret fr lo rc rs nx lv st n G' out) : WG E own nm cc mL ret fr lo rc rs pc lv (.int k :: .int dp :: .ref a :: .int sp :: .ref a0 :: st) n G out := by
  obtain ⟨G', g1, g2⟩ := Option.bind_eq_some_iff.mp h
  obtain ⟨n0, f, n1, g, b0, b1, c3, ⟨d1, d2, d3⟩, c5, c6, c7, rfl⟩ := aC_is g1
  intro p l e R s m args below meth c H locs cells slots ls C hc hs hr ho hv
  obtain ⟨hd, rfl⟩ := hd
  obtain ⟨hx, hb, hret, hml, hown, hts, hlk, hnm, hK, hfr, hlo, -⟩ := id C
  have a1 := Nat.le_of_ble_eq_true h1
  have a2 := Nat.le_of_ble_eq_true h2
  obtain ⟨kl, hkl, -⟩ := id hv
  have hA0 := hr.2.2.2 a0 _ b0
  have hA := hr.2.2.2 a _ b1
  have hc0 : H[a0]? = some (vp_cell (E.2.1 t) (n0, .inl f)) := hA0.2
  have hc1 : H[a]? = some (vp_cell (E.2.1 t) (n1, .inl g)) := hA.2
  have ht : (g_tys E)[t]? = some (E.2.1 t, g_ty t) := by rcases c3 with rfl | rfl | rfl <;> rfl
  have hprim : refKind (g_ty t) = false := by rcases c3 with rfl | rfl | rfl <;> rfl
  have nn : ∀ z : Int32, ¬ z < 0 → z.toInt = (z.toNatClampNeg : Int) := by
    intro z hz
    have hz0 : (0 : Int) ≤ z.toInt := by
      have := Int32.not_lt.mp hz
      simpa using Int32.le_iff_toInt_le.mp this
    show z.toInt = ((z.toInt.toNat : Nat) : Int)
    omega
  intro T hT X0
  obtain ⟨-, k0, hk0, cm0, hkk0⟩ := (hK.1.2 t _ ht).1 n0 (fun j => .int (f j))
  obtain ⟨-, k1, hk1, cm1, hkk1⟩ := (hK.1.2 t _ ht).1 n1 (fun j => .int (g j))
  obtain ⟨vm', X', step⟩ := X0.arraycopy hx hown (hts _ hl) (hts _ hna) (hts _ hs1) (hts _ hi) (src := a0) (dst := a) (cs := vp_cell (E.2.1 t) (n0, .inl f)) (cd := vp_cell (E.2.1 t) (n1, .inl g)) (srcPos := sp) (destPos := dp) (n := k) (by rw [hT]; exact hc0) (by rw [hT]; exact hc1)
    (fun _ h => by cases h) (fun _ h => by cases h) (fun h => by cases h) (fun h => by cases h) hk0 hk1 hkk0 hkk1 (by simp [hprim]) d1 d2 d3
    (by rw [nn sp d1, nn k d3]; show ¬ _ > ((arrV (E.2.1 t) n0 (fun j => .int (f j))).slots.size : Int); rw [arrV_size]; omega)
    (by rw [nn dp d2, nn k d3]; show ¬ _ > ((arrV (E.2.1 t) n1 (fun j => .int (g j))).slots.size : Int); rw [arrV_size]; omega)
    (fun vm₁ _ i hi => by
      have e : (vp_cell (E.2.1 t) (n0, .inl f)).slots.getD (sp.toNatClampNeg + i) .null = .int (f (sp.toNatClampNeg + i)) := by
        show (arrV (E.2.1 t) n0 (fun j => .int (f j))).slots.getD _ _ = _
        rw [Array.getD_eq_getD_getElem?, arrV_read _ _ (by omega)]
        rfl
      refine ⟨?_, ?_⟩
      · rw [e]
        exact c7 i hi
      · rw [e]
        exact trivial)
    (g := F0 m pc ls (.int k :: .int dp :: .ref a :: .int sp :: .ref a0 :: st)) rfl (by rw [hml]; exact hkl.1) (rest := st) rfl (by rw [hb]; exact hd) (by omega) (by show 2 * 0 + _ + _ ≤ _; omega)
  have e1 : copied (vp_cell (E.2.1 t) (n0, .inl f)) (vp_cell (E.2.1 t) (n1, .inl g)) sp dp k = vp_cell (E.2.1 t) (n1, .inl (va_cpy f g sp.toNatClampNeg dp.toNatClampNeg k.toNatClampNeg)) := va_copied (fun z => .int z) _ _ f g c5
  rw [e1] at X' step
  have hll : a < H.size := (Array.getElem?_eq_some_iff.mp hc1).1
  have hheap : ((T.setVm vm').setCell a (vp_cell (E.2.1 t) (n1, .inl (va_cpy f g sp.toNatClampNeg dp.toNatClampNeg k.toNatClampNeg)))).heap = H.setIfInBounds a (vp_cell (E.2.1 t) (n1, .inl (va_cpy f g sp.toNatClampNeg dp.toNatClampNeg k.toNatClampNeg))) := by rw [← hT]; rfl
  have oq : ∀ q : Nat, q ≠ a → (H.setIfInBounds a (vp_cell (E.2.1 t) (n1, .inl (va_cpy f g sp.toNatClampNeg dp.toNatClampNeg k.toNatClampNeg))))[q]? = H[q]? := fun q hq => by simp [Array.getElem?_setIfInBounds, Ne.symm hq]
  obtain ⟨t2, a3, b3⟩ := kk _ g2 p l e R s m args below meth c _ _ cells slots ls C hc hs (hr.put b1 (by simp) oq (show (H.setIfInBounds a _)[a]? = some _ by simp [Array.getElem?_setIfInBounds, hll])) (fun q hq => by
      rcases List.mem_append.mp hq with h | h
      · exact ho q h
      · obtain ⟨z, -, hz⟩ := List.mem_map.mp h
        rw [← hz]
        exact hA.1) hv _ hheap X'
  exact ⟨t2, step t2 a3, b3⟩
end GX
