/-! The throw as a row of WG. -/
def x_Z (E : GE) (U : State) : Prop := vx_Zq Bundle.tN "UNASSIGNED_STACK" Bundle.steD (fun q => g_b E ≤ q) U (g_H E) ∧ vx_Zq Bundle.tN "SUPPRESSED_SENTINEL" Bundle.listD (fun q => g_b E ≤ q) U (g_H E)
def g_XC (E : GE) (n : Nat) (G : GH) : String → State → State → Prop := fun C _ t => C = xN ∧ g_rep E G n t.heap
/-- a body that throws, leaving the run's heap G, of size n -/
def g_TX (E : GE) (n : Nat) (G : GH) : GQ := fun below args s R => vx_MQ below (fun _ _ _ _ => False) (g_XC E n G) args s R.cells R.slots (fun q => g_b E ≤ q)
theorem x_tr {l : Launch} (h : l.flags = flags0) : l.stackTraces = false := by
  unfold Launch.stackTraces
  rw [h]
  decide +kernel
theorem x_ck : Cond.classLink RX10 172 xN ∈ g_tbl := g_in 1055 (by decide +kernel) rfl
theorem x_ci : Cond.initialized xN ∈ g_tbl := g_in 116 (by decide +kernel) rfl
set_option maxHeartbeats 4000000 in
theorem r_throw {E : GE} {nm tx : String} {cc : ByteArray} {mL : Nat} {ret : Option FieldType} {fr lo rc rs pc is j : Nat} {lv : List (Nat × Value)} {n : Nat} {G : GH} (hX : ∀ U, E.2.2.2.2.2 U → x_Z E U) (hj : g_strs[j]? = some (RX10, is, tx))
    (d0 : decode cc pc = .ok (.new 172, 3)) (d3 : decode cc (pc + 3) = .ok (.dup, 1)) (d4 : decode cc (pc + 4) = .ok (.ldc is, 2)) (d6 : decode cc (pc + 6) = .ok (.invokespecial 176, 3)) (d9 : decode cc (pc + 9) = .ok (.athrow, 1))
    (h1 : Nat.ble 6 fr = true) (h2 : Nat.ble 90 lo = true) (h3 : Nat.ble 1 rc = true) (h4 : Nat.ble 6 rs = true) : WG E RX10 nm cc mL ret fr lo rc rs pc lv [] n G (g_TX E (n + 1) G) := by
  intro p l e R s m args below meth c H locs cells slots ls C hc hs hr ho hv
  obtain ⟨hexec, hb, hret, hml, hown, hts, hlk, hnm, hK, hfr, hlo, hfl, -, htab⟩ := id C
  have a1 := Nat.le_of_ble_eq_true h1
  have a2 := Nat.le_of_ble_eq_true h2
  have a3 := Nat.le_of_ble_eq_true h3
  have a4 := Nat.le_of_ble_eq_true h4
  obtain ⟨kl, hkl, -⟩ := id hv
  intro T hT X
  have htr : e.platform.stackTraces = false := (show e.platform.stackTraces = l.stackTraces by rw [X.admits.platform]).trans (x_tr hfl)
  have Y := vx_rebase X (R' := { frames := R.frames, locals := R.locals, cells := 1, slots := 6 }) (Nat.le_refl _) (Nat.le_refl _) (by show cells + 1 ≤ _; omega) (by show slots + 6 ≤ _; omega)
  obtain ⟨s', hA⟩ : ∃ z, z = (T.setVm s.vm).setFrames (.invoking m args :: below) := ⟨_, rfl⟩
  rw [← hA] at Y
  have hvm : s'.vm = s.vm := by rw [hA]; rfl
  have hhp : s'.heap = H := by rw [hA]; exact hT
  have hW0 : s.WarmedH s'.vm := by rw [hvm]; exact State.WarmedH.refl s
  have hw' : ∀ w ∈ g_tbl, w.before args s' = true := fun w h => g_warm hts w h args s' hW0
  have hK' : g_K E s' := g_K.warm hW0 hK
  obtain ⟨zU, zN⟩ := hX s' hK'.2.2.2.2.1
  have hkept : ∀ a : Nat, a < (g_H E).size → ¬ (g_b E ≤ a) → s'.heap[a]? = (g_H E)[a]? := fun a ha _ => by rw [hhp]; exact hr.2.2.1 a ha
  have hU' := vx_Zq.kept zU hkept
  have hN' := vx_Zq.kept zN hkept
  have hAll : ∀ w ∈ (Bundle.throwableAtoms ++ Bundle.throwableSAtoms) ++ (xPass ++ xChain), w.before args s' = true :=
    vx_own (fun w h => hw' w (g_in' (xt_in w (List.mem_append_left _ h)) (xt_ok w (List.mem_append_left _ h)))) (vx_isRefq hU'.1) (vx_isRefq hN'.1) hU'.2.word hN'.2.word
  have hOwn : ∀ w ∈ xOwn RX10 176, w.before args s' = true := fun w h => hw' w (g_in' (xt_in w (List.mem_append_right _ h)) (xt_ok w (List.mem_append_right _ h)))
  have hown' : s'.vm.findClass RX10 = some m.cls := by rw [hvm]; exact hown
  obtain ⟨vm₁, cX, kX, hfX, hkX, -, -, X₁, st1⟩ := Y.newCold hexec (own := RX10) (C := xN) (index := 172) (n := 6) hown' (hw' _ x_ck) (hOwn (.instantiable xN 6) (by simp [xOwn])) (hw' _ x_ci)
    (g := F0 m pc ls []) rfl (by rw [hb]; exact d0) (Nat.le_refl _) (Nat.le_refl _)
  have hT1h : ((T.setVm vm₁).pushCell { cls := cX, slots := kX.instanceTypes.map defaultValue, vm := .none }).heap = H.push (freshCell cX kX) := by rw [← hT]; rfl
  generalize hT1 : (T.setVm vm₁).pushCell { cls := cX, slots := kX.instanceTypes.map defaultValue, vm := .none } = T1 at X₁ st1 hT1h
  have hcat : (Value.ref T.heap.size).category = 1 := rfl
  have hcellA : T1.heap[T.heap.size]? = some (freshCell cX kX) := by rw [← hT1]; exact State.heap_pushCell_size _ _
  have d3' : decode c.code (pc + 3) = .ok (.dup, 1) := by rw [hb]; exact d3
  have d4' : decode c.code (pc + 4) = .ok (.ldc is, 2) := by rw [hb]; exact d4
  have hstr' : vk_R RX10 is tx (E.2.2.2.1 j) s' := hK'.2.1.1 j _ hj
  obtain ⟨U, hsteps, hrun, hend, hW, hsame, ce, hUh, hce1, hce2⟩ := x_ctor X₁ hexec htr (own := RX10) (ic := 176) hown'
    (fun w h => hAll w (List.mem_append_left _ (List.mem_append_left _ h))) (fun w h => hAll w (List.mem_append_left _ (List.mem_append_right _ h))) (fun w h => hAll w (List.mem_append_right _ (List.mem_append_left _ h))) (fun w h => hAll w (List.mem_append_right _ (List.mem_append_right _ h))) hOwn
    (vx_isRefq hU'.1) (vx_isRefq hN'.1) (fun x hx => nomatch hx) hfX hkX hcellA (by rw [hhp, hT]; exact Nat.le_refl _) (msg := .ref (E.2.2.2.1 j)) rfl
    (g := { method := m, pc := pc + 6, locals := ls, stack := .ref (E.2.2.2.1 j) :: .ref T.heap.size :: .ref T.heap.size :: [], locked := none }) rfl (by rw [hml]; exact hkl.1) rfl rfl (rest := []) rfl
    (by rw [hb]; exact d6) (by rw [hb]; exact d9) (fun x hx => absurd (htab.1 (by decide) x hx) id) (by show 5 < R.frames; omega) (by show 2 * 0 + _ + _ ≤ R.locals; simp only [List.map_cons, List.map_nil, List.sum_cons, List.sum_nil, hcat]; omega) hlk
  have hall : s.sameButNew ({ U with vm := s.vm } : State) locs R.cells R.slots := by
    subst hA
    obtain ⟨e1, e2⟩ := hsame
    rw [State.setFrames_setFrames] at e1
    have h2 : (T.setVm s.vm).sameButNew ({ U with vm := s.vm } : State) [] (0 + 1) (0 + 6) := ⟨e1, e2⟩
    have h3 := X.same.trans h2
    rw [List.append_nil] at h3
    exact h3.mono (by omega) (by omega)
  have hTs : T.heap.size = n := by rw [hT]; exact hr.1
  have hUs : U.heap.size = n + 1 := by rw [hUh, hT1h]; simp [hr.1]
  have hUq : ∀ q : Nat, q < n → U.heap[q]? = H[q]? := fun q hq => by
    rw [hUh, hT1h, Array.getElem?_setIfInBounds, if_neg (by omega), Array.getElem?_push, if_neg (by rw [hr.1]; omega)]
  have hrepU : g_rep E G (n + 1) U.heap := ⟨hUs, Nat.le_succ_of_le hr.2.1, fun q hq => by rw [hUq q (Nat.lt_of_lt_of_le hq hr.2.1)]; exact hr.2.2.1 q hq, fun q x hx => ⟨(hr.2.2.2 q x hx).1, (hr.2.2.2 q x hx).2.kept (hUq q (hr.lt hx))⟩⟩
  have hceU : U.heap[n]? = some ce := by
    rw [hUh, hT1h, hTs, Array.getElem?_setIfInBounds, if_pos rfl, if_pos (by simp [hr.1])]
  refine ⟨U, ?_, .threw n, hrun, by rw [← hTs]; exact hend, Or.inr ⟨n, rfl, xN, ce, locs, ⟨rfl, hrepU⟩, hceU, hce1, by rw [hce2]; rw [hvm] at hfX; exact hfX, State.WarmedH.trans hW0 hW, hall, ho⟩⟩
  refine st1 _ ?_
  show Steps p.tables e below (T1.setTop { method := m, pc := pc + 3, locals := ls, stack := .ref T.heap.size :: [], locked := none }) _
  jvm_step X₁.here [X₁.here.top, hexec, d3', Value.category]
  exact X₁.ldcString hexec (own := RX10) (text := tx) (index := is) (a := E.2.2.2.1 j) hown' hstr'.1 hstr'.2
    (g := { method := m, pc := pc + 4, locals := ls, stack := .ref T.heap.size :: .ref T.heap.size :: [], locked := none }) rfl d4' _ hsteps
