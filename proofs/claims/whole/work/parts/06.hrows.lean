/-! The classes' facts; rows of fields, arrays, new cells. -/
set_option maxRecDepth 100000 in
theorem g_ws0 : ∀ w ∈ u_ws RX0 TX0 6, w ∈ lw_tbl := by decide +kernel
set_option maxRecDepth 100000 in
theorem g_ws1 : ∀ w ∈ u_ws RX1 TX1 7, w ∈ lw_tbl := by decide +kernel
set_option maxRecDepth 100000 in
theorem g_ws2 : ∀ w ∈ u_ws RX2 TX2 4, w ∈ lw_tbl := by decide +kernel
set_option maxRecDepth 100000 in
theorem g_ws3 : ∀ w ∈ u_ws RX3 TX3 9, w ∈ lw_tbl := by decide +kernel
set_option maxRecDepth 100000 in
theorem g_ws4 : ∀ w ∈ u_ws RX4 TX4 3, w ∈ lw_tbl := by decide +kernel
set_option maxRecDepth 100000 in
theorem g_ws5 : ∀ w ∈ u_ws RX5 TX5 9, w ∈ lw_tbl := by decide +kernel
set_option maxRecDepth 100000 in
theorem g_ws6 : ∀ w ∈ u_ws RX6 TX6 8, w ∈ lw_tbl := by decide +kernel
set_option maxRecDepth 100000 in
theorem g_ws7 : ∀ w ∈ u_ws RX7 TX7 7, w ∈ lw_tbl := by decide +kernel
set_option maxRecDepth 100000 in
theorem g_ws8 : ∀ w ∈ u_ws RX8 TX8 6, w ∈ lw_tbl := by decide +kernel
set_option maxRecDepth 100000 in
theorem g_ws9 : ∀ w ∈ u_ws RX9 TX9 5, w ∈ lw_tbl := by decide +kernel
set_option maxRecDepth 100000 in
theorem g_ws10 : ∀ w ∈ u_ws RX10 TX10 9, w ∈ lw_tbl := by decide +kernel
set_option maxRecDepth 100000 in
theorem g_ws11 : ∀ w ∈ u_ws RX11 TX11 37, w ∈ lw_tbl := by decide +kernel
theorem g_ok_lay (C : String) (T : u_T) (N : Nat) : ∀ w ∈ u_ws C T N, g_okw w = true := by
  intro w hw
  obtain ⟨k, -, rfl⟩ := List.mem_map.mp hw
  unfold u_lay
  split <;> rfl
/-- what holds of a class of the list: its lay words, names apart, types -/
def g_cl (C : String) (T : u_T) (N : Nat) : Prop := (∀ w ∈ u_ws C T N, w ∈ g_tbl) ∧ (∀ a, a < N → ∀ b, b < N → a ≠ b → (T a).2.1 ≠ (T b).2.1) ∧ ∃ ty : Nat → FieldType, ∀ k, k < N → parseFieldDescriptor (T k).2.2.1 = some (ty k)
theorem g_cls : ∀ (ci : Nat) (C : String) (T : u_T) (N : Nat), vwCl[ci]? = some (C, T, N) → g_cl C T N := by
  intro ci C T N h
  match ci, h with
  | 0, h => cases h; exact ⟨fun w hw => g_in' (g_ws0 w hw) (g_ok_lay _ _ _ w hw), nmX0, _, tyX0_ok⟩
  | 1, h => cases h; exact ⟨fun w hw => g_in' (g_ws1 w hw) (g_ok_lay _ _ _ w hw), nmX1, _, tyX1_ok⟩
  | 2, h => cases h; exact ⟨fun w hw => g_in' (g_ws2 w hw) (g_ok_lay _ _ _ w hw), nmX2, _, tyX2_ok⟩
  | 3, h => cases h; exact ⟨fun w hw => g_in' (g_ws3 w hw) (g_ok_lay _ _ _ w hw), nmX3, _, tyX3_ok⟩
  | 4, h => cases h; exact ⟨fun w hw => g_in' (g_ws4 w hw) (g_ok_lay _ _ _ w hw), nmX4, _, tyX4_ok⟩
  | 5, h => cases h; exact ⟨fun w hw => g_in' (g_ws5 w hw) (g_ok_lay _ _ _ w hw), nmX5, _, tyX5_ok⟩
  | 6, h => cases h; exact ⟨fun w hw => g_in' (g_ws6 w hw) (g_ok_lay _ _ _ w hw), nmX6, _, tyX6_ok⟩
  | 7, h => cases h; exact ⟨fun w hw => g_in' (g_ws7 w hw) (g_ok_lay _ _ _ w hw), nmX7, _, tyX7_ok⟩
  | 8, h => cases h; exact ⟨fun w hw => g_in' (g_ws8 w hw) (g_ok_lay _ _ _ w hw), nmX8, _, tyX8_ok⟩
  | 9, h => cases h; exact ⟨fun w hw => g_in' (g_ws9 w hw) (g_ok_lay _ _ _ w hw), nmX9, _, tyX9_ok⟩
  | 10, h => cases h; exact ⟨fun w hw => g_in' (g_ws10 w hw) (g_ok_lay _ _ _ w hw), nmX10, _, tyX10_ok⟩
  | 11, h => cases h; exact ⟨fun w hw => g_in' (g_ws11 w hw) (g_ok_lay _ _ _ w hw), nmX11, _, tyX11_ok⟩
  | k + 12, h => simp [vwCl] at h
/-- the link of a field: entry idx of the class own names field k of class ci -/
def pF (own : String) (idx ci k : Nat) : Prop := ∃ C T N, vwCl[ci]? = some (C, T, N) ∧ k < N ∧ (T k).1 = C ∧ (Cond.fieldLink own idx C (T k).2.1 (T k).2.2.1 ∈ g_tbl ∨ ∃ host, Cond.fieldLinkNest own idx C (T k).2.1 (T k).2.2.1 host ∈ g_tbl)
/-- and it may be written by the method nm of own, being of type ty -/
def pW (own nm : String) (idx ci k : Nat) (ty : FieldType) : Prop := ∃ C T N, vwCl[ci]? = some (C, T, N) ∧ k < N ∧ (T k).1 = C ∧ ((Cond.fieldLink own idx C (T k).2.1 (T k).2.2.1 ∈ g_tbl ∧ ((T k).2.2.2 = false ∨ ((T k).2.2.2 = true ∧ nm = "<init>" ∧ C = own))) ∨ ((T k).2.2.2 = false ∧ ∃ host, Cond.fieldLinkNest own idx C (T k).2.1 (T k).2.2.1 host ∈ g_tbl)) ∧ parseFieldDescriptor (T k).2.2.1 = some ty
theorem g_P1 {E : GE} {G : GH} {n q ci : Nat} {fs : List Value} {H : Heap} (h : g_rep E G n H) (hq : G q = some (.inr (ci, fs))) : va_P E.1 vwCl [(q, .inr (ci, fs))] H := by
  intro k x hx
  match k, hx with
  | 0, hx =>
    cases hx
    obtain ⟨r, h1, h2, -⟩ := (h.2.2.2 q _ hq).2
    exact ⟨r, h1, h2⟩
theorem g_P2 {E : GE} {G : GH} {n q t : Nat} {a : vp_A} {H : Heap} (h : g_rep E G n H) (hq : G q = some (.inl (t, a))) : va_P E.1 vwCl [(q, .inl (E.2.1 t, a))] H := by
  intro k x hx
  match k, hx with
  | 0, hx =>
    cases hx
    exact (h.2.2.2 q _ hq).2
section GC
variable {E : GE} {own nm : String} {cc : ByteArray} {mL : Nat} {ret : Option FieldType} {fr lo rc rs pc nx tg : Nat} {off : Int} {lv : List (Nat × Value)} {st : List Value} {n : Nat} {G : GH} {out : GQ}
theorem g_get {q ci k idx : Nat} {fs : List Value} {v : Value} (hq : G q = some (.inr (ci, fs))) (hv0 : fs[k]? = some v) (hd : dec 3 cc pc (.getfield idx) nx) (hf : pF own idx ci k)
    (kk : WG E own nm cc mL ret fr lo rc rs nx lv (v :: st) n G out) : WG E own nm cc mL ret fr lo rc rs pc lv (.ref q :: st) n G out := by
  intro p l e R s m args below meth c H locs cells slots ls C hc hs hr ho hv
  obtain ⟨hd, rfl⟩ := hd
  obtain ⟨hx, hb, hret, hml, hown, hts, hlk, hnm, hK, hfr, hlo⟩ := id C
  obtain ⟨Cn, T, N, h1, h2, h3, h4⟩ := hf
  have hcl := g_cls ci Cn T N h1
  have k2 := kk p l e R s m args below meth c H locs cells slots ls C hc hs hr ho hv
  rcases h4 with h4 | ⟨host, h4⟩
  · exact va_get (D := E.1) (cl := vwCl) (tys := g_tys E) (ci := ci) (C := Cn) (T := T) (N := N) hx hb hts hcl.1 hown hK.1 (g_P1 hr hq) 0 rfl h1 k h2 (hts _ h4) (fun _ h9 => by rw [h3] at h9; exact h9) hv0 hd k2
  · exact va_getN (D := E.1) (cl := vwCl) (tys := g_tys E) (ci := ci) (C := Cn) (T := T) (N := N) hx hb hts hcl.1 hown hK.1 (g_P1 hr hq) 0 rfl h1 k h2 (hts _ h4) (fun _ h9 => by rw [h3] at h9; exact h9) hv0 hd k2
theorem r_getI {q ci k idx : Nat} {X : Type} {K : Int32 → Option X} {z : X} (h : Option.bind (gI G q ci k) K = some z) (hd : dec 3 cc pc (.getfield idx) nx) (hf : pF own idx ci k)
    (kk : ∀ v, K v = some z → WG E own nm cc mL ret fr lo rc rs nx lv (.int v :: st) n G out) : WG E own nm cc mL ret fr lo rc rs pc lv (.ref q :: st) n G out := by
  obtain ⟨v, h1, h2⟩ := Option.bind_eq_some_iff.mp h
  obtain ⟨fs, h3, h4⟩ := gI_is h1
  exact g_get h3 h4 hd hf (kk v h2)
theorem r_getJ {q ci k idx : Nat} {X : Type} {K : Int64 → Option X} {z : X} (h : Option.bind (gJ G q ci k) K = some z) (hd : dec 3 cc pc (.getfield idx) nx) (hf : pF own idx ci k)
    (kk : ∀ v, K v = some z → WG E own nm cc mL ret fr lo rc rs nx lv (.long v :: st) n G out) : WG E own nm cc mL ret fr lo rc rs pc lv (.ref q :: st) n G out := by
  obtain ⟨v, h1, h2⟩ := Option.bind_eq_some_iff.mp h
  obtain ⟨fs, h3, h4⟩ := gJ_is h1
  exact g_get h3 h4 hd hf (kk v h2)
theorem r_getR {q ci k idx : Nat} {X : Type} {K : Nat → Option X} {z : X} (h : Option.bind (gR G q ci k) K = some z) (hd : dec 3 cc pc (.getfield idx) nx) (hf : pF own idx ci k)
    (kk : ∀ v, K v = some z → WG E own nm cc mL ret fr lo rc rs nx lv (.ref v :: st) n G out) : WG E own nm cc mL ret fr lo rc rs pc lv (.ref q :: st) n G out := by
  obtain ⟨v, h1, h2⟩ := Option.bind_eq_some_iff.mp h
  obtain ⟨fs, h3, h4⟩ := gR_is h1
  exact g_get h3 h4 hd hf (kk v h2)
theorem r_put {q ci k idx : Nat} {v : Value} {ty : FieldType} {X : Type} {K : GH → Option X} {z : X} (h : Option.bind (pV G q ci k v) K = some z) (hd : dec 3 cc pc (.putfield idx) nx) (hf : pW own nm idx ci k ty) (hn : narrow ty v = v) (hfit : fits ty v = true)
    (kk : ∀ G', K G' = some z → WG E own nm cc mL ret fr lo rc rs nx lv st n G' out) : WG E own nm cc mL ret fr lo rc rs pc lv (v :: .ref q :: st) n G out := by
  obtain ⟨G', g1, g2⟩ := Option.bind_eq_some_iff.mp h
  obtain ⟨fs, hq, hl, rfl⟩ := pV_is g1
  intro p l e R s m args below meth c H locs cells slots ls C hc hs hr ho hv
  obtain ⟨hd, rfl⟩ := hd
  obtain ⟨hx, hb, hret, hml, hown, hts, hlk, hnm, hK, hfr, hlo⟩ := id C
  obtain ⟨Cn, T, N, h1, h2, h3, h4, h5⟩ := hf
  obtain ⟨c1, c2, ty0, c3⟩ := g_cls ci Cn T N h1
  have hap := va_apart (own := own) (D := E.1) (cl := vwCl) (tys := g_tys E) hts c1 ty0 c3 c2 hK.1 h1
  obtain ⟨r, g3, ⟨cell, q1, q2, q3, q4⟩, g5⟩ := (hr.2.2.2 q _ hq).2
  have hrr : r = (Cn, T, N) := Option.some.inj (g3.symm.trans h1)
  subst hrr
  obtain ⟨hS, hfc, kC, hkC, hkind⟩ := hK.1.1 ci _ h1
  obtain ⟨cf, kf, fi, f, hi, hsl⟩ := hS k h2
  have hst := (u_facts hfc hkC (u_lays hts c1 h2) hi).1
  have hi' : s.fieldFound? Cn (T k).2.1 (T k).2.2.1 = some (cf, kf, fi, f) := by rw [← h3]; exact hi
  have fin : ∀ H' : Heap, H'[q]? = some (cell.setSlot f.slot v) → H'.size = H.size → (∀ j, j ≠ q → H'[j]? = H[j]?) → W p l e R s m args below meth c H' (locs ++ [⟨q, f.slot⟩]) cells slots (out below args s R) (F0 m (pc + 3) ls st) := by
    intro H' e1 e2 e3
    refine kk _ g2 p l e R s m args below meth c H' _ cells slots ls C hc hs (hr.put hq e2 e3 ?_) ?_ hv
    · rw [hsl] at e1
      exact ⟨_, h1, t_OB.to (V := updV (vp_V fs) k v) ⟨_, e1, q2, q3, t_set q4 hap h2 v⟩ (fun j _ => vp_updV_set hl v j), by rw [List.length_set]; exact g5⟩
    · intro x hx
      rcases List.mem_append.mp hx with hx | hx
      · exact ho x hx
      · cases List.mem_singleton.mp hx
        exact (hr.2.2.2 q _ hq).1
  rcases h4 with ⟨h4, h6 | ⟨h6, h7, h8⟩⟩ | ⟨h6, host, h4⟩
  · have hlay := hts _ (c1 _ (u_in_lay h2))
    unfold u_lay at hlay
    rw [if_neg (by rw [h6]; decide)] at hlay
    have h9 := u_store hfc hkC hkind hlay hi h5 hn hfit
    exact W.putK hx hb (f := f) ⟨hown, hts _ h4, ⟨_, _, _, hi'⟩, hst⟩ (by rw [q2]; exact h9) q1 q3 (by rw [hsl]; exact k2_hasslot (q4 k h2)) rfl rfl hd fin
  · have h9 := u_fits hfc hkC hkind (u_lays hts c1 h2) hi h5 hn hfit
    have hlay := hts _ (c1 _ (u_in_lay h2))
    unfold u_lay at hlay
    rw [if_pos h6] at hlay
    have hcf : m.cls = cf := by
      obtain ⟨_, _, c', _, _, _, -, -, hf', -, -, -, hown2, -⟩ := Cond.laysFinal_spec hlay
      have e1 : c' = cf := by have := hi.symm.trans hf'; simp at this; exact this.1.symm
      rw [h3, h8] at hown2
      rw [← e1]; exact Option.some.inj (hown.symm.trans hown2)
    have ha : q < H.size := (Array.getElem?_eq_some_iff.mp q1).1
    refine W.putf hx hb hown (hts _ h4) hi' hst (Or.inr ⟨hcf, hnm.trans h7⟩) q1 (by rw [q3]; exact fun h => by cases h) (by rw [hsl]; exact k2_hasslot (q4 k h2)) h9.1 (by rw [q2, q3]; exact h9.2) rfl rfl hd ?_
    refine fin _ ?_ ?_ ?_
    · simp [Array.getElem?_setIfInBounds, ha]
    · simp
    · intro j hj
      simp [Array.getElem?_setIfInBounds, Ne.symm hj]
  · have hlay := hts _ (c1 _ (u_in_lay h2))
    unfold u_lay at hlay
    rw [if_neg (by rw [h6]; decide)] at hlay
    have h9 := u_store hfc hkC hkind hlay hi h5 hn hfit
    exact va_WputK hx hb hown (hts _ h4) hi' hst (by rw [q2]; exact h9) q1 q3 (by rw [hsl]; exact k2_hasslot (q4 k h2)) rfl rfl hd fin
end GC
