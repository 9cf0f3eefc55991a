/-! A new reader in memory; the reference's empty table. -/
section NR
variable {B : Int} {x : Nat} {K : HK} {pr : HP} {pt : Nat → Nat} {rr : HP} {n : Nat} {M : ZM} {lg : Nat → Nat → Int64} {A T : Int → Int} {U : List (Int → Int)} {I : IMG} {F : Nat}
theorem gI_new {G : GH} {q ci k m : Nat} {e : AC} (h : q ≠ m) : gI (gset G m e) q ci k = gI G q ci k := by
  unfold gI
  rw [gset_ne h]
set_option maxRecDepth 100000 in
set_option maxHeartbeats 4000000 in
theorem kc_X8 {G : GH} {a p p1 : Nat} {v : Int32} (hne : p ≠ a) (hR : gR G p 2 0 = some p1) (hI : gI G p 2 1 = some v) : f_X8_init F a p (a + 1) (gset G a (.inr (8, df_X8))) = some (a + 1, blk G a [.inr (8, [.ref p1, .int v, .int 0, .int 0, .int 0, .int 0])]) := by
  have e0 : gset G a (.inr (8, df_X8)) = gset (blk G (a + 1) []) a (.inr (8, df_X8)) := by rw [blk_nil]
  have q1 : ∀ o : AC, gR (gset (blk G (a + 1) []) a o) p 2 0 = some p1 := fun o => by rw [gR_new hne, blk_nil]; exact hR
  have q2 : ∀ o : AC, gI (gset (blk G (a + 1) []) a o) p 2 1 = some v := fun o => by rw [gI_new hne, blk_nil]; exact hI
  unfold f_X8_init
  rw [e0, k_put (by exact Nat.le_of_ble_eq_true rfl), k_put (by exact Nat.le_of_ble_eq_true rfl), k_put (by exact Nat.le_of_ble_eq_true rfl), k_put (by exact Nat.le_of_ble_eq_true rfl), q1, ob_z, k_put (by exact Nat.le_of_ble_eq_true rfl), q2, ob_z, k_put (by exact Nat.le_of_ble_eq_true rfl), blk_hd]
  rfl
set_option maxRecDepth 100000 in
set_option maxHeartbeats 4000000 in
theorem kc_X6 {G : GH} {a p p1 : Nat} {v : Int} (hlt : p < a) (hR : gR G p 2 0 = some p1) (hI : gI G p 2 1 = some (zt v)) : f_X6_init F a p (a + 1) (gset G a (.inr (6, df_X6))) = csU (f_J7_fill_53178 F (a + 10) (-1 : Int32) (a + 12) (blk G a (rd_C a p1 v))) (fun n14 G15 => some (n14, G15)) := by
  have e0 : gset G a (.inr (6, df_X6)) = gset (blk G (a + 1) []) a (.inr (6, df_X6)) := by rw [blk_nil]
  unfold f_X6_init
  rw [e0, v_csU (kc_X3 (a := a + 1)), blk_flat (by rfl) (by omega), k_put (by exact Nat.le_of_ble_eq_true rfl), k_new (by rfl) (by omega) (by exact Nat.le_of_ble_eq_true rfl), k_put (by exact Nat.le_of_ble_eq_true rfl), k_put (by exact Nat.le_of_ble_eq_true rfl), k_put (by exact Nat.le_of_ble_eq_true rfl), k_put (by exact Nat.le_of_ble_eq_true rfl), k_put (by exact Nat.le_of_ble_eq_true rfl)]
  have q1 : ∀ (l : List AC) (o : AC), gR (gset (blk G (a + 1) l) a o) p 2 0 = some p1 := fun l o => by
    rw [gR_new (by omega)]
    unfold gR at hR ⊢
    rw [blk_out (by omega)]
    exact hR
  have q2 : ∀ (l : List AC) (o : AC), gI (gset (blk G (a + 1) l) a o) p 2 1 = some (zt v) := fun l o => by
    rw [gI_new (by omega)]
    unfold gI at hI ⊢
    rw [blk_out (by omega)]
    exact hI
  rw [v_csU (kc_X8 (a := a + 1 + 9 + 1) (by omega) (q1 _ _) (q2 _ _)), blk_flat (by rfl) (by omega), k_put (by exact Nat.le_of_ble_eq_true rfl), blk_hd]
  have e1 : gR (blk G a (rd_C a p1 v)) a 6 2 = some (a + 10) := by
    have e2 : blk G a (rd_C a p1 v) a = some (.inr (6, [.ref (a + 11), .ref (a + 1), .ref (a + 10), .int 0, .int 0, .int 0, .int 0, .int (-1)])) := blk_in (l := rd_C a p1 v) (d := 0) (Nat.le_of_ble_eq_true rfl)
    unfold gR
    rw [e2]
    rfl
  refine Eq.trans (show _ = Option.bind (gR (blk G a (rd_C a p1 v)) a 6 2) (fun x13 => csU (f_J7_fill_53178 F x13 (-1 : Int32) (a + 12) (blk G a (rd_C a p1 v))) (fun n14 G15 => some (n14, G15))) from rfl) ?_
  rw [e1]
  rfl
theorem HS.newR {pb : Nat} (h : HS K pr pt rr n x) : HS (xK K n rd_K) (xP pr n 12 (rd_P n pb)) pt (xP rr n 12 (fun _ _ => none)) (n + 12) x := by
  have hn := h.n0
  have hL : rd_K.length = 12 := rfl
  have hK : ∀ q, q < n → xK K n rd_K q = K q ∧ xP pr n 12 (rd_P n pb) q = pr q := fun q hq => ⟨xK_out (by omega), xP_out (by omega)⟩
  refine h.grow (by omega) (fun q hq => ⟨(hK q hq).1, (hK q hq).2, rfl⟩) (fun a ha => ?_) (fun a ha hk => ?_) (fun a ha hk => ?_) ?_
  · rw [xK_out (by omega)]; exact h.2.2.2.2.2.2.2.1.1 a (by omega)
  · exfalso
    rcases Nat.lt_or_ge a (n + 12) with g | g
    · have e := xK_in (K := K) (a := n) (d := a - n) (l := rd_K) (by omega)
      rw [show n + (a - n) = a by omega, hk] at e
      have h13 : ∀ d, d < 12 → ¬ rd_K[d]? = some (.inr 0) := by decide
      exact h13 (a - n) (by omega) e.symm
    · rw [xK_out (by omega), h.2.2.2.2.2.2.2.1.1 a (by omega)] at hk; cases hk
  · exfalso
    rcases Nat.lt_or_ge a (n + 12) with g | g
    · have e := xK_in (K := K) (a := n) (d := a - n) (l := rd_K) (by omega)
      rw [show n + (a - n) = a by omega, hk] at e
      have h13 : ∀ d, d < 12 → ¬ rd_K[d]? = some (.inr 2) := by decide
      exact h13 (a - n) (by omega) e.symm
    · rw [xK_out (by omega), h.2.2.2.2.2.2.2.1.1 a (by omega)] at hk; cases hk
  · have e4 : xP rr n 12 (fun _ _ => none) (x + 4) = rr (x + 4) := xP_out (by omega)
    have e5 : xP rr n 12 (fun _ _ => none) (x + 5) = rr (x + 5) := xP_out (by omega)
    have e6 : xP rr n 12 (fun _ _ => none) (x + 6) = rr (x + 6) := xP_out (by omega)
    have eD : ∀ s, DB (xP rr n 12 (fun _ _ => none)) x s = DB rr x s := fun s => by unfold DB; rw [e4, e5]
    obtain ⟨r1, r2, r3, r4, r5⟩ := h.rrs
    refine ⟨fun s a hs ha => ?_, fun s s1 a hs hs1 ha ha1 => ?_, ?_, ?_, ?_⟩
    · rw [eD] at ha
      have := r1 s a hs ha
      exact ⟨by rw [(hK a (h.lt this.1)).1]; exact this.1, this.2⟩
    · rw [eD] at ha ha1
      exact r2 s s1 a hs hs1 ha ha1
    · intro k a hk ha
      rw [e6] at ha
      have := r3 k a hk ha
      exact ⟨by rw [(hK a (h.lt this.1)).1]; exact this.1, this.2⟩
    · intro k k1 a hk hk1 ha ha1
      rw [e6] at ha ha1
      exact r4 k k1 a hk hk1 ha ha1
    · intro k hk
      rw [e5, e6]
      exact r5 k hk
theorem rd_ok {pb : Nat} (hlt : pb < n) (hb : K pb = some (.inl (1, 600))) : OkReader (xK K n rd_K) (xP pr n 12 (rd_P n pb)) n pb := by
  have k : ∀ d, d < 12 → xK K n rd_K (n + d) = rd_K[d]? := fun d hd => xK_in hd
  have f : ∀ d i, d < 12 → xP pr n 12 (rd_P n pb) (n + d) i = rd_P n pb d i := fun d i hd => by rw [xP_in hd]
  exact ⟨k 0 (by decide), f 0 0 (by decide), ⟨k 11 (by decide), f 11 0 (by decide), by rw [xK_out (by omega)]; exact hb⟩, f 0 1 (by decide), ⟨k 1 (by decide), f 1 1 (by decide), k 2 (by decide), f 1 2 (by decide), k 3 (by decide), f 1 3 (by decide), k 4 (by decide), f 1 4 (by decide), k 5 (by decide), f 1 5 (by decide), k 6 (by decide), f 1 6 (by decide), k 7 (by decide), f 1 7 (by decide), k 8 (by decide), f 1 8 (by decide), k 9 (by decide)⟩, f 0 2 (by decide), k 10 (by decide)⟩
/-- a table as it is read keeps to all that a kept row keeps to -/
theorem GR.fresh (hB : 0 ≤ B) (hw : wfP A) (hz : Z0 A) : GR B A := by
  obtain ⟨z1, z2, z3, z4, z5, z6, z7, z8⟩ := hz
  have hc := hw.1
  refine ⟨⟨hw, ⟨by omega, fun s p s0 s1 p0 p1 => ?_⟩, ⟨by omega, fun t t0 t1 => by omega⟩, fun p p0 p1 => ?_⟩, ⟨by omega, by omega⟩, fun i i0 i1 => by omega, ?_, ?_⟩
  · rw [z3 _ (by omega) (by omega)]; omega
  · rw [z2 _ (by omega) (by omega)]; omega
  · have e : edL A = [] := by unfold edL; rw [z5]; rfl
    rw [e, z6]; rfl
  · have e : edL A = [] := by unfold edL; rw [z5]; rfl
    intro i y h
    rw [e] at h
    simp at h
end NR
section NX
variable {F : Nat} {w : Int64}
theorem x_zero : ∀ (n : Nat) (i : Int) (R : ZM) (K : Nat), i + n = 891 → 0 ≤ i → n < K → (∀ e, 0 ≤ e → e < i → R 5 e = 0) → ∃ R1, fixN (fun _ _ _ => none) (pb_X11_read_28 F) K (zt i) (LI R) w = pk_X11_read_48 F (LI R1) w ∧ (∀ e, 0 ≤ e → e < 891 → R1 5 e = 0) ∧ ∀ j, j ≠ 5 → R1 j = R j := by
  intro n
  induction n with
  | zero =>
    intro i R K h1 h2 hK h
    obtain ⟨g, rfl⟩ : ∃ g, K = g + 1 := ⟨K - 1, by omega⟩
    rw [fix_succ]
    refine ⟨R, ?_, fun e e0 e1 => h e e0 (by omega), fun _ _ => rfl⟩
    unfold pb_X11_read_28
    rw [show (891 : Int32) = zt 891 from rfl, if_pos (zle_pos (by omega) (by omega) (by omega))]
  | succ n ih =>
    intro i R K h1 h2 hK h
    obtain ⟨g, rfl⟩ : ∃ g, K = g + 1 := ⟨K - 1, by omega⟩
    obtain ⟨R1, a1, a2, a3⟩ := ih (i + 1) (uM R 5 i 0) g (by omega) (by omega) (by omega) (fun e e0 e1 => by
      by_cases q : e = i
      · rw [uM_eqi q]
      · rw [uM_nei q]; exact h e e0 (by omega))
    rw [fix_succ]
    refine ⟨R1, ?_, a2, fun j hj => by rw [a3 j hj]; funext e; exact uM_ne hj⟩
    rw [← a1]
    generalize fixN (fun _ _ _ => none) (pb_X11_read_28 F) g = rr
    unfold pb_X11_read_28
    rw [show (891 : Int32) = zt 891 from rfl, if_neg (zle_neg (by omega) (by omega) (by omega)), show (0 : Int32) = zt 0 from rfl, mS_z (by omega) (by omega) (by omega), ob_z, show (1 : Int32) = zt 1 from rfl, zt_add]
end NX
