/-! The class's cells as plain memory: kinds by address (K), pointers (pr), ints (sg), longs (lg). -/
def hFT : List (List Nat) := [[3, 0, 2, 2, 2, 2], [2, 2, 2, 0, 0, 1, 2], [2, 0, 0, 0], [0, 2, 2, 2, 2, 2, 2, 2, 2], [2, 0, 0], [3, 0, 2, 2, 0, 2, 0, 1, 0], [2, 2, 2, 0, 0, 0, 0, 0], [0, 2, 2, 2, 2, 2, 2], [2, 0, 0, 0, 0, 0], [0, 0, 2, 0, 2], [2, 2, 2, 2, 2, 2, 2, 2, 2], [0, 2, 2, 2, 2, 0, 0, 0, 0, 0, 0, 0, 1, 0, 0, 0, 2, 2, 2, 0, 2, 2, 2, 2, 2, 2, 0, 2, 2, 0, 2, 2, 0, 2, 2, 0, 2]]
abbrev HK : Type := Nat → Option ((Nat × Nat) ⊕ Nat)
abbrev HP : Type := Nat → Nat → Option Nat
def hval (pr : HP) (pt : Nat → Nat) (sg : Nat → Nat → Int32) (lg : Nat → Nat → Int64) (q k t : Nat) : Value := match t with
  | 0 => .int (sg q k)
  | 1 => .long (lg q k)
  | 2 => va_rf (pr q k)
  | _ => .ref (pt q)
def hfs (pr : HP) (pt : Nat → Nat) (sg : Nat → Nat → Int32) (lg : Nat → Nat → Int64) (q : Nat) (ts : List Nat) (k : Nat) : List Value := match ts with
  | [] => []
  | t :: r => hval pr pt sg lg q k t :: hfs pr pt sg lg q r (k + 1)
def harr (rr : HP) (sg : Nat → Nat → Int32) (lg : Nat → Nat → Int64) (q t : Nat) : (Nat → Int32) ⊕ (Nat → Int64) ⊕ (Nat → UInt32) ⊕ (Nat → UInt64) ⊕ (Nat → Option Nat) :=
  if t ≤ 2 then .inl (sg q) else if t = 3 then .inr (.inl (lg q)) else .inr (.inr (.inr (.inr (rr q))))
def hp (K : HK) (pr : HP) (pt : Nat → Nat) (rr : HP) (sg : Nat → Nat → Int32) (lg : Nat → Nat → Int64) : GH := fun q => match K q with
  | some (.inl (t, N)) => some (.inl (t, N, harr rr sg lg q t))
  | some (.inr c) => some (.inr (c, hfs pr pt sg lg q (hFT.getD c []) 0))
  | none => none
def up3 (lg : Nat → Nat → Int64) (a i : Nat) (v : Int64) : Nat → Nat → Int64 := fun b => if b = a then vp_updL (lg a) i v else lg b
theorem hfs_at (pr : HP) (pt : Nat → Nat) (sg : Nat → Nat → Int32) (lg : Nat → Nat → Int64) (q : Nat) : ∀ (ts : List Nat) (k j : Nat), (hfs pr pt sg lg q ts k)[j]? = (ts[j]?).map (fun t => hval pr pt sg lg q (k + j) t)
  | [], k, j => by simp [hfs]
  | t :: r, k, 0 => by simp [hfs]
  | t :: r, k, j + 1 => by
    simp only [hfs, List.getElem?_cons_succ]
    rw [hfs_at pr pt sg lg q r (k + 1) j, show k + 1 + j = k + (j + 1) by omega]
theorem hfs_len (pr : HP) (pt : Nat → Nat) (sg : Nat → Nat → Int32) (lg : Nat → Nat → Int64) (q : Nat) : ∀ (ts : List Nat) (k : Nat), (hfs pr pt sg lg q ts k).length = ts.length
  | [], k => rfl
  | t :: r, k => by simp [hfs, hfs_len pr pt sg lg q r (k + 1)]
theorem hfs_set {pr pr1 : HP} {pt pt1 : Nat → Nat} {sg sg1 : Nat → Nat → Int32} {lg lg1 : Nat → Nat → Int64} {q j t : Nat} {ts : List Nat} {v : Value} (hj : ts[j]? = some t) (hv : hval pr1 pt1 sg1 lg1 q j t = v) (ho : ∀ i u, i ≠ j → ts[i]? = some u → hval pr1 pt1 sg1 lg1 q i u = hval pr pt sg lg q i u) : (hfs pr pt sg lg q ts 0).set j v = hfs pr1 pt1 sg1 lg1 q ts 0 := by
  apply List.ext_getElem?
  intro i
  rw [hfs_at, Nat.zero_add]
  by_cases h : i = j
  · subst h
    rw [List.getElem?_set_self (by rw [hfs_len]; exact (List.getElem?_eq_some_iff.mp hj).1), hj, ← hv]
    rfl
  · rw [List.getElem?_set_ne (Ne.symm h), hfs_at, Nat.zero_add]
    cases hi : ts[i]? with
    | none => rfl
    | some u =>
      simp only [Option.map_some]
      rw [ho i u h hi]
section CR
variable {Z Y : Type} {fin : Y → Z} {K : HK} {pr : HP} {pt : Nat → Nat} {rr : HP} {n : Nat} {sg : Nat → Nat → Int32} {lg : Nat → Nat → Int64} {q ci k : Nat}
theorem h_obj (hk : K q = some (.inr ci)) : hp K pr pt rr sg lg q = some (.inr (ci, hfs pr pt sg lg q (hFT.getD ci []) 0)) := by unfold hp; rw [hk]
theorem h_arr {t N : Nat} (hk : K q = some (.inl (t, N))) (ht : t ≤ 2) : hp K pr pt rr sg lg q = some (.inl (t, N, .inl (sg q))) := by unfold hp; rw [hk]; simp only [harr, ht, if_true]
theorem c_gI {Kk : Int32 → Option Z} {R : Option Z} (hk : K q = some (.inr ci)) (hf : (hFT.getD ci [])[k]? = some 0) (h : Kk (sg q k) = R) : Option.bind (gI (hp K pr pt rr sg lg) q ci k) Kk = R := by
  have e : gI (hp K pr pt rr sg lg) q ci k = some (sg q k) := by
    unfold gI
    rw [h_obj hk]
    simp only [if_true, hfs_at, hf, Nat.zero_add, Option.map_some, hval]
  rw [e]
  exact h
theorem c_gJ {Kk : Int64 → Option Z} {R : Option Z} (hk : K q = some (.inr ci)) (hf : (hFT.getD ci [])[k]? = some 1) (h : Kk (lg q k) = R) : Option.bind (gJ (hp K pr pt rr sg lg) q ci k) Kk = R := by
  have e : gJ (hp K pr pt rr sg lg) q ci k = some (lg q k) := by
    unfold gJ
    rw [h_obj hk]
    simp only [if_true, hfs_at, hf, Nat.zero_add, Option.map_some, hval]
  rw [e]
  exact h
theorem c_gR {Kk : Nat → Option Z} {R : Option Z} {a : Nat} (hk : K q = some (.inr ci)) (hf : (hFT.getD ci [])[k]? = some 2) (hq : pr q k = some a) (h : Kk a = R) : Option.bind (gR (hp K pr pt rr sg lg) q ci k) Kk = R := by
  have e : gR (hp K pr pt rr sg lg) q ci k = some a := by
    unfold gR
    rw [h_obj hk]
    simp only [if_true, hfs_at, hf, Nat.zero_add, Option.map_some, hval, hq, va_rf]
  rw [e]
  exact h
theorem c_gP {Kk : Nat → Option Z} {R : Option Z} {a : Nat} (hk : K q = some (.inr ci)) (hf : (hFT.getD ci [])[k]? = some 3) (hq : pt q = a) (h : Kk a = R) : Option.bind (gR (hp K pr pt rr sg lg) q ci k) Kk = R := by
  have e : gR (hp K pr pt rr sg lg) q ci k = some a := by
    unfold gR
    rw [h_obj hk]
    simp only [if_true, hfs_at, hf, Nat.zero_add, Option.map_some, hval, hq]
  rw [e]
  exact h
theorem c_aI {t N : Nat} {i : Int32} {Kk : Int32 → Option Z} {K1 : Int32 → Option Y} (hk : K q = some (.inl (t, N))) (ht : t ≤ 2) (h : ∀ x, Kk x = Option.map fin (K1 x)) : Option.bind (aI (hp K pr pt rr sg lg) q t i) Kk = Option.map fin (Option.bind (mI sg q N i) K1) := by
  unfold aI mI
  rw [h_arr hk ht]
  by_cases hc : i < 0 ∨ N ≤ i.toNatClampNeg
  · simp [hc]
  · simp only [hc, not_false_eq_true, and_self, if_true, if_false]
    exact h _
theorem c_aL {t N : Nat} {Kk : Int32 → Option Z} {R : Option Z} (hk : K q = some (.inl (t, N))) (ht : t ≤ 2) (h : Kk (Int32.ofNat N) = R) : Option.bind (aL (hp K pr pt rr sg lg) q) Kk = R := by
  have e : aL (hp K pr pt rr sg lg) q = some (Int32.ofNat N) := by
    unfold aL
    rw [h_arr hk ht]
    simp only [show t < 6 by omega, if_true]
  rw [e]
  exact h
theorem h_setA {t N i : Nat} {x : Int32} (hk : K q = some (.inl (t, N))) (ht : t ≤ 2) : gset (hp K pr pt rr sg lg) q (.inl (t, N, .inl (upd (sg q) i x))) = hp K pr pt rr (up2 sg q i x) lg := by
  funext j
  unfold gset
  by_cases hj : j = q
  · subst hj
    rw [if_pos rfl, h_arr hk ht]
    unfold up2
    rw [if_pos rfl]
  · rw [if_neg hj]
    have e : up2 sg q i x j = sg j := by unfold up2; rw [if_neg hj]
    unfold hp
    cases K j with
    | none => rfl
    | some c =>
      cases c with
      | inl p => simp only [harr, e]
      | inr c =>
        simp only
        congr 3
        exact List.ext_getElem? (fun i' => by rw [hfs_at, hfs_at]; cases (hFT.getD c [])[i']? with
          | none => rfl
          | some u => simp only [Option.map_some, hval, e])
theorem c_aS {t N : Nat} {i x : Int32} {Kk : GH → Option Z} {K1 : (Nat → Nat → Int32) → Option Y} (hk : K q = some (.inl (t, N))) (ht : t ≤ 2) (h : ∀ sg1, Kk (hp K pr pt rr sg1 lg) = Option.map fin (K1 sg1)) : Option.bind (aS (hp K pr pt rr sg lg) q t i x) Kk = Option.map fin (Option.bind (mS sg q N i x) K1) := by
  unfold aS mS
  rw [h_arr hk ht]
  by_cases hc : i < 0 ∨ N ≤ i.toNatClampNeg
  · simp [hc]
  · simp only [hc, not_false_eq_true, and_self, if_true, if_false]
    rw [h_setA hk ht]
    exact h _
theorem h_setI {v : Int32} (hk : K q = some (.inr ci)) (hf : (hFT.getD ci [])[k]? = some 0) : gset (hp K pr pt rr sg lg) q (.inr (ci, (hfs pr pt sg lg q (hFT.getD ci []) 0).set k (.int v))) = hp K pr pt rr (up2 sg q k v) lg := by
  funext j
  unfold gset
  by_cases hj : j = q
  · subst hj
    rw [if_pos rfl, h_obj hk, hfs_set (sg1 := up2 sg j k v) (lg1 := lg) (pr1 := pr) (pt1 := pt) hf (by simp [hval, up2, upd]) (fun i u hi _ => by unfold hval up2 upd; simp [hi])]
  · rw [if_neg hj]
    have e : up2 sg q k v j = sg j := by unfold up2; rw [if_neg hj]
    unfold hp
    cases K j with
    | none => rfl
    | some c =>
      cases c with
      | inl p => simp only [harr, e]
      | inr c =>
        simp only
        congr 3
        exact List.ext_getElem? (fun i' => by rw [hfs_at, hfs_at]; cases (hFT.getD c [])[i']? with
          | none => rfl
          | some u => simp only [Option.map_some, hval, e])
theorem c_pI {Kk : GH → Option Z} {K1 : (Nat → Nat → Int32) → Option Y} {v : Int32} (hk : K q = some (.inr ci)) (hf : (hFT.getD ci [])[k]? = some 0) (h : ∀ sg1, Kk (hp K pr pt rr sg1 lg) = Option.map fin (K1 sg1)) : Option.bind (pV (hp K pr pt rr sg lg) q ci k (.int v)) Kk = Option.map fin (gnm (up2 sg q k v) K1) := by
  have e : pV (hp K pr pt rr sg lg) q ci k (.int v) = some (hp K pr pt rr (up2 sg q k v) lg) := by
    unfold pV
    rw [h_obj hk]
    have hl : k < (hfs pr pt sg lg q (hFT.getD ci []) 0).length := by rw [hfs_len]; exact (List.getElem?_eq_some_iff.mp hf).1
    simp only [hl, and_self, if_true]
    rw [h_setI hk hf]
  rw [e]
  exact h _
theorem h_setJ {v : Int64} (hk : K q = some (.inr ci)) (hf : (hFT.getD ci [])[k]? = some 1) : gset (hp K pr pt rr sg lg) q (.inr (ci, (hfs pr pt sg lg q (hFT.getD ci []) 0).set k (.long v))) = hp K pr pt rr sg (up3 lg q k v) := by
  funext j
  unfold gset
  by_cases hj : j = q
  · subst hj
    rw [if_pos rfl, h_obj hk, hfs_set (sg1 := sg) (lg1 := up3 lg j k v) (pr1 := pr) (pt1 := pt) hf (by simp [hval, up3, vp_updL]) (fun i u hi _ => by unfold hval up3 vp_updL; simp [hi])]
  · rw [if_neg hj]
    have e : up3 lg q k v j = lg j := by unfold up3; rw [if_neg hj]
    unfold hp
    cases K j with
    | none => rfl
    | some c =>
      cases c with
      | inl p => simp only [harr, e]
      | inr c =>
        simp only
        congr 3
        exact List.ext_getElem? (fun i' => by rw [hfs_at, hfs_at]; cases (hFT.getD c [])[i']? with
          | none => rfl
          | some u => simp only [Option.map_some, hval, e])
theorem c_pJ {Kk : GH → Option Z} {K1 : (Nat → Nat → Int64) → Option Y} {v : Int64} (hk : K q = some (.inr ci)) (hf : (hFT.getD ci [])[k]? = some 1) (h : ∀ lg1, Kk (hp K pr pt rr sg lg1) = Option.map fin (K1 lg1)) : Option.bind (pV (hp K pr pt rr sg lg) q ci k (.long v)) Kk = Option.map fin (gnm (up3 lg q k v) K1) := by
  have e : pV (hp K pr pt rr sg lg) q ci k (.long v) = some (hp K pr pt rr sg (up3 lg q k v)) := by
    unfold pV
    rw [h_obj hk]
    have hl : k < (hfs pr pt sg lg q (hFT.getD ci []) 0).length := by rw [hfs_len]; exact (List.getElem?_eq_some_iff.mp hf).1
    simp only [hl, and_self, if_true]
    rw [h_setJ hk hf]
  rw [e]
  exact h _
theorem c_cvP {r r1 : Option Int32} {Kk : Int32 → Option Z} {K1 : Int32 → Option Y} (hk : K q = some (.inr ci)) (hr : r = r1) (h : ∀ x, Kk x = Option.map fin (K1 x)) : cvP (hp K pr pt rr sg lg) q ci r Kk = Option.map fin (Option.bind r1 K1) := by
  unfold cvP
  rw [h_obj hk]
  simp only [if_true]
  exact q_bd hr h
theorem c_cvS {kk : Nat} {r r1 : Option Int32} {Kk : Int32 → Option Z} {K1 : Int32 → Option Y} (hr : r = r1) (h : ∀ x, Kk x = Option.map fin (K1 x)) : cvS kk r Kk = Option.map fin (cvS kk r1 K1) := by
  unfold cvS
  split
  · exact q_bd hr h
  · rfl
theorem c_bdU {r r1 : Option Unit} {Kk : Unit → Option Z} {K1 : Unit → Option Y} (hr : r = r1) (h : ∀ x, Kk x = Option.map fin (K1 x)) : Option.bind r Kk = Option.map fin (Option.bind r1 K1) := by
  subst hr
  cases r with
  | none => rfl
  | some x => exact h x
theorem c_bdN {r r1 : Option Nat} {Kk : Nat → Option Z} {K1 : Nat → Option Y} (hr : r = r1) (h : ∀ x, Kk x = Option.map fin (K1 x)) : Option.bind r Kk = Option.map fin (Option.bind r1 K1) := by
  subst hr
  cases r with
  | none => rfl
  | some x => exact h x
theorem c_nr {α : Type} {a : α} {L : Option Z} {K1 : α → Option Y} (h : L = Option.map fin (K1 a)) : L = Option.map fin (gnm a K1) := h
def hcI {X : Type} (r : Option (Int32 × (Nat → Nat → Int32) × (Nat → Nat → Int64))) (Kk : Int32 → (Nat → Nat → Int32) → (Nat → Nat → Int64) → Option X) : Option X := Option.bind r (fun z => Kk z.1 z.2.1 z.2.2)
def hcU {X : Type} (r : Option ((Nat → Nat → Int32) × (Nat → Nat → Int64))) (Kk : (Nat → Nat → Int32) → (Nat → Nat → Int64) → Option X) : Option X := Option.bind r (fun z => Kk z.1 z.2)
theorem c_bI {r : Option (Int32 × Nat × GH)} {r1 : Option (Int32 × (Nat → Nat → Int32) × (Nat → Nat → Int64))} {Kk : Int32 → Nat → GH → Option Z} {K1 : Int32 → (Nat → Nat → Int32) → (Nat → Nat → Int64) → Option Y} (hr : r = Option.map (fun z => (z.1, n, hp K pr pt rr z.2.1 z.2.2)) r1) (h : ∀ x sg1 lg1, Kk x n (hp K pr pt rr sg1 lg1) = Option.map fin (K1 x sg1 lg1)) : Option.bind r (fun q => Kk q.1 q.2.1 q.2.2) = Option.map fin (hcI r1 K1) := by
  subst hr
  unfold hcI
  cases r1 with
  | none => rfl
  | some x => exact h _ _ _
theorem c_bU {r : Option (Nat × GH)} {r1 : Option ((Nat → Nat → Int32) × (Nat → Nat → Int64))} {Kk : Nat → GH → Option Z} {K1 : (Nat → Nat → Int32) → (Nat → Nat → Int64) → Option Y} (hr : r = Option.map (fun z => (n, hp K pr pt rr z.1 z.2)) r1) (h : ∀ sg1 lg1, Kk n (hp K pr pt rr sg1 lg1) = Option.map fin (K1 sg1 lg1)) : Option.bind r (fun q => Kk q.1 q.2) = Option.map fin (hcU r1 K1) := by
  subst hr
  unfold hcU
  cases r1 with
  | none => rfl
  | some x => exact h _ _
theorem c_cvI {r : Option (Int32 × Nat × GH)} {r1 : Option (Int32 × (Nat → Nat → Int32) × (Nat → Nat → Int64))} {Kk : Int32 → Nat → GH → Option Z} {K1 : Int32 → (Nat → Nat → Int32) → (Nat → Nat → Int64) → Option Y} (hk : K q = some (.inr ci)) (hr : r = Option.map (fun z => (z.1, n, hp K pr pt rr z.2.1 z.2.2)) r1) (h : ∀ x sg1 lg1, Kk x n (hp K pr pt rr sg1 lg1) = Option.map fin (K1 x sg1 lg1)) : cvI (hp K pr pt rr sg lg) q ci r Kk = Option.map fin (hcI r1 K1) := by
  unfold cvI
  rw [h_obj hk]
  simp only [if_true]
  exact c_bI hr h
theorem c_cvU {r : Option (Nat × GH)} {r1 : Option ((Nat → Nat → Int32) × (Nat → Nat → Int64))} {Kk : Nat → GH → Option Z} {K1 : (Nat → Nat → Int32) → (Nat → Nat → Int64) → Option Y} (hk : K q = some (.inr ci)) (hr : r = Option.map (fun z => (n, hp K pr pt rr z.1 z.2)) r1) (h : ∀ sg1 lg1, Kk n (hp K pr pt rr sg1 lg1) = Option.map fin (K1 sg1 lg1)) : cvU (hp K pr pt rr sg lg) q ci r Kk = Option.map fin (hcU r1 K1) := by
  unfold cvU
  rw [h_obj hk]
  simp only [if_true]
  exact c_bU hr h
def hN (ty : FieldType) (v : Int32) (sg : Nat → Nat → Int32) (lg : Nat → Nat → Int64) : Option (Int32 × (Nat → Nat → Int32) × (Nat → Nat → Int64)) := if vp_nar ty v = v then some (v, sg, lg) else none
theorem c_rN {ty : FieldType} {v : Int32} : rN ty v n (hp K pr pt rr sg lg) = Option.map (fun z => (z.1, n, hp K pr pt rr z.2.1 z.2.2)) (hN ty v sg lg) := by
  unfold rN hN
  split <;> rfl
/-- System.arraycopy over memory -/
def mC (sg : Nat → Nat → Int32) (t N0 N1 a0 : Nat) (sp : Int32) (a : Nat) (dp k : Int32) : Option (Nat → Nat → Int32) := if (¬ sp < 0 ∧ ¬ dp < 0 ∧ ¬ k < 0) ∧ sp.toNatClampNeg + k.toNatClampNeg ≤ N0 ∧ dp.toNatClampNeg + k.toNatClampNeg ≤ N1 ∧ (∀ i, i < k.toNatClampNeg → fits (g_ty t) (.int (sg a0 (sp.toNatClampNeg + i))) = true) then some (fun b => if b = a then va_cpy (sg a0) (sg a) sp.toNatClampNeg dp.toNatClampNeg k.toNatClampNeg else sg b) else none
theorem h_setC {t N : Nat} {f : Nat → Int32} (hk : K q = some (.inl (t, N))) (ht : t ≤ 2) : gset (hp K pr pt rr sg lg) q (.inl (t, N, .inl f)) = hp K pr pt rr (fun b => if b = q then f else sg b) lg := by
  funext j
  unfold gset
  by_cases hj : j = q
  · subst hj
    rw [if_pos rfl, h_arr hk ht, if_pos rfl]
  · rw [if_neg hj]
    unfold hp
    cases K j with
    | none => rfl
    | some c =>
      cases c with
      | inl p => simp only [harr, hj, if_false]
      | inr c =>
        simp only
        congr 3
        exact List.ext_getElem? (fun i' => by rw [hfs_at, hfs_at]; cases (hFT.getD c [])[i']? with
          | none => rfl
          | some u => simp only [Option.map_some, hval, hj, if_false])
theorem c_aC {t N0 N1 a0 a : Nat} {sp dp k : Int32} {Kk : GH → Option Z} {K1 : (Nat → Nat → Int32) → Option Y} (hk0 : K a0 = some (.inl (t, N0))) (hk : K a = some (.inl (t, N1))) (ht : t ≤ 2) (h : ∀ sg1, Kk (hp K pr pt rr sg1 lg) = Option.map fin (K1 sg1)) : Option.bind (aC (hp K pr pt rr sg lg) t a0 sp a dp k) Kk = Option.map fin (Option.bind (mC sg t N0 N1 a0 sp a dp k) K1) := by
  unfold aC mC
  rw [h_arr hk0 ht, h_arr hk ht]
  simp only [true_and]
  have ht2 : t = 0 ∨ t = 1 ∨ t = 2 := by omega
  simp only [ht2, true_and]
  split
  · rw [h_setC hk ht]
    exact h _
  · rfl
end CR
def OkThings (K : HK) (pr : HP) (a  : Nat) : Prop := K a = some (.inr 7) ∧ pr a 1 = some (a + 1) ∧ K (a + 1) = some (.inl (0, 60)) ∧ pr a 2 = some (a + 2) ∧ K (a + 2) = some (.inl (0, 60)) ∧ pr a 3 = some (a + 3) ∧ K (a + 3) = some (.inl (2, 60)) ∧ pr a 4 = some (a + 4) ∧ K (a + 4) = some (.inl (0, 60)) ∧ pr a 5 = some (a + 5) ∧ K (a + 5) = some (.inl (0, 240)) ∧ pr a 6 = some (a + 6) ∧ K (a + 6) = some (.inl (0, 60))
theorem OkThings.k0 {K : HK} {pr : HP} {a  : Nat} (h : OkThings K pr a ) : K a = some (.inr 7) := h.1
theorem OkThings.p1 {K : HK} {pr : HP} {a  : Nat} (h : OkThings K pr a ) : pr a 1 = some (a + 1) := h.2.1
theorem OkThings.k1 {K : HK} {pr : HP} {a  : Nat} (h : OkThings K pr a ) : K (a + 1) = some (.inl (0, 60)) := h.2.2.1
theorem OkThings.p2 {K : HK} {pr : HP} {a  : Nat} (h : OkThings K pr a ) : pr a 2 = some (a + 2) := h.2.2.2.1
theorem OkThings.k2 {K : HK} {pr : HP} {a  : Nat} (h : OkThings K pr a ) : K (a + 2) = some (.inl (0, 60)) := h.2.2.2.2.1
theorem OkThings.p3 {K : HK} {pr : HP} {a  : Nat} (h : OkThings K pr a ) : pr a 3 = some (a + 3) := h.2.2.2.2.2.1
theorem OkThings.k3 {K : HK} {pr : HP} {a  : Nat} (h : OkThings K pr a ) : K (a + 3) = some (.inl (2, 60)) := h.2.2.2.2.2.2.1
theorem OkThings.p4 {K : HK} {pr : HP} {a  : Nat} (h : OkThings K pr a ) : pr a 4 = some (a + 4) := h.2.2.2.2.2.2.2.1
theorem OkThings.k4 {K : HK} {pr : HP} {a  : Nat} (h : OkThings K pr a ) : K (a + 4) = some (.inl (0, 60)) := h.2.2.2.2.2.2.2.2.1
theorem OkThings.p5 {K : HK} {pr : HP} {a  : Nat} (h : OkThings K pr a ) : pr a 5 = some (a + 5) := h.2.2.2.2.2.2.2.2.2.1
theorem OkThings.k5 {K : HK} {pr : HP} {a  : Nat} (h : OkThings K pr a ) : K (a + 5) = some (.inl (0, 240)) := h.2.2.2.2.2.2.2.2.2.2.1
theorem OkThings.p6 {K : HK} {pr : HP} {a  : Nat} (h : OkThings K pr a ) : pr a 6 = some (a + 6) := h.2.2.2.2.2.2.2.2.2.2.2.1
theorem OkThings.k6 {K : HK} {pr : HP} {a  : Nat} (h : OkThings K pr a ) : K (a + 6) = some (.inl (0, 60)) := h.2.2.2.2.2.2.2.2.2.2.2.2
def OkTold (K : HK) (pr : HP) (a  : Nat) : Prop := K a = some (.inr 9) ∧ pr a 2 = some (a + 1) ∧ K (a + 1) = some (.inl (0, 73)) ∧ pr a 4 = some (a + 2) ∧ K (a + 2) = some (.inl (0, 60))
theorem OkTold.k0 {K : HK} {pr : HP} {a  : Nat} (h : OkTold K pr a ) : K a = some (.inr 9) := h.1
theorem OkTold.p2 {K : HK} {pr : HP} {a  : Nat} (h : OkTold K pr a ) : pr a 2 = some (a + 1) := h.2.1
theorem OkTold.k1 {K : HK} {pr : HP} {a  : Nat} (h : OkTold K pr a ) : K (a + 1) = some (.inl (0, 73)) := h.2.2.1
theorem OkTold.p4 {K : HK} {pr : HP} {a  : Nat} (h : OkTold K pr a ) : pr a 4 = some (a + 2) := h.2.2.2.1
theorem OkTold.k2 {K : HK} {pr : HP} {a  : Nat} (h : OkTold K pr a ) : K (a + 2) = some (.inl (0, 60)) := h.2.2.2.2
def OkParts (K : HK) (pr : HP) (a  : Nat) : Prop := K a = some (.inr 3) ∧ pr a 1 = some (a + 1) ∧ K (a + 1) = some (.inl (0, 12)) ∧ pr a 2 = some (a + 2) ∧ K (a + 2) = some (.inl (0, 12)) ∧ pr a 3 = some (a + 3) ∧ K (a + 3) = some (.inl (0, 12)) ∧ pr a 4 = some (a + 4) ∧ K (a + 4) = some (.inl (0, 12)) ∧ pr a 5 = some (a + 5) ∧ K (a + 5) = some (.inl (2, 12)) ∧ pr a 6 = some (a + 6) ∧ K (a + 6) = some (.inl (0, 12)) ∧ pr a 7 = some (a + 7) ∧ K (a + 7) = some (.inl (0, 12)) ∧ pr a 8 = some (a + 8) ∧ K (a + 8) = some (.inl (0, 48))
theorem OkParts.k0 {K : HK} {pr : HP} {a  : Nat} (h : OkParts K pr a ) : K a = some (.inr 3) := h.1
theorem OkParts.p1 {K : HK} {pr : HP} {a  : Nat} (h : OkParts K pr a ) : pr a 1 = some (a + 1) := h.2.1
theorem OkParts.k1 {K : HK} {pr : HP} {a  : Nat} (h : OkParts K pr a ) : K (a + 1) = some (.inl (0, 12)) := h.2.2.1
theorem OkParts.p2 {K : HK} {pr : HP} {a  : Nat} (h : OkParts K pr a ) : pr a 2 = some (a + 2) := h.2.2.2.1
theorem OkParts.k2 {K : HK} {pr : HP} {a  : Nat} (h : OkParts K pr a ) : K (a + 2) = some (.inl (0, 12)) := h.2.2.2.2.1
theorem OkParts.p3 {K : HK} {pr : HP} {a  : Nat} (h : OkParts K pr a ) : pr a 3 = some (a + 3) := h.2.2.2.2.2.1
theorem OkParts.k3 {K : HK} {pr : HP} {a  : Nat} (h : OkParts K pr a ) : K (a + 3) = some (.inl (0, 12)) := h.2.2.2.2.2.2.1
theorem OkParts.p4 {K : HK} {pr : HP} {a  : Nat} (h : OkParts K pr a ) : pr a 4 = some (a + 4) := h.2.2.2.2.2.2.2.1
theorem OkParts.k4 {K : HK} {pr : HP} {a  : Nat} (h : OkParts K pr a ) : K (a + 4) = some (.inl (0, 12)) := h.2.2.2.2.2.2.2.2.1
theorem OkParts.p5 {K : HK} {pr : HP} {a  : Nat} (h : OkParts K pr a ) : pr a 5 = some (a + 5) := h.2.2.2.2.2.2.2.2.2.1
theorem OkParts.k5 {K : HK} {pr : HP} {a  : Nat} (h : OkParts K pr a ) : K (a + 5) = some (.inl (2, 12)) := h.2.2.2.2.2.2.2.2.2.2.1
theorem OkParts.p6 {K : HK} {pr : HP} {a  : Nat} (h : OkParts K pr a ) : pr a 6 = some (a + 6) := h.2.2.2.2.2.2.2.2.2.2.2.1
theorem OkParts.k6 {K : HK} {pr : HP} {a  : Nat} (h : OkParts K pr a ) : K (a + 6) = some (.inl (0, 12)) := h.2.2.2.2.2.2.2.2.2.2.2.2.1
theorem OkParts.p7 {K : HK} {pr : HP} {a  : Nat} (h : OkParts K pr a ) : pr a 7 = some (a + 7) := h.2.2.2.2.2.2.2.2.2.2.2.2.2.1
theorem OkParts.k7 {K : HK} {pr : HP} {a  : Nat} (h : OkParts K pr a ) : K (a + 7) = some (.inl (0, 12)) := h.2.2.2.2.2.2.2.2.2.2.2.2.2.2.1
theorem OkParts.p8 {K : HK} {pr : HP} {a  : Nat} (h : OkParts K pr a ) : pr a 8 = some (a + 8) := h.2.2.2.2.2.2.2.2.2.2.2.2.2.2.2.1
theorem OkParts.k8 {K : HK} {pr : HP} {a  : Nat} (h : OkParts K pr a ) : K (a + 8) = some (.inl (0, 48)) := h.2.2.2.2.2.2.2.2.2.2.2.2.2.2.2.2
def OkPaper (K : HK) (pr : HP) (a  : Nat) : Prop := K a = some (.inr 2) ∧ pr a 0 = some (a + 1) ∧ K (a + 1) = some (.inl (1, 600))
theorem OkPaper.k0 {K : HK} {pr : HP} {a  : Nat} (h : OkPaper K pr a ) : K a = some (.inr 2) := h.1
theorem OkPaper.p0 {K : HK} {pr : HP} {a  : Nat} (h : OkPaper K pr a ) : pr a 0 = some (a + 1) := h.2.1
theorem OkPaper.k1 {K : HK} {pr : HP} {a  : Nat} (h : OkPaper K pr a ) : K (a + 1) = some (.inl (1, 600)) := h.2.2
def OkTokens (K : HK) (pr : HP) (a pb : Nat) : Prop := K a = some (.inr 8) ∧ pr a 0 = some pb ∧ K pb = some (.inl (1, 600))
theorem OkTokens.k0 {K : HK} {pr : HP} {a pb : Nat} (h : OkTokens K pr a pb) : K a = some (.inr 8) := h.1
theorem OkTokens.p0 {K : HK} {pr : HP} {a pb : Nat} (h : OkTokens K pr a pb) : pr a 0 = some pb := h.2.1
theorem OkTokens.kd {K : HK} {pr : HP} {a pb : Nat} (h : OkTokens K pr a pb) : K pb = some (.inl (1, 600)) := h.2.2
def OkBoard (K : HK) (pr : HP) (pt : Nat → Nat) (a p : Nat) : Prop := K a = some (.inr 0) ∧ pt a = p ∧ OkParts K pr p  ∧ pr a 2 = some (a + 1) ∧ K (a + 1) = some (.inl (0, 60)) ∧ pr a 3 = some (a + 2) ∧ K (a + 2) = some (.inl (0, 12)) ∧ pr a 4 = some (a + 3) ∧ OkThings K pr (a + 3)  ∧ pr a 5 = some (a + 10) ∧ OkTold K pr (a + 10) 
theorem OkBoard.k0 {K : HK} {pr : HP} {pt : Nat → Nat} {a p : Nat} (h : OkBoard K pr pt a p) : K a = some (.inr 0) := h.1
theorem OkBoard.p0 {K : HK} {pr : HP} {pt : Nat → Nat} {a p : Nat} (h : OkBoard K pr pt a p) : pt a = p := h.2.1
theorem OkBoard.o0 {K : HK} {pr : HP} {pt : Nat → Nat} {a p : Nat} (h : OkBoard K pr pt a p) : OkParts K pr p  := h.2.2.1
theorem OkBoard.p2 {K : HK} {pr : HP} {pt : Nat → Nat} {a p : Nat} (h : OkBoard K pr pt a p) : pr a 2 = some (a + 1) := h.2.2.2.1
theorem OkBoard.k1 {K : HK} {pr : HP} {pt : Nat → Nat} {a p : Nat} (h : OkBoard K pr pt a p) : K (a + 1) = some (.inl (0, 60)) := h.2.2.2.2.1
theorem OkBoard.p3 {K : HK} {pr : HP} {pt : Nat → Nat} {a p : Nat} (h : OkBoard K pr pt a p) : pr a 3 = some (a + 2) := h.2.2.2.2.2.1
theorem OkBoard.k2 {K : HK} {pr : HP} {pt : Nat → Nat} {a p : Nat} (h : OkBoard K pr pt a p) : K (a + 2) = some (.inl (0, 12)) := h.2.2.2.2.2.2.1
theorem OkBoard.p4 {K : HK} {pr : HP} {pt : Nat → Nat} {a p : Nat} (h : OkBoard K pr pt a p) : pr a 4 = some (a + 3) := h.2.2.2.2.2.2.2.1
theorem OkBoard.o4 {K : HK} {pr : HP} {pt : Nat → Nat} {a p : Nat} (h : OkBoard K pr pt a p) : OkThings K pr (a + 3)  := h.2.2.2.2.2.2.2.2.1
theorem OkBoard.p5 {K : HK} {pr : HP} {pt : Nat → Nat} {a p : Nat} (h : OkBoard K pr pt a p) : pr a 5 = some (a + 10) := h.2.2.2.2.2.2.2.2.2.1
theorem OkBoard.o5 {K : HK} {pr : HP} {pt : Nat → Nat} {a p : Nat} (h : OkBoard K pr pt a p) : OkTold K pr (a + 10)  := h.2.2.2.2.2.2.2.2.2.2
def OkMaker (K : HK) (pr : HP) (pt : Nat → Nat) (a b p : Nat) : Prop := K a = some (.inr 1) ∧ pr a 0 = some (b) ∧ OkBoard K pr pt b p ∧ pr a 1 = some (b + 3) ∧ OkThings K pr (b + 3)  ∧ pr a 2 = some (a + 1) ∧ K (a + 1) = some (.inl (0, 73)) ∧ pr a 6 = some (a + 2) ∧ K (a + 2) = some (.inl (0, 48))
theorem OkMaker.k0 {K : HK} {pr : HP} {pt : Nat → Nat} {a b p : Nat} (h : OkMaker K pr pt a b p) : K a = some (.inr 1) := h.1
theorem OkMaker.p0 {K : HK} {pr : HP} {pt : Nat → Nat} {a b p : Nat} (h : OkMaker K pr pt a b p) : pr a 0 = some (b) := h.2.1
theorem OkMaker.o0 {K : HK} {pr : HP} {pt : Nat → Nat} {a b p : Nat} (h : OkMaker K pr pt a b p) : OkBoard K pr pt b p := h.2.2.1
theorem OkMaker.p1 {K : HK} {pr : HP} {pt : Nat → Nat} {a b p : Nat} (h : OkMaker K pr pt a b p) : pr a 1 = some (b + 3) := h.2.2.2.1
theorem OkMaker.o1 {K : HK} {pr : HP} {pt : Nat → Nat} {a b p : Nat} (h : OkMaker K pr pt a b p) : OkThings K pr (b + 3)  := h.2.2.2.2.1
theorem OkMaker.p2 {K : HK} {pr : HP} {pt : Nat → Nat} {a b p : Nat} (h : OkMaker K pr pt a b p) : pr a 2 = some (a + 1) := h.2.2.2.2.2.1
theorem OkMaker.k1 {K : HK} {pr : HP} {pt : Nat → Nat} {a b p : Nat} (h : OkMaker K pr pt a b p) : K (a + 1) = some (.inl (0, 73)) := h.2.2.2.2.2.2.1
theorem OkMaker.p6 {K : HK} {pr : HP} {pt : Nat → Nat} {a b p : Nat} (h : OkMaker K pr pt a b p) : pr a 6 = some (a + 2) := h.2.2.2.2.2.2.2.1
theorem OkMaker.k2 {K : HK} {pr : HP} {pt : Nat → Nat} {a b p : Nat} (h : OkMaker K pr pt a b p) : K (a + 2) = some (.inl (0, 48)) := h.2.2.2.2.2.2.2.2
def OkPlan (K : HK) (pr : HP) (pt : Nat → Nat) (a p : Nat) : Prop := K a = some (.inr 5) ∧ pt a = p ∧ OkParts K pr p  ∧ pr a 2 = some (a + 1) ∧ K (a + 1) = some (.inl (0, 12)) ∧ pr a 3 = some (a + 2) ∧ K (a + 2) = some (.inl (0, 12)) ∧ pr a 5 = some (a + 3) ∧ K (a + 3) = some (.inl (0, 12))
theorem OkPlan.k0 {K : HK} {pr : HP} {pt : Nat → Nat} {a p : Nat} (h : OkPlan K pr pt a p) : K a = some (.inr 5) := h.1
theorem OkPlan.p0 {K : HK} {pr : HP} {pt : Nat → Nat} {a p : Nat} (h : OkPlan K pr pt a p) : pt a = p := h.2.1
theorem OkPlan.o0 {K : HK} {pr : HP} {pt : Nat → Nat} {a p : Nat} (h : OkPlan K pr pt a p) : OkParts K pr p  := h.2.2.1
theorem OkPlan.p2 {K : HK} {pr : HP} {pt : Nat → Nat} {a p : Nat} (h : OkPlan K pr pt a p) : pr a 2 = some (a + 1) := h.2.2.2.1
theorem OkPlan.k1 {K : HK} {pr : HP} {pt : Nat → Nat} {a p : Nat} (h : OkPlan K pr pt a p) : K (a + 1) = some (.inl (0, 12)) := h.2.2.2.2.1
theorem OkPlan.p3 {K : HK} {pr : HP} {pt : Nat → Nat} {a p : Nat} (h : OkPlan K pr pt a p) : pr a 3 = some (a + 2) := h.2.2.2.2.2.1
theorem OkPlan.k2 {K : HK} {pr : HP} {pt : Nat → Nat} {a p : Nat} (h : OkPlan K pr pt a p) : K (a + 2) = some (.inl (0, 12)) := h.2.2.2.2.2.2.1
theorem OkPlan.p5 {K : HK} {pr : HP} {pt : Nat → Nat} {a p : Nat} (h : OkPlan K pr pt a p) : pr a 5 = some (a + 3) := h.2.2.2.2.2.2.2.1
theorem OkPlan.k3 {K : HK} {pr : HP} {pt : Nat → Nat} {a p : Nat} (h : OkPlan K pr pt a p) : K (a + 3) = some (.inl (0, 12)) := h.2.2.2.2.2.2.2.2
def OkReader (K : HK) (pr : HP) (a pb : Nat) : Prop := K a = some (.inr 6) ∧ pr a 0 = some (a + 11) ∧ OkTokens K pr (a + 11) pb ∧ pr a 1 = some (a + 1) ∧ OkParts K pr (a + 1)  ∧ pr a 2 = some (a + 10) ∧ K (a + 10) = some (.inl (0, 12))
theorem OkReader.k0 {K : HK} {pr : HP} {a pb : Nat} (h : OkReader K pr a pb) : K a = some (.inr 6) := h.1
theorem OkReader.p0 {K : HK} {pr : HP} {a pb : Nat} (h : OkReader K pr a pb) : pr a 0 = some (a + 11) := h.2.1
theorem OkReader.o0 {K : HK} {pr : HP} {a pb : Nat} (h : OkReader K pr a pb) : OkTokens K pr (a + 11) pb := h.2.2.1
theorem OkReader.p1 {K : HK} {pr : HP} {a pb : Nat} (h : OkReader K pr a pb) : pr a 1 = some (a + 1) := h.2.2.2.1
theorem OkReader.o1 {K : HK} {pr : HP} {a pb : Nat} (h : OkReader K pr a pb) : OkParts K pr (a + 1)  := h.2.2.2.2.1
theorem OkReader.p2 {K : HK} {pr : HP} {a pb : Nat} (h : OkReader K pr a pb) : pr a 2 = some (a + 10) := h.2.2.2.2.2.1
theorem OkReader.k10 {K : HK} {pr : HP} {a pb : Nat} (h : OkReader K pr a pb) : K (a + 10) = some (.inl (0, 12)) := h.2.2.2.2.2.2
