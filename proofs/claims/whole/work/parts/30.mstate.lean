/-! The reference's state: its fields (row 0) and its arrays (rows 1 to 20) as numbers, and its word. -/
def mfs (mo : Nat) (sg : Nat → Nat → Int32) (w : Int64) : List Value := [.int (sg 0 0), .ref (mo + 1), .ref (mo + 2), .ref (mo + 3), .ref (mo + 4), .int (sg 0 5), .int (sg 0 6), .int (sg 0 7), .int (sg 0 8), .int (sg 0 9), .int (sg 0 10), .int (sg 0 11), .long w, .int (sg 0 13), .int (sg 0 14), .int (sg 0 15), .ref (mo + 5), .ref (mo + 6), .ref (mo + 7), .int (sg 0 19), .ref (mo + 8), .ref (mo + 9), .ref (mo + 10), .ref (mo + 11), .ref (mo + 12), .ref (mo + 13), .int (sg 0 26), .ref (mo + 14), .ref (mo + 15), .int (sg 0 29), .ref (mo + 16), .ref (mo + 17), .int (sg 0 32), .ref (mo + 18), .ref (mo + 19), .int (sg 0 35), .ref (mo + 20)]
def mlen : Nat → Nat := fun k => match k with
  | 1 => 4470
  | 2 => 2400
  | 3 => 3
  | 4 => 7128
  | 5 => 891
  | 6 => 300
  | 7 => 300
  | 8 => 11
  | 9 => 16
  | 10 => 16
  | 11 => 16
  | 12 => 16
  | 13 => 64
  | 14 => 64
  | 15 => 64
  | 16 => 60
  | 17 => 12
  | 18 => 12
  | 19 => 13
  | 20 => 3
  | _ => 0
def mty : Nat → Nat := fun k => match k with
  | 2 => 1
  | 3 => 2
  | _ => 0
def mput (G0 : GH) (mo : Nat) (sg : Nat → Nat → Int32) (w : Int64) : GH := fun q => if q = mo then some (.inr (11, mfs mo sg w)) else if mo < q ∧ q ≤ mo + 20 then some (.inl (mty (q - mo), mlen (q - mo), .inl (sg (q - mo)))) else G0 q
def up2 (sg : Nat → Nat → Int32) (a i : Nat) (v : Int32) : Nat → Nat → Int32 := fun b => if b = a then upd (sg a) i v else sg b
def mI (sg : Nat → Nat → Int32) (j N : Nat) (i : Int32) : Option Int32 := if i < 0 ∨ N ≤ i.toNatClampNeg then none else some (sg j i.toNatClampNeg)
def mS (sg : Nat → Nat → Int32) (j N : Nat) (i x : Int32) : Option (Nat → Nat → Int32) := if i < 0 ∨ N ≤ i.toNatClampNeg then none else some (up2 sg j i.toNatClampNeg x)
def mN (ty : FieldType) (v : Int32) (sg : Nat → Nat → Int32) (w : Int64) : Option (Int32 × (Nat → Nat → Int32) × Int64) := if vp_nar ty v = v then some (v, sg, w) else none
def pcI {X : Type} (r : Option (Int32 × (Nat → Nat → Int32) × Int64)) (K : Int32 → (Nat → Nat → Int32) → Int64 → Option X) : Option X := Option.bind r (fun z => K z.1 z.2.1 z.2.2)
def pcU {X : Type} (r : Option ((Nat → Nat → Int32) × Int64)) (K : (Nat → Nat → Int32) → Int64 → Option X) : Option X := Option.bind r (fun z => K z.1 z.2)
theorem m_obj (G0 : GH) (mo : Nat) (sg : Nat → Nat → Int32) (w : Int64) : mput G0 mo sg w mo = some (.inr (11, mfs mo sg w)) := if_pos rfl
theorem m_arr (G0 : GH) (mo : Nat) (sg : Nat → Nat → Int32) (w : Int64) {j : Nat} (h : 1 ≤ j ∧ j ≤ 20) : mput G0 mo sg w (mo + j) = some (.inl (mty j, mlen j, .inl (sg j))) := by
  unfold mput
  rw [if_neg (by omega), if_pos (by omega), show mo + j - mo = j by omega]
theorem m_out {G0 : GH} {mo : Nat} {sg : Nat → Nat → Int32} {w : Int64} {q : Nat} (h : q < mo ∨ mo + 20 < q) : mput G0 mo sg w q = G0 q := by
  unfold mput
  rw [if_neg (by omega), if_neg (by omega)]
theorem fixN_ind2 {A B : Type} {z : A} {b : A → A} {z1 : B} {b1 : B → B} (P : A → B → Prop) (hz : P z z1) (hs : ∀ r r1, P r r1 → P (b r) (b1 r1)) : ∀ k, P (fixN z b k) (fixN z1 b1 k)
  | 0 => hz
  | k + 1 => hs _ _ (fixN_ind2 P hz hs k)
theorem q_mid {Z : Type} (o : Option Z) : Option.map (fun z => z) o = o := by cases o <;> rfl
theorem m_fs (mo : Nat) (sg sg1 : Nat → Nat → Int32) (w : Int64) (h : sg 0 = sg1 0) : mfs mo sg w = mfs mo sg1 w := by
  unfold mfs
  rw [h]
theorem m_set {G0 : GH} {mo : Nat} {sg : Nat → Nat → Int32} {w : Int64} {j i : Nat} {x : Int32} (h : 1 ≤ j ∧ j ≤ 20) : gset (mput G0 mo sg w) (mo + j) (.inl (mty j, mlen j, .inl (upd (sg j) i x))) = mput G0 mo (up2 sg j i x) w := by
  funext q
  unfold gset
  by_cases hq : q = mo + j
  · subst hq
    rw [if_pos rfl, m_arr _ _ _ _ h]
    unfold up2
    rw [if_pos rfl]
  · rw [if_neg hq]
    unfold mput
    by_cases h1 : q = mo
    · rw [if_pos h1, if_pos h1, m_fs mo sg (up2 sg j i x) w (by unfold up2; rw [if_neg (by omega)])]
    · rw [if_neg h1, if_neg h1]
      by_cases h2 : mo < q ∧ q ≤ mo + 20
      · rw [if_pos h2, if_pos h2]
        unfold up2
        rw [if_neg (by omega)]
      · rw [if_neg h2, if_neg h2]
theorem m_setF {G0 : GH} {mo : Nat} {sg sg1 : Nat → Nat → Int32} {w w1 : Int64} (h : ∀ j, 1 ≤ j → sg1 j = sg j) : gset (mput G0 mo sg w) mo (.inr (11, mfs mo sg1 w1)) = mput G0 mo sg1 w1 := by
  funext q
  unfold gset mput
  by_cases h1 : q = mo
  · rw [if_pos h1, if_pos h1]
  · rw [if_neg h1, if_neg h1, if_neg h1]
    by_cases h2 : mo < q ∧ q ≤ mo + 20
    · rw [if_pos h2, if_pos h2, h (q - mo) (by omega)]
    · rw [if_neg h2, if_neg h2]
section QR
variable {Z Y : Type} {fin : Y → Z} {G0 : GH} {mo n : Nat} {sg : Nat → Nat → Int32} {w : Int64}
theorem q_gI {K : Int32 → Option Z} {R : Option Z} (k : Nat) (hk : (mfs mo sg w)[k]? = some (.int (sg 0 k))) (h : K (sg 0 k) = R) : Option.bind (gI (mput G0 mo sg w) mo 11 k) K = R := by
  have e : gI (mput G0 mo sg w) mo 11 k = some (sg 0 k) := by
    unfold gI
    rw [m_obj]
    simp only [if_true, hk]
  rw [e]
  exact h
theorem q_gJ {K : Int64 → Option Z} {R : Option Z} (h : K w = R) : Option.bind (gJ (mput G0 mo sg w) mo 11 12) K = R := by
  have e : gJ (mput G0 mo sg w) mo 11 12 = some w := by
    unfold gJ
    rw [m_obj]
    rfl
  rw [e]
  exact h
theorem q_gR {K : Nat → Option Z} {R : Option Z} (k j : Nat) (hk : (mfs mo sg w)[k]? = some (.ref (mo + j))) (h : K (mo + j) = R) : Option.bind (gR (mput G0 mo sg w) mo 11 k) K = R := by
  have e : gR (mput G0 mo sg w) mo 11 k = some (mo + j) := by
    unfold gR
    rw [m_obj]
    simp only [if_true, hk]
  rw [e]
  exact h
theorem q_aI {j t N : Nat} {i : Int32} {K : Int32 → Option Z} {K1 : Int32 → Option Y} (ht : mty j = t) (hN : mlen j = N) (hj : 1 ≤ j ∧ j ≤ 20) (h : ∀ x, K x = Option.map fin (K1 x)) : Option.bind (aI (mput G0 mo sg w) (mo + j) t i) K = Option.map fin (Option.bind (mI sg j N i) K1) := by
  subst ht; subst hN
  unfold aI mI
  rw [m_arr _ _ _ _ hj]
  by_cases hc : i < 0 ∨ mlen j ≤ i.toNatClampNeg
  · simp [hc]
  · simp only [hc, not_false_eq_true, and_self, if_true, if_false]
    exact h _
theorem q_aS {j t N : Nat} {i x : Int32} {K : GH → Option Z} {K1 : (Nat → Nat → Int32) → Option Y} (ht : mty j = t) (hN : mlen j = N) (hj : 1 ≤ j ∧ j ≤ 20) (h : ∀ sg1, K (mput G0 mo sg1 w) = Option.map fin (K1 sg1)) : Option.bind (aS (mput G0 mo sg w) (mo + j) t i x) K = Option.map fin (Option.bind (mS sg j N i x) K1) := by
  subst ht; subst hN
  unfold aS mS
  rw [m_arr _ _ _ _ hj]
  by_cases hc : i < 0 ∨ mlen j ≤ i.toNatClampNeg
  · simp [hc]
  · simp only [hc, not_false_eq_true, and_self, if_true, if_false]
    rw [m_set hj]
    exact h _
theorem q_pI {K : GH → Option Z} {K1 : (Nat → Nat → Int32) → Option Y} {v : Int32} (k : Nat) (hk : (mfs mo sg w).set k (.int v) = mfs mo (up2 sg 0 k v) w ∧ k < 37) (h : ∀ sg1, K (mput G0 mo sg1 w) = Option.map fin (K1 sg1)) : Option.bind (pV (mput G0 mo sg w) mo 11 k (.int v)) K = Option.map fin (gnm (up2 sg 0 k v) K1) := by
  have e : pV (mput G0 mo sg w) mo 11 k (.int v) = some (mput G0 mo (up2 sg 0 k v) w) := by
    unfold pV
    rw [m_obj]
    have hl : k < (mfs mo sg w).length := hk.2
    simp only [hl, and_self, if_true, hk.1]
    rw [m_setF (fun j hj => by unfold up2; rw [if_neg (by omega)])]
  rw [e]
  exact h _
theorem q_pJ {K : GH → Option Z} {K1 : Int64 → Option Y} {v : Int64} (h : ∀ w1, K (mput G0 mo sg w1) = Option.map fin (K1 w1)) : Option.bind (pV (mput G0 mo sg w) mo 11 12 (.long v)) K = Option.map fin (gnm v K1) := by
  have e : pV (mput G0 mo sg w) mo 11 12 (.long v) = some (mput G0 mo sg v) := by
    unfold pV
    rw [m_obj]
    have hl : 12 < (mfs mo sg w).length := Nat.le_of_ble_eq_true rfl
    have h2 : (mfs mo sg w).set 12 (.long v) = mfs mo sg v := rfl
    simp only [hl, and_self, if_true, h2]
    rw [m_setF (fun j hj => rfl)]
  rw [e]
  exact h _
theorem q_ite {c : Prop} {dc : Decidable c} {A B : Option Z} {A1 B1 : Option Y} (h1 : A = Option.map fin A1) (h2 : B = Option.map fin B1) : @ite _ c dc A B = Option.map fin (@ite _ c dc A1 B1) := by
  split <;> assumption
theorem q_nm {α : Type} {a : α} {K : α → Option Z} {K1 : α → Option Y} (h : ∀ x, K x = Option.map fin (K1 x)) : gnm a K = Option.map fin (gnm a K1) := h a
theorem q_bd {r r1 : Option Int32} {K : Int32 → Option Z} {K1 : Int32 → Option Y} (hr : r = r1) (h : ∀ x, K x = Option.map fin (K1 x)) : Option.bind r K = Option.map fin (Option.bind r1 K1) := by
  subst hr
  cases r with
  | none => rfl
  | some x => exact h x
theorem q_cvP {r r1 : Option Int32} {K : Int32 → Option Z} {K1 : Int32 → Option Y} (hr : r = r1) (h : ∀ x, K x = Option.map fin (K1 x)) : cvP (mput G0 mo sg w) mo 11 r K = Option.map fin (Option.bind r1 K1) := by
  unfold cvP
  rw [m_obj]
  simp only [if_true]
  exact q_bd hr h
theorem q_cvI {r : Option (Int32 × Nat × GH)} {r1 : Option (Int32 × (Nat → Nat → Int32) × Int64)} {K : Int32 → Nat → GH → Option Z} {K1 : Int32 → (Nat → Nat → Int32) → Int64 → Option Y} (hr : r = Option.map (fun z => (z.1, n, mput G0 mo z.2.1 z.2.2)) r1) (h : ∀ x sg1 w1, K x n (mput G0 mo sg1 w1) = Option.map fin (K1 x sg1 w1)) : cvI (mput G0 mo sg w) mo 11 r K = Option.map fin (pcI r1 K1) := by
  subst hr
  unfold cvI pcI
  rw [m_obj]
  simp only [if_true]
  cases r1 with
  | none => rfl
  | some x => exact h _ _ _
theorem q_cvU {r : Option (Nat × GH)} {r1 : Option ((Nat → Nat → Int32) × Int64)} {K : Nat → GH → Option Z} {K1 : (Nat → Nat → Int32) → Int64 → Option Y} (hr : r = Option.map (fun z => (n, mput G0 mo z.1 z.2)) r1) (h : ∀ sg1 w1, K n (mput G0 mo sg1 w1) = Option.map fin (K1 sg1 w1)) : cvU (mput G0 mo sg w) mo 11 r K = Option.map fin (pcU r1 K1) := by
  subst hr
  unfold cvU pcU
  rw [m_obj]
  simp only [if_true]
  cases r1 with
  | none => rfl
  | some x => exact h _ _
theorem q_swn {x : Int32} {d : Option Z} {d1 : Option Y} {k : Nat} (h : d = Option.map fin d1) : g_sw x [] d k = Option.map fin (g_sw x [] d1 k) := h
theorem q_swc {x : Int32} {a d : Option Z} {a1 d1 : Option Y} {r : List (Option Z)} {r1 : List (Option Y)} {k : Nat} (h1 : a = Option.map fin a1) (h2 : g_sw x r d (k + 1) = Option.map fin (g_sw x r1 d1 (k + 1))) : g_sw x (a :: r) d k = Option.map fin (g_sw x (a1 :: r1) d1 k) := by
  unfold g_sw
  split <;> assumption
theorem q_rN {ty : FieldType} {v : Int32} : rN ty v n (mput G0 mo sg w) = Option.map (fun z => (z.1, n, mput G0 mo z.2.1 z.2.2)) (mN ty v sg w) := by
  unfold rN mN
  split <;> rfl
theorem q_id {o : Option Z} : o = Option.map (fun z => z) o := by cases o <;> rfl
end QR
theorem mp_0 (mo : Nat) (sg : Nat → Nat → Int32) (w : Int64) (v : Int32) : (mfs mo sg w).set 0 (.int v) = mfs mo (up2 sg 0 0 v) w ∧ 0 < 37 := ⟨rfl, by decide⟩
theorem mp_5 (mo : Nat) (sg : Nat → Nat → Int32) (w : Int64) (v : Int32) : (mfs mo sg w).set 5 (.int v) = mfs mo (up2 sg 0 5 v) w ∧ 5 < 37 := ⟨rfl, by decide⟩
theorem mp_6 (mo : Nat) (sg : Nat → Nat → Int32) (w : Int64) (v : Int32) : (mfs mo sg w).set 6 (.int v) = mfs mo (up2 sg 0 6 v) w ∧ 6 < 37 := ⟨rfl, by decide⟩
theorem mp_7 (mo : Nat) (sg : Nat → Nat → Int32) (w : Int64) (v : Int32) : (mfs mo sg w).set 7 (.int v) = mfs mo (up2 sg 0 7 v) w ∧ 7 < 37 := ⟨rfl, by decide⟩
theorem mp_8 (mo : Nat) (sg : Nat → Nat → Int32) (w : Int64) (v : Int32) : (mfs mo sg w).set 8 (.int v) = mfs mo (up2 sg 0 8 v) w ∧ 8 < 37 := ⟨rfl, by decide⟩
theorem mp_9 (mo : Nat) (sg : Nat → Nat → Int32) (w : Int64) (v : Int32) : (mfs mo sg w).set 9 (.int v) = mfs mo (up2 sg 0 9 v) w ∧ 9 < 37 := ⟨rfl, by decide⟩
theorem mp_10 (mo : Nat) (sg : Nat → Nat → Int32) (w : Int64) (v : Int32) : (mfs mo sg w).set 10 (.int v) = mfs mo (up2 sg 0 10 v) w ∧ 10 < 37 := ⟨rfl, by decide⟩
theorem mp_11 (mo : Nat) (sg : Nat → Nat → Int32) (w : Int64) (v : Int32) : (mfs mo sg w).set 11 (.int v) = mfs mo (up2 sg 0 11 v) w ∧ 11 < 37 := ⟨rfl, by decide⟩
theorem mp_13 (mo : Nat) (sg : Nat → Nat → Int32) (w : Int64) (v : Int32) : (mfs mo sg w).set 13 (.int v) = mfs mo (up2 sg 0 13 v) w ∧ 13 < 37 := ⟨rfl, by decide⟩
theorem mp_14 (mo : Nat) (sg : Nat → Nat → Int32) (w : Int64) (v : Int32) : (mfs mo sg w).set 14 (.int v) = mfs mo (up2 sg 0 14 v) w ∧ 14 < 37 := ⟨rfl, by decide⟩
theorem mp_15 (mo : Nat) (sg : Nat → Nat → Int32) (w : Int64) (v : Int32) : (mfs mo sg w).set 15 (.int v) = mfs mo (up2 sg 0 15 v) w ∧ 15 < 37 := ⟨rfl, by decide⟩
theorem mp_19 (mo : Nat) (sg : Nat → Nat → Int32) (w : Int64) (v : Int32) : (mfs mo sg w).set 19 (.int v) = mfs mo (up2 sg 0 19 v) w ∧ 19 < 37 := ⟨rfl, by decide⟩
theorem mp_26 (mo : Nat) (sg : Nat → Nat → Int32) (w : Int64) (v : Int32) : (mfs mo sg w).set 26 (.int v) = mfs mo (up2 sg 0 26 v) w ∧ 26 < 37 := ⟨rfl, by decide⟩
theorem mp_29 (mo : Nat) (sg : Nat → Nat → Int32) (w : Int64) (v : Int32) : (mfs mo sg w).set 29 (.int v) = mfs mo (up2 sg 0 29 v) w ∧ 29 < 37 := ⟨rfl, by decide⟩
theorem mp_32 (mo : Nat) (sg : Nat → Nat → Int32) (w : Int64) (v : Int32) : (mfs mo sg w).set 32 (.int v) = mfs mo (up2 sg 0 32 v) w ∧ 32 < 37 := ⟨rfl, by decide⟩
theorem mp_35 (mo : Nat) (sg : Nat → Nat → Int32) (w : Int64) (v : Int32) : (mfs mo sg w).set 35 (.int v) = mfs mo (up2 sg 0 35 v) w ∧ 35 < 37 := ⟨rfl, by decide⟩
