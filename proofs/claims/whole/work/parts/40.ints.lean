/-! Numbers as integers (zt), memory as integers (LI), what runs to an answer (wp). -/
def zt (x : Int) : Int32 := Int32.ofInt x
theorem zt_as (x : Int32) : zt x.toInt = x := Int32.ofInt_toInt x
theorem zt_lit (n : Nat) : (no_index (OfNat.ofNat n) : Int32) = zt (no_index (OfNat.ofNat n)) := (Int32.ofInt_eq_ofNat (n := n)).symm
theorem zt_add (a b : Int) : zt a + zt b = zt (a + b) := (Int32.ofInt_add a b).symm
theorem zt_sub (a b : Int) : zt a - zt b = zt (a - b) := (Int32.ofInt_sub a b).symm
theorem zt_mul (a b : Int) : zt a * zt b = zt (a * b) := (Int32.ofInt_mul a b).symm
theorem zt_neg (a : Int) : -zt a = zt (-a) := (Int32.ofInt_neg a).symm
theorem zt_toInt {a : Int} (h1 : -2147483648 ≤ a) (h2 : a < 2147483648) : (zt a).toInt = a := Int32.toInt_ofInt_of_le h1 h2
theorem zt_le {a b : Int} (h1 : -2147483648 ≤ a) (h2 : a < 2147483648) (h3 : -2147483648 ≤ b) (h4 : b < 2147483648) : (zt a ≤ zt b) = (a ≤ b) := by
  rw [Int32.le_iff_toInt_le, zt_toInt h1 h2, zt_toInt h3 h4]
theorem zt_lt {a b : Int} (h1 : -2147483648 ≤ a) (h2 : a < 2147483648) (h3 : -2147483648 ≤ b) (h4 : b < 2147483648) : (zt a < zt b) = (a < b) := by
  rw [Int32.lt_iff_toInt_lt, zt_toInt h1 h2, zt_toInt h3 h4]
theorem zt_eq {a b : Int} (h1 : -2147483648 ≤ a) (h2 : a < 2147483648) (h3 : -2147483648 ≤ b) (h4 : b < 2147483648) : (zt a = zt b) = (a = b) := by
  rw [← Int32.toInt_inj, zt_toInt h1 h2, zt_toInt h3 h4]
theorem zt_clamp {a : Int} (h1 : 0 ≤ a) (h2 : a < 2147483648) : (zt a).toNatClampNeg = a.toNat := by
  rw [← Int32.toNat_toInt, zt_toInt (by omega) h2]
/-- memory of integers -/
abbrev ZM : Type := Nat → Int → Int
def LI (M : ZM) : Nat → Nat → Int32 := fun j k => zt (M j (k : Int))
def uM (M : ZM) (j : Nat) (e v : Int) : ZM := fun j1 e1 => if j1 = j ∧ e1 = e then v else M j1 e1
theorem LI_at (M : ZM) (j k : Nat) : LI M j k = zt (M j (k : Int)) := rfl
theorem LI_of (sg : Nat → Nat → Int32) : sg = LI (fun j e => (sg j e.toNat).toInt) := by
  funext j k
  exact (zt_as _).symm
theorem uM_eq (M : ZM) (j : Nat) (e v : Int) : uM M j e v j e = v := if_pos ⟨rfl, rfl⟩
theorem uM_eqi {M : ZM} {j : Nat} {e e1 v : Int} (h : e1 = e) : uM M j e v j e1 = v := if_pos ⟨rfl, h⟩
theorem uM_ne {M : ZM} {j j1 : Nat} {e e1 v : Int} (h : j1 ≠ j) : uM M j e v j1 e1 = M j1 e1 := if_neg (fun q => h q.1)
theorem uM_nei {M : ZM} {j j1 : Nat} {e e1 v : Int} (h : e1 ≠ e) : uM M j e v j1 e1 = M j1 e1 := if_neg (fun q => h q.2)
theorem up2_z (M : ZM) (j k : Nat) (v : Int) : up2 (LI M) j k (zt v) = LI (uM M j (k : Int) v) := by
  funext a c
  unfold up2 LI uM upd
  by_cases h : a = j
  · subst h
    by_cases h2 : c = k
    · subst h2; simp
    · have : ¬ ((c : Int) = (k : Int)) := by omega
      simp [h2, this]
  · simp [h]
theorem mI_z {M : ZM} {j N : Nat} {e : Int} (h1 : 0 ≤ e) (h2 : e < (N : Int)) (h3 : e < 2147483648) : mI (LI M) j N (zt e) = some (zt (M j e)) := by
  unfold mI
  have h0 : ¬ (zt e < 0) := by
    rw [show (0 : Int32) = zt 0 from rfl, zt_lt (by omega) h3 (by omega) (by omega)]
    omega
  rw [zt_clamp h1 h3, if_neg (by rw [not_or]; exact ⟨h0, by omega⟩)]
  unfold LI
  rw [show ((e.toNat : Nat) : Int) = e by omega]
theorem mS_z {M : ZM} {j N : Nat} {e v : Int} (h1 : 0 ≤ e) (h2 : e < (N : Int)) (h3 : e < 2147483648) : mS (LI M) j N (zt e) (zt v) = some (LI (uM M j e v)) := by
  unfold mS
  have h0 : ¬ (zt e < 0) := by
    rw [show (0 : Int32) = zt 0 from rfl, zt_lt (by omega) h3 (by omega) (by omega)]
    omega
  rw [zt_clamp h1 h3, if_neg (by rw [not_or]; exact ⟨h0, by omega⟩), up2_z, show ((e.toNat : Nat) : Int) = e by omega]
theorem gnm_z {α X : Type} (a : α) (K : α → Option X) : gnm a K = K a := rfl
theorem ob_z {α X : Type} (a : α) (K : α → Option X) : Option.bind (some a) K = K a := rfl
theorem pcI_z {X : Type} (a : Int32) (sg : Nat → Nat → Int32) (w : Int64) (K : Int32 → (Nat → Nat → Int32) → Int64 → Option X) : pcI (some (a, sg, w)) K = K a sg w := rfl
theorem pcU_z {X : Type} (sg : Nat → Nat → Int32) (w : Int64) (K : (Nat → Nat → Int32) → Int64 → Option X) : pcU (some (sg, w)) K = K sg w := rfl
theorem rP_z0 : rP .boolean (zt 0) = some (zt 0) := rfl
theorem rP_z1 : rP .boolean (zt 1) = some (zt 1) := rfl
theorem mN_z0 (sg : Nat → Nat → Int32) (w : Int64) : mN .boolean (zt 0) sg w = some (zt 0, sg, w) := rfl
theorem mN_z1 (sg : Nat → Nat → Int32) (w : Int64) : mN .boolean (zt 1) sg w = some (zt 1, sg, w) := rfl
/-- it comes to an answer, of which Q holds -/
def wp {X : Type} (o : Option X) (Q : X → Prop) : Prop := ∃ x, o = some x ∧ Q x
theorem wp_some {X : Type} {x : X} {Q : X → Prop} (h : Q x) : wp (some x) Q := ⟨x, rfl, h⟩
theorem wp_bind {X Y : Type} {o : Option X} {K : X → Option Y} {Q : Y → Prop} {P : X → Prop} (h : wp o P) (hk : ∀ x, P x → wp (K x) Q) : wp (Option.bind o K) Q := by
  obtain ⟨x, rfl, hx⟩ := h
  exact hk x hx
theorem wp_pcI {Y : Type} {o : Option (Int32 × (Nat → Nat → Int32) × Int64)} {K : Int32 → (Nat → Nat → Int32) → Int64 → Option Y} {Q : Y → Prop} {P : Int32 × (Nat → Nat → Int32) × Int64 → Prop} (h : wp o P) (hk : ∀ x sg w, P (x, sg, w) → wp (K x sg w) Q) : wp (pcI o K) Q := by
  obtain ⟨⟨x, sg, w⟩, rfl, hx⟩ := h
  exact hk x sg w hx
theorem wp_pcU {Y : Type} {o : Option ((Nat → Nat → Int32) × Int64)} {K : (Nat → Nat → Int32) → Int64 → Option Y} {Q : Y → Prop} {P : (Nat → Nat → Int32) × Int64 → Prop} (h : wp o P) (hk : ∀ sg w, P (sg, w) → wp (K sg w) Q) : wp (pcU o K) Q := by
  obtain ⟨⟨sg, w⟩, rfl, hx⟩ := h
  exact hk sg w hx
theorem wp_mono {X : Type} {o : Option X} {P Q : X → Prop} (h : wp o P) (hk : ∀ x, P x → Q x) : wp o Q := by
  obtain ⟨x, rfl, hx⟩ := h
  exact ⟨x, rfl, hk x hx⟩
theorem wp_ite {X : Type} {c : Prop} {dc : Decidable c} {A B : Option X} {Q : X → Prop} (h1 : c → wp A Q) (h2 : ¬ c → wp B Q) : wp (@ite _ c dc A B) Q := by
  by_cases h : c
  · rw [if_pos h]; exact h1 h
  · rw [if_neg h]; exact h2 h
theorem wp_eq {X : Type} {o : Option X} {x : X} (h : wp o (fun y => y = x)) : o = some x := by
  obtain ⟨y, rfl, rfl⟩ := h
  rfl
theorem wp_of {X : Type} {o : Option X} {x : X} {Q : X → Prop} (h : o = some x) (hq : Q x) : wp o Q := ⟨x, h, hq⟩
theorem fix_ind {T : Type} {z : T} {b : T → T} (P : Nat → T → Prop) (h0 : P 0 z) (hs : ∀ k r, P k r → P (k + 1) (b r)) : ∀ k, P k (fixN z b k)
  | 0 => h0
  | k + 1 => hs _ _ (fix_ind P h0 hs k)
theorem fix_succ {T : Type} (z : T) (b : T → T) (k : Nat) : fixN z b (k + 1) = b (fixN z b k) := rfl
