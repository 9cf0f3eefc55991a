/-! Reads and writes of the run's heap, as functions that may fail; their rows. -/
def gI (G : GH) (q ci k : Nat) : Option Int32 := match G q with
  | some (.inr (c, fs)) => if c = ci then (match fs[k]? with
    | some (.int v) => some v
    | _ => none) else none
  | _ => none
def gJ (G : GH) (q ci k : Nat) : Option Int64 := match G q with
  | some (.inr (c, fs)) => if c = ci then (match fs[k]? with
    | some (.long v) => some v
    | _ => none) else none
  | _ => none
def gR (G : GH) (q ci k : Nat) : Option Nat := match G q with
  | some (.inr (c, fs)) => if c = ci then (match fs[k]? with
    | some (.ref v) => some v
    | _ => none) else none
  | _ => none
def pV (G : GH) (q ci k : Nat) (v : Value) : Option GH := match G q with
  | some (.inr (c, fs)) => if c = ci ∧ k < fs.length then some (gset G q (.inr (c, fs.set k v))) else none
  | _ => none
def aI (G : GH) (q t : Nat) (i : Int32) : Option Int32 := match G q with
  | some (.inl (t', N, .inl f)) => if t' = t ∧ ¬ (i < 0 ∨ N ≤ i.toNatClampNeg) then some (f i.toNatClampNeg) else none
  | _ => none
def aS (G : GH) (q t : Nat) (i x : Int32) : Option GH := match G q with
  | some (.inl (t', N, .inl f)) => if t' = t ∧ ¬ (i < 0 ∨ N ≤ i.toNatClampNeg) then some (gset G q (.inl (t', N, .inl (upd f i.toNatClampNeg x)))) else none
  | _ => none
def aJ (G : GH) (q : Nat) (i : Int32) : Option Int64 := match G q with
  | some (.inl (t', N, .inr (.inl f))) => if t' = 3 ∧ ¬ (i < 0 ∨ N ≤ i.toNatClampNeg) then some (f i.toNatClampNeg) else none
  | _ => none
def aK (G : GH) (q : Nat) (i : Int32) (x : Int64) : Option GH := match G q with
  | some (.inl (t', N, .inr (.inl f))) => if t' = 3 ∧ ¬ (i < 0 ∨ N ≤ i.toNatClampNeg) then some (gset G q (.inl (t', N, .inr (.inl (vp_updL f i.toNatClampNeg x))))) else none
  | _ => none
def aL (G : GH) (q : Nat) : Option Int32 := match G q with
  | some (.inl (t', N, _)) => if t' < 6 then some (Int32.ofNat N) else none
  | _ => none
def aQ (G : GH) (q t : Nat) (i : Int32) : Option (Option Nat) := match G q with
  | some (.inl (t', N, .inr (.inr (.inr (.inr f))))) => if t' = t ∧ ¬ (i < 0 ∨ N ≤ i.toNatClampNeg) then some (f i.toNatClampNeg) else none
  | _ => none
def aN (G : GH) (q t : Nat) (i : Int32) : Option Nat := Option.bind (aQ G q t i) id
def aP (G : GH) (q t ci : Nat) (i : Int32) (v : Nat) : Option GH := match G q with
  | some (.inl (t', N, .inr (.inr (.inr (.inr f))))) => if t' = t ∧ ¬ (i < 0 ∨ N ≤ i.toNatClampNeg) then (match G v with
    | some (.inr (c, _)) => if c = ci then some (gset G q (.inl (t', N, .inr (.inr (.inr (.inr (va_up f i.toNatClampNeg (some v)))))))) else none
    | _ => none) else none
  | _ => none
theorem gI_is {G : GH} {q ci k : Nat} {v : Int32} (h : gI G q ci k = some v) : ∃ fs, G q = some (.inr (ci, fs)) ∧ fs[k]? = some (.int v) := by
  unfold gI at h
  split at h
  · rename_i c fs hq
    split at h
    · rename_i hc
      subst hc
      split at h
      · rename_i w hw
        cases h
        exact ⟨fs, hq, hw⟩
      · cases h
    · cases h
  · cases h
theorem gJ_is {G : GH} {q ci k : Nat} {v : Int64} (h : gJ G q ci k = some v) : ∃ fs, G q = some (.inr (ci, fs)) ∧ fs[k]? = some (.long v) := by
  unfold gJ at h
  split at h
  · rename_i c fs hq
    split at h
    · rename_i hc
      subst hc
      split at h
      · rename_i w hw
        cases h
        exact ⟨fs, hq, hw⟩
      · cases h
    · cases h
  · cases h
theorem gR_is {G : GH} {q ci k : Nat} {v : Nat} (h : gR G q ci k = some v) : ∃ fs, G q = some (.inr (ci, fs)) ∧ fs[k]? = some (.ref v) := by
  unfold gR at h
  split at h
  · rename_i c fs hq
    split at h
    · rename_i hc
      subst hc
      split at h
      · rename_i w hw
        cases h
        exact ⟨fs, hq, hw⟩
      · cases h
    · cases h
  · cases h
theorem pV_is {G G' : GH} {q ci k : Nat} {v : Value} (h : pV G q ci k v = some G') : ∃ fs, G q = some (.inr (ci, fs)) ∧ k < fs.length ∧ G' = gset G q (.inr (ci, fs.set k v)) := by
  unfold pV at h
  split at h
  · rename_i c fs hq
    split at h
    · rename_i hc
      obtain ⟨rfl, hl⟩ := hc
      cases h
      exact ⟨fs, hq, hl, rfl⟩
    · cases h
  · cases h
theorem aI_is {G : GH} {q t : Nat} {i v : Int32} (h : aI G q t i = some v) : ∃ N f, G q = some (.inl (t, N, .inl f)) ∧ vp_in i N ∧ v = f i.toNatClampNeg := by
  unfold aI at h
  split at h
  · rename_i c N f hq
    split at h
    · rename_i hc
      obtain ⟨rfl, hl⟩ := hc
      cases h
      exact ⟨N, f, hq, hl, rfl⟩
    · cases h
  · cases h
theorem aS_is {G G' : GH} {q t : Nat} {i x : Int32} (h : aS G q t i x = some G') : ∃ N f, G q = some (.inl (t, N, .inl f)) ∧ vp_in i N ∧ G' = gset G q (.inl (t, N, .inl (upd f i.toNatClampNeg x))) := by
  unfold aS at h
  split at h
  · rename_i c N f hq
    split at h
    · rename_i hc
      obtain ⟨rfl, hl⟩ := hc
      cases h
      exact ⟨N, f, hq, hl, rfl⟩
    · cases h
  · cases h
theorem aJ_is {G : GH} {q : Nat} {i : Int32} {v : Int64} (h : aJ G q i = some v) : ∃ N f, G q = some (.inl (3, N, .inr (.inl f))) ∧ vp_in i N ∧ v = f i.toNatClampNeg := by
  unfold aJ at h
  split at h
  · rename_i c N f hq
    split at h
    · rename_i hc
      obtain ⟨rfl, hl⟩ := hc
      cases h
      exact ⟨N, f, hq, hl, rfl⟩
    · cases h
  · cases h
theorem aK_is {G G' : GH} {q : Nat} {i : Int32} {x : Int64} (h : aK G q i x = some G') : ∃ N f, G q = some (.inl (3, N, .inr (.inl f))) ∧ vp_in i N ∧ G' = gset G q (.inl (3, N, .inr (.inl (vp_updL f i.toNatClampNeg x)))) := by
  unfold aK at h
  split at h
  · rename_i c N f hq
    split at h
    · rename_i hc
      obtain ⟨rfl, hl⟩ := hc
      cases h
      exact ⟨N, f, hq, hl, rfl⟩
    · cases h
  · cases h
theorem aL_is {G : GH} {q : Nat} {v : Int32} (h : aL G q = some v) : ∃ t N f, G q = some (.inl (t, N, f)) ∧ t < 6 ∧ v = Int32.ofNat N := by
  unfold aL at h
  split at h
  · rename_i t N f hq
    split at h
    · rename_i hc
      cases h
      exact ⟨t, N, f, hq, hc, rfl⟩
    · cases h
  · cases h
theorem aQ_is {G : GH} {q t : Nat} {i : Int32} {v : Option Nat} (h : aQ G q t i = some v) : ∃ N f, G q = some (.inl (t, N, .inr (.inr (.inr (.inr f))))) ∧ vp_in i N ∧ v = f i.toNatClampNeg := by
  unfold aQ at h
  split at h
  · rename_i c N f hq
    split at h
    · rename_i hc
      obtain ⟨rfl, hl⟩ := hc
      cases h
      exact ⟨N, f, hq, hl, rfl⟩
    · cases h
  · cases h
theorem aN_is {G : GH} {q t : Nat} {i : Int32} {v : Nat} (h : aN G q t i = some v) : ∃ N f, G q = some (.inl (t, N, .inr (.inr (.inr (.inr f))))) ∧ vp_in i N ∧ some v = f i.toNatClampNeg := by
  unfold aN at h
  cases hq : aQ G q t i with
  | none => rw [hq] at h; cases h
  | some r =>
    rw [hq] at h
    have h2 : r = some v := h
    subst h2
    exact aQ_is hq
theorem aP_is {G G' : GH} {q t ci : Nat} {i : Int32} {v : Nat} (h : aP G q t ci i v = some G') : ∃ N f vs, G q = some (.inl (t, N, .inr (.inr (.inr (.inr f))))) ∧ vp_in i N ∧ G v = some (.inr (ci, vs)) ∧ G' = gset G q (.inl (t, N, .inr (.inr (.inr (.inr (va_up f i.toNatClampNeg (some v))))))) := by
  unfold aP at h
  split at h
  · rename_i c N f hq
    split at h
    · rename_i hc
      obtain ⟨rfl, hl⟩ := hc
      split at h
      · rename_i c2 vs hv
        split at h
        · rename_i hc2
          subst hc2
          cases h
          exact ⟨N, f, vs, hq, hl, hv, rfl⟩
        · cases h
      · cases h
    · cases h
  · cases h
