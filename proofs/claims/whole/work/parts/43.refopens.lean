/-! The reference tells why, opens, makes. -/
def lsl (last : Int) : List Int := if last = -1 then [] else [last]
theorem lsl_len (last : Int) : (lsl last).length ≤ 1 := by
  unfold lsl
  split <;> simp
def whyW (A : Int → Int) (kind : Int) (l : List Int) : Int → Int := wl (ua (ua A 809 0) 810 kind) l
def addT (A : Int → Int) (p s : Int) (h : Int → Int) : Int → Int :=
  ua (ua (ua (ua (ua (ua (ua (ua (ua A 206 (A 206 + 1)) (207 + 8 * A 206) p) (207 + 8 * A 206 + 1) s) (207 + 8 * A 206 + 2) 0) (207 + 8 * A 206 + 3) 0) (207 + 8 * A 206 + (4 + 0)) (h 0)) (207 + 8 * A 206 + (4 + 1)) (h 1)) (207 + 8 * A 206 + (4 + 2)) (h 2)) (207 + 8 * A 206 + (4 + 3)) (h 3)
def opM (M : ZM) (n p s : Int) : ZM :=
  uM (uM (uM (uM (uM (uM (uM (uM (uM (uM M 1 (133 + p) (M 1 (133 + p) + 1)) 9 n p) 10 n s) 11 n 0) 12 n (M 1 (133 + p) + 1)) 13 (4 * n + 0) 0) 13 (4 * n + 1) 0) 13 (4 * n + 2) 0) 13 (4 * n + 3) 0) 0 26 (n + 1)
section RR
variable {w : Int64} {F : Nat}
theorem x_tw75 {M : ZM} {v1 : Int32} {last : Int} (h1 : -1 ≤ last ∧ last < 12) (h2 : 0 ≤ M 1 809) (h3 : M 1 809 < 80) : pk_X11_tellsWhy_75 F v1 (zt last) (LI M) w = some (v1, LI (sR M 1 (wl (M 1) (lsl last))), w) := by
  unfold pk_X11_tellsWhy_75
  simp (disch := omega) only [zt_lit, zt_neg, zt_eq]
  unfold lsl
  by_cases q : last = -1
  · rw [if_pos q, if_pos q]
    show _ = some (v1, LI (sR M 1 (M 1)), w)
    rw [sR_self]
  · rw [if_neg q, if_neg q, x_whyAlso h2 h3]
    rfl
theorem x_tw51 {v1 : Int32} {last : Int} {n : Nat} (h1 : -1 ≤ last ∧ last < 12) (hn : n ≤ 12) : ∀ (k c : Nat) (i : Int) (M : ZM), 0 ≤ i → i + c = n → M 0 26 = n → 0 ≤ M 1 809 → M 1 809 + c < 80 → c < k →
    fixN (fun _ _ _ => none) (pb_X11_tellsWhy_51 F v1 (zt last)) k (zt i) (LI M) w = some (v1, LI (sR M 1 (wl (M 1) (seg (M 9) c i ++ lsl last))), w) := by
  intro k
  induction k with
  | zero => intro c i M _ _ _ _ _ h; omega
  | succ k ih =>
    intro c i M hi hc h26 h2 h3 hk
    rw [fix_succ]
    generalize fixN (fun _ _ _ => none) (pb_X11_tellsWhy_51 F v1 (zt last)) k = r at ih ⊢
    unfold pb_X11_tellsWhy_51
    have e26 : LI M 0 26 = zt n := by rw [← h26]; rfl
    rw [e26]
    cases c with
    | zero =>
      simp (disch := omega) only [zt_le, x_tw75 h1]
      rw [if_pos (by omega)]
      rfl
    | succ c =>
      simp (disch := omega) only [zt_le, mI_z, ob_z, x_whyAlso, pcU_z]
      have h26' : sR M 1 (wl (M 1) [M 9 i]) 0 26 = n := by rw [sR_ne (by omega)]; exact h26
      have hc9 : sR M 1 (wl (M 1) [M 9 i]) 1 809 = M 1 809 + 1 := by rw [sR_eq, wl_cnt _ _ h2]; rfl
      rw [if_neg (by omega), show zt i + 1 = zt (i + 1) from by simp only [zt_lit, zt_add], ih c (i + 1) _ (by omega) (by omega) h26' (by omega) (by omega) (by omega), sR_sR, sR_eq, sR_ne (by omega), ← wl_app]
      rfl
theorem x_tw20 {v1 : Int32} {last : Int} {n sn : Nat} {f : Int → Int} (hF : 13 < F) (h1 : -1 ≤ last ∧ last < 12) (hn : n ≤ 12) (hsn : sn ≤ 60) : ∀ (k c : Nat) (i : Int) (M : ZM), 0 ≤ i → i + c = sn → M 0 26 = n → M 0 29 = sn → (∀ j, i ≤ j → j < i + c → (0 ≤ M 14 j ∧ M 14 j < 60) ∧ M 1 (207 + 8 * M 14 j) = f j) → 0 ≤ M 1 809 → M 1 809 + c + n < 80 → c < k →
    fixN (fun _ _ _ => none) (pb_X11_tellsWhy_20 F v1 (zt last)) k (zt i) (LI M) w = some (v1, LI (sR M 1 (wl (M 1) (seg f c i ++ (seg (M 9) n 0 ++ lsl last)))), w) := by
  intro k
  induction k with
  | zero => intro c i M _ _ _ _ _ _ _ h; omega
  | succ k ih =>
    intro c i M hi hc h26 h29 hf h2 h3 hk
    rw [fix_succ]
    generalize fixN (fun _ _ _ => none) (pb_X11_tellsWhy_20 F v1 (zt last)) k = r at ih ⊢
    unfold pb_X11_tellsWhy_20
    have e29 : LI M 0 29 = zt sn := by rw [← h29]; rfl
    rw [e29]
    cases c with
    | zero =>
      simp (disch := omega) only [zt_le]
      rw [if_pos (by omega)]
      unfold pk_X11_tellsWhy_49
      rw [show (0 : Int32) = zt 0 from rfl, x_tw51 h1 hn F n 0 M (by omega) (by omega) h26 h2 (by omega) (by omega)]
      rfl
    | succ c =>
      obtain ⟨hj, hfi⟩ := hf i (by omega) (by omega)
      simp (disch := omega) only [zt_le, zt_lit, mI_z, ob_z, x_its, Int.add_zero, hfi, x_whyAlso, pcU_z]
      have h26' : sR M 1 (wl (M 1) [f i]) 0 26 = n := by rw [sR_ne (by omega)]; exact h26
      have h29' : sR M 1 (wl (M 1) [f i]) 0 29 = sn := by rw [sR_ne (by omega)]; exact h29
      have hc9 : sR M 1 (wl (M 1) [f i]) 1 809 = M 1 809 + 1 := by rw [sR_eq, wl_cnt _ _ h2]; rfl
      have hf' : ∀ j, i + 1 ≤ j → j < i + 1 + c → (0 ≤ sR M 1 (wl (M 1) [f i]) 14 j ∧ sR M 1 (wl (M 1) [f i]) 14 j < 60) ∧ sR M 1 (wl (M 1) [f i]) 1 (207 + 8 * sR M 1 (wl (M 1) [f i]) 14 j) = f j := by
        intro j q1 q2
        have := hf j (by omega) (by omega)
        rw [sR_ne (by omega), sR_eq, wl_out h2 (by omega)]
        exact this
      rw [if_neg (by omega), zt_add, ih c (i + 1) _ (by omega) (by omega) h26' h29' hf' (by omega) (by omega) (by omega), sR_sR, sR_eq, sR_ne (by omega), ← wl_app]
      rfl
theorem x_tellsWhy {M : ZM} {kind last : Int} {n sn : Nat} {f : Int → Int} (hF : 70 < F) (h1 : -1 ≤ last ∧ last < 12) (hn : n ≤ 12) (hsn : sn ≤ 60) (h26 : M 0 26 = n) (h29 : M 0 29 = sn) (hf : ∀ j, 0 ≤ j → j < (sn : Int) → (0 ≤ M 14 j ∧ M 14 j < 60) ∧ M 1 (207 + 8 * M 14 j) = f j) :
    p_X11_tellsWhy F (zt kind) (zt last) (LI M) w = some (zt kind, LI (sR M 1 (whyW (M 1) kind (seg f sn 0 ++ (seg (M 9) n 0 ++ lsl last)))), w) := by
  unfold p_X11_tellsWhy
  simp (disch := omega) only [zt_lit, mS_z, ob_z]
  rw [uM_row M, uM_sR]
  have e9 : sR M 1 (ua (ua (M 1) 809 0) 810 kind) 1 809 = 0 := by rw [sR_eq, ua_ne (by omega), ua_eq]
  rw [x_tw20 (n := n) (sn := sn) (f := f) (by omega) h1 hn hsn F sn 0 _ (by omega) (by omega) (by rw [sR_ne (by omega)]; exact h26) (by rw [sR_ne (by omega)]; exact h29) ?_ (by omega) (by omega) (by omega), sR_sR, sR_eq, sR_ne (by omega)]
  · rfl
  · intro j q1 q2
    obtain ⟨a1, a2⟩ := hf j q1 (by omega)
    rw [sR_ne (by omega), sR_eq, ua_ne (by omega), ua_ne (by omega)]
    exact ⟨a1, a2⟩
theorem x_opl {M : ZM} {n : Int} {G : Nat} (hG : 5 < G) (hn : 0 ≤ n ∧ n ≤ 12) (h26 : M 0 26 = n) : fixN (fun _ _ _ => none) (pb_X11_opens_161 F) G (zt 0) (LI M) w = some (zt (-9), LI (uM (uM (uM (uM (uM M 13 (4 * n + 0) 0) 13 (4 * n + 1) 0) 13 (4 * n + 2) 0) 13 (4 * n + 3) 0) 0 26 (n + 1)), w) := by
  obtain ⟨g, rfl⟩ : ∃ g, G = g + 5 := ⟨G - 5, by omega⟩
  have hl : ∀ N : ZM, LI N 0 26 = zt (N 0 26) := fun N => rfl
  simp (disch := omega) only [fix_succ, pb_X11_opens_161, pk_X11_opens_188, zt_lit, zt_le, zt_neg, hl, uM_ne, h26, zt_mul, zt_add, mS_z, ob_z, gnm_z, up2_z]
  rfl
end RR
theorem sSt_rng {A : Int → Int} {p : Int} (hw : wfS A) (hc : A 0 ≤ 12) (hp : 0 ≤ p ∧ p < A 0) : ∀ n : Nat, n ≤ 5 → 0 ≤ sSt A p n ∧ sSt A p n < A 0
  | 0, _ => hp
  | n + 1, h => by
    unfold sSt
    have := hw.2 n p (by omega) (by omega) hp.1 (by omega)
    split
    · exact sSt_rng hw hc hp n (by omega)
    · omega
theorem sFd_rng {A : Int → Int} {p s : Int} : ∀ (n : Nat) (t : Int), sFd A p s n t = -1 ∨ (t ≤ sFd A p s n t ∧ sFd A p s n t < t + n ∧ A (207 + 8 * sFd A p s n t) = p ∧ A (207 + 8 * sFd A p s n t + 1) = s)
  | 0, _ => Or.inl rfl
  | n + 1, t => by
    unfold sFd
    split
    · rename_i h; exact Or.inr ⟨by omega, by omega, h.1, h.2⟩
    · rcases sFd_rng (A := A) (p := p) (s := s) n (t + 1) with h | ⟨h1, h2, h3⟩
      · exact Or.inl h
      · exact Or.inr ⟨by omega, by omega, h3⟩
section RR
variable {w : Int64} {F : Nat}
/-- what is asked for, and what it comes to ahead of a making -/
def sHome (A : Int → Int) (p scope : Int) : Int := if A (1 + 11 * p + 8) = 0 then 0 else scope
def sIs (A : Int → Int) (p scope : Int) : Int := if A (1 + 11 * p + 8) = 2 then -1 else sFd A p (sHome A p scope) (A 206).toNat 0
def sPart (A : Int → Int) (asked scope : Int) : Int := sSt A asked (scope + 1).toNat
theorem sIs_rng {A : Int → Int} {p scope : Int} (h : 0 ≤ A 206) : -1 ≤ sIs A p scope ∧ sIs A p scope < A 206 ∨ sIs A p scope = -1 := by
  unfold sIs
  split
  · exact Or.inr rfl
  · rcases sFd_rng (A := A) (p := p) (s := sHome A p scope) (A 206).toNat 0 with h | ⟨h1, h2, -⟩
    · exact Or.inr h
    · exact Or.inl ⟨by omega, by omega⟩
theorem x_opens {M : ZM} {asked scope : Int} {n sn : Nat} {f : Int → Int} (hF : 100 < F) (hn : n ≤ 12) (hsn : sn ≤ 60) (hP : wfP (M 1)) (hS : wfS (M 1)) (hT : wfT (M 1)) (ha : 0 ≤ asked ∧ asked < M 1 0) (hs : 0 ≤ scope ∧ scope ≤ 4) (h26 : M 0 26 = n) (h29 : M 0 29 = sn)
    (h9 : ∀ i, 0 ≤ i → i < (n : Int) → 0 ≤ M 9 i ∧ M 9 i < 12) (hf : ∀ j, 0 ≤ j → j < (sn : Int) → (0 ≤ M 14 j ∧ M 14 j < 60) ∧ M 1 (207 + 8 * M 14 j) = f j) :
    p_X11_opens F (zt asked) (zt scope) (LI M) w =
      if sIs (M 1) (sPart (M 1) asked scope) scope ≠ -1 then some (zt (sIs (M 1) (sPart (M 1) asked scope) scope), LI M, w)
      else if sPart (M 1) asked scope ∈ seg (M 9) n 0 then some (zt (-2), LI (sR M 1 (whyW (M 1) (-2) (seg f sn 0 ++ (seg (M 9) n 0 ++ [sPart (M 1) asked scope])))), w)
      else if M 1 206 = 60 then some (zt (-4), LI (sR M 1 (whyW (M 1) (-4) (seg f sn 0 ++ (seg (M 9) n 0 ++ [sPart (M 1) asked scope])))), w)
      else some (zt (-9), LI (opM M n (sPart (M 1) asked scope) (sHome (M 1) (sPart (M 1) asked scope) scope)), w) := by
  have hc := hP.1
  have hm := hT.1
  have hp := sSt_rng hS hc.2 ha (scope + 1).toNat (by omega)
  have hsp := (hP.2 _ hp.1 hp.2).2.2.2.2.1
  have hir := sIs_rng (A := M 1) (p := sPart (M 1) asked scope) (scope := scope) hm.1
  have hls : lsl (sPart (M 1) asked scope) = [sPart (M 1) asked scope] := if_neg (by unfold sPart; omega)
  have hhome : 0 ≤ sHome (M 1) (sPart (M 1) asked scope) scope ∧ sHome (M 1) (sPart (M 1) asked scope) scope ≤ 4 := by unfold sHome; split <;> omega
  unfold p_X11_opens
  rw [x_standsFor (by omega) (by omega) (by omega) hS hc.2, ob_z]
  change 0 ≤ sPart (M 1) asked scope ∧ sPart (M 1) asked scope < M 1 0 at hp
  change 0 ≤ M 1 (1 + 11 * sPart (M 1) asked scope + 8) ∧ M 1 (1 + 11 * sPart (M 1) asked scope + 8) ≤ 2 at hsp
  change Option.bind (p_X11_of F (zt (sPart (M 1) asked scope)) (8 : Int32) (LI M) w) _ = _
  generalize hq : sPart (M 1) asked scope = q at *
  have e46 : ∀ s0 : Int, -1 ≤ s0 ∧ s0 < 60 → pk_X11_opens_46 F (zt q) (zt (sHome (M 1) q scope)) (zt s0) (LI M) w =
      if s0 ≠ -1 then some (zt s0, LI M, w)
      else if q ∈ seg (M 9) n 0 then some (zt (-2), LI (sR M 1 (whyW (M 1) (-2) (seg f sn 0 ++ (seg (M 9) n 0 ++ [q])))), w)
      else if M 1 206 = 60 then some (zt (-4), LI (sR M 1 (whyW (M 1) (-4) (seg f sn 0 ++ (seg (M 9) n 0 ++ [q])))), w)
      else some (zt (-9), LI (opM M n q (sHome (M 1) q scope)), w) := by
    intro s0 hs0
    unfold pk_X11_opens_46
    rw [← hls]
    have e1 := x_isOnWay (M := M) (F := F) (w := w) (p := q) (n := n) (by omega) (by omega) h26 hn h9
    have e2 : ∀ kind : Int, p_X11_tellsWhy F (zt kind) (zt q) (LI M) w = some (zt kind, LI (sR M 1 (whyW (M 1) kind (seg f sn 0 ++ (seg (M 9) n 0 ++ lsl q)))), w) := fun kind => x_tellsWhy (by omega) (by omega) hn hsn h26 h29 hf
    simp (disch := omega) only [zt_lit, zt_neg, zt_eq, e1, ob_z, mI_z, e2, pcI_z]
    by_cases q1 : s0 = -1
    · rw [if_pos q1, if_neg (show ¬ (s0 ≠ -1) from fun h => h q1)]
      by_cases q2 : q ∈ seg (M 9) n 0
      · simp (disch := omega) only [if_pos q2, zt_eq]
        rfl
      · simp (disch := omega) only [if_neg q2, zt_eq]
        rw [if_pos trivial]
        by_cases q3 : M 1 206 = 60
        · rw [if_pos q3, if_pos q3]
        · have hl : ∀ N : ZM, LI N 0 26 = zt (N 0 26) := fun N => rfl
          rw [if_neg q3, if_neg q3]
          simp (disch := omega) only [zt_add, mI_z, mS_z, ob_z, hl, uM_ne, h26, uM_eq]
          rw [x_opl (n := n) (by omega) (by omega) (by simp (disch := omega) only [uM_ne, h26])]
          rfl
    · rw [if_neg q1, if_pos q1]
  have e22 : pk_X11_opens_22 F (zt q) (zt (sHome (M 1) q scope)) (LI M) w = pk_X11_opens_46 F (zt q) (zt (sHome (M 1) q scope)) (zt (sIs (M 1) q scope)) (LI M) w := by
    unfold pk_X11_opens_22
    have e3 := x_thingOf (M := M) (F := F) (w := w) (p := q) (s := sHome (M 1) q scope) (by omega) (by omega) hhome hT hc.2
    simp (disch := omega) only [zt_lit, x_of, ob_z, zt_eq, zt_neg, e3]
    by_cases h2 : M 1 (1 + 11 * q + 8) = 2
    · rw [if_pos h2, show sIs (M 1) q scope = -1 from if_pos h2]
    · rw [if_neg h2, show sIs (M 1) q scope = _ from if_neg h2]
  simp (disch := omega) only [zt_lit, x_of, ob_z, zt_eq]
  have hm2 : pk_X11_opens_22 F (zt q) (zt (sHome (M 1) q scope)) (LI M) w = _ := e22.trans (e46 _ (by omega))
  by_cases h0 : M 1 (1 + 11 * q + 8) = 0
  · rw [if_pos h0, ← hm2, show sHome (M 1) q scope = 0 from if_pos h0, show sSt (M 1) asked (scope + 1).toNat = q from hq]
  · rw [if_neg h0, ← hm2, show sHome (M 1) q scope = scope from if_neg h0, show sSt (M 1) asked (scope + 1).toNat = q from hq]
end RR
