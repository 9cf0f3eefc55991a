/-! The class reckons: small steps. -/
def lbit (t : Int) : Int64 := (1 : Int64) <<< ((Int32.toInt64 (zt t)) &&& 63)
theorem lbit_tp0 : ∀ t : Nat, t < 60 → (lbit (t : Int)).toBitVec = BitVec.twoPow 64 t := by decide +kernel
theorem lbit_tp {t : Int} (h : 0 ≤ t ∧ t < 60) : (lbit t).toBitVec = BitVec.twoPow 64 t.toNat := by
  have := lbit_tp0 t.toNat (by omega)
  rw [show ((t.toNat : Nat) : Int) = t by omega] at this
  exact this
def BitsOK (L : Int64) (s : List Int) : Prop := ∀ x : Int, 0 ≤ x → x < 60 → (L.toBitVec.getLsbD x.toNat = true ↔ x ∈ s)
theorem BitsOK.nil : BitsOK 0 [] := fun x _ _ => by simp
theorem BitsOK.test {L : Int64} {s : List Int} {t : Int} (h : BitsOK L s) (ht : 0 ≤ t ∧ t < 60) : (lg_cmp (L &&& lbit t) (0 : Int64)) = 0 ↔ t ∉ s := by
  rw [lg_cmp_eq, ← Int64.toBitVec_inj, Int64.toBitVec_and, lbit_tp ht, BitVec.and_twoPow, ← h t ht.1 ht.2]
  have hne : BitVec.twoPow 64 t.toNat ≠ 0#64 := fun e => by
    have := congrArg (fun z => z.getLsbD t.toNat) e
    simp [BitVec.getLsbD_twoPow] at this
    omega
  by_cases q : L.toBitVec.getLsbD t.toNat = true
  · rw [if_pos q]
    exact ⟨fun e => absurd e hne, fun e => absurd q e⟩
  · rw [if_neg q]
    exact ⟨fun _ => q, fun _ => rfl⟩
theorem BitsOK.push {L : Int64} {s : List Int} {t : Int} (h : BitsOK L s) (ht : 0 ≤ t ∧ t < 60) : BitsOK (L ||| lbit t) (s ++ [t]) := by
  intro x h0 h1
  rw [Int64.toBitVec_or, lbit_tp ht, BitVec.getLsbD_or, BitVec.getLsbD_twoPow, List.mem_append, List.mem_singleton, ← h x h0 h1]
  have e : (t.toNat = x.toNat) ↔ x = t := by omega
  simp only [Bool.or_eq_true, Bool.and_eq_true, decide_eq_true_eq, e]
  constructor
  · rintro (a | ⟨_, a⟩)
    · exact Or.inl a
    · exact Or.inr a
  · rintro (a | a)
    · exact Or.inl a
    · exact Or.inr ⟨by omega, a⟩
theorem lneg1 : (-1 : Int64).toBitVec = BitVec.allOnes 64 := by decide
theorem BitsOK.pop {L : Int64} {s : List Int} {t : Int} (h : BitsOK L (s ++ [t])) (ht : 0 ≤ t ∧ t < 60) (hn : t ∉ s) : BitsOK (L &&& (lbit t ^^^ (-1 : Int64))) s := by
  intro x h0 h1
  have hx := h x h0 h1
  rw [Int64.toBitVec_and, Int64.toBitVec_xor, lbit_tp ht, lneg1, BitVec.getLsbD_and, BitVec.getLsbD_xor, BitVec.getLsbD_twoPow, BitVec.getLsbD_allOnes]
  rw [List.mem_append, List.mem_singleton] at hx
  have e : (t.toNat = x.toNat) ↔ x = t := by omega
  have hl : t.toNat < 64 := by omega
  have hl2 : x.toNat < 64 := by omega
  simp only [hl, hl2, e, decide_true, Bool.true_and, Bool.and_eq_true, hx]
  by_cases q : x = t
  · subst q
    simp [hn]
  · simp [q]
def FmR (M M1 : ZM) (b m : Nat) : Prop := (∀ j, (j < b + 2 ∨ b + 9 ≤ j) → (j < m ∨ m + 3 ≤ j) → M1 j = M j) ∧ ∀ e, e ≠ 3 → e ≠ 4 → M1 m e = M m e
theorem FmR.refl (M : ZM) (b m : Nat) : FmR M M b m := ⟨fun _ _ _ => rfl, fun _ _ _ => rfl⟩
theorem FmR.trans {M M1 M2 : ZM} {b m : Nat} (h : FmR M M1 b m) (h1 : FmR M1 M2 b m) : FmR M M2 b m := ⟨fun j a c => (h1.1 j a c).trans (h.1 j a c), fun e a c => (h1.2 e a c).trans (h.2 e a c)⟩
theorem Fm.toR {M M1 : ZM} {b m : Nat} (h : Fm M M1 b m) : FmR M M1 b m := ⟨h.1, fun e a _ => h.2 e a⟩
def LgR (lg lg1 : Nat → Nat → Int64) (m : Nat) : Prop := ∀ j k, (j ≠ m ∨ k ≠ 5) → lg1 j k = lg j k
theorem LgR.refl (lg : Nat → Nat → Int64) (m : Nat) : LgR lg lg m := fun _ _ _ => rfl
theorem LgR.trans {lg lg1 lg2 : Nat → Nat → Int64} {m : Nat} (h : LgR lg lg1 m) (h1 : LgR lg1 lg2 m) : LgR lg lg2 m := fun j k a => (h1 j k a).trans (h j k a)
theorem up3_eq (lg : Nat → Nat → Int64) (m k : Nat) (v : Int64) : up3 lg m k v m k = v := by simp [up3, vp_updL]
theorem up3_lgr (lg : Nat → Nat → Int64) (m : Nat) (v : Int64) : LgR lg (up3 lg m 5 v) m := fun j k h => by
  unfold up3 vp_updL
  by_cases e : j = m
  · subst e
    rw [if_pos rfl]
    have : k ≠ 5 := by omega
    simp [this]
  · rw [if_neg e]
theorem RT.own {M : ZM} {b : Nat} {C : Int → Int} {t k x : Int} (h : RT M b C) (ht : 0 ≤ t ∧ t < C 206) (hm : C 206 ≤ 60) (hk : 0 ≤ k ∧ k < 4) : RT (uM M (b + 3 + 5) (t * 4 + k) x) b (ua C (207 + 8 * t + (4 + k)) (x + 1)) := by
  have h6 : ua C (207 + 8 * t + (4 + k)) (x + 1) 206 = C 206 := ua_ne (by omega)
  refine ⟨fun i a c => by rw [uM_ne (by omega), ua_ne (by omega)]; exact h.1 i a c, by rw [uM_ne (by omega), h6]; exact h.2.1, fun u a c => ?_⟩
  rw [h6] at c
  obtain ⟨h1, h2, h3, h4, h5⟩ := h.2.2 u a c
  rw [uM_ne (by omega), uM_ne (by omega), uM_ne (by omega), uM_ne (by omega), ua_ne (by omega), ua_ne (by omega), ua_ne (by omega), ua_ne (by omega)]
  refine ⟨h1, h2, h3, h4, fun i d e => ?_⟩
  by_cases q : u = t ∧ i = k
  · obtain ⟨rfl, rfl⟩ := q
    rw [uM_eq, ua_eq]; omega
  · rw [uM_nei (by omega), ua_ne (by omega)]; exact h5 i d e
theorem RT.val {M : ZM} {b : Nat} {C : Int → Int} {t v : Int} (h : RT M b C) (ht : 0 ≤ t ∧ t < C 206) (hm : C 206 ≤ 60) : RT (uM (uM M (b + 3 + 3) t 1) (b + 3 + 4) t v) b (ua (ua C (207 + 8 * t + 3) v) (207 + 8 * t + 2) 1) := by
  have h6 : ua (ua C (207 + 8 * t + 3) v) (207 + 8 * t + 2) 1 206 = C 206 := by rw [ua_ne (by omega), ua_ne (by omega)]
  refine ⟨fun i a c => by rw [uM_ne (by omega), uM_ne (by omega), ua_ne (by omega), ua_ne (by omega)]; exact h.1 i a c, by rw [uM_ne (by omega), uM_ne (by omega), h6]; exact h.2.1, fun u a c => ?_⟩
  rw [h6] at c
  obtain ⟨h1, h2, h3, h4, h5⟩ := h.2.2 u a c
  refine ⟨?_, ?_, ?_, ?_, fun i d e => ?_⟩
  · rw [uM_ne (by omega), uM_ne (by omega), ua_ne (by omega), ua_ne (by omega)]; exact h1
  · rw [uM_ne (by omega), uM_ne (by omega), ua_ne (by omega), ua_ne (by omega)]; exact h2
  · rw [uM_ne (by omega)]
    by_cases q : u = t
    · subst q; rw [uM_eq, ua_eq]
    · rw [uM_nei q, ua_ne (by omega), ua_ne (by omega)]; exact h3
  · by_cases q : u = t
    · subst q; rw [uM_eq, ua_ne (by omega), ua_eq]
    · rw [uM_nei q, uM_ne (by omega), ua_ne (by omega), ua_ne (by omega)]; exact h4
  · rw [uM_ne (by omega), uM_ne (by omega), ua_ne (by omega), ua_ne (by omega)]; exact h5 i d e
section CR
variable {F : Nat} {lg : Nat → Nat → Int64} {b p m : Nat}
theorem y_hold7 {M : ZM} {a : Nat} {t : Int} (ht : 0 ≤ t ∧ t < M a 0) (hm : M a 0 ≤ 60) : p_X7_holds F a (zt t) (LI M) lg = some (zt 1) := by
  rw [y_holds7 (by omega) (by omega), if_pos ht]
theorem y_hold3 {M : ZM} {a : Nat} {t : Int} (ht : 0 ≤ t ∧ t < M a 0) (hm : M a 0 ≤ 12) : p_X3_holds F a (zt t) (LI M) lg = some (zt 1) := by
  rw [y_holds3 (by omega) (by omega), if_pos ht]
theorem y_ownedAt {M : ZM} {C : Int → Int} {t k : Int} (hR : RT M b C) (ht : 0 ≤ t ∧ t < C 206) (hm : C 206 ≤ 60) (hk : 0 ≤ k ∧ k < 4) : p_X7_ownedAt F (b + 3) (zt t) (zt k) (LI M) lg = some (zt (C (207 + 8 * t + (4 + k)) - 1)) := by
  unfold p_X7_ownedAt
  have h0 := hR.2.1
  have h1 := (hR.2.2 t ht.1 ht.2).2.2.2.2 k hk.1 hk.2
  rw [y_hold7 (by omega) (by omega), ob_z]
  simp (disch := omega) only [zt_lit, zt_eq, zt_lt, zt_mul, zt_add, mI_z, ob_z, h1]
  rw [if_neg (by omega), if_neg (by omega), if_pos (by omega)]
theorem y_setOwned {M : ZM} {C : Int → Int} {t k x : Int} (hR : RT M b C) (ht : 0 ≤ t ∧ t < C 206) (hm : C 206 ≤ 60) (hk : 0 ≤ k ∧ k < 4) : p_X7_setOwned F (b + 3) (zt t) (zt k) (zt x) (LI M) lg = some (LI (uM M (b + 3 + 5) (t * 4 + k) x), lg) := by
  unfold p_X7_setOwned
  have h0 := hR.2.1
  rw [y_hold7 (by omega) (by omega), ob_z]
  simp (disch := omega) only [zt_lit, zt_eq, zt_lt, zt_le, zt_mul, zt_add, mS_z, ob_z]
  rw [if_neg (by omega), if_neg (by omega), if_neg (by omega)]
theorem y_setValue {M : ZM} {C : Int → Int} {t x : Int} (hR : RT M b C) (ht : 0 ≤ t ∧ t < C 206) (hm : C 206 ≤ 60) : p_X7_setValue F (b + 3) (zt t) (zt x) (LI M) lg = some (LI (uM (uM M (b + 3 + 3) t 1) (b + 3 + 4) t x), lg) := by
  unfold p_X7_setValue
  have h0 := hR.2.1
  rw [y_hold7 (by omega) (by omega), ob_z]
  simp (disch := omega) only [zt_lit, zt_eq, nar_b1, mS_z, ob_z]
  rw [if_neg (by omega)]
theorem y_needAt {M : ZM} {C : Int → Int} {i k : Int} (hP : RP M p C) (hw : wfP C) (hi : 0 ≤ i ∧ i < C 0) (hk : 0 ≤ k ∧ k < C (1 + 11 * i + 2)) : p_X3_needAt F p (zt i) (zt k) (LI M) lg = some (zt (C (1 + 11 * i + (3 + k)))) := by
  unfold p_X3_needAt
  have hc := hw.1
  have h0 := hP.1
  obtain ⟨-, -, -, -, -, h6, -, h8⟩ := hP.2 i hi.1 hi.2
  have h9 := h8 k hk.1 hk.2
  have hmany := (hw.2 i hi.1 hi.2).2.1
  rw [y_hold3 (by omega) (by omega), ob_z]
  simp (disch := omega) only [zt_lit, zt_eq, zt_lt, zt_mul, zt_add, mI_z, ob_z, h6, h9]
  rw [if_neg (by omega), if_neg (by omega), if_pos (by omega)]
theorem y_apply {act v x : Int} {sg : Nat → Nat → Int32} (ha : 1 ≤ act ∧ act ≤ 5) : p_X1_apply F (zt act) (zt v) (zt x) sg lg = some (zt (ap act v x)) := by
  unfold p_X1_apply ap
  have : act = 1 ∨ act = 2 ∨ act = 3 ∨ act = 4 ∨ act = 5 := by omega
  rcases this with rfl | rfl | rfl | rfl | rfl
  · show some (zt v + zt x) = _
    rw [zt_add]; rfl
  · show some (zt v * zt x) = _
    rw [zt_mul]; rfl
  · show some (if zt v < zt x then zt x else zt v) = some (zt (if zt x ≤ zt v then v else x))
    by_cases c : zt x ≤ zt v
    · rw [if_pos c, if_neg (Int32.not_lt.mpr c)]
    · rw [if_neg c, if_pos (Int32.not_le.mp c)]
  · show some (if zt x < zt v then zt x else zt v) = some (zt (if zt v ≤ zt x then v else x))
    by_cases c : zt v ≤ zt x
    · rw [if_pos c, if_neg (Int32.not_lt.mpr c)]
    · rw [if_neg c, if_pos (Int32.not_le.mp c)]
  · show some (zt v - zt x) = _
    rw [zt_sub]; rfl
/-- the class's need of a thing -/
theorem y_needOf {B : Int} {M : ZM} {C : Int → Int} {t k q : Int} {n : Nat} (hF : 100 < F) (hB : B ≤ 1000000000) (hs : Sp b p m) (hP : RP M p C) (hS : RS M b C) (hT : RT M b C) (hFI : FI B C 0) (ht : 0 ≤ t ∧ t < C 206) (hq : q = C (207 + 8 * t)) (hk : 0 ≤ k ∧ k < C (1 + 11 * q + 2)) (h3 : M m 3 = n) (hn : n ≤ 60) :
    ∃ M1 : ZM, p_X1_needOf F b p m (zt t) (zt k) (LI M) lg = some (zt (nedS t q k C).1, LI M1, lg) ∧ RT M1 b (nedS t q k C).2.2 ∧ FmR M M1 b m ∧ (∀ i, 0 ≤ i → i < (n : Int) → M1 (m + 1) i = M (m + 1) i) ∧ (¬ (nedS t q k C).1 < 0 → M1 m 3 = n) ∧ ((nedS t q k C).1 < 0 → M1 m 3 = n + (nedS t q k C).2.1.length ∧ seg (M1 (m + 1)) (nedS t q k C).2.1.length n = (nedS t q k C).2.1) := by
  have hm := hFI.2.2.1.1
  obtain ⟨w1, w2, w3, w4⟩ := hFI.2.2.1.2 t ht.1 ht.2
  rw [← hq] at w1
  have hwp := hFI.1.2 q w1.1 w1.2
  have hmany := hwp.2.1
  have hc := hFI.1.1
  have hk4 := w4 k hk.1 (by omega)
  have hnd := hwp.2.2.1 k hk.1 hk.2
  obtain ⟨t1, t2, -⟩ := hT.2.2 t ht.1 ht.2
  obtain ⟨s1, s2, s3⟩ := id hs
  unfold p_X1_needOf nedS
  rw [y_ownedAt hT ht hm.2 (by omega), ob_z]
  simp (disch := omega) only [zt_lit, zt_neg, zt_eq]
  by_cases q0 : C (207 + 8 * t + (4 + k)) = 0
  · rw [if_pos q0, if_pos (by omega)]
    rw [LI_3, h3]
    have eu : ∀ j, j ≠ m → uM M m 4 (n : Int) j = M j := fun j hj => by funext e; rw [uM_ne hj]
    have hP1 : RP (uM M m 4 (n : Int)) p C := hP.ext hFI.1 (fun _ _ => rfl) (fun j a c => eu j (by omega))
    have hS1 : RS (uM M m 4 (n : Int)) b C := hS.ext (fun _ _ _ => rfl) (fun j a c => eu j (by omega))
    have hT1 : RT (uM M m 4 (n : Int)) b C := hT.ext (fun j a c => eu j (by omega))
    obtain ⟨M1, a1, a2, a3, a4, a5, a6, a7⟩ := y_fet (F := F) (lg := lg) (B := B) hF hB hs 1 13 (uM M m 4 (n : Int)) C [] n (C (1 + 11 * q + (3 + k))) (C (207 + 8 * t + 1)) hP1 hS1 hT1 hFI rfl (by simp) (fun x hx => by cases hx) (uM_eq _ _ _ _) (by omega) (by omega) (by rw [uM_nei (by omega), h3]; simp) rfl hnd.1 hnd.2 w2.1 w2.2
    have hok := fetS_ok (B := B) 13 [] (C 0) (C (207 + 8 * t + 1)) rfl (by simp) (fun x hx => by cases hx) hc.2 w2 (C (1 + 11 * q + (3 + k))) C rfl hFI hnd.1 hnd.2
    simp only at hok
    have hz : up2 (LI M) m 4 (zt (n : Int)) = LI (uM M m 4 (n : Int)) := up2_z M m 4 n
    rw [hz, gnm_z, mI_z (by omega) (by omega) (by omega), ob_z, eu (b + 3 + 1) (by omega), t1, ← hq, y_needAt hP1 hFI.1 w1 hk, ob_z, mI_z (by omega) (by omega) (by omega), ob_z, eu (b + 3 + 2) (by omega), t2]
    show ∃ M1 : ZM, hcI (cf F b p 14 m (zt (C (1 + 11 * q + (3 + k)))) (zt (C (207 + 8 * t + 1))) (LI (uM M m 4 (n : Int))) lg) _ = _ ∧ _
    rw [a1, hcI_z]
    have hFR : FmR M (uM M m 4 (n : Int)) b m := ⟨fun j _ _ => eu j (by omega), fun e _ h4 => uM_nei h4⟩
    have hrow : ∀ i, 0 ≤ i → i < (n : Int) → M1 (m + 1) i = M (m + 1) i := fun i c1 c2 => by rw [a4 i c1 (by simpa using c2), eu (m + 1) (by omega)]
    generalize fetS 13 [] (C (1 + 11 * q + (3 + k))) (C (207 + 8 * t + 1)) C = r at *
    by_cases q2 : r.1 < 0
    · have hv := (hok.2.2 q2).1
      have hz : zt r.1 < zt 0 := by rw [zt_lt (by omega) (by omega) (by omega) (by omega)]; exact q2
      rw [if_pos q2, if_pos hz]
      exact ⟨M1, rfl, a2, hFR.trans a3.toR, hrow, fun h => absurd q2 h, fun _ => a7 q2⟩
    · obtain ⟨r4, r5⟩ := hok.2.1 (by omega)
      have hm2 := r5.2.2.1.1
      have hl := hok.1.2.1
      have hz : ¬ zt r.1 < zt 0 := by rw [zt_lt (by omega) (by omega) (by omega) (by omega)]; exact q2
      rw [if_neg q2, if_neg hz, y_setOwned a2 (by omega) hm2.2 (by omega), hcU_z]
      refine ⟨_, rfl, RT.own a2 (by omega) hm2.2 (by omega), (hFR.trans a3.toR).trans ⟨fun j c1 _ => by funext e; exact uM_ne (by omega), fun e _ _ => uM_ne (by omega)⟩, fun i c1 c2 => by rw [uM_ne (by omega)]; exact hrow i c1 c2, fun _ => ?_, fun h => absurd h q2⟩
      rw [uM_ne (by omega), a6 (by omega), uM_nei (by omega)]; exact h3
  · rw [if_neg q0, if_neg (by omega)]
    exact ⟨M, rfl, hT, FmR.refl _ _ _, fun _ _ _ => rfl, fun _ => h3, fun h => absurd h (by simp only; omega)⟩
end CR
