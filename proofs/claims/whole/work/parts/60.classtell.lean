/-! The class tells why; asks and reckons from outside. -/
def cpM (M : ZM) (a0 a : Nat) (n : Int) : ZM := fun j e => if j = a ∧ 0 ≤ e ∧ e < n then M a0 e else M j e
theorem cpM_ne {M : ZM} {a0 a j : Nat} {n : Int} (h : j ≠ a) : cpM M a0 a n j = M j := by
  funext e
  exact if_neg (fun q => h q.1)
theorem cpM_in {M : ZM} {a0 a : Nat} {n e : Int} (h : 0 ≤ e ∧ e < n) : cpM M a0 a n a e = M a0 e := if_pos ⟨rfl, h⟩
theorem mC_z {M : ZM} {t N0 N1 a0 a : Nat} {k : Int} (h0 : 0 ≤ k) (h1 : k ≤ (N0 : Int)) (h2 : k ≤ (N1 : Int)) (h3 : k < 2147483648) (hf : ∀ i : Int, 0 ≤ i → i < k → fits (g_ty t) (.int (zt (M a0 i))) = true) : mC (LI M) t N0 N1 a0 (zt 0) a (zt 0) (zt k) = some (LI (cpM M a0 a k)) := by
  have hz : ¬ (zt 0 < 0) := by decide
  have hz1 : (zt 0).toNatClampNeg = 0 := by decide
  have hk : ¬ (zt k < 0) := by rw [show (0 : Int32) = zt 0 from rfl, zt_lt (by omega) h3 (by omega) (by omega)]; omega
  unfold mC
  rw [hz1, zt_clamp h0 h3, if_pos ⟨⟨hz, hz, hk⟩, by omega, by omega, fun i hi => by
    have := hf i (by omega) (by omega)
    rw [Nat.zero_add]
    exact this⟩]
  congr 1
  funext j c
  unfold LI cpM va_cpy
  by_cases e : j = a
  · subst e
    simp only [true_and, if_true, Nat.zero_add, Nat.sub_zero, Nat.zero_le]
    by_cases q : c < k.toNat
    · rw [if_pos q, if_pos (by omega)]
    · rw [if_neg q, if_neg (by omega)]
  · simp only [e, false_and, if_false]
theorem fits_i (x : Int32) : fits (g_ty 0) (.int x) = true := rfl
theorem whyW_at (A : Int → Int) (kind : Int) (l : List Int) : whyW A kind l 809 = l.length ∧ whyW A kind l 810 = kind ∧ (∀ (i : Nat) (x : Int), l[i]? = some x → whyW A kind l (811 + i) = x) ∧ ∀ e, e < 809 → whyW A kind l e = A e := by
  unfold whyW
  have h9 : ua (ua A 809 0) 810 kind 809 = 0 := by rw [ua_ne (by omega), ua_eq]
  refine ⟨by rw [wl_cnt _ _ (by omega), h9]; omega, by rw [wl_out (by omega) (by omega), ua_eq], fun i x hx => ?_, fun e he => by rw [wl_out (by omega) (by omega), ua_ne (by omega), ua_ne (by omega)]⟩
  have := wl_at (A := ua (ua A 809 0) 810 kind) (by omega) hx
  rw [h9] at this
  rw [show (811 : Int) + i = 811 + 0 + i by omega]
  exact this
theorem FI.cong {B : Int} {A A1 : Int → Int} {n : Nat} (h : FI B A n) (he : ∀ e, e < 687 → A1 e = A e) : FI B A1 n := by
  obtain ⟨h1, h2, h3, h4⟩ := h
  have hc := h1.1
  have hm := h3.1
  have h0 := he 0 (by omega)
  have h6 := he 206 (by omega)
  refine ⟨⟨by omega, fun p a b => ?_⟩, ⟨by rw [he 145 (by omega)]; exact h2.1, fun s p a b c d => by rw [he _ (by omega), h0]; exact h2.2 s p a b c d⟩, ⟨by omega, fun t a b => ?_⟩, fun p a b => by rw [he _ (by omega), h6]; exact h4 p a b⟩
  · obtain ⟨w1, w2, w3, w4, w5, w6, w7⟩ := h1.2 p a (by omega)
    unfold wfPart
    rw [he _ (by omega), he (1 + 11 * p + 2) (by omega), he (1 + 11 * p + 7) (by omega), he (1 + 11 * p + 8) (by omega), he (1 + 11 * p + 9) (by omega), he (1 + 11 * p + 10) (by omega), h0]
    exact ⟨w1, w2, fun k c d => by rw [he _ (by omega)]; exact w3 k c d, w4, w5, w6, w7⟩
  · obtain ⟨w1, w2, w3, w4⟩ := h3.2 t a (by omega)
    unfold wfThing
    rw [he _ (by omega), he (207 + 8 * t + 1) (by omega), he (207 + 8 * t + 2) (by omega), h0, h6]
    exact ⟨w1, w2, w3, fun k c d => by rw [he _ (by omega)]; exact w4 k c d⟩
theorem FI.up {B : Int} {A : Int → Int} {n : Nat} (h : FI B A n) : FI (B + n) A 0 := ⟨h.1, h.2.1, h.2.2.1, fun p a b => by have := h.2.2.2 p a b; omega⟩
theorem FI.upB {B B1 : Int} {A : Int → Int} {n : Nat} (h : FI B A n) (hB : B ≤ B1) : FI B1 A n := ⟨h.1, h.2.1, h.2.2.1, fun p a b => by have := h.2.2.2 p a b; omega⟩
theorem RT.extA {M : ZM} {b : Nat} {A A1 : Int → Int} (h : RT M b A) (hm : A 206 ≤ 60) (he : ∀ e, 133 ≤ e → e < 687 → A1 e = A e) : RT M b A1 := by
  refine ⟨fun i a c => by rw [he _ (by omega) (by omega)]; exact h.1 i a c, by rw [he _ (by omega) (by omega)]; exact h.2.1, fun t a c => ?_⟩
  rw [he 206 (by omega) (by omega)] at c
  obtain ⟨h1, h2, h3, h4, h5⟩ := h.2.2 t a c
  rw [he _ (by omega) (by omega), he (207 + 8 * t + 1) (by omega) (by omega), he (207 + 8 * t + 2) (by omega) (by omega), he (207 + 8 * t + 3) (by omega) (by omega)]
  exact ⟨h1, h2, h3, h4, fun k d e => by rw [he _ (by omega) (by omega)]; exact h5 k d e⟩
theorem RW.ext {M M1 : ZM} {b : Nat} {A A1 : Int → Int} (h : RW M b A) (he : ∀ e, 687 ≤ e → A1 e = A e) (hm : ∀ j, b + 10 ≤ j → j < b + 13 → M1 j = M j) (h9 : 0 ≤ A 809) (h7 : 0 ≤ A 687) : RW M1 b A1 := by
  obtain ⟨h1, h2, h3, h4, h5⟩ := h
  refine ⟨by rw [hm _ (by omega) (by omega), he _ (by omega)]; exact h1, by rw [hm _ (by omega) (by omega), he _ (by omega)]; exact h2, fun i a c => ?_, by rw [hm _ (by omega) (by omega), he _ (by omega)]; exact h4, fun i a c => ?_⟩
  · rw [he 809 (by omega)] at c
    rw [hm _ (by omega) (by omega), he _ (by omega)]; exact h3 i a c
  · rw [he 687 (by omega)] at c
    rw [hm _ (by omega) (by omega), he _ (by omega)]; exact h5 i a c
/-- the whole board at b, with the parts at p -/
def RB (M : ZM) (b p : Nat) (A : Int → Int) : Prop := RP M p A ∧ RS M b A ∧ RT M b A ∧ RW M b A
/-- what is told is in its bounds -/
def WT (A : Int → Int) : Prop := (0 ≤ A 809 ∧ A 809 ≤ 73) ∧ (0 ≤ A 687 ∧ A 687 ≤ 60)
def FmB (M M1 : ZM) (b m : Nat) : Prop := ∀ j, (j < b + 2 ∨ b + 13 ≤ j) → (j < m ∨ m + 3 ≤ j) → M1 j = M j
section CR
variable {F : Nat} {lg : Nat → Nat → Int64} {b p m : Nat}
theorem y_tellWhy {M : ZM} {kind c : Int} (hc : 0 ≤ c ∧ c ≤ 73) (hs : m + 3 ≤ b ∨ b + 13 ≤ m) : p_X9_tellWhy F 73 (b + 10) (zt kind) (m + 1) (zt c) (LI M) lg = some (LI (cpM (uM (uM M (b + 10) 0 kind) (b + 10) 1 c) (m + 1) (b + 10 + 1) c), lg) := by
  unfold p_X9_tellWhy
  have hz : up2 (LI M) (b + 10) 0 (zt kind) = LI (uM M (b + 10) 0 kind) := up2_z M (b + 10) 0 kind
  have hz1 : up2 (LI (uM M (b + 10) 0 kind)) (b + 10) 1 (zt c) = LI (uM (uM M (b + 10) 0 kind) (b + 10) 1 c) := up2_z (uM M (b + 10) 0 kind) (b + 10) 1 c
  have h73 : (if (if (73 : Int32) < (Int32.ofNat 73) then (73 : Int32) else (Int32.ofNat 73)) < zt c then (if (73 : Int32) < (Int32.ofNat 73) then (73 : Int32) else (Int32.ofNat 73)) else zt c) = zt c := by
    rw [show (if (73 : Int32) < (Int32.ofNat 73) then (73 : Int32) else (Int32.ofNat 73)) = zt 73 from by decide, if_neg (by rw [zt_lt (by omega) (by omega) (by omega) (by omega)]; omega)]
  rw [h73, hz, gnm_z, hz1, gnm_z, LI_1, uM_eq, show (0 : Int32) = zt 0 from rfl, mC_z hc.1 (by omega) (by omega) (by omega) (fun i _ _ => fits_i _), ob_z]
theorem y_tell {M : ZM} {kind c : Int} (hk : kind = -2 ∨ kind = -3 ∨ kind = -4) (hc : 0 ≤ c ∧ c ≤ 73) (h3 : M m 3 = c) (hs : m + 3 ≤ b ∨ b + 13 ≤ m) : p_X1_tell F b p m (zt kind) (LI M) lg = some (zt kind, LI (cpM (uM (uM M (b + 10) 0 kind) (b + 10) 1 c) (m + 1) (b + 10 + 1) c), lg) := by
  unfold p_X1_tell
  rw [show (-1 : Int32) = zt (-1) from by decide, if_neg (by rw [zt_le (by omega) (by omega) (by omega) (by omega)]; omega), LI_3, h3, y_tellWhy hc hs]
  rfl
theorem y_tell0 {M : ZM} {x : Int} (hk : -1 ≤ x ∧ x < 1000) : p_X1_tell F b p m (zt x) (LI M) lg = some (zt x, LI M, lg) := by
  unfold p_X1_tell
  rw [show (-1 : Int32) = zt (-1) from by decide, if_pos (by rw [zt_le (by omega) (by omega) (by omega) (by omega)]; omega)]
theorem y_told {B : Int} {M M1 : ZM} {A A1 : Int → Int} {kind : Int} {l : List Int} {n : Nat} (hs : Sp b p m) (hR : RB M b p A) (hA : FI B A 0) (hW : WT A) (hx : ExtR A A1) (hT : RT M1 b A1) (hm1 : A1 206 ≤ 60) (hF : FmR M M1 b m) (hl : l.length = n) (hn : n ≤ 73) (hseg : seg (M1 (m + 1)) n 0 = l) :
    RB (cpM (uM (uM M1 (b + 10) 0 kind) (b + 10) 1 n) (m + 1) (b + 10 + 1) n) b p (whyW A1 kind l) ∧ FmB M (cpM (uM (uM M1 (b + 10) 0 kind) (b + 10) 1 n) (m + 1) (b + 10 + 1) n) b m := by
  obtain ⟨s1, s2, s3⟩ := id hs
  obtain ⟨r1, r2, r3, r4, r5, r6, r7, r8⟩ := hR
  have hc := hA.1.1
  obtain ⟨v1, v2, v3, v4⟩ := whyW_at A1 kind l
  have hu : ∀ j, j ≠ b + 10 → j ≠ b + 10 + 1 → cpM (uM (uM M1 (b + 10) 0 kind) (b + 10) 1 n) (m + 1) (b + 10 + 1) n j = M1 j := fun j h1 h2 => by
    rw [cpM_ne h2]
    funext e
    rw [uM_ne h1, uM_ne h1]
  have h10 : ∀ e, e ≠ 0 → e ≠ 1 → cpM (uM (uM M1 (b + 10) 0 kind) (b + 10) 1 n) (m + 1) (b + 10 + 1) n (b + 10) e = M (b + 10) e := fun e h1 h2 => by
    rw [cpM_ne (by omega), uM_nei h2, uM_nei h1, hF.1 (b + 10) (by omega) (by omega)]
  refine ⟨⟨?_, ?_, ?_, ?_, ?_, fun i a c => ?_, ?_, fun i a c => ?_⟩, fun j a c => ?_⟩
  · exact (RP.extR ⟨r1.1, r1.2⟩ hA.1 hx hF hs).ext (hx.wfP hA.1) (fun e he => v4 e (by omega)) (fun j a c => hu j (by omega) (by omega))
  · exact (RS.extR r2 hx hF hs).ext (fun e h1 h2 => v4 e (by omega)) (fun j a c => hu j (by omega) (by omega))
  · exact (hT.ext (fun j a c => hu j (by omega) (by omega))).extA hm1 (fun e h1 h2 => v4 e (by omega))
  · rw [cpM_ne (by omega), uM_nei (by omega), uM_eq, v2]
  · rw [cpM_ne (by omega), uM_eq, v1, hl]
  · rw [v1, hl] at c
    rw [cpM_in ⟨a, c⟩, uM_ne (by omega), uM_ne (by omega)]
    have h1 := seg_at (M1 (m + 1)) n 0 i.toNat (by omega)
    rw [hseg] at h1
    have h2 := v3 i.toNat _ h1
    rw [show ((i.toNat : Nat) : Int) = i by omega, show (0 : Int) + i = i by omega] at h2
    exact h2.symm
  · rw [h10 3 (by omega) (by omega), v4 687 (by omega), hx.1 687 (by omega)]; exact r7
  · rw [v4 687 (by omega), hx.1 687 (by omega)] at c
    have := hW.2
    rw [hu (b + 10 + 2) (by omega) (by omega), hF.1 (b + 10 + 2) (by omega) (by omega), v4 (688 + i) (by omega), hx.1 (688 + i) (by omega)]
    exact r8 i a c
  · rw [hu j (by omega) (by omega)]
    exact hF.1 j (by omega) (by omega)
theorem y_kept {B : Int} {M M1 : ZM} {A A1 : Int → Int} (hs : Sp b p m) (hR : RB M b p A) (hA : FI B A 0) (hW : WT A) (hx : ExtR A A1) (hT : RT M1 b A1) (hF : FmR M M1 b m) : RB M1 b p A1 ∧ FmB M M1 b m := by
  obtain ⟨s1, s2, s3⟩ := id hs
  obtain ⟨r1, r2, r3, r4⟩ := hR
  exact ⟨⟨r1.extR hA.1 hx hF hs, r2.extR hx hF hs, hT, r4.ext (fun e he => hx.1 e (by omega)) (fun j a c => hF.1 j (by omega) (by omega)) hW.1.1 hW.2.1⟩, fun j a c => hF.1 j (by omega) (by omega)⟩
def beM (M : ZM) (m : Nat) : ZM := uM (uM M m 3 0) m 4 0
theorem y_begin {M : ZM} : p_X1_begin F b p m (LI M) lg = some (LI (beM M m), up3 lg m 5 0) := by
  unfold p_X1_begin
  have hz : up2 (LI M) m 3 (zt 0) = LI (uM M m 3 0) := up2_z M m 3 0
  have hz1 : up2 (LI (uM M m 3 0)) m 4 (zt 0) = LI (beM M m) := up2_z (uM M m 3 0) m 4 0
  rw [show (0 : Int32) = zt 0 from rfl, hz, gnm_z, hz1]
  rfl
theorem beM_at {M : ZM} (hs : Sp b p m) : (∀ j, j ≠ m → beM M m j = M j) ∧ beM M m m 3 = 0 ∧ beM M m m 4 = 0 ∧ FmR M (beM M m) b m := by
  unfold beM
  have h : ∀ j, j ≠ m → uM (uM M m 3 0) m 4 0 j = M j := fun j hj => by funext e; rw [uM_ne hj, uM_ne hj]
  exact ⟨h, by rw [uM_nei (by omega), uM_eq], uM_eq _ _ _ _, fun j a c => h j (by omega), fun e h1 h2 => by rw [uM_nei h2, uM_nei h1]⟩
theorem RB.same {M M1 : ZM} {A : Int → Int} {B : Int} (h : RB M b p A) (hA : FI B A 0) (hW : WT A) (hm : ∀ j, (b ≤ j ∧ j < b + 13) ∨ (p ≤ j ∧ j < p + 9) → M1 j = M j) : RB M1 b p A :=
  ⟨h.1.ext hA.1 (fun _ _ => rfl) (fun j a c => hm j (Or.inr ⟨a, c⟩)), h.2.1.ext (fun _ _ _ => rfl) (fun j a c => hm j (Or.inl ⟨a, by omega⟩)), h.2.2.1.ext (fun j a c => hm j (Or.inl ⟨by omega, by omega⟩)), h.2.2.2.ext (fun _ _ => rfl) (fun j a c => hm j (Or.inl ⟨by omega, c⟩)) hW.1.1 hW.2.1⟩
theorem y_askFor {B : Int} {M : ZM} {A : Int → Int} {part : Int} (hF : 100 < F) (hB : B ≤ 1000000000) (hs : Sp b p m) (hR : RB M b p A) (hA : FI B A 0) (hW : WT A) (hp : 0 ≤ part ∧ part < A 0) :
    ∃ (M1 : ZM) (lg1 : Nat → Nat → Int64), p_X1_askFor F b p m (zt part) (LI M) lg = some (zt (fetS 13 [] part (A 145) A).1, LI M1, lg1) ∧ RB M1 b p (asA [] (fetS 13 [] part (A 145) A)) ∧ FmB M M1 b m ∧ LgR lg lg1 m := by
  obtain ⟨s1, s2, s3⟩ := id hs
  obtain ⟨b1, b2, b3, b4⟩ := beM_at (M := M) hs
  have hR1 : RB (beM M m) b p A := hR.same hA hW (fun j h => b1 j (by omega))
  have hS1 := hA.2.1.1
  have hd : beM M m b 1 = A 145 := hR1.2.1.1
  obtain ⟨M1, a1, a2, a3, a4, a5, a6, a7⟩ := y_fet (F := F) (lg := up3 lg m 5 0) (B := B) hF hB hs 1 13 (beM M m) A [] 0 part (A 145) hR1.1 hR1.2.1 hR1.2.2.1 hA rfl (by simp) (fun x hx => by cases hx) b3 (by omega) (by omega) (by rw [b2]; rfl) rfl hp.1 hp.2 hS1.1 hS1.2
  have hok := fetS_ok (B := B) 13 [] (A 0) (A 145) rfl (by simp) (fun x hx => by cases hx) hA.1.1.2 hS1 part A rfl hA hp.1 hp.2
  simp only at hok
  unfold p_X1_askFor
  rw [y_begin, hcU_z, LI_1, hd]
  show ∃ (M1 : ZM) (lg1 : Nat → Nat → Int64), hcI (cf F b p 14 m (zt part) (zt (A 145)) (LI (beM M m)) (up3 lg m 5 0)) _ = _ ∧ _
  rw [a1, hcI_z]
  unfold asA
  generalize fetS 13 [] part (A 145) A = r at *
  by_cases q : r.1 < 0
  · obtain ⟨o1, o2, o3⟩ := hok.2.2 q
    obtain ⟨c1, c2⟩ := a7 q
    obtain ⟨z1, z2⟩ := y_told (kind := r.1) (n := r.2.1.length) hs hR hA hW hok.1.toR a2 o3.2.2.1.1.2 (b4.trans a3.toR) rfl (by omega) c2
    rw [if_pos q, y_tell (kind := r.1) (c := r.2.1.length) o1 (by omega) (by omega) s1, hcI_z]
    exact ⟨_, _, rfl, z1, z2, up3_lgr _ _ _⟩
  · obtain ⟨o1, o2⟩ := hok.2.1 (by omega)
    have hm2 := o2.2.2.1.1
    obtain ⟨z1, z2⟩ := y_kept hs hR hA hW hok.1.toR a2 (b4.trans a3.toR)
    rw [if_neg q, y_tell0 (by omega), hcI_z]
    exact ⟨_, _, rfl, z1, z2, up3_lgr _ _ _⟩
theorem y_reckonFor {B : Int} {M : ZM} {A : Int → Int} {t : Int} (hF : 100 < F) (hB : B ≤ 1000000000) (hs : Sp b p m) (hR : RB M b p A) (hA : FI B A 0) (hW : WT A) (ht : 0 ≤ t ∧ t < A 206) :
    ∃ (M1 : ZM) (lg1 : Nat → Nat → Int64), p_X1_reckonFor F b p m (zt t) (LI M) lg = some (zt (recS 61 [] [] t A).1, LI M1, lg1) ∧ RB M1 b p (reA (recS 61 [] [] t A)) ∧ FmB M M1 b m ∧ LgR lg lg1 m := by
  obtain ⟨s1, s2, s3⟩ := id hs
  obtain ⟨b1, b2, b3, b4⟩ := beM_at (M := M) hs
  have hR1 : RB (beM M m) b p A := hR.same hA hW (fun j h => b1 j (by omega))
  obtain ⟨M1, lg1, a1, a2, a3, a4, a5, a6⟩ := y_rec (F := F) (B := B) hF hB hs 1 61 (beM M m) (up3 lg m 5 0) A [] [] t hR1.1 hR1.2.1 hR1.2.2.1 hA rfl rfl (by simp) (fun x hx => by cases hx) (by rw [b2]; rfl) rfl (by rw [up3_eq]; exact BitsOK.nil) ht.1 ht.2
  have hok := recS_ok (B := B) 61 [] [] 0 rfl rfl (by simp) (fun x hx => by cases hx) (by omega) t A (by omega) hA ht.1 ht.2
  simp only at hok
  unfold p_X1_reckonFor
  rw [y_begin, hcU_z]
  show ∃ (M1 : ZM) (lg1 : Nat → Nat → Int64), hcI (cr F b p 62 m (zt t) (LI (beM M m)) (up3 lg m 5 0)) _ = _ ∧ _
  rw [a1, hcI_z]
  unfold reA
  generalize recS 61 [] [] t A = r at *
  by_cases q : r.1 < 0
  · obtain ⟨o1, o2, o3⟩ := hok.2.2 q
    obtain ⟨c1, c2⟩ := a6 q
    obtain ⟨z1, z2⟩ := y_told (kind := r.1) (n := r.2.1.length) hs hR hA hW hok.1 a2 o3.2.2.1.1.2 (b4.trans a3) rfl (by omega) c2
    rw [if_pos q, y_tell (kind := r.1) (c := r.2.1.length) o1 (by omega) (by omega) s1, hcI_z]
    exact ⟨_, _, rfl, z1, z2, (up3_lgr _ _ _).trans a4⟩
  · obtain ⟨o1, o2, o3⟩ := hok.2.1 q
    obtain ⟨z1, z2⟩ := y_kept hs hR hA hW hok.1 a2 (b4.trans a3)
    rw [if_neg q, y_tell0 (by omega), hcI_z]
    exact ⟨_, _, rfl, z1, z2, (up3_lgr _ _ _).trans a4⟩
end CR
/-- after an asking -/
theorem ask_wf {B : Int} {A : Int → Int} {part : Int} (hA : FI B A 0) (hW : WT A) (hp : 0 ≤ part ∧ part < A 0) : FI (B + 13) (asA [] (fetS 13 [] part (A 145) A)) 0 ∧ WT (asA [] (fetS 13 [] part (A 145) A)) ∧ (∀ e, e < 133 ∨ (145 ≤ e ∧ e < 206) ∨ (687 ≤ e ∧ e < 809) → asA [] (fetS 13 [] part (A 145) A) e = A e) ∧ A 206 ≤ (asA [] (fetS 13 [] part (A 145) A)) 206 ∧ ((fetS 13 [] part (A 145) A).1 < (asA [] (fetS 13 [] part (A 145) A)) 206) ∧ -4 ≤ (fetS 13 [] part (A 145) A).1 ∧ (fetS 13 [] part (A 145) A).1 ≠ -1 := by
  have hok := fetS_ok (B := B) 13 [] (A 0) (A 145) rfl (by simp) (fun x hx => by cases hx) hA.1.1.2 hA.2.1.1 part A rfl hA hp.1 hp.2
  simp only at hok
  have hm := hA.2.2.1.1
  unfold asA
  generalize fetS 13 [] part (A 145) A = r at *
  have hl := hok.1.2.1
  by_cases q : r.1 < 0
  · obtain ⟨o1, o2, o3⟩ := hok.2.2 q
    obtain ⟨v1, v2, v3, v4⟩ := whyW_at r.2.2 r.1 ([] ++ r.2.1)
    rw [if_pos q]
    have hlen : ([] ++ r.2.1).length = r.2.1.length := rfl
    have e7 : whyW r.2.2 r.1 ([] ++ r.2.1) 687 = A 687 := by rw [v4 687 (by omega), hok.1.1 687 (by omega)]
    have hW2 := hW.2
    refine ⟨(o3.cong (fun e he => v4 e (by omega))).up, ⟨by omega, by omega⟩, fun e he => by rw [v4 e (by omega), hok.1.1 e (by omega)], by rw [v4 206 (by omega)]; omega, by rw [v4 206 (by omega)]; omega, by omega, by omega⟩
  · obtain ⟨o1, o2⟩ := hok.2.1 (by omega)
    rw [if_neg q]
    have hW1 := hW.1
    have hW2 := hW.2
    have e9 := hok.1.1 809 (by omega)
    have e7 := hok.1.1 687 (by omega)
    exact ⟨FI.upB o2 (by omega), ⟨by omega, by omega⟩, fun e he => hok.1.1 e (by omega), hl, o1, by omega, by omega⟩
theorem value_wf {B : Int} {A : Int → Int} {t : Int} (hA : FI B A 0) (hW : WT A) (ht : 0 ≤ t ∧ t < A 206) : FI (B + 13) (reA (recS 61 [] [] t A)) 0 ∧ WT (reA (recS 61 [] [] t A)) ∧ (∀ e, e < 133 ∨ (145 ≤ e ∧ e < 206) ∨ (687 ≤ e ∧ e < 809) → reA (recS 61 [] [] t A) e = A e) ∧ A 206 ≤ (reA (recS 61 [] [] t A)) 206 ∧ -4 ≤ (recS 61 [] [] t A).1 ∧ (recS 61 [] [] t A).1 ≠ -1 ∧ (recS 61 [] [] t A).1 ≤ 1 := by
  have hok := recS_ok (B := B) 61 [] [] 0 rfl rfl (by simp) (fun x hx => by cases hx) (by omega) t A (by omega) hA ht.1 ht.2
  simp only at hok
  have hm := hA.2.2.1.1
  unfold reA
  generalize recS 61 [] [] t A = r at *
  have hl := hok.1.2.1
  by_cases q : r.1 < 0
  · obtain ⟨o1, o2, o3⟩ := hok.2.2 q
    obtain ⟨v1, v2, v3, v4⟩ := whyW_at r.2.2 r.1 r.2.1
    rw [if_pos q]
    have e7 : whyW r.2.2 r.1 r.2.1 687 = A 687 := by rw [v4 687 (by omega), hok.1.1 687 (by omega)]
    have hW2 := hW.2
    refine ⟨(o3.cong (fun e he => v4 e (by omega))).up, ⟨by omega, by omega⟩, fun e he => by rw [v4 e (by omega), hok.1.1 e (by omega)], by rw [v4 206 (by omega)]; omega, by omega, by omega, by omega⟩
  · obtain ⟨o1, o2, o3⟩ := hok.2.1 q
    rw [if_neg q]
    have hW1 := hW.1
    have hW2 := hW.2
    have e9 := hok.1.1 809 (by omega)
    have e7 := hok.1.1 687 (by omega)
    exact ⟨FI.upB o3 (by omega), ⟨by omega, by omega⟩, fun e he => hok.1.1 e (by omega), hl, by omega, by omega, by omega⟩
