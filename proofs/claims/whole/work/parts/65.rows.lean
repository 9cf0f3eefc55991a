/-! What is bad of what ended; what every kept row keeps to. -/
def edL (A : Int → Int) : List Int := seg (fun i => A (688 + i)) (A 687).toNat 0
def BDr (A : Int → Int) : Prop := (∀ i, 0 ≤ i → i < A 687 → 0 ≤ A (688 + i) ∧ A (688 + i) < A 0) ∧ A 748 = ((edL A).filter (bd A)).length ∧ ∀ (i : Nat) (x : Int), ((edL A).filter (bd A))[i]? = some x → A (749 + i) = x
def GR (B : Int) (A : Int → Int) : Prop := FI B A 0 ∧ WT A ∧ BDr A
theorem filter_cong {f g : Int → Bool} : ∀ l : List Int, (∀ x ∈ l, f x = g x) → l.filter f = l.filter g
  | [], _ => rfl
  | x :: xs, h => by
    have h1 := h x List.mem_cons_self
    have h2 := filter_cong xs (fun y hy => h y (List.mem_cons_of_mem _ hy))
    rw [List.filter_cons, List.filter_cons, h1, h2]
theorem filter_len (f : Int → Bool) : ∀ l : List Int, (l.filter f).length ≤ l.length
  | [] => Nat.le_refl _
  | x :: xs => by
    have := filter_len f xs
    rw [List.filter_cons]
    split <;> simp <;> omega
theorem sumS_filter {f : Int → Bool} {g : Int → Int} : ∀ (n : Nat) (i : Int), sumS (fun k => if f (g k) = true then 1 else 0) n i = ((seg g n i).filter f).length
  | 0, _ => rfl
  | n + 1, i => by
    rw [sumS, sumS_filter n (i + 1), seg, List.filter_cons]
    by_cases q : f (g i) = true
    · rw [if_pos q, if_pos q]
      simp
      omega
    · rw [if_neg q, if_neg q]
      omega
theorem BDr.rng {A : Int → Int} (h : BDr A) (hw : 0 ≤ A 687 ∧ A 687 ≤ 60) : 0 ≤ A 748 ∧ A 748 ≤ A 687 := by
  have h1 := filter_len (bd A) (edL A)
  have h2 : (edL A).length = (A 687).toNat := seg_len _ _ _
  rw [h.2.1]
  omega
theorem BDr.cong {A A1 : Int → Int} (h : BDr A) (hw : 0 ≤ A 687 ∧ A 687 ≤ 60) (hc : 0 ≤ A 0 ∧ A 0 ≤ 12) (he : ∀ e, (0 ≤ e ∧ e < 133) ∨ (687 ≤ e ∧ e < 809) → A1 e = A e) : BDr A1 := by
  have e7 := he 687 (by omega)
  have e0 := he 0 (by omega)
  have h48 := h.rng hw
  have hl : edL A1 = edL A := by
    unfold edL
    rw [e7]
    exact seg_cong _ _ (fun j a c => he _ (by omega))
  have hf : (edL A1).filter (bd A1) = (edL A).filter (bd A) := by
    rw [hl]
    refine filter_cong _ (fun x hx => ?_)
    obtain ⟨j, a, c, rfl⟩ := (seg_mem _ _ _ _).mp hx
    have := h.1 j a (by omega)
    unfold bd
    rw [he _ (by omega)]
  refine ⟨fun i a c => ?_, by rw [hf, he 748 (by omega)]; exact h.2.1, fun i x hx => ?_⟩
  · rw [he _ (by omega), e0]; exact h.1 i a (by omega)
  · rw [hf] at hx
    have hlt := at_ltG hx
    rw [he _ (by have := h.2.1; omega)]
    exact h.2.2 i x hx
theorem FI.cong0 {B : Int} {A A1 : Int → Int} {n : Nat} (h : FI B A n) (he : ∀ e, 0 ≤ e → e < 687 → A1 e = A e) : FI B A1 n := by
  obtain ⟨h1, h2, h3, h4⟩ := h
  have hc := h1.1
  have hm := h3.1
  have h0 := he 0 (by omega) (by omega)
  have h6 := he 206 (by omega) (by omega)
  refine ⟨⟨by omega, fun p a b => ?_⟩, ⟨by rw [he 145 (by omega) (by omega)]; exact h2.1, fun s p a b c d => by rw [he _ (by omega) (by omega), h0]; exact h2.2 s p a b c d⟩, ⟨by omega, fun t a b => ?_⟩, fun p a b => by rw [he _ (by omega) (by omega), h6]; exact h4 p a b⟩
  · obtain ⟨w1, w2, w3, w4, w5, w6, w7⟩ := h1.2 p a (by omega)
    unfold wfPart
    rw [he _ (by omega) (by omega), he (1 + 11 * p + 2) (by omega) (by omega), he (1 + 11 * p + 7) (by omega) (by omega), he (1 + 11 * p + 8) (by omega) (by omega), he (1 + 11 * p + 9) (by omega) (by omega), he (1 + 11 * p + 10) (by omega) (by omega), h0]
    exact ⟨w1, w2, fun k c d => by rw [he _ (by omega) (by omega)]; exact w3 k c d, w4, w5, w6, w7⟩
  · obtain ⟨w1, w2, w3, w4⟩ := h3.2 t a (by omega)
    unfold wfThing
    rw [he _ (by omega) (by omega), he (207 + 8 * t + 1) (by omega) (by omega), he (207 + 8 * t + 2) (by omega) (by omega), h0, h6]
    exact ⟨w1, w2, w3, fun k c d => by rw [he _ (by omega) (by omega)]; exact w4 k c d⟩
theorem GR.cong {B : Int} {A A1 : Int → Int} (h : GR B A) (he : ∀ e, 0 ≤ e → e < 891 → A1 e = A e) : GR B A1 := by
  obtain ⟨h1, h2, h3⟩ := h
  refine ⟨h1.cong0 (fun e a c => he e a (by omega)), ?_, h3.cong h2.2 h1.1.1 (fun e a => he e (by omega) (by omega))⟩
  unfold WT
  rw [he 809 (by omega) (by omega), he 687 (by omega) (by omega)]
  exact h2
theorem GR.upB {B B1 : Int} {A : Int → Int} (h : GR B A) (hB : B ≤ B1) : GR B1 A := ⟨h.1.upB hB, h.2.1, h.2.2⟩
theorem RB.cong {M : ZM} {b p : Nat} {B : Int} {A A1 : Int → Int} (h : RB M b p A) (hg : GR B A) (he : ∀ e, 0 ≤ e → e < 891 → A1 e = A e) : RB M b p A1 := by
  obtain ⟨h1, h2, h3, h4⟩ := h
  obtain ⟨g1, g2, -⟩ := hg
  have hc := g1.1.1
  have hm := g1.2.2.1.1
  have e0 := he 0 (by omega) (by omega)
  refine ⟨⟨by rw [e0]; exact h1.1, fun i a c => ?_⟩, ⟨by rw [he 145 (by omega) (by omega)]; exact h2.1, fun s i a c d f => by rw [he _ (by omega) (by omega)]; exact h2.2 s i a c d f⟩, h3.extA hm.2 (fun e a c => he e (by omega) (by omega)), ?_⟩
  · rw [e0] at c
    obtain ⟨r1, r2, r3, r4, r5, r6, r7, r8⟩ := h1.2 i a c
    have hn := (g1.1.2 i a c).2.1
    rw [he _ (by omega) (by omega), he (1 + 11 * i + 1) (by omega) (by omega), he (1 + 11 * i + 8) (by omega) (by omega), he (1 + 11 * i + 9) (by omega) (by omega), he (1 + 11 * i + 10) (by omega) (by omega), he (1 + 11 * i + 2) (by omega) (by omega), he (1 + 11 * i + 7) (by omega) (by omega)]
    exact ⟨r1, r2, r3, r4, r5, r6, r7, fun k d f => by rw [he _ (by omega) (by omega)]; exact r8 k d f⟩
  · obtain ⟨w1, w2, w3, w4, w5⟩ := h4
    have h9 := g2.1
    have h7 := g2.2
    refine ⟨by rw [he _ (by omega) (by omega)]; exact w1, by rw [he _ (by omega) (by omega)]; exact w2, fun i a c => ?_, by rw [he _ (by omega) (by omega)]; exact w4, fun i a c => ?_⟩
    · rw [he 809 (by omega) (by omega)] at c
      rw [he _ (by omega) (by omega)]; exact w3 i a c
    · rw [he 687 (by omega) (by omega)] at c
      rw [he _ (by omega) (by omega)]; exact w5 i a c
/-- the board's rows read at b, the parts' at p: nothing else matters -/
theorem RB.memM {M M1 : ZM} {b p : Nat} {A : Int → Int} (h : RB M b p A) (hp : ∀ j, p ≤ j → j < p + 9 → M1 j = M j) (hb : ∀ j, b ≤ j → j < b + 13 → M1 j = M j) : RB M1 b p A := by
  obtain ⟨h1, h2, h3, h4⟩ := h
  refine ⟨⟨by rw [hp _ (by omega) (by omega)]; exact h1.1, fun i a c => ?_⟩, ⟨by rw [hb _ (by omega) (by omega)]; exact h2.1, fun s i a c d f => by rw [hb _ (by omega) (by omega)]; exact h2.2 s i a c d f⟩, h3.ext (fun j a c => hb j (by omega) (by omega)), ?_⟩
  · rw [hp (p + 1) (by omega) (by omega), hp (p + 2) (by omega) (by omega), hp (p + 3) (by omega) (by omega), hp (p + 4) (by omega) (by omega), hp (p + 5) (by omega) (by omega), hp (p + 6) (by omega) (by omega), hp (p + 7) (by omega) (by omega), hp (p + 8) (by omega) (by omega)]
    exact h1.2 i a c
  · unfold RW
    rw [hb (b + 10) (by omega) (by omega), hb (b + 10 + 1) (by omega) (by omega), hb (b + 10 + 2) (by omega) (by omega)]
    exact h4
section BC
variable {F : Nat} {lg : Nat → Nat → Int64} {M : ZM} {b p : Nat} {A : Int → Int}
theorem bd_of (hP : wfP A) {i : Int} (hi : 0 ≤ i ∧ i < A 0) (hR : RP M p A) : (M (p + 5) i = 0 ↔ ¬ bd A i = true) ∧ 0 ≤ M (p + 5) i ∧ M (p + 5) i ≤ 1 := by
  obtain ⟨-, -, -, -, -, -, h7⟩ := hP.2 i hi.1 hi.2
  obtain ⟨-, -, -, -, r5, -⟩ := hR.2 i hi.1 hi.2
  unfold bd
  rw [r5, decide_eq_true_eq]
  omega
theorem y_countBad (hF : 70 < F) (hP : wfP A) (hW : 0 ≤ A 687 ∧ A 687 ≤ 60) (hB : BDr A) (hR : RP M p A) (hw : RW M b A) : p_X9_countBad F (b + 10) p (LI M) lg = some (zt (A 748)) := by
  have hc := hP.1
  unfold p_X9_countBad
  rw [show (0 : Int32) = zt 0 from rfl, hB.2.1]
  unfold edL
  rw [← sumS_filter]
  refine sum_loop (N := A 687) (by omega) (by omega) (fun r a => ?_) (fun r a t g0 g1 => ?_)
  · unfold pb_X9_countBad_4
    simp (disch := omega) only [zt_lit, LI_3, hw.2.2.2.1, zt_le]
    rw [if_pos (by omega)]
  · have hx := hB.1 t g0 g1
    obtain ⟨b1, b2⟩ := bd_of hP hx hR
    have hr := hw.2.2.2.2 t g0 g1
    unfold pb_X9_countBad_4
    simp (disch := omega) only [zt_lit, LI_3, hw.2.2.2.1, mI_z, ob_z, hr, zt_le, zt_add, zt_eq]
    rw [if_neg (by omega)]
    by_cases q : bd A (A (688 + t)) = true
    · rw [if_neg (fun e => b1.mp e q), if_pos q]
    · rw [if_pos (b1.mpr q), if_neg q, Int.add_zero]
theorem y_badAt {k : Int} (hk : -2147483648 ≤ k ∧ k < 2147483648) (hF : 70 < F) (hP : wfP A) (hW : 0 ≤ A 687 ∧ A 687 ≤ 60) (hB : BDr A) (hR : RP M p A) (hw : RW M b A) : p_X9_badAt F (b + 10) p (zt k) (LI M) lg = some (zt (if 0 ≤ k ∧ k < A 748 then A (749 + k) else -1)) := by
  have hc := hP.1
  have key : ∀ (n : Nat) (i a : Int) (K : Nat), 0 ≤ i → i + n = A 687 → 0 ≤ a → a ≤ i → n < K → fixN (fun _ _ => none) (pb_X9_badAt_5 F (b + 10) p (zt k) (LI M) lg) K (zt a) (zt i) = some (zt (if a ≤ k then (((seg (fun i => A (688 + i)) n i).filter (bd A))[(k - a).toNat]?).getD (-1) else -1)) := by
    intro n
    induction n with
    | zero =>
      intro i a K h0 h1 ha hi hK
      obtain ⟨g, rfl⟩ : ∃ g, K = g + 1 := ⟨K - 1, by omega⟩
      rw [fix_succ]
      unfold pb_X9_badAt_5
      simp (disch := omega) only [zt_lit, zt_neg, LI_3, hw.2.2.2.1, zt_le]
      rw [if_pos (by omega)]
      simp [seg]
    | succ n ih =>
      intro i a K h0 h1 ha hi hK
      obtain ⟨g, rfl⟩ : ∃ g, K = g + 1 := ⟨K - 1, by omega⟩
      rw [fix_succ]
      generalize hr : fixN (fun _ _ => none) (pb_X9_badAt_5 F (b + 10) p (zt k) (LI M) lg) g = r
      have hx := hB.1 i h0 (by omega)
      obtain ⟨b1, b2⟩ := bd_of hP hx hR
      have hq := hw.2.2.2.2 i h0 (by omega)
      unfold pb_X9_badAt_5 pk_X9_badAt_34
      simp (disch := omega) only [zt_lit, LI_3, hw.2.2.2.1, mI_z, ob_z, hq, zt_le, zt_add, zt_eq]
      rw [if_neg (by omega), seg, List.filter_cons, ← hr]
      by_cases q : bd A (A (688 + i)) = true
      · rw [if_neg (fun e => b1.mp e q), if_pos q]
        by_cases q2 : a = k
        · subst q2
          rw [if_pos rfl, if_pos (Int.le_refl _), Int.sub_self]
          simp
        · rw [if_neg q2, ih (i + 1) (a + 1) g (by omega) (by omega) (by omega) (by omega) (by omega)]
          by_cases q3 : a ≤ k
          · rw [if_pos q3, if_pos (by omega), show (k - a).toNat = (k - (a + 1)).toNat + 1 by omega, List.getElem?_cons_succ]
          · rw [if_neg q3, if_neg (by omega)]
      · rw [if_pos (b1.mpr q), if_neg q, ih (i + 1) a g (by omega) (by omega) (by omega) (by omega) (by omega)]
  unfold p_X9_badAt
  rw [show (0 : Int32) = zt 0 from rfl, key (A 687).toNat 0 0 F (by omega) (by omega) (by omega) (by omega) (by omega)]
  congr 2
  have h48 := hB.2.1
  have hed : seg (fun i => A (688 + i)) (A 687).toNat 0 = edL A := rfl
  rw [hed, Int.sub_zero]
  by_cases q : 0 ≤ k
  · rw [if_pos q]
    by_cases q2 : k < A 748
    · rw [if_pos ⟨q, q2⟩]
      obtain ⟨x, hx⟩ : ∃ x, ((edL A).filter (bd A))[k.toNat]? = some x := ⟨_, List.getElem?_eq_getElem (by omega)⟩
      have := hB.2.2 k.toNat x hx
      rw [hx, show (749 : Int) + k = 749 + (k.toNat : Int) by omega, this]
      rfl
    · rw [if_neg (by omega), List.getElem?_eq_none (by omega)]
      rfl
  · rw [if_neg q, if_neg (by omega)]
end BC
