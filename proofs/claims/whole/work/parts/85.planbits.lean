/-! Needs as bits: both read them alike; what can start, by rounds. -/
def nbS (Q : Int → Int) (E : Int → Int → Bool) (i : Int) : Nat → Int → Int32 → Int32
  | 0, _, v => v
  | n + 1, k, v => nbS Q E i n (k + 1) (if E i k = true then v ||| ib (pNd Q i k) else v)
def nb (Q : Int → Int) (E : Int → Int → Bool) (i : Int) : Int32 := nbS Q E i (pMany Q i).toNat 0 (zt 0)
theorem nbS_bit {Q : Int → Int} {E : Int → Int → Bool} {i : Int} : ∀ (n : Nat) (k : Int) (v : Int32), (∀ k', k ≤ k' → k' < k + n → 0 ≤ pNd Q i k' ∧ pNd Q i k' < 32) → ∀ j, 0 ≤ j → (bt (nbS Q E i n k v) j = true ↔ bt v j = true ∨ ∃ k', k ≤ k' ∧ k' < k + n ∧ E i k' = true ∧ pNd Q i k' = j)
  | 0, k, v, h, j, hj => by
    unfold nbS
    refine ⟨Or.inl, fun g => ?_⟩
    rcases g with g | ⟨k', a, b, -⟩
    · exact g
    · omega
  | n + 1, k, v, h, j, hj => by
    have hk := h k (by omega) (by omega)
    unfold nbS
    rw [nbS_bit n (k + 1) _ (fun k' a b => h k' (by omega) (by omega)) j hj]
    by_cases q : E i k = true
    · rw [if_pos q, bt_or _ hk hj, Bool.or_eq_true, decide_eq_true_eq]
      constructor
      · rintro ((a | a) | ⟨k', a, b, c, d⟩)
        · exact Or.inl a
        · exact Or.inr ⟨k, by omega, by omega, q, a⟩
        · exact Or.inr ⟨k', by omega, by omega, c, d⟩
      · rintro (a | ⟨k', a, b, c, d⟩)
        · exact Or.inl (Or.inl a)
        · by_cases e : k' = k
          · subst e; exact Or.inl (Or.inr d)
          · exact Or.inr ⟨k', by omega, by omega, c, d⟩
    · rw [if_neg q]
      constructor
      · rintro (a | ⟨k', a, b, c, d⟩)
        · exact Or.inl a
        · exact Or.inr ⟨k', by omega, by omega, c, d⟩
      · rintro (a | ⟨k', a, b, c, d⟩)
        · exact Or.inl a
        · have e : k' ≠ k := fun e => q (e ▸ c)
          exact Or.inr ⟨k', by omega, by omega, c, d⟩
theorem wfP.nd {Q : Int → Int} (h : wfP Q) {i k : Int} (hi : 0 ≤ i ∧ i < Q 0) (hk : 0 ≤ k ∧ k < pMany Q i) : 0 ≤ pNd Q i k ∧ pNd Q i k < Q 0 := (h.2 i hi.1 hi.2).2.2.1 k hk.1 hk.2
theorem wfP.mn {Q : Int → Int} (h : wfP Q) {i : Int} (hi : 0 ≤ i ∧ i < Q 0) : 0 ≤ pMany Q i ∧ pMany Q i ≤ 4 := (h.2 i hi.1 hi.2).2.1
theorem nb_bit {Q : Int → Int} {E : Int → Int → Bool} (h : wfP Q) {i j : Int} (hi : 0 ≤ i ∧ i < Q 0) (hj : 0 ≤ j) : bt (nb Q E i) j = true ↔ Bnd Q E i j := by
  have hc := h.1
  have hm := h.mn hi
  unfold nb Bnd
  rw [nbS_bit _ _ _ (fun k' a b => by have := h.nd hi (k := k') (by omega); omega) j hj, bt_0]
  constructor
  · rintro (a | ⟨k', a, b, c, d⟩)
    · cases a
    · exact ⟨k', a, by omega, c, d⟩
  · rintro ⟨k', a, b, c, d⟩
    exact Or.inr ⟨k', a, by omega, c, d⟩
theorem Bnd.rng {Q : Int → Int} {E : Int → Int → Bool} (h : wfP Q) {i j : Int} (hi : 0 ≤ i ∧ i < Q 0) (hb : Bnd Q E i j) : 0 ≤ j ∧ j < Q 0 := by
  obtain ⟨k, a, b, c, d⟩ := hb
  rw [← d]
  exact h.nd hi ⟨a, b⟩
def eL (Q : Int → Int) (z : Int32) (L : Int64) : Int → Int → Bool := fun i k => (decide (z ≠ 0) || pEg Q i k) && !(btL L (4 * i + k))
theorem eL_0 (Q : Int → Int) : eL Q (zt 0) 0 = pEg Q := by
  funext i k
  unfold eL
  rw [btL_0]
  simp [show zt 0 = (0 : Int32) from rfl]
section NB
variable {F : Nat} {lg : Nat → Nat → Int64} {M : ZM} {p a : Nat} {Q : Int → Int} {L : Int64} {z : Int32}
theorem y_nb1 {r : Int32 → Int32 → Option Int32} {i k s : Int} {v : Int32} (hk : 0 ≤ k ∧ k < 4) (hs : 0 ≤ s ∧ s < 48) : pk_X3_needBits_39 F p r (zt i) z L v (zt k) (zt s) (LI M) lg = if btL L s = false then r (v ||| ib (M (p + 8) s)) (zt (k + 1)) else r v (zt (k + 1)) := by
  unfold pk_X3_needBits_39 pk_X3_needBits_44
  rw [if_neg (show ¬ ((1 : Int32) = 0) by decide), lbit_fold]
  by_cases q : btL L s = false
  · rw [if_pos ((btL_test (by omega)).mpr q), if_pos q]
    simp (disch := omega) only [zt_lit, mI_z, ob_z, gnm_z, zt_add, ib_fold]
  · rw [if_neg (fun e => q ((btL_test (by omega)).mp e)), if_neg q]
    simp (disch := omega) only [zt_lit, zt_add]
theorem y_needBits {i : Int} (hF : 10 < F) (hP : wfP Q) (hR : RP M p Q) (hi : 0 ≤ i ∧ i < Q 0) : p_X3_needBits F p (zt i) z L (LI M) lg = some (nb Q (eL Q z L) i) := by
  have hc := hP.1
  have hm := hP.mn hi
  obtain ⟨-, -, -, -, -, r6, r7, r8⟩ := hR.2 i hi.1 hi.2
  have hl := (hP.2 i hi.1 hi.2).2.2.2.1
  have key : ∀ (n : Nat) (k : Int) (v : Int32) (K : Nat), k + n = pMany Q i → 0 ≤ k → n < K → fixN (fun _ _ => none) (pb_X3_needBits_6 F p (zt i) z L (LI M) lg) K v (zt k) = some (nbS Q (eL Q z L) i n k v) := by
    intro n
    induction n with
    | zero =>
      intro k v K h1 h2 hK
      obtain ⟨g, rfl⟩ : ∃ g, K = g + 1 := ⟨K - 1, by omega⟩
      rw [fix_succ]
      unfold pb_X3_needBits_6 nbS
      rw [mI_z (by omega) (by omega) (by omega), ob_z, r6]
      rw [if_pos (show zt (Q (1 + 11 * i + 2)) ≤ zt k by unfold pMany at *; rw [zt_le (by omega) (by omega) (by omega) (by omega)]; omega)]
    | succ n ih =>
      intro k v K h1 h2 hK
      obtain ⟨g, rfl⟩ : ∃ g, K = g + 1 := ⟨K - 1, by omega⟩
      rw [fix_succ]
      generalize hr : fixN (fun _ _ => none) (pb_X3_needBits_6 F p (zt i) z L (LI M) lg) g = r
      have h8 := r8 k h2 (by unfold pMany at h1; omega)
      have hnd : Q (1 + 11 * i + (3 + k)) = pNd Q i k := rfl
      unfold pb_X3_needBits_6
      rw [mI_z (by omega) (by omega) (by omega), ob_z, r6]
      rw [if_neg (show ¬ (zt (Q (1 + 11 * i + 2)) ≤ zt k) by unfold pMany at *; rw [zt_le (by omega) (by omega) (by omega) (by omega)]; omega)]
      rw [gnm_z, show (4 : Int32) = zt 4 from rfl, zt_mul, zt_add]
      have s1 : pk_X3_needBits_39 F p r (zt i) z L v (zt k) (zt (i * 4 + k)) (LI M) lg = if btL L (i * 4 + k) = false then r (v ||| ib (pNd Q i k)) (zt (k + 1)) else r v (zt (k + 1)) := by
        rw [y_nb1 (by omega) (by omega), h8, hnd]
      have s2 : (if btL L (i * 4 + k) = false then r (v ||| ib (pNd Q i k)) (zt (k + 1)) else r v (zt (k + 1))) = r (if (true && !(btL L (4 * i + k))) = true then v ||| ib (pNd Q i k) else v) (zt (k + 1)) := by
        rw [show 4 * i + k = i * 4 + k by omega]
        cases btL L (i * 4 + k) <;> simp
      rw [nbS, ← ih (k + 1) _ g (by omega) (by omega) (by omega), hr]
      unfold eL
      by_cases hz : z = 0
      · rw [if_pos hz, y_isEager (by omega) (by omega) (by rw [r7]; exact hl), ob_z, r7]
        have hd : decide (z ≠ 0) = false := by simp [hz]
        rw [hd, Bool.false_or]
        unfold pEg
        by_cases q : lz (Q (1 + 11 * i + 7)) k = true
        · rw [if_pos q, if_pos (show zt 0 = 0 from rfl), q]
          unfold pk_X3_needBits_44
          rw [if_pos rfl]
          simp only [zt_lit, zt_add]
          simp
        · have q2 : lz (Q (1 + 11 * i + 7)) k = false := by simpa using q
          rw [if_neg q, if_neg (show ¬ (zt 1 = 0) by decide), s1, s2, q2]
          rfl
      · rw [if_neg hz, s1, s2]
        have hd : decide (z ≠ 0) = true := by simp [hz]
        rw [hd, Bool.true_or]
  unfold p_X3_needBits
  rw [show (0 : Int32) = zt 0 from rfl]
  exact key (pMany Q i).toNat 0 (zt 0) F (by omega) (by omega) (by omega)
/-! what can start -/
def stSw (Q : Int → Int) (E : Int → Int → Bool) : Nat → Int → Int32 → Int32
  | 0, _, v => v
  | n + 1, i, v => stSw Q E n (i + 1) (if bt v i = false ∧ nb Q E i &&& (v ^^^ zt (-1)) = zt 0 then v ||| ib i else v)
theorem InB.or {c : Int} {v : Int32} (h : InB c v) {i : Int} (hi : 0 ≤ i ∧ i < c) (hc : c ≤ 12) : InB c (v ||| ib i) := fun j a b hb => by
  rw [bt_or _ (by omega) a, Bool.or_eq_true, decide_eq_true_eq] at hb
  rcases hb with hb | hb
  · exact h j a b hb
  · omega
theorem SubB.or {v : Int32} {i : Int} (hi : 0 ≤ i ∧ i < 32) : SubB v (v ||| ib i) := fun j a b hb => by rw [bt_or _ hi a, hb, Bool.true_or]
def SndC (Q : Int → Int) (E : Int → Int → Bool) (v : Int32) : Prop := InB (Q 0) v ∧ ∀ j, 0 ≤ j → j < 32 → bt v j = true → Can Q E j
theorem Can.of {Q : Int → Int} {E : Int → Int → Bool} {i : Int} (hi : 0 ≤ i ∧ i < Q 0) (h : ∀ j, Bnd Q E i j → Can Q E j) : Can Q E i := fun S hS => hS i hi.1 hi.2 (fun j hj => h j hj S hS)
theorem stSw_ok {Q : Int → Int} {E : Int → Int → Bool} (hP : wfP Q) : ∀ (n : Nat) (i : Int) (v : Int32), i + n = Q 0 → 0 ≤ i → SndC Q E v → SndC Q E (stSw Q E n i v) ∧ SubB v (stSw Q E n i v) ∧ (SubB (stSw Q E n i v) v → ∀ i', i ≤ i' → i' < Q 0 → (∀ j, Bnd Q E i' j → bt v j = true) → bt v i' = true) := by
  have hc := hP.1
  intro n
  induction n with
  | zero =>
    intro i v h1 h2 h3
    unfold stSw
    exact ⟨h3, SubB.refl _, fun _ i' a b => by omega⟩
  | succ n ih =>
    intro i v h1 h2 h3
    unfold stSw
    by_cases q : bt v i = false ∧ nb Q E i &&& (v ^^^ zt (-1)) = zt 0
    · rw [if_pos q]
      have hs : SndC Q E (v ||| ib i) := by
        refine ⟨h3.1.or (by omega) (by omega), fun j a b hb => ?_⟩
        rw [bt_or _ (by omega) a, Bool.or_eq_true, decide_eq_true_eq] at hb
        rcases hb with hb | hb
        · exact h3.2 j a b hb
        · subst hb
          refine Can.of (by omega) (fun j hj => ?_)
          have hr := hj.rng hP (by omega)
          exact h3.2 j hr.1 (by omega) (bt_sub.mp q.2 j hr.1 (by omega) ((nb_bit hP (by omega) hr.1).mpr hj))
      obtain ⟨a1, a2, a3⟩ := ih (i + 1) (v ||| ib i) (by omega) (by omega) hs
      refine ⟨a1, (SubB.or (by omega)).trans a2, fun g => ?_⟩
      exfalso
      have h4 := g i h2 (by omega) (a2 i h2 (by omega) (by rw [bt_or _ (by omega) h2]; simp))
      rw [q.1] at h4
      cases h4
    · rw [if_neg q]
      obtain ⟨a1, a2, a3⟩ := ih (i + 1) v (by omega) (by omega) h3
      refine ⟨a1, a2, fun g i' g1 g2 g3 => ?_⟩
      by_cases e : i' = i
      · subst e
        cases e2 : bt v i' with
        | true => rfl
        | false =>
          refine absurd ⟨e2, bt_sub.mpr (fun j a b hb => g3 j ((nb_bit hP (by omega) a).mp hb))⟩ q
      · exact a3 g i' (by omega) g2 g3
theorem y_startable {K0 : Int32} (hF : 20 < F) (hP : wfP Q) (hR : RP M p Q) (h0 : SndC Q (eL Q (zt 0) L) K0) : ∃ v, p_X5_startable F p a L K0 (LI M) lg = some v ∧ InB (Q 0) v ∧ ∀ j, 0 ≤ j → j < Q 0 → (bt v j = true ↔ Can Q (eL Q (zt 0) L) j) := by
  have hc := hP.1
  have hin : ∀ (r6 : Int32 → Int32 → Option Int32) (bf : Int32) (t : Int) (n : Nat) (i : Int) (v : Int32) (K : Nat), i + n = Q 0 → 0 ≤ i → n < K → fixN (fun _ _ => none) (pb_X5_startable_25 F p a r6 L (zt t) bf (LI M) lg) K v (zt i) = if stSw Q (eL Q (zt 0) L) n i v = bf then some (stSw Q (eL Q (zt 0) L) n i v) else r6 (stSw Q (eL Q (zt 0) L) n i v) (zt t + 1) := by
    intro r6 bf t n
    induction n with
    | zero =>
      intro i v K h1 h2 hK
      obtain ⟨g, rfl⟩ : ∃ g, K = g + 1 := ⟨K - 1, by omega⟩
      rw [fix_succ]
      unfold pb_X5_startable_25 pk_X5_startable_93 stSw
      rw [LI_0, hR.1, if_pos (show zt (Q 0) ≤ zt i by rw [zt_le (by omega) (by omega) (by omega) (by omega)]; omega)]
    | succ n ih =>
      intro i v K h1 h2 hK
      obtain ⟨g, rfl⟩ : ∃ g, K = g + 1 := ⟨K - 1, by omega⟩
      rw [fix_succ]
      generalize hr : fixN (fun _ _ => none) (pb_X5_startable_25 F p a r6 L (zt t) bf (LI M) lg) g = r
      unfold pb_X5_startable_25 stSw
      rw [LI_0, hR.1, if_neg (show ¬ (zt (Q 0) ≤ zt i) by rw [zt_le (by omega) (by omega) (by omega) (by omega)]; omega)]
      rw [← ih (i + 1) _ g (by omega) (by omega) (by omega), hr]
      unfold pk_X5_startable_52
      rw [if_pos (show (0 : Int32) = 0 from rfl), if_neg (show ¬ ((1 : Int32) = 0) by decide), show (0 : Int32) = zt 0 from rfl, y_needBits (by omega) hP hR (by omega), ob_z]
      simp only [zt_lit, zt_neg, zt_add, gnm_z, ib_fold]
      by_cases q1 : bt v i = false
      · rw [if_pos ((bt_test (by omega)).mpr q1)]
        by_cases q2 : nb Q (eL Q (zt 0) L) i &&& (v ^^^ zt (-1)) = zt 0
        · rw [if_pos q2, if_pos ⟨q1, q2⟩]
        · rw [if_neg q2, if_neg (fun e => q2 e.2)]
      · rw [if_neg (fun e => q1 ((bt_test (by omega)).mp e)), if_neg (fun e => q1 e.1)]
  have hsw := fun v (hv : SndC Q (eL Q (zt 0) L) v) => stSw_ok (E := eL Q (zt 0) L) hP (Q 0).toNat 0 v (by omega) (by omega) hv
  obtain ⟨v, a1, a2, a3, a4⟩ := rounds (c := Q 0) (sw := stSw Q (eL Q (zt 0) L) (Q 0).toNat 0) (P := SndC Q (eL Q (zt 0) L)) (z := fun _ _ => none) (b := pb_X5_startable_6 F p a L (LI M) lg) (F := F) hc hF (fun v hv => ⟨(hsw v hv).1, (hsw v hv).2.1, hv.1⟩) (fun r v t _ h1 h2 => by
      unfold pb_X5_startable_6
      rw [LI_0, hR.1, if_pos (show zt (Q 0) ≤ zt t by rw [zt_le (by omega) (by omega) (by omega) (by omega)]; exact h1)]) (fun r v t _ h1 h2 => by
      unfold pb_X5_startable_6
      rw [LI_0, hR.1, if_neg (show ¬ (zt (Q 0) ≤ zt t) by rw [zt_le (by omega) (by omega) (by omega) (by omega)]; omega), show (0 : Int32) = zt 0 from rfl, hin r v t (Q 0).toNat 0 v F (by omega) (by omega) (by omega), show (1 : Int32) = zt 1 from rfl, zt_add]) h0
  refine ⟨v, ?_, a2.1, fun j j0 j1 => ⟨fun hb => a2.2 j j0 (by omega) hb, fun hcan => ?_⟩⟩
  · unfold p_X5_startable
    rw [show (0 : Int32) = zt 0 from rfl]
    exact a1
  · rcases a4 with a4 | a4
    · have h3 := (hsw v a2).2.2 (by rw [a4]; exact SubB.refl _)
      refine hcan (fun j => bt v j = true) (fun i i0 i1 hi => h3 i i0 i1 hi)
    · exact a4 j j0 j1
end NB
