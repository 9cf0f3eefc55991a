/-! Needs that are no part: both find the least place. -/
def Lst (f0 p0 : Int) (S : Int → Prop) (f p : Int) : Prop := (f = 0 → f0 = 0 ∧ (∀ s, ¬ S s) ∧ p = p0) ∧ (f ≠ 0 → ((f = f0 ∧ p = p0) ∨ (f = 5 ∧ S p)) ∧ (f0 ≠ 0 → p < p0 ∨ p = p0 ∧ f ≤ f0) ∧ ∀ s, S s → p < s ∨ p = s ∧ f ≤ 5)
theorem Lst.nil {f0 p0 : Int} {S : Int → Prop} (h : ∀ s, ¬ S s) : Lst f0 p0 S f0 p0 := ⟨fun g => ⟨g, h, rfl⟩, fun g => ⟨Or.inl ⟨rfl, rfl⟩, fun _ => Or.inr ⟨rfl, Int.le_refl _⟩, fun s hs => absurd hs (h s)⟩⟩
theorem Lst.step {f0 p0 f p f1 p1 s : Int} {S S1 : Int → Prop} (h : Lst f0 p0 S f p) (hS : ∀ x, S1 x ↔ S x ∨ x = s) (hn : (f1 = f ∧ p1 = p ∧ f ≠ 0 ∧ (p < s ∨ p = s ∧ f ≤ 5)) ∨ (f1 = 5 ∧ p1 = s ∧ (f = 0 ∨ s < p ∨ s = p ∧ 5 < f))) : Lst f0 p0 S1 f1 p1 := by
  obtain ⟨h1, h2⟩ := h
  rcases hn with ⟨rfl, rfl, g3, g4⟩ | ⟨rfl, rfl, g3⟩
  · obtain ⟨k1, k2, k3⟩ := h2 g3
    refine ⟨fun g => absurd g g3, fun _ => ⟨?_, k2, fun x hx => ?_⟩⟩
    · rcases k1 with k | ⟨k, k'⟩
      · exact Or.inl k
      · exact Or.inr ⟨k, (hS _).mpr (Or.inl k')⟩
    · rcases (hS x).mp hx with g | g
      · exact k3 x g
      · rw [g]; exact g4
  · refine ⟨fun g => by omega, fun _ => ⟨Or.inr ⟨rfl, (hS _).mpr (Or.inr rfl)⟩, fun g0 => ?_, fun x hx => ?_⟩⟩
    · by_cases q : f = 0
      · exact absurd (h1 q).1 g0
      · have := (h2 q).2.1 g0
        omega
    · rcases (hS x).mp hx with g | g
      · by_cases q : f = 0
        · exact absurd g ((h1 q).2.1 x)
        · have := (h2 q).2.2 x g
          omega
      · rw [g]; omega
theorem Lst.uni {f0 p0 f p f1 p1 : Int} {S S1 : Int → Prop} (h : Lst f0 p0 S f p) (h' : Lst f0 p0 S1 f1 p1) (h1 : ∀ s, S s → S1 s) (h2 : ∀ s, S1 s → ∃ t, S t ∧ t ≤ s) : f = f1 ∧ p = p1 := by
  have e1 : ∀ s, ¬ S s → True := fun _ _ => trivial
  by_cases q : f = 0
  · obtain ⟨a1, a2, a3⟩ := h.1 q
    have hS1 : ∀ s, ¬ S1 s := fun s hs => by
      obtain ⟨t, ht, -⟩ := h2 s hs
      exact a2 t ht
    by_cases q1 : f1 = 0
    · exact ⟨by omega, by rw [a3, (h'.1 q1).2.2]⟩
    · rcases (h'.2 q1).1 with ⟨k, -⟩ | ⟨-, k⟩
      · omega
      · exact absurd k (hS1 _)
  · by_cases q1 : f1 = 0
    · obtain ⟨a1, a2, a3⟩ := h'.1 q1
      rcases (h.2 q).1 with ⟨k, -⟩ | ⟨-, k⟩
      · omega
      · exact absurd (h1 _ k) (a2 _)
    · obtain ⟨k1, k2, k3⟩ := h.2 q
      obtain ⟨l1, l2, l3⟩ := h'.2 q1
      have le1 : p1 < p ∨ p1 = p ∧ f1 ≤ f := by
        rcases k1 with ⟨g1, g2⟩ | ⟨g1, g2⟩
        · have := l2 (by omega)
          omega
        · have := l3 p (h1 p g2)
          omega
      have le2 : p < p1 ∨ p = p1 ∧ f ≤ f1 := by
        rcases l1 with ⟨g1, g2⟩ | ⟨g1, g2⟩
        · have := k2 (by omega)
          omega
        · obtain ⟨t, ht, htl⟩ := h2 p1 g2
          have := k3 t ht
          clear h2 h1 k3 l3 e1
          omega
      omega
def ntR (R : ZM) (f p : Int) : ZM := if R 0 15 = 0 ∨ p < R 0 14 ∨ (p = R 0 14 ∧ f < R 0 15) then uM (uM R 0 15 f) 0 14 p else R
section RD8
variable {F : Nat} {lg : Nat → Nat → Int64} {M0 R0 M R : ZM} {w : Int64} {a pb : Nat} {T : Int → Int} {N r m P v1 : Int}
theorem x_isBad {f p : Int} (h6 : 0 ≤ R 0 15 ∧ R 0 15 ≤ 5) (h7 : -1 ≤ R 0 14 ∧ R 0 14 ≤ 700) (hf : 1 ≤ f ∧ f ≤ 5) (hq : 0 ≤ p ∧ p ≤ 700) : p_X11_isBad F (zt f) (zt p) (LI R) w = some (LI (ntR R f p), w) := by
  have kR : pk_X11_isBad_31 F (zt f) (zt p) (LI R) w = some (LI (uM (uM R 0 15 f) 0 14 p), w) := by
    unfold pk_X11_isBad_31
    rw [show up2 (LI R) 0 15 (zt f) = LI (uM R 0 15 f) from up2_z R 0 15 f, gnm_z, show up2 (LI (uM R 0 15 f)) 0 14 (zt p) = LI (uM (uM R 0 15 f) 0 14 p) from up2_z _ 0 14 p, gnm_z]
  unfold p_X11_isBad ntR
  rw [show LI R 0 15 = zt (R 0 15) from rfl, show LI R 0 14 = zt (R 0 14) from rfl, kR]
  simp (disch := omega) only [zt_lit, zt_eq, zt_lt, zt_le]
  by_cases q : R 0 15 = 0
  · rw [if_pos q, if_pos (Or.inl q)]
  · rw [if_neg q]
    by_cases q1 : p < R 0 14
    · rw [if_pos q1, if_pos (Or.inr (Or.inl q1))]
    · rw [if_neg q1]
      by_cases q2 : p = R 0 14
      · rw [if_pos q2]
        by_cases q3 : R 0 15 ≤ f
        · rw [if_pos q3, if_neg (by omega)]
        · rw [if_neg q3, if_pos (by omega)]
      · rw [if_neg q2, if_neg (by omega)]
theorem ntR_fr {f p : Int} : (∀ j, j ≠ 0 → ntR R f p j = R j) ∧ (∀ e, e ≠ 14 → e ≠ 15 → ntR R f p 0 e = R 0 e) ∧ (ntR R f p 0 15 = R 0 15 ∧ ntR R f p 0 14 = R 0 14 ∧ R 0 15 ≠ 0 ∧ (R 0 14 < p ∨ R 0 14 = p ∧ R 0 15 ≤ f) ∨ ntR R f p 0 15 = f ∧ ntR R f p 0 14 = p ∧ (R 0 15 = 0 ∨ p < R 0 14 ∨ p = R 0 14 ∧ f < R 0 15)) := by
  unfold ntR
  by_cases q : R 0 15 = 0 ∨ p < R 0 14 ∨ (p = R 0 14 ∧ f < R 0 15)
  · rw [if_pos q]
    exact ⟨fun j hj => by funext e; rw [uM_ne hj, uM_ne hj], fun e e14 e15 => by rw [uM_nei e14, uM_nei e15], Or.inr ⟨by rw [uM_nei (by omega), uM_eq], uM_eq _ _ _ _, q⟩⟩
  · rw [if_neg q]
    exact ⟨fun _ _ => rfl, fun _ _ _ => rfl, Or.inl ⟨rfl, rfl, by omega, by omega⟩⟩
theorem nt_val {f p : Int} : (ntM M a f p a 6 = M a 6 ∧ ntM M a f p a 7 = M a 7 ∧ M a 6 ≠ 0 ∧ (M a 7 < p ∨ M a 7 = p ∧ M a 6 ≤ f) ∨ ntM M a f p a 6 = f ∧ ntM M a f p a 7 = p ∧ (M a 6 = 0 ∨ p < M a 7 ∨ p = M a 7 ∧ f < M a 6)) := by
  unfold ntM
  by_cases q : M a 6 = 0 ∨ p < M a 7 ∨ (p = M a 7 ∧ f < M a 6)
  · rw [if_pos q]
    exact Or.inr ⟨by rw [uM_nei (by omega), uM_eq], uM_eq _ _ _ _, q⟩
  · rw [if_neg q]
    exact Or.inl ⟨rfl, rfl, by omega, by omega⟩
/-- the class's walk over the first places -/
theorem y_strange {f0 p0 : Int} {V : Int → Int} (hV : ∀ u, 0 ≤ u → u < 12 → -1 ≤ V u ∧ V u ≤ 650) (hP : 0 ≤ P) : ∀ (n : Nat) (u : Int) (M : ZM) (K : Nat), 12 - u ≤ n → P ≤ u → u ≤ 700 → n < K → (∀ t, 0 ≤ t → t < 12 → M (a + 10) t = V t) → (0 ≤ M a 6 ∧ M a 6 ≤ 5) → (-1 ≤ M a 7 ∧ M a 7 ≤ 700) → Lst f0 p0 (fun s => ∃ t, P ≤ t ∧ t < u ∧ t < 12 ∧ V t = s ∧ s ≠ -1) (M a 6) (M a 7) → ∃ M1, fixN (fun _ _ _ => none) (pb_X6_noteStrangeNeeds_5 F pb a) K (zt u) (LI M) lg = some (LI M1, lg) ∧ Lst f0 p0 (fun s => ∃ t, P ≤ t ∧ t < 12 ∧ V t = s ∧ s ≠ -1) (M1 a 6) (M1 a 7) ∧ (0 ≤ M1 a 6 ∧ M1 a 6 ≤ 5) ∧ (-1 ≤ M1 a 7 ∧ M1 a 7 ≤ 700) ∧ (∀ j, j ≠ a → M1 j = M j) ∧ ∀ e, e ≠ 6 → e ≠ 7 → M1 a e = M a e := by
  intro n
  induction n with
  | zero =>
    intro u M K h1 h2 h2' hK hM h6 h7 hL
    obtain ⟨g, rfl⟩ : ∃ g, K = g + 1 := ⟨K - 1, by omega⟩
    rw [fix_succ]
    refine ⟨M, ?_, ?_, h6, h7, fun _ _ => rfl, fun _ _ _ => rfl⟩
    · unfold pb_X6_noteStrangeNeeds_5
      rw [show (12 : Int32) = zt 12 from rfl, if_pos (zle_pos (by omega) (by omega) (by omega))]
    · have e : (fun s => ∃ t, P ≤ t ∧ t < u ∧ t < 12 ∧ V t = s ∧ s ≠ -1) = (fun s => ∃ t, P ≤ t ∧ t < 12 ∧ V t = s ∧ s ≠ -1) := by
        funext s
        exact propext ⟨fun ⟨t, a1, a2, a3, a4⟩ => ⟨t, a1, a3, a4⟩, fun ⟨t, a1, a3, a4⟩ => ⟨t, a1, by omega, a3, a4⟩⟩
      rw [← e]; exact hL
  | succ n ih =>
    intro u M K h1 h2 h2' hK hM h6 h7 hL
    obtain ⟨g, rfl⟩ : ∃ g, K = g + 1 := ⟨K - 1, by omega⟩
    rw [fix_succ]
    by_cases q : 12 ≤ u
    · refine ⟨M, ?_, ?_, h6, h7, fun _ _ => rfl, fun _ _ _ => rfl⟩
      · unfold pb_X6_noteStrangeNeeds_5
        rw [show (12 : Int32) = zt 12 from rfl, if_pos (zle_pos (by omega) (by omega) (by omega))]
      · have e : (fun s => ∃ t, P ≤ t ∧ t < u ∧ t < 12 ∧ V t = s ∧ s ≠ -1) = (fun s => ∃ t, P ≤ t ∧ t < 12 ∧ V t = s ∧ s ≠ -1) := by
          funext s
          exact propext ⟨fun ⟨t, a1, a2, a3, a4⟩ => ⟨t, a1, a3, a4⟩, fun ⟨t, a1, a3, a4⟩ => ⟨t, a1, by omega, a3, a4⟩⟩
        rw [← e]; exact hL
    · have hv := hV u (by omega) (by omega)
      have hMu := hM u (by omega) (by omega)
      by_cases q1 : V u = -1
      · have e : (fun s => ∃ t, P ≤ t ∧ t < u + 1 ∧ t < 12 ∧ V t = s ∧ s ≠ -1) = (fun s => ∃ t, P ≤ t ∧ t < u ∧ t < 12 ∧ V t = s ∧ s ≠ -1) := by
          funext s
          refine propext ⟨fun ⟨t, a1, a2, a3, a4, a5⟩ => ⟨t, a1, ?_, a3, a4, a5⟩, fun ⟨t, a1, a2, a3, a4⟩ => ⟨t, a1, by omega, a3, a4⟩⟩
          apply Classical.byContradiction
          intro h
          have : t = u := by omega
          rw [this] at a4
          omega
        obtain ⟨M1, a1, a2⟩ := ih (u + 1) M g (by omega) (by omega) (by omega) (by omega) hM h6 h7 (by rw [e]; exact hL)
        refine ⟨M1, ?_, a2⟩
        rw [← a1]
        generalize fixN (fun _ _ _ => none) (pb_X6_noteStrangeNeeds_5 F pb a) g = rr
        unfold pb_X6_noteStrangeNeeds_5
        rw [show (12 : Int32) = zt 12 from rfl, if_neg (zle_neg (by omega) (by omega) (by omega)), mI_z (by omega) (by omega) (by omega), ob_z, hMu, if_pos (by rw [q1]; rfl), show (1 : Int32) = zt 1 from rfl, zt_add]
      · have nv := nt_val (M := M) (a := a) (f := 5) (p := V u)
        obtain ⟨M1, a1, a2, a3, a4, a5, a6⟩ := ih (u + 1) (ntM M a 5 (V u)) g (by omega) (by omega) (by omega) (by omega) (fun t t0 t1 => by rw [nt_row (by omega)]; exact hM t t0 t1) (by omega) (by omega) (hL.step (s := V u) (fun x => ⟨fun ⟨t, b1, b2, b3, b4, b5⟩ => (by
            by_cases qt : t = u
            · right; rw [← b4, qt]
            · left; exact ⟨t, b1, by omega, b3, b4, b5⟩), fun h => (by
            rcases h with ⟨t, b1, b2, b3, b4, b5⟩ | h
            · exact ⟨t, b1, by omega, b3, b4, b5⟩
            · exact ⟨u, by omega, by omega, by omega, h.symm, by omega⟩)⟩) (by
            rcases nv with ⟨c1, c2, c3, c4⟩ | ⟨c1, c2, c3⟩
            · exact Or.inl ⟨c1, c2, c3, c4⟩
            · exact Or.inr ⟨c1, c2, c3⟩))
        refine ⟨M1, ?_, a2, a3, a4, fun j hj => by rw [a5 j hj, nt_row hj], fun e e6 e7 => by rw [a6 e e6 e7, nt_cell e6 e7]⟩
        rw [← a1]
        generalize fixN (fun _ _ _ => none) (pb_X6_noteStrangeNeeds_5 F pb a) g = rr
        unfold pb_X6_noteStrangeNeeds_5
        rw [show (12 : Int32) = zt 12 from rfl, if_neg (zle_neg (by omega) (by omega) (by omega)), mI_z (by omega) (by omega) (by omega), ob_z, hMu, if_neg (by rw [show (-1 : Int32) = zt (-1) from rfl, zt_eq (by omega) (by omega) (by omega) (by omega)]; exact q1), ob_z, show (5 : Int32) = zt 5 from rfl, y_note h6 h7 (by omega) (by omega), hcU_z, show (1 : Int32) = zt 1 from rfl, zt_add]
/-- the reference's walk over its list -/
theorem x_strange {f0 p0 c nm : Int} (hc : 0 ≤ c ∧ c ≤ 12) (hnm : 0 ≤ nm ∧ nm ≤ 300) {X Y : Int → Int} (hX : ∀ j, 0 ≤ j → j < nm → (0 ≤ X j ∧ X j ≤ 650) ∧ 0 ≤ Y j ∧ Y j ≤ 999) : ∀ (n : Nat) (i : Int) (R : ZM) (K : Nat), nm - i ≤ n → 0 ≤ i → i ≤ 300 → n < K → R 0 19 = nm → R 5 0 = c → R 6 = X → R 7 = Y → (0 ≤ R 0 15 ∧ R 0 15 ≤ 5) → (-1 ≤ R 0 14 ∧ R 0 14 ≤ 700) → Lst f0 p0 (fun s => ∃ j, 0 ≤ j ∧ j < i ∧ j < nm ∧ c ≤ Y j ∧ Y j < 12 ∧ X j = s) (R 0 15) (R 0 14) → ∃ R1, fixN (fun _ _ _ => none) (pb_X11_read_95 F (zt v1)) K (zt i) (LI R) w = pk_X11_read_146 F (zt v1) (LI R1) w ∧ Lst f0 p0 (fun s => ∃ j, 0 ≤ j ∧ j < nm ∧ c ≤ Y j ∧ Y j < 12 ∧ X j = s) (R1 0 15) (R1 0 14) ∧ (0 ≤ R1 0 15 ∧ R1 0 15 ≤ 5) ∧ (-1 ≤ R1 0 14 ∧ R1 0 14 ≤ 700) ∧ (∀ j, j ≠ 0 → R1 j = R j) ∧ ∀ e, e ≠ 14 → e ≠ 15 → R1 0 e = R 0 e := by
  intro n
  have stop : ∀ (i : Int) (R : ZM), nm ≤ i → Lst f0 p0 (fun s => ∃ j, 0 ≤ j ∧ j < i ∧ j < nm ∧ c ≤ Y j ∧ Y j < 12 ∧ X j = s) (R 0 15) (R 0 14) → Lst f0 p0 (fun s => ∃ j, 0 ≤ j ∧ j < nm ∧ c ≤ Y j ∧ Y j < 12 ∧ X j = s) (R 0 15) (R 0 14) := by
    intro i R h hL
    have e : (fun s => ∃ j, 0 ≤ j ∧ j < i ∧ j < nm ∧ c ≤ Y j ∧ Y j < 12 ∧ X j = s) = (fun s => ∃ j, 0 ≤ j ∧ j < nm ∧ c ≤ Y j ∧ Y j < 12 ∧ X j = s) := by
      funext s
      exact propext ⟨fun ⟨t, a1, a2, a3, a4⟩ => ⟨t, a1, a3, a4⟩, fun ⟨t, a1, a3, a4⟩ => ⟨t, a1, by omega, a3, a4⟩⟩
    rw [← e]; exact hL
  induction n with
  | zero =>
    intro i R K h1 h2 h2' hK h19 h5 h6 h7 hf hp hL
    obtain ⟨g, rfl⟩ : ∃ g, K = g + 1 := ⟨K - 1, by omega⟩
    rw [fix_succ]
    refine ⟨R, ?_, stop i R (by omega) hL, hf, hp, fun _ _ => rfl, fun _ _ _ => rfl⟩
    unfold pb_X11_read_95
    rw [LI_19, h19, if_pos (zle_pos (by omega) (by omega) (by omega))]
  | succ n ih =>
    intro i R K h1 h2 h2' hK h19 h5 h6 h7 hf hp hL
    obtain ⟨g, rfl⟩ : ∃ g, K = g + 1 := ⟨K - 1, by omega⟩
    rw [fix_succ]
    by_cases q : nm ≤ i
    · refine ⟨R, ?_, stop i R q hL, hf, hp, fun _ _ => rfl, fun _ _ _ => rfl⟩
      unfold pb_X11_read_95
      rw [LI_19, h19, if_pos (zle_pos (by omega) (by omega) (by omega))]
    · have hx := hX i h2 (by omega)
      by_cases q1 : c ≤ Y i ∧ Y i < 12
      · obtain ⟨n1, n2, nv⟩ := ntR_fr (R := R) (f := 5) (p := X i)
        obtain ⟨R1, a1, a2, a3, a4, a5, a6⟩ := ih (i + 1) (ntR R 5 (X i)) g (by omega) (by omega) (by omega) (by omega) (by rw [n2 19 (by omega) (by omega)]; exact h19) (by rw [n1 5 (by omega)]; exact h5) (by rw [n1 6 (by omega)]; exact h6) (by rw [n1 7 (by omega)]; exact h7) (by omega) (by omega) (hL.step (s := X i) (fun x => ⟨fun ⟨t, b1, b2, b3, b4, b5, b6⟩ => (by
            by_cases qt : t = i
            · right; rw [← b6, qt]
            · left; exact ⟨t, b1, by omega, b3, b4, b5, b6⟩), fun h => (by
            rcases h with ⟨t, b1, b2, b3, b4, b5, b6⟩ | h
            · exact ⟨t, b1, by omega, b3, b4, b5, b6⟩
            · exact ⟨i, by omega, by omega, by omega, q1.1, q1.2, h.symm⟩)⟩) (by
            rcases nv with ⟨c1, c2, c3, c4⟩ | ⟨c1, c2, c3⟩
            · exact Or.inl ⟨c1, c2, c3, c4⟩
            · exact Or.inr ⟨c1, c2, c3⟩))
        refine ⟨R1, ?_, a2, a3, a4, fun j hj => by rw [a5 j hj, n1 j hj], fun e e14 e15 => by rw [a6 e e14 e15, n2 e e14 e15]⟩
        rw [← a1]
        generalize fixN (fun _ _ _ => none) (pb_X11_read_95 F (zt v1)) g = rr
        unfold pb_X11_read_95
        rw [LI_19, h19, if_neg (zle_neg (by omega) (by omega) (by omega)), mI_z (by omega) (by omega) (by omega), ob_z, h7, show (12 : Int32) = zt 12 from rfl, if_neg (zle_neg (by omega) (by omega) (by omega)), ob_z, show (0 : Int32) = zt 0 from rfl, mI_z (by omega) (by omega) (by omega), ob_z, h5, if_neg (by rw [zt_lt (by omega) (by omega) (by omega) (by omega)]; omega), mI_z (by omega) (by omega) (by omega), ob_z, h6, show (5 : Int32) = zt 5 from rfl, x_isBad hf hp (by omega) (by omega), pcU_z, show (1 : Int32) = zt 1 from rfl, zt_add]
      · have e : (fun s => ∃ j, 0 ≤ j ∧ j < i + 1 ∧ j < nm ∧ c ≤ Y j ∧ Y j < 12 ∧ X j = s) = (fun s => ∃ j, 0 ≤ j ∧ j < i ∧ j < nm ∧ c ≤ Y j ∧ Y j < 12 ∧ X j = s) := by
          funext s
          refine propext ⟨fun ⟨t, a1, a2, a3, a4, a5, a6⟩ => ⟨t, a1, ?_, a3, a4, a5, a6⟩, fun ⟨t, a1, a2, a3, a4⟩ => ⟨t, a1, by omega, a3, a4⟩⟩
          apply Classical.byContradiction
          intro h
          have : t = i := by omega
          rw [this] at a4 a5
          exact q1 ⟨a4, a5⟩
        obtain ⟨R1, a1, a2⟩ := ih (i + 1) R g (by omega) (by omega) (by omega) (by omega) h19 h5 h6 h7 hf hp (by rw [e]; exact hL)
        refine ⟨R1, ?_, a2⟩
        rw [← a1]
        generalize fixN (fun _ _ _ => none) (pb_X11_read_95 F (zt v1)) g = rr
        unfold pb_X11_read_95
        rw [LI_19, h19, if_neg (zle_neg (by omega) (by omega) (by omega)), mI_z (by omega) (by omega) (by omega), ob_z, h7, show (12 : Int32) = zt 12 from rfl, show (1 : Int32) = zt 1 from rfl, zt_add]
        by_cases q2 : 12 ≤ Y i
        · rw [if_pos (zle_pos (by omega) (by omega) (by omega))]
        · rw [if_neg (zle_neg (by omega) (by omega) (by omega)), ob_z, show (0 : Int32) = zt 0 from rfl, mI_z (by omega) (by omega) (by omega), ob_z, h5, if_pos (by rw [zt_lt (by omega) (by omega) (by omega) (by omega)]; omega)]
/-- the same walk, whatever it finds -/
theorem x_walk {nm : Int} (hnm : 0 ≤ nm ∧ nm ≤ 300) : ∀ (n : Nat) (i : Int) (R : ZM) (K : Nat), nm - i ≤ n → 0 ≤ i → i ≤ 300 → n < K → R 0 19 = nm → ∃ R1, fixN (fun _ _ _ => none) (pb_X11_read_95 F (zt v1)) K (zt i) (LI R) w = pk_X11_read_146 F (zt v1) (LI R1) w ∧ (∀ j, j ≠ 0 → R1 j = R j) ∧ ∀ e, e ≠ 14 → e ≠ 15 → R1 0 e = R 0 e := by
  have bad : ∀ (R : ZM) (p : Int), ∃ R1, p_X11_isBad F (5 : Int32) (zt p) (LI R) w = some (LI R1, w) ∧ (∀ j, j ≠ 0 → R1 j = R j) ∧ ∀ e, e ≠ 14 → e ≠ 15 → R1 0 e = R 0 e := by
    intro R p
    have kR : pk_X11_isBad_31 F (5 : Int32) (zt p) (LI R) w = some (LI (uM (uM R 0 15 5) 0 14 p), w) := by
      unfold pk_X11_isBad_31
      rw [show up2 (LI R) 0 15 (5 : Int32) = LI (uM R 0 15 5) from up2_z R 0 15 5, gnm_z, show up2 (LI (uM R 0 15 5)) 0 14 (zt p) = LI (uM (uM R 0 15 5) 0 14 p) from up2_z _ 0 14 p, gnm_z]
    have y : ∃ R1, (some (LI (uM (uM R 0 15 5) 0 14 p), w) : Option ((Nat → Nat → Int32) × Int64)) = some (LI R1, w) ∧ (∀ j, j ≠ 0 → R1 j = R j) ∧ ∀ e, e ≠ 14 → e ≠ 15 → R1 0 e = R 0 e := ⟨_, rfl, fun j hj => by funext e; rw [uM_ne hj, uM_ne hj], fun e e14 e15 => by rw [uM_nei e14, uM_nei e15]⟩
    have z : ∃ R1, (some (LI R, w) : Option ((Nat → Nat → Int32) × Int64)) = some (LI R1, w) ∧ (∀ j, j ≠ 0 → R1 j = R j) ∧ ∀ e, e ≠ 14 → e ≠ 15 → R1 0 e = R 0 e := ⟨R, rfl, fun _ _ => rfl, fun _ _ _ => rfl⟩
    unfold p_X11_isBad
    rw [kR]
    split
    · exact y
    · split
      · exact y
      · split
        · split
          · exact z
          · exact y
        · exact z
  intro n
  induction n with
  | zero =>
    intro i R K h1 h2 h2' hK h19
    obtain ⟨g, rfl⟩ : ∃ g, K = g + 1 := ⟨K - 1, by omega⟩
    rw [fix_succ]
    refine ⟨R, ?_, fun _ _ => rfl, fun _ _ _ => rfl⟩
    unfold pb_X11_read_95
    rw [LI_19, h19, if_pos (zle_pos (by omega) (by omega) (by omega))]
  | succ n ih =>
    intro i R K h1 h2 h2' hK h19
    obtain ⟨g, rfl⟩ : ∃ g, K = g + 1 := ⟨K - 1, by omega⟩
    rw [fix_succ]
    by_cases q : nm ≤ i
    · refine ⟨R, ?_, fun _ _ => rfl, fun _ _ _ => rfl⟩
      unfold pb_X11_read_95
      rw [LI_19, h19, if_pos (zle_pos (by omega) (by omega) (by omega))]
    · obtain ⟨R1, a1, a2, a3⟩ := ih (i + 1) R g (by omega) (by omega) (by omega) (by omega) h19
      obtain ⟨R2, b1, b2, b3⟩ := bad R (R 6 i)
      obtain ⟨R3, c1, c2, c3⟩ := ih (i + 1) R2 g (by omega) (by omega) (by omega) (by omega) (by rw [b3 19 (by omega) (by omega)]; exact h19)
      generalize fixN (fun _ _ _ => none) (pb_X11_read_95 F (zt v1)) g = rr at a1 c1 ⊢
      have y : ∃ R1, rr (zt (i + 1)) (LI R) w = pk_X11_read_146 F (zt v1) (LI R1) w ∧ (∀ j, j ≠ 0 → R1 j = R j) ∧ ∀ e, e ≠ 14 → e ≠ 15 → R1 0 e = R 0 e := ⟨R1, a1, a2, a3⟩
      unfold pb_X11_read_95
      rw [LI_19, h19, if_neg (zle_neg (by omega) (by omega) (by omega)), mI_z (by omega) (by omega) (by omega), ob_z, show (1 : Int32) = zt 1 from rfl, zt_add]
      split
      · exact y
      · rw [ob_z, show (0 : Int32) = zt 0 from rfl, mI_z (by omega) (by omega) (by omega), ob_z]
        split
        · exact y
        · rw [mI_z (by omega) (by omega) (by omega), ob_z, b1, pcU_z]
          exact ⟨R3, c1, fun j hj => by rw [c2 j hj, b2 j hj], fun e e14 e15 => by rw [c3 e e14 e15, b3 e e14 e15]⟩
end RD8
