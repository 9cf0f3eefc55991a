/-! A need told, and its like: both readers write alike. -/
section RD2
variable {F : Nat} {lg : Nat → Nat → Int64} {M0 R0 M R : ZM} {w : Int64} {a pb : Nat} {T : Int → Int} {N r m P : Int}
theorem tkc {c : Int} (hN : N ≤ 600) (ht : Tk M R w a T N r) (hc : 0 ≤ c ∧ c ≤ 5) : (LI M (a + 11) 2 = zt c) = (tkK T N r = c) := by
  have := (tk_rng (T := T) ht.2.2 hN).2.2.2.1
  rw [LI_2, ht.1.2.1]
  exact zt_eq (by omega) (by omega) (by omega) (by omega)
theorem tkr3 (ht : Tk M R w a T N r) : (LI R 0 9 = (3 : Int32)) = (tkK T N r = 2) := by
  have := srt_rng (T := T) (N := N) (r := r)
  rw [LI_9, ht.2.1.2.2.2.1, show (3 : Int32) = zt 3 from rfl, zt_eq (by omega) (by omega) (by omega) (by omega)]
  exact propext srt_3
theorem tkr0 (ht : Tk M R w a T N r) : (LI R 0 9 = (0 : Int32)) = (tkK T N r = 0) := by
  have := srt_rng (T := T) (N := N) (r := r)
  rw [LI_9, ht.2.1.2.2.2.1, show (0 : Int32) = zt 0 from rfl, zt_eq (by omega) (by omega) (by omega) (by omega)]
  exact propext srt_0
theorem Tk.set {M1 R1 : ZM} (h : Tk M R w a T N r) (hM : M1 (a + 11) = M (a + 11)) (hR : ∀ e, 6 ≤ e → e ≤ 11 → R1 0 e = R 0 e) : Tk M1 R1 w a T N r := by
  obtain ⟨h1, h2, h3⟩ := h
  refine ⟨?_, ?_, h3⟩
  · unfold TokC
    rw [hM]
    exact h1
  · unfold TokR
    rw [hR 7 (by omega) (by omega), hR 8 (by omega) (by omega), hR 6 (by omega) (by omega), hR 9 (by omega) (by omega), hR 10 (by omega) (by omega), hR 11 (by omega) (by omega)]
    exact h2
/-- a write that touches no token, no fault and no need -/
theorem QC.set {M1 R1 : ZM} (h : QC M0 R0 a T N M R w r m) (hM : ∀ j, (j < a ∨ a + 9 < j) → M1 j = M j) (hf : M1 a 6 = M a 6 ∧ M1 a 7 = M a 7) (hR : ∀ j, j ≠ 0 → j ≠ 5 → j ≠ 8 → R1 j = R j) (hR0 : ∀ e, e ≠ 13 → R1 0 e = R 0 e) (h6 : ∀ i, 0 ≤ i → i < 12 → 0 ≤ M1 (a + 1 + 6) i ∧ M1 (a + 1 + 6) i ≤ 4) (h5 : ∀ e, 133 ≤ e → e < 891 → R1 5 e = 0) : QC M0 R0 a T N M1 R1 w r m := by
  obtain ⟨k1, k2, k3, k4, k5, k6, k7⟩ := h
  refine ⟨fun j hj => by rw [hM j (by omega)]; exact k1 j hj, ⟨fun j g0 g5 g6 g7 g8 => by rw [hR j g0 g5 g8]; exact k2.1 j g0 g5 g6 g7 g8, fun e e6 e8 e9 e10 e11 e13 e14 e15 e19 => by rw [hR0 e e13]; exact k2.2 e e6 e8 e9 e10 e11 e13 e14 e15 e19⟩, k3.set (hM _ (by omega)) (fun e _ _ => hR0 e (by omega)), ?_, k5.fr (hM _ (by omega)) (hR _ (by omega) (by omega) (by omega)) (hR _ (by omega) (by omega) (by omega)) (hR0 _ (by omega)) (Int.le_refl _), h6, h5⟩
  unfold Ft
  rw [hf.1, hf.2, hR0 15 (by omega), hR0 14 (by omega)]
  exact k4
/-- a write into the part at hand -/
theorem Q2.piece {M1 R1 : ZM} (h : Q2 M0 R0 a T N M R w r m P) (hM : ∀ j, (j < a ∨ j = a + 1 ∨ a + 9 < j) → M1 j = M j) (hA : ∀ e, e ≠ 5 → M1 a e = M a e) (hi : ∀ (d : Nat) (i : Int), 1 ≤ d → d ≤ 7 → i ≠ M a 4 → M1 (a + 1 + d) i = M (a + 1 + d) i) (h8 : ∀ e, (e < 4 * M a 4 ∨ 4 * M a 4 + 4 ≤ e) → M1 (a + 1 + 8) e = M (a + 1 + 8) e) (hR : ∀ j, j ≠ 8 → R1 j = R j) (h5 : 0 ≤ M1 a 5 ∧ M1 a 5 ≤ R 0 19) (h2 : M1 a 5 ≤ 4 ∧ R1 8 2 = M1 a 5 ∨ 4 < M1 a 5 ∧ R1 8 2 = 4) (h6 : 0 ≤ M1 (a + 1 + 6) (M a 4) ∧ M1 (a + 1 + 6) (M a 4) ≤ 4) (hc : M a 6 = 0 → P < 12 → M a 4 = P → CuE M (a + 1) (R 8) P → wfZ R (R 8) → CuE M1 (a + 1) (R1 8) P ∧ wfZ R (R1 8)) : Q2 M0 R0 a T N M1 R1 w r m P := by
  obtain ⟨k1, k2, k3, k4, k5, k6, k7⟩ := h
  refine ⟨k1.set (fun j hj => hM j (by omega)) ⟨hA _ (by omega), hA _ (by omega)⟩ (fun j _ _ g => hR j g) (fun e _ => by rw [hR 0 (by omega)]) ?_ ?_, ?_, ?_, ?_, ?_, h2, ?_⟩
  · intro i i0 i1
    by_cases q : i = M a 4
    · rw [q]; exact h6
    · rw [hi 6 i (by omega) (by omega) q]
      exact k1.2.2.2.2.2.1 i i0 i1
  · rw [hR 5 (by omega)]; exact k1.2.2.2.2.2.2
  · rw [hA 3 (by omega)]; exact k2
  · rw [hR 5 (by omega)]; exact k3
  · rw [hA 4 (by omega)]; exact k4
  · rw [hR 0 (by omega)]; exact h5
  · rw [hA 6 (by omega)]
    intro g
    obtain ⟨g1, ⟨g2, g3, g4⟩, g5, g6⟩ := k7 g
    have e4 : M a 4 = P := by omega
    obtain ⟨c1, c2⟩ := hc g g1 e4 g5 g6
    refine ⟨g1, ⟨?_, fun i i0 i1 => ?_, fun i d d1 d2 d3 d4 => ?_⟩, c1, c2.fr (hR 7 (by omega)) (by rw [hR 0 (by omega)])⟩
    · rw [hR 0 (by omega), hR 7 (by omega)]; exact g2
    · rw [hR 5 (by omega)]
      obtain ⟨⟨z1, z2, z3, z4, z5, z6, z7, z8⟩, z9⟩ := g3 i i0 i1
      have hn := z9.2.1
      refine ⟨⟨?_, ?_, ?_, ?_, ?_, ?_, ?_, fun k k0 k1 => ?_⟩, z9.fr (hR 7 (by omega)) (by rw [hR 0 (by omega)])⟩
      · rw [hi 1 i (by omega) (by omega) (by omega)]; exact z1
      · rw [hi 2 i (by omega) (by omega) (by omega)]; exact z2
      · rw [hi 3 i (by omega) (by omega) (by omega)]; exact z3
      · rw [hi 4 i (by omega) (by omega) (by omega)]; exact z4
      · rw [hi 5 i (by omega) (by omega) (by omega)]; exact z5
      · rw [hi 6 i (by omega) (by omega) (by omega)]; exact z6
      · rw [hi 7 i (by omega) (by omega) (by omega)]; exact z7
      · rw [h8 _ (by simp only at k1 hn; omega)]
        exact z8 k k0 k1
    · rw [hi d i d3 d4 (by omega)]
      exact g4 i d d1 d2 d3 d4
def orC (x c : Int) : Int := (zt x ||| ((1 : Int32) <<< (zt c &&& 31))).toInt
theorem orC_z (x c : Int) : zt x ||| ((1 : Int32) <<< (zt c &&& 31)) = zt (orC x c) := (Int32.ofInt_toInt _).symm
theorem orC_r : ∀ x : Nat, x < 16 → ∀ c : Nat, c < 4 → 0 ≤ orC x c ∧ orC x c < 16 := by decide +kernel
theorem orC_rng {x c : Int} (hx : 0 ≤ x ∧ x < 16) (hc : 0 ≤ c ∧ c < 4) : 0 ≤ orC x c ∧ orC x c < 16 := by
  have := orC_r x.toNat (by omega) c.toNat (by omega)
  rw [show ((x.toNat : Nat) : Int) = x by omega, show ((c.toNat : Nat) : Int) = c by omega] at this
  exact this
/-- the need enters the list -/
theorem Q2.push {v : Int} (hN : N ≤ 600) (h : Q2 M0 R0 a T N M R w r (mpo T N r) P) (hk : tkK T N r = 2) (hv : 0 ≤ v ∧ v ≤ 999) (hf : v < 12 ∨ M a 6 ≠ 0) : ∃ M1, (v < 12 → (M (a + 10) v = -1 → M1 = uM M (a + 10) v (tkB T N r)) ∧ (M (a + 10) v ≠ -1 → M1 = M)) ∧ (12 ≤ v → M1 = M) ∧ Q2 M0 R0 a T N M1 (uM (uM (uM R 6 (R 0 19) (tkB T N r)) 7 (R 0 19) v) 0 19 (R 0 19 + 1)) w r (mpo T N r + 2) P ∧ M1 a = M a := by
  obtain ⟨⟨k1, k2, k3, k4, ⟨n1, n2, n3⟩, k6, k7⟩, h2, h3, h4, h5, h6, h7⟩ := h
  have hm := (mpo_le (T := T) k3.2.2 hN).2 hk
  have hrg := tk_rng (T := T) k3.2.2 hN
  have key : ∀ M1 : ZM, (∀ j, j ≠ a + 10 → M1 j = M j) → (∀ u, 0 ≤ u → u < 12 → u ≠ v → M1 (a + 10) u = M (a + 10) u) → (v < 12 → 0 ≤ M1 (a + 10) v ∧ (M (a + 10) v = -1 ∧ M1 (a + 10) v = tkB T N r ∨ M (a + 10) v ≠ -1 ∧ M1 (a + 10) v = M (a + 10) v)) → Q2 M0 R0 a T N M1 (uM (uM (uM R 6 (R 0 19) (tkB T N r)) 7 (R 0 19) v) 0 19 (R 0 19 + 1)) w r (mpo T N r + 2) P := by
    intro M1 e1 e2 e3
    have r0 : ∀ e, e ≠ 19 → uM (uM (uM R 6 (R 0 19) (tkB T N r)) 7 (R 0 19) v) 0 19 (R 0 19 + 1) 0 e = R 0 e := fun e g => by rw [uM_nei g, uM_ne (by omega), uM_ne (by omega)]
    have r19 : uM (uM (uM R 6 (R 0 19) (tkB T N r)) 7 (R 0 19) v) 0 19 (R 0 19 + 1) 0 19 = R 0 19 + 1 := uM_eq _ _ _ _
    have r6 : ∀ e, e ≠ R 0 19 → uM (uM (uM R 6 (R 0 19) (tkB T N r)) 7 (R 0 19) v) 0 19 (R 0 19 + 1) 6 e = R 6 e := fun e g => by rw [uM_ne (by omega), uM_ne (by omega), uM_nei g]
    have r6n : uM (uM (uM R 6 (R 0 19) (tkB T N r)) 7 (R 0 19) v) 0 19 (R 0 19 + 1) 6 (R 0 19) = tkB T N r := by rw [uM_ne (by omega), uM_ne (by omega), uM_eq]
    have r7 : ∀ e, e ≠ R 0 19 → uM (uM (uM R 6 (R 0 19) (tkB T N r)) 7 (R 0 19) v) 0 19 (R 0 19 + 1) 7 e = R 7 e := fun e g => by rw [uM_ne (by omega), uM_nei g, uM_ne (by omega)]
    have r7n : uM (uM (uM R 6 (R 0 19) (tkB T N r)) 7 (R 0 19) v) 0 19 (R 0 19 + 1) 7 (R 0 19) = v := by rw [uM_ne (by omega), uM_eq]
    have rj : ∀ j, j ≠ 0 → j ≠ 6 → j ≠ 7 → uM (uM (uM R 6 (R 0 19) (tkB T N r)) 7 (R 0 19) v) 0 19 (R 0 19 + 1) j = R j := fun j g0 g6 g7 => by funext e; rw [uM_ne g0, uM_ne g7, uM_ne g6]
    generalize uM (uM (uM R 6 (R 0 19) (tkB T N r)) 7 (R 0 19) v) 0 19 (R 0 19 + 1) = R1 at r0 r19 r6 r6n r7 r7n rj ⊢
    have wz : ∀ Z, wfZ R Z → wfZ R1 Z := fun Z hz => ⟨hz.1, hz.2.1, fun k a0 a1 => (by
      obtain ⟨j, j0, j1, j2⟩ := hz.2.2.1 k a0 a1
      exact ⟨j, j0, by omega, by rw [r7 j (by omega)]; exact j2⟩), hz.2.2.2⟩
    refine ⟨⟨fun j hj => by rw [e1 j (by omega)]; exact k1 j hj, ⟨fun j g0 g5 g6 g7 g8 => by rw [rj j g0 g6 g7]; exact k2.1 j g0 g5 g6 g7 g8, fun e e6 e8 e9 e10 e11 e13 e14 e15 e19 => by rw [r0 e e19]; exact k2.2 e e6 e8 e9 e10 e11 e13 e14 e15 e19⟩, k3.set (e1 _ (by omega)) (fun e _ _ => r0 e (by omega)), ?_, ⟨by rw [r19]; omega, fun j j0 j1 => ?_, fun u u0 u1 => ?_⟩, ?_, ?_⟩, ?_, ?_, ?_, ?_, ?_, ?_⟩
    · unfold Ft
      rw [e1 a (by omega), r0 15 (by omega), r0 14 (by omega)]
      exact k4
    · rw [r19] at j1
      by_cases q : j = R 0 19
      · rw [q, r6n, r7n]; omega
      · rw [r6 j q, r7 j q]
        have := n2 j j0 (by omega)
        omega
    · rw [r19]
      by_cases q : u = v
      · subst q
        obtain ⟨g1, g2⟩ := e3 u1
        refine Or.inr ⟨g1, ?_⟩
        rcases g2 with ⟨g2, g3⟩ | ⟨g2, g3⟩
        · rcases n3 u u0 u1 with ⟨-, n5⟩ | ⟨n4, -⟩
          · refine ⟨⟨R 0 19, by omega, by omega, r7n, by rw [r6n, g3]⟩, fun j j0 j1 j2 => ?_⟩
            by_cases qj : j = R 0 19
            · rw [qj, r6n, g3]; exact Int.le_refl _
            · rw [r7 j qj] at j2
              exact absurd j2 (n5 j j0 (by omega))
          · omega
        · rcases n3 u u0 u1 with ⟨n4, -⟩ | ⟨n4, ⟨j0, p0, p1, p2, p3⟩, n6⟩
          · exact absurd n4 g2
          · refine ⟨⟨j0, p0, by omega, by rw [r7 j0 (by omega)]; exact p2, by rw [r6 j0 (by omega), g3]; exact p3⟩, fun j s0 s1 s2 => ?_⟩
            by_cases qj : j = R 0 19
            · rw [qj, r6n, g3]
              have := n2 j0 p0 p1
              omega
            · rw [r6 j qj, g3]
              rw [r7 j qj] at s2
              exact n6 j s0 (by omega) s2
      · rw [e2 u u0 u1 q]
        rcases n3 u u0 u1 with ⟨n4, n5⟩ | ⟨n4, ⟨j0, p0, p1, p2, p3⟩, n6⟩
        · refine Or.inl ⟨n4, fun j s0 s1 => ?_⟩
          by_cases qj : j = R 0 19
          · rw [qj, r7n]; omega
          · rw [r7 j qj]; exact n5 j s0 (by omega)
        · refine Or.inr ⟨n4, ⟨j0, p0, by omega, by rw [r7 j0 (by omega)]; exact p2, by rw [r6 j0 (by omega)]; exact p3⟩, fun j s0 s1 s2 => ?_⟩
          by_cases qj : j = R 0 19
          · rw [qj, r7n] at s2; omega
          · rw [r6 j qj]
            rw [r7 j qj] at s2
            exact n6 j s0 (by omega) s2
    · rw [e1 _ (by omega)]; exact k6
    · rw [rj 5 (by omega) (by omega) (by omega)]; exact k7
    · rw [e1 a (by omega)]; exact h2
    · rw [rj 5 (by omega) (by omega) (by omega)]; exact h3
    · rw [e1 a (by omega)]; exact h4
    · rw [e1 a (by omega), r19]; omega
    · rw [e1 a (by omega), rj 8 (by omega) (by omega) (by omega)]; exact h6
    · rw [e1 a (by omega), rj 8 (by omega) (by omega) (by omega)]
      intro g
      obtain ⟨g1, ⟨g2, g3, g4⟩, g5, g6⟩ := h7 g
      refine ⟨g1, ⟨fun j j0 j1 => ?_, fun i i0 i1 => ?_, fun i d d1 d2 d3 d4 => ?_⟩, g5.fr (fun d _ _ => e1 _ (by omega)), wz _ g6⟩
      · rw [r19] at j1
        by_cases q : j = R 0 19
        · rw [q, r7n]; omega
        · rw [r7 j q]; exact g2 j j0 (by omega)
      · rw [rj 5 (by omega) (by omega) (by omega)]
        exact ⟨(g3 i i0 i1).1.fr (fun d _ _ => e1 _ (by omega)), wz _ (g3 i i0 i1).2⟩
      · rw [e1 _ (by omega)]; exact g4 i d d1 d2 d3 d4
  by_cases q : v < 12
  · by_cases q1 : M (a + 10) v = -1
    · refine ⟨uM M (a + 10) v (tkB T N r), fun _ => ⟨fun _ => rfl, fun g => absurd q1 g⟩, fun g => by omega, key _ (fun j hj => by funext e; exact uM_ne hj) (fun u _ _ g => uM_nei g) (fun _ => ?_), by funext e; exact uM_ne (by omega)⟩
      rw [uM_eq]
      exact ⟨by omega, Or.inl ⟨q1, rfl⟩⟩
    · refine ⟨M, fun _ => ⟨fun g => absurd g q1, fun _ => rfl⟩, fun g => by omega, key _ (fun _ _ => rfl) (fun _ _ _ _ => rfl) (fun _ => ?_), rfl⟩
      rcases n3 v hv.1 q with ⟨g, -⟩ | ⟨g, -⟩
      · exact absurd g q1
      · exact ⟨g, Or.inr ⟨q1, rfl⟩⟩
  · exact ⟨M, fun g => absurd g q, fun _ => rfl, key _ (fun _ _ => rfl) (fun _ _ _ _ => rfl) (fun g => absurd g q), rfl⟩
end RD2
