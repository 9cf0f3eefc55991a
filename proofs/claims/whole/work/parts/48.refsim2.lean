/-! The pile: gathering, then asking. -/
theorem x_gat {w : Int64} {F : Nat} {B : Int} {d : Nat} (hF : 100 < F) (hsim : FetSim F w B d) {n sn : Nat} {f : Int → Int} {p s turn : Int} {way : List Int} (hnd : n + 1 + d = 13) (hsn : sn ≤ 60) (hs : 0 ≤ s ∧ s ≤ 4) :
    ∀ (j : Nat) (k : Int) (h : Int → Int) (M : ZM) (G : Nat), PI B M (n + 1) sn f → seg (M 9) (n + 1) 0 = way → M 9 n = p → M 10 n = s → M 11 n = k → M 12 n = turn → (∀ i, 0 ≤ i → i < 4 → M 13 (4 * n + i) = h i) → M 1 (1 + 11 * p + 2) = k + j → 0 ≤ k → j < G →
    (0 ≤ (gatS (fun q C => fetS d way q s C) p j k h (M 1)).1 → ∃ (cnt : Nat) (M1 : ZM), (cnt : Int) ≤ j + 5 * ((gatS (fun q C => fetS d way q s C) p j k h (M 1)).2.2.2 206 - M 1 206) ∧ (∀ K, fixN (fun _ _ => none) (pb_X11_asks_72 F (lpA F (K + cnt)) (zt n)) G (LI M) w = pcI (p_X11_makes F (LI M1) w) (lpA F K)) ∧ M1 1 = (gatS (fun q C => fetS d way q s C) p j k h (M 1)).2.2.2 ∧ M1 0 26 = (n : Int) + 1 ∧ Sm M M1 n ∧ M1 9 n = p ∧ M1 10 n = s ∧ M1 12 n = turn ∧ ∀ i, 0 ≤ i → i < 4 → M1 13 (4 * n + i) = (gatS (fun q C => fetS d way q s C) p j k h (M 1)).2.2.1 i) ∧
    ((gatS (fun q C => fetS d way q s C) p j k h (M 1)).1 < 0 → ∃ (cnt : Nat) (M1 : ZM), (cnt : Int) ≤ j + 5 * ((gatS (fun q C => fetS d way q s C) p j k h (M 1)).2.2.2 206 - M 1 206) + 5 * d + 1 ∧ (∀ K, fixN (fun _ _ => none) (pb_X11_asks_72 F (lpA F (K + cnt)) (zt n)) G (LI M) w = some (zt (gatS (fun q C => fetS d way q s C) p j k h (M 1)).1, LI M1, w)) ∧ M1 1 = whyW (gatS (fun q C => fetS d way q s C) p j k h (M 1)).2.2.2 (gatS (fun q C => fetS d way q s C) p j k h (M 1)).1 (seg f sn 0 ++ (gatS (fun q C => fetS d way q s C) p j k h (M 1)).2.1) ∧ Sm M M1 0)
  | 0, k, h, M, G, hPI, hway, h9, h10, h11, h12, h13, hj, hk, hG => by
    have hc := hPI.1.1.1
    have hp := hPI.2.2.2.2.1 n (by omega) (by omega)
    rw [h9] at hp
    have hm := (hPI.1.1.2 p hp.1 hp.2).2.1
    refine ⟨fun _ => ⟨0, M, by simp only [gatS]; omega, fun K => ?_, rfl, hPI.2.1.trans (by omega), Sm.refl _ _, h9, h10, h12, h13⟩, fun q => absurd q (by simp only [gatS]; omega)⟩
    exact x_in0 (by omega) (by omega) (by omega) h9 h11 (by omega) hm (by omega)
  | j + 1, k, h, M, G, hPI, hway, h9, h10, h11, h12, h13, hj, hk, hG => by
    have hc := hPI.1.1.1
    have hp := hPI.2.2.2.2.1 n (by omega) (by omega)
    rw [h9] at hp
    have hwp := hPI.1.1.2 p hp.1 hp.2
    have hm := hwp.2.1
    unfold gatS
    by_cases q1 : lz (M 1 (1 + 11 * p + 7)) k = true
    · rw [if_pos q1]
      obtain ⟨g, rfl⟩ : ∃ g, G = g + 1 := ⟨G - 1, by omega⟩
      have hS1 : Sm M (uM M 11 n (k + 1)) n := ⟨fun e _ => uM_ne (by omega), fun j a b => by funext e; exact uM_ne (by omega), fun j i a b c d => uM_nei (by omega), fun i a b => uM_ne (by omega)⟩
      have e1 : uM M 11 (n : Int) (k + 1) 1 = M 1 := by funext e; exact uM_ne (by omega)
      have hS2 : Sm M (uM M 11 n (k + 1)) n := hS1
      have hseg : seg (uM M 11 (n : Int) (k + 1) 9) (n + 1) 0 = way := by
        rw [← hway]; exact seg_cong _ _ (fun i _ _ => uM_ne (by omega))
      have hPI1 : PI B (uM M 11 n (k + 1)) (n + 1) sn f := by
        obtain ⟨a1, a2, a3, a4, a5, a6⟩ := hPI
        refine ⟨by rw [e1]; exact a1, by rw [uM_ne (by omega)]; exact a2, by rw [uM_ne (by omega)]; exact a3, by rw [hseg, ← hway]; exact a4, fun i b1 b2 => by rw [uM_ne (by omega), e1]; exact a5 i b1 b2, fun i b1 b2 => by rw [uM_ne (by omega), e1]; exact a6 i b1 b2⟩
      have ih := x_gat hF hsim (p := p) (s := s) (turn := turn) (way := way) (f := f) hnd hsn hs j (k + 1) h (uM M 11 n (k + 1)) g hPI1 hseg (by rw [uM_ne (by omega)]; exact h9) (by rw [uM_ne (by omega)]; exact h10) (uM_eq _ _ _ _) (by rw [uM_ne (by omega)]; exact h12) (fun i a b => by rw [uM_ne (by omega)]; exact h13 i a b) (by rw [e1]; omega) (by omega) (by omega)
      rw [e1] at ih
      obtain ⟨i1, i2⟩ := ih
      refine ⟨fun q => ?_, fun q => ?_⟩
      · obtain ⟨cnt, M1, b1, b2, b3, b4, b5, b6⟩ := i1 q
        exact ⟨cnt, M1, by omega, fun K => (x_in2 (by omega) (by omega) h9 h11 (by omega) hm (by omega) q1).trans (b2 K), b3, b4, hS1.trans b5, b6⟩
      · obtain ⟨cnt, M1, b1, b2, b3, b4⟩ := i2 q
        exact ⟨cnt, M1, by omega, fun K => (x_in2 (by omega) (by omega) h9 h11 (by omega) hm (by omega) q1).trans (b2 K), b3, (hS1.less (by omega)).trans b4⟩
    · rw [if_neg q1]
      have hn := hwp.2.2.1 k hk (by omega)
      have hok := fetS_ok (B := B) d way (M 1 0) s (by rw [← hway, seg_len]; omega) (by rw [← hway]; exact hPI.2.2.2.1) (fun x hx => by
        rw [← hway, seg_mem] at hx
        obtain ⟨i, c1, c2, rfl⟩ := hx
        exact hPI.2.2.2.2.1 i c1 (by omega)) hc.2 hs
      have hwl : way.length = n + 1 := by rw [← hway, seg_len]
      rw [hwl] at hok
      obtain ⟨r1, r2, r3⟩ := hok (M 1 (1 + 11 * p + (3 + k))) (M 1) rfl hPI.1 hn.1 hn.2
      obtain ⟨f1, f2⟩ := hsim M (n + 1) sn f (M 1 (1 + 11 * p + (3 + k))) s hPI hnd hsn hn.1 hn.2 hs.1 hs.2
      rw [hway] at f1 f2
      simp only at r1 r2 r3 ⊢
      generalize fetS d way (M 1 (1 + 11 * p + (3 + k))) s (M 1) = r at *
      by_cases q2 : r.1 < 0
      · rw [if_pos q2]
        refine ⟨fun q => absurd q (by simp only; omega), fun _ => ?_⟩
        obtain ⟨cnt, M1, b1, b2, b3, b4⟩ := f2 q2
        exact ⟨cnt, M1, by simp only; omega, fun K => (x_in1 (by omega) (by omega) (by omega) h9 h10 h11 (by omega) hm (by omega) q1).trans (b2 K), b3, b4⟩
      · rw [if_neg q2]
        obtain ⟨r4, r5⟩ := r2 (by omega)
        obtain ⟨cnt, M1, b1, b2, b3, b4, b5⟩ := f1 (by omega)
        have hm2 := r5.2.2.1.1
        have hPI1 : PI B M1 (n + 1) sn f := hPI.next (by rw [b3]; exact r1) (by rw [b3]; exact r5) b4 b5
        have e9 : M1 9 n = p := by rw [b5.2.2.1 9 n (by omega) (by omega) (by omega) (by omega)]; exact h9
        have e10 : M1 10 n = s := by rw [b5.2.2.1 10 n (by omega) (by omega) (by omega) (by omega)]; exact h10
        have e11 : M1 11 n = k := by rw [b5.2.2.1 11 n (by omega) (by omega) (by omega) (by omega)]; exact h11
        have e12 : M1 12 n = turn := by rw [b5.2.2.1 12 n (by omega) (by omega) (by omega) (by omega)]; exact h12
        have hstep : ∀ K, lpA F (K + 1) (zt r.1) (LI M1) w = _ := fun K => x_lpg (n := n) (k := k) (x := r.1) (by omega) (by rw [b4]; omega) (by omega) e11 (by omega)
        have hS1 : Sm M1 (uM (uM M1 13 (4 * n + k) (r.1 + 1)) 11 n (k + 1)) n := ⟨fun e _ => by rw [uM_ne (by omega), uM_ne (by omega)], fun j a b => by funext e; rw [uM_ne (by omega), uM_ne (by omega)], fun j i a b c d => by rw [uM_nei (by omega), uM_ne (by omega)], fun i a b => by rw [uM_ne (by omega), uM_nei (by omega)]⟩
        have e1 : uM (uM M1 13 (4 * (n : Int) + k) (r.1 + 1)) 11 (n : Int) (k + 1) 1 = M1 1 := by funext e; rw [uM_ne (by omega), uM_ne (by omega)]
        have hseg : seg (uM (uM M1 13 (4 * (n : Int) + k) (r.1 + 1)) 11 (n : Int) (k + 1) 9) (n + 1) 0 = way := by
          rw [← hway]; exact seg_cong _ _ (fun i c1 c2 => by rw [uM_ne (by omega), uM_ne (by omega), b5.2.2.1 9 i (by omega) (by omega) c1 (by omega)])
        have hPI2 : PI B (uM (uM M1 13 (4 * n + k) (r.1 + 1)) 11 n (k + 1)) (n + 1) sn f := by
          obtain ⟨a1, a2, a3, a4, a5, a6⟩ := hPI1
          refine ⟨by rw [e1]; exact a1, by rw [uM_ne (by omega), uM_ne (by omega)]; exact a2, by rw [uM_ne (by omega), uM_ne (by omega)]; exact a3, by rw [hseg, ← hway]; exact hPI.2.2.2.1, fun i b1 b2 => by rw [uM_ne (by omega), uM_ne (by omega), e1]; exact a5 i b1 b2, fun i b1 b2 => by rw [uM_ne (by omega), uM_ne (by omega), e1]; exact a6 i b1 b2⟩
        have ih := x_gat hF hsim (p := p) (s := s) (turn := turn) (way := way) (f := f) hnd hsn hs j (k + 1) (ua h k (r.1 + 1)) (uM (uM M1 13 (4 * n + k) (r.1 + 1)) 11 n (k + 1)) F hPI2 hseg (by rw [uM_ne (by omega), uM_ne (by omega)]; exact e9) (by rw [uM_ne (by omega), uM_ne (by omega)]; exact e10) (uM_eq _ _ _ _) (by rw [uM_ne (by omega), uM_ne (by omega)]; exact e12) (fun i a b => by
          rw [uM_ne (by omega)]
          by_cases e : i = k
          · subst e; rw [uM_eq, ua_eq]
          · rw [uM_nei (by omega), ua_ne e, b5.2.2.2 _ (by omega) (by omega)]; exact h13 i a b) (by rw [e1, b3, r1.1 _ (by omega)]; omega) (by omega) (by omega)
        rw [e1, b3] at ih
        obtain ⟨i1, i2⟩ := ih
        refine ⟨fun q => ?_, fun q => ?_⟩
        · obtain ⟨cnt2, M2, c1, c2, c3, c4, c5, c6⟩ := i1 q
          refine ⟨cnt2 + 1 + cnt, M2, by omega, fun K => ?_, c3, c4, ((b5.less (by omega)).trans hS1).trans c5, c6⟩
          refine (x_in1 (by omega) (by omega) (by omega) h9 h10 h11 (by omega) hm (by omega) q1).trans ?_
          rw [show K + (cnt2 + 1 + cnt) = (K + cnt2 + 1) + cnt by omega, b2, hstep]
          exact c2 K
        · obtain ⟨cnt2, M2, c1, c2, c3, c4⟩ := i2 q
          refine ⟨cnt2 + 1 + cnt, M2, by omega, fun K => ?_, c3, ((b5.less (by omega)).trans (hS1.less (by omega))).trans c4⟩
          refine (x_in1 (by omega) (by omega) (by omega) h9 h10 h11 (by omega) hm (by omega) q1).trans ?_
          rw [show K + (cnt2 + 1 + cnt) = (K + cnt2 + 1) + cnt by omega, b2, hstep]
          exact c2 K
