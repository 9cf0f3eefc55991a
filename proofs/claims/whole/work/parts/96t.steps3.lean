/-! part and thing: what is thrown is told alike. -/
def lpD (v0 v3 n : Nat) (G : GH) (fc : Option Int32) (fx : Option Unit) : Option (Int32 × Nat × GH) := match G v0 with
  | some (.inr (10, _)) => (match fc with
    | some r => Option.bind (aK G v3 0 (Int32.toInt64 r)) (fun (G1 : GH) => some (0, n, G1))
    | none => (match fx with
      | some _ => some (1, n + 1, G)
      | none => none))
  | _ => none
def BtP (i x n : Nat) (G : GH) (fc : Option Int32) (fx : Option Unit) (F : Nat) (f : Nat → GH → Option (Int32 × Nat × GH)) : Prop := ∃ b n1 G1 a n2 G2, lpD x (x + 73) n G fc fx = some (b, n1, G1) ∧ (∃ fs, G1 (x + 52) = some (.inr (11, fs))) ∧ f n1 G1 = some (a, n2, G2) ∧ (∃ fs, G2 (x + 52) = some (.inr (11, fs))) ∧ f_X11_thrown F (x + 52) G2 = some b ∧ (b = 0 → aJ G2 (x + 73) 0 = some (Int32.toInt64 a)) ∧ LwE (i + 1) x n2 G2
section ST3
variable {i x n F : Nat} {K : HK} {pr : HP} {pt : Nat → Nat} {rr : HP} {M R : ZM} {w : Int64} {lg : Nat → Nat → Int64} {U : List (Int → Int)} {I : IMG} {f : Nat → GH → Option (Int32 × Nat × GH)} {o : Option (Int32 × (Nat → Nat → Int32) × Int64)} {fc : Option Int32} {fx : Option Unit}
theorem h_arrJ {q N : Nat} {sg : Nat → Nat → Int32} (hk : K q = some (.inl (3, N))) : hp K pr pt rr sg lg q = some (.inl (3, N, .inr (.inl (lg q)))) := by
  unfold hp
  rw [hk]
  rfl
theorem v_aK0 {q : Nat} {sg : Nat → Nat → Int32} {v : Int64} (hk : K q = some (.inl (3, 1))) : aK (hp K pr pt rr sg lg) q 0 v = some (hp K pr pt rr sg (up3 lg q 0 v)) := by
  unfold aK
  rw [h_arrJ hk]
  have h0 : (3 = 3 ∧ ¬ ((0 : Int32) < 0 ∨ 1 ≤ (0 : Int32).toNatClampNeg)) := by decide
  simp only [h0, and_self, not_false_eq_true, if_true]
  congr 1
  funext j
  unfold gset
  by_cases e : j = q
  · rw [if_pos e, e, h_arrJ hk]
    unfold up3
    rw [if_pos rfl]
    rfl
  · rw [if_neg e]
    exact (hp_cong rfl rfl rfl rfl rfl (by unfold up3; rw [if_neg e])).symm
theorem CI.n1 {B : Int} {A T : Int → Int} (h : CI B x K pr pt rr n M lg A T U I) : CI B x K pr pt rr (n + 1) M lg A T U I := by
  obtain ⟨⟨h1, h2, h3, h4, h5, h6, h7, ⟨h8, h9⟩, h10⟩, g⟩ := h
  exact ⟨⟨h1, h2, h3, h4, h5, h6, h7, ⟨fun a ha => h8 a (by omega), by omega⟩, h10⟩, g⟩
theorem btP (h : Lw i x n K pr pt rr M lg R w U I) (hf : ∀ (G0 : GH) (n : Nat), f n (mput G0 (x + 52) (LI R) w) = Option.map (fun z => (z.1, n, mput G0 (x + 52) z.2.1 z.2.2)) o) (hc : (∃ a : Int, fc = some (zt a) ∧ o = some (zt a, LI (R0 R), w)) ∨ (fc = none ∧ fx = some () ∧ o = some (zt 0, LI (uM R 0 0 1), w))) : BtP i x n (hp K pr pt rr (LI M) lg) fc fx F f := by
  have hs := h.1.1
  have hok : OkRef K pr (x + 52) := hs.2.2.2.1
  have k52 : K (x + 52) = some (.inr 11) := hok.1 0 (by decide)
  have k73 : K (x + 73) = some (.inl (3, 1)) := hs.1.2.2.2.2.2.2.2.2.2.2.2.2.2.2.2
  have mo : ∀ (G0 : GH) (S : ZM) (w : Int64), ∃ fs, mput G0 (x + 52) (LI S) w (x + 52) = some (.inr (11, fs)) := fun G0 S w => ⟨_, m_obj G0 (x + 52) (LI S) w⟩
  unfold BtP lpD
  rw [h_obj hs.o10]
  rcases hc with ⟨a, c1, c2⟩ | ⟨c1, c2, c3⟩
  · rw [c1]
    simp only [v_aK0 k73, ob_z]
    have hJ : Jn x M (up3 lg (x + 73) 0 (Int32.toInt64 (zt a))) R w := ⟨h.2.1.1, by unfold up3; rw [if_neg (by omega)]; exact h.2.1.2⟩
    have hci : CI (100 * (i : Int)) x K pr pt rr n M (up3 lg (x + 73) 0 (Int32.toInt64 (zt a))) (R 1) (R 2) U I := h.1.fr (fun _ _ _ => rfl) (by unfold up3; rw [if_neg (by omega)])
    obtain ⟨M2, lg2, b1, b2, b3, b4⟩ := ref_back (pt := pt) (rr := rr) (M := M) (R := R0 R) (w := w) (lg := up3 lg (x + 73) 0 (Int32.toInt64 (zt a))) hok
    refine ⟨0, n, _, zt a, n, mput (hp K pr pt rr (LI M) (up3 lg (x + 73) 0 (Int32.toInt64 (zt a)))) (x + 52) (LI (R0 R)) w, rfl, ⟨_, h_obj k52⟩, ?_, mo _ _ _, ?_, fun _ => ?_, ?_⟩
    · have e := hf (hp K pr pt rr (LI M) (up3 lg (x + 73) 0 (Int32.toInt64 (zt a)))) n
      rw [c2, ← ref_put hok hJ] at e
      exact e
    · rw [e_X11_thrown]
      show some (zt (R0 R 0 0)) = some 0
      rw [show R0 R 0 0 = 0 from uM_eq _ _ _ _]
      rfl
    · unfold aJ
      rw [show mput (hp K pr pt rr (LI M) (up3 lg (x + 73) 0 (Int32.toInt64 (zt a)))) (x + 52) (LI (R0 R)) w (x + 73) = hp K pr pt rr (LI M) (up3 lg (x + 73) 0 (Int32.toInt64 (zt a))) (x + 73) from by unfold mput; rw [if_neg (by omega), if_neg (by omega)], h_arrJ k73]
      have h0 : (3 = 3 ∧ ¬ ((0 : Int32) < 0 ∨ 1 ≤ (0 : Int32).toNatClampNeg)) := by decide
      simp only [h0, and_self, not_false_eq_true, if_true]
      unfold up3
      rw [if_pos rfl]
      rfl
    · refine ⟨K, pr, pt, rr, M2, lg2, R0 R, w, U, I, b1, ?_, b2, h.2.2.1.frame (R0_fru R), h.2.2.2.frame (R0_fr R)⟩
      rw [R0_row (by omega), R0_row (by omega)]
      exact (hci.ref b3 b4).upB (by omega)
  · rw [c1, c2]
    obtain ⟨M2, lg2, b1, b2, b3, b4⟩ := ref_back (pt := pt) (rr := rr) (M := M) (R := uM R 0 0 1) (w := w) (lg := lg) hok
    have row : ∀ j, j ≠ 0 → uM R 0 0 1 j = R j := fun j hj => by funext e; exact uM_ne hj
    refine ⟨1, n + 1, _, zt 0, n + 1, mput (hp K pr pt rr (LI M) lg) (x + 52) (LI (uM R 0 0 1)) w, rfl, ⟨_, h_obj k52⟩, ?_, mo _ _ _, ?_, fun g => absurd g (by decide), ?_⟩
    · have e := hf (hp K pr pt rr (LI M) lg) (n + 1)
      rw [c3, ← ref_put hok h.2.1] at e
      exact e
    · rw [e_X11_thrown]
      show some (zt (uM R 0 0 1 0 0)) = some 1
      rw [uM_eq]
      rfl
    · refine ⟨K, pr, pt, rr, M2, lg2, uM R 0 0 1, w, U, I, b1, ?_, b2, h.2.2.1.frame ⟨row 4 (by omega), uM_nei (by omega)⟩, h.2.2.2.frame ⟨row 2 (by omega), row 3 (by omega), fun e _ _ => by rw [row 1 (by omega)]⟩⟩
      rw [row 1 (by omega), row 2 (by omega)]
      exact ((h.1.n1).ref b3 b4).upB (by omega)
theorem bt_part {p k : Int} (hF : 7000 < F) (hp0 : -2147483648 ≤ p ∧ p < 2147483648) (hk : -2147483648 ≤ k ∧ k < 2147483648) (h : Lw i x n K pr pt rr M lg R w U I) : BtP i x n (hp K pr pt rr (LI M) lg) (f_X10_part F x (zt p) (zt k) (hp K pr pt rr (LI M) lg)) (fx_X10_part F x (zt p) (zt k) (hp K pr pt rr (LI M) lg)) F (fun n G => f_X11_part F (x + 52) (zt p) (zt k) n G) := by
  have v := v_part (F := F) (by omega) hp0 hk h.1
  have e := x_part (F := F) (w := w) (by omega) hp0 hk h.fi
  refine btP h (fun _ _ => e_X11_part) ?_
  by_cases c : (0 ≤ p ∧ p < R 1 0) ∧ 0 ≤ k ∧ k ≤ 8
  · exact Or.inl ⟨_, v.2 c, e.2 c⟩
  · exact Or.inr ⟨(v.1 c).1, (v.1 c).2, e.1 c⟩
theorem bt_thing {p k : Int} (hF : 7000 < F) (hp0 : -2147483648 ≤ p ∧ p < 2147483648) (hk : -2147483648 ≤ k ∧ k < 2147483648) (h : Lw i x n K pr pt rr M lg R w U I) : BtP i x n (hp K pr pt rr (LI M) lg) (f_X10_thing F x (zt p) (zt k) (hp K pr pt rr (LI M) lg)) (fx_X10_thing F x (zt p) (zt k) (hp K pr pt rr (LI M) lg)) F (fun n G => f_X11_thing F (x + 52) (zt p) (zt k) n G) := by
  have v := v_thing (F := F) (by omega) hp0 hk h.1
  have e := x_thing (F := F) (w := w) (by omega) hp0 hk h.fi
  refine btP h (fun _ _ => e_X11_thing) ?_
  by_cases c : (0 ≤ p ∧ p < R 1 206) ∧ 0 ≤ k ∧ k ≤ 4
  · exact Or.inl ⟨_, v.2 c, e.2 c⟩
  · exact Or.inr ⟨(v.1 c).1, (v.1 c).2, e.1 c⟩
end ST3
