/-! What holds ahead of the first round, and the law's answer. -/
section FC
variable {x : Nat} {M : ZM} {lg : Nat → Nat → Int64} {pt : Nat → Nat}
theorem ord_none : ordF (fun _ => 0) = ([], fun _ => -1) := by
  unfold ordF ordS
  exact if_pos rfl
theorem loop_none : loopF (fun _ => 0) = [] := by
  unfold loopF loopG
  exact if_pos rfl
theorem fs_lw (h : SF x M lg pt) : Lw 0 x (x + 74) (KF x) (PF x) pt (fun _ _ => none) M lg (fun j => M (x + 52 + j)) 0 [] (fun _ => none) := by
  obtain ⟨⟨h1, h2, h3⟩, ⟨p1, p2, p3⟩, ⟨s1, s2⟩, ht, hb1, hb, hpl, hr, hl⟩ := h
  have r1 : ∀ e, e ≠ 893 → M (x + 52 + 1) e = 0 := fun e he => by rw [hr 1 e (by omega), if_neg (fun g => he g.2)]
  have r2 : M (x + 52 + 1) 893 = -1 := by rw [hr 1 893 (by omega), if_pos ⟨rfl, rfl⟩]
  have r0 : ∀ d e, d < 21 → d ≠ 1 → M (x + 52 + d) e = 0 := fun d e hd h1 => by rw [hr d e hd, if_neg (fun g => h1 g.1)]
  have hw : wfP (M (x + 52 + 1)) := by
    have := r1 0 (by omega)
    exact ⟨by omega, fun p p0 p1 => by omega⟩
  have hz : Z0 (M (x + 52 + 1)) := ⟨r1 _ (by omega), fun e _ _ => r1 e (by omega), fun e _ _ => r1 e (by omega), r1 _ (by omega), r1 _ (by omega), r1 _ (by omega), r1 _ (by omega), r1 _ (by omega)⟩
  have hgr : GR (100 * ((0 : Nat) : Int)) (M (x + 52 + 1)) := GR.fresh (by omega) hw hz
  have hz0 := r1 0 (by omega)
  have hz1 := r1 206 (by omega)
  have hz2 := r1 809 (by omega)
  have hz3 := r1 687 (by omega)
  have hz4 := r1 891 (by omega)
  have hz5 := r1 892 (by omega)
  have ht0 := ht 0 0 (by omega)
  have hrb : RB M (x + 16) (x + 7) (M (x + 52 + 1)) := by
    refine ⟨⟨?_, fun i i0 i1 => by omega⟩, ⟨?_, fun s i s0 s1 i0 i1 => ?_⟩, ⟨fun i i0 i1 => ?_, ?_, fun t t0 t1 => by omega⟩, ?_, ?_, fun i i0 i1 => by omega, ?_, fun i i0 i1 => by omega⟩
    · rw [hz0]; exact ht0
    · rw [r1 145 (by omega)]; exact hb 0 1 (by omega) (by omega)
    · rw [hb1 _ (by omega) (by omega), r1 _ (by omega)]; rfl
    · rw [hb 2 i (by omega) (by omega), r1 _ (by omega)]
    · rw [hb 3 0 (by omega) (by omega), hz1]
    · rw [hb 10 0 (by omega) (by omega), r1 810 (by omega)]
    · rw [hb 10 1 (by omega) (by omega), hz2]
    · rw [hb 10 3 (by omega) (by omega), hz3]
  refine ⟨⟨fs_shape h1 h2 h3, ⟨by rw [h1]; exact hrb, hgr⟩, ⟨⟨by rw [p1]; exact hz4.symm, by rw [p2]; exact hz5.symm, by rw [p3]; exact r2.symm, fun e e0 e1 => ?_⟩, ⟨?_, fun e => ?_⟩⟩, ⟨s1, by decide, by omega, fun j C hj => by simp at hj⟩, fun k hk => ⟨fun _ => rfl, fun C S g => by cases g⟩, ?_⟩, ⟨fun j hj => rfl, hl⟩, ⟨r0 0 5 (by omega) (by omega), by decide, fun j C hj => by simp at hj⟩, fun k hk => ⟨fun _ => r0 3 _ (by omega) (by omega), fun C S g => by cases g⟩⟩
  · exact absurd e1 (by show ¬ (e < M (x + 52 + 1) 891); omega)
  · show 0 ≤ M (x + 52 + 1) 891 ∧ M (x + 52 + 1) 891 ≤ 600
    omega
  · show -128 ≤ M (x + 52 + 2) e ∧ M (x + 52 + 2) e ≤ 127
    rw [r0 2 e (by omega) (by omega)]
    omega
  · rw [h3]
    refine ⟨fun _ => 0, ⟨ht0, fun i i0 i1 => ?_⟩, ⟨⟨Int.le_refl _, by decide⟩, fun p p0 p1 => ?_⟩, ?_, fun i y g => ?_, fun p p0 p1 => ?_, ?_, fun i y g => ?_, Or.inl (hpl 0 6 (by omega))⟩
    · exact absurd i1 (by show ¬ (i < 0); omega)
    · exact absurd p1 (by show ¬ (p < 0); omega)
    · rw [ord_none]; exact hpl 0 1 (by omega)
    · rw [ord_none] at g; simp at g
    · exact absurd p1 (by show ¬ (p < 0); omega)
    · rw [loop_none]; exact hpl 0 4 (by omega)
    · rw [loop_none] at g; simp at g
end FC
theorem law_one (L : Nat) (xs : Nat → Int32) (n : Nat) (hL : L ≤ 1536) : ∃ (n1 : Nat) (G1 : GH), f_L_law 100000 L xs n (fun _ => none) = some (1, n1, G1) := by
  obtain ⟨M, lg, pt, h1, h2⟩ := st_all (F := 100000) (x := n) (L := L) (xs := xs) (by decide)
  rw [h1]
  exact law_loop (F := 100000) (by decide) hL 513 0 (n + 74) _ 520 (by decide) (by decide) (by decide) ⟨_, _, _, _, _, _, _, _, _, _, rfl, fs_lw h2⟩
