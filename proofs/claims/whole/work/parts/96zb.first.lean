/-! The first heap has the shape that is kept between calls. -/
section FB
variable {x : Nat}
theorem kf_mo {d : Nat} (h : d < 21) : KF x (x + 52 + d) = mo_K[d]? := by
  unfold KF
  rw [xK_out (by left; omega)]
  exact xK_in h
theorem kf_pl {d : Nat} (h : d < 4) : KF x (x + 48 + d) = pl_K[d]? := by
  unfold KF KK
  repeat rw [xK_out (by left; omega)]
  exact xK_in h
theorem kf_mk2 {d : Nat} (h : d < 3) : KF x (x + 45 + d) = mk_K[d]? := by
  unfold KF KK
  repeat rw [xK_out (by left; omega)]
  exact xK_in h
theorem kf_bo2 {d : Nat} (h : d < 13) : KF x (x + 32 + d) = bo_K[d]? := by
  unfold KF KK
  repeat rw [xK_out (by left; omega)]
  exact xK_in h
theorem kf_mk1 {d : Nat} (h : d < 3) : KF x (x + 29 + d) = mk_K[d]? := by
  unfold KF KK
  repeat rw [xK_out (by left; omega)]
  exact xK_in h
theorem kf_bo1 {d : Nat} (h : d < 13) : KF x (x + 16 + d) = bo_K[d]? := by
  unfold KF KK
  repeat rw [xK_out (by left; omega)]
  exact xK_in h
theorem kf_pt {d : Nat} (h : d < 9) : KF x (x + 7 + d) = pt_K[d]? := by
  unfold KF KK KK1
  repeat rw [xK_out (by left; omega)]
  exact xK_in h
theorem pf_mo {d k : Nat} (h : d < 21) : PF x (x + 52 + d) k = mo_P (x + 52) d k := xP_in h
theorem pf_pl {d k : Nat} (h : d < 4) : PF x (x + 48 + d) k = pl_P (x + 48) d k := by
  unfold PF PP
  repeat first | rw [xP_out (by left; omega)] | rw [upr_ne (by omega)]
  exact xP_in h
theorem pf_mk2 {d k : Nat} (h : d < 3) : PF x (x + 45 + d) k = mk_P (x + 45) (x + 32) d k := by
  unfold PF PP
  repeat first | rw [xP_out (by left; omega)] | rw [upr_ne (by omega)]
  exact xP_in h
theorem pf_bo2 {d k : Nat} (h : d < 13) : PF x (x + 32 + d) k = bo_P (x + 32) d k := by
  unfold PF PP
  repeat first | rw [xP_out (by left; omega)] | rw [upr_ne (by omega)]
  exact xP_in h
theorem pf_mk1 {d k : Nat} (h : d < 3) : PF x (x + 29 + d) k = mk_P (x + 29) (x + 16) d k := by
  unfold PF PP
  repeat first | rw [xP_out (by left; omega)] | rw [upr_ne (by omega)]
  exact xP_in h
theorem pf_bo1 {d k : Nat} (h : d < 13) : PF x (x + 16 + d) k = bo_P (x + 16) d k := by
  unfold PF PP
  repeat first | rw [xP_out (by left; omega)] | rw [upr_ne (by omega)]
  exact xP_in h
theorem pf_pt {d k : Nat} (h : d < 9) : PF x (x + 7 + d) k = pt_P (x + 7) d k := by
  unfold PF PP PP1
  repeat first | rw [xP_out (by left; omega)] | rw [upr_ne (by omega)]
  exact xP_in h
theorem pf_ps {d k : Nat} (h : d < 2) : PF x (x + 3 + d) k = ps_P (x + 3) d k := by
  unfold PF PP PP1
  repeat first | rw [xP_out (by left; omega)] | rw [upr_ne (by omega)]
  exact xP_in h
theorem pf_pa {d k : Nat} (h : d < 2) : PF x (x + 1 + d) k = pa_P (x + 1) d k := by
  unfold PF PP PP1
  repeat first | rw [xP_out (by left; omega)] | rw [upr_ne (by omega)]
  exact xP_in h
theorem pf_x : PF x x 0 = some (x + 1) ∧ PF x x 1 = some (x + 16) ∧ PF x x 2 = some (x + 29) ∧ PF x x 3 = some (x + 32) ∧ PF x x 4 = some (x + 45) ∧ PF x x 5 = some (x + 48) ∧ PF x x 6 = some (x + 3) ∧ PF x x 7 = some (x + 5) ∧ PF x x 8 = some (x + 6) := by
  unfold PF PP PP1
  refine ⟨?_, ?_, ?_, ?_, ?_, ?_, ?_, ?_, ?_⟩ <;>
    (repeat first | rw [xP_out (by left; omega)] | rw [upr_nei (by decide)]
     exact upr_eq _ _ _ _)
theorem fs_pts {K : HK} {pr : HP} {a : Nat} (k : ∀ d, d < 9 → K (a + d) = pt_K[d]?) (f : ∀ d i, d < 9 → pr (a + d) i = pt_P a d i) : OkParts K pr a :=
  ⟨k 0 (by decide), f 0 1 (by decide), k 1 (by decide), f 0 2 (by decide), k 2 (by decide), f 0 3 (by decide), k 3 (by decide), f 0 4 (by decide), k 4 (by decide), f 0 5 (by decide), k 5 (by decide), f 0 6 (by decide), k 6 (by decide), f 0 7 (by decide), k 7 (by decide), f 0 8 (by decide), k 8 (by decide)⟩
theorem fs_bo {K : HK} {pr : HP} {pt : Nat → Nat} {a p : Nat} (k : ∀ d, d < 13 → K (a + d) = bo_K[d]?) (f : ∀ d i, d < 13 → pr (a + d) i = bo_P a d i) (ht : pt a = p) (hp1 : OkParts K pr p) : OkBoard K pr pt a p :=
  ⟨k 0 (by decide), ht, hp1, f 0 2 (by decide), k 1 (by decide), f 0 3 (by decide), k 2 (by decide), f 0 4 (by decide), ⟨k 3 (by decide), f 3 1 (by decide), k 4 (by decide), f 3 2 (by decide), k 5 (by decide), f 3 3 (by decide), k 6 (by decide), f 3 4 (by decide), k 7 (by decide), f 3 5 (by decide), k 8 (by decide), f 3 6 (by decide), k 9 (by decide)⟩, f 0 5 (by decide), ⟨k 10 (by decide), f 10 2 (by decide), k 11 (by decide), f 10 4 (by decide), k 12 (by decide)⟩⟩
theorem fs_mk {K : HK} {pr : HP} {a b : Nat} (k : ∀ d, d < 3 → K (a + d) = mk_K[d]?) (f : ∀ d i, d < 3 → pr (a + d) i = mk_P a b d i) : Mk K pr a b :=
  ⟨k 0 (by decide), f 0 0 (by decide), f 0 1 (by decide), f 0 2 (by decide), k 1 (by decide), f 0 6 (by decide), k 2 (by decide)⟩
theorem fs_pl {K : HK} {pr : HP} {a : Nat} (k : ∀ d, d < 4 → K (a + d) = pl_K[d]?) (f : ∀ d i, d < 4 → pr (a + d) i = pl_P a d i) : PlK K pr a :=
  ⟨k 0 (by decide), f 0 2 (by decide), k 1 (by decide), f 0 3 (by decide), k 2 (by decide), f 0 5 (by decide), k 3 (by decide)⟩
theorem kf_pos {a : Nat} {v : (Nat × Nat) ⊕ Nat} (h : KF x a = some v) : ∃ d, d < 74 ∧ a = x + d ∧ KF 0 d = some v := by
  rcases Nat.lt_or_ge a x with e | e
  · rw [KF_rel, if_neg (by omega)] at h; cases h
  · rcases Nat.lt_or_ge a (x + 74) with e1 | e1
    · refine ⟨a - x, by omega, by omega, ?_⟩
      rw [KF_rel, if_pos e] at h
      exact h
    · rw [KF_end x a e1] at h; cases h
theorem fs_shape {pt : Nat → Nat} (h1 : pt (x + 16) = x + 7) (h2 : pt (x + 32) = x + 7) (h3 : pt (x + 48) = x + 7) : HS (KF x) (PF x) pt (fun _ _ => none) (x + 74) x := by
  have hpt : OkParts (KF x) (PF x) (x + 7) := fs_pts (fun d hd => kf_pt hd) (fun d i hd => pf_pt hd)
  have hk : ∀ (d : Nat) (v : (Nat × Nat) ⊕ Nat), KF 0 d = some v → KF x (x + d) = some v := fun d v h => (KF_at x d).trans h
  obtain ⟨q0, q1, q2, q3, q4, q5, q6, q7, q8⟩ := pf_x (x := x)
  refine ⟨⟨hk 0 _ rfl, q0, q1, q2, q3, q4, q5, q6, q7, q8, hk 3 _ rfl, pf_ps (d := 0) (by decide), hk 4 _ rfl, hk 5 _ rfl, hk 6 _ rfl, hk 73 _ rfl⟩, ⟨fs_mk (fun d hd => kf_mk1 hd) (fun d i hd => pf_mk1 hd), fs_mk (fun d hd => kf_mk2 hd) (fun d i hd => pf_mk2 hd)⟩, ⟨fs_pl (fun d hd => kf_pl hd) (fun d i hd => pf_pl hd), by rw [h3]; exact hpt⟩, ⟨fun d hd => kf_mo hd, fun k _ j _ g => (pf_mo (d := 0) (by decide)).trans g⟩, ⟨hk 16 _ rfl, hk 32 _ rfl, hk 1 _ rfl⟩, ⟨fun a ha => ?_, fun a ha => ?_⟩, ⟨fun a ha => ?_, fun a ha => ?_, fun a ha => ?_⟩, ⟨KF_end x, Nat.le_refl _⟩, ?_⟩
  · obtain ⟨d, g1, rfl, g2⟩ := kf_pos ha
    rcases (KF_tab d g1).1 g2 with rfl | rfl
    · rw [h1]; exact fs_bo (fun d hd => kf_bo1 hd) (fun d i hd => pf_bo1 hd) h1 hpt
    · rw [h2]; exact fs_bo (fun d hd => kf_bo2 hd) (fun d i hd => pf_bo2 hd) h2 hpt
  · obtain ⟨d, g1, rfl, g2⟩ := kf_pos ha
    obtain rfl := (KF_tab d g1).2.1 g2
    exact ⟨hk 1 _ rfl, pf_pa (d := 0) (by decide), hk 2 _ rfl⟩
  · obtain ⟨d, g1, rfl, g2⟩ := kf_pos ha
    left; rw [(KF_tab d g1).2.2 g2]
  · obtain ⟨d, g1, rfl, g2⟩ := kf_pos ha
    rcases (KF_tab d g1).1 g2 with rfl | rfl
    · left; rfl
    · right; left; rfl
  · obtain ⟨d, g1, rfl, g2⟩ := kf_pos ha
    left; rw [(KF_tab d g1).2.1 g2]
  · have hd : ∀ s, DB (fun _ _ => none) x s = none := fun s => by unfold DB; split <;> rfl
    refine ⟨fun s a _ h => ?_, fun s s1 a _ _ h => ?_, fun k a _ h => ?_, fun k k1 a _ _ h => ?_, fun k _ => ⟨fun _ => rfl, fun _ => rfl⟩⟩
    · rw [hd] at h; cases h
    · rw [hd] at h; cases h
    · cases h
    · cases h
end FB
