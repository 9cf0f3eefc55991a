/-! Blocks of new objects over memory; constructors. -/
theorem h_arrL {K : HK} {pr rr : HP} {pt : Nat → Nat} {sg : Nat → Nat → Int32} {lg : Nat → Nat → Int64} {q N : Nat} (hk : K q = some (.inl (3, N))) : hp K pr pt rr sg lg q = some (.inl (3, N, .inr (.inl (lg q)))) := by
  unfold hp
  rw [hk]
  rfl
theorem upt_a0 {pt : Nat → Nat} {a p : Nat} : upt pt a p (a + 0) = p := if_pos rfl
def pa_K : List ((Nat × Nat) ⊕ Nat) := [.inr 2, .inl (1, 600)]
def pa_P (a : Nat) : Nat → Nat → Option Nat := fun d k => match d, k with
  | 0, 0 => some (a + 1)
  | _, _ => none
def pa_M : Nat → Int → Int := fun d e => if d = 0 ∧ e = 3 then -1 else 0
def pa_C (a : Nat) : List AC := [.inr (2, [.ref (a + 1), .int 0, .int 0, .int (-1)]), .inl (1, 600, .inl (fun _ => 0))]
set_option maxRecDepth 100000 in
theorem pa_blk {K : HK} {pr rr : HP} {pt : Nat → Nat} {M : ZM} {lg : Nat → Nat → Int64} {a : Nat} : blk (hp K pr pt rr (LI M) lg) a (pa_C a) = hp (xK K a pa_K) (xP pr a 2 (pa_P a)) pt (xP rr a 2 (fun _ _ => none)) (LI (xM M a 2 pa_M)) (xL lg a 2) := by
  refine hp_blk (fun d hd => ?_) (fun j hj => ⟨xK_out hj, xP_out hj, rfl, xP_out hj, LI_out hj, xL_out hj⟩)
  rcases d with _ | d
  · refine (h_obj (show xK K a pa_K (a + 0) = some (.inr 2) from xK_in (by decide))).trans ?_
    show some (Sum.inr (2, [va_rf (xP pr a 2 (pa_P a) (a + 0) 0), .int (LI (xM M a 2 pa_M) (a + 0) 1), .int (LI (xM M a 2 pa_M) (a + 0) 2), .int (LI (xM M a 2 pa_M) (a + 0) 3)])) = some (Sum.inr (2, [.ref (a + 1), .int 0, .int 0, .int (-1)]))
    simp only [LI_in (M := M) (a := a) (f := pa_M) (show 0 < 2 by decide), xP_in (pr := pr) (a := a) (f := (pa_P a)) (show 0 < 2 by decide)]
    rfl
  rcases d with _ | d
  · exact (h_arr (show xK K a pa_K (a + 1) = some (.inl (1, 600)) from xK_in (by decide)) (by decide)).trans (by rw [LI_in0 (d := 1) (by decide) (by funext e; simp [pa_M])]; rfl)
  · exact absurd hd (by simp only [pa_C, List.length_cons, List.length_nil]; omega)
def ps_K : List ((Nat × Nat) ⊕ Nat) := [.inr 4, .inl (4, 8)]
def ps_P (a : Nat) : Nat → Nat → Option Nat := fun d k => match d, k with
  | 0, 0 => some (a + 1)
  | _, _ => none
def ps_C (a : Nat) : List AC := [.inr (4, [.ref (a + 1), .int 0, .int 0]), .inl (4, 8, .inr (.inr (.inr (.inr (fun _ => none)))))]
set_option maxRecDepth 100000 in
theorem ps_blk {K : HK} {pr rr : HP} {pt : Nat → Nat} {M : ZM} {lg : Nat → Nat → Int64} {a : Nat} : blk (hp K pr pt rr (LI M) lg) a (ps_C a) = hp (xK K a ps_K) (xP pr a 2 (ps_P a)) pt (xP rr a 2 (fun _ _ => none)) (LI (xM M a 2 (fun _ _ => 0))) (xL lg a 2) := by
  refine hp_blk (fun d hd => ?_) (fun j hj => ⟨xK_out hj, xP_out hj, rfl, xP_out hj, LI_out hj, xL_out hj⟩)
  rcases d with _ | d
  · refine (h_obj (show xK K a ps_K (a + 0) = some (.inr 4) from xK_in (by decide))).trans ?_
    show some (Sum.inr (4, [va_rf (xP pr a 2 (ps_P a) (a + 0) 0), .int (LI (xM M a 2 (fun _ _ => 0)) (a + 0) 1), .int (LI (xM M a 2 (fun _ _ => 0)) (a + 0) 2)])) = some (Sum.inr (4, [.ref (a + 1), .int 0, .int 0]))
    simp only [LI_in (M := M) (a := a) (f := (fun _ _ => 0)) (show 0 < 2 by decide), xP_in (pr := pr) (a := a) (f := (ps_P a)) (show 0 < 2 by decide)]
    rfl
  rcases d with _ | d
  · exact (h_arrR (show xK K a ps_K (a + 1) = some (.inl (4, 8)) from xK_in (by decide)) (by decide)).trans (by rw [show xP rr a 2 (fun _ _ => none) (a + 1) = fun _ => none from funext (fun k => xP_in (by decide))]; rfl)
  · exact absurd hd (by simp only [ps_C, List.length_cons, List.length_nil]; omega)
def pt_K : List ((Nat × Nat) ⊕ Nat) := [.inr 3, .inl (0, 12), .inl (0, 12), .inl (0, 12), .inl (0, 12), .inl (2, 12), .inl (0, 12), .inl (0, 12), .inl (0, 48)]
def pt_P (a : Nat) : Nat → Nat → Option Nat := fun d k => match d, k with
  | 0, 1 => some (a + 1)
  | 0, 2 => some (a + 2)
  | 0, 3 => some (a + 3)
  | 0, 4 => some (a + 4)
  | 0, 5 => some (a + 5)
  | 0, 6 => some (a + 6)
  | 0, 7 => some (a + 7)
  | 0, 8 => some (a + 8)
  | _, _ => none
def pt_C (a : Nat) : List AC := [.inr (3, [.int 0, .ref (a + 1), .ref (a + 2), .ref (a + 3), .ref (a + 4), .ref (a + 5), .ref (a + 6), .ref (a + 7), .ref (a + 8)]), .inl (0, 12, .inl (fun _ => 0)), .inl (0, 12, .inl (fun _ => 0)), .inl (0, 12, .inl (fun _ => 0)), .inl (0, 12, .inl (fun _ => 0)), .inl (2, 12, .inl (fun _ => 0)), .inl (0, 12, .inl (fun _ => 0)), .inl (0, 12, .inl (fun _ => 0)), .inl (0, 48, .inl (fun _ => 0))]
set_option maxRecDepth 100000 in
theorem pt_blk {K : HK} {pr rr : HP} {pt : Nat → Nat} {M : ZM} {lg : Nat → Nat → Int64} {a : Nat} : blk (hp K pr pt rr (LI M) lg) a (pt_C a) = hp (xK K a pt_K) (xP pr a 9 (pt_P a)) pt (xP rr a 9 (fun _ _ => none)) (LI (xM M a 9 (fun _ _ => 0))) (xL lg a 9) := by
  refine hp_blk (fun d hd => ?_) (fun j hj => ⟨xK_out hj, xP_out hj, rfl, xP_out hj, LI_out hj, xL_out hj⟩)
  rcases d with _ | d
  · refine (h_obj (show xK K a pt_K (a + 0) = some (.inr 3) from xK_in (by decide))).trans ?_
    show some (Sum.inr (3, [.int (LI (xM M a 9 (fun _ _ => 0)) (a + 0) 0), va_rf (xP pr a 9 (pt_P a) (a + 0) 1), va_rf (xP pr a 9 (pt_P a) (a + 0) 2), va_rf (xP pr a 9 (pt_P a) (a + 0) 3), va_rf (xP pr a 9 (pt_P a) (a + 0) 4), va_rf (xP pr a 9 (pt_P a) (a + 0) 5), va_rf (xP pr a 9 (pt_P a) (a + 0) 6), va_rf (xP pr a 9 (pt_P a) (a + 0) 7), va_rf (xP pr a 9 (pt_P a) (a + 0) 8)])) = some (Sum.inr (3, [.int 0, .ref (a + 1), .ref (a + 2), .ref (a + 3), .ref (a + 4), .ref (a + 5), .ref (a + 6), .ref (a + 7), .ref (a + 8)]))
    simp only [LI_in (M := M) (a := a) (f := (fun _ _ => 0)) (show 0 < 9 by decide), xP_in (pr := pr) (a := a) (f := (pt_P a)) (show 0 < 9 by decide)]
    rfl
  rcases d with _ | d
  · exact (h_arr (show xK K a pt_K (a + 1) = some (.inl (0, 12)) from xK_in (by decide)) (by decide)).trans (by rw [LI_in0 (d := 1) (by decide) (by funext e; rfl)]; rfl)
  rcases d with _ | d
  · exact (h_arr (show xK K a pt_K (a + 2) = some (.inl (0, 12)) from xK_in (by decide)) (by decide)).trans (by rw [LI_in0 (d := 2) (by decide) (by funext e; rfl)]; rfl)
  rcases d with _ | d
  · exact (h_arr (show xK K a pt_K (a + 3) = some (.inl (0, 12)) from xK_in (by decide)) (by decide)).trans (by rw [LI_in0 (d := 3) (by decide) (by funext e; rfl)]; rfl)
  rcases d with _ | d
  · exact (h_arr (show xK K a pt_K (a + 4) = some (.inl (0, 12)) from xK_in (by decide)) (by decide)).trans (by rw [LI_in0 (d := 4) (by decide) (by funext e; rfl)]; rfl)
  rcases d with _ | d
  · exact (h_arr (show xK K a pt_K (a + 5) = some (.inl (2, 12)) from xK_in (by decide)) (by decide)).trans (by rw [LI_in0 (d := 5) (by decide) (by funext e; rfl)]; rfl)
  rcases d with _ | d
  · exact (h_arr (show xK K a pt_K (a + 6) = some (.inl (0, 12)) from xK_in (by decide)) (by decide)).trans (by rw [LI_in0 (d := 6) (by decide) (by funext e; rfl)]; rfl)
  rcases d with _ | d
  · exact (h_arr (show xK K a pt_K (a + 7) = some (.inl (0, 12)) from xK_in (by decide)) (by decide)).trans (by rw [LI_in0 (d := 7) (by decide) (by funext e; rfl)]; rfl)
  rcases d with _ | d
  · exact (h_arr (show xK K a pt_K (a + 8) = some (.inl (0, 48)) from xK_in (by decide)) (by decide)).trans (by rw [LI_in0 (d := 8) (by decide) (by funext e; rfl)]; rfl)
  · exact absurd hd (by simp only [pt_C, List.length_cons, List.length_nil]; omega)
def bo_K : List ((Nat × Nat) ⊕ Nat) := [.inr 0, .inl (0, 60), .inl (0, 12), .inr 7, .inl (0, 60), .inl (0, 60), .inl (2, 60), .inl (0, 60), .inl (0, 240), .inl (0, 60), .inr 9, .inl (0, 73), .inl (0, 60)]
def bo_P (a : Nat) : Nat → Nat → Option Nat := fun d k => match d, k with
  | 0, 2 => some (a + 1)
  | 0, 3 => some (a + 2)
  | 0, 4 => some (a + 3)
  | 0, 5 => some (a + 10)
  | 3, 1 => some (a + 4)
  | 3, 2 => some (a + 5)
  | 3, 3 => some (a + 6)
  | 3, 4 => some (a + 7)
  | 3, 5 => some (a + 8)
  | 3, 6 => some (a + 9)
  | 10, 2 => some (a + 11)
  | 10, 4 => some (a + 12)
  | _, _ => none
def bo_C (a : Nat) (p : Nat) : List AC := [.inr (0, [.ref p, .int 0, .ref (a + 1), .ref (a + 2), .ref (a + 3), .ref (a + 10)]), .inl (0, 60, .inl (fun _ => 0)), .inl (0, 12, .inl (fun _ => 0)), .inr (7, [.int 0, .ref (a + 4), .ref (a + 5), .ref (a + 6), .ref (a + 7), .ref (a + 8), .ref (a + 9)]), .inl (0, 60, .inl (fun _ => 0)), .inl (0, 60, .inl (fun _ => 0)), .inl (2, 60, .inl (fun _ => 0)), .inl (0, 60, .inl (fun _ => 0)), .inl (0, 240, .inl (fun _ => 0)), .inl (0, 60, .inl (fun _ => 0)), .inr (9, [.int 0, .int 0, .ref (a + 11), .int 0, .ref (a + 12)]), .inl (0, 73, .inl (fun _ => 0)), .inl (0, 60, .inl (fun _ => 0))]
set_option maxRecDepth 100000 in
theorem bo_blk {K : HK} {pr rr : HP} {pt : Nat → Nat} {M : ZM} {lg : Nat → Nat → Int64} {a : Nat} {p : Nat} : blk (hp K pr pt rr (LI M) lg) a (bo_C a p) = hp (xK K a bo_K) (xP pr a 13 (bo_P a)) (upt pt a p) (xP rr a 13 (fun _ _ => none)) (LI (xM M a 13 (fun _ _ => 0))) (xL lg a 13) := by
  refine hp_blk (fun d hd => ?_) (fun j hj => x_out rfl (by decide) j hj)
  rcases d with _ | d
  · refine (h_obj (show xK K a bo_K (a + 0) = some (.inr 0) from xK_in (by decide))).trans ?_
    show some (Sum.inr (0, [.ref (upt pt a p (a + 0)), .int (LI (xM M a 13 (fun _ _ => 0)) (a + 0) 1), va_rf (xP pr a 13 (bo_P a) (a + 0) 2), va_rf (xP pr a 13 (bo_P a) (a + 0) 3), va_rf (xP pr a 13 (bo_P a) (a + 0) 4), va_rf (xP pr a 13 (bo_P a) (a + 0) 5)])) = some (Sum.inr (0, [.ref p, .int 0, .ref (a + 1), .ref (a + 2), .ref (a + 3), .ref (a + 10)]))
    simp only [LI_in (M := M) (a := a) (f := (fun _ _ => 0)) (show 0 < 13 by decide), xP_in (pr := pr) (a := a) (f := (bo_P a)) (show 0 < 13 by decide), upt_a0]
    rfl
  rcases d with _ | d
  · exact (h_arr (show xK K a bo_K (a + 1) = some (.inl (0, 60)) from xK_in (by decide)) (by decide)).trans (by rw [LI_in0 (d := 1) (by decide) (by funext e; rfl)]; rfl)
  rcases d with _ | d
  · exact (h_arr (show xK K a bo_K (a + 2) = some (.inl (0, 12)) from xK_in (by decide)) (by decide)).trans (by rw [LI_in0 (d := 2) (by decide) (by funext e; rfl)]; rfl)
  rcases d with _ | d
  · refine (h_obj (show xK K a bo_K (a + 3) = some (.inr 7) from xK_in (by decide))).trans ?_
    show some (Sum.inr (7, [.int (LI (xM M a 13 (fun _ _ => 0)) (a + 3) 0), va_rf (xP pr a 13 (bo_P a) (a + 3) 1), va_rf (xP pr a 13 (bo_P a) (a + 3) 2), va_rf (xP pr a 13 (bo_P a) (a + 3) 3), va_rf (xP pr a 13 (bo_P a) (a + 3) 4), va_rf (xP pr a 13 (bo_P a) (a + 3) 5), va_rf (xP pr a 13 (bo_P a) (a + 3) 6)])) = some (Sum.inr (7, [.int 0, .ref (a + 4), .ref (a + 5), .ref (a + 6), .ref (a + 7), .ref (a + 8), .ref (a + 9)]))
    simp only [LI_in (M := M) (a := a) (f := (fun _ _ => 0)) (show 3 < 13 by decide), xP_in (pr := pr) (a := a) (f := (bo_P a)) (show 3 < 13 by decide)]
    rfl
  rcases d with _ | d
  · exact (h_arr (show xK K a bo_K (a + 4) = some (.inl (0, 60)) from xK_in (by decide)) (by decide)).trans (by rw [LI_in0 (d := 4) (by decide) (by funext e; rfl)]; rfl)
  rcases d with _ | d
  · exact (h_arr (show xK K a bo_K (a + 5) = some (.inl (0, 60)) from xK_in (by decide)) (by decide)).trans (by rw [LI_in0 (d := 5) (by decide) (by funext e; rfl)]; rfl)
  rcases d with _ | d
  · exact (h_arr (show xK K a bo_K (a + 6) = some (.inl (2, 60)) from xK_in (by decide)) (by decide)).trans (by rw [LI_in0 (d := 6) (by decide) (by funext e; rfl)]; rfl)
  rcases d with _ | d
  · exact (h_arr (show xK K a bo_K (a + 7) = some (.inl (0, 60)) from xK_in (by decide)) (by decide)).trans (by rw [LI_in0 (d := 7) (by decide) (by funext e; rfl)]; rfl)
  rcases d with _ | d
  · exact (h_arr (show xK K a bo_K (a + 8) = some (.inl (0, 240)) from xK_in (by decide)) (by decide)).trans (by rw [LI_in0 (d := 8) (by decide) (by funext e; rfl)]; rfl)
  rcases d with _ | d
  · exact (h_arr (show xK K a bo_K (a + 9) = some (.inl (0, 60)) from xK_in (by decide)) (by decide)).trans (by rw [LI_in0 (d := 9) (by decide) (by funext e; rfl)]; rfl)
  rcases d with _ | d
  · refine (h_obj (show xK K a bo_K (a + 10) = some (.inr 9) from xK_in (by decide))).trans ?_
    show some (Sum.inr (9, [.int (LI (xM M a 13 (fun _ _ => 0)) (a + 10) 0), .int (LI (xM M a 13 (fun _ _ => 0)) (a + 10) 1), va_rf (xP pr a 13 (bo_P a) (a + 10) 2), .int (LI (xM M a 13 (fun _ _ => 0)) (a + 10) 3), va_rf (xP pr a 13 (bo_P a) (a + 10) 4)])) = some (Sum.inr (9, [.int 0, .int 0, .ref (a + 11), .int 0, .ref (a + 12)]))
    simp only [LI_in (M := M) (a := a) (f := (fun _ _ => 0)) (show 10 < 13 by decide), xP_in (pr := pr) (a := a) (f := (bo_P a)) (show 10 < 13 by decide)]
    rfl
  rcases d with _ | d
  · exact (h_arr (show xK K a bo_K (a + 11) = some (.inl (0, 73)) from xK_in (by decide)) (by decide)).trans (by rw [LI_in0 (d := 11) (by decide) (by funext e; rfl)]; rfl)
  rcases d with _ | d
  · exact (h_arr (show xK K a bo_K (a + 12) = some (.inl (0, 60)) from xK_in (by decide)) (by decide)).trans (by rw [LI_in0 (d := 12) (by decide) (by funext e; rfl)]; rfl)
  · exact absurd hd (by simp only [bo_C, List.length_cons, List.length_nil]; omega)
def mk_K : List ((Nat × Nat) ⊕ Nat) := [.inr 1, .inl (0, 73), .inl (0, 48)]
def mk_P (a : Nat) (p : Nat) : Nat → Nat → Option Nat := fun d k => match d, k with
  | 0, 0 => some p
  | 0, 1 => some (p + 3)
  | 0, 2 => some (a + 1)
  | 0, 6 => some (a + 2)
  | _, _ => none
def mk_C (a : Nat) (p : Nat) : List AC := [.inr (1, [.ref p, .ref (p + 3), .ref (a + 1), .int 0, .int 0, .long 0, .ref (a + 2)]), .inl (0, 73, .inl (fun _ => 0)), .inl (0, 48, .inl (fun _ => 0))]
set_option maxRecDepth 100000 in
theorem mk_blk {K : HK} {pr rr : HP} {pt : Nat → Nat} {M : ZM} {lg : Nat → Nat → Int64} {a : Nat} {p : Nat} : blk (hp K pr pt rr (LI M) lg) a (mk_C a p) = hp (xK K a mk_K) (xP pr a 3 (mk_P a p)) pt (xP rr a 3 (fun _ _ => none)) (LI (xM M a 3 (fun _ _ => 0))) (xL lg a 3) := by
  refine hp_blk (fun d hd => ?_) (fun j hj => ⟨xK_out hj, xP_out hj, rfl, xP_out hj, LI_out hj, xL_out hj⟩)
  rcases d with _ | d
  · refine (h_obj (show xK K a mk_K (a + 0) = some (.inr 1) from xK_in (by decide))).trans ?_
    show some (Sum.inr (1, [va_rf (xP pr a 3 (mk_P a p) (a + 0) 0), va_rf (xP pr a 3 (mk_P a p) (a + 0) 1), va_rf (xP pr a 3 (mk_P a p) (a + 0) 2), .int (LI (xM M a 3 (fun _ _ => 0)) (a + 0) 3), .int (LI (xM M a 3 (fun _ _ => 0)) (a + 0) 4), .long (xL lg a 3 (a + 0) 5), va_rf (xP pr a 3 (mk_P a p) (a + 0) 6)])) = some (Sum.inr (1, [.ref p, .ref (p + 3), .ref (a + 1), .int 0, .int 0, .long 0, .ref (a + 2)]))
    simp only [LI_in (M := M) (a := a) (f := (fun _ _ => 0)) (show 0 < 3 by decide), xP_in (pr := pr) (a := a) (f := (mk_P a p)) (show 0 < 3 by decide), xL_in (lg := lg) (a := a) (show 0 < 3 by decide)]
    rfl
  rcases d with _ | d
  · exact (h_arr (show xK K a mk_K (a + 1) = some (.inl (0, 73)) from xK_in (by decide)) (by decide)).trans (by rw [LI_in0 (d := 1) (by decide) (by funext e; rfl)]; rfl)
  rcases d with _ | d
  · exact (h_arr (show xK K a mk_K (a + 2) = some (.inl (0, 48)) from xK_in (by decide)) (by decide)).trans (by rw [LI_in0 (d := 2) (by decide) (by funext e; rfl)]; rfl)
  · exact absurd hd (by simp only [mk_C, List.length_cons, List.length_nil]; omega)
def pl_K : List ((Nat × Nat) ⊕ Nat) := [.inr 5, .inl (0, 12), .inl (0, 12), .inl (0, 12)]
def pl_P (a : Nat) : Nat → Nat → Option Nat := fun d k => match d, k with
  | 0, 2 => some (a + 1)
  | 0, 3 => some (a + 2)
  | 0, 5 => some (a + 3)
  | _, _ => none
def pl_M : Nat → Int → Int := fun d e => if d = 0 ∧ e = 6 then -3 else 0
def pl_C (a : Nat) (p : Nat) : List AC := [.inr (5, [.ref p, .int 0, .ref (a + 1), .ref (a + 2), .int 0, .ref (a + 3), .int (-3), .long 0, .int 0]), .inl (0, 12, .inl (fun _ => 0)), .inl (0, 12, .inl (fun _ => 0)), .inl (0, 12, .inl (fun _ => 0))]
set_option maxRecDepth 100000 in
theorem pl_blk {K : HK} {pr rr : HP} {pt : Nat → Nat} {M : ZM} {lg : Nat → Nat → Int64} {a : Nat} {p : Nat} : blk (hp K pr pt rr (LI M) lg) a (pl_C a p) = hp (xK K a pl_K) (xP pr a 4 (pl_P a)) (upt pt a p) (xP rr a 4 (fun _ _ => none)) (LI (xM M a 4 pl_M)) (xL lg a 4) := by
  refine hp_blk (fun d hd => ?_) (fun j hj => x_out rfl (by decide) j hj)
  rcases d with _ | d
  · refine (h_obj (show xK K a pl_K (a + 0) = some (.inr 5) from xK_in (by decide))).trans ?_
    show some (Sum.inr (5, [.ref (upt pt a p (a + 0)), .int (LI (xM M a 4 pl_M) (a + 0) 1), va_rf (xP pr a 4 (pl_P a) (a + 0) 2), va_rf (xP pr a 4 (pl_P a) (a + 0) 3), .int (LI (xM M a 4 pl_M) (a + 0) 4), va_rf (xP pr a 4 (pl_P a) (a + 0) 5), .int (LI (xM M a 4 pl_M) (a + 0) 6), .long (xL lg a 4 (a + 0) 7), .int (LI (xM M a 4 pl_M) (a + 0) 8)])) = some (Sum.inr (5, [.ref p, .int 0, .ref (a + 1), .ref (a + 2), .int 0, .ref (a + 3), .int (-3), .long 0, .int 0]))
    simp only [LI_in (M := M) (a := a) (f := pl_M) (show 0 < 4 by decide), xP_in (pr := pr) (a := a) (f := (pl_P a)) (show 0 < 4 by decide), xL_in (lg := lg) (a := a) (show 0 < 4 by decide), upt_a0]
    rfl
  rcases d with _ | d
  · exact (h_arr (show xK K a pl_K (a + 1) = some (.inl (0, 12)) from xK_in (by decide)) (by decide)).trans (by rw [LI_in0 (d := 1) (by decide) (by funext e; simp [pl_M])]; rfl)
  rcases d with _ | d
  · exact (h_arr (show xK K a pl_K (a + 2) = some (.inl (0, 12)) from xK_in (by decide)) (by decide)).trans (by rw [LI_in0 (d := 2) (by decide) (by funext e; simp [pl_M])]; rfl)
  rcases d with _ | d
  · exact (h_arr (show xK K a pl_K (a + 3) = some (.inl (0, 12)) from xK_in (by decide)) (by decide)).trans (by rw [LI_in0 (d := 3) (by decide) (by funext e; simp [pl_M])]; rfl)
  · exact absurd hd (by simp only [pl_C, List.length_cons, List.length_nil]; omega)
def rd_K : List ((Nat × Nat) ⊕ Nat) := [.inr 6, .inr 3, .inl (0, 12), .inl (0, 12), .inl (0, 12), .inl (0, 12), .inl (2, 12), .inl (0, 12), .inl (0, 12), .inl (0, 48), .inl (0, 12), .inr 8]
def rd_P (a : Nat) (p : Nat) : Nat → Nat → Option Nat := fun d k => match d, k with
  | 0, 0 => some (a + 11)
  | 0, 1 => some (a + 1)
  | 0, 2 => some (a + 10)
  | 1, 1 => some (a + 2)
  | 1, 2 => some (a + 3)
  | 1, 3 => some (a + 4)
  | 1, 4 => some (a + 5)
  | 1, 5 => some (a + 6)
  | 1, 6 => some (a + 7)
  | 1, 7 => some (a + 8)
  | 1, 8 => some (a + 9)
  | 11, 0 => some p
  | _, _ => none
def rd_M (v : Int) : Nat → Int → Int := fun d e => if d = 0 ∧ e = 7 then -1 else if d = 11 ∧ e = 1 then v else 0
def rd_C (a : Nat) (p : Nat) (v : Int) : List AC := [.inr (6, [.ref (a + 11), .ref (a + 1), .ref (a + 10), .int 0, .int 0, .int 0, .int 0, .int (-1)]), .inr (3, [.int 0, .ref (a + 2), .ref (a + 3), .ref (a + 4), .ref (a + 5), .ref (a + 6), .ref (a + 7), .ref (a + 8), .ref (a + 9)]), .inl (0, 12, .inl (fun _ => 0)), .inl (0, 12, .inl (fun _ => 0)), .inl (0, 12, .inl (fun _ => 0)), .inl (0, 12, .inl (fun _ => 0)), .inl (2, 12, .inl (fun _ => 0)), .inl (0, 12, .inl (fun _ => 0)), .inl (0, 12, .inl (fun _ => 0)), .inl (0, 48, .inl (fun _ => 0)), .inl (0, 12, .inl (fun _ => 0)), .inr (8, [.ref p, .int (zt v), .int 0, .int 0, .int 0, .int 0])]
set_option maxRecDepth 100000 in
theorem rd_blk {K : HK} {pr rr : HP} {pt : Nat → Nat} {M : ZM} {lg : Nat → Nat → Int64} {a : Nat} {p : Nat} {v : Int} : blk (hp K pr pt rr (LI M) lg) a (rd_C a p v) = hp (xK K a rd_K) (xP pr a 12 (rd_P a p)) pt (xP rr a 12 (fun _ _ => none)) (LI (xM M a 12 (rd_M v))) (xL lg a 12) := by
  refine hp_blk (fun d hd => ?_) (fun j hj => ⟨xK_out hj, xP_out hj, rfl, xP_out hj, LI_out hj, xL_out hj⟩)
  rcases d with _ | d
  · refine (h_obj (show xK K a rd_K (a + 0) = some (.inr 6) from xK_in (by decide))).trans ?_
    show some (Sum.inr (6, [va_rf (xP pr a 12 (rd_P a p) (a + 0) 0), va_rf (xP pr a 12 (rd_P a p) (a + 0) 1), va_rf (xP pr a 12 (rd_P a p) (a + 0) 2), .int (LI (xM M a 12 (rd_M v)) (a + 0) 3), .int (LI (xM M a 12 (rd_M v)) (a + 0) 4), .int (LI (xM M a 12 (rd_M v)) (a + 0) 5), .int (LI (xM M a 12 (rd_M v)) (a + 0) 6), .int (LI (xM M a 12 (rd_M v)) (a + 0) 7)])) = some (Sum.inr (6, [.ref (a + 11), .ref (a + 1), .ref (a + 10), .int 0, .int 0, .int 0, .int 0, .int (-1)]))
    simp only [LI_in (M := M) (a := a) (f := (rd_M v)) (show 0 < 12 by decide), xP_in (pr := pr) (a := a) (f := (rd_P a p)) (show 0 < 12 by decide)]
    rfl
  rcases d with _ | d
  · refine (h_obj (show xK K a rd_K (a + 1) = some (.inr 3) from xK_in (by decide))).trans ?_
    show some (Sum.inr (3, [.int (LI (xM M a 12 (rd_M v)) (a + 1) 0), va_rf (xP pr a 12 (rd_P a p) (a + 1) 1), va_rf (xP pr a 12 (rd_P a p) (a + 1) 2), va_rf (xP pr a 12 (rd_P a p) (a + 1) 3), va_rf (xP pr a 12 (rd_P a p) (a + 1) 4), va_rf (xP pr a 12 (rd_P a p) (a + 1) 5), va_rf (xP pr a 12 (rd_P a p) (a + 1) 6), va_rf (xP pr a 12 (rd_P a p) (a + 1) 7), va_rf (xP pr a 12 (rd_P a p) (a + 1) 8)])) = some (Sum.inr (3, [.int 0, .ref (a + 2), .ref (a + 3), .ref (a + 4), .ref (a + 5), .ref (a + 6), .ref (a + 7), .ref (a + 8), .ref (a + 9)]))
    simp only [LI_in (M := M) (a := a) (f := (rd_M v)) (show 1 < 12 by decide), xP_in (pr := pr) (a := a) (f := (rd_P a p)) (show 1 < 12 by decide)]
    rfl
  rcases d with _ | d
  · exact (h_arr (show xK K a rd_K (a + 2) = some (.inl (0, 12)) from xK_in (by decide)) (by decide)).trans (by rw [LI_in0 (d := 2) (by decide) (by funext e; simp [rd_M])]; rfl)
  rcases d with _ | d
  · exact (h_arr (show xK K a rd_K (a + 3) = some (.inl (0, 12)) from xK_in (by decide)) (by decide)).trans (by rw [LI_in0 (d := 3) (by decide) (by funext e; simp [rd_M])]; rfl)
  rcases d with _ | d
  · exact (h_arr (show xK K a rd_K (a + 4) = some (.inl (0, 12)) from xK_in (by decide)) (by decide)).trans (by rw [LI_in0 (d := 4) (by decide) (by funext e; simp [rd_M])]; rfl)
  rcases d with _ | d
  · exact (h_arr (show xK K a rd_K (a + 5) = some (.inl (0, 12)) from xK_in (by decide)) (by decide)).trans (by rw [LI_in0 (d := 5) (by decide) (by funext e; simp [rd_M])]; rfl)
  rcases d with _ | d
  · exact (h_arr (show xK K a rd_K (a + 6) = some (.inl (2, 12)) from xK_in (by decide)) (by decide)).trans (by rw [LI_in0 (d := 6) (by decide) (by funext e; simp [rd_M])]; rfl)
  rcases d with _ | d
  · exact (h_arr (show xK K a rd_K (a + 7) = some (.inl (0, 12)) from xK_in (by decide)) (by decide)).trans (by rw [LI_in0 (d := 7) (by decide) (by funext e; simp [rd_M])]; rfl)
  rcases d with _ | d
  · exact (h_arr (show xK K a rd_K (a + 8) = some (.inl (0, 12)) from xK_in (by decide)) (by decide)).trans (by rw [LI_in0 (d := 8) (by decide) (by funext e; simp [rd_M])]; rfl)
  rcases d with _ | d
  · exact (h_arr (show xK K a rd_K (a + 9) = some (.inl (0, 48)) from xK_in (by decide)) (by decide)).trans (by rw [LI_in0 (d := 9) (by decide) (by funext e; simp [rd_M])]; rfl)
  rcases d with _ | d
  · exact (h_arr (show xK K a rd_K (a + 10) = some (.inl (0, 12)) from xK_in (by decide)) (by decide)).trans (by rw [LI_in0 (d := 10) (by decide) (by funext e; simp [rd_M])]; rfl)
  rcases d with _ | d
  · refine (h_obj (show xK K a rd_K (a + 11) = some (.inr 8) from xK_in (by decide))).trans ?_
    show some (Sum.inr (8, [va_rf (xP pr a 12 (rd_P a p) (a + 11) 0), .int (LI (xM M a 12 (rd_M v)) (a + 11) 1), .int (LI (xM M a 12 (rd_M v)) (a + 11) 2), .int (LI (xM M a 12 (rd_M v)) (a + 11) 3), .int (LI (xM M a 12 (rd_M v)) (a + 11) 4), .int (LI (xM M a 12 (rd_M v)) (a + 11) 5)])) = some (Sum.inr (8, [.ref p, .int (zt v), .int 0, .int 0, .int 0, .int 0]))
    simp only [LI_in (M := M) (a := a) (f := (rd_M v)) (show 11 < 12 by decide), xP_in (pr := pr) (a := a) (f := (rd_P a p)) (show 11 < 12 by decide)]
    rfl
  · exact absurd hd (by simp only [rd_C, List.length_cons, List.length_nil]; omega)
def mo_K : List ((Nat × Nat) ⊕ Nat) := [.inr 11, .inl (0, 4470), .inl (1, 2400), .inl (2, 3), .inl (0, 7128), .inl (0, 891), .inl (0, 300), .inl (0, 300), .inl (0, 11), .inl (0, 16), .inl (0, 16), .inl (0, 16), .inl (0, 16), .inl (0, 64), .inl (0, 64), .inl (0, 64), .inl (0, 60), .inl (0, 12), .inl (0, 12), .inl (0, 13), .inl (0, 3)]
def mo_P (a : Nat) : Nat → Nat → Option Nat := fun d k => match d, k with
  | 0, 1 => some (a + 1)
  | 0, 2 => some (a + 2)
  | 0, 3 => some (a + 3)
  | 0, 4 => some (a + 4)
  | 0, 16 => some (a + 5)
  | 0, 17 => some (a + 6)
  | 0, 18 => some (a + 7)
  | 0, 20 => some (a + 8)
  | 0, 21 => some (a + 9)
  | 0, 22 => some (a + 10)
  | 0, 23 => some (a + 11)
  | 0, 24 => some (a + 12)
  | 0, 25 => some (a + 13)
  | 0, 27 => some (a + 14)
  | 0, 28 => some (a + 15)
  | 0, 30 => some (a + 16)
  | 0, 31 => some (a + 17)
  | 0, 33 => some (a + 18)
  | 0, 34 => some (a + 19)
  | 0, 36 => some (a + 20)
  | _, _ => none
def mo_C (a : Nat) : List AC := [.inr (11, [.int 0, .ref (a + 1), .ref (a + 2), .ref (a + 3), .ref (a + 4), .int 0, .int 0, .int 0, .int 0, .int 0, .int 0, .int 0, .long 0, .int 0, .int 0, .int 0, .ref (a + 5), .ref (a + 6), .ref (a + 7), .int 0, .ref (a + 8), .ref (a + 9), .ref (a + 10), .ref (a + 11), .ref (a + 12), .ref (a + 13), .int 0, .ref (a + 14), .ref (a + 15), .int 0, .ref (a + 16), .ref (a + 17), .int 0, .ref (a + 18), .ref (a + 19), .int 0, .ref (a + 20)]), .inl (0, 4470, .inl (fun _ => 0)), .inl (1, 2400, .inl (fun _ => 0)), .inl (2, 3, .inl (fun _ => 0)), .inl (0, 7128, .inl (fun _ => 0)), .inl (0, 891, .inl (fun _ => 0)), .inl (0, 300, .inl (fun _ => 0)), .inl (0, 300, .inl (fun _ => 0)), .inl (0, 11, .inl (fun _ => 0)), .inl (0, 16, .inl (fun _ => 0)), .inl (0, 16, .inl (fun _ => 0)), .inl (0, 16, .inl (fun _ => 0)), .inl (0, 16, .inl (fun _ => 0)), .inl (0, 64, .inl (fun _ => 0)), .inl (0, 64, .inl (fun _ => 0)), .inl (0, 64, .inl (fun _ => 0)), .inl (0, 60, .inl (fun _ => 0)), .inl (0, 12, .inl (fun _ => 0)), .inl (0, 12, .inl (fun _ => 0)), .inl (0, 13, .inl (fun _ => 0)), .inl (0, 3, .inl (fun _ => 0))]
set_option maxRecDepth 100000 in
theorem mo_blk {K : HK} {pr rr : HP} {pt : Nat → Nat} {M : ZM} {lg : Nat → Nat → Int64} {a : Nat} : blk (hp K pr pt rr (LI M) lg) a (mo_C a) = hp (xK K a mo_K) (xP pr a 21 (mo_P a)) pt (xP rr a 21 (fun _ _ => none)) (LI (xM M a 21 (fun _ _ => 0))) (xL lg a 21) := by
  refine hp_blk (fun d hd => ?_) (fun j hj => ⟨xK_out hj, xP_out hj, rfl, xP_out hj, LI_out hj, xL_out hj⟩)
  rcases d with _ | d
  · refine (h_obj (show xK K a mo_K (a + 0) = some (.inr 11) from xK_in (by decide))).trans ?_
    show some (Sum.inr (11, [.int (LI (xM M a 21 (fun _ _ => 0)) (a + 0) 0), va_rf (xP pr a 21 (mo_P a) (a + 0) 1), va_rf (xP pr a 21 (mo_P a) (a + 0) 2), va_rf (xP pr a 21 (mo_P a) (a + 0) 3), va_rf (xP pr a 21 (mo_P a) (a + 0) 4), .int (LI (xM M a 21 (fun _ _ => 0)) (a + 0) 5), .int (LI (xM M a 21 (fun _ _ => 0)) (a + 0) 6), .int (LI (xM M a 21 (fun _ _ => 0)) (a + 0) 7), .int (LI (xM M a 21 (fun _ _ => 0)) (a + 0) 8), .int (LI (xM M a 21 (fun _ _ => 0)) (a + 0) 9), .int (LI (xM M a 21 (fun _ _ => 0)) (a + 0) 10), .int (LI (xM M a 21 (fun _ _ => 0)) (a + 0) 11), .long (xL lg a 21 (a + 0) 12), .int (LI (xM M a 21 (fun _ _ => 0)) (a + 0) 13), .int (LI (xM M a 21 (fun _ _ => 0)) (a + 0) 14), .int (LI (xM M a 21 (fun _ _ => 0)) (a + 0) 15), va_rf (xP pr a 21 (mo_P a) (a + 0) 16), va_rf (xP pr a 21 (mo_P a) (a + 0) 17), va_rf (xP pr a 21 (mo_P a) (a + 0) 18), .int (LI (xM M a 21 (fun _ _ => 0)) (a + 0) 19), va_rf (xP pr a 21 (mo_P a) (a + 0) 20), va_rf (xP pr a 21 (mo_P a) (a + 0) 21), va_rf (xP pr a 21 (mo_P a) (a + 0) 22), va_rf (xP pr a 21 (mo_P a) (a + 0) 23), va_rf (xP pr a 21 (mo_P a) (a + 0) 24), va_rf (xP pr a 21 (mo_P a) (a + 0) 25), .int (LI (xM M a 21 (fun _ _ => 0)) (a + 0) 26), va_rf (xP pr a 21 (mo_P a) (a + 0) 27), va_rf (xP pr a 21 (mo_P a) (a + 0) 28), .int (LI (xM M a 21 (fun _ _ => 0)) (a + 0) 29), va_rf (xP pr a 21 (mo_P a) (a + 0) 30), va_rf (xP pr a 21 (mo_P a) (a + 0) 31), .int (LI (xM M a 21 (fun _ _ => 0)) (a + 0) 32), va_rf (xP pr a 21 (mo_P a) (a + 0) 33), va_rf (xP pr a 21 (mo_P a) (a + 0) 34), .int (LI (xM M a 21 (fun _ _ => 0)) (a + 0) 35), va_rf (xP pr a 21 (mo_P a) (a + 0) 36)])) = some (Sum.inr (11, [.int 0, .ref (a + 1), .ref (a + 2), .ref (a + 3), .ref (a + 4), .int 0, .int 0, .int 0, .int 0, .int 0, .int 0, .int 0, .long 0, .int 0, .int 0, .int 0, .ref (a + 5), .ref (a + 6), .ref (a + 7), .int 0, .ref (a + 8), .ref (a + 9), .ref (a + 10), .ref (a + 11), .ref (a + 12), .ref (a + 13), .int 0, .ref (a + 14), .ref (a + 15), .int 0, .ref (a + 16), .ref (a + 17), .int 0, .ref (a + 18), .ref (a + 19), .int 0, .ref (a + 20)]))
    simp only [LI_in (M := M) (a := a) (f := (fun _ _ => 0)) (show 0 < 21 by decide), xP_in (pr := pr) (a := a) (f := (mo_P a)) (show 0 < 21 by decide), xL_in (lg := lg) (a := a) (show 0 < 21 by decide)]
    rfl
  rcases d with _ | d
  · exact (h_arr (show xK K a mo_K (a + 1) = some (.inl (0, 4470)) from xK_in (by decide)) (by decide)).trans (by rw [LI_in0 (d := 1) (by decide) (by funext e; rfl)]; rfl)
  rcases d with _ | d
  · exact (h_arr (show xK K a mo_K (a + 2) = some (.inl (1, 2400)) from xK_in (by decide)) (by decide)).trans (by rw [LI_in0 (d := 2) (by decide) (by funext e; rfl)]; rfl)
  rcases d with _ | d
  · exact (h_arr (show xK K a mo_K (a + 3) = some (.inl (2, 3)) from xK_in (by decide)) (by decide)).trans (by rw [LI_in0 (d := 3) (by decide) (by funext e; rfl)]; rfl)
  rcases d with _ | d
  · exact (h_arr (show xK K a mo_K (a + 4) = some (.inl (0, 7128)) from xK_in (by decide)) (by decide)).trans (by rw [LI_in0 (d := 4) (by decide) (by funext e; rfl)]; rfl)
  rcases d with _ | d
  · exact (h_arr (show xK K a mo_K (a + 5) = some (.inl (0, 891)) from xK_in (by decide)) (by decide)).trans (by rw [LI_in0 (d := 5) (by decide) (by funext e; rfl)]; rfl)
  rcases d with _ | d
  · exact (h_arr (show xK K a mo_K (a + 6) = some (.inl (0, 300)) from xK_in (by decide)) (by decide)).trans (by rw [LI_in0 (d := 6) (by decide) (by funext e; rfl)]; rfl)
  rcases d with _ | d
  · exact (h_arr (show xK K a mo_K (a + 7) = some (.inl (0, 300)) from xK_in (by decide)) (by decide)).trans (by rw [LI_in0 (d := 7) (by decide) (by funext e; rfl)]; rfl)
  rcases d with _ | d
  · exact (h_arr (show xK K a mo_K (a + 8) = some (.inl (0, 11)) from xK_in (by decide)) (by decide)).trans (by rw [LI_in0 (d := 8) (by decide) (by funext e; rfl)]; rfl)
  rcases d with _ | d
  · exact (h_arr (show xK K a mo_K (a + 9) = some (.inl (0, 16)) from xK_in (by decide)) (by decide)).trans (by rw [LI_in0 (d := 9) (by decide) (by funext e; rfl)]; rfl)
  rcases d with _ | d
  · exact (h_arr (show xK K a mo_K (a + 10) = some (.inl (0, 16)) from xK_in (by decide)) (by decide)).trans (by rw [LI_in0 (d := 10) (by decide) (by funext e; rfl)]; rfl)
  rcases d with _ | d
  · exact (h_arr (show xK K a mo_K (a + 11) = some (.inl (0, 16)) from xK_in (by decide)) (by decide)).trans (by rw [LI_in0 (d := 11) (by decide) (by funext e; rfl)]; rfl)
  rcases d with _ | d
  · exact (h_arr (show xK K a mo_K (a + 12) = some (.inl (0, 16)) from xK_in (by decide)) (by decide)).trans (by rw [LI_in0 (d := 12) (by decide) (by funext e; rfl)]; rfl)
  rcases d with _ | d
  · exact (h_arr (show xK K a mo_K (a + 13) = some (.inl (0, 64)) from xK_in (by decide)) (by decide)).trans (by rw [LI_in0 (d := 13) (by decide) (by funext e; rfl)]; rfl)
  rcases d with _ | d
  · exact (h_arr (show xK K a mo_K (a + 14) = some (.inl (0, 64)) from xK_in (by decide)) (by decide)).trans (by rw [LI_in0 (d := 14) (by decide) (by funext e; rfl)]; rfl)
  rcases d with _ | d
  · exact (h_arr (show xK K a mo_K (a + 15) = some (.inl (0, 64)) from xK_in (by decide)) (by decide)).trans (by rw [LI_in0 (d := 15) (by decide) (by funext e; rfl)]; rfl)
  rcases d with _ | d
  · exact (h_arr (show xK K a mo_K (a + 16) = some (.inl (0, 60)) from xK_in (by decide)) (by decide)).trans (by rw [LI_in0 (d := 16) (by decide) (by funext e; rfl)]; rfl)
  rcases d with _ | d
  · exact (h_arr (show xK K a mo_K (a + 17) = some (.inl (0, 12)) from xK_in (by decide)) (by decide)).trans (by rw [LI_in0 (d := 17) (by decide) (by funext e; rfl)]; rfl)
  rcases d with _ | d
  · exact (h_arr (show xK K a mo_K (a + 18) = some (.inl (0, 12)) from xK_in (by decide)) (by decide)).trans (by rw [LI_in0 (d := 18) (by decide) (by funext e; rfl)]; rfl)
  rcases d with _ | d
  · exact (h_arr (show xK K a mo_K (a + 19) = some (.inl (0, 13)) from xK_in (by decide)) (by decide)).trans (by rw [LI_in0 (d := 19) (by decide) (by funext e; rfl)]; rfl)
  rcases d with _ | d
  · exact (h_arr (show xK K a mo_K (a + 20) = some (.inl (0, 3)) from xK_in (by decide)) (by decide)).trans (by rw [LI_in0 (d := 20) (by decide) (by funext e; rfl)]; rfl)
  · exact absurd hd (by simp only [mo_C, List.length_cons, List.length_nil]; omega)
def pb_K : List ((Nat × Nat) ⊕ Nat) := [.inr 10]
def pb_C (a : Nat) : List AC := [.inr (10, [.null, .null, .null, .null, .null, .null, .null, .null, .null])]
set_option maxRecDepth 100000 in
theorem pb_blk {K : HK} {pr rr : HP} {pt : Nat → Nat} {M : ZM} {lg : Nat → Nat → Int64} {a : Nat} : blk (hp K pr pt rr (LI M) lg) a (pb_C a) = hp (xK K a pb_K) (xP pr a 1 (fun _ _ => none)) pt (xP rr a 1 (fun _ _ => none)) (LI (xM M a 1 (fun _ _ => 0))) (xL lg a 1) := by
  refine hp_blk (fun d hd => ?_) (fun j hj => ⟨xK_out hj, xP_out hj, rfl, xP_out hj, LI_out hj, xL_out hj⟩)
  rcases d with _ | d
  · refine (h_obj (show xK K a pb_K (a + 0) = some (.inr 10) from xK_in (by decide))).trans ?_
    show some (Sum.inr (10, [va_rf (xP pr a 1 (fun _ _ => none) (a + 0) 0), va_rf (xP pr a 1 (fun _ _ => none) (a + 0) 1), va_rf (xP pr a 1 (fun _ _ => none) (a + 0) 2), va_rf (xP pr a 1 (fun _ _ => none) (a + 0) 3), va_rf (xP pr a 1 (fun _ _ => none) (a + 0) 4), va_rf (xP pr a 1 (fun _ _ => none) (a + 0) 5), va_rf (xP pr a 1 (fun _ _ => none) (a + 0) 6), va_rf (xP pr a 1 (fun _ _ => none) (a + 0) 7), va_rf (xP pr a 1 (fun _ _ => none) (a + 0) 8)])) = some (Sum.inr (10, [.null, .null, .null, .null, .null, .null, .null, .null, .null]))
    simp only [xP_in (pr := pr) (a := a) (f := (fun _ _ => none)) (show 0 < 1 by decide)]
    rfl
  · exact absurd hd (by simp only [pb_C, List.length_cons, List.length_nil]; omega)
def r4_K : List ((Nat × Nat) ⊕ Nat) := [.inl (4, 3)]
def r4_C (a : Nat) : List AC := [.inl (4, 3, .inr (.inr (.inr (.inr (fun _ => none)))))]
set_option maxRecDepth 100000 in
theorem r4_blk {K : HK} {pr rr : HP} {pt : Nat → Nat} {M : ZM} {lg : Nat → Nat → Int64} {a : Nat} : blk (hp K pr pt rr (LI M) lg) a (r4_C a) = hp (xK K a r4_K) (xP pr a 1 (fun _ _ => none)) pt (xP rr a 1 (fun _ _ => none)) (LI (xM M a 1 (fun _ _ => 0))) (xL lg a 1) := by
  refine hp_blk (fun d hd => ?_) (fun j hj => ⟨xK_out hj, xP_out hj, rfl, xP_out hj, LI_out hj, xL_out hj⟩)
  rcases d with _ | d
  · exact (h_arrR (show xK K a r4_K (a + 0) = some (.inl (4, 3)) from xK_in (by decide)) (by decide)).trans (by rw [show xP rr a 1 (fun _ _ => none) (a + 0) = fun _ => none from funext (fun k => xP_in (by decide))]; rfl)
  · exact absurd hd (by simp only [r4_C, List.length_cons, List.length_nil]; omega)
def r5_K : List ((Nat × Nat) ⊕ Nat) := [.inl (5, 3)]
def r5_C (a : Nat) : List AC := [.inl (5, 3, .inr (.inr (.inr (.inr (fun _ => none)))))]
set_option maxRecDepth 100000 in
theorem r5_blk {K : HK} {pr rr : HP} {pt : Nat → Nat} {M : ZM} {lg : Nat → Nat → Int64} {a : Nat} : blk (hp K pr pt rr (LI M) lg) a (r5_C a) = hp (xK K a r5_K) (xP pr a 1 (fun _ _ => none)) pt (xP rr a 1 (fun _ _ => none)) (LI (xM M a 1 (fun _ _ => 0))) (xL lg a 1) := by
  refine hp_blk (fun d hd => ?_) (fun j hj => ⟨xK_out hj, xP_out hj, rfl, xP_out hj, LI_out hj, xL_out hj⟩)
  rcases d with _ | d
  · exact (h_arrR (show xK K a r5_K (a + 0) = some (.inl (5, 3)) from xK_in (by decide)) (by decide)).trans (by rw [show xP rr a 1 (fun _ _ => none) (a + 0) = fun _ => none from funext (fun k => xP_in (by decide))]; rfl)
  · exact absurd hd (by simp only [r5_C, List.length_cons, List.length_nil]; omega)
def lo_K : List ((Nat × Nat) ⊕ Nat) := [.inl (3, 1)]
def lo_C (a : Nat) : List AC := [.inl (3, 1, .inr (.inl (fun _ => 0)))]
set_option maxRecDepth 100000 in
theorem lo_blk {K : HK} {pr rr : HP} {pt : Nat → Nat} {M : ZM} {lg : Nat → Nat → Int64} {a : Nat} : blk (hp K pr pt rr (LI M) lg) a (lo_C a) = hp (xK K a lo_K) (xP pr a 1 (fun _ _ => none)) pt (xP rr a 1 (fun _ _ => none)) (LI (xM M a 1 (fun _ _ => 0))) (xL lg a 1) := by
  refine hp_blk (fun d hd => ?_) (fun j hj => ⟨xK_out hj, xP_out hj, rfl, xP_out hj, LI_out hj, xL_out hj⟩)
  rcases d with _ | d
  · exact (h_arrL (show xK K a lo_K (a + 0) = some (.inl (3, 1)) from xK_in (by decide))).trans (by rw [show xL lg a 1 (a + 0) = fun _ => 0 from funext (fun k => xL_in (by decide))]; rfl)
  · exact absurd hd (by simp only [lo_C, List.length_cons, List.length_nil]; omega)
section KC
set_option maxRecDepth 100000 in
set_option maxHeartbeats 4000000 in
theorem kc_X3 {F : Nat} {G : GH} {a : Nat} : f_X3_init F a (a + 1) (gset G a (.inr (3, df_X3))) = some (a + 9, blk G a (pt_C a)) := by
  have e0 : gset G a (.inr (3, df_X3)) = gset (blk G (a + 1) []) a (.inr (3, df_X3)) := by rw [blk_nil]
  unfold f_X3_init
  rw [e0, k_put (by exact Nat.le_of_ble_eq_true rfl)]
  rw [k_new (by rfl) (by omega) (by exact Nat.le_of_ble_eq_true rfl)]
  rw [k_new (by rfl) (by omega) (by exact Nat.le_of_ble_eq_true rfl)]
  rw [k_new (by rfl) (by omega) (by exact Nat.le_of_ble_eq_true rfl)]
  rw [k_new (by rfl) (by omega) (by exact Nat.le_of_ble_eq_true rfl)]
  rw [k_new (by rfl) (by omega) (by exact Nat.le_of_ble_eq_true rfl)]
  rw [k_new (by rfl) (by omega) (by exact Nat.le_of_ble_eq_true rfl)]
  rw [k_new (by rfl) (by omega) (by exact Nat.le_of_ble_eq_true rfl)]
  rw [k_new (by rfl) (by omega) (by exact Nat.le_of_ble_eq_true rfl)]
  rw [blk_hd]
  rfl
set_option maxRecDepth 100000 in
set_option maxHeartbeats 4000000 in
theorem kc_X7 {F : Nat} {G : GH} {a : Nat} : f_X7_init F a (a + 1) (gset G a (.inr (7, df_X7))) = some (a + 7, blk G a [.inr (7, [.int 0, .ref (a + 1), .ref (a + 2), .ref (a + 3), .ref (a + 4), .ref (a + 5), .ref (a + 6)]), .inl (0, 60, .inl (fun _ => 0)), .inl (0, 60, .inl (fun _ => 0)), .inl (2, 60, .inl (fun _ => 0)), .inl (0, 60, .inl (fun _ => 0)), .inl (0, 240, .inl (fun _ => 0)), .inl (0, 60, .inl (fun _ => 0))]) := by
  have e0 : gset G a (.inr (7, df_X7)) = gset (blk G (a + 1) []) a (.inr (7, df_X7)) := by rw [blk_nil]
  unfold f_X7_init
  rw [e0, k_put (by exact Nat.le_of_ble_eq_true rfl)]
  rw [k_new (by rfl) (by omega) (by exact Nat.le_of_ble_eq_true rfl)]
  rw [k_new (by rfl) (by omega) (by exact Nat.le_of_ble_eq_true rfl)]
  rw [k_new (by rfl) (by omega) (by exact Nat.le_of_ble_eq_true rfl)]
  rw [k_new (by rfl) (by omega) (by exact Nat.le_of_ble_eq_true rfl)]
  rw [k_new (by rfl) (by omega) (by exact Nat.le_of_ble_eq_true rfl)]
  rw [k_new (by rfl) (by omega) (by exact Nat.le_of_ble_eq_true rfl)]
  rw [blk_hd]
  rfl
set_option maxRecDepth 100000 in
set_option maxHeartbeats 4000000 in
theorem kc_X9 {F : Nat} {G : GH} {a : Nat} : f_X9_init F a (a + 1) (gset G a (.inr (9, df_X9))) = some (a + 3, blk G a [.inr (9, [.int 0, .int 0, .ref (a + 1), .int 0, .ref (a + 2)]), .inl (0, 73, .inl (fun _ => 0)), .inl (0, 60, .inl (fun _ => 0))]) := by
  have e0 : gset G a (.inr (9, df_X9)) = gset (blk G (a + 1) []) a (.inr (9, df_X9)) := by rw [blk_nil]
  unfold f_X9_init
  rw [e0, k_put (by exact Nat.le_of_ble_eq_true rfl), k_put (by exact Nat.le_of_ble_eq_true rfl), k_new (by rfl) (by omega) (by exact Nat.le_of_ble_eq_true rfl), k_put (by exact Nat.le_of_ble_eq_true rfl), k_new (by rfl) (by omega) (by exact Nat.le_of_ble_eq_true rfl), blk_hd]
  rfl
set_option maxRecDepth 100000 in
set_option maxHeartbeats 4000000 in
theorem kc_X2 {F : Nat} {G : GH} {a : Nat} : f_X2_init F a (a + 1) (gset G a (.inr (2, df_X2))) = some (a + 2, blk G a (pa_C a)) := by
  have e0 : gset G a (.inr (2, df_X2)) = gset (blk G (a + 1) []) a (.inr (2, df_X2)) := by rw [blk_nil]
  unfold f_X2_init
  rw [e0, k_new (by rfl) (by omega) (by exact Nat.le_of_ble_eq_true rfl), k_put (by exact Nat.le_of_ble_eq_true rfl), k_put (by exact Nat.le_of_ble_eq_true rfl), k_put (by exact Nat.le_of_ble_eq_true rfl), blk_hd]
  rfl
set_option maxRecDepth 100000 in
set_option maxHeartbeats 4000000 in
theorem kc_X4 {F : Nat} {G : GH} {a : Nat} : f_X4_init F a (a + 1) (gset G a (.inr (4, df_X4))) = some (a + 2, blk G a (ps_C a)) := by
  have e0 : gset G a (.inr (4, df_X4)) = gset (blk G (a + 1) []) a (.inr (4, df_X4)) := by rw [blk_nil]
  unfold f_X4_init
  rw [e0, k_new (by rfl) (by omega) (by exact Nat.le_of_ble_eq_true rfl), k_put (by exact Nat.le_of_ble_eq_true rfl), k_put (by exact Nat.le_of_ble_eq_true rfl), blk_hd]
  rfl
set_option maxRecDepth 100000 in
set_option maxHeartbeats 4000000 in
theorem kc_X5 {F : Nat} {G : GH} {a p : Nat} : f_X5_init F a p (a + 1) (gset G a (.inr (5, df_X5))) = some (a + 4, blk G a (pl_C a p)) := by
  have e0 : gset G a (.inr (5, df_X5)) = gset (blk G (a + 1) []) a (.inr (5, df_X5)) := by rw [blk_nil]
  unfold f_X5_init
  rw [e0, k_put (by exact Nat.le_of_ble_eq_true rfl), k_new (by rfl) (by omega) (by exact Nat.le_of_ble_eq_true rfl), k_new (by rfl) (by omega) (by exact Nat.le_of_ble_eq_true rfl), k_put (by exact Nat.le_of_ble_eq_true rfl), k_new (by rfl) (by omega) (by exact Nat.le_of_ble_eq_true rfl), k_put (by exact Nat.le_of_ble_eq_true rfl), k_put (by exact Nat.le_of_ble_eq_true rfl), k_put (by exact Nat.le_of_ble_eq_true rfl), k_put (by exact Nat.le_of_ble_eq_true rfl), blk_hd]
  rfl
set_option maxRecDepth 100000 in
set_option maxHeartbeats 4000000 in
theorem kc_X0 {F : Nat} {G : GH} {a p : Nat} : f_X0_init F a p (a + 1) (gset G a (.inr (0, df_X0))) = csU (f_J7_fill_53178 F (a + 1) (-1 : Int32) (a + 13) (blk G a (bo_C a p))) (fun n12 G13 => some (n12, G13)) := by
  have e0 : gset G a (.inr (0, df_X0)) = gset (blk G (a + 1) []) a (.inr (0, df_X0)) := by rw [blk_nil]
  unfold f_X0_init
  rw [e0, k_put (by exact Nat.le_of_ble_eq_true rfl), k_new (by rfl) (by omega) (by exact Nat.le_of_ble_eq_true rfl), k_new (by rfl) (by omega) (by exact Nat.le_of_ble_eq_true rfl), v_csU (kc_X7 (a := a + 1 + 1 + 1)), blk_flat (by rfl) (by omega), k_put (by exact Nat.le_of_ble_eq_true rfl), v_csU (kc_X9 (a := a + 1 + 1 + 1 + 7)), blk_flat (by rfl) (by omega), k_put (by exact Nat.le_of_ble_eq_true rfl), k_put (by exact Nat.le_of_ble_eq_true rfl), blk_hd]
  have e1 : gR (blk G a (bo_C a p)) a 0 2 = some (a + 1) := by
    have e2 : blk G a (bo_C a p) a = some (.inr (0, [.ref p, .int 0, .ref (a + 1), .ref (a + 2), .ref (a + 3), .ref (a + 10)])) := blk_in (l := bo_C a p) (d := 0) (Nat.le_of_ble_eq_true rfl)
    unfold gR
    rw [e2]
    rfl
  refine Eq.trans (show _ = Option.bind (gR (blk G a (bo_C a p)) a 0 2) (fun x11 => csU (f_J7_fill_53178 F x11 (-1 : Int32) (a + 13) (blk G a (bo_C a p))) (fun n12 G13 => some (n12, G13))) from rfl) ?_
  rw [e1]
  rfl
set_option maxRecDepth 100000 in
set_option maxHeartbeats 4000000 in
theorem kc_X11 {F : Nat} {G : GH} {a : Nat} : f_X11_init F a (a + 1) (gset G a (.inr (11, df_X11))) = Option.bind (gR (blk G a (mo_C a)) a 11 1) (fun x21 => Option.bind (aS (blk G a (mo_C a)) x21 0 (893 : Int32) (-1 : Int32)) (fun G22 => some (a + 21, G22))) := by
  have e0 : gset G a (.inr (11, df_X11)) = gset (blk G (a + 1) []) a (.inr (11, df_X11)) := by rw [blk_nil]
  have eL : df_X11.length = 37 := rfl
  unfold f_X11_init
  rw [e0]
  rw [k_new (by simp only [List.length_append, List.length_cons, List.length_nil]) (by omega) (by simp only [List.length_set, eL]; omega)]
  rw [k_new (by simp only [List.length_append, List.length_cons, List.length_nil]) (by omega) (by simp only [List.length_set, eL]; omega)]
  rw [k_new (by simp only [List.length_append, List.length_cons, List.length_nil]) (by omega) (by simp only [List.length_set, eL]; omega)]
  rw [k_new (by simp only [List.length_append, List.length_cons, List.length_nil]) (by omega) (by simp only [List.length_set, eL]; omega)]
  rw [k_new (by simp only [List.length_append, List.length_cons, List.length_nil]) (by omega) (by simp only [List.length_set, eL]; omega)]
  rw [k_new (by simp only [List.length_append, List.length_cons, List.length_nil]) (by omega) (by simp only [List.length_set, eL]; omega)]
  rw [k_new (by simp only [List.length_append, List.length_cons, List.length_nil]) (by omega) (by simp only [List.length_set, eL]; omega)]
  rw [k_new (by simp only [List.length_append, List.length_cons, List.length_nil]) (by omega) (by simp only [List.length_set, eL]; omega)]
  rw [k_new (by simp only [List.length_append, List.length_cons, List.length_nil]) (by omega) (by simp only [List.length_set, eL]; omega)]
  rw [k_new (by simp only [List.length_append, List.length_cons, List.length_nil]) (by omega) (by simp only [List.length_set, eL]; omega)]
  rw [k_new (by simp only [List.length_append, List.length_cons, List.length_nil]) (by omega) (by simp only [List.length_set, eL]; omega)]
  rw [k_new (by simp only [List.length_append, List.length_cons, List.length_nil]) (by omega) (by simp only [List.length_set, eL]; omega)]
  rw [k_new (by simp only [List.length_append, List.length_cons, List.length_nil]) (by omega) (by simp only [List.length_set, eL]; omega)]
  rw [k_new (by simp only [List.length_append, List.length_cons, List.length_nil]) (by omega) (by simp only [List.length_set, eL]; omega)]
  rw [k_new (by simp only [List.length_append, List.length_cons, List.length_nil]) (by omega) (by simp only [List.length_set, eL]; omega)]
  rw [k_new (by simp only [List.length_append, List.length_cons, List.length_nil]) (by omega) (by simp only [List.length_set, eL]; omega)]
  rw [k_new (by simp only [List.length_append, List.length_cons, List.length_nil]) (by omega) (by simp only [List.length_set, eL]; omega)]
  rw [k_new (by simp only [List.length_append, List.length_cons, List.length_nil]) (by omega) (by simp only [List.length_set, eL]; omega)]
  rw [k_new (by simp only [List.length_append, List.length_cons, List.length_nil]) (by omega) (by simp only [List.length_set, eL]; omega)]
  rw [k_new (by simp only [List.length_append, List.length_cons, List.length_nil]) (by omega) (by simp only [List.length_set, eL]; omega)]
  rw [blk_hd]
  rfl
end KC
