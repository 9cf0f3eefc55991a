/-! The law's loop answers 1. -/
def Ok1 (o : Option (Int32 × Nat × GH)) : Prop := ∃ n3 G3, o = some (1, n3, G3)
section LL
variable {X : Type} {G G1 : GH} {b ci : Nat} {fs : List Value}
theorem cvI_eq {r : Option (Int32 × Nat × GH)} {a : Int32} {n1 : Nat} {Kk : Int32 → Nat → GH → Option X} (hG : G b = some (.inr (ci, fs))) (hr : r = some (a, n1, G1)) : cvI G b ci r Kk = Kk a n1 G1 := by
  subst hr
  unfold cvI
  rw [hG]
  simp only [if_true]
  rfl
theorem cvP_eq {r : Option Int32} {a : Int32} {Kk : Int32 → Option X} (hG : G b = some (.inr (ci, fs))) (hr : r = some a) : cvP G b ci r Kk = Kk a := by
  subst hr
  unfold cvP
  rw [hG]
  simp only [if_true]
  rfl
theorem g_swA {P : Option X → Prop} {d : Option X} {y : Int32} (hd : P d) : ∀ (as : List (Option X)) (k : Nat), (∀ a ∈ as, P a) → P (g_sw y as d k)
  | [], _, _ => hd
  | a :: r, k, h => by
    unfold g_sw
    split
    · exact h a List.mem_cons_self
    · exact g_swA hd r (k + 1) (fun c hc => h c (List.mem_cons_of_mem _ hc))
end LL
section LL2
variable {i x n F L : Nat} {xs : Nat → Int32} {G : GH} {K : HK} {pr : HP} {pt : Nat → Nat} {rr : HP} {M R : ZM} {w : Int64} {lg : Nat → Nat → Int64} {U : List (Int → Int)} {I : IMG} {rec : Int32 → Nat → GH → Option (Int32 × Nat × GH)} {v4 : Int32} {p q : Int} {f : Nat → GH → Option (Int32 × Nat × GH)} {rc : Option (Int32 × Nat × GH)}
theorem lawI {fs : List Value} (hG : G x = some (.inr (10, fs))) (hb : Bt i x rc f) (hrec : ∀ n2 G2, LwE (i + 1) x n2 G2 → Ok1 (rec (v4 + 3) n2 G2)) : Ok1 (cvI G x 10 rc (fun a n1 G1 => cvI G1 (x + 52) 11 (f n1 G1) (fun c n2 G2 => if a = c then rec (v4 + 3) n2 G2 else rN .boolean (0 : Int32) n2 G2))) := by
  obtain ⟨a, n1, G1, n2, G2, b1, ⟨fs1, b2⟩, b3, b4⟩ := hb
  rw [cvI_eq hG b1, cvI_eq b2 b3, if_pos rfl]
  exact hrec n2 G2 b4
theorem lawP {fs : List Value} {a : Int32} {fc : Option Int32} (hG : G x = some (.inr (10, fs))) (hc : fc = some a) (hb : Bt i x (some (a, n, G)) f) (hrec : ∀ n2 G2, LwE (i + 1) x n2 G2 → Ok1 (rec (v4 + 3) n2 G2)) : Ok1 (cvP G x 10 fc (fun a => cvI G (x + 52) 11 (f n G) (fun c n2 G2 => if a = c then rec (v4 + 3) n2 G2 else rN .boolean (0 : Int32) n2 G2))) := by
  obtain ⟨a1, n1, G1, n2, G2, b1, ⟨fs1, b2⟩, b3, b4⟩ := hb
  cases b1
  rw [cvP_eq hG hc, cvI_eq b2 b3, if_pos rfl]
  exact hrec n2 G2 b4
theorem lg_refl (v : Int64) : lg_cmp v v = 0 := by rw [lg_cmp_eq]
theorem lawE {fc : Option Int32} {fx : Option Unit} (hb : BtP i x n G fc fx F f) (hrec : ∀ n2 G2, LwE (i + 1) x n2 G2 → Ok1 (rec (v4 + 3) n2 G2)) : Ok1 (csI (lpD x (x + 73) n G fc fx) (fun x93 n91 G92 => cvI G92 (x + 52) 11 (f n91 G92) (fun x98 n96 G97 => cvP G97 (x + 52) 11 (f_X11_thrown F (x + 52) G97) (fun x99 => if x99 = x93 then (if x93 = 0 then (Option.bind (aJ G97 (x + 73) (0 : Int32)) (fun x100 => if (lg_cmp x100 (Int32.toInt64 x98)) = 0 then (rec (v4 + 3) n96 G97) else (rN .boolean (0 : Int32) n96 G97))) else (rec (v4 + 3) n96 G97)) else (rN .boolean (0 : Int32) n96 G97))))) := by
  obtain ⟨c, n1, G1, a, n2, G2, b1, ⟨fs1, b2⟩, b3, ⟨fs2, b4⟩, b5, b6, b7⟩ := hb
  rw [v_csI b1, cvI_eq b2 b3, cvP_eq b4 b5, if_pos rfl]
  by_cases e : c = 0
  · rw [if_pos e, b6 e, ob_z, if_pos (lg_refl _)]
    exact hrec n2 G2 b7
  · rw [if_neg e]
    exact hrec n2 G2 b7
/-- one round -/
theorem law_round (hF : 7000 < F) (hi : (i : Int) ≤ 1000) (h : Lw i x n K pr pt rr M lg R w U I) (hs0 : ∃ y, scI L xs v4 = some y) (hs1 : scI L xs (v4 + 1) = some (zt p)) (hs2 : scI L xs (v4 + 2) = some (zt q)) (hp0 : -2147483648 ≤ p ∧ p < 2147483648) (hq0 : -2147483648 ≤ q ∧ q < 2147483648) (hrec : ∀ n2 G2, LwE (i + 1) x n2 G2 → Ok1 (rec (v4 + 3) n2 G2)) : Ok1 (b_L_law_23 F L xs x (x + 52) (x + 73) rec v4 n (hp K pr pt rr (LI M) lg)) := by
  have hG := h_obj (pr := pr) (pt := pt) (rr := rr) (sg := LI M) (lg := lg) h.1.1.o10
  obtain ⟨y, hy⟩ := hs0
  unfold b_L_law_23
  split
  · exact ⟨_, _, rfl⟩
  · rw [hy, ob_z]
    refine g_swA (hrec n _ ⟨K, pr, pt, rr, M, lg, R, w, U, I, rfl, h.1.upB (by omega), h.2⟩) _ _ ?_
    intro a ha
    simp only [List.mem_cons, List.not_mem_nil, or_false] at ha
    rcases ha with rfl | rfl | rfl | rfl | rfl | rfl | rfl | rfl | rfl | rfl | rfl | rfl | rfl | rfl | rfl | rfl | rfl | rfl | rfl | rfl | rfl | rfl | rfl | rfl | rfl | rfl | rfl | rfl | rfl
    · unfold k_L_law_164; simp only [hs1, hs2, ob_z]; exact lawI hG (bt_type hF h) hrec
    · unfold k_L_law_221; exact lawI hG (bt_read hF h) hrec
    · unfold k_L_law_234; simp only [hs1, ob_z]
      by_cases c : zt p = 0
      · simp only [if_pos c]; obtain ⟨a, a1, a2⟩ := bt_fault (F := F) (k := 0) h; exact lawP hG a1 a2 hrec
      · simp only [if_neg c]; obtain ⟨a, a1, a2⟩ := bt_fault (F := F) (k := 1) h; exact lawP hG a1 a2 hrec
    · unfold k_L_law_275; exact lawI hG (bt_enter hF h) hrec
    · unfold k_L_law_288; exact lawI hG (bt_leave hF h) hrec
    · unfold k_L_law_301; simp only [hs1, hs2, ob_z]; exact lawI hG (bt_stand hF hp0 hq0 h) hrec
    · unfold k_L_law_338; simp only [hs1, ob_z]; exact lawI hG (bt_ask hF hi hp0 h) hrec
    · unfold k_L_law_363; simp only [hs1, ob_z]; exact lawI hG (bt_value hF hi hp0 h) hrec
    · unfold k_L_law_388; exact lawI hG (bt_undo hF h) hrec
    · unfold k_L_law_401; simp only [hs1, ob_z]; obtain ⟨a, a1, a2⟩ := bt_count hF hp0 h; exact lawP hG a1 a2 hrec
    · unfold k_L_law_426; simp only [hs1, hs2, ob_z]; exact lawE (bt_part hF hp0 hq0 h) hrec
    · unfold k_L_law_494; simp only [hs1, hs2, ob_z]; obtain ⟨a, a1, a2⟩ := bt_need (F := F) hp0 hq0 h; exact lawP hG a1 a2 hrec
    · unfold k_L_law_531; simp only [hs1, hs2, ob_z]; exact lawE (bt_thing hF hp0 hq0 h) hrec
    · unfold k_L_law_599; simp only [hs1, hs2, ob_z]; obtain ⟨a, a1, a2⟩ := bt_has (F := F) hp0 hq0 h; exact lawP hG a1 a2 hrec
    · unfold k_L_law_636; simp only [hs1, hs2, ob_z]; obtain ⟨a, a1, a2⟩ := bt_stands hF hp0 hq0 h; exact lawP hG a1 a2 hrec
    · unfold k_L_law_673; simp only [hs1, ob_z]; obtain ⟨a, a1, a2⟩ := bt_why (F := F) hp0 h; exact lawP hG a1 a2 hrec
    · unfold k_L_law_698; simp only [hs1, hs2, ob_z]
      by_cases c : zt q = 0
      · simp only [if_pos c]; obtain ⟨a, a1, a2⟩ := bt_ended (bb := 0) hF hp0 h; exact lawP hG a1 a2 hrec
      · simp only [if_neg c]; obtain ⟨a, a1, a2⟩ := bt_ended (bb := 1) hF hp0 h; exact lawP hG a1 a2 hrec
    · unfold k_L_law_751; simp only [hs1, ob_z]; exact lawI hG (bt_start hF hp0 h) hrec
    · unfold k_L_law_776; simp only [hs1, ob_z]; exact lawI hG (bt_loop hF hp0 h) hrec
    · unfold k_L_law_801; simp only [hs1, hs2, ob_z]
      by_cases c : zt q = 0
      · simp only [if_pos c]; exact lawI hG (bt_needs (z := 0) hF hp0 h) hrec
      · simp only [if_neg c]; exact lawI hG (bt_needs (z := 1) hF hp0 h) hrec
    · unfold k_L_law_854; simp only [hs1, hs2, ob_z]; exact lawI hG (bt_would hF hi hp0 hq0 h) hrec
    · unfold k_L_law_891; simp only [hs1, ob_z]; exact lawI hG (bt_worth hF hi hp0 h) hrec
    · unfold k_L_law_916; exact lawI hG (bt_deep hF h) hrec
    · unfold k_L_law_929; simp only [hs1, ob_z]; exact lawI hG (bt_wave hF hp0 h) hrec
    · unfold k_L_law_954; simp only [hs1, ob_z]; exact lawI hG (bt_lost hF hp0 h) hrec
    · unfold k_L_law_979; simp only [hs1, ob_z]; exact lawI hG (bt_looser hF hp0 h) hrec
    · unfold k_L_law_1004; simp only [hs1, ob_z]; exact lawI hG (bt_image hF hp0 h) hrec
    · unfold k_L_law_1029; simp only [hs1, ob_z]; exact lawI hG (bt_again hF hp0 h) hrec
end LL2
