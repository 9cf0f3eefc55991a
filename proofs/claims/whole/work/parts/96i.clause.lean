/-! A clause: both readers take it alike, or fail at the same token. -/
def QF (M0 R0 : ZM) (a : Nat) (M R : ZM) : Prop := FrM a M0 M ∧ FrR R0 R ∧ M (a + 11) 3 = R 0 13 ∧ (0 ≤ R 0 19 ∧ R 0 19 ≤ 300) ∧ (0 ≤ R 0 13 ∧ R 0 13 ≤ 600)
def OuF (M0 R0 : ZM) (a : Nat) (lg : Nat → Nat → Int64) (oc : Option (Int32 × (Nat → Nat → Int32) × (Nat → Nat → Int64))) (ou : Option (Int32 × (Nat → Nat → Int32) × Int64)) : Prop := ∃ M1 R1 w1, oc = some ((0 : Int32), LI M1, lg) ∧ ou = some ((0 : Int32), LI R1, w1) ∧ QF M0 R0 a M1 R1
def Ou (M0 R0 : ZM) (a : Nat) (T : Int → Int) (N P r : Int) (lg : Nat → Nat → Int64) (oc : Option (Int32 × (Nat → Nat → Int32) × (Nat → Nat → Int64))) (ou : Option (Int32 × (Nat → Nat → Int32) × Int64)) : Prop := (∃ M1 R1 w1 r1, oc = some ((1 : Int32), LI M1, lg) ∧ ou = some ((1 : Int32), LI R1, w1) ∧ r < r1 ∧ Q2 M0 R0 a T N M1 R1 w1 r1 (mpo T N r1) P) ∨ OuF M0 R0 a lg oc ou
theorem wcon_inj : ∀ k : Nat, k < 15 → ∀ l : Nat, l < 15 → wcon.getD k 0 = wcon.getD l 0 → k = l := by decide +kernel
section RD4
variable {F : Nat} {lg : Nat → Nat → Int64} {M0 R0 M R : ZM} {w : Int64} {a pb : Nat} {T : Int → Int} {N r m P : Int}
theorem wd_uni {k l : Nat} (hN : 0 ≤ N ∧ N ≤ 600) (ht : Tk M R w a T N r) (hk : k < 15) (hl : l < 15) (h1 : wdP T N r k = true) (h2 : wdP T N r l = true) : k = l := by
  have e1 := (x_wd hk rfl hN ht.2.2 ht.2.1 (wd_k h1)).mpr h1
  have e2 := (x_wd hl rfl hN ht.2.2 ht.2.1 (wd_k h1)).mpr h2
  rw [lg_cmp_eq] at e1 e2
  exact wcon_inj k hk l hl (e1.symm.trans e2)
theorem wd_oth {k l : Nat} (hN : 0 ≤ N ∧ N ≤ 600) (ht : Tk M R w a T N r) (hk : k < 15) (hl : l < 15) (hne : k ≠ l) (h1 : wdP T N r k = true) : wdP T N r l = false := by
  cases e : wdP T N r l with
  | false => rfl
  | true => exact absurd (wd_uni hN ht hk hl h1 e) hne
theorem xw1 {k : Nat} {c : Int64} (hk : k < 15) (hc : wcon.getD k 0 = c) (hN : 0 ≤ N ∧ N ≤ 600) (ht : Tk M R w a T N r) (h : wdP T N r k = true) : p_X11_isWord F c (LI R) w = some 1 := by
  rw [x_isWord hk hc hN ht.2.2 ht.2.1, if_pos h]
  rfl
theorem xw0 {k : Nat} {c : Int64} (hk : k < 15) (hc : wcon.getD k 0 = c) (hN : 0 ≤ N ∧ N ≤ 600) (ht : Tk M R w a T N r) (h : wdP T N r k = false) : p_X11_isWord F c (LI R) w = some 0 := by
  rw [x_isWord hk hc hN ht.2.2 ht.2.1, if_neg (by rw [h]; decide)]
  rfl
theorem yw1 {k : Nat} (hF : 700 < F) (hk : k < 15) (hN : 0 ≤ N ∧ N ≤ 600) (hT : ∀ e, -128 ≤ T e ∧ T e ≤ 127) (ht : Tk M R w a T N r) (gp : ∀ e, 0 ≤ e → e < N → M pb e = T e) (h : wdP T N r k = true) : p_X8_isWord F pb (a + 11) k (LI M) lg = some 1 := by
  rw [y_isWord (by omega) hk hN hT ht.2.2 ht.1 gp, if_pos h]
  rfl
theorem yw0 {k : Nat} (hF : 700 < F) (hk : k < 15) (hN : 0 ≤ N ∧ N ≤ 600) (hT : ∀ e, -128 ≤ T e ∧ T e ≤ 127) (ht : Tk M R w a T N r) (gp : ∀ e, 0 ≤ e → e < N → M pb e = T e) (h : wdP T N r k = false) : p_X8_isWord F pb (a + 11) k (LI M) lg = some 0 := by
  rw [y_isWord (by omega) hk hN hT ht.2.2 ht.1 gp, if_neg (by rw [h]; decide)]
  rfl
theorem yt1 {k : Nat} (hF : 700 < F) (hk : k < 15) (hN : 0 ≤ N ∧ N ≤ 600) (hT : ∀ e, -128 ≤ T e ∧ T e ≤ 127) (ht : Tk M R w a T N r) (gp : ∀ e, 0 ≤ e → e < N → M pb e = T e) (h : wdP T N r k = true) {M1 : ZM} (ha : p_X8_advance F pb (a + 11) (LI M) lg = some (LI M1, lg)) : p_X8_takeWord F pb (a + 11) k (LI M) lg = some (1, LI M1, lg) := by
  unfold p_X8_takeWord
  rw [yw1 hF hk hN hT ht gp h, ob_z, if_neg (by decide), ha]
  rfl
theorem yt0 {k : Nat} (hF : 700 < F) (hk : k < 15) (hN : 0 ≤ N ∧ N ≤ 600) (hT : ∀ e, -128 ≤ T e ∧ T e ≤ 127) (ht : Tk M R w a T N r) (gp : ∀ e, 0 ≤ e → e < N → M pb e = T e) (h : wdP T N r k = false) : p_X8_takeWord F pb (a + 11) k (LI M) lg = some (0, LI M, lg) := by
  unfold p_X8_takeWord
  rw [yw0 hF hk hN hT ht gp h, ob_z, if_pos rfl]
  rfl
/-- both fail at this token -/
theorem QC.fail (hN : N ≤ 600) (h : QC M0 R0 a T N M R w r m) (hm : m ≤ 601) : ∃ R1, p_X11_fails F (LI R) w = some (0, LI R1, w) ∧ QF M0 R0 a M R1 := by
  obtain ⟨k1, k2, k3, k4, k5, k6, k7⟩ := h
  have hrg := tk_rng (T := T) k3.2.2 hN
  have hr := k3.2.2
  refine ⟨uM R 0 13 (R 0 8), ?_, k1, ⟨fun j g0 g5 g6 g7 g8 => by rw [← k2.1 j g0 g5 g6 g7 g8]; funext e; exact uM_ne g0, fun e e6 e8 e9 e10 e11 e13 e14 e15 e19 => by rw [uM_nei e13]; exact k2.2 e e6 e8 e9 e10 e11 e13 e14 e15 e19⟩, ?_, ?_, ?_⟩
  · unfold p_X11_fails
    rw [LI_8, show up2 (LI R) 0 13 (zt (R 0 8)) = LI (uM R 0 13 (R 0 8)) from up2_z R 0 13 _, gnm_z]
    rfl
  · rw [uM_eq, k3.1.2.2.1, k3.2.1.2.1]
  · rw [uM_nei (by omega)]
    have := k5.1
    omega
  · rw [uM_eq, k3.2.1.2.1]
    omega
def sN (T : Int → Int) (N r : Int) : Int := if wdP T N r 12 = true then 0 else if wdP T N r 13 = true then 1 else if wdP T N r 14 = true then 2 else -1
theorem sN_rng : sN T N r = -1 ∨ (0 ≤ sN T N r ∧ sN T N r ≤ 2) := by
  unfold sN
  split
  · omega
  · split
    · omega
    · split <;> omega
theorem x_spanHere (hN : 0 ≤ N ∧ N ≤ 600) (ht : Tk M R w a T N r) : p_X11_spanHere F (LI R) w = some (zt (sN T N r)) := by
  have hs := srt_rng (T := T) (N := N) (r := r)
  unfold p_X11_spanHere sN
  rw [LI_9, ht.2.1.2.2.2.1]
  have hz : (zt (srt (tkK T N r)) = 2) = (tkK T N r = 1) := by
    rw [show (2 : Int32) = zt 2 from rfl, zt_eq (by omega) (by omega) (by omega) (by omega)]
    exact propext srt_2
  by_cases q : tkK T N r = 1
  · rw [if_pos (by rw [hz]; exact q)]
    have h12 := x_wd (k := 12) (c := 422775452260) (by omega) rfl hN ht.2.2 ht.2.1 q
    have h13 := x_wd (k := 13) (c := 495589486693) (by omega) rfl hN ht.2.2 ht.2.1 q
    have h14 := x_wd (k := 14) (c := 1700881256) (by omega) rfl hN ht.2.2 ht.2.1 q
    simp only [h12, h13, h14]
    split
    · rfl
    · split
      · rfl
      · split <;> rfl
  · rw [if_neg (by rw [hz]; exact q), if_neg (fun g => q (wd_k g)), if_neg (fun g => q (wd_k g)), if_neg (fun g => q (wd_k g))]
    rfl
theorem y_readSpan (hF : 700 < F) (hN : 0 ≤ N ∧ N ≤ 600) (hT : ∀ e, -128 ≤ T e ∧ T e ≤ 127) (ht : Tk M R w a T N r) (gp : ∀ e, 0 ≤ e → e < N → M pb e = T e) : p_X6_readSpan F pb a (LI M) lg = pk_X6_readSpan_49 F pb a (zt (sN T N r)) (LI M) lg := by
  unfold p_X6_readSpan sN
  cases q12 : wdP T N r 12 with
  | true => rw [yw1 hF (by omega) hN hT ht gp q12, ob_z, if_neg (by decide)]; rfl
  | false =>
    rw [yw0 hF (by omega) hN hT ht gp q12, ob_z, if_pos rfl]
    cases q13 : wdP T N r 13 with
    | true => rw [yw1 hF (by omega) hN hT ht gp q13, ob_z, if_neg (by decide)]; rfl
    | false =>
      rw [yw0 hF (by omega) hN hT ht gp q13, ob_z, if_pos rfl]
      cases q14 : wdP T N r 14 with
      | true => rw [yw1 hF (by omega) hN hT ht gp q14, ob_z, if_neg (by decide)]; rfl
      | false => rw [yw0 hF (by omega) hN hT ht gp q14, ob_z, if_pos rfl]; rfl
def acN (T : Int → Int) (N r : Int) : Int := if wdP T N r 1 = true then 0 else if wdP T N r 2 = true then 1 else if wdP T N r 3 = true then 2 else if wdP T N r 4 = true then 3 else if wdP T N r 5 = true then 4 else if wdP T N r 6 = true then 5 else -1
theorem acN_rng : acN T N r = -1 ∨ (0 ≤ acN T N r ∧ acN T N r ≤ 5) := by
  unfold acN
  split
  · omega
  · split
    · omega
    · split
      · omega
      · split
        · omega
        · split
          · omega
          · split <;> omega
theorem x_actHere (hN : 0 ≤ N ∧ N ≤ 600) (ht : Tk M R w a T N r) : p_X11_actHere F (LI R) w = some (zt (acN T N r)) := by
  have hs := srt_rng (T := T) (N := N) (r := r)
  unfold p_X11_actHere acN
  rw [LI_9, ht.2.1.2.2.2.1]
  have hz : (zt (srt (tkK T N r)) = 2) = (tkK T N r = 1) := by
    rw [show (2 : Int32) = zt 2 from rfl, zt_eq (by omega) (by omega) (by omega) (by omega)]
    exact propext srt_2
  by_cases q : tkK T N r = 1
  · rw [if_pos (by rw [hz]; exact q)]
    have h1 := x_wd (k := 1) (c := 1786082164) (by omega) rfl hN ht.2.2 ht.2.1 q
    have h2 := x_wd (k := 2) (c := 6382692) (by omega) rfl hN ht.2.2 ht.2.1 q
    have h3 := x_wd (k := 3) (c := 7173484) (by omega) rfl hN ht.2.2 ht.2.1 q
    have h4 := x_wd (k := 4) (c := 7168376) (by omega) rfl hN ht.2.2 ht.2.1 q
    have h5 := x_wd (k := 5) (c := 7170414) (by omega) rfl hN ht.2.2 ht.2.1 q
    have h6 := x_wd (k := 6) (c := 7566690) (by omega) rfl hN ht.2.2 ht.2.1 q
    simp only [h1, h2, h3, h4, h5, h6]
    split
    · rfl
    · split
      · rfl
      · split
        · rfl
        · split
          · rfl
          · split
            · rfl
            · split <;> rfl
  · rw [if_neg (by rw [hz]; exact q), if_neg (fun g => q (wd_k g)), if_neg (fun g => q (wd_k g)), if_neg (fun g => q (wd_k g)), if_neg (fun g => q (wd_k g)), if_neg (fun g => q (wd_k g)), if_neg (fun g => q (wd_k g))]
    rfl
theorem y_actOfToken (hF : 700 < F) (hN : 0 ≤ N ∧ N ≤ 600) (hT : ∀ e, -128 ≤ T e ∧ T e ≤ 127) (ht : Tk M R w a T N r) (gp : ∀ e, 0 ≤ e → e < N → M pb e = T e) : p_X6_actOfToken F pb a (LI M) lg = some (zt (acN T N r)) := by
  unfold p_X6_actOfToken acN
  cases q1 : wdP T N r 1 with
  | true => rw [yw1 hF (by omega) hN hT ht gp q1, ob_z, if_neg (by decide)]; rfl
  | false =>
    rw [yw0 hF (by omega) hN hT ht gp q1, ob_z, if_pos rfl]
    cases q2 : wdP T N r 2 with
    | true => rw [yw1 hF (by omega) hN hT ht gp q2, ob_z, if_neg (by decide)]; rfl
    | false =>
      rw [yw0 hF (by omega) hN hT ht gp q2, ob_z, if_pos rfl]
      cases q3 : wdP T N r 3 with
      | true => rw [yw1 hF (by omega) hN hT ht gp q3, ob_z, if_neg (by decide)]; rfl
      | false =>
        rw [yw0 hF (by omega) hN hT ht gp q3, ob_z, if_pos rfl]
        cases q4 : wdP T N r 4 with
        | true => rw [yw1 hF (by omega) hN hT ht gp q4, ob_z, if_neg (by decide)]; rfl
        | false =>
          rw [yw0 hF (by omega) hN hT ht gp q4, ob_z, if_pos rfl]
          cases q5 : wdP T N r 5 with
          | true => rw [yw1 hF (by omega) hN hT ht gp q5, ob_z, if_neg (by decide)]; rfl
          | false =>
            rw [yw0 hF (by omega) hN hT ht gp q5, ob_z, if_pos rfl]
            cases q6 : wdP T N r 6 with
            | true => rw [yw1 hF (by omega) hN hT ht gp q6, ob_z, if_neg (by decide)]; rfl
            | false => rw [yw0 hF (by omega) hN hT ht gp q6, ob_z, if_pos rfl]; rfl
/-- one cell of the part at hand, and its like in the piece -/
theorem Q2.cell {d : Nat} {k v : Int} (h : Q2 M0 R0 a T N M R w r m P) (hd : (d = 1 ∧ k = 0 ∧ 0 ≤ v ∧ v ≤ 5) ∨ (d = 2 ∧ k = 1) ∨ (d = 3 ∧ k = 8 ∧ 0 ≤ v ∧ v ≤ 2) ∨ (d = 4 ∧ k = 9 ∧ 0 ≤ v ∧ (v ≤ 9 ∨ M a 6 ≠ 0)) ∨ (d = 5 ∧ k = 10 ∧ 0 ≤ v ∧ v ≤ 1)) : Q2 M0 R0 a T N (uM M (a + 1 + d) (M a 4) v) (uM R 8 k v) w r m P := by
  have hq4 := h.2.2.2.1
  have hp0 := h.2.1.2.1
  have e0 : ∀ j, j ≠ a + 1 + d → uM M (a + 1 + d) (M a 4) v j = M j := fun j hj => by funext e; exact uM_ne hj
  have ea : uM M (a + 1 + d) (M a 4) v a = M a := e0 a (by omega)
  refine h.piece (fun j hj => e0 j (by omega)) (fun e _ => by rw [ea]) (fun d1 i _ _ hi => uM_nei hi) (fun e _ => by rw [e0 _ (by omega)]) (fun j hj => by funext e; exact uM_ne hj) (by rw [ea]; exact h.2.2.2.2.1) (by rw [ea, uM_nei (by omega)]; exact h.2.2.2.2.2.1) (by rw [e0 _ (by omega)]; exact h.1.2.2.2.2.2.1 _ (by omega) (by omega)) (fun g g1 g2 g3 g4 => ?_)
  obtain ⟨c1, c2, c3, c4, c5, c6, c7, c8⟩ := g3
  obtain ⟨f1, f2, f3, f4, f5, f6, f7⟩ := g4
  rw [g2]
  have z2 : uM R 8 k v 8 2 = R 8 2 := uM_nei (by omega)
  have z7 : uM R 8 k v 8 7 = R 8 7 := uM_nei (by omega)
  have zk : ∀ i, 0 ≤ i → i < R 8 2 → uM R 8 k v 8 (3 + i) = R 8 (3 + i) := fun i i0 i1 => uM_nei (by omega)
  have m6 : uM M (a + 1 + d) P v (a + 1 + 6) P = R 8 2 := by rw [uM_ne (by omega)]; exact c6
  have m7 : uM M (a + 1 + d) P v (a + 1 + 7) P = R 8 7 := by rw [uM_ne (by omega)]; exact c7
  have m8 : ∀ i, 0 ≤ i → i < R 8 2 → uM M (a + 1 + d) P v (a + 1 + 8) (P * 4 + i) = R 8 (3 + i) := fun i i0 i1 => by rw [uM_ne (by omega)]; exact c8 i i0 i1
  have oth : ∀ (d1 : Nat) (k1 : Int), d1 ≠ d → k1 ≠ k → M (a + 1 + d1) P = R 8 k1 → uM M (a + 1 + d) P v (a + 1 + d1) P = uM R 8 k v 8 k1 := fun d1 k1 h1 h2 h3 => by rw [uM_ne (by omega), uM_nei h2]; exact h3
  have own : uM M (a + 1 + d) P v (a + 1 + d) P = uM R 8 k v 8 k := by rw [uM_eq, uM_eq]
  have rk : ∀ k1, k1 ≠ k → uM R 8 k v 8 k1 = R 8 k1 := fun k1 h => uM_nei h
  have rv : uM R 8 k v 8 k = v := uM_eq _ _ _ _
  rcases hd with ⟨rfl, rfl, hv⟩ | ⟨rfl, rfl⟩ | ⟨rfl, rfl, hv⟩ | ⟨rfl, rfl, hv, hv1⟩ | ⟨rfl, rfl, hv⟩
  · refine ⟨⟨own, oth 2 1 (by omega) (by omega) c2, oth 3 8 (by omega) (by omega) c3, oth 4 9 (by omega) (by omega) c4, oth 5 10 (by omega) (by omega) c5, by rw [z2]; exact m6, by rw [z7]; exact m7, fun i i0 i1 => by rw [z2] at i1; rw [zk i i0 i1]; exact m8 i i0 i1⟩, by rw [rv]; exact hv, by rw [z2]; exact f2, fun i i0 i1 => by rw [z2] at i1; rw [zk i i0 i1]; exact f3 i i0 i1, by rw [z7]; exact f4, by rw [rk 8 (by omega)]; exact f5, by rw [rk 9 (by omega)]; exact f6, by rw [rk 10 (by omega)]; exact f7⟩
  · refine ⟨⟨oth 1 0 (by omega) (by omega) c1, own, oth 3 8 (by omega) (by omega) c3, oth 4 9 (by omega) (by omega) c4, oth 5 10 (by omega) (by omega) c5, by rw [z2]; exact m6, by rw [z7]; exact m7, fun i i0 i1 => by rw [z2] at i1; rw [zk i i0 i1]; exact m8 i i0 i1⟩, by rw [rk 0 (by omega)]; exact f1, by rw [z2]; exact f2, fun i i0 i1 => by rw [z2] at i1; rw [zk i i0 i1]; exact f3 i i0 i1, by rw [z7]; exact f4, by rw [rk 8 (by omega)]; exact f5, by rw [rk 9 (by omega)]; exact f6, by rw [rk 10 (by omega)]; exact f7⟩
  · refine ⟨⟨oth 1 0 (by omega) (by omega) c1, oth 2 1 (by omega) (by omega) c2, own, oth 4 9 (by omega) (by omega) c4, oth 5 10 (by omega) (by omega) c5, by rw [z2]; exact m6, by rw [z7]; exact m7, fun i i0 i1 => by rw [z2] at i1; rw [zk i i0 i1]; exact m8 i i0 i1⟩, by rw [rk 0 (by omega)]; exact f1, by rw [z2]; exact f2, fun i i0 i1 => by rw [z2] at i1; rw [zk i i0 i1]; exact f3 i i0 i1, by rw [z7]; exact f4, by rw [rv]; exact hv, by rw [rk 9 (by omega)]; exact f6, by rw [rk 10 (by omega)]; exact f7⟩
  · refine ⟨⟨oth 1 0 (by omega) (by omega) c1, oth 2 1 (by omega) (by omega) c2, oth 3 8 (by omega) (by omega) c3, own, oth 5 10 (by omega) (by omega) c5, by rw [z2]; exact m6, by rw [z7]; exact m7, fun i i0 i1 => by rw [z2] at i1; rw [zk i i0 i1]; exact m8 i i0 i1⟩, by rw [rk 0 (by omega)]; exact f1, by rw [z2]; exact f2, fun i i0 i1 => by rw [z2] at i1; rw [zk i i0 i1]; exact f3 i i0 i1, by rw [z7]; exact f4, by rw [rk 8 (by omega)]; exact f5, by rw [rv]; omega, by rw [rk 10 (by omega)]; exact f7⟩
  · refine ⟨⟨oth 1 0 (by omega) (by omega) c1, oth 2 1 (by omega) (by omega) c2, oth 3 8 (by omega) (by omega) c3, oth 4 9 (by omega) (by omega) c4, own, by rw [z2]; exact m6, by rw [z7]; exact m7, fun i i0 i1 => by rw [z2] at i1; rw [zk i i0 i1]; exact m8 i i0 i1⟩, by rw [rk 0 (by omega)]; exact f1, by rw [z2]; exact f2, fun i i0 i1 => by rw [z2] at i1; rw [zk i i0 i1]; exact f3 i i0 i1, by rw [z7]; exact f4, by rw [rk 8 (by omega)]; exact f5, by rw [rk 9 (by omega)]; exact f6, by rw [rv]; exact hv⟩
end RD4
