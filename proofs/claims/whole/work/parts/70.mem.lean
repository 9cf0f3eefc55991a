/-! Memory: new cells, pointers, calls that come to an answer. -/
def upt (pt : Nat → Nat) (q a : Nat) : Nat → Nat := fun j => if j = q then a else pt j
def upr (pr : HP) (q k a : Nat) : HP := fun j i => if j = q ∧ i = k then some a else pr j i
theorem upt_eq (pt : Nat → Nat) (q a : Nat) : upt pt q a q = a := if_pos rfl
theorem upt_ne {pt : Nat → Nat} {q a j : Nat} (h : j ≠ q) : upt pt q a j = pt j := if_neg h
theorem upr_eq (pr : HP) (q k a : Nat) : upr pr q k a q k = some a := if_pos ⟨rfl, rfl⟩
theorem upr_ne {pr : HP} {q k a j i : Nat} (h : j ≠ q) : upr pr q k a j i = pr j i := if_neg (fun e => h e.1)
theorem upr_nei {pr : HP} {q k a j i : Nat} (h : i ≠ k) : upr pr q k a j i = pr j i := if_neg (fun e => h e.2)
section MM
variable {K K1 : HK} {pr pr1 : HP} {pt pt1 : Nat → Nat} {rr rr1 : HP} {sg sg1 : Nat → Nat → Int32} {lg lg1 : Nat → Nat → Int64} {q ci k n : Nat} {X : Type}
theorem hp_cong (hK : K1 q = K q) (hpr : pr1 q = pr q) (hpt : pt1 q = pt q) (hrr : rr1 q = rr q) (hsg : sg1 q = sg q) (hlg : lg1 q = lg q) : hp K1 pr1 pt1 rr1 sg1 lg1 q = hp K pr pt rr sg lg q := by
  unfold hp
  rw [hK]
  cases K q with
  | none => rfl
  | some c =>
    cases c with
    | inl p => simp only [harr, hrr, hsg, hlg]
    | inr c =>
      simp only
      congr 3
      exact List.ext_getElem? (fun i => by
        rw [hfs_at, hfs_at]
        cases (hFT.getD c [])[i]? with
        | none => rfl
        | some u => simp only [Option.map_some, hval, hpr, hpt, hsg, hlg])
theorem h_len (ci : Nat) : (hfs pr pt sg lg q (hFT.getD ci []) 0).length = (hFT.getD ci []).length := hfs_len _ _ _ _ _ _ _
theorem v_gI {Kk : Int32 → Option X} (hk : K q = some (.inr ci)) (hf : (hFT.getD ci [])[k]? = some 0) : Option.bind (gI (hp K pr pt rr sg lg) q ci k) Kk = Kk (sg q k) := c_gI hk hf rfl
theorem v_gR {Kk : Nat → Option X} {a : Nat} (hk : K q = some (.inr ci)) (hf : (hFT.getD ci [])[k]? = some 2) (hq : pr q k = some a) : Option.bind (gR (hp K pr pt rr sg lg) q ci k) Kk = Kk a := c_gR hk hf hq rfl
theorem v_gP {Kk : Nat → Option X} (hk : K q = some (.inr ci)) (hf : (hFT.getD ci [])[k]? = some 3) : Option.bind (gR (hp K pr pt rr sg lg) q ci k) Kk = Kk (pt q) := c_gP hk hf rfl rfl
theorem v_cvP {r : Option Int32} {a : Int32} {Kk : Int32 → Option X} (hk : K q = some (.inr ci)) (hr : r = some a) : cvP (hp K pr pt rr sg lg) q ci r Kk = Kk a := by
  subst hr
  unfold cvP
  rw [h_obj hk]
  simp only [if_true]
  rfl
theorem v_cvU {r : Option (Nat × GH)} {n1 : Nat} {G1 : GH} {Kk : Nat → GH → Option X} (hk : K q = some (.inr ci)) (hr : r = some (n1, G1)) : cvU (hp K pr pt rr sg lg) q ci r Kk = Kk n1 G1 := by
  subst hr
  unfold cvU
  rw [h_obj hk]
  simp only [if_true]
  rfl
theorem v_cvI {r : Option (Int32 × Nat × GH)} {a : Int32} {n1 : Nat} {G1 : GH} {Kk : Int32 → Nat → GH → Option X} (hk : K q = some (.inr ci)) (hr : r = some (a, n1, G1)) : cvI (hp K pr pt rr sg lg) q ci r Kk = Kk a n1 G1 := by
  subst hr
  unfold cvI
  rw [h_obj hk]
  simp only [if_true]
  rfl
theorem v_csU {r : Option (Nat × GH)} {n1 : Nat} {G1 : GH} {Kk : Nat → GH → Option X} (hr : r = some (n1, G1)) : csU r Kk = Kk n1 G1 := by
  subst hr
  rfl
theorem v_csI {r : Option (Int32 × Nat × GH)} {a : Int32} {n1 : Nat} {G1 : GH} {Kk : Int32 → Nat → GH → Option X} (hr : r = some (a, n1, G1)) : csI r Kk = Kk a n1 G1 := by
  subst hr
  rfl
theorem v_pI {Kk : GH → Option X} {v : Int32} (hk : K q = some (.inr ci)) (hf : (hFT.getD ci [])[k]? = some 0) : Option.bind (pV (hp K pr pt rr sg lg) q ci k (.int v)) Kk = Kk (hp K pr pt rr (up2 sg q k v) lg) := by
  have := c_pI (Z := X) (Y := X) (fin := fun z => z) (Kk := Kk) (K1 := fun s1 => Kk (hp K pr pt rr s1 lg)) (rr := rr) (pr := pr) (pt := pt) (sg := sg) (lg := lg) (v := v) hk hf (fun s1 => (q_mid _).symm)
  rw [this]
  exact q_mid _
theorem v_pP {Kk : GH → Option X} {a : Nat} (hk : K q = some (.inr ci)) (hf : (hFT.getD ci [])[k]? = some 3) (hu : ∀ i, (hFT.getD ci [])[i]? = some 3 → i = k) : Option.bind (pV (hp K pr pt rr sg lg) q ci k (.ref a)) Kk = Kk (hp K pr (upt pt q a) rr sg lg) := by
  have e : pV (hp K pr pt rr sg lg) q ci k (.ref a) = some (hp K pr (upt pt q a) rr sg lg) := by
    unfold pV
    rw [h_obj hk]
    have hl : k < (hfs pr pt sg lg q (hFT.getD ci []) 0).length := by rw [hfs_len]; exact (List.getElem?_eq_some_iff.mp hf).1
    simp only [hl, and_self, if_true]
    congr 1
    funext j
    unfold gset
    by_cases hj : j = q
    · subst hj
      rw [if_pos rfl, h_obj hk, hfs_set (sg1 := sg) (lg1 := lg) (pr1 := pr) (pt1 := upt pt j a) hf (by simp only [hval, upt_eq]) (fun i u hi hiu => ?_)]
      have hu3 : u ≠ 3 := fun e => hi (hu i (by rw [hiu, e]))
      rcases u with _ | _ | _ | _ | u
      · rfl
      · rfl
      · rfl
      · exact absurd rfl hu3
      · exfalso
        have hb : ∀ l ∈ hFT, ∀ x ∈ l, x ≤ 3 := by decide
        have h1 := List.mem_of_getElem? hiu
        by_cases hc : ci < hFT.length
        · rw [List.getD_eq_getElem?_getD, List.getElem?_eq_getElem hc] at h1
          have := hb _ (List.getElem_mem hc) _ h1
          omega
        · rw [List.getD_eq_getElem?_getD, List.getElem?_eq_none (by omega)] at h1
          cases h1
    · rw [if_neg hj]
      exact (hp_cong rfl rfl (upt_ne hj) rfl rfl rfl).symm
  rw [e]
  rfl
theorem v_pR {Kk : GH → Option X} {a : Nat} (hk : K q = some (.inr ci)) (hf : (hFT.getD ci [])[k]? = some 2) : Option.bind (pV (hp K pr pt rr sg lg) q ci k (.ref a)) Kk = Kk (hp K (upr pr q k a) pt rr sg lg) := by
  have e : pV (hp K pr pt rr sg lg) q ci k (.ref a) = some (hp K (upr pr q k a) pt rr sg lg) := by
    unfold pV
    rw [h_obj hk]
    have hl : k < (hfs pr pt sg lg q (hFT.getD ci []) 0).length := by rw [hfs_len]; exact (List.getElem?_eq_some_iff.mp hf).1
    simp only [hl, and_self, if_true]
    congr 1
    funext j
    unfold gset
    by_cases hj : j = q
    · subst hj
      rw [if_pos rfl, h_obj hk, hfs_set (sg1 := sg) (lg1 := lg) (pr1 := upr pr j k a) (pt1 := pt) hf (by simp only [hval, upr_eq, va_rf]) (fun i u hi hiu => ?_)]
      unfold hval
      rw [upr_nei hi]
    · rw [if_neg hj]
      exact (hp_cong rfl (by funext i; exact upr_ne hj) rfl rfl rfl rfl).symm
  rw [e]
  rfl
theorem h_arrR {t N : Nat} (hk : K q = some (.inl (t, N))) (ht : t = 4 ∨ t = 5) : hp K pr pt rr sg lg q = some (.inl (t, N, .inr (.inr (.inr (.inr (rr q)))))) := by
  unfold hp
  rw [hk]
  rcases ht with rfl | rfl <;> rfl
theorem v_aQ {t N : Nat} {i : Int} {Kk : Option Nat → Option X} (hk : K q = some (.inl (t, N))) (ht : t = 4 ∨ t = 5) (hi : 0 ≤ i ∧ i < (N : Int)) (hN : N < 1000) : Option.bind (aQ (hp K pr pt rr sg lg) q t (zt i)) Kk = Kk (rr q i.toNat) := by
  have e : aQ (hp K pr pt rr sg lg) q t (zt i) = some (rr q i.toNat) := by
    unfold aQ
    rw [h_arrR hk ht]
    have h0 : ¬ (zt i < 0) := by
      rw [show (0 : Int32) = zt 0 from rfl, zt_lt (by omega) (by omega) (by omega) (by omega)]
      omega
    have h1 : ¬ (zt i < 0 ∨ N ≤ i.toNat) := by
      rintro (h | h)
      · exact h0 h
      · omega
    simp only [zt_clamp hi.1 (show i < 2147483648 by omega), h1, not_false_eq_true, and_self, if_true]
  rw [e]
  rfl
theorem v_aN {t N a : Nat} {i : Int} {Kk : Nat → Option X} (hk : K q = some (.inl (t, N))) (ht : t = 4 ∨ t = 5) (hi : 0 ≤ i ∧ i < (N : Int)) (hN : N < 1000) (hr : rr q i.toNat = some a) : Option.bind (aN (hp K pr pt rr sg lg) q t (zt i)) Kk = Kk a := by
  unfold aN
  rw [v_aQ hk ht hi hN, hr]
  rfl
theorem v_aP {t N cc v : Nat} {i : Int} {Kk : GH → Option X} (hk : K q = some (.inl (t, N))) (ht : t = 4 ∨ t = 5) (hi : 0 ≤ i ∧ i < (N : Int)) (hN : N < 1000) (hv : K v = some (.inr cc)) : Option.bind (aP (hp K pr pt rr sg lg) q t cc (zt i) v) Kk = Kk (hp K pr pt (upr rr q i.toNat v) sg lg) := by
  have e : aP (hp K pr pt rr sg lg) q t cc (zt i) v = some (hp K pr pt (upr rr q i.toNat v) sg lg) := by
    unfold aP
    rw [h_arrR hk ht]
    have h0 : ¬ (zt i < 0) := by
      rw [show (0 : Int32) = zt 0 from rfl, zt_lt (by omega) (by omega) (by omega) (by omega)]
      omega
    have h1 : ¬ (zt i < 0 ∨ N ≤ i.toNat) := by
      rintro (h | h)
      · exact h0 h
      · omega
    simp only [zt_clamp hi.1 (show i < 2147483648 by omega), h1, not_false_eq_true, and_self, if_true]
    rw [h_obj hv]
    simp only [if_true]
    congr 1
    funext j
    unfold gset
    by_cases hj : j = q
    · subst hj
      have e2 : va_up (rr j) i.toNat (some v) = upr rr j i.toNat v j := by
        funext m
        unfold va_up upr
        simp only [true_and]
      rw [if_pos rfl, h_arrR hk ht, e2]
    · rw [if_neg hj]
      exact (hp_cong rfl rfl rfl (by funext m; exact upr_ne hj) rfl rfl).symm
  rw [e]
  rfl
end MM
/-- a run of cells from a on -/
def blk (G : GH) (a : Nat) (l : List AC) : GH := fun j => if a ≤ j ∧ j < a + l.length then l[j - a]? else G j
theorem blk_nil (G : GH) (a : Nat) : blk G a [] = G := by
  funext j
  unfold blk
  rw [if_neg (by simp only [List.length_nil]; omega)]
theorem blk_out {G : GH} {a j : Nat} {l : List AC} (h : j < a ∨ a + l.length ≤ j) : blk G a l j = G j := if_neg (by omega)
theorem blk_in {G : GH} {a : Nat} {l : List AC} {d : Nat} (h : d < l.length) : blk G a l (a + d) = l[d]? := by
  unfold blk
  rw [if_pos (by omega), show a + d - a = d by omega]
theorem blk_hd {G : GH} {a : Nat} {o : AC} {l : List AC} : gset (blk G (a + 1) l) a o = blk G a (o :: l) := by
  funext j
  unfold gset
  by_cases h : j = a
  · subst h
    have := blk_in (G := G) (a := j) (l := o :: l) (d := 0) (by simp)
    rw [if_pos rfl]
    exact this.symm
  · rw [if_neg h]
    unfold blk
    simp only [List.length_cons]
    by_cases q : a + 1 ≤ j ∧ j < a + 1 + l.length
    · rw [if_pos q, if_pos (by omega), show j - a = j - (a + 1) + 1 by omega, List.getElem?_cons_succ]
    · rw [if_neg q, if_neg (by omega)]
theorem blk_add {G : GH} {a m : Nat} {l : List AC} {o c : AC} {ad : Nat} (h : m = a + l.length) (ha : ad ≠ m) : gset (gset (blk G a l) ad o) m c = gset (blk G a (l ++ [c])) ad o := by
  subst h
  funext j
  unfold gset
  by_cases q : j = a + l.length
  · subst q
    rw [if_pos rfl, if_neg (Ne.symm ha)]
    have := blk_in (G := G) (a := a) (l := l ++ [c]) (d := l.length) (by simp)
    rw [this]
    simp
  · rw [if_neg q]
    by_cases q2 : j = ad
    · rw [if_pos q2, if_pos q2]
    · rw [if_neg q2, if_neg q2]
      unfold blk
      simp only [List.length_append, List.length_cons, List.length_nil]
      by_cases q3 : a ≤ j ∧ j < a + l.length
      · rw [if_pos q3, if_pos (by omega), List.getElem?_append_left (by omega)]
      · rw [if_neg q3, if_neg (by omega)]
theorem k_put {X : Type} {G : GH} {a ad ci k : Nat} {l : List AC} {fs : List Value} {v : Value} {Kk : GH → Option X} (hk : k < fs.length) : Option.bind (pV (gset (blk G a l) ad (.inr (ci, fs))) ad ci k v) Kk = Kk (gset (blk G a l) ad (.inr (ci, fs.set k v))) := by
  have e : pV (gset (blk G a l) ad (.inr (ci, fs))) ad ci k v = some (gset (blk G a l) ad (.inr (ci, fs.set k v))) := by
    unfold pV
    rw [gset_same]
    simp only [hk, and_self, if_true]
    congr 1
    funext j
    unfold gset
    by_cases h : j = ad
    · rw [if_pos h, if_pos h]
    · rw [if_neg h, if_neg h, if_neg h]
  rw [e]
  rfl
theorem k_new {X : Type} {G : GH} {a ad ci k m : Nat} {l : List AC} {fs : List Value} {v : Value} {c : AC} {Kk : GH → Option X} (h : m = a + l.length) (ha : ad ≠ m) (hk : k < fs.length) : Option.bind (pV (gset (gset (blk G a l) ad (.inr (ci, fs))) m c) ad ci k v) Kk = Kk (gset (blk G a (l ++ [c])) ad (.inr (ci, fs.set k v))) := by
  rw [blk_add h ha, k_put hk]
theorem blk_flat {G : GH} {a ad m : Nat} {l l2 : List AC} {o : AC} (h : m = a + l.length) (ha : ad < a) : blk (gset (blk G a l) ad o) m l2 = gset (blk G a (l ++ l2)) ad o := by
  subst h
  funext j
  unfold gset blk
  simp only [List.length_append]
  by_cases q1 : a + l.length ≤ j ∧ j < a + l.length + l2.length
  · rw [if_pos q1, if_neg (by omega), if_pos (by omega), List.getElem?_append_right (by omega), show j - a - l.length = j - (a + l.length) by omega]
  · rw [if_neg q1]
    by_cases q2 : j = ad
    · rw [if_pos q2, if_pos q2]
    · rw [if_neg q2, if_neg q2]
      by_cases q3 : a ≤ j ∧ j < a + l.length
      · rw [if_pos q3, if_pos (by omega), List.getElem?_append_left (by omega)]
      · rw [if_neg q3, if_neg (by omega)]
theorem hp_blk {K K1 : HK} {pr pr1 : HP} {pt pt1 : Nat → Nat} {rr rr1 : HP} {sg sg1 : Nat → Nat → Int32} {lg lg1 : Nat → Nat → Int64} {a : Nat} {l : List AC} (hi : ∀ d, d < l.length → hp K1 pr1 pt1 rr1 sg1 lg1 (a + d) = l[d]?) (ho : ∀ j, j < a ∨ a + l.length ≤ j → K1 j = K j ∧ pr1 j = pr j ∧ pt1 j = pt j ∧ rr1 j = rr j ∧ sg1 j = sg j ∧ lg1 j = lg j) : blk (hp K pr pt rr sg lg) a l = hp K1 pr1 pt1 rr1 sg1 lg1 := by
  funext j
  by_cases q : a ≤ j ∧ j < a + l.length
  · have := hi (j - a) (by omega)
    rw [show a + (j - a) = j by omega] at this
    rw [this]
    exact if_pos q
  · rw [blk_out (by omega)]
    obtain ⟨h1, h2, h3, h4, h5, h6⟩ := ho j (by omega)
    exact (hp_cong h1 h2 h3 h4 h5 h6).symm
/-! a block laid over memory -/
def xK (K : HK) (a : Nat) (l : List ((Nat × Nat) ⊕ Nat)) : HK := fun q => if a ≤ q ∧ q < a + l.length then l[q - a]? else K q
def xP (pr : HP) (a L : Nat) (f : Nat → Nat → Option Nat) : HP := fun q k => if a ≤ q ∧ q < a + L then f (q - a) k else pr q k
def xM (M : ZM) (a L : Nat) (f : Nat → Int → Int) : ZM := fun q e => if a ≤ q ∧ q < a + L then f (q - a) e else M q e
def xL (lg : Nat → Nat → Int64) (a L : Nat) : Nat → Nat → Int64 := fun q k => if a ≤ q ∧ q < a + L then 0 else lg q k
theorem xK_in {K : HK} {a d : Nat} {l : List ((Nat × Nat) ⊕ Nat)} (h : d < l.length) : xK K a l (a + d) = l[d]? := by
  unfold xK
  rw [if_pos (by omega), show a + d - a = d by omega]
theorem xP_in {pr : HP} {a d L k : Nat} {f : Nat → Nat → Option Nat} (h : d < L) : xP pr a L f (a + d) k = f d k := by
  unfold xP
  rw [if_pos (by omega), show a + d - a = d by omega]
theorem xM_in {M : ZM} {a d L : Nat} {f : Nat → Int → Int} (h : d < L) : xM M a L f (a + d) = f d := by
  funext e
  unfold xM
  rw [if_pos (by omega), show a + d - a = d by omega]
theorem xL_in {lg : Nat → Nat → Int64} {a d L k : Nat} (h : d < L) : xL lg a L (a + d) k = 0 := if_pos (by omega)
theorem xK_out {K : HK} {a j : Nat} {l : List ((Nat × Nat) ⊕ Nat)} (h : j < a ∨ a + l.length ≤ j) : xK K a l j = K j := if_neg (by omega)
theorem xP_out {pr : HP} {a j L : Nat} {f : Nat → Nat → Option Nat} (h : j < a ∨ a + L ≤ j) : xP pr a L f j = pr j := by funext k; exact if_neg (by omega)
theorem xM_out {M : ZM} {a j L : Nat} {f : Nat → Int → Int} (h : j < a ∨ a + L ≤ j) : xM M a L f j = M j := by funext k; exact if_neg (by omega)
theorem xL_out {lg : Nat → Nat → Int64} {a j L : Nat} (h : j < a ∨ a + L ≤ j) : xL lg a L j = lg j := by funext k; exact if_neg (by omega)
theorem LI_out {M : ZM} {a j L : Nat} {f : Nat → Int → Int} (h : j < a ∨ a + L ≤ j) : LI (xM M a L f) j = LI M j := by funext k; unfold LI; rw [xM_out h]
theorem LI_in {M : ZM} {a d L k : Nat} {f : Nat → Int → Int} (h : d < L) : LI (xM M a L f) (a + d) k = zt (f d k) := by unfold LI; rw [xM_in h]
theorem LI_in0 {M : ZM} {a d L : Nat} {f : Nat → Int → Int} (h : d < L) (h0 : f d = fun _ => 0) : LI (xM M a L f) (a + d) = fun _ => 0 := by
  funext k
  rw [LI_in h, h0]
  rfl
theorem x_out {K : HK} {pr rr : HP} {pt : Nat → Nat} {M : ZM} {lg : Nat → Nat → Int64} {a L p : Nat} {l : List ((Nat × Nat) ⊕ Nat)} {f r : Nat → Nat → Option Nat} {g : Nat → Int → Int} (hl : l.length = L) (h0 : 0 < L) (j : Nat) (h : j < a ∨ a + L ≤ j) : xK K a l j = K j ∧ xP pr a L f j = pr j ∧ upt pt a p j = pt j ∧ xP rr a L r j = rr j ∧ LI (xM M a L g) j = LI M j ∧ xL lg a L j = lg j :=
  ⟨xK_out (by omega), xP_out h, upt_ne (by omega), xP_out h, LI_out h, xL_out h⟩
