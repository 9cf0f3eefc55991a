/-! The reference reckons as the recursion. -/
theorem recL_keep0 {B : Int} {rec : Int → (Int → Int) → FR} {pre sums : List Int} {t p N : Int} (hrec : RecR B N rec) (hkp : ∀ (u : Int) (A : Int → Int), N ≤ A 206 → FI B A 0 → 0 ≤ u → u < A 206 → ∀ x ∈ sums, (rec u A).2.2 (207 + 8 * x + 2) = A (207 + 8 * x + 2)) (hr : ∀ x ∈ sums, 0 ≤ x ∧ x < N) (ht : 0 ≤ t ∧ t < N) :
    ∀ (n : Nat) (k : Int) (C : Int → Int), FI B C 0 → N ≤ C 206 → p = C (207 + 8 * t) → 0 ≤ k → k + n ≤ C (1 + 11 * p + 2) → ∀ y ∈ sums, (recL rec pre t p n k C).2.2 (207 + 8 * y + 2) = C (207 + 8 * y + 2) := by
  intro n
  induction n with
  | zero => intro k C _ _ _ _ _ y _; rfl
  | succ n ih =>
    intro k C hC hNC hpC hk hkn y hy
    have hy2 := hr y hy
    have hm := hC.2.2.1.1
    obtain ⟨e1, e2, e3, e4⟩ := nedS_ok (B := B) (A := C) (t := t) (p := p) (k := k) hC (by omega) hpC (by omega)
    obtain ⟨c1, c2, c3, c4⟩ := hC.2.2.1.2 t ht.1 (by omega)
    rw [← hpC] at c1
    have hmany := (hC.1.2 _ c1.1 c1.2).2.1
    have hned : (nedS t p k C).2.2 (207 + 8 * y + 2) = C (207 + 8 * y + 2) := by
      have hnd := (hC.1.2 _ c1.1 c1.2).2.2.1 k hk (by omega)
      have hx := (fetS_ok (B := B) 13 [] (C 0) (C (207 + 8 * t + 1)) rfl (by simp) (fun x hx => by cases hx) hC.1.1.2 c2 (C (1 + 11 * p + (3 + k))) C rfl hC hnd.1 hnd.2).1
      simp only at hx
      unfold nedS
      split
      · split
        · exact hx.2.2 y 2 hy2.1 (by omega) (by omega) (by omega)
        · simp only
          rw [ua_ne (by omega)]
          exact hx.2.2 y 2 hy2.1 (by omega) (by omega) (by omega)
      · rfl
    unfold recL
    generalize nedS t p k C = e at *
    by_cases q3 : e.1 < 0
    · rw [if_pos q3]; exact hned
    · rw [if_neg q3]
      obtain ⟨f1, f2, f3, f4⟩ := e2 q3
      have hl1 := e1.2.1
      obtain ⟨r1, r2, r3⟩ := hrec e.1 e.2.2 (by omega) f4 f1.1 f1.2
      have hk2 := hkp e.1 e.2.2 (by omega) f4 f1.1 f1.2 y hy
      generalize rec e.1 e.2.2 = r at *
      by_cases q4 : r.1 < 0
      · rw [if_pos q4, hk2]; exact hned
      · rw [if_neg q4]
        obtain ⟨g1, g2, g3⟩ := r2 q4
        have hx := e1.trans r1
        have hl2 := r1.2.1
        have hc := hC.1.1
        rw [ih (k + 1) r.2.2 g3 (by omega) (by rw [(hx.2.2 t ht.1 (by omega)).1]; exact hpC) (by omega) (by rw [hx.1 _ (by omega)]; omega) y hy, hk2]
        exact hned
theorem recS_keep {B : Int} : ∀ (d : Nat) (sums prs : List Int) (N : Int), sums.length + d = 61 → prs.length = sums.length → sums.Nodup → (∀ x ∈ sums, 0 ≤ x ∧ x < N) → N ≤ 60 → ∀ (t : Int) (A : Int → Int), N ≤ A 206 → FI B A 0 → 0 ≤ t → t < A 206 → ∀ x ∈ sums, (recS d sums prs t A).2.2 (207 + 8 * x + 2) = A (207 + 8 * x + 2)
  | 0, sums, prs, N, hl, hpl, hd, hr, hN => by
    have := nodup_le 60 sums hd (fun x hx => by have := hr x hx; omega)
    omega
  | d + 1, sums, prs, N, hl, hpl, hd, hr, hN => by
    intro t A hNA hA ht1 ht2 x hx
    have hm := hA.2.2.1.1
    have hxr := hr x hx
    obtain ⟨w1, w2, w3, w4⟩ := hA.2.2.1.2 t ht1 ht2
    have hwp := hA.1.2 _ w1.1 w1.2
    unfold recS
    by_cases q1 : A (207 + 8 * t + 2) = 1
    · rw [if_pos q1]
    · rw [if_neg q1]
      by_cases q2 : t ∈ sums
      · rw [if_pos q2]
      · rw [if_neg q2]
        have hask : 0 ≤ askd A (A (207 + 8 * t)) ∧ askd A (A (207 + 8 * t)) ≤ A (1 + 11 * A (207 + 8 * t) + 2) := by
          unfold askd
          have := hwp.2.1
          split <;> omega
        have hr2 : ∀ y ∈ sums ++ [t], 0 ≤ y ∧ y < A 206 := fun y hy => by
          rcases List.mem_append.mp hy with h | h
          · have := hr y h; omega
          · rw [List.mem_singleton] at h; subst h; omega
        have hl2 : (sums ++ [t]).length + d = 61 := by rw [List.length_append, List.length_singleton]; omega
        have hp2 : (prs ++ [A (207 + 8 * t)]).length = (sums ++ [t]).length := by rw [List.length_append, List.length_append, List.length_singleton, List.length_singleton]; omega
        have hrec := recS_ok (B := B) d (sums ++ [t]) (prs ++ [A (207 + 8 * t)]) (A 206) hl2 hp2 (nodup_snoc hd q2) hr2 (by omega)
        have hkp := recS_keep (B := B) d (sums ++ [t]) (prs ++ [A (207 + 8 * t)]) (A 206) hl2 hp2 (nodup_snoc hd q2) hr2 (by omega)
        have hL := recL_keep0 (B := B) (pre := prs ++ [A (207 + 8 * t)]) (p := A (207 + 8 * t)) hrec hkp hr2 ⟨ht1, ht2⟩ (askd A (A (207 + 8 * t))).toNat 0 A hA (Int.le_refl _) rfl (by omega) (by omega) x (List.mem_append.mpr (Or.inl hx))
        generalize recL (fun u C => recS d (sums ++ [t]) (prs ++ [A (207 + 8 * t)]) u C) (prs ++ [A (207 + 8 * t)]) t (A (207 + 8 * t)) (askd A (A (207 + 8 * t))).toNat 0 A = r at *
        have hne : x ≠ t := fun e => q2 (e ▸ hx)
        by_cases q3 : r.1 < 0
        · rw [if_pos q3]; exact hL
        · rw [if_neg q3]
          show vaS r.2.2 t _ = _
          unfold vaS
          rw [ua_ne (by omega), ua_ne (by omega)]
          exact hL
theorem recL_keep {B : Int} {d : Nat} {sums prs : List Int} {t p N : Int} (hl : sums.length + d = 61) (hpl : prs.length = sums.length) (hd : sums.Nodup) (hr : ∀ x ∈ sums, 0 ≤ x ∧ x < N) (hN : N ≤ 60) (ht : 0 ≤ t ∧ t < N) :
    ∀ (n : Nat) (k : Int) (C : Int → Int), FI B C 0 → N ≤ C 206 → p = C (207 + 8 * t) → 0 ≤ k → k + n ≤ C (1 + 11 * p + 2) → ∀ y ∈ sums, (recL (fun u C => recS d sums prs u C) prs t p n k C).2.2 (207 + 8 * y + 2) = C (207 + 8 * y + 2) :=
  recL_keep0 (recS_ok (B := B) d sums prs N hl hpl hd hr hN) (recS_keep (B := B) d sums prs N hl hpl hd hr hN) hr ht
theorem seg_map (g : Int → Int) (h : Int → Int) : ∀ (n : Nat) (i : Int), seg (fun j => g (h j)) n i = (seg h n i).map g
  | 0, _ => rfl
  | n + 1, i => by rw [seg, seg, List.map_cons, seg_map g h n (i + 1)]
section RR
variable {w : Int64} {F : Nat}
theorem x_valueOf {M : ZM} {t : Int} (hF : 6 < F) (ht : 0 ≤ t ∧ t < 60) (hp : 0 ≤ M 1 (207 + 8 * t) ∧ M 1 (207 + 8 * t) < 12) (ha : 0 ≤ M 1 (1 + 11 * M 1 (207 + 8 * t)) ∧ M 1 (1 + 11 * M 1 (207 + 8 * t)) ≤ 5) (hm : 0 ≤ M 1 (1 + 11 * M 1 (207 + 8 * t) + 2) ∧ M 1 (1 + 11 * M 1 (207 + 8 * t) + 2) ≤ 4)
    (hh : M 1 (1 + 11 * M 1 (207 + 8 * t)) ≠ 0 → ∀ k, 0 ≤ k → k < M 1 (1 + 11 * M 1 (207 + 8 * t) + 2) → 0 < M 1 (207 + 8 * t + (4 + k)) ∧ M 1 (207 + 8 * t + (4 + k)) ≤ 60) :
    p_X11_valueOf F (zt t) (LI M) w = some (zt (vfS (M 1) t (M 1 (1 + 11 * M 1 (207 + 8 * t))) (askd (M 1) (M 1 (207 + 8 * t))).toNat 0 (M 1 (1 + 11 * M 1 (207 + 8 * t) + 1)))) := by
  unfold p_X11_valueOf
  simp (disch := omega) only [zt_lit, x_its, x_of, ob_z, Int.add_zero]
  generalize hpp : M 1 (207 + 8 * t) = p at *
  unfold askd
  by_cases q0 : M 1 (1 + 11 * p) = 0
  · rw [if_pos q0]
    obtain ⟨g, hg⟩ : ∃ g, F = g + 1 := ⟨F - 1, by omega⟩
    have hstep : ∀ (r : Int32 → Int32 → Option Int32) (v : Int), pb_X11_valueOf_25 F (zt t) (zt p) (zt (M 1 (1 + 11 * p))) (LI M) w r (zt v) (zt 0) = some (zt v) := by
      intro r v
      unfold pb_X11_valueOf_25
      simp (disch := omega) only [zt_lit, x_of, ob_z, zt_le, zt_eq]
      split
      · rfl
      · first | rfl | rw [if_pos q0]
    have : ∀ (G : Nat) (v : Int), fixN (fun _ _ => none) (pb_X11_valueOf_25 F (zt t) (zt p) (zt (M 1 (1 + 11 * p))) (LI M) w) (G + 1) (zt v) (zt 0) = some (zt v) := fun G v => hstep _ v
    have h2 := this g (M 1 (1 + 11 * p + 1))
    rw [← hg] at h2
    exact h2
  · rw [if_neg q0]
    refine (fix_ind (fun K (r : Int32 → Int32 → Option Int32) => ∀ (n : Nat) (k v : Int), 0 ≤ k → k + n = M 1 (1 + 11 * p + 2) → n < K → r (zt v) (zt k) = some (zt (vfS (M 1) t (M 1 (1 + 11 * p)) n k v))) ?_ ?_ F) _ 0 _ (by omega) (by omega) (by omega)
    · intro n k v _ _ h; omega
    · intro K r ih n k v hk hn hK
      unfold pb_X11_valueOf_25
      cases n with
      | zero =>
        simp (disch := omega) only [zt_lit, x_of, ob_z, zt_le]
        rw [if_pos (by omega)]
        rfl
      | succ n =>
        have hb := hh q0 k hk (by omega)
        simp (disch := omega) only [zt_lit, x_of, x_its, ob_z, zt_le, zt_eq, zt_add, zt_sub, zt_mul, gnm_z]
        rw [if_neg (by omega), if_neg q0]
        have e := fun v => ih n (k + 1) v (by omega) (by omega) (by omega)
        simp only [e]
        rw [show vfS (M 1) t (M 1 (1 + 11 * p)) (n + 1) k v = vfS (M 1) t (M 1 (1 + 11 * p)) n (k + 1) (ap (M 1 (1 + 11 * p)) v (M 1 (207 + 8 * (M 1 (207 + 8 * t + (4 + k)) - 1) + 3))) from rfl]
        unfold ap
        generalize M 1 (1 + 11 * p) = a at *
        generalize M 1 (207 + 8 * (M 1 (207 + 8 * t + (4 + k)) - 1) + 3) = x
        by_cases a1 : a = 1
        · rw [if_pos a1, if_pos a1]
        · rw [if_neg a1, if_neg a1]
          by_cases a2 : a = 2
          · rw [if_pos a2, if_pos a2]
          · rw [if_neg a2, if_neg a2]
            by_cases a3 : a = 3
            · rw [if_pos a3, if_pos a3]
              by_cases c : zt x ≤ zt v
              · rw [if_pos c, if_pos c]
              · rw [if_neg c, if_neg c]
            · rw [if_neg a3, if_neg a3]
              by_cases a4 : a = 4
              · rw [if_pos a4, if_pos a4]
                by_cases c : zt v ≤ zt x
                · rw [if_pos c, if_pos c]
                · rw [if_neg c, if_neg c]
              · rw [if_neg a4, if_neg a4]
theorem x_isReckoned {M : ZM} {p : Int} {n : Nat} (hF : 70 < F) (hp : 0 ≤ p ∧ p < 60) (hw : M 0 29 = n) (hn : n ≤ 60) (hr : ∀ i, 0 ≤ i → i < (n : Int) → 0 ≤ M 14 i ∧ M 14 i < 60) : p_X11_isReckoned F (zt p) (LI M) w = some (zt (if p ∈ seg (M 14) n 0 then 1 else 0)) := by
  unfold p_X11_isReckoned
  refine (fix_ind (fun k (r : Int32 → Option Int32) => ∀ (c : Nat) (i : Int), 0 ≤ i → i + c = n → c < k → r (zt i) = some (zt (if p ∈ seg (M 14) c i then 1 else 0))) ?_ ?_ F) n 0 (by omega) (by omega) (by omega)
  · intro c i _ _ h; omega
  · intro k r ih c i hi hc hk
    unfold pb_X11_isReckoned_2
    have e26 : LI M 0 29 = zt n := by rw [← hw]; rfl
    rw [e26]
    cases c with
    | zero =>
      simp (disch := omega) only [zt_lit, zt_le, rP_z0, seg, List.not_mem_nil, if_false]
      rw [if_pos (by omega)]
    | succ c =>
      have hb := hr i (by omega) (by omega)
      simp (disch := omega) only [zt_lit, zt_le, mI_z, ob_z, zt_eq, zt_add, rP_z0, rP_z1, seg, List.mem_cons]
      rw [if_neg (by omega), ih c (i + 1) (by omega) (by omega) (by omega)]
      by_cases q2 : M 14 i = p
      · rw [if_pos q2, if_pos (Or.inl q2.symm)]
      · rw [if_neg q2]
        have e : (p = M 14 i ∨ p ∈ seg (M 14) c (i + 1)) ↔ p ∈ seg (M 14) c (i + 1) := ⟨fun h => h.resolve_left (fun q => q2 q.symm), Or.inr⟩
        simp only [e]
def puR (M : ZM) (sn : Int) (t : Int) : ZM := uM (uM (uM M 14 sn t) 15 sn 0) 0 29 (sn + 1)
theorem x_sumBegins {M : ZM} {t sn : Int} (hn : 0 ≤ sn ∧ sn < 64) (h29 : M 0 29 = sn) : p_X11_sumBegins F (zt t) (LI M) w = some (LI (puR M sn t), w) := by
  unfold p_X11_sumBegins
  have hl : ∀ N : ZM, LI N 0 29 = zt (N 0 29) := fun N => rfl
  simp (disch := omega) only [hl, zt_lit, h29, mS_z, ob_z, uM_ne, zt_add, gnm_z, up2_z]
  rfl
/-- the pile of things whose values are reckoned -/
def PJ (B : Int) (M : ZM) (sn : Nat) (sums prs : List Int) : Prop := FI B (M 1) 0 ∧ M 0 29 = sn ∧ seg (M 14) sn 0 = sums ∧ sums.Nodup ∧ (∀ x ∈ sums, 0 ≤ x ∧ x < M 1 206) ∧ prs = sums.map (fun x => M 1 (207 + 8 * x))
def SmR (M M1 : ZM) (n : Int) : Prop := (∀ e, e ≠ 26 → e ≠ 29 → M1 0 e = M 0 e) ∧ (∀ j, 2 ≤ j → (j < 9 ∨ 15 < j) → M1 j = M j) ∧ (∀ i, 0 ≤ i → i < n → M1 14 i = M 14 i ∧ M1 15 i = M 15 i)
theorem SmR.refl (M : ZM) (n : Int) : SmR M M n := ⟨fun _ _ _ => rfl, fun _ _ _ => rfl, fun _ _ _ => ⟨rfl, rfl⟩⟩
theorem SmR.trans {M M1 M2 : ZM} {n : Int} (h : SmR M M1 n) (h1 : SmR M1 M2 n) : SmR M M2 n :=
  ⟨fun e a b => (h1.1 e a b).trans (h.1 e a b), fun j a b => (h1.2.1 j a b).trans (h.2.1 j a b), fun i a b => ⟨(h1.2.2 i a b).1.trans (h.2.2 i a b).1, (h1.2.2 i a b).2.trans (h.2.2 i a b).2⟩⟩
theorem SmR.less {M M1 : ZM} {n m : Int} (h : SmR M M1 n) (hm : m ≤ n) : SmR M M1 m := ⟨h.1, h.2.1, fun i a b => h.2.2 i a (by omega)⟩
theorem Sm.toR {M M1 : ZM} {m : Int} (h : Sm M M1 0) : SmR M M1 m :=
  ⟨fun e a _ => h.1 e a, fun j a b => h.2.1 j a (by omega), fun i _ _ => ⟨by rw [h.2.1 14 (by omega) (by omega)], by rw [h.2.1 15 (by omega) (by omega)]⟩⟩
theorem PJ.r14 {B : Int} {M : ZM} {sn : Nat} {sums prs : List Int} (h : PJ B M sn sums prs) : ∀ j, 0 ≤ j → j < (sn : Int) → 0 ≤ M 14 j ∧ M 14 j < M 1 206 := fun j a b => h.2.2.2.2.1 _ (by
  rw [← h.2.2.1, seg_mem]
  exact ⟨j, by omega, by omega, rfl⟩)
theorem PJ.pr {B : Int} {M : ZM} {sn : Nat} {sums prs : List Int} (h : PJ B M sn sums prs) : seg (fun j => M 1 (207 + 8 * M 14 j)) sn 0 = prs := by
  rw [seg_map (fun x => M 1 (207 + 8 * x)) (M 14), h.2.2.1, h.2.2.2.2.2]
theorem PJ.len {B : Int} {M : ZM} {sn : Nat} {sums prs : List Int} (h : PJ B M sn sums prs) : sn ≤ 60 ∧ sums.length = sn ∧ prs.length = sn := by
  have h1 : sums.length = sn := by rw [← h.2.2.1, seg_len]
  have hm := h.1.2.2.1.1
  have h2 := nodup_le 60 sums h.2.2.2.1 (fun x hx => by have := h.2.2.2.2.1 x hx; omega)
  exact ⟨by omega, h1, by rw [h.2.2.2.2.2, List.length_map, h1]⟩
/-- the row goes on: the pile stays -/
theorem PJ.next {B : Int} {M M1 : ZM} {sn : Nat} {sums prs : List Int} (h : PJ B M sn sums prs) (hx : ExtR (M 1) (M1 1)) (hF : FI B (M1 1) 0) (h29 : M1 0 29 = sn) (hs : SmR M M1 sn) : PJ B M1 sn sums prs := by
  obtain ⟨a1, a2, a3, a4, a5, a6⟩ := h
  refine ⟨hF, h29, ?_, a4, fun x hx1 => ?_, ?_⟩
  · rw [seg_cong (f := M1 14) (g := M 14) sn 0 (fun j c1 c2 => (hs.2.2 j c1 (by omega)).1)]
    exact a3
  · have := a5 x hx1
    have := hx.2.1
    omega
  · rw [a6]
    refine List.map_congr_left (fun x hx1 => ?_)
    have := a5 x hx1
    exact ((hx.2.2 x this.1 this.2).1).symm
theorem puR_at {M : ZM} {sn t : Int} : puR M sn t 1 = M 1 ∧ puR M sn t 0 29 = sn + 1 ∧ puR M sn t 14 sn = t ∧ puR M sn t 15 sn = 0 ∧ SmR M (puR M sn t) sn := by
  unfold puR
  refine ⟨?_, ?_, ?_, ?_, ?_, ?_, ?_⟩
  · funext e; simp (disch := omega) only [uM_ne]
  · rw [uM_eq]
  · simp (disch := omega) only [uM_ne, uM_eq]
  · simp (disch := omega) only [uM_ne, uM_eq]
  · intro e a b
    rw [uM_nei b]
    simp (disch := omega) only [uM_ne]
  · intro j a b
    funext e
    simp (disch := omega) only [uM_ne]
  · intro i a b
    constructor
    · simp (disch := omega) only [uM_ne, uM_nei]
    · simp (disch := omega) only [uM_ne, uM_nei]
theorem PJ.push {B : Int} {M : ZM} {sn : Nat} {sums prs : List Int} {t : Int} (h : PJ B M sn sums prs) (ht : 0 ≤ t ∧ t < M 1 206) (hn : t ∉ sums) : PJ B (puR M sn t) (sn + 1) (sums ++ [t]) (prs ++ [M 1 (207 + 8 * t)]) := by
  obtain ⟨u1, u2, u3, u4, u5⟩ := puR_at (M := M) (sn := (sn : Int)) (t := t)
  obtain ⟨a1, a2, a3, a4, a5, a6⟩ := h
  refine ⟨by rw [u1]; exact a1, by rw [u2]; omega, ?_, nodup_snoc a4 hn, fun x hx => ?_, ?_⟩
  · rw [seg_snoc, seg_cong (f := puR M sn t 14) (g := M 14) sn 0 (fun j c1 c2 => (u5.2.2 j c1 (by omega)).1), a3, show (0 : Int) + sn = sn by omega, u3]
  · rw [u1]
    rcases List.mem_append.mp hx with h | h
    · exact a5 x h
    · rw [List.mem_singleton] at h; subst h; exact ht
  · rw [u1, List.map_append, ← a6]
    rfl
theorem x_sgE {M : ZM} {B : Int} {sn : Nat} {sums prs : List Int} {t : Int} (hF : 100 < F) (h : PJ B M (sn + 1) sums prs) (ht : M 14 sn = t) (hk : 0 ≤ M 15 sn ∧ M 15 sn ≤ 4) (he : M 1 (1 + 11 * M 1 (207 + 8 * t)) = 0 ∨ M 15 sn = M 1 (1 + 11 * M 1 (207 + 8 * t) + 2))
    (hh : M 1 (1 + 11 * M 1 (207 + 8 * t)) ≠ 0 → ∀ k, 0 ≤ k → k < M 1 (1 + 11 * M 1 (207 + 8 * t) + 2) → 0 < M 1 (207 + 8 * t + (4 + k))) :
    p_X11_sumGoesOn F (LI M) w = some (zt 1, LI (uM (sR M 1 (vaS (M 1) t)) 0 29 sn), w) := by
  have hm := h.1.2.2.1.1
  have htr := h.r14 sn (by omega) (by omega)
  rw [ht] at htr
  obtain ⟨w1, w2, w3, w4⟩ := h.1.2.2.1.2 t htr.1 htr.2
  obtain ⟨p1, p2, -⟩ := h.1.1.2 _ w1.1 w1.2
  have hc := h.1.1.1
  have h60 := h.len.1
  have hv := x_valueOf (w := w) (F := F) (M := M) (t := t) (by omega) (by omega) (by omega) p1 p2 (fun a k b c => by
    have := hh a k b c
    have := w4 k b (by omega)
    omega)
  have e29 : LI M 0 29 = zt ((sn : Int) + 1) := by
    have : M 0 29 = (sn : Int) + 1 := by rw [h.2.1]; omega
    rw [← this]; rfl
  have e45 : pk_X11_sumGoesOn_45 F (zt t) (LI M) w = some (zt 1, LI (uM (sR M 1 (vaS (M 1) t)) 0 29 sn), w) := by
    unfold pk_X11_sumGoesOn_45
    have hl : ∀ N : ZM, LI N 0 29 = zt (N 0 29) := fun N => rfl
    have h29 : M 0 29 = (sn : Int) + 1 := by rw [h.2.1]; omega
    rw [hv, ob_z]
    simp (disch := omega) only [zt_lit, x_itIs, pcU_z, hl, uM_ne, h29, zt_sub, gnm_z, up2_z]
    rw [uM_row M, uM_sR, show (sn : Int) + 1 - 1 = sn by omega]
    rfl
  unfold p_X11_sumGoesOn
  rw [e29]
  simp (disch := omega) only [zt_lit, zt_sub, gnm_z, show (sn : Int) + 1 - 1 = sn by omega, mI_z, ob_z, ht, x_its, x_of, Int.add_zero, zt_eq, e45]
  rcases he with he | he
  · rw [if_pos he]
  · rw [if_pos he]
    split <;> rfl
theorem x_sg137 {M : ZM} {B : Int} {sn : Nat} {sums prs : List Int} {t k u : Int} (hF : 100 < F) (h : PJ B M (sn + 1) sums prs) (ht : 0 ≤ t ∧ t < 60) (hk : M 15 sn = k) (hk2 : 0 ≤ k ∧ k < 4) (hu : M 1 (207 + 8 * t + (4 + k)) = u + 1) (hu2 : 0 ≤ u ∧ u < M 1 206) :
    pk_X11_sumGoesOn_137 F (zt sn) (zt t) (zt k) (LI M) w = if M 1 (207 + 8 * u + 2) = 1 then some (zt 1, LI (uM M 15 sn (k + 1)), w) else if u ∈ sums then some (zt (-2), LI (sR (uM M 0 26 0) 1 (whyW (M 1) (-2) (prs ++ [M 1 (207 + 8 * u)]))), w) else some (zt 1, LI (puR M ((sn : Int) + 1) u), w) := by
  have hm := h.1.2.2.1.1
  have h60 := h.len.1
  obtain ⟨w1, w2, w3, w4⟩ := h.1.2.2.1.2 u hu2.1 hu2.2
  have hc := h.1.1.1
  have h29 : M 0 29 = ((sn + 1 : Nat) : Int) := h.2.1
  have hr := x_isReckoned (w := w) (F := F) (M := M) (p := u) (n := sn + 1) (by omega) (by omega) h29 h60 (fun i a b => by have := h.r14 i a b; omega)
  rw [h.2.2.1] at hr
  have hb := x_sumBegins (w := w) (F := F) (M := M) (t := u) (sn := (sn : Int) + 1) (by omega) (by rw [h29]; omega)
  have e1 : uM M 0 26 0 1 = M 1 := by funext e; exact uM_ne (by omega)
  have hty : p_X11_tellsWhy F (zt (-2)) (zt (M 1 (207 + 8 * u))) (LI (uM M 0 26 0)) w = some (zt (-2), LI (sR (uM M 0 26 0) 1 (whyW (M 1) (-2) (prs ++ [M 1 (207 + 8 * u)]))), w) := by
    have hls : lsl (M 1 (207 + 8 * u)) = [M 1 (207 + 8 * u)] := if_neg (by omega)
    rw [x_tellsWhy (M := uM M 0 26 0) (n := 0) (sn := sn + 1) (f := fun j => M 1 (207 + 8 * M 14 j)) (by omega) (by omega) (by omega) h60 (by rw [uM_eq]; rfl) (by rw [uM_nei (by omega)]; exact h29) (fun j a b => by
      rw [uM_ne (by omega), e1]
      have := h.r14 j a b
      exact ⟨by omega, rfl⟩), h.pr, e1, hls]
    rfl
  unfold pk_X11_sumGoesOn_137
  simp (disch := omega) only [zt_lit, zt_neg, zt_add, x_its, ob_z, hu, zt_sub, gnm_z, show u + 1 - 1 = u by omega, zt_eq, mI_z, hk, mS_z, hr, hb, pcU_z, up2_z]
  by_cases q1 : M 1 (207 + 8 * u + 2) = 1
  · rw [if_pos q1, if_pos q1]
  · rw [if_neg q1, if_neg q1]
    by_cases q2 : u ∈ sums
    · simp (disch := omega) only [if_pos q2, zt_eq]
      rw [if_neg (by omega)]
      show pcI (p_X11_tellsWhy F (zt (-2)) (zt (uM M 0 26 0 1 (207 + 8 * u + 0))) (LI (uM M 0 26 0)) w) _ = _
      rw [Int.add_zero, e1, hty]
      rfl
    · simp (disch := omega) only [if_neg q2, zt_eq]
      rfl
/-- the next need of what is reckoned last is asked, if it was not yet -/
theorem x_sgn {M : ZM} {B : Int} {sn : Nat} {sums prs : List Int} {t k p : Int} (hF : 500 < F) (hB : B ≤ 1000000000) (h : PJ B M (sn + 1) sums prs) (ht : M 14 sn = t) (hk : M 15 sn = k) (hp : p = M 1 (207 + 8 * t)) (hact : M 1 (1 + 11 * p) ≠ 0) (hk2 : 0 ≤ k ∧ k < M 1 (1 + 11 * p + 2)) :
    ((nedS t p k (M 1)).1 < 0 → ∃ M1, p_X11_sumGoesOn F (LI M) w = some (zt (nedS t p k (M 1)).1, LI M1, w) ∧ M1 1 = whyW (nedS t p k (M 1)).2.2 (nedS t p k (M 1)).1 (prs ++ (nedS t p k (M 1)).2.1) ∧ SmR M M1 0) ∧
    (¬ (nedS t p k (M 1)).1 < 0 → ∃ M1, p_X11_sumGoesOn F (LI M) w = pk_X11_sumGoesOn_137 F (zt sn) (zt t) (zt k) (LI M1) w ∧ M1 1 = (nedS t p k (M 1)).2.2 ∧ M1 0 29 = ((sn + 1 : Nat) : Int) ∧ SmR M M1 (sn + 1)) := by
  have hm := h.1.2.2.1.1
  have htr := h.r14 sn (by omega) (by omega)
  rw [ht] at htr
  obtain ⟨w1, w2, w3, w4⟩ := h.1.2.2.1.2 t htr.1 htr.2
  have hc := h.1.1.1
  rw [← hp] at w1
  obtain ⟨p1, p2, p3, -⟩ := h.1.1.2 _ w1.1 w1.2
  have hnd := p3 k hk2.1 hk2.2
  have h60 := h.len.1
  have hk4 := w4 k hk2.1 (by omega)
  have h29 : M 0 29 = ((sn + 1 : Nat) : Int) := h.2.1
  have e29 : LI M 0 29 = zt ((sn : Int) + 1) := by
    have : M 0 29 = (sn : Int) + 1 := by rw [h.2.1]; omega
    rw [← this]; rfl
  have hsg : p_X11_sumGoesOn F (LI M) w = if M 1 (207 + 8 * t + (4 + k)) = 0 then pcI (p_X11_asks F (zt (M 1 (1 + 11 * p + (3 + k)))) (zt (M 1 (207 + 8 * t + 1))) (LI M) w) (fun (x32 : Int32) (sg30 : Nat → Nat → Int32) (w31 : Int64) =>
      if zt 0 ≤ x32 then
      (pcU (p_X11_itIs F (zt t) (zt (4 + k)) (x32 + zt 1) sg30 w31) (fun (sg33 : Nat → Nat → Int32) (w34 : Int64) =>
      pk_X11_sumGoesOn_137 F (zt sn) (zt t) (zt k) sg33 w34))
      else (some (x32, sg30, w31))) else pk_X11_sumGoesOn_137 F (zt sn) (zt t) (zt k) (LI M) w := by
    unfold p_X11_sumGoesOn
    rw [e29]
    simp (disch := omega) only [zt_lit, zt_sub, zt_add, gnm_z, show (sn : Int) + 1 - 1 = sn by omega, mI_z, ob_z, ht, hk, x_its, x_of, Int.add_zero, zt_eq, ← hp]
    rw [if_neg hact, if_neg (by omega)]
  rw [hsg]
  unfold nedS
  by_cases q : M 1 (207 + 8 * t + (4 + k)) = 0
  · rw [if_pos q, if_pos q]
    have hok := fetS_ok (B := B) 13 [] (M 1 0) (M 1 (207 + 8 * t + 1)) rfl (by simp) (fun x hx => by cases hx) h.1.1.1.2 w2 (M 1 (1 + 11 * p + (3 + k))) (M 1) rfl h.1 hnd.1 hnd.2
    obtain ⟨M1, a1, a2, a3⟩ := x_asks (w := w) (F := F) (B := B) (M := M) (sn := sn + 1) (f := fun j => M 1 (207 + 8 * M 14 j)) (part := M 1 (1 + 11 * p + (3 + k))) (scope := M 1 (207 + 8 * t + 1)) hF hB h.1 h29 h60 (fun j a b => ⟨h.r14 j a b, rfl⟩) hnd w2
    rw [h.pr] at a2
    rw [a1, pcI_z]
    simp only at hok
    unfold asA at a2
    generalize fetS 13 [] (M 1 (1 + 11 * p + (3 + k))) (M 1 (207 + 8 * t + 1)) (M 1) = r at *
    by_cases q2 : r.1 < 0
    · rw [if_pos q2] at a2 ⊢
      have hv := (hok.2.2 q2).1
      have hz : ¬ zt 0 ≤ zt r.1 := by rw [zt_le (by omega) (by omega) (by omega) (by omega)]; omega
      rw [if_neg hz]
      exact ⟨fun _ => ⟨M1, rfl, a2, a3.toR⟩, fun hh => absurd q2 hh⟩
    · rw [if_neg q2] at a2 ⊢
      obtain ⟨r4, r5⟩ := hok.2.1 (by omega)
      have hm2 := r5.2.2.1.1
      have hz : zt 0 ≤ zt r.1 := by rw [zt_le (by omega) (by omega) (by omega) (by omega)]; omega
      rw [if_pos hz, zt_add, x_itIs (by omega) (by omega), pcU_z]
      refine ⟨fun hh => absurd hh q2, fun _ => ⟨_, rfl, ?_, ?_, ?_⟩⟩
      · rw [uM_row, sR_eq, a2]
      · rw [uM_ne (by omega), a3.1 29 (by omega)]; exact h29
      · exact a3.toR.trans ⟨fun e _ _ => uM_ne (by omega), fun j a b => by funext e; exact uM_ne (by omega), fun i _ _ => ⟨uM_ne (by omega), uM_ne (by omega)⟩⟩
  · rw [if_neg q, if_neg q]
    refine ⟨fun hh => absurd hh (by simp only; omega), fun _ => ⟨M, rfl, rfl, h29, SmR.refl _ _⟩⟩
end RR
