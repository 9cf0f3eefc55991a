/-! What the parts alone tell, as plain functions of the row. -/
def pMany (Q : Int → Int) (i : Int) : Int := Q (1 + 11 * i + 2)
def pNd (Q : Int → Int) (i k : Int) : Int := Q (1 + 11 * i + (3 + k))
def pEg (Q : Int → Int) (i k : Int) : Bool := !(lz (Q (1 + 11 * i + 7)) k)
/-- i needs j by a need that binds -/
def Bnd (Q : Int → Int) (E : Int → Int → Bool) (i j : Int) : Prop := ∃ k, 0 ≤ k ∧ k < pMany Q i ∧ E i k = true ∧ pNd Q i k = j
/-- it can start -/
def Can (Q : Int → Int) (E : Int → Int → Bool) (p : Int) : Prop := ∀ S : Int → Prop, (∀ i, 0 ≤ i → i < Q 0 → (∀ j, Bnd Q E i j → S j) → S i) → S p
def allK (f : Int → Bool) : Nat → Int → Bool
  | 0, _ => true
  | n + 1, k => f k && allK f n (k + 1)
def rdyB (Q : Int → Int) (wv : Int → Int) (p : Int) : Bool := decide (wv p = -1) && allK (fun k => !(pEg Q p k) || !(decide (wv (pNd Q p k) = -1))) (pMany Q p).toNat 0
def lstR (Q : Int → Int) (wv : Int → Int) : Nat → Int → Int
  | 0, _ => -1
  | n + 1, i => if rdyB Q wv i = true then i else lstR Q wv n (i + 1)
def wavK (Q : Int → Int) (wv : Int → Int) (p : Int) : Nat → Int → Int → Int
  | 0, _, a => a
  | n + 1, k, a => wavK Q wv p n (k + 1) (if pEg Q p k = true ∧ a ≤ wv (pNd Q p k) then wv (pNd Q p k) + 1 else a)
def wavOf (Q : Int → Int) (wv : Int → Int) (p : Int) : Int := wavK Q wv p (pMany Q p).toNat 0 0
def ordS (Q : Int → Int) : Nat → List Int × (Int → Int) → List Int × (Int → Int)
  | 0, s => s
  | n + 1, s => if lstR Q s.2 (Q 0).toNat 0 = -1 then s else ordS Q n (s.1 ++ [lstR Q s.2 (Q 0).toNat 0], ua s.2 (lstR Q s.2 (Q 0).toNat 0) (wavOf Q s.2 (lstR Q s.2 (Q 0).toNat 0)))
def ordF (Q : Int → Int) : List Int × (Int → Int) := ordS Q 13 ([], fun _ => -1)
/-- the first need that binds of what can not: its slot -/
def stK (Q : Int → Int) (E : Int → Int → Bool) (can : Int → Bool) (p : Int) : Nat → Int → Int
  | 0, _ => -1
  | n + 1, k => if E p k = true ∧ can (pNd Q p k) = false then 4 * p + k else stK Q E can p n (k + 1)
def stS (Q : Int → Int) (E : Int → Int → Bool) (can : Int → Bool) (p : Int) : Int := stK Q E can p (pMany Q p).toNat 0
def nxS (Q : Int → Int) (E : Int → Int → Bool) (can : Int → Bool) (p : Int) : Int := pNd Q (stS Q E can p / 4) (stS Q E can p % 4)
def lsS (can : Int → Bool) : Nat → Int → Int
  | 0, _ => -1
  | n + 1, i => if can i = false then i else lsS can n (i + 1)
def entS (nx : Int → Int) : Nat → List Int → Int → Int
  | 0, _, _ => -1
  | n + 1, met, p => if p ∈ met then p else entS nx n (p :: met) (nx p)
def lpS (nx : Int → Int) (f : Int) : Nat → Int → List Int
  | 0, _ => []
  | n + 1, p => if nx p = f then [p] else p :: lpS nx f n (nx p)
def loopG (Q : Int → Int) (E : Int → Int → Bool) (can : Int → Bool) : List Int := if lsS can (Q 0).toNat 0 = -1 then [] else lpS (nxS Q E can) (entS (nxS Q E can) 13 [] (lsS can (Q 0).toNat 0)) 13 (entS (nxS Q E can) 13 [] (lsS can (Q 0).toNat 0))
def canF (Q : Int → Int) (p : Int) : Bool := !(decide ((ordF Q).2 p = -1))
def loopF (Q : Int → Int) : List Int := loopG Q (pEg Q) (canF Q)
/-! the fewest needs that are to be lazy -/
def slotE (Q : Int → Int) (s : Int) : Prop := 0 ≤ s ∧ s / 4 < Q 0 ∧ s % 4 < pMany Q (s / 4) ∧ pEg Q (s / 4) (s % 4) = true
def exX (Q : Int → Int) (xs : List Int) : Int → Int → Bool := fun i k => pEg Q i k && !(xs.contains (4 * i + k))
def okX (Q : Int → Int) (xs : List Int) : Prop := ∀ p, 0 ≤ p → p < Q 0 → Can Q (exX Q xs) p
def srtL : List Int → Prop
  | [] => True
  | a :: l => (∀ b ∈ l, a < b) ∧ srtL l
def ltL : List Int → List Int → Prop
  | a :: l, b :: m => a < b ∨ (a = b ∧ ltL l m)
  | _, _ => False
def gdX (Q : Int → Int) (xs : List Int) : Prop := srtL xs ∧ (∀ s ∈ xs, slotE Q s) ∧ xs.length ≤ 3 ∧ okX Q xs
def LooS (Q : Int → Int) (xs : List Int) : Prop := gdX Q xs ∧ ∀ ys, gdX Q ys → xs.length < ys.length ∨ (xs.length = ys.length ∧ (xs = ys ∨ ltL xs ys))
def LooN (Q : Int → Int) : Prop := ∀ ys, ¬ gdX Q ys
def btL (L : Int64) (s : Int) : Bool := L.toBitVec.getLsbD s.toNat
def LooC (Q : Int → Int) (f : Int) (L : Int64) : Prop := (f = -2 ∧ LooN Q) ∨ ∃ xs, LooS Q xs ∧ f = xs.length ∧ ∀ s, 0 ≤ s → s < 48 → (btL L s = true ↔ s ∈ xs)
/-- the plan at a tells of the parts of Q -/
def PlS (M : ZM) (lg : Nat → Nat → Int64) (a : Nat) (Q : Int → Int) : Prop := M a 1 = (ordF Q).1.length ∧ (∀ (i : Nat) (y : Int), (ordF Q).1[i]? = some y → M (a + 1) i = y) ∧ (∀ p, 0 ≤ p → p < Q 0 → M (a + 2) p = (ordF Q).2 p) ∧ M a 4 = (loopF Q).length ∧ (∀ (i : Nat) (y : Int), (loopF Q)[i]? = some y → M (a + 3) i = y) ∧ (M a 6 = -3 ∨ LooC Q (M a 6) (lg a 7))
def PlR (M : ZM) (lg : Nat → Nat → Int64) (a p : Nat) : Prop := ∃ Q : Int → Int, RP M p Q ∧ wfP Q ∧ PlS M lg a Q
theorem PlS.fr {M M1 : ZM} {lg lg1 : Nat → Nat → Int64} {a : Nat} {Q : Int → Int} (h : PlS M lg a Q) (hm : ∀ j, a ≤ j → j < a + 4 → M1 j = M j) (hl : lg1 a = lg a) : PlS M1 lg1 a Q := by
  unfold PlS
  rw [hm a (by omega) (by omega), hm (a + 1) (by omega) (by omega), hm (a + 2) (by omega) (by omega), hm (a + 3) (by omega) (by omega), hl]
  exact h
theorem RP.frP {M M1 : ZM} {p : Nat} {Q : Int → Int} (h : RP M p Q) (hm : ∀ j, p ≤ j → j < p + 9 → M1 j = M j) : RP M1 p Q := by
  unfold RP
  rw [hm p (by omega) (by omega), hm (p + 1) (by omega) (by omega), hm (p + 2) (by omega) (by omega), hm (p + 3) (by omega) (by omega), hm (p + 4) (by omega) (by omega), hm (p + 5) (by omega) (by omega), hm (p + 6) (by omega) (by omega), hm (p + 7) (by omega) (by omega), hm (p + 8) (by omega) (by omega)]
  exact h
theorem PlR.fr {M M1 : ZM} {lg lg1 : Nat → Nat → Int64} {a p : Nat} (h : PlR M lg a p) (hm : ∀ j, a ≤ j → j < a + 4 → M1 j = M j) (hl : lg1 a = lg a) (hp : ∀ j, p ≤ j → j < p + 9 → M1 j = M j) : PlR M1 lg1 a p := by
  obtain ⟨Q, h1, h2, h3⟩ := h
  exact ⟨Q, h1.frP hp, h2, h3.fr hm hl⟩
