/-! soundness -/
def jOkA (σ : zS) (st : Int32) (w x y : Option Nat) : Bool := decide (st = 110) || (w.isSome && (match x, y with
  | some a, some b => decide (sV σ 11 a 0 = sV σ 11 b 0)
  | _, _ => false))
def jOk (σ : zS) (l j : Nat) : Bool := jOkA σ (sV σ 8 l j) (sR σ 1 l j) (sR σ 0 l j) (sR σ 0 l (j + 1))
def eOk (σ : zS) (l a : Nat) : Bool := match sR σ 2 l a with
  | none => true
  | some m => decide (sR σ 2 (m / 2) (m % 2) = some (2 * l + a)) && (!decide (m / 2 = l) && decide (sV σ 10 l a = 0))
def qOk (σ : zS) (q : Nat) : Bool := !decide (sV σ 13 q 0 < 0) && decide (sV σ 13 q 0 + spGiven σ q = sV σ 12 q 0)
def lOk (σ : zS) (l : Nat) : Bool := zal (jOk σ l) (sN σ 4 l - 1) 0 && (eOk σ l 0 && (eOk σ l 1 && !hb (spAll σ l) (nI l)))
def spSound (σ : zS) : Bool := zal (qOk σ) (sN σ 1 0) 0 && zal (lOk σ) (sN σ 0 0) 0
section YH
variable {B : Nat} {σ : zS} {h : AH} {g : Nat → Nat} {K : Int32 → AH → Prop}
theorem Y.jointsL (y : Y B σ h) (c : zCnt σ) (r : zRef σ) {l : Nat} (hl : l < 4) : ∀ (k i fuel : Nat), i + k = sN σ 4 l - 1 → k < fuel → f_X3_areJointsSound_L2 g K fuel (some (yL B l)) (nI i) h = K (if zal (jOk σ l) k i then 1 else 0) h := by
  have c2 := c.2.2.2.2 l
  have c1 := c.2.1
  intro k
  induction k with
  | zero =>
    intro i fuel hi hf
    obtain ⟨m, rfl⟩ : ∃ m, fuel = m + 1 := ⟨fuel - 1, by omega⟩
    simp only [f_X3_areJointsSound_L2, f_X3_areJointsSound_L2b, y.cL hl, y.jointCount c hl, okZ_1, zal]
    rw [if_pos (nI_le (by omega) (by omega))]
    rfl
  | succ k ih =>
    intro i fuel hi hf
    obtain ⟨m, rfl⟩ : ∃ m, fuel = m + 1 := ⟨fuel - 1, by omega⟩
    have h9 : i < 9 := by omega
    have h10 : i < 10 := by omega
    have h11 : i + 1 < 10 := by omega
    simp only [f_X3_areJointsSound_L2, f_X3_areJointsSound_L2b, f_X3_areJointsSound_B55, f_X3_areJointsSound_B56, f_X3_areJointsSound_B91, y.cL hl, y.jointCount c hl, y.a48 hl, y.a49 hl, y.lP hl h10, nI_1, y.lP hl h11, y.lJ hl h9, y.r32 hl h9, y.a34 hl h9, y.a66 hl h10, y.a66 hl h11, okZ_0]
    rw [if_neg (nI_ge (by omega) (by omega)), ih (i + 1) m (by omega) (by omega)]
    rw [show zal (jOk σ l) (k + 1) i = (jOkA σ (sV σ 8 l i) (sR σ 1 l i) (sR σ 0 l i) (sR σ 0 l (i + 1)) && zal (jOk σ l) k (i + 1)) from rfl]
    by_cases q1 : sV σ 8 l i = 110
    · cases e1 : sR σ 0 l i with
      | none => simp [jOkA, q1, nNull_none]
      | some a =>
        have ha : a < 8 := by have := r.1 l i a e1; omega
        cases e2 : sR σ 0 l (i + 1) with
        | none => simp [jOkA, q1, nNull_none, nNull_some]
        | some b =>
          have hb8 : b < 8 := by have := r.1 l (i + 1) b e2; omega
          simp only [Option.map_some, yRT_0, nNull_some, y.r17 ha, y.r17 hb8]
          simp [jOkA, q1]
    · cases e1 : sR σ 0 l i with
      | none => cases e3 : sR σ 1 l i <;> simp [jOkA, q1, nNull_none, nNull_some]
      | some a =>
        have ha : a < 8 := by have := r.1 l i a e1; omega
        cases e2 : sR σ 0 l (i + 1) with
        | none => cases e3 : sR σ 1 l i <;> simp [jOkA, q1, nNull_none, nNull_some]
        | some b =>
          have hb8 : b < 8 := by have := r.1 l (i + 1) b e2; omega
          simp only [Option.map_some, yRT_0, nNull_some, y.r17 ha, y.r17 hb8]
          by_cases q2 : sV σ 11 a 0 = sV σ 11 b 0
          · cases e3 : sR σ 1 l i <;> simp [jOkA, q1, q2, nNull_none, nNull_some]
          · cases e3 : sR σ 1 l i <;> simp [jOkA, q1, q2, nNull_none, nNull_some]
theorem Y.areJointsSound (y : Y B σ h) (c : zCnt σ) (r : zRef σ) {l : Nat} (hl : l < 4) {K : Int32 → AH → Prop} : f_X3_areJointsSound g (some (yL B l)) h K = K (if zal (jOk σ l) (sN σ 4 l - 1) 0 then 1 else 0) h := by
  have c2 := c.2.2.2.2 l
  unfold f_X3_areJointsSound
  have e := y.jointsL (g := g) (K := K) c r hl (sN σ 4 l - 1) 0 12 (by omega) (by omega)
  rw [nI_0] at e
  exact e
theorem Y.isSoundEnd (y : Y B σ h) (c : zCnt σ) (r : zRef σ) {l a : Nat} (hl : l < 4) (ha : a < 2) {K : Int32 → AH → Prop} : f_X0_isSoundEnd g (some (yE B l a)) h K = K (if eOk σ l a then 1 else 0) h := by
  have c1 := c.1
  simp only [f_X0_isSoundEnd, f_X0_isSoundEnd_B39, y.a1 hl ha, y.r0 hl ha, y.r2 hl ha, okZ_0, okZ_1]
  unfold eOk
  cases e : sR σ 2 l a with
  | none => simp [nNull_none]
  | some m =>
    have hm := r.2.2 l a m e
    have h1 : m / 2 < 4 := by omega
    have h2 : m % 2 < 2 := by omega
    simp only [Option.map_some, yRT_2, nNull_some, y.a1 h1 h2, y.r0 h1 h2, mapE ha, nI_eq (show m / 2 < 2 ^ 31 by omega) (show l < 2 ^ 31 by omega)]
    by_cases q1 : sR σ 2 (m / 2) (m % 2) = some (2 * l + a)
    · by_cases q2 : m / 2 = l
      · simp [q1, q2]
      · by_cases q3 : sV σ 10 l a = 0
        · simp [q1, q2, q3]
        · simp [q1, q2, q3]
    · simp [q1]
end YH
