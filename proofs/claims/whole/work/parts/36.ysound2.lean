/-! soundness of the whole -/
section YI
variable {B : Nat} {σ : zS} {h : AH} {g : Nat → Nat} {K : Int32 → AH → Prop}
theorem Y.soundL (y : Y B σ h) (c : zCnt σ) (r : zRef σ) : ∀ (k i fuel : Nat), i + k = sN σ 0 0 → k < fuel → f_X6_isSound_L64 g K fuel (some B) (nI i) h = K (if zal (lOk σ) k i then 1 else 0) h := by
  have c1 := c.1
  intro k
  induction k with
  | zero =>
    intro i fuel hi hf
    obtain ⟨m, rfl⟩ : ∃ m, fuel = m + 1 := ⟨fuel - 1, by omega⟩
    simp only [f_X6_isSound_L64, f_X6_isSound_L64b, y.r100, okZ_1]
    rw [if_pos (nI_le (by omega) (by omega))]
    rfl
  | succ k ih =>
    intro i fuel hi hf
    obtain ⟨m, rfl⟩ : ∃ m, fuel = m + 1 := ⟨fuel - 1, by omega⟩
    have h4 : i < 4 := by omega
    simp only [f_X6_isSound_L64, f_X6_isSound_L64b, y.r100, y.cB, y.a96, y.lL h4, y.cL h4, y.areJointsSound c r h4, y.a50 h4, y.a51 h4, y.cE h4 (show 0 < 2 by decide), y.cE h4 (show 1 < 2 by decide), y.isSoundEnd c r h4 (show 0 < 2 by decide), y.isSoundEnd c r h4 (show 1 < 2 by decide), y.allAheadOf c h4, f_hasBit, if10, okZ_0, nI_1]
    rw [if_neg (nI_ge (by omega) (by omega)), ih (i + 1) m (by omega) (by omega)]
    rw [show zal (lOk σ) (k + 1) i = ((zal (jOk σ i) (sN σ 4 i - 1) 0 && (eOk σ i 0 && (eOk σ i 1 && !hb (spAll σ i) (nI i)))) && zal (lOk σ) k (i + 1)) from rfl]
    by_cases q1 : zal (jOk σ i) (sN σ 4 i - 1) 0 = true <;> by_cases q2 : eOk σ i 0 = true <;> by_cases q3 : eOk σ i 1 = true <;> by_cases q4 : hb (spAll σ i) (nI i) = true <;> simp [q1, q2, q3, q4]
theorem Y.soundH (y : Y B σ h) (c : zCnt σ) (r : zRef σ) : ∀ (k i fuel : Nat), i + k = sN σ 1 0 → k < fuel → f_X6_isSound_L2 g K fuel (some B) (nI i) h = K (if (zal (qOk σ) k i && zal (lOk σ) (sN σ 0 0) 0) then 1 else 0) h := by
  have c1 := c.1
  have c3 := c.2.1
  intro k
  induction k with
  | zero =>
    intro i fuel hi hf
    obtain ⟨m, rfl⟩ : ∃ m, fuel = m + 1 := ⟨fuel - 1, by omega⟩
    simp only [f_X6_isSound_L2, f_X6_isSound_L2b, y.r101]
    rw [if_pos (nI_le (by omega) (by omega))]
    have e := y.soundL (g := g) (K := K) c r (sN σ 0 0) 0 12 (by omega) (by omega)
    rw [nI_0] at e
    exact e
  | succ k ih =>
    intro i fuel hi hf
    obtain ⟨m, rfl⟩ : ∃ m, fuel = m + 1 := ⟨fuel - 1, by omega⟩
    have h8 : i < 8 := by omega
    simp only [f_X6_isSound_L2, f_X6_isSound_L2b, y.r101, y.a97, y.lH h8, y.r19 h8, y.r18 h8, y.cB, y.sizeGivenFrom c, okZ_0, nI_1]
    rw [if_neg (nI_ge (by omega) (by omega)), ih (i + 1) m (by omega) (by omega)]
    rw [show zal (qOk σ) (k + 1) i = ((!decide (sV σ 13 i 0 < 0) && decide (sV σ 13 i 0 + spGiven σ i = sV σ 12 i 0)) && zal (qOk σ) k (i + 1)) from rfl]
    by_cases q1 : sV σ 13 i 0 < 0 <;> by_cases q2 : sV σ 13 i 0 + spGiven σ i = sV σ 12 i 0 <;> simp [q1, q2]
theorem Y.isSound (y : Y B σ h) (c : zCnt σ) (r : zRef σ) : f_X6_isSound g (some B) h K = K (if spSound σ then 1 else 0) h := by
  have c3 := c.2.1
  unfold f_X6_isSound
  have e := y.soundH (g := g) (K := K) c r (sN σ 1 0) 0 12 (by omega) (by omega)
  rw [nI_0] at e
  exact e
end YI
