/-! the best heat, the shares -/
def spDoneV (σ : zS) : UInt32 := FP.fdiv (FP.i2f (spMany σ 45)) (FP.i2f (spJoints σ))
def spMeanV (σ : zS) (l : Nat) : UInt64 := FP.ddiv (FP.i2d (spTotal σ l)) (FP.i2d (spSpools σ l))
section YG
variable {B : Nat} {σ : zS} {h : AH} {g : Nat → Nat} {Xf : Nat → AH → Prop}
theorem Y.canServe (y : Y B σ h) {i : Nat} (hi : i < 8) {sz al : Int32} {K : Int32 → AH → Prop} : f_X1_canServe g (some (yH B i)) sz al h K = K (if sV σ 11 i 0 = al ∧ ¬ sV σ 14 i 0 = 0 ∧ ¬ sV σ 13 i 0 < sz then 1 else 0) h := by
  simp only [f_X1_canServe, y.r17 hi, y.r20 hi, y.r19 hi, okZ_0, okZ_1]
  by_cases q1 : sV σ 11 i 0 = al
  · by_cases q2 : sV σ 14 i 0 = 0
    · simp [q1, q2]
    · by_cases q3 : sV σ 13 i 0 < sz
      · simp [q1, q2, q3]
      · rw [if_pos q1, if_neg q2, if_neg q3, if_pos ⟨q1, q2, q3⟩]
  · rw [if_neg q1, if_neg (fun z => q1 z.1)]
theorem Y.bestL (y : Y B σ h) (c : zCnt σ) {i j : Nat} (hi : i < 4) (hj : j < 10) {al : Int32} {K : Int32 → AH → Prop} : ∀ (k n fuel : Nat) (b : Option Nat), (∀ q, b = some q → q < 8) → n + k = sN σ 1 0 → k < fuel → f_X6_bestHeat_L31 g Xf K fuel (some B) al (some (yP B i j)) (b.map (yH B)) (nI n) h = (match zfo (bStep σ (sV σ 7 i j) al) k n b with | none => thr h 5 Xf | some q => K (nI q) h) := by
  have c1 := c.2.1
  intro k
  induction k with
  | zero =>
    intro n fuel b hb8 hi hf
    obtain ⟨m, rfl⟩ : ∃ m, fuel = m + 1 := ⟨fuel - 1, by omega⟩
    simp only [f_X6_bestHeat_L31, f_X6_bestHeat_L31b, y.r101, zfo]
    rw [if_pos (nI_le (by omega) (by omega))]
    cases b with
    | none => rfl
    | some q => simp only [Option.map_some, nNull_some, y.r16 (hb8 q rfl)]
  | succ k ih =>
    intro n fuel b hb8 hin hf
    obtain ⟨m, rfl⟩ : ∃ m, fuel = m + 1 := ⟨fuel - 1, by omega⟩
    have h8 : n < 8 := by omega
    have hs8 : ∀ q, (some n : Option Nat) = some q → q < 8 := fun q z => by cases z; exact h8
    simp only [f_X6_bestHeat_L31, f_X6_bestHeat_L31b, f_X6_bestHeat_B85, f_X6_bestHeat_B81, y.r101, y.a97, y.lH h8, y.r65 hi hj, y.cH h8, y.canServe h8, nI_1]
    rw [if_neg (nI_ge (by omega) (by omega))]
    show _ = (match zfo (bStep σ (sV σ 7 i j) al) k (n + 1) (bStep σ (sV σ 7 i j) al n b) with | none => thr h 5 Xf | some q => K (nI q) h)
    by_cases q1 : sV σ 11 n 0 = al ∧ ¬ sV σ 14 n 0 = 0 ∧ ¬ sV σ 13 n 0 < sV σ 7 i j
    · rw [if_pos q1, if_neg (by decide)]
      cases b with
      | none =>
        rw [show bStep σ (sV σ 7 i j) al n none = some n by unfold bStep; rw [if_pos q1]]
        exact ih (n + 1) m (some n) hs8 (by omega) (by omega)
      | some b =>
        have hb := hb8 b rfl
        simp only [Option.map_some, nNull_some, y.r19 h8, y.r19 hb]
        by_cases q2 : sV σ 13 b 0 ≤ sV σ 13 n 0
        · rw [show bStep σ (sV σ 7 i j) al n (some b) = some b by unfold bStep; rw [if_pos q1]; exact if_pos q2]
          rw [if_pos q2]
          exact ih (n + 1) m (some b) hb8 (by omega) (by omega)
        · rw [show bStep σ (sV σ 7 i j) al n (some b) = some n by unfold bStep; rw [if_pos q1]; exact if_neg q2]
          rw [if_neg q2]
          exact ih (n + 1) m (some n) hs8 (by omega) (by omega)
    · rw [if_neg q1, if_pos rfl]
      rw [show bStep σ (sV σ 7 i j) al n b = b by unfold bStep; rw [if_neg q1]]
      exact ih (n + 1) m b hb8 (by omega) (by omega)
theorem Y.bestHeat (y : Y B σ h) (c : zCnt σ) {l p al : Int32} {K : Int32 → AH → Prop} : f_X6_bestHeat g (some B) l p al h Xf K = yRun h (spBest σ l p al) Xf K := by
  unfold spBest oPart
  simp only [f_X6_bestHeat, y.cB, y.partAt c]
  cases e : ix l (sN σ 0 0) with
  | none => rfl
  | some i =>
    have c1 := c.1
    obtain ⟨hi, rfl⟩ := ix_some (by omega) e
    have hi4 : i < 4 := by omega
    cases e2 : ix p (sN σ 4 i) with
    | none => simp only [e2]; rfl
    | some j =>
      have c2 := c.2.2.2.2 i
      have c3 := c.2.1
      obtain ⟨hj, rfl⟩ := ix_some (by omega) e2
      simp only [e2, f_isAlloy, if10]
      by_cases q0 : isAlloy al = true
      · rw [if_neg (by rw [q0]; simp), if_pos q0]
        have e3 := y.bestL (g := g) (Xf := Xf) (K := K) c hi4 (show j < 10 by omega) (al := al) (sN σ 1 0) 0 12 none (fun q z => by cases z) (by omega) (by omega)
        rw [nI_0] at e3
        refine Eq.trans e3 ?_
        cases zfo (bStep σ (sV σ 7 i j) al) (sN σ 1 0) 0 none <;> rfl
      · rw [if_pos (by simpa using q0), if_neg q0]
        rfl
theorem Y.meanSpool (y : Y B σ h) (c : zCnt σ) {l : Int32} {K : UInt64 → AH → Prop} : f_X6_meanSpool g (some B) l h Xf K = (match ix l (sN σ 0 0) with | none => thr h 3 Xf | some i => if spSpools σ i = 0 then thr h 6 Xf else vf_n64 (spMeanV σ i) ∧ K (spMeanV σ i) h) := by
  simp only [f_X6_meanSpool, y.cB, y.lineAt c]
  cases e : ix l (sN σ 0 0) with
  | none => rfl
  | some i =>
    have c1 := c.1
    obtain ⟨hi, rfl⟩ := ix_some (by omega) e
    have hi4 : i < 4 := by omega
    simp only [y.cL hi4, y.spoolCount c hi4, y.totalSize c hi4]
    rfl
theorem Y.shareL (y : Y B σ h) (c : zCnt σ) (r : zRef σ) {K : UInt32 → AH → Prop} : ∀ (k i fuel : Nat) (acc : Int32), i + k = sN σ 0 0 → k < fuel → f_X6_doneShare_L4 g Xf K fuel (some B) acc (nI i) h = (let n := zfo (fun l a => a + nI (sN σ 4 l - 1)) k i acc; if n = 0 then thr h 6 Xf else vf_n32 (FP.fdiv (FP.i2f (spMany σ 45)) (FP.i2f n)) ∧ K (FP.fdiv (FP.i2f (spMany σ 45)) (FP.i2f n)) h) := by
  have c1 := c.1
  intro k
  induction k with
  | zero =>
    intro i fuel acc hi hf
    obtain ⟨m, rfl⟩ : ∃ m, fuel = m + 1 := ⟨fuel - 1, by omega⟩
    simp only [f_X6_doneShare_L4, f_X6_doneShare_L4b, y.r100, y.cB, y.countLacking c r]
    rw [if_pos (nI_le (by omega) (by omega))]
    rfl
  | succ k ih =>
    intro i fuel acc hi hf
    obtain ⟨m, rfl⟩ : ∃ m, fuel = m + 1 := ⟨fuel - 1, by omega⟩
    have h4 : i < 4 := by omega
    simp only [f_X6_doneShare_L4, f_X6_doneShare_L4b, y.r100, y.a96, y.lL h4, y.cL h4, y.jointCount c h4, nI_1]
    rw [if_neg (nI_ge (by omega) (by omega)), ih (i + 1) m _ (by omega) (by omega)]
    rfl
theorem Y.doneShare (y : Y B σ h) (c : zCnt σ) (r : zRef σ) {K : UInt32 → AH → Prop} : f_X6_doneShare g (some B) h Xf K = (if spJoints σ = 0 then thr h 6 Xf else vf_n32 (spDoneV σ) ∧ K (spDoneV σ) h) := by
  have c1 := c.1
  unfold f_X6_doneShare
  have e := y.shareL (g := g) (Xf := Xf) (K := K) c r (sN σ 0 0) 0 12 0 (by omega) (by omega)
  rw [nI_0] at e
  exact e
end YG
