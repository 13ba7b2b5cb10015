/-! the class's own questions -/
/-- an index in its range -/
def ix (l : Int32) (n : Nat) : Option Nat := if l < 0 then none else if nI n ≤ l then none else some l.toNatClampNeg
theorem ix_some {l : Int32} {n i : Nat} (hn : n < 2 ^ 31) (e : ix l n = some i) : i < n ∧ l = nI i := by
  unfold ix at e
  by_cases h1 : l < 0
  · rw [if_pos h1] at e; exact absurd e (by simp)
  · rw [if_neg h1] at e
    by_cases h2 : nI n ≤ l
    · rw [if_pos h2] at e; exact absurd e (by simp)
    · rw [if_neg h2] at e
      obtain ⟨j, hj, rfl⟩ := nI_of h1
      rw [nI_clamp hj] at e
      cases e
      refine ⟨?_, rfl⟩
      rw [nI_leI hn hj] at h2
      omega
theorem ix_nI {n i : Nat} (hn : n < 2 ^ 31) (hi : i < n) : ix (nI i) n = some i := by
  unfold ix
  rw [if_neg (nI_pos (Nat.lt_trans hi hn)), if_neg (nI_ge hi hn), nI_clamp (Nat.lt_trans hi hn)]
theorem ix_none {l : Int32} {n : Nat} (e : ix l n = none) : l < 0 ∨ nI n ≤ l := by
  unfold ix at e
  by_cases h1 : l < 0
  · exact Or.inl h1
  · rw [if_neg h1] at e
    by_cases h2 : nI n ≤ l
    · exact Or.inr h2
    · rw [if_neg h2] at e; exact absurd e (by simp)
/-- the counts' bounds -/
def zCnt (σ : zS) : Prop := sN σ 0 0 ≤ 4 ∧ sN σ 1 0 ≤ 8 ∧ sN σ 2 0 ≤ 5 ∧ sN σ 3 0 ≤ 6 ∧ ∀ i, sN σ 4 i ≤ 10
section YQ
variable {B : Nat} {σ : zS} {h : AH} {g : Nat → Nat} {Xf : Nat → AH → Prop}
theorem Y.isLine (y : Y B σ h) {l : Int32} {K : Int32 → AH → Prop} : f_X6_isLine g (some B) l h K = K (if (ix l (sN σ 0 0)).isSome then 1 else 0) h := by
  unfold f_X6_isLine ix
  simp only [y.r100, okZ_0, okZ_1]
  by_cases h1 : l < 0
  · simp [h1]
  · by_cases h2 : nI (sN σ 0 0) ≤ l
    · simp [h1, h2]
    · simp [h1, h2]
theorem Y.checkLine (y : Y B σ h) {l : Int32} {K : AH → Prop} : f_X6_checkLine g (some B) l h Xf K = (match ix l (sN σ 0 0) with | none => thr h 3 Xf | some _ => K h) := by
  unfold f_X6_checkLine
  simp only [y.cB, y.isLine]
  cases ix l (sN σ 0 0) with
  | none => rfl
  | some i => rfl
theorem Y.lineAt (y : Y B σ h) (c : zCnt σ) {l : Int32} {K : Option Nat → AH → Prop} : f_X6_lineAt g (some B) l h Xf K = (match ix l (sN σ 0 0) with | none => thr h 3 Xf | some i => K (some (yL B i)) h) := by
  unfold f_X6_lineAt
  simp only [y.cB, y.checkLine]
  cases e : ix l (sN σ 0 0) with
  | none => rfl
  | some i =>
    have c1 := c.1
    obtain ⟨hi, rfl⟩ := ix_some (by omega) e
    have hi4 : i < 4 := by omega
    simp only [y.a96, y.lL hi4]
theorem Y.checkPart (y : Y B σ h) (c : zCnt σ) {l p : Int32} {K : AH → Prop} : f_X6_checkPart g (some B) l p h Xf K = (match ix l (sN σ 0 0) with | none => thr h 3 Xf | some i => match ix p (sN σ 4 i) with | none => thr h 3 Xf | some _ => K h) := by
  unfold f_X6_checkPart
  simp only [y.cB, y.checkLine]
  cases e : ix l (sN σ 0 0) with
  | none => rfl
  | some i =>
    have c1 := c.1
    obtain ⟨hi, rfl⟩ := ix_some (by omega) e
    have hi4 : i < 4 := by omega
    simp only [y.a96, y.lL hi4, y.r52 hi4]
    unfold ix
    by_cases h1 : p < 0
    · simp [h1]
    · by_cases h2 : nI (sN σ 4 i) ≤ p
      · simp [h1, h2, Int32.not_lt.mpr h2]
      · simp [h1, h2, Int32.not_le.mp h2]
theorem Y.partAt (y : Y B σ h) (c : zCnt σ) {l p : Int32} {K : Option Nat → AH → Prop} : f_X6_partAt g (some B) l p h Xf K = (match ix l (sN σ 0 0) with | none => thr h 3 Xf | some i => match ix p (sN σ 4 i) with | none => thr h 3 Xf | some j => K (some (yP B i j)) h) := by
  unfold f_X6_partAt
  simp only [y.cB, y.checkPart c]
  cases e : ix l (sN σ 0 0) with
  | none => rfl
  | some i =>
    have c1 := c.1
    obtain ⟨hi, rfl⟩ := ix_some (by omega) e
    have hi4 : i < 4 := by omega
    cases e2 : ix p (sN σ 4 i) with
    | none => simp only [e2]
    | some j =>
      have c2 := c.2.2.2.2 i
      obtain ⟨hj, rfl⟩ := ix_some (by omega) e2
      have hj10 : j < 10 := by omega
      simp only [e2, y.a96, y.lL hi4, y.a48 hi4, y.lP hi4 hj10]
theorem Y.jointCount (y : Y B σ h) (c : zCnt σ) {i : Nat} (hi : i < 4) {K : Int32 → AH → Prop} : f_X3_jointCount g (some (yL B i)) h K = K (nI (sN σ 4 i - 1)) h := by
  unfold f_X3_jointCount
  simp only [y.r52 hi]
  have c2 := c.2.2.2.2 i
  cases e : sN σ 4 i with
  | zero => rfl
  | succ n =>
    have hn : ¬ nI (n + 1) = 0 := nI_ne0 (by omega) (by omega)
    rw [if_neg hn, nI_pred]
    rfl
theorem Y.checkJoint (y : Y B σ h) (c : zCnt σ) {l p : Int32} {K : AH → Prop} : f_X6_checkJoint g (some B) l p h Xf K = (match ix l (sN σ 0 0) with | none => thr h 3 Xf | some i => match ix p (sN σ 4 i - 1) with | none => thr h 3 Xf | some _ => K h) := by
  unfold f_X6_checkJoint
  simp only [y.cB, y.checkLine]
  cases e : ix l (sN σ 0 0) with
  | none => rfl
  | some i =>
    have c1 := c.1
    obtain ⟨hi, rfl⟩ := ix_some (by omega) e
    have hi4 : i < 4 := by omega
    simp only [y.a96, y.lL hi4, y.cL hi4, y.jointCount c hi4]
    unfold ix
    by_cases h1 : p < 0
    · simp [h1]
    · by_cases h2 : nI (sN σ 4 i - 1) ≤ p
      · simp [h1, h2, Int32.not_lt.mpr h2]
      · simp [h1, h2, Int32.not_le.mp h2]
theorem Y.jointAt (y : Y B σ h) (c : zCnt σ) {l p : Int32} {K : Option Nat → AH → Prop} : f_X6_jointAt g (some B) l p h Xf K = (match ix l (sN σ 0 0) with | none => thr h 3 Xf | some i => match ix p (sN σ 4 i - 1) with | none => thr h 3 Xf | some j => K (some (yJ B i j)) h) := by
  unfold f_X6_jointAt
  simp only [y.cB, y.checkJoint c]
  cases e : ix l (sN σ 0 0) with
  | none => rfl
  | some i =>
    have c1 := c.1
    obtain ⟨hi, rfl⟩ := ix_some (by omega) e
    have hi4 : i < 4 := by omega
    cases e2 : ix p (sN σ 4 i - 1) with
    | none => simp only [e2]
    | some j =>
      have c2 := c.2.2.2.2 i
      obtain ⟨hj, rfl⟩ := ix_some (by omega) e2
      have hj9 : j < 9 := by omega
      simp only [e2, y.a96, y.lL hi4, y.a49 hi4, y.lJ hi4 hj9]
theorem Y.heatAt (y : Y B σ h) (c : zCnt σ) {l : Int32} {K : Option Nat → AH → Prop} : f_X6_heatAt g (some B) l h Xf K = (match ix l (sN σ 1 0) with | none => thr h 3 Xf | some i => K (some (yH B i)) h) := by
  unfold f_X6_heatAt
  simp only [y.r101, y.a97]
  cases e : ix l (sN σ 1 0) with
  | none =>
    rcases ix_none e with h1 | h1
    · rw [if_pos h1]
    · by_cases h0 : l < 0
      · rw [if_pos h0]
      · rw [if_neg h0, if_neg (Int32.not_lt.mpr h1)]
  | some i =>
    have c1 := c.2.1
    obtain ⟨hi, rfl⟩ := ix_some (by omega) e
    rw [if_neg (nI_pos (by omega)), if_pos (nI_lt hi (by omega)), y.lH (by omega)]
theorem Y.welderAt (y : Y B σ h) (c : zCnt σ) {l : Int32} {K : Option Nat → AH → Prop} : f_X6_welderAt g (some B) l h Xf K = (match ix l (sN σ 2 0) with | none => thr h 3 Xf | some i => K (some (yW B i)) h) := by
  unfold f_X6_welderAt
  simp only [y.r102, y.a98]
  cases e : ix l (sN σ 2 0) with
  | none =>
    rcases ix_none e with h1 | h1
    · rw [if_pos h1]
    · by_cases h0 : l < 0
      · rw [if_pos h0]
      · rw [if_neg h0, if_neg (Int32.not_lt.mpr h1)]
  | some i =>
    have c1 := c.2.2.1
    obtain ⟨hi, rfl⟩ := ix_some (by omega) e
    rw [if_neg (nI_pos (by omega)), if_pos (nI_lt hi (by omega)), y.lW (by omega)]
theorem Y.circuitAt (y : Y B σ h) (c : zCnt σ) {l : Int32} {K : Int32 → AH → Prop} : f_X6_circuitAt g (some B) l h Xf K = (match ix l (sN σ 3 0) with | none => thr h 3 Xf | some i => K (sV σ 17 i 0) h) := by
  unfold f_X6_circuitAt
  simp only [y.r103, y.a99]
  cases e : ix l (sN σ 3 0) with
  | none =>
    rcases ix_none e with h1 | h1
    · rw [if_pos h1]
    · by_cases h0 : l < 0
      · rw [if_pos h0]
      · rw [if_neg h0, if_neg (Int32.not_lt.mpr h1)]
  | some i =>
    have c1 := c.2.2.2.1
    obtain ⟨hi, rfl⟩ := ix_some (by omega) e
    rw [if_neg (nI_pos (by omega)), if_pos (nI_lt hi (by omega)), y.lC (by omega)]
end YQ
