/-! the class's operations that only ask -/
/-- what an operation comes to: the exception's number (0: none), the answer, the state -/
abbrev zO : Type := Nat × Int32 × zS
def yRun (h : AH) (o : zO) (Xf : Nat → AH → Prop) (K : Int32 → AH → Prop) : Prop := match o.1 with
  | 0 => K o.2.1 h
  | e + 1 => thr h (e + 1) Xf
def b2 (b : Bool) : Int32 := if b then 1 else 0
theorem okZ_b2 {b : Bool} {P : Prop} : okZ (if b then 1 else 0) P = P := by cases b <;> simp [okZ_0, okZ_1]
/-- flags are 0 or 1; a joint's state is one of four -/
def zFlag (σ : zS) : Prop := (∀ l, sV σ 4 l 0 = 0 ∨ sV σ 4 l 0 = 1) ∧ (∀ l a, sV σ 10 l a = 0 ∨ sV σ 10 l a = 1) ∧ (∀ q, sV σ 14 q 0 = 0 ∨ sV σ 14 q 0 = 1) ∧ ∀ l j, sV σ 8 l j = 110 ∨ sV σ 8 l j = 119 ∨ sV σ 8 l j = 103 ∨ sV σ 8 l j = 98
theorem okZ_f {v : Int32} {P : Prop} (hv : v = 0 ∨ v = 1) : okZ v P = P := propext ⟨fun q => q.2, fun p => ⟨hv, p⟩⟩
theorem okC_s {v : Int32} {P : Prop} (hv : v = 110 ∨ v = 119 ∨ v = 103 ∨ v = 98) : okC v P = P := by
  rcases hv with rfl | rfl | rfl | rfl
  · exact okC_110
  · exact okC_119
  · exact okC_103
  · exact okC_98
theorem okC_lack {σ : zS} {l j : Nat} {P : Prop} : okC (spLack σ l j) P = P := by
  unfold spLack
  cases sR σ 0 l j with
  | none => exact okC_115
  | some a =>
    cases sR σ 0 l (j + 1) with
    | none => exact okC_115
    | some b =>
      simp only
      split
      · exact okC_112
      · split
        · exact okC_119
        · split
          · exact okC_98
          · split
            · split
              · exact okC_116
              · split
                · exact okC_45
                · exact okC_105
            · exact okC_108
def o1 (σ : zS) (l : Int32) (f : Nat → Int32) : zO := match ix l (sN σ 0 0) with
  | none => (3, 0, σ)
  | some i => (0, f i, σ)
def oPart (σ : zS) (l p : Int32) (f : Nat → Nat → zO) : zO := match ix l (sN σ 0 0) with
  | none => (3, 0, σ)
  | some i => match ix p (sN σ 4 i) with
    | none => (3, 0, σ)
    | some j => f i j
def oJoint (σ : zS) (l p : Int32) (f : Nat → Nat → zO) : zO := match ix l (sN σ 0 0) with
  | none => (3, 0, σ)
  | some i => match ix p (sN σ 4 i - 1) with
    | none => (3, 0, σ)
    | some j => f i j
def oRow (σ : zS) (k : Nat) (l : Int32) (f : Nat → zO) : zO := match ix l (sN σ k 0) with
  | none => (3, 0, σ)
  | some i => f i
section YO
variable {B : Nat} {σ : zS} {h : AH} {g : Nat → Nat} {Xf : Nat → AH → Prop}
theorem Y.length (y : Y B σ h) (c : zCnt σ) {l : Int32} {K : Int32 → AH → Prop} : f_X6_length g (some B) l h Xf K = yRun h (oRow σ 0 l fun i => (0, spTotal σ i, σ)) Xf K := by
  unfold f_X6_length oRow
  simp only [y.cB, y.lineAt c]
  cases e : ix l (sN σ 0 0) with
  | none => rfl
  | some i =>
    have c1 := c.1
    obtain ⟨hi, rfl⟩ := ix_some (by omega) e
    have hi4 : i < 4 := by omega
    simp only [y.cL hi4, y.totalSize c hi4]
    rfl
theorem Y.spools (y : Y B σ h) (c : zCnt σ) {l : Int32} {K : Int32 → AH → Prop} : f_X6_spools g (some B) l h Xf K = yRun h (oRow σ 0 l fun i => (0, spSpools σ i, σ)) Xf K := by
  unfold f_X6_spools oRow
  simp only [y.cB, y.lineAt c]
  cases e : ix l (sN σ 0 0) with
  | none => rfl
  | some i =>
    have c1 := c.1
    obtain ⟨hi, rfl⟩ := ix_some (by omega) e
    have hi4 : i < 4 := by omega
    simp only [y.cL hi4, y.spoolCount c hi4]
    rfl
theorem Y.spoolOf (y : Y B σ h) (c : zCnt σ) {l p : Int32} {K : Int32 → AH → Prop} : f_X6_spoolOf g (some B) l p h Xf K = yRun h (oPart σ l p fun i j => (0, spSpool σ i j, σ)) Xf K := by
  unfold f_X6_spoolOf oPart
  simp only [y.cB, y.checkPart c]
  cases e : ix l (sN σ 0 0) with
  | none => rfl
  | some i =>
    have c1 := c.1
    obtain ⟨hi, rfl⟩ := ix_some (by omega) e
    have hi4 : i < 4 := by omega
    cases e2 : ix p (sN σ 4 i) with
    | none => simp only [e2]; rfl
    | some j =>
      have c2 := c.2.2.2.2 i
      obtain ⟨hj, rfl⟩ := ix_some (by omega) e2
      simp only [e2, y.a96, y.lL hi4, y.cL hi4, y.spoolWith hi4 (show j < 10 by omega)]
      rfl
theorem Y.isField (y : Y B σ h) (c : zCnt σ) {l p : Int32} {K : Int32 → AH → Prop} : f_X6_isField g (some B) l p h Xf K = yRun h (oJoint σ l p fun i j => (0, (if spSpool σ i j = spSpool σ i (j + 1) then 0 else 1), σ)) Xf K := by
  unfold f_X6_isField oJoint
  simp only [y.cB, y.checkJoint c]
  cases e : ix l (sN σ 0 0) with
  | none => rfl
  | some i =>
    have c1 := c.1
    obtain ⟨hi, rfl⟩ := ix_some (by omega) e
    have hi4 : i < 4 := by omega
    cases e2 : ix p (sN σ 4 i - 1) with
    | none => simp only [e2]; rfl
    | some j =>
      have c2 := c.2.2.2.2 i
      obtain ⟨hj, rfl⟩ := ix_some (by omega) e2
      simp only [e2, y.a96, y.lL hi4, y.cL hi4, nI_1, y.spoolWith hi4 (show j < 10 by omega), y.spoolWith hi4 (show j + 1 < 10 by omega), okZ_0, okZ_1]
      by_cases q : spSpool σ i j = spSpool σ i (j + 1)
      · simp [q, yRun]
      · simp [q, yRun]
theorem Y.left (y : Y B σ h) (c : zCnt σ) {l : Int32} {K : Int32 → AH → Prop} : f_X6_left g (some B) l h Xf K = yRun h (oRow σ 1 l fun i => (0, sV σ 13 i 0, σ)) Xf K := by
  unfold f_X6_left oRow
  simp only [y.cB, y.heatAt c]
  cases e : ix l (sN σ 1 0) with
  | none => rfl
  | some i =>
    have c1 := c.2.1
    obtain ⟨hi, rfl⟩ := ix_some (by omega) e
    simp only [y.r19 (show i < 8 by omega)]
    rfl
theorem Y.heatOf (y : Y B σ h) (c : zCnt σ) (r : zRef σ) {l p : Int32} {K : Int32 → AH → Prop} : f_X6_heatOf g (some B) l p h Xf K = yRun h (oPart σ l p fun i j => match sR σ 0 i j with | none => (5, 0, σ) | some q => (0, nI q, σ)) Xf K := by
  unfold f_X6_heatOf oPart
  simp only [y.cB, y.partAt c]
  cases e : ix l (sN σ 0 0) with
  | none => rfl
  | some i =>
    have c1 := c.1
    obtain ⟨hi, rfl⟩ := ix_some (by omega) e
    have hi4 : i < 4 := by omega
    cases e2 : ix p (sN σ 4 i) with
    | none => simp only [e2]; rfl
    | some j =>
      have c2 := c.2.2.2.2 i
      have c3 := c.2.1
      obtain ⟨hj, rfl⟩ := ix_some (by omega) e2
      simp only [e2, y.a66 hi4 (show j < 10 by omega)]
      cases e3 : sR σ 0 i j with
      | none => rfl
      | some q =>
        have hq := r.1 i j q e3
        simp only [Option.map_some, yRT_0, nNull_some, y.r16 (show q < 8 by omega)]
        rfl
theorem Y.mayWeld (y : Y B σ h) (c : zCnt σ) (r : zRef σ) (al : zAlloy σ) {l p w : Int32} {K : Int32 → AH → Prop} : f_X6_mayWeld g (some B) l p w h Xf K = yRun h (oJoint σ l p fun i j => oRow σ 2 w fun k => (0, b2 (spMay σ i j k), σ)) Xf K := by
  unfold f_X6_mayWeld oJoint oRow
  simp only [y.cB, y.checkJoint c]
  cases e : ix l (sN σ 0 0) with
  | none => rfl
  | some i =>
    have c1 := c.1
    obtain ⟨hi, rfl⟩ := ix_some (by omega) e
    have hi4 : i < 4 := by omega
    cases e2 : ix p (sN σ 4 i - 1) with
    | none => simp only [e2]; rfl
    | some j =>
      have c2 := c.2.2.2.2 i
      have c3 := c.2.2.1
      obtain ⟨hj, rfl⟩ := ix_some (by omega) e2
      simp only [e2, y.a96, y.lL hi4, y.welderAt c]
      cases e3 : ix w (sN σ 2 0) with
      | none => simp only [e3]; rfl
      | some k =>
        obtain ⟨hk, rfl⟩ := ix_some (by omega) e3
        simp only [e3, y.cB, y.isAllowed c r al hi4 (show j < 9 by omega) (show k < 5 by omega), okZ_b2]
        rfl
theorem Y.joint (y : Y B σ h) (c : zCnt σ) (fl : zFlag σ) {l p : Int32} {K : Int32 → AH → Prop} : f_X6_joint g (some B) l p h Xf K = yRun h (oJoint σ l p fun i j => (0, sV σ 8 i j, σ)) Xf K := by
  unfold f_X6_joint oJoint
  simp only [y.cB, y.jointAt c]
  cases e : ix l (sN σ 0 0) with
  | none => rfl
  | some i =>
    have c1 := c.1
    obtain ⟨hi, rfl⟩ := ix_some (by omega) e
    have hi4 : i < 4 := by omega
    cases e2 : ix p (sN σ 4 i - 1) with
    | none => simp only [e2]; rfl
    | some j =>
      have c2 := c.2.2.2.2 i
      obtain ⟨hj, rfl⟩ := ix_some (by omega) e2
      simp only [e2, y.r32 hi4 (show j < 9 by omega), okC_s (fl.2.2.2 i j)]
      rfl
theorem Y.welderOf (y : Y B σ h) (c : zCnt σ) (r : zRef σ) {l p : Int32} {K : Int32 → AH → Prop} : f_X6_welderOf g (some B) l p h Xf K = yRun h (oJoint σ l p fun i j => match sR σ 1 i j with | none => (5, 0, σ) | some q => (0, nI q, σ)) Xf K := by
  unfold f_X6_welderOf oJoint
  simp only [y.cB, y.jointAt c]
  cases e : ix l (sN σ 0 0) with
  | none => rfl
  | some i =>
    have c1 := c.1
    obtain ⟨hi, rfl⟩ := ix_some (by omega) e
    have hi4 : i < 4 := by omega
    cases e2 : ix p (sN σ 4 i - 1) with
    | none => simp only [e2]; rfl
    | some j =>
      have c2 := c.2.2.2.2 i
      have c3 := c.2.2.1
      obtain ⟨hj, rfl⟩ := ix_some (by omega) e2
      simp only [e2, y.a34 hi4 (show j < 9 by omega)]
      cases e3 : sR σ 1 i j with
      | none => rfl
      | some q =>
        have hq := r.2.1 i j q e3
        simp only [Option.map_some, yRT_1, nNull_some, y.r80 (show q < 5 by omega)]
        rfl
theorem Y.toLook (y : Y B σ h) (c : zCnt σ) {l : Int32} {K : Int32 → AH → Prop} : f_X6_toLook g (some B) l h Xf K = yRun h (oRow σ 0 l fun i => (0, spDue σ i, σ)) Xf K := by
  unfold f_X6_toLook oRow
  simp only [y.cB, y.lineAt c]
  cases e : ix l (sN σ 0 0) with
  | none => rfl
  | some i =>
    have c1 := c.1
    obtain ⟨hi, rfl⟩ := ix_some (by omega) e
    have hi4 : i < 4 := by omega
    simp only [y.cL hi4, y.looksDue c hi4]
    rfl
theorem Y.failed (y : Y B σ h) (c : zCnt σ) {l : Int32} {K : Int32 → AH → Prop} : f_X6_failed g (some B) l h Xf K = yRun h (oRow σ 2 l fun i => (0, sV σ 16 i 0, σ)) Xf K := by
  unfold f_X6_failed oRow
  simp only [y.cB, y.welderAt c]
  cases e : ix l (sN σ 2 0) with
  | none => rfl
  | some i =>
    have c1 := c.2.2.1
    obtain ⟨hi, rfl⟩ := ix_some (by omega) e
    simp only [y.r82 (show i < 5 by omega)]
    rfl
theorem Y.opens (y : Y B σ h) (c : zCnt σ) (r : zRef σ) {l : Int32} {K : Int32 → AH → Prop} : f_X6_open g (some B) l h Xf K = yRun h (oRow σ 3 l fun i => (0, spOpen σ (sV σ 17 i 0), σ)) Xf K := by
  unfold f_X6_open oRow
  simp only [y.cB, y.circuitAt c]
  cases e : ix l (sN σ 3 0) with
  | none => rfl
  | some i =>
    simp only [y.countOpenEnds c r]
    rfl
theorem Y.canTest (y : Y B σ h) (c : zCnt σ) (r : zRef σ) {l : Int32} {K : Int32 → AH → Prop} : f_X6_canTest g (some B) l h Xf K = yRun h (oRow σ 3 l fun i => (0, b2 (spTestable σ (sV σ 17 i 0)), σ)) Xf K := by
  unfold f_X6_canTest oRow
  simp only [y.cB, y.circuitAt c]
  cases e : ix l (sN σ 3 0) with
  | none => rfl
  | some i =>
    simp only [y.isTestable c r, okZ_b2]
    rfl
theorem Y.isTested (y : Y B σ h) (c : zCnt σ) (fl : zFlag σ) {l : Int32} {K : Int32 → AH → Prop} : f_X6_isTested g (some B) l h Xf K = yRun h (oRow σ 0 l fun i => (0, sV σ 4 i 0, σ)) Xf K := by
  unfold f_X6_isTested oRow
  simp only [y.cB, y.lineAt c]
  cases e : ix l (sN σ 0 0) with
  | none => rfl
  | some i =>
    have c1 := c.1
    obtain ⟨hi, rfl⟩ := ix_some (by omega) e
    have hi4 : i < 4 := by omega
    simp only [y.r55 hi4, okZ_f (fl.1 i)]
    rfl
theorem Y.lack (y : Y B σ h) (c : zCnt σ) (r : zRef σ) {l p : Int32} {K : Int32 → AH → Prop} : f_X6_lack g (some B) l p h Xf K = yRun h (oJoint σ l p fun i j => (0, spLack σ i j, σ)) Xf K := by
  unfold f_X6_lack oJoint
  simp only [y.cB, y.checkJoint c]
  cases e : ix l (sN σ 0 0) with
  | none => rfl
  | some i =>
    have c1 := c.1
    obtain ⟨hi, rfl⟩ := ix_some (by omega) e
    have hi4 : i < 4 := by omega
    cases e2 : ix p (sN σ 4 i - 1) with
    | none => simp only [e2]; rfl
    | some j =>
      have c2 := c.2.2.2.2 i
      obtain ⟨hj, rfl⟩ := ix_some (by omega) e2
      simp only [e2, y.a96, y.lL hi4, y.cL hi4, y.firstLack c r hi4 (show j < 9 by omega), okC_lack]
      rfl
def isLack (k : Int32) : Bool := decide (k = 115) || decide (k = 112) || decide (k = 119) || decide (k = 98) || decide (k = 108) || decide (k = 116) || decide (k = 105)
theorem Y.lacks (y : Y B σ h) (c : zCnt σ) (r : zRef σ) {k : Int32} {K : Int32 → AH → Prop} : f_X6_lacks g (some B) k h Xf K = yRun h (if isLack k then (0, spMany σ k, σ) else (1, 0, σ)) Xf K := by
  simp only [f_X6_lacks, f_X6_isLack, f_X6_isLack_B42, okZ_0, okZ_1, y.cB, y.countLacking c r]
  unfold isLack
  by_cases q1 : k = 115
  · simp [q1, yRun]
  by_cases q2 : k = 112
  · simp [q2, yRun]
  by_cases q3 : k = 119
  · simp [q3, yRun]
  by_cases q4 : k = 98
  · simp [q4, yRun]
  by_cases q5 : k = 108
  · simp [q5, yRun]
  by_cases q6 : k = 116
  · simp [q6, yRun]
  by_cases q7 : k = 105
  · simp [q7, yRun]
  simp [q1, q2, q3, q4, q5, q6, q7, yRun]
theorem Y.undone (y : Y B σ h) {K : Int32 → AH → Prop} : f_X6_undone g (some B) h K = K (sV σ 0 1 0) h := by
  simp only [f_X6_undone, y.r105]
end YO
