/-! lengths and steel -/
theorem undo1_N (σ : zS) (i j : Nat) (cnt : Int32) : sN (undo1 σ i j cnt).1 = sN σ := by unfold undo1; split <;> rfl
theorem spUndo_N (σ : zS) (i p : Nat) : sN (spUndo σ i p).1 = sN σ := by unfold spUndo; split <;> simp only [undo1_N]
theorem zCnt.of {σ σ' : zS} (c : zCnt σ) (e : sN σ' = sN σ) : zCnt σ' := by unfold zCnt at c ⊢; rw [e]; exact c
def wBack (σ : zS) (i j : Nat) : zS := match sR σ 0 i j with
  | none => σ
  | some q => wR (wV σ 13 q 0 (sV σ 13 q 0 + sV σ 7 i j)) 0 i j none
theorem wBack_N (σ : zS) (i j : Nat) : sN (wBack σ i j) = sN σ := by unfold wBack; split <;> rfl
def wUndo (σ : zS) (i j : Nat) : zS := wV (spUndo (wV σ 4 i 0 0) i j).1 0 1 0 (sV σ 0 1 0 + (spUndo (wV σ 4 i 0 0) i j).2)
def spSetLength (σ : zS) (l p len : Int32) : zO := oPart σ l p fun i j => if isLen len then (if sV σ 6 i j = 115 then (if sV σ 7 i j = len then (4, 0, σ) else (0, sV σ 7 i j, wUndo (wV (wBack σ i j) 7 i j len) i j)) else (4, 0, σ)) else (1, 0, σ)
def wTake (σ : zS) (i j k : Nat) : zS := wR (wV σ 13 k 0 (sV σ 13 k 0 - sV σ 7 i j)) 0 i j (some k)
def spGive (σ : zS) (l p q : Int32) : zO := oPart σ l p fun i j => oRow σ 1 q fun k => if sR σ 0 i j = some k then (4, 0, σ) else if sV σ 7 i j ≤ sV σ 13 k 0 then (0, sV (wUndo (wTake (wBack σ i j) i j k) i j) 13 k 0, wUndo (wTake (wBack σ i j) i j k) i j) else (4, 0, σ)
section YA
variable {B : Nat} {σ : zS} {h : AH} {g : Nat → Nat} {Xf : Nat → AH → Prop}
theorem Y.undoStep (y : Y B σ h) (c : zCnt σ) {i j : Nat} (hi : i < 4) (hj : j < 10) {x1 cnt : Int32} (hx : ¬ x1 < nI j) {rec6 : Option Nat → Int32 → Int32 → Int32 → AH → Prop} {K : Int32 → AH → Prop} (k : ∀ h', frY B h h' → Y B (undo1 σ i j cnt).1 h' → rec6 (some (yL B i)) x1 (undo1 σ i j cnt).2 (nI (j + 1)) h') : f_X3_undoBeside_L6b g rec6 (some (yL B i)) x1 cnt (nI j) h K := by
  have c2 := c.2.2.2.2 i
  simp only [f_X3_undoBeside_L6b, f_X3_undoBeside_B49, y.cL hi, y.jointCount c hi, nI_1]
  rw [if_neg hx, if_neg (nI_pos (by omega))]
  unfold undo1 at k
  by_cases q1 : j < sN σ 4 i - 1
  · have hj9 : j < 9 := by omega
    rw [if_neg (nI_ge q1 (by omega))]
    simp only [y.a49 hi, y.lJ hi hj9, y.r32 hi hj9, y.cJ hi hj9]
    by_cases q2 : sV σ 8 i j = 110
    · rw [if_neg (fun z => z.2 q2)] at k
      rw [if_pos q2]
      exact k h frY.refl y
    · rw [if_pos ⟨q1, q2⟩] at k
      rw [if_neg q2]
      unfold f_X2_renew
      rw [okC_110]
      refine y.putI 8 i j ⟨hi, hj9⟩ fun h1 fr1 y1 => ?_
      refine y1.putI 9 i j ⟨hi, hj9⟩ fun h2 fr2 y2 => ?_
      refine y2.putR 1 i j ⟨hi, hj9⟩ none rfl fun h3 fr3 y3 => ?_
      exact k h3 (fr1.trans (fr2.trans fr3)) y3
  · rw [if_neg (fun z => q1 z.1)] at k
    rw [if_pos (nI_le (by omega) (by omega))]
    exact k h frY.refl y
theorem Y.undoBeside (y : Y B σ h) (c : zCnt σ) {i p : Nat} (hi : i < 4) (hp : p < 10) {K : Int32 → AH → Prop} (k : ∀ h', frY B h h' → Y B (spUndo σ i p).1 h' → K (spUndo σ i p).2 h') : f_X3_undoBeside g (some (yL B i)) (nI p) h K := by
  unfold f_X3_undoBeside
  unfold spUndo at k
  cases p with
  | zero =>
    rw [if_pos rfl] at k
    show f_X3_undoBeside_L6b g _ (some (yL B i)) (nI 0) 0 (nI 0 - 1) h K
    unfold f_X3_undoBeside_L6b f_X3_undoBeside_B49
    rw [if_neg (by decide), if_pos (by decide), show nI 0 - 1 + 1 = nI 0 by decide]
    refine y.undoStep c hi hp (by decide) fun h1 fr1 y1 => ?_
    show f_X3_undoBeside_L6b g _ (some (yL B i)) (nI 0) _ (nI 1) h1 K
    unfold f_X3_undoBeside_L6b
    rw [if_pos (by decide)]
    exact k h1 fr1 y1
  | succ p =>
    rw [if_neg (by omega)] at k
    rw [nI_pred]
    refine y.undoStep c hi (by omega) (nI_nlt (by omega) (by omega)) fun h1 fr1 y1 => ?_
    refine y1.undoStep (c.of (undo1_N _ _ _ _)) hi hp (nI_nlt (by omega) (by omega)) fun h2 fr2 y2 => ?_
    show f_X3_undoBeside_L6b g _ (some (yL B i)) (nI (p + 1)) _ (nI (p + 1 + 1)) h2 K
    unfold f_X3_undoBeside_L6b
    rw [if_pos (nI_lt (by omega) (by omega))]
    exact k h2 (fr1.trans fr2) y2
theorem Y.returnSteel (y : Y B σ h) (c : zCnt σ) (r : zRef σ) {i j : Nat} (hi : i < 4) (hj : j < 10) {K : AH → Prop} (k : ∀ h', frY B h h' → Y B (wBack σ i j) h' → K h') : f_X4_returnSteel g (some (yP B i j)) h K := by
  have c1 := c.2.1
  simp only [f_X4_returnSteel, y.a66 hi hj]
  unfold wBack at k
  cases e : sR σ 0 i j with
  | none =>
    rw [e] at k
    exact k h frY.refl y
  | some q =>
    rw [e] at k
    have hq := r.1 i j q e
    have hq8 : q < 8 := by omega
    simp only [Option.map_some, yRT_0, nNull_some, y.r19 hq8, y.r65 hi hj]
    refine y.putI 13 q 0 ⟨hq8, rfl⟩ fun h1 fr1 y1 => ?_
    refine y1.putR 0 i j ⟨hi, hj⟩ none rfl fun h2 fr2 y2 => ?_
    exact k h2 (fr1.trans fr2) y2
/-- the end of both: the line untested, the joints beside undone and counted -/
theorem Y.undoAfter (y : Y B σ h) (c : zCnt σ) {i j : Nat} (hi : i < 4) (hj : j < 10) {KK : AH → Prop} (k : ∀ h', frY B h h' → Y B (wUndo σ i j) h' → KK h') : pI h (some (yL B i)) 3 55 0 fun h12 => gI h12 (some B) 6 105 fun v13 => gA h12 (some B) 6 96 fun v14 => lA h12 v14 6 (nI i) fun v15 => cast h12 v15 4 (f_X3_undoBeside g v15 (nI j) h12 (fun v16 h17 => pI h17 (some B) 6 105 (v13 + v16) fun h18 => KK h18)) := by
  refine y.putI 4 i 0 ⟨hi, rfl⟩ fun h1 fr1 y1 => ?_
  simp only [y1.r105, y1.a96, y1.lL hi, y1.cL hi]
  refine y1.undoBeside (c.of rfl) hi hj fun h2 fr2 y2 => ?_
  refine y2.putI 0 1 0 ⟨by decide, rfl⟩ fun h3 fr3 y3 => ?_
  refine k h3 (fr1.trans (fr2.trans fr3)) ?_
  have e : wUndo σ i j = wV (spUndo (wV σ 4 i 0 0) i j).1 0 1 0 (sV (wV σ 4 i 0 0) 0 1 0 + (spUndo (wV σ 4 i 0 0) i j).2) := by unfold wUndo; rfl
  rw [e]
  exact y3
theorem Y.setLength (y : Y B σ h) (c : zCnt σ) (r : zRef σ) {l p len : Int32} {K : Int32 → AH → Prop} (q : yPost B σ h (spSetLength σ l p len) Xf K) : f_X6_setLength g (some B) l p len h Xf K := by
  unfold spSetLength oPart at q
  simp only [f_X6_setLength, y.cB, y.partAt c]
  cases e : ix l (sN σ 0 0) with
  | none => rw [e] at q; exact q.ex y (by decide)
  | some i =>
    rw [e] at q
    have c1 := c.1
    obtain ⟨hi, rfl⟩ := ix_some (by omega) e
    have hi4 : i < 4 := by omega
    dsimp only at q ⊢
    cases e2 : ix p (sN σ 4 i) with
    | none => rw [e2] at q; exact q.ex y (by decide)
    | some j =>
      rw [e2] at q
      have c2 := c.2.2.2.2 i
      obtain ⟨hj, rfl⟩ := ix_some (by omega) e2
      have hj10 : j < 10 := by omega
      dsimp only at q ⊢
      simp only [f_isLen, if10, y.r64 hi4 hj10, y.r65 hi4 hj10, y.cP hi4 hj10]
      by_cases q0 : isLen len = true
      · rw [if_pos q0] at q
        rw [if_neg (by rw [q0]; simp)]
        by_cases q1 : sV σ 6 i j = 115
        · rw [if_pos q1] at q ⊢
          by_cases q2 : sV σ 7 i j = len
          · rw [if_pos q2] at q ⊢; exact q.ex y (by decide)
          · rw [if_neg q2] at q ⊢
            refine y.returnSteel c r hi4 hj10 fun h1 fr1 y1 => ?_
            refine y1.putI 7 i j ⟨hi4, hj10⟩ fun h2 fr2 y2 => ?_
            simp only [y2.a96, y2.lL hi4, okZ_0]
            exact y2.undoAfter (c.of (wBack_N σ i j)) hi4 hj10 fun h3 fr3 y3 => q.ok (fr1.trans (fr2.trans fr3)) y3
        · rw [if_neg q1] at q ⊢; exact q.ex y (by decide)
      · rw [if_neg q0] at q
        rw [if_pos (by simpa using q0)]
        exact q.ex y (by decide)
theorem Y.give (y : Y B σ h) (c : zCnt σ) (r : zRef σ) {l p n : Int32} {K : Int32 → AH → Prop} (q : yPost B σ h (spGive σ l p n) Xf K) : f_X6_give g (some B) l p n h Xf K := by
  unfold spGive oPart oRow at q
  simp only [f_X6_give, y.cB, y.partAt c]
  cases e : ix l (sN σ 0 0) with
  | none => rw [e] at q; exact q.ex y (by decide)
  | some i =>
    rw [e] at q
    have c1 := c.1
    obtain ⟨hi, rfl⟩ := ix_some (by omega) e
    have hi4 : i < 4 := by omega
    dsimp only at q ⊢
    cases e2 : ix p (sN σ 4 i) with
    | none => rw [e2] at q; exact q.ex y (by decide)
    | some j =>
      rw [e2] at q
      have c2 := c.2.2.2.2 i
      have c3 := c.2.1
      obtain ⟨hj, rfl⟩ := ix_some (by omega) e2
      have hj10 : j < 10 := by omega
      dsimp only at q ⊢
      simp only [y.cB, y.heatAt c]
      cases e3 : ix n (sN σ 1 0) with
      | none => rw [e3] at q; exact q.ex y (by decide)
      | some k =>
        rw [e3] at q
        obtain ⟨hk, rfl⟩ := ix_some (by omega) e3
        have hk8 : k < 8 := by omega
        dsimp only at q ⊢
        simp only [y.a66 hi4 hj10, mapH, y.r19 hk8, y.r65 hi4 hj10, y.cP hi4 hj10]
        by_cases q1 : sR σ 0 i j = some k
        · rw [if_pos q1] at q ⊢; exact q.ex y (by decide)
        rw [if_neg q1] at q ⊢
        by_cases q2 : sV σ 7 i j ≤ sV σ 13 k 0
        · rw [if_pos q2] at q ⊢
          refine y.returnSteel c r hi4 hj10 fun h1 fr1 y1 => ?_
          simp only [y1.cP hi4 hj10, f_X4_takeSteel, y1.r19 hk8, y1.r65 hi4 hj10]
          refine y1.putI 13 k 0 ⟨hk8, rfl⟩ fun h2 fr2 y2 => ?_
          refine y2.putR 0 i j ⟨hi4, hj10⟩ (some k) rfl fun h3 fr3 y3 => ?_
          simp only [y3.a96, y3.lL hi4, okZ_0]
          refine y3.undoAfter (c.of (wBack_N σ i j)) hi4 hj10 fun h4 fr4 y4 => ?_
          simp only [y4.r19 hk8]
          exact q.ok (fr1.trans (fr2.trans (fr3.trans fr4))) y4
        · rw [if_neg q2] at q ⊢; exact q.ex y (by decide)
end YA
