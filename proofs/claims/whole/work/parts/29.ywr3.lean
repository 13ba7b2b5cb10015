/-! looks, repairs, blinds, what is undone beside a part -/
def wRepair (σ : zS) (i j k : Nat) : zS := wV (wV (wR (wV σ 8 i j 119) 1 i j (some k)) 9 i j (sV σ 9 i j + 1)) 4 i 0 0
def spRepair (σ : zS) (l p w : Int32) : zO := oJoint σ l p fun i j => oRow σ 2 w fun k => if sV σ 8 i j = 98 then (if 2 ≤ sV σ 9 i j then (4, 0, σ) else if spMay σ i j k then (0, sV σ 9 i j + 1, wRepair σ i j k) else (4, 0, σ)) else (4, 0, σ)
def wBadLook (σ : zS) (i j k : Nat) : zS := wV (wV (wV (wV σ 8 i j 98) 16 k 0 (sV σ 16 k 0 + 1)) 3 i 0 (sV σ 3 i 0 + 1)) 4 i 0 0
def spLook (σ : zS) (l p good : Int32) : zO := oJoint σ l p fun i j => if sV σ 8 i j = 119 then (match sR σ 1 i j with
  | none => (4, 0, σ)
  | some k => if good = 0 then (0, 98, wBadLook σ i j k) else (0, 103, wV σ 8 i j 103)) else (4, 0, σ)
def eN (x : Int32) : Nat := if x = 0 then 0 else 1
def spBlind (σ : zS) (l last is : Int32) : zO := oRow σ 0 l fun i => if is = 0 then (0, sV σ 10 i (eN last), wV σ 10 i (eN last) is) else match sR σ 2 i (eN last) with
  | none => (0, sV σ 10 i (eN last), wV σ 10 i (eN last) is)
  | some _ => (4, 0, σ)
def wRenew (σ : zS) (i j : Nat) : zS := wR (wV (wV σ 8 i j 110) 9 i j 0) 1 i j none
def undo1 (σ : zS) (i j : Nat) (cnt : Int32) : zS × Int32 := if j < sN σ 4 i - 1 ∧ ¬ sV σ 8 i j = 110 then (wRenew σ i j, cnt + 1) else (σ, cnt)
def spUndo (σ : zS) (i p : Nat) : zS × Int32 := if p = 0 then undo1 σ i 0 0 else undo1 (undo1 σ i (p - 1) 0).1 i p (undo1 σ i (p - 1) 0).2
section YV
variable {B : Nat} {σ : zS} {h : AH} {g : Nat → Nat} {Xf : Nat → AH → Prop} {K : Int32 → AH → Prop}
theorem Y.repair (y : Y B σ h) (c : zCnt σ) (r : zRef σ) (al : zAlloy σ) {l p w : Int32} (q : yPost B σ h (spRepair σ l p w) Xf K) : f_X6_repair g (some B) l p w h Xf K := by
  unfold spRepair oJoint oRow at q
  simp only [f_X6_repair, y.cB, y.jointAt c]
  cases e : ix l (sN σ 0 0) with
  | none => rw [e] at q; exact q.ex y (by decide)
  | some i =>
    rw [e] at q
    have c1 := c.1
    obtain ⟨hi, rfl⟩ := ix_some (by omega) e
    have hi4 : i < 4 := by omega
    dsimp only at q ⊢
    cases e2 : ix p (sN σ 4 i - 1) with
    | none => rw [e2] at q; exact q.ex y (by decide)
    | some j =>
      rw [e2] at q
      have c2 := c.2.2.2.2 i
      have c3 := c.2.2.1
      obtain ⟨hj, rfl⟩ := ix_some (by omega) e2
      have hj9 : j < 9 := by omega
      dsimp only at q ⊢
      simp only [y.cB, y.welderAt c]
      cases e3 : ix w (sN σ 2 0) with
      | none => rw [e3] at q; exact q.ex y (by decide)
      | some k =>
        rw [e3] at q
        obtain ⟨hk, rfl⟩ := ix_some (by omega) e3
        have hk5 : k < 5 := by omega
        dsimp only at q ⊢
        simp only [y.r32 hi4 hj9, y.r33 hi4 hj9, y.a96, y.lL hi4, y.cB, y.isAllowed c r al hi4 hj9 hk5, if10, y.cJ hi4 hj9]
        by_cases q1 : sV σ 8 i j = 98
        · rw [if_pos q1] at q ⊢
          by_cases q3 : 2 ≤ sV σ 9 i j
          · rw [if_pos q3] at q ⊢; exact q.ex y (by decide)
          rw [if_neg q3] at q ⊢
          by_cases q2 : spMay σ i j k = true
          · rw [if_pos q2] at q
            rw [if_neg (by rw [q2]; simp)]
            unfold f_X2_fuse
            rw [okC_119]
            refine y.putI 8 i j ⟨hi4, hj9⟩ fun h1 fr1 y1 => ?_
            refine y1.putR 1 i j ⟨hi4, hj9⟩ (some k) rfl fun h2 fr2 y2 => ?_
            simp only [y2.r33 hi4 hj9, sV_wR, sV_wV]
            refine y2.putI 9 i j ⟨hi4, hj9⟩ fun h3 fr3 y3 => ?_
            simp only [y3.a96, y3.lL hi4, okZ_0]
            refine y3.putI 4 i 0 ⟨hi4, rfl⟩ fun h4 fr4 y4 => ?_
            simp only [y4.r33 hi4 hj9, sV_wV, and_self, if_true]
            exact q.ok (fr1.trans (fr2.trans (fr3.trans fr4))) y4
          · rw [if_neg q2] at q
            rw [if_pos (by simpa using q2)]
            exact q.ex y (by decide)
        · rw [if_neg q1] at q ⊢; exact q.ex y (by decide)
theorem Y.look (y : Y B σ h) (c : zCnt σ) (r : zRef σ) {l p good : Int32} (q : yPost B σ h (spLook σ l p good) Xf K) : f_X6_look g (some B) l p good h Xf K := by
  unfold spLook oJoint at q
  simp only [f_X6_look, f_X6_look_B49, f_X6_look_B95, y.cB, y.jointAt c]
  cases e : ix l (sN σ 0 0) with
  | none => rw [e] at q; exact q.ex y (by decide)
  | some i =>
    rw [e] at q
    have c1 := c.1
    obtain ⟨hi, rfl⟩ := ix_some (by omega) e
    have hi4 : i < 4 := by omega
    dsimp only at q ⊢
    cases e2 : ix p (sN σ 4 i - 1) with
    | none => rw [e2] at q; exact q.ex y (by decide)
    | some j =>
      rw [e2] at q
      have c2 := c.2.2.2.2 i
      have c3 := c.2.2.1
      obtain ⟨hj, rfl⟩ := ix_some (by omega) e2
      have hj9 : j < 9 := by omega
      dsimp only at q ⊢
      simp only [y.r32 hi4 hj9, y.a34 hi4 hj9]
      by_cases q1 : sV σ 8 i j = 119
      · rw [if_pos q1] at q ⊢
        cases e3 : sR σ 1 i j with
        | none => rw [e3] at q; exact q.ex y (by decide)
        | some k =>
          rw [e3] at q
          have hk := r.2.1 i j k e3
          have hk5 : k < 5 := by omega
          dsimp only at q
          simp only [Option.map_some, nNull_some]
          by_cases q2 : good = 0
          · rw [if_pos q2] at q ⊢
            rw [okC_98]
            refine y.putI 8 i j ⟨hi4, hj9⟩ fun h1 fr1 y1 => ?_
            rw [if_pos q2]
            have e4 : sR (wV σ 8 i j 98) 1 i j = some k := e3
            simp only [y1.a34 hi4 hj9, e4, Option.map_some, yRT_1, y1.r82 hk5, sV_wV]
            refine y1.putI 16 k 0 ⟨hk5, rfl⟩ fun h2 fr2 y2 => ?_
            simp only [y2.a96, y2.lL hi4, y2.r54 hi4, sV_wV]
            refine y2.putI 3 i 0 ⟨hi4, rfl⟩ fun h3 fr3 y3 => ?_
            simp only [y3.a96, y3.lL hi4, okZ_0]
            refine y3.putI 4 i 0 ⟨hi4, rfl⟩ fun h4 fr4 y4 => ?_
            simp only [y4.r32 hi4 hj9, sV_wV, and_self, if_true]
            exact okC_98.mpr (q.ok (fr1.trans (fr2.trans (fr3.trans fr4))) y4)
          · rw [if_neg q2] at q ⊢
            rw [okC_103]
            refine y.putI 8 i j ⟨hi4, hj9⟩ fun h1 fr1 y1 => ?_
            rw [if_neg q2]
            simp only [y1.r32 hi4 hj9, sV_wV, and_self, if_true]
            exact okC_103.mpr (q.ok fr1 y1)
      · rw [if_neg q1] at q ⊢; exact q.ex y (by decide)
theorem eN_lt {x : Int32} : eN x < 2 := by unfold eN; split <;> decide
theorem Y.endAt (y : Y B σ h) {i : Nat} (hi : i < 4) {x : Int32} {K : Option Nat → AH → Prop} : f_X3_endAt g (some (yL B i)) x h K = K (some (yE B i (eN x))) h := by
  simp only [f_X3_endAt, y.a50 hi, y.a51 hi]
  unfold eN
  by_cases q : x = 0
  · simp [q]
  · simp [q]
theorem Y.blind (y : Y B σ h) (c : zCnt σ) (fl : zFlag σ) {l last is : Int32} (hv : is = 0 ∨ is = 1) (q : yPost B σ h (spBlind σ l last is) Xf K) : f_X6_blind g (some B) l last is h Xf K := by
  unfold spBlind oRow at q
  simp only [f_X6_blind, f_X6_blind_B34, y.cB, y.lineAt c]
  cases e : ix l (sN σ 0 0) with
  | none => rw [e] at q; exact q.ex y (by decide)
  | some i =>
    rw [e] at q
    have c1 := c.1
    obtain ⟨hi, rfl⟩ := ix_some (by omega) e
    have hi4 : i < 4 := by omega
    dsimp only at q ⊢
    simp only [y.cL hi4, y.endAt hi4, y.r2 hi4 eN_lt, y.a1 hi4 eN_lt, okZ_f hv]
    have step : yPost B σ h (0, sV σ 10 i (eN last), wV σ 10 i (eN last) is) Xf K → pI h (some (yE B i (eN last))) 0 2 is fun h2 => okZ (sV σ 10 i (eN last)) (K (sV σ 10 i (eN last)) h2) := by
      intro q
      refine y.putI 10 i (eN last) ⟨hi4, eN_lt⟩ fun h1 fr1 y1 => ?_
      rw [okZ_f (fl.2.1 i (eN last))]
      exact q.ok fr1 y1
    by_cases q1 : is = 0
    · rw [if_pos q1] at q ⊢; exact step q
    · rw [if_neg q1] at q ⊢
      cases e3 : sR σ 2 i (eN last) with
      | none => rw [e3] at q; exact step q
      | some m => rw [e3] at q; exact q.ex y (by decide)
end YV
