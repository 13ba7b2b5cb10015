/-! more of the class's operations that write -/
def spAddHeat (σ : zS) (a len v : Int32) : zO := if isAlloy a then (if len < 100 then (1, 0, σ) else if len ≤ 20000 then (if sN σ 1 0 < 8 then (0, nI (sN σ 1 0), wN (wV (wV (wV (wV σ 11 (sN σ 1 0) 0 a) 12 (sN σ 1 0) 0 len) 13 (sN σ 1 0) 0 len) 14 (sN σ 1 0) 0 v) 1 0 (sN σ 1 0 + 1)) else (2, 0, σ)) else (1, 0, σ)) else (1, 0, σ)
def spAddCircuit (σ : zS) (x : Int32) : zO := if x < 1 then (1, 0, σ) else if 15 < x then (1, 0, σ) else if (x >>> (nI (sN σ 0 0) &&& 31)) = 0 then (if sN σ 3 0 < 6 then (0, nI (sN σ 3 0), wN (wV σ 17 (sN σ 3 0) 0 x) 3 0 (sN σ 3 0 + 1)) else (2, 0, σ)) else (1, 0, σ)
def wWeld (σ : zS) (i j k : Nat) : zS := wV (wR (wV σ 8 i j 119) 1 i j (some k)) 4 i 0 0
def spWeld (σ : zS) (l p w : Int32) : zO := oJoint σ l p fun i j => oRow σ 2 w fun k => if sV σ 8 i j = 110 then (if spMay σ i j k then (0, spNotNew (wWeld σ i j k) i, wWeld σ i j k) else (4, 0, σ)) else (4, 0, σ)
def spCutOut (σ : zS) (l p : Int32) : zO := oJoint σ l p fun i j => if sV σ 8 i j = 98 then (if 2 ≤ sV σ 9 i j then (0, sV σ 0 2 0 + 1, wV (wV (wR (wV (wV σ 8 i j 110) 9 i j 0) 1 i j none) 4 i 0 0) 0 2 0 (sV σ 0 2 0 + 1)) else (4, 0, σ)) else (4, 0, σ)
section YZ
variable {B : Nat} {σ : zS} {h : AH} {g : Nat → Nat} {Xf : Nat → AH → Prop} {K : Int32 → AH → Prop}
theorem Y.addHeat (y : Y B σ h) (c : zCnt σ) {a len v : Int32} (hv : v = 0 ∨ v = 1) (p : yPost B σ h (spAddHeat σ a len v) Xf K) : f_X6_addHeat g (some B) a len v h Xf K := by
  have c1 := c.2.1
  unfold spAddHeat at p
  simp only [f_X6_addHeat, f_isAlloy, if10, y.r101, y.a97]
  by_cases q0 : isAlloy a = true
  · rw [if_pos q0] at p
    rw [if_neg (by rw [q0]; simp)]
    by_cases q1 : len < 100
    · rw [if_pos q1] at p ⊢; exact p.ex y (by decide)
    rw [if_neg q1] at p ⊢
    by_cases q2 : len ≤ 20000
    · rw [if_pos q2] at p ⊢
      by_cases q3 : sN σ 1 0 < 8
      · rw [if_pos q3] at p
        rw [if_pos (show nI (sN σ 1 0) < 8 from nI_lt (a := sN σ 1 0) (b := 8) q3 (by decide))]
        simp only [y.lH q3]
        refine y.putI 11 (sN σ 1 0) 0 ⟨q3, rfl⟩ fun h1 fr1 y1 => ?_
        refine y1.putI 12 (sN σ 1 0) 0 ⟨q3, rfl⟩ fun h2 fr2 y2 => ?_
        refine y2.putI 13 (sN σ 1 0) 0 ⟨q3, rfl⟩ fun h3 fr3 y3 => ?_
        rw [okZ_f hv]
        refine y3.putI 14 (sN σ 1 0) 0 ⟨q3, rfl⟩ fun h4 fr4 y4 => ?_
        simp only [y4.r101, sN_wV]
        refine y4.putN 1 0 rfl (n := sN σ 1 0 + 1) (nI_1 _) fun h5 fr5 y5 => ?_
        simp only [y5.r16 q3]
        exact p.ok (fr1.trans (fr2.trans (fr3.trans (fr4.trans fr5)))) y5
      · rw [if_neg q3] at p
        rw [if_neg (show ¬ nI (sN σ 1 0) < 8 from nI_nlt (a := sN σ 1 0) (b := 8) (by omega) (by omega))]
        exact p.ex y (by decide)
    · rw [if_neg q2] at p ⊢; exact p.ex y (by decide)
  · rw [if_neg q0] at p
    rw [if_pos (by simpa using q0)]
    exact p.ex y (by decide)
theorem Y.addCircuit (y : Y B σ h) (c : zCnt σ) {x : Int32} (p : yPost B σ h (spAddCircuit σ x) Xf K) : f_X6_addCircuit g (some B) x h Xf K := by
  have c1 := c.2.2.2.1
  unfold spAddCircuit at p
  simp only [f_X6_addCircuit, y.r100, y.r103, y.a99]
  by_cases q1 : x < 1
  · rw [if_pos q1] at p ⊢; exact p.ex y (by decide)
  rw [if_neg q1] at p ⊢
  by_cases q2 : 15 < x
  · rw [if_pos q2] at p ⊢; exact p.ex y (by decide)
  rw [if_neg q2] at p ⊢
  by_cases q4 : (x >>> (nI (sN σ 0 0) &&& 31)) = 0
  · rw [if_pos q4] at p ⊢
    by_cases q3 : sN σ 3 0 < 6
    · rw [if_pos q3] at p
      rw [if_pos (show nI (sN σ 3 0) < 6 from nI_lt (a := sN σ 3 0) (b := 6) q3 (by decide))]
      refine y.stC q3 fun h1 fr1 y1 => ?_
      simp only [y1.r103, sN_wV]
      refine y1.putN 3 0 rfl (n := sN σ 3 0 + 1) (nI_1 _) fun h2 fr2 y2 => ?_
      simp only [y2.r103, sN_wN, nI_pred, and_self, if_true]
      exact p.ok (fr1.trans fr2) y2
    · rw [if_neg q3] at p
      rw [if_neg (show ¬ nI (sN σ 3 0) < 6 from nI_nlt (a := sN σ 3 0) (b := 6) (by omega) (by omega))]
      exact p.ex y (by decide)
  · rw [if_neg q4] at p ⊢; exact p.ex y (by decide)
theorem Y.weld (y : Y B σ h) (c : zCnt σ) (r : zRef σ) (al : zAlloy σ) {l p w : Int32} (q : yPost B σ h (spWeld σ l p w) Xf K) : f_X6_weld g (some B) l p w h Xf K := by
  unfold spWeld oJoint oRow at q
  simp only [f_X6_weld, y.cB, y.jointAt c]
  cases e : ix l (sN σ 0 0) with
  | none => rw [e] at q; exact q.ex y (by decide)
  | some i =>
    rw [e] at q
    have c1 := c.1
    obtain ⟨hi, rfl⟩ := ix_some (by omega) e
    have hi4 : i < 4 := by omega
    dsimp only at q ⊢
    cases e2 : ix p (sN σ 4 i - 1) with
    | none => rw [e2] at q; exact q.ex y (by decide)
    | some j =>
      rw [e2] at q
      have c2 := c.2.2.2.2 i
      have c3 := c.2.2.1
      obtain ⟨hj, rfl⟩ := ix_some (by omega) e2
      have hj9 : j < 9 := by omega
      dsimp only at q ⊢
      simp only [y.cB, y.welderAt c]
      cases e3 : ix w (sN σ 2 0) with
      | none => rw [e3] at q; exact q.ex y (by decide)
      | some k =>
        rw [e3] at q
        obtain ⟨hk, rfl⟩ := ix_some (by omega) e3
        have hk5 : k < 5 := by omega
        dsimp only at q ⊢
        simp only [y.r32 hi4 hj9, y.a96, y.lL hi4, y.cB, y.isAllowed c r al hi4 hj9 hk5, if10, y.cJ hi4 hj9]
        by_cases q1 : sV σ 8 i j = 110
        · rw [if_pos q1] at q ⊢
          by_cases q2 : spMay σ i j k = true
          · rw [if_pos q2] at q
            rw [if_neg (by rw [q2]; simp)]
            unfold f_X2_fuse
            rw [okC_119]
            refine y.putI 8 i j ⟨hi4, hj9⟩ fun h1 fr1 y1 => ?_
            refine y1.putR 1 i j ⟨hi4, hj9⟩ (some k) rfl fun h2 fr2 y2 => ?_
            simp only [y2.a96, y2.lL hi4, okZ_0]
            refine y2.putI 4 i 0 ⟨hi4, rfl⟩ fun h3 fr3 y3 => ?_
            have cc : zCnt (wV (wR (wV σ 8 i j 119) 1 i j (some k)) 4 i 0 0) := c
            simp only [y3.a96, y3.lL hi4, y3.cL hi4, y3.countNotNew cc hi4]
            exact q.ok (fr1.trans (fr2.trans fr3)) y3
          · rw [if_neg q2] at q
            rw [if_pos (by simpa using q2)]
            exact q.ex y (by decide)
        · rw [if_neg q1] at q ⊢; exact q.ex y (by decide)
theorem Y.cutOut (y : Y B σ h) (c : zCnt σ) {l p : Int32} (q : yPost B σ h (spCutOut σ l p) Xf K) : f_X6_cutOut g (some B) l p h Xf K := by
  unfold spCutOut oJoint at q
  simp only [f_X6_cutOut, y.cB, y.jointAt c]
  cases e : ix l (sN σ 0 0) with
  | none => rw [e] at q; exact q.ex y (by decide)
  | some i =>
    rw [e] at q
    have c1 := c.1
    obtain ⟨hi, rfl⟩ := ix_some (by omega) e
    have hi4 : i < 4 := by omega
    dsimp only at q ⊢
    cases e2 : ix p (sN σ 4 i - 1) with
    | none => rw [e2] at q; exact q.ex y (by decide)
    | some j =>
      rw [e2] at q
      have c2 := c.2.2.2.2 i
      obtain ⟨hj, rfl⟩ := ix_some (by omega) e2
      have hj9 : j < 9 := by omega
      dsimp only at q ⊢
      simp only [y.r32 hi4 hj9, y.r33 hi4 hj9, y.cJ hi4 hj9]
      by_cases q1 : sV σ 8 i j = 98
      · rw [if_pos q1] at q ⊢
        by_cases q2 : 2 ≤ sV σ 9 i j
        · rw [if_pos q2] at q ⊢
          unfold f_X2_renew
          rw [okC_110]
          refine y.putI 8 i j ⟨hi4, hj9⟩ fun h1 fr1 y1 => ?_
          refine y1.putI 9 i j ⟨hi4, hj9⟩ fun h2 fr2 y2 => ?_
          refine y2.putR 1 i j ⟨hi4, hj9⟩ none rfl fun h3 fr3 y3 => ?_
          simp only [y3.a96, y3.lL hi4, okZ_0]
          refine y3.putI 4 i 0 ⟨hi4, rfl⟩ fun h4 fr4 y4 => ?_
          simp only [y4.r106, sV_wV, sV_wR]
          refine y4.putI 0 2 0 ⟨by decide, rfl⟩ fun h5 fr5 y5 => ?_
          simp only [y5.r106, sV_wV, and_self, if_true]
          exact q.ok (fr1.trans (fr2.trans (fr3.trans (fr4.trans fr5)))) y5
        · rw [if_neg q2] at q ⊢; exact q.ex y (by decide)
      · rw [if_neg q1] at q ⊢; exact q.ex y (by decide)
end YZ
