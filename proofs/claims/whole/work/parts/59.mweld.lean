/-! welds, looks, repairs in the model -/
theorem wV_comm {σ : zS} {f i j f' i' j' : Nat} {v v' : Int32} (hf : f ≠ f') : wV (wV σ f i j v) f' i' j' v' = wV (wV σ f' i' j' v') f i j v := by
  unfold wV
  refine Prod.ext rfl (Prod.ext ?_ rfl)
  funext a b c
  dsimp only
  by_cases q : a = f ∧ b = i ∧ c = j
  · rw [if_neg (fun z => hf (q.1.symm.trans z.1)), if_pos q, if_pos q]
  · rw [if_neg q, if_neg q]
theorem zFlag.wV {σ : zS} (fl : zFlag σ) (f i j : Nat) (v : Int32) (hv : f = 4 ∨ f = 10 ∨ f = 14 → v = 0 ∨ v = 1) (hs : f = 8 → v = 110 ∨ v = 119 ∨ v = 103 ∨ v = 98) : zFlag (wV σ f i j v) := by
  obtain ⟨f1, f2, f3, f4⟩ := fl
  refine ⟨fun l => ?_, fun l a => ?_, fun l => ?_, fun l a => ?_⟩ <;> rw [sV_wV]
  · by_cases z : 4 = f ∧ l = i ∧ 0 = j
    · rw [if_pos z]; exact hv (Or.inl z.1.symm)
    · rw [if_neg z]; exact f1 l
  · by_cases z : 10 = f ∧ l = i ∧ a = j
    · rw [if_pos z]; exact hv (Or.inr (Or.inl z.1.symm))
    · rw [if_neg z]; exact f2 l a
  · by_cases z : 14 = f ∧ l = i ∧ 0 = j
    · rw [if_pos z]; exact hv (Or.inr (Or.inr z.1.symm))
    · rw [if_neg z]; exact f3 l
  · by_cases z : 8 = f ∧ l = i ∧ a = j
    · rw [if_pos z]; exact hs z.1.symm
    · rw [if_neg z]; exact f4 l a
theorem zFlag.wR {σ : zS} (fl : zFlag σ) (f i j : Nat) (x : Option Nat) : zFlag (wR σ f i j x) := fl
theorem zFlag.wN {σ : zS} (fl : zFlag σ) (k i v : Nat) : zFlag (wN σ k i v) := fl
/-- how often a joint was repaired -/
def zRep2 (σ : zS) : Prop := ∀ l j, sV σ 9 l j = 0 ∨ sV σ 9 l j = 1 ∨ sV σ 9 l j = 2
/-- a joint that is new has no welder, another one has -/
def zJw (σ : zS) : Prop := ∀ l j, sV σ 8 l j = 110 ↔ sR σ 1 l j = none
theorem zRep2.le {σ : zS} (rp : zRep2 σ) (l j : Nat) : (2 ≤ sV σ 9 l j) = (sV σ 9 l j = 2) := by
  rcases rp l j with z | z | z <;> rw [z] <;> decide
section MWW
variable {g : Nat → Nat} {B : Nat} {mu : zM} {σ : zS} {h : AH}
theorem M.welds (m : M g B mu σ h) (c : zCnt σ) {i j k : Nat} (hi : i < sN σ 0 0) (hj : j < sN σ 4 i - 1) {K : AH → Prop} (q : ∀ h', frK B h h' → M g B mu (wWeld σ i j k) h' → K h') : f_X12_welds g (some (B + 119)) (nI i) (nI j) (nI k) h K := by
  simp only [f_X12_welds, m.cO, m.at c hi hj, okC_119]
  refine m.putI 8 i j ⟨hi, hj⟩ (by decide) fun h1 fr1 m1 => ?_
  have c1 : zCnt (wV σ 8 i j 119) := c
  simp only [m1.cO, m1.at c1 hi hj]
  refine m1.putR 1 i j (by decide) ⟨hi, hj⟩ (some k) rfl fun h2 fr2 m2 => ?_
  have c2 : zCnt (wR (wV σ 8 i j 119) 1 i j (some k)) := c
  simp only [m2.a192, m2.cs0, m2.gL c2 hi, m2.cL hi, okZ_0]
  exact m2.putI 4 i 0 ⟨hi, rfl⟩ (by decide) fun h3 fr3 m3 => q h3 (fr1.trans (fr2.trans fr3)) m3
theorem zFlag.weld {i j k : Nat} (fl : zFlag σ) : zFlag (wWeld σ i j k) := by
  unfold wWeld
  exact ((fl.wV 8 i j 119 (fun z => by omega) (fun _ => Or.inr (Or.inl rfl))).wR 1 i j (some k)).wV 4 i 0 0 (fun _ => Or.inl rfl) (fun z => by omega)
variable {K : Int32 → AH → Prop}
theorem M.weld (m : M g B mu σ h) (c : zCnt σ) (r : zRef σ) (al : zAlloy σ) (fl : zFlag σ) {l p w : Int32} (q : mPost g B σ h 3 4 9 (spWeld σ l p w) K) : f_X12_weld g (some (B + 119)) l p w h K := by
  have c1 := c.1
  have c3 := c.2.2.1
  unfold spWeld oJoint oRow at q
  simp only [f_X12_weld, f_X12_weld_B18, f_X12_weld_B46, f_X12_weld_B51, m.cO, m.isJoint c, m.isWelder c, if_true, e10, if_false]
  cases e : ix l (sN σ 0 0) with
  | none => rw [e] at q; exact q.exR m rfl (by decide) (by decide)
  | some i =>
    rw [e] at q
    obtain ⟨hi, rfl⟩ := ix_some (by omega) e
    have c2 := c.2.2.2.2 i
    dsimp only at q ⊢
    cases e2 : ix p (sN σ 4 i - 1) with
    | none => rw [e2] at q; exact q.exR m rfl (by decide) (by decide)
    | some j =>
      rw [e2] at q
      obtain ⟨hj, rfl⟩ := ix_some (by omega) e2
      dsimp only at q ⊢
      cases e3 : ix w (sN σ 2 0) with
      | none => rw [e3] at q; exact q.exR m rfl (by decide) (by decide)
      | some k =>
        rw [e3] at q
        obtain ⟨hk, rfl⟩ := ix_some (by omega) e3
        dsimp only at q ⊢
        simp only [m.cO, m.at c hi hj, m.r128 hi hj, m.may c r al hi hj hk, if10]
        by_cases q1 : sV σ 8 i j = 110
        · rw [if_pos q1] at q ⊢
          cases q2 : spMay σ i j k with
          | false =>
            rw [q2] at q
            simp only [Bool.false_eq_true, if_false] at q
            rw [if_pos rfl]
            exact q.exR m rfl (by decide) (by decide)
          | true =>
            rw [q2] at q
            simp only [if_true] at q
            rw [if_neg (by simp)]
            refine m.fail0 fun h1 fr m1 => ?_
            rw [if_pos rfl, m1.cO]
            refine m1.welds c hi hj fun h2 fr2 m2 => ?_
            have cw : zCnt (wWeld σ i j k) := c
            simp only [m2.a192, m2.cs0, m2.gL cw hi, m2.cL hi]
            exact m2.manyWgb cw fl.weld hi fun h3 fr3 => q.ok (fr.k (fr2.trans (fr3.K m2.hB))) (m2.old fr3)
        · rw [if_neg q1] at q ⊢; exact q.exR m rfl (by decide) (by decide)
theorem M.repair (m : M g B mu σ h) (c : zCnt σ) (r : zRef σ) (al : zAlloy σ) (rp : zRep2 σ) {l p w : Int32} (q : mPost g B σ h 3 4 9 (spRepair σ l p w) K) : f_X12_repair g (some (B + 119)) l p w h K := by
  have c1 := c.1
  have c3 := c.2.2.1
  unfold spRepair oJoint oRow at q
  simp only [rp.le] at q
  simp only [f_X12_repair, f_X12_repair_B18, f_X12_repair_B59, f_X12_repair_B64, m.cO, m.isJoint c, m.isWelder c, if_true, e10, if_false]
  cases e : ix l (sN σ 0 0) with
  | none => rw [e] at q; exact q.exR m rfl (by decide) (by decide)
  | some i =>
    rw [e] at q
    obtain ⟨hi, rfl⟩ := ix_some (by omega) e
    have c2 := c.2.2.2.2 i
    dsimp only at q ⊢
    cases e2 : ix p (sN σ 4 i - 1) with
    | none => rw [e2] at q; exact q.exR m rfl (by decide) (by decide)
    | some j =>
      rw [e2] at q
      obtain ⟨hj, rfl⟩ := ix_some (by omega) e2
      dsimp only at q ⊢
      cases e3 : ix w (sN σ 2 0) with
      | none => rw [e3] at q; exact q.exR m rfl (by decide) (by decide)
      | some k =>
        rw [e3] at q
        obtain ⟨hk, rfl⟩ := ix_some (by omega) e3
        dsimp only at q ⊢
        simp only [m.cO, m.at c hi hj, m.r128 hi hj, m.r129 hi hj, m.may c r al hi hj hk, if10]
        by_cases q1 : sV σ 8 i j = 98
        · rw [if_pos q1] at q ⊢
          by_cases q3 : sV σ 9 i j = 2
          · rw [if_pos q3] at q ⊢; exact q.exR m rfl (by decide) (by decide)
          rw [if_neg q3] at q ⊢
          cases q2 : spMay σ i j k with
          | false =>
            rw [q2] at q
            simp only [Bool.false_eq_true, if_false] at q
            rw [if_pos rfl]
            exact q.exR m rfl (by decide) (by decide)
          | true =>
            rw [q2] at q
            simp only [if_true] at q
            rw [if_neg (by simp)]
            refine m.fail0 fun h1 fr m1 => ?_
            rw [if_pos rfl, m1.cO]
            refine m1.welds c hi hj fun h2 fr2 m2 => ?_
            have cw : zCnt (wWeld σ i j k) := c
            simp only [m2.cO, m2.at cw hi hj, m2.r129 hi hj]
            refine m2.putI 9 i j ⟨hi, hj⟩ (by decide) fun h3 fr3 m3 => ?_
            have e9 : sV (wWeld σ i j k) 9 i j = sV σ 9 i j := by
              unfold wWeld
              rw [sV_wV, if_neg (fun z => absurd z.1 (by decide)), sV_wR, sV_wV, if_neg (fun z => absurd z.1 (by decide))]
            rw [e9] at m3
            have cw3 : zCnt (wV (wWeld σ i j k) 9 i j (sV σ 9 i j + 1)) := c
            simp only [m3.cO, m3.at cw3 hi hj, m3.r129 hi hj]
            rw [show sV (wV (wWeld σ i j k) 9 i j (sV σ 9 i j + 1)) 9 i j = sV σ 9 i j + 1 by rw [sV_wV]; simp]
            have e10' : wV (wWeld σ i j k) 9 i j (sV σ 9 i j + 1) = wRepair σ i j k := by
              unfold wWeld wRepair
              exact wV_comm (by decide)
            rw [e10'] at m3
            exact q.ok (fr.k (fr2.trans fr3)) m3
        · rw [if_neg q1] at q ⊢; exact q.exR m rfl (by decide) (by decide)
theorem M.look (m : M g B mu σ h) (c : zCnt σ) (r : zRef σ) (jw : zJw σ) {l p good : Int32} (q : mPost g B σ h 3 4 9 (spLook σ l p good) K) : f_X12_look g (some (B + 119)) l p good h K := by
  have c1 := c.1
  have c3 := c.2.2.1
  unfold spLook oJoint at q
  simp only [f_X12_look, f_X12_look_B33, f_X12_look_B63, f_X12_look_B135, m.cO, m.isJoint c, if_true, e10, if_false, okC_32]
  cases e : ix l (sN σ 0 0) with
  | none => rw [e] at q; exact q.exR m rfl (by decide) (by decide)
  | some i =>
    rw [e] at q
    obtain ⟨hi, rfl⟩ := ix_some (by omega) e
    have c2 := c.2.2.2.2 i
    dsimp only at q ⊢
    cases e2 : ix p (sN σ 4 i - 1) with
    | none => rw [e2] at q; exact q.exR m rfl (by decide) (by decide)
    | some j =>
      rw [e2] at q
      obtain ⟨hj, rfl⟩ := ix_some (by omega) e2
      dsimp only at q ⊢
      simp only [m.cO, m.at c hi hj, m.r128 hi hj]
      by_cases q1 : sV σ 8 i j = 119
      · rw [if_pos q1] at q ⊢
        cases e3 : sR σ 1 i j with
        | none =>
          have z := (jw i j).mpr e3
          rw [q1] at z
          exact absurd z (by decide)
        | some k =>
          rw [e3] at q
          have hk := r.2.1 i j k e3
          dsimp only at q
          refine m.fail0 fun h1 fr m1 => ?_
          simp only [if_true, m1.cO, m1.at c hi hj]
          by_cases q2 : good = 0
          · rw [if_pos q2] at q
            simp only [if_pos q2, okC_98]
            refine m1.putI 8 i j ⟨hi, hj⟩ (by decide) fun h2 fr2 m2 => ?_
            have k2 : zCnt (wV σ 8 i j 98) := c
            have e4 : sR (wV σ 8 i j 98) 1 i j = some k := e3
            simp only [m2.a194, m2.r130 hi hj, e4, enc, m2.cs2, m2.gW k2 hk, m2.cW hk, m2.r177 hk, sV_wV]
            refine m2.putI 16 k 0 ⟨hk, rfl⟩ (by decide) fun h3 fr3 m3 => ?_
            simp only [m3.a192, m3.cs0, m3.gL (show zCnt _ from c) hi, m3.cL hi, m3.r149 hi, sV_wV]
            refine m3.putI 3 i 0 ⟨hi, rfl⟩ (by decide) fun h4 fr4 m4 => ?_
            simp only [m4.a192, m4.cs0, m4.gL (show zCnt _ from c) hi, m4.cL hi, okZ_0]
            refine m4.putI 4 i 0 ⟨hi, rfl⟩ (by decide) fun h5 fr5 m5 => ?_
            simp only [m5.r128 hi hj, sV_wV, and_self, if_true]
            exact okC_98.mpr (q.ok (fr.k (fr2.trans (fr3.trans (fr4.trans fr5)))) m5)
          · rw [if_neg q2] at q
            simp only [if_neg q2, okC_103]
            refine m1.putI 8 i j ⟨hi, hj⟩ (by decide) fun h2 fr2 m2 => ?_
            simp only [m2.r128 hi hj, sV_wV, and_self, if_true]
            exact okC_103.mpr (q.ok (fr.k fr2) m2)
      · rw [if_neg q1] at q ⊢; exact q.exR m rfl (by decide) (by decide)
end MWW
