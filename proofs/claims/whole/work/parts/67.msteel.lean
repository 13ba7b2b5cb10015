/-! lengths, steel, cuts in the model -/
section MSL
variable {g : Nat → Nat} {B : Nat} {mu : zM} {σ : zS} {h : AH}
theorem M.givesBack (m : M g B mu σ h) (c : zCnt σ) (r : zRef σ) {i j : Nat} (hi : i < sN σ 0 0) (hj : j < sN σ 4 i) {K : AH → Prop} (k : ∀ h', frK B h h' → M g B mu (wBack σ i j) h' → K h') : f_X12_givesBack g (some (B + 119)) (some (mu 1 i j)) h K := by
  have c3 := c.2.1
  simp only [f_X12_givesBack, f_X12_givesBack_B36, m.r162 hi hj]
  unfold wBack at k
  cases e : sR σ 0 i j with
  | none =>
    rw [e] at k
    rw [if_pos (show enc none = -1 from rfl)]
    refine m.putR 0 i j (by decide) ⟨hi, hj⟩ none rfl fun h1 fr1 m1 => ?_
    rw [wR_self e] at m1
    exact k h1 fr1 m1
  | some q =>
    rw [e] at k
    have hq := r.1 i j q e
    simp only [enc, nI_m1 (show q < 2 ^ 31 by omega), if_false, m.a193, m.cs1, m.gH c hq, m.cH hq, m.r113 hq, m.r161 hi hj]
    refine m.putI 13 q 0 ⟨hq, rfl⟩ (by decide) fun h1 fr1 m1 => ?_
    exact m1.putR 0 i j (by decide) ⟨hi, hj⟩ none rfl fun h2 fr2 m2 => k h2 (fr1.trans fr2) m2
theorem in_len {a : Int32} : (if a < 100 then (0 : Int32) else if 6000 < a then 0 else 1) = if isLen a then 1 else 0 := by
  unfold isLen
  by_cases q1 : a < 100
  · simp [q1]
  · by_cases q2 : 6000 < a
    · simp [q1, q2]
    · simp [q1, q2]
variable {K : Int32 → AH → Prop}
theorem M.setLength (m : M g B mu σ h) (c : zCnt σ) (r : zRef σ) {l p len : Int32} (q : mPost g B σ h 3 1 4 (spSetLength σ l p len) K) : f_X12_setLength g (some (B + 119)) l p len h K := by
  have c1 := c.1
  unfold spSetLength oPart at q
  simp only [f_X12_setLength, f_X12_setLength_B57, f_X12_setLength_B62, m.cO, m.isPart c, if_true, e10, if_false, f_in, in_len]
  cases e : ix l (sN σ 0 0) with
  | none => rw [e] at q; exact q.exR m rfl (by decide) (by decide)
  | some i =>
    rw [e] at q
    obtain ⟨hi, rfl⟩ := ix_some (by omega) e
    have c2 := c.2.2.2.2 i
    dsimp only at q ⊢
    cases e2 : ix p (sN σ 4 i) with
    | none => rw [e2] at q; exact q.exR m rfl (by decide) (by decide)
    | some j =>
      rw [e2] at q
      obtain ⟨hj, rfl⟩ := ix_some (by omega) e2
      dsimp only at q ⊢
      cases q0 : isLen len with
      | false =>
        rw [q0] at q
        simp only [Bool.false_eq_true, if_false] at q
        simp only [Bool.false_eq_true, if_false, if_true]
        exact q.exR m rfl (by decide) (by decide)
      | true =>
        rw [q0] at q
        simp only [if_true] at q
        simp only [if_true, e10, if_false, m.part c hi hj, m.r160 hi hj, m.r161 hi hj, m.cO]
        by_cases q1 : sV σ 6 i j = 115
        · rw [if_pos q1] at q ⊢
          by_cases q2 : sV σ 7 i j = len
          · rw [if_pos q2] at q ⊢; exact q.exR m rfl (by decide) (by decide)
          · rw [if_neg q2] at q ⊢
            refine m.fail0 fun h1 fr m1 => ?_
            simp only [if_true, m1.cO, m1.part c hi hj, m1.r161 hi hj]
            refine m1.givesBack c r hi hj fun h2 fr2 m2 => ?_
            have cb : zCnt (wBack σ i j) := c.of (wBack_N σ i j)
            have hib : i < sN (wBack σ i j) 0 0 := by rw [wBack_N]; exact hi
            have hjb : j < sN (wBack σ i j) 4 i := by rw [wBack_N]; exact hj
            refine m2.putI 7 i j ⟨hib, hjb⟩ (by decide) fun h3 fr3 m3 => ?_
            rw [m3.cO]
            refine m3.undoes cb hib (by omega) fun h4 mu4 fr4 m4 => ?_
            exact q.ok (fr.k (fr2.trans (fr3.trans fr4))) m4
        · rw [if_neg q1] at q ⊢; exact q.exR m rfl (by decide) (by decide)
theorem enc_eq {x : Option Nat} {k : Nat} (hx : ∀ q, x = some q → q < 2 ^ 31) (hk : k < 2 ^ 31) : (enc x = nI k) = (x = some k) := by
  cases x with
  | none =>
    refine propext ⟨fun e => ?_, fun e => by cases e⟩
    have := nI_m1 hk
    rw [← e] at this
    simp [enc] at this
  | some q =>
    show (nI q = nI k) = _
    rw [nI_e8 (hx q rfl) hk]
    simp
theorem M.give (m : M g B mu σ h) (c : zCnt σ) (r : zRef σ) {l p n : Int32} (q : mPost g B σ h 3 4 9 (spGive σ l p n) K) : f_X12_give g (some (B + 119)) l p n h K := by
  have c1 := c.1
  have c3 := c.2.1
  unfold spGive oPart oRow at q
  simp only [f_X12_give, f_X12_give_B18, f_X12_give_B63, f_X12_give_B68, m.cO, m.isPart c, m.isHeat c, if_true, e10, if_false]
  cases e : ix l (sN σ 0 0) with
  | none => rw [e] at q; exact q.exR m rfl (by decide) (by decide)
  | some i =>
    rw [e] at q
    obtain ⟨hi, rfl⟩ := ix_some (by omega) e
    have c2 := c.2.2.2.2 i
    dsimp only at q ⊢
    cases e2 : ix p (sN σ 4 i) with
    | none => rw [e2] at q; exact q.exR m rfl (by decide) (by decide)
    | some j =>
      rw [e2] at q
      obtain ⟨hj, rfl⟩ := ix_some (by omega) e2
      dsimp only at q ⊢
      cases e3 : ix n (sN σ 1 0) with
      | none => rw [e3] at q; exact q.exR m rfl (by decide) (by decide)
      | some k =>
        rw [e3] at q
        obtain ⟨hk, rfl⟩ := ix_some (by omega) e3
        dsimp only at q ⊢
        simp only [m.part c hi hj, m.r162 hi hj, m.r161 hi hj, m.a193, m.cs1, m.gH c hk, m.cH hk, m.r113 hk, m.cO, enc_eq (fun x z => Nat.lt_of_lt_of_le (r.1 i j x z) (by omega)) (show k < 2 ^ 31 by omega)]
        by_cases q1 : sR σ 0 i j = some k
        · rw [if_pos q1] at q ⊢; exact q.exR m rfl (by decide) (by decide)
        rw [if_neg q1] at q ⊢
        by_cases q2 : sV σ 7 i j ≤ sV σ 13 k 0
        · rw [if_pos q2] at q ⊢
          refine m.fail0 fun h1 fr m1 => ?_
          simp only [if_true, m1.cO, m1.part c hi hj]
          refine m1.givesBack c r hi hj fun h2 fr2 m2 => ?_
          have cb : zCnt (wBack σ i j) := c.of (wBack_N σ i j)
          have hib : i < sN (wBack σ i j) 0 0 := by rw [wBack_N]; exact hi
          have hjb : j < sN (wBack σ i j) 4 i := by rw [wBack_N]; exact hj
          have hkb : k < sN (wBack σ i j) 1 0 := by rw [wBack_N]; exact hk
          refine m2.putR 0 i j (by decide) ⟨hib, hjb⟩ (some k) rfl fun h3 fr3 m3 => ?_
          have c3' : zCnt (wR (wBack σ i j) 0 i j (some k)) := cb
          simp only [m3.a193, m3.cs1, m3.gH c3' hkb, m3.cH hkb, m3.r113 hkb, m3.r161 hib hjb]
          refine m3.putI 13 k 0 ⟨hkb, rfl⟩ (by decide) fun h4 fr4 m4 => ?_
          have m4' : M g B mu (wTake (wBack σ i j) i j k) h4 := m4
          have ct : zCnt (wTake (wBack σ i j) i j k) := cb
          rw [m4'.cO]
          refine m4'.undoes ct hib (by omega) fun h5 mu5 fr5 m5 => ?_
          have cu : zCnt (wUndo (wTake (wBack σ i j) i j k) i j) := by
            refine ct.of ?_
            unfold wUndo
            rw [sN_wV, spUndo_N]; rfl
          have hku : k < sN (wUndo (wTake (wBack σ i j) i j k) i j) 1 0 := by
            unfold wUndo
            rw [sN_wV, spUndo_N]; exact hkb
          simp only [m5.a193, m5.cs1, m5.gH cu hku, m5.cH hku, m5.r113 hku]
          exact q.ok (fr.k (fr2.trans (fr3.trans (fr4.trans fr5)))) m5
        · rw [if_neg q2] at q ⊢; exact q.exR m rfl (by decide) (by decide)
theorem M.cutOut (m : M g B mu σ h) (c : zCnt σ) (rp : zRep2 σ) {l p : Int32} (q : mPost g B σ h 3 4 9 (spCutOut σ l p) K) : f_X12_cutOut g (some (B + 119)) l p h K := by
  have c1 := c.1
  unfold spCutOut oJoint at q
  simp only [rp.le] at q
  simp only [f_X12_cutOut, f_X12_cutOut_B45, f_X12_cutOut_B46, m.cO, m.isJoint c, if_true, e10, if_false]
  cases e : ix l (sN σ 0 0) with
  | none => rw [e] at q; exact q.exR m rfl (by decide) (by decide)
  | some i =>
    rw [e] at q
    obtain ⟨hi, rfl⟩ := ix_some (by omega) e
    have c2 := c.2.2.2.2 i
    dsimp only at q ⊢
    cases e2 : ix p (sN σ 4 i - 1) with
    | none => rw [e2] at q; exact q.exR m rfl (by decide) (by decide)
    | some j =>
      rw [e2] at q
      obtain ⟨hj, rfl⟩ := ix_some (by omega) e2
      dsimp only at q ⊢
      simp only [m.cO, m.at c hi hj, m.r128 hi hj, m.r129 hi hj]
      by_cases q1 : sV σ 8 i j = 98
      · rw [if_pos q1] at q ⊢
        by_cases q3 : sV σ 9 i j = 2
        · rw [if_pos q3] at q ⊢
          refine m.fail0 fun h1 fr m1 => ?_
          simp only [if_true, m1.a192, m1.cs0, m1.gL c hi, m1.cL hi, m1.a146 hi]
          refine m1.newJoint c hi hj fun h2 mu2 v fr2 m2 => ?_
          have cw : zCnt (wRenew σ i j) := c
          simp only [m2.a192, m2.cs0, m2.gL cw hi, m2.cL hi, okZ_0]
          refine m2.putI 4 i 0 ⟨hi, rfl⟩ (by decide) fun h3 fr3 m3 => ?_
          simp only [m3.r198]
          refine m3.putO 2 (by decide) fun h4 fr4 m4 => ?_
          simp only [m4.r198]
          have e5 : sV (wV (wRenew σ i j) 4 i 0 0) 0 2 0 = sV σ 0 2 0 := by
            rw [sV_ne (by decide)]
            exact sV_wRenew (by omega) (by omega)
          rw [e5] at m4 ⊢
          have e6 : sV (wV (wV (wRenew σ i j) 4 i 0 0) 0 2 0 (sV σ 0 2 0 + 1)) 0 2 0 = sV σ 0 2 0 + 1 := by rw [sV_wV, if_pos ⟨rfl, rfl, rfl⟩]
          rw [e6]
          exact q.ok (fr.k (fr2.trans (fr3.trans fr4))) m4
        · rw [if_neg q3] at q ⊢; exact q.exR m rfl (by decide) (by decide)
      · rw [if_neg q1] at q ⊢; exact q.exR m rfl (by decide) (by decide)
end MSL
