/-! the model's operations: what they come to -/
def cd3 (a b c e : Nat) : Int32 := if e = 0 then 0 else if e = a then 1 else if e = b then 2 else if e = c then 3 else 4
def frC (B : Nat) (h h' : AH) : Prop := frM B h h' ∧ hI h' 199 (B + 119) = 0
theorem frC.k {B : Nat} {h h1 h2 : AH} (p : frC B h h1) (q : frK B h1 h2) : frC B h h2 := ⟨p.1.trans q.1, q.2.trans p.2⟩
def mPost (g : Nat → Nat) (B : Nat) (σ : zS) (h : AH) (a b c : Nat) (o : zO) (K : Int32 → AH → Prop) : Prop :=
  ∀ h' mu' v, frM B h h' → hI h' 199 (B + 119) = cd3 a b c o.1 → M g B mu' o.2.2 h' → (o.1 = 0 → v = o.2.1) → K v h'
section MP
variable {g : Nat → Nat} {B : Nat} {mu : zM} {σ : zS} {h : AH} {a b c : Nat} {K : Int32 → AH → Prop}
theorem M.fail0 (m : M g B mu σ h) {K1 : Int32 → AH → Prop} (k : ∀ h', frC B h h' → M g B mu σ h' → K1 0 h') : f_X12_fails g (some (B + 119)) 0 h K1 := by
  unfold f_X12_fails
  refine m.code fun h1 fr e1 m1 => ?_
  rw [if_pos (by decide), okZ_0]
  exact k h1 ⟨fr, e1⟩ m1
theorem M.failE (m : M g B mu σ h) {w : Int32} (hw : ¬ w ≤ 0) {K1 : Int32 → AH → Prop} (k : ∀ h', frM B h h' → hI h' 199 (B + 119) = w → M g B mu σ h' → K1 1 h') : f_X12_fails g (some (B + 119)) w h K1 := by
  unfold f_X12_fails
  refine m.code fun h1 fr e1 m1 => ?_
  rw [if_neg hw, okZ_1]
  exact k h1 fr e1 m1
theorem mPost.exR {e : Nat} {v0 v : Int32} (p : mPost g B σ h a b c (e, v0, σ) K) (m : M g B mu σ h) {w : Int32} (hw : cd3 a b c e = w) (he : e ≠ 0) (hw0 : ¬ w ≤ 0) {X : AH → Prop} : f_X12_fails g (some (B + 119)) w h (fun v1 h2 => if v1 = 0 then X h2 else K v h2) := by
  refine m.failE hw0 fun h1 fr e1 m1 => ?_
  rw [if_neg (by decide)]
  exact p h1 mu v fr (e1.trans hw.symm) m1 (fun z => absurd z he)
theorem mPost.ok {v : Int32} {s : zS} {mu' : zM} {h' : AH} (p : mPost g B σ h a b c (0, v, s) K) (fr : frC B h h') (m' : M g B mu' s h') : K v h' := p h' mu' v fr.1 fr.2 m' (fun _ => rfl)
end MP
theorem nI_m1 {q : Nat} (hq : q < 2 ^ 31) : (nI q = -1) = False := by
  refine eq_false fun e => ?_
  have h1 : (-1 : Int32) < 0 := by decide
  rw [← e] at h1
  exact nI_pos hq h1
theorem okC_32 {P : Prop} : okC 32 P = P := okC_c (by decide)
theorem emm : ((-1 : Int32) = -1) = True := by simp
section MO
variable {g : Nat → Nat} {B : Nat} {mu : zM} {σ : zS} {h : AH} {K : Int32 → AH → Prop}
theorem M.left (m : M g B mu σ h) (c : zCnt σ) {l : Int32} (p : mPost g B σ h 3 9 9 (oRow σ 1 l fun i => (0, sV σ 13 i 0, σ)) K) : f_X12_left g (some (B + 119)) l h K := by
  have c1 := c.2.1
  unfold oRow at p
  simp only [f_X12_left, f_X12_left_B14, m.cO, m.isHeat c, if_true, e10, if_false]
  cases e : ix l (sN σ 1 0) with
  | none => rw [e] at p; exact p.exR m rfl (by decide) (by decide)
  | some i =>
    rw [e] at p
    obtain ⟨hi, rfl⟩ := ix_some (by omega) e
    refine m.fail0 fun h1 fr m1 => ?_
    simp only [if_true, m1.a193, m1.cs1, m1.gH c hi, m1.cH hi, m1.r113 hi]
    exact p.ok fr m1
theorem M.failed (m : M g B mu σ h) (c : zCnt σ) {l : Int32} (p : mPost g B σ h 3 9 9 (oRow σ 2 l fun i => (0, sV σ 16 i 0, σ)) K) : f_X12_failed g (some (B + 119)) l h K := by
  have c1 := c.2.2.1
  unfold oRow at p
  simp only [f_X12_failed, f_X12_failed_B14, m.cO, m.isWelder c, if_true, e10, if_false]
  cases e : ix l (sN σ 2 0) with
  | none => rw [e] at p; exact p.exR m rfl (by decide) (by decide)
  | some i =>
    rw [e] at p
    obtain ⟨hi, rfl⟩ := ix_some (by omega) e
    refine m.fail0 fun h1 fr m1 => ?_
    simp only [if_true, m1.a194, m1.cs2, m1.gW c hi, m1.cW hi, m1.r177 hi]
    exact p.ok fr m1
theorem M.isTested (m : M g B mu σ h) (c : zCnt σ) (fl : zFlag σ) {l : Int32} (p : mPost g B σ h 3 9 9 (oRow σ 0 l fun i => (0, sV σ 4 i 0, σ)) K) : f_X12_isTested g (some (B + 119)) l h K := by
  have c1 := c.1
  unfold oRow at p
  simp only [f_X12_isTested, f_X12_isTested_B14, m.cO, m.isLine c, if_true, e10, if_false, okZ_0, okZ_1]
  cases e : ix l (sN σ 0 0) with
  | none => rw [e] at p; exact p.exR m rfl (by decide) (by decide)
  | some i =>
    rw [e] at p
    obtain ⟨hi, rfl⟩ := ix_some (by omega) e
    refine m.fail0 fun h1 fr m1 => ?_
    simp only [if_true, m1.a192, m1.cs0, m1.gL c hi, m1.cL hi, m1.r151 hi]
    have q := p.ok fr m1
    rcases fl.1 i with z | z
    · rw [z] at q ⊢; rw [if_pos rfl]; exact q
    · rw [z] at q ⊢; rw [if_neg (by decide)]; exact q
theorem M.heatOf (m : M g B mu σ h) (c : zCnt σ) (r : zRef σ) {l p : Int32} (q : mPost g B σ h 3 5 9 (oPart σ l p fun i j => match sR σ 0 i j with | none => (5, 0, σ) | some q => (0, nI q, σ)) K) : f_X12_heatOf g (some (B + 119)) l p h K := by
  have c1 := c.1
  have c3 := c.2.1
  unfold oPart at q
  simp only [f_X12_heatOf, f_X12_heatOf_B32, m.cO, m.isPart c, if_true, e10, if_false]
  cases e : ix l (sN σ 0 0) with
  | none => rw [e] at q; exact q.exR m rfl (by decide) (by decide)
  | some i =>
    rw [e] at q
    obtain ⟨hi, rfl⟩ := ix_some (by omega) e
    have c2 := c.2.2.2.2 i
    dsimp only at q ⊢
    cases e2 : ix p (sN σ 4 i) with
    | none => rw [e2] at q; exact q.exR m rfl (by decide) (by decide)
    | some j =>
      rw [e2] at q
      obtain ⟨hj, rfl⟩ := ix_some (by omega) e2
      dsimp only at q ⊢
      simp only [m.part c hi hj, m.r162 hi hj, m.cO]
      cases e3 : sR σ 0 i j with
      | none =>
        rw [e3] at q
        simp only [enc, if_true]
        exact q.exR m rfl (by decide) (by decide)
      | some k =>
        rw [e3] at q
        have hk := r.1 i j k e3
        simp only [enc, nI_m1 (show k < 2 ^ 31 by omega), if_false]
        refine m.fail0 fun h1 fr m1 => ?_
        simp only [if_true, m1.cO, m1.part c hi hj, m1.r162 hi hj, e3, enc]
        exact q.ok fr m1
theorem M.welderOf (m : M g B mu σ h) (c : zCnt σ) (r : zRef σ) (jw : ∀ l j, sV σ 8 l j = 110 ↔ sR σ 1 l j = none) {l p : Int32} (q : mPost g B σ h 3 5 9 (oJoint σ l p fun i j => match sR σ 1 i j with | none => (5, 0, σ) | some q => (0, nI q, σ)) K) : f_X12_welderOf g (some (B + 119)) l p h K := by
  have c1 := c.1
  have c3 := c.2.2.1
  unfold oJoint at q
  simp only [f_X12_welderOf, f_X12_welderOf_B33, m.cO, m.isJoint c, if_true, e10, if_false]
  cases e : ix l (sN σ 0 0) with
  | none => rw [e] at q; exact q.exR m rfl (by decide) (by decide)
  | some i =>
    rw [e] at q
    obtain ⟨hi, rfl⟩ := ix_some (by omega) e
    have c2 := c.2.2.2.2 i
    dsimp only at q ⊢
    cases e2 : ix p (sN σ 4 i - 1) with
    | none => rw [e2] at q; exact q.exR m rfl (by decide) (by decide)
    | some j =>
      rw [e2] at q
      obtain ⟨hj, rfl⟩ := ix_some (by omega) e2
      dsimp only at q ⊢
      simp only [m.at c hi hj, m.r128 hi hj, m.cO]
      cases e3 : sR σ 1 i j with
      | none =>
        rw [e3] at q
        rw [if_pos ((jw i j).mpr e3)]
        exact q.exR m rfl (by decide) (by decide)
      | some k =>
        rw [e3] at q
        have hk := r.2.1 i j k e3
        rw [if_neg (fun z => by rw [(jw i j).mp z] at e3; cases e3)]
        refine m.fail0 fun h1 fr m1 => ?_
        simp only [if_true, m1.cO, m1.at c hi hj, m1.r130 hi hj, e3, enc]
        exact q.ok fr m1
theorem M.joint (m : M g B mu σ h) (c : zCnt σ) (fl : zFlag σ) {l p : Int32} (q : mPost g B σ h 3 9 9 (oJoint σ l p fun i j => (0, sV σ 8 i j, σ)) K) : f_X12_joint g (some (B + 119)) l p h K := by
  have c1 := c.1
  unfold oJoint at q
  simp only [f_X12_joint, f_X12_joint_B15, m.cO, m.isJoint c, if_true, e10, if_false, okC_32]
  cases e : ix l (sN σ 0 0) with
  | none => rw [e] at q; exact q.exR m rfl (by decide) (by decide)
  | some i =>
    rw [e] at q
    obtain ⟨hi, rfl⟩ := ix_some (by omega) e
    have c2 := c.2.2.2.2 i
    dsimp only at q ⊢
    cases e2 : ix p (sN σ 4 i - 1) with
    | none => rw [e2] at q; exact q.exR m rfl (by decide) (by decide)
    | some j =>
      rw [e2] at q
      obtain ⟨hj, rfl⟩ := ix_some (by omega) e2
      dsimp only at q ⊢
      refine m.fail0 fun h1 fr m1 => ?_
      simp only [if_true, m1.cO, m1.at c hi hj, m1.r128 hi hj, okC_s (fl.2.2.2 i j)]
      exact q.ok fr m1
theorem M.may (m : M g B mu σ h) (c : zCnt σ) (r : zRef σ) (al : zAlloy σ) {i j w : Nat} (hi : i < sN σ 0 0) (hj : j < sN σ 4 i - 1) (hw : w < sN σ 2 0) {K : Int32 → AH → Prop} : f_X12_may g (some (B + 119)) (nI i) (nI j) (nI w) h K = K (if spMay σ i j w then 1 else 0) h := by
  have hj0 : j < sN σ 4 i := by omega
  have hj1 : j + 1 < sN σ 4 i := by omega
  have c3 := c.2.1
  simp only [f_X12_may, m.cO, m.part c hi hj0, nI_1, m.part c hi hj1, m.r162 hi hj0, m.r162 hi hj1, okZ_0, okZ_1]
  unfold spMay
  cases e1 : sR σ 0 i j with
  | none => simp only [enc, if_true, Bool.false_eq_true, if_false]
  | some a =>
    have ha := r.1 i j a e1
    cases e2 : sR σ 0 i (j + 1) with
    | none => simp only [enc, nI_m1 (show a < 2 ^ 31 by omega), if_true, Bool.false_eq_true, if_false]
    | some b =>
      have hb8 := r.1 i (j + 1) b e2
      obtain ⟨k, hk, ek⟩ := al a ha
      simp only [enc, nI_m1 (show a < 2 ^ 31 by omega), nI_m1 (show b < 2 ^ 31 by omega), if_false, m.a193, m.cs1, m.gH c ha, m.cH ha, m.r112 ha, m.gH c hb8, m.cH hb8, m.r112 hb8, m.a194, m.cs2, m.gW c hw, m.cW hw, m.a176 hw, ek, m.lTk hw hk, m.r196, nI_clamp (show k < 2 ^ 31 by omega)]
      by_cases q1 : nI k = sV σ 11 b 0
      · by_cases q2 : sV σ 15 w k < sV σ 0 0 0
        · simp [q1, q2]
        · simp [q1, q2]
      · simp [q1]
theorem M.mayWeld (m : M g B mu σ h) (c : zCnt σ) (r : zRef σ) (al : zAlloy σ) {l p w : Int32} (q : mPost g B σ h 3 9 9 (oJoint σ l p fun i j => oRow σ 2 w fun k => (0, b2 (spMay σ i j k), σ)) K) : f_X12_mayWeld g (some (B + 119)) l p w h K := by
  have c1 := c.1
  have c3 := c.2.2.1
  unfold oJoint oRow at q
  simp only [f_X12_mayWeld, f_X12_mayWeld_B22, f_X12_mayWeld_B23, m.cO, m.isJoint c, if_true, e10, if_false, okZ_0, okZ_1]
  cases e : ix l (sN σ 0 0) with
  | none => rw [e] at q; exact q.exR m rfl (by decide) (by decide)
  | some i =>
    rw [e] at q
    obtain ⟨hi, rfl⟩ := ix_some (by omega) e
    have c2 := c.2.2.2.2 i
    dsimp only at q ⊢
    cases e2 : ix p (sN σ 4 i - 1) with
    | none => rw [e2] at q; exact q.exR m rfl (by decide) (by decide)
    | some j =>
      rw [e2] at q
      obtain ⟨hj, rfl⟩ := ix_some (by omega) e2
      dsimp only at q ⊢
      simp only [m.isWelder c, if_true, e10, if_false, m.cO]
      cases e3 : ix w (sN σ 2 0) with
      | none => rw [e3] at q; exact q.exR m rfl (by decide) (by decide)
      | some k =>
        rw [e3] at q
        obtain ⟨hk, rfl⟩ := ix_some (by omega) e3
        dsimp only at q ⊢
        refine m.fail0 fun h1 fr m1 => ?_
        simp only [if_true, m1.cO, m1.may c r al hi hj hk]
        have z := q.ok fr m1
        unfold b2 at z
        cases e4 : spMay σ i j k
        · rw [e4] at z; simpa using z
        · rw [e4] at z; simpa using z
theorem M.ticket (m : M g B mu σ h) (c : zCnt σ) {w a d : Int32} (p : mPost g B σ h 3 1 9 (spTicket σ w a d) K) : f_X12_ticket g (some (B + 119)) w a d h K := by
  have c1 := c.2.2.1
  unfold spTicket oRow at p
  simp only [f_X12_ticket, f_X12_ticket_B37, f_X12_ticket_B38, m.cO, m.isWelder c, if_true, e10, if_false, f_in]
  cases e : ix w (sN σ 2 0) with
  | none => rw [e] at p; exact p.exR m rfl (by decide) (by decide)
  | some k =>
    rw [e] at p
    dsimp only at p ⊢
    obtain ⟨hk, rfl⟩ := ix_some (by omega) e
    by_cases q0 : isAlloy a = true
    · rw [if_pos q0] at p
      have q1 : ¬ a < 0 := by intro z; simp [isAlloy, z] at q0
      have q2 : ¬ (3 : Int32) < a := by
        obtain ⟨j, hj, rfl⟩ := isAlloy_ix q0
        exact nI_nlt (a := 3) (b := j) (by omega) (by omega)
      rw [if_neg q1, if_neg q2, if_neg (by decide)]
      by_cases q3 : d < 0
      · rw [if_pos q3] at p
        simp only [if_pos q3, if_true]
        exact p.exR m rfl (by decide) (by decide)
      rw [if_neg q3] at p
      by_cases q4 : d ≤ 999
      · rw [if_pos q4] at p
        simp only [if_neg q3, if_neg (Int32.not_lt.mpr q4), e10, if_false]
        obtain ⟨j, hj, rfl⟩ := isAlloy_ix q0
        rw [nI_clamp (by omega)] at p
        refine m.fail0 fun h1 fr m1 => ?_
        simp only [if_true, m1.a194, m1.cs2, m1.gW c hk, m1.cW hk, m1.a176 hk, m1.lTk hk hj]
        exact m1.stTk hk hj fun h2 fr2 m2 => p.ok (fr.k fr2) m2
      · rw [if_neg q4] at p
        simp only [if_neg q3, if_pos (Int32.not_le.mp q4), if_true]
        exact p.exR m rfl (by decide) (by decide)
    · rw [if_neg q0] at p
      have q1 : a < 0 ∨ (3 : Int32) < a := by
        by_cases q1 : a < 0
        · exact Or.inl q1
        · refine Or.inr ?_
          obtain ⟨j, hj, rfl⟩ := nI_of q1
          unfold isAlloy at q0
          have q2 : (4 : Int32) ≤ nI j := by
            refine Classical.byContradiction fun z => q0 ?_
            simp [q1, z]
          rw [show (4 : Int32) = nI 4 from rfl, nI_leI (by decide) hj] at q2
          exact nI_lt (a := 3) (b := j) (by omega) hj
      rcases q1 with q1 | q1
      · simp only [if_pos q1, if_true]
        exact p.exR m rfl (by decide) (by decide)
      · by_cases q2 : a < 0
        · simp only [if_pos q2, if_true]
          exact p.exR m rfl (by decide) (by decide)
        · simp only [if_neg q2, if_pos q1, if_true]
          exact p.exR m rfl (by decide) (by decide)
theorem M.papers (m : M g B mu σ h) (c : zCnt σ) (fl : zFlag σ) {q v : Int32} (hv : v = 0 ∨ v = 1) (p : mPost g B σ h 3 9 9 (spPaper σ q v) K) : f_X12_papers g (some (B + 119)) q v h (fun v1 h2 => okZ v1 (K v1 h2)) := by
  have c1 := c.2.1
  unfold spPaper oRow at p
  simp only [f_X12_papers, f_X12_papers_B14, m.cO, m.isHeat c, if_true, e10, if_false, okZ_0]
  cases e : ix q (sN σ 1 0) with
  | none => rw [e] at p; exact p.exR m rfl (by decide) (by decide)
  | some k =>
    rw [e] at p
    dsimp only at p ⊢
    obtain ⟨hk, rfl⟩ := ix_some (by omega) e
    refine m.fail0 fun h1 fr m1 => ?_
    simp only [if_true, m1.a193, m1.cs1, m1.gH c hk, m1.cH hk, m1.r114 hk, okZ_f hv, okZ_f (fl.2.2.1 k)]
    exact m1.putI 14 k 0 ⟨hk, rfl⟩ (by decide) fun h2 fr2 m2 => p.ok (fr.k fr2) m2
theorem M.losePaper (m : M g B mu σ h) (c : zCnt σ) (fl : zFlag σ) {q : Int32} (p : mPost g B σ h 3 9 9 (spPaper σ q 0) K) : f_X12_losePaper g (some (B + 119)) q h K := by
  unfold f_X12_losePaper
  rw [m.cO]
  exact m.papers c fl (Or.inl rfl) p
theorem M.test (m : M g B mu σ h) (c : zCnt σ) (fl : zFlag σ) {q : Int32} (p : mPost g B σ h 3 9 9 (spPaper σ q 1) K) : f_X12_test g (some (B + 119)) q h K := by
  unfold f_X12_test
  rw [m.cO]
  exact m.papers c fl (Or.inr rfl) p
theorem M.pass (m : M g B mu σ h) {d : Int32} (p : mPost g B σ h 1 2 9 (spPass σ d) K) : f_X12_pass g (some (B + 119)) d h K := by
  unfold spPass at p
  simp only [f_X12_pass, f_X12_pass_B32, m.cO, f_in, m.r196]
  by_cases q1 : d < 1
  · rw [if_pos q1] at p
    simp only [if_pos q1, if_true]
    exact p.exR m rfl (by decide) (by decide)
  rw [if_neg q1] at p
  by_cases q2 : d ≤ 99
  · rw [if_pos q2] at p
    simp only [if_neg q1, if_neg (Int32.not_lt.mpr q2), e10, if_false]
    by_cases q3 : sV σ 0 0 0 + d ≤ 999
    · rw [if_pos q3] at p ⊢
      refine m.fail0 fun h1 fr m1 => ?_
      simp only [if_true, m1.r196]
      refine m1.putO 0 (by decide) fun h2 fr2 m2 => ?_
      simp only [m2.r196, sV_wV, and_self, if_true]
      exact p.ok (fr.k fr2) m2
    · rw [if_neg q3] at p ⊢
      exact p.exR m rfl (by decide) (by decide)
  · rw [if_neg q2] at p
    simp only [if_neg q1, if_pos (Int32.not_le.mp q2), if_true]
    exact p.exR m rfl (by decide) (by decide)
theorem eN_if {x : Int32} {P : Int32 → Prop} : (if x = 0 then P 0 else P 1) = P (nI (eN x)) := by
  unfold eN
  by_cases q : x = 0
  · rw [if_pos q, if_pos q]; rfl
  · rw [if_neg q, if_neg q]; rfl
theorem M.blind (m : M g B mu σ h) (c : zCnt σ) (r : zRef σ) (fl : zFlag σ) {l last is : Int32} (hv : is = 0 ∨ is = 1) (q : mPost g B σ h 3 4 9 (spBlind σ l last is) K) : f_X12_blind g (some (B + 119)) l last is h K := by
  have c1 := c.1
  unfold spBlind oRow at q
  unfold f_X12_blind
  rw [eN_if (P := fun z => f_X12_blind_B9 g (some (B + 119)) l is z h K)]
  have hE : eN last < 2 := eN_lt
  simp only [f_X12_blind_B9, f_X12_blind_B55, f_X12_blind_B56, m.cO, m.isLine c, if_true, e10, if_false, okZ_0]
  cases e : ix l (sN σ 0 0) with
  | none => rw [e] at q; exact q.exR m rfl (by decide) (by decide)
  | some i =>
    rw [e] at q
    obtain ⟨hi, rfl⟩ := ix_some (by omega) e
    dsimp only at q ⊢
    have step : mPost g B σ h 3 4 9 (0, sV σ 10 i (eN last), wV σ 10 i (eN last) is) K → f_X12_fails g (some (B + 119)) 0 h (fun v1 h2 => if v1 = 0 then (gA h2 (some (B + 119)) 12 192 fun v3 => cast h2 v3 14 (f_Jx4a65c_get_915e3 g v3 (nI i) h2 (fun v4 h5 => cast h5 v4 10 (gA h5 v4 9 148 fun v6 => lI h5 v6 1 (nI (eN last)) fun v7 => gA h5 (some (B + 119)) 12 192 fun v8 => cast h5 v8 14 (f_Jx4a65c_get_915e3 g v8 (nI i) h5 (fun v9 h10 => cast h10 v9 10 (gA h10 v9 9 148 fun v11 => okZ is (stI h10 v11 1 (nI (eN last)) is fun h12 => okZ v7 (K v7 h12))))))))) else (K 0 h2)) := by
      intro q
      refine m.fail0 fun h1 fr m1 => ?_
      simp only [if_true, m1.a192, m1.cs0, m1.gL c hi, m1.cL hi, m1.a148 hi, m1.lBl hi hE, okZ_f hv, okZ_f (fl.2.1 i (eN last))]
      exact m1.stBl hi hE fun h2 fr2 m2 => q.ok (fr.k fr2) m2
    by_cases q1 : is = 0
    · rw [if_pos q1] at q ⊢
      exact step q
    · rw [if_neg q1] at q ⊢
      simp only [m.a192, m.cs0, m.gL c hi, m.cL hi, m.a147 hi, m.lJn hi hE, m.cO]
      cases e3 : sR σ 2 i (eN last) with
      | none =>
        rw [e3] at q
        simp only [enc, if_true]
        exact step q
      | some k =>
        rw [e3] at q
        have hk := r.2.2 i (eN last) k e3
        simp only [enc, nI_m1 (show k < 2 ^ 31 by omega), if_false]
        exact q.exR m rfl (by decide) (by decide)
theorem M.undone (m : M g B mu σ h) (k : ∀ h', frC B h h' → M g B mu σ h' → K (sV σ 0 1 0) h') : f_X12_undone g (some (B + 119)) h K := by
  unfold f_X12_undone
  refine m.code fun h1 fr e1 m1 => ?_
  simp only [m1.r197]
  exact k h1 ⟨fr, e1⟩ m1
theorem M.isSound (m : M g B mu σ h) (k : ∀ h', frC B h h' → M g B mu σ h' → K 1 h') : f_X12_isSound g (some (B + 119)) h K := by
  unfold f_X12_isSound
  refine m.code fun h1 fr e1 m1 => ?_
  rw [okZ_1]
  exact k h1 ⟨fr, e1⟩ m1
theorem M.thrown (m : M g B mu σ h) : f_X12_thrown g (some (B + 119)) h K = K (hI h 199 (B + 119)) h := by
  unfold f_X12_thrown
  exact gI_eq m.1.2.2.2.2.2.1.1 rfl
end MO
