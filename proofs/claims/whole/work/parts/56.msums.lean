/-! the model's sums over iterators -/
section MU
variable {g : Nat → Nat} {B : Nat} {mu : zM} {σ : zS} {h0 h : AH} {K : Int64 → AH → Prop}
theorem M.sumI (m0 : M g B mu σ h0) (c : zCnt σ) {l o : Nat} (hl : l < sN σ 0 0) (ho : hN h0 ≤ o) {x3 : Option Nat} {rec19 : Option Nat → Int64 → Option Nat → AH → Prop} : ∀ (k i fuel : Nat) (acc : Int64) (h : AH), frN h0 h → IT h o (mu 5 2 l) i → i + k = sN σ 4 l - 1 → k < fuel → (∀ h', frN h0 h' → rec19 (some (B + 119)) (spSumJ σ l k i acc) x3 h') → f_X12_checksum_L51 g rec19 K fuel (some (B + 119)) acc x3 (some o) h := by
  intro k
  induction k with
  | zero =>
    intro i fuel acc h fr I hi hf q
    obtain ⟨n, rfl⟩ : ∃ n, fuel = n + 1 := ⟨fuel - 1, by omega⟩
    have m := m0.old fr.O
    have L := m.al c (a := 2) (b := l) hl
    simp only [f_X12_checksum_L51, f_X12_checksum_L51b, cast_eq I.1, I.hasNext L (show i ≤ qN (sN σ) 2 l by simp only [qN]; omega)]
    rw [if_pos (show i = qN (sN σ) 2 l by simp only [qN]; omega), if_pos rfl]
    exact q h fr
  | succ k ih =>
    intro i fuel acc h fr I hi hf q
    obtain ⟨n, rfl⟩ : ∃ n, fuel = n + 1 := ⟨fuel - 1, by omega⟩
    have m := m0.old fr.O
    have L := m.al c (a := 2) (b := l) hl
    have hi2 : i < sN σ 4 l - 1 := by omega
    simp only [f_X12_checksum_L51, f_X12_checksum_L51b, cast_eq I.1, I.hasNext L (show i ≤ qN (sN σ) 2 l by simp only [qN]; omega)]
    rw [if_neg (show ¬ i = qN (sN σ) 2 l by simp only [qN]; omega), if_neg (by decide)]
    refine IT.step fr ho I L hi2 fun h1 fr1 I1 => ?_
    have m1 := m0.old fr1.O
    simp only [show qE mu 2 l i = mu 2 l i from rfl, m1.cJ hl hi2, m1.r128 hl hi2]
    exact ih (i + 1) n _ h1 fr1 I1 (by omega) (by omega) q
theorem M.sumHl (m0 : M g B mu σ h0) (c : zCnt σ) {o : Nat} (ho : hN h0 ≤ o) : ∀ (k i fuel : Nat) (acc : Int64) (h : AH), frN h0 h → IT h o (mu 5 0 1) i → i + k = sN σ 1 0 → k < fuel → (∀ h', frN h0 h' → K ((31 : Int64) * ((31 : Int64) * spSumH σ k i acc + (sV σ 0 1 0).toInt64) + (sV σ 0 0 0).toInt64) h') → f_X12_checksum_L102 g K fuel (some (B + 119)) acc (some o) h := by
  intro k
  induction k with
  | zero =>
    intro i fuel acc h fr I hi hf q
    obtain ⟨n, rfl⟩ : ∃ n, fuel = n + 1 := ⟨fuel - 1, by omega⟩
    have m := m0.old fr.O
    have L := m.al c (a := 0) (b := 1) (show 1 < 4 by decide)
    simp only [f_X12_checksum_L102, f_X12_checksum_L102b, cast_eq I.1, I.hasNext L (show i ≤ qN (sN σ) 0 1 by simp only [qN]; omega), m.r197, m.r196]
    rw [if_pos (show i = qN (sN σ) 0 1 by simp only [qN]; omega), if_pos rfl]
    exact q h fr
  | succ k ih =>
    intro i fuel acc h fr I hi hf q
    obtain ⟨n, rfl⟩ : ∃ n, fuel = n + 1 := ⟨fuel - 1, by omega⟩
    have m := m0.old fr.O
    have L := m.al c (a := 0) (b := 1) (show 1 < 4 by decide)
    have hi2 : i < sN σ 1 0 := by omega
    simp only [f_X12_checksum_L102, f_X12_checksum_L102b, cast_eq I.1, I.hasNext L (show i ≤ qN (sN σ) 0 1 by simp only [qN]; omega)]
    rw [if_neg (show ¬ i = qN (sN σ) 0 1 by simp only [qN]; omega), if_neg (by decide)]
    refine IT.step fr ho I L hi2 fun h1 fr1 I1 => ?_
    have m1 := m0.old fr1.O
    simp only [show qE mu 0 1 i = mu 3 i 0 from rfl, m1.cH hi2, m1.r113 hi2]
    exact ih (i + 1) n _ h1 fr1 I1 (by omega) (by omega) q
theorem M.sumO (m0 : M g B mu σ h0) (c : zCnt σ) {o : Nat} (ho : hN h0 ≤ o) : ∀ (k i fuel : Nat) (acc : Int64) (h : AH), frN h0 h → IT h o (mu 5 0 0) i → i + k = sN σ 0 0 → k < fuel → (∀ h', frN h0 h' → K ((31 : Int64) * ((31 : Int64) * spSumH σ (sN σ 1 0) 0 (zfo (fun l a => spSumJ σ l (sN σ 4 l - 1) 0 a) k i acc) + (sV σ 0 1 0).toInt64) + (sV σ 0 0 0).toInt64) h') → f_X12_checksum_L19 g K fuel (some (B + 119)) acc (some o) h := by
  have c1 := c.2.1
  intro k
  induction k with
  | zero =>
    intro i fuel acc h fr I hi hf q
    obtain ⟨n, rfl⟩ : ∃ n, fuel = n + 1 := ⟨fuel - 1, by omega⟩
    have m := m0.old fr.O
    have L := m.al c (a := 0) (b := 0) (show 0 < 4 by decide)
    simp only [f_X12_checksum_L19, f_X12_checksum_L19b, cast_eq I.1, I.hasNext L (show i ≤ qN (sN σ) 0 0 by simp only [qN]; omega)]
    rw [if_pos (show i = qN (sN σ) 0 0 by simp only [qN]; omega), if_pos rfl]
    rw [m.a193, m.cs1]
    refine m.iter c (a := 0) (b := 1) (show 1 < 4 by decide) fun h1 o1 fr1 ho1 I1 => ?_
    exact m.sumHl c ho1 (sN σ 1 0) 0 12 acc h1 fr1 I1 (by omega) (by omega) fun h2 fr2 => q h2 (fr.trans fr2)
  | succ k ih =>
    intro i fuel acc h fr I hi hf q
    obtain ⟨n, rfl⟩ : ∃ n, fuel = n + 1 := ⟨fuel - 1, by omega⟩
    have m := m0.old fr.O
    have L := m.al c (a := 0) (b := 0) (show 0 < 4 by decide)
    have hi2 : i < sN σ 0 0 := by omega
    have c2 := c.2.2.2.2 i
    simp only [f_X12_checksum_L19, f_X12_checksum_L19b, cast_eq I.1, I.hasNext L (show i ≤ qN (sN σ) 0 0 by simp only [qN]; omega)]
    rw [if_neg (show ¬ i = qN (sN σ) 0 0 by simp only [qN]; omega), if_neg (by decide)]
    refine IT.step fr ho I L hi2 fun h1 fr1 I1 => ?_
    have m1 := m0.old fr1.O
    simp only [show qE mu 0 0 i = mu 0 i 0 from rfl, m1.cL hi2, m1.a146 hi2, m1.csJ hi2]
    refine m1.iter c (a := 2) (b := i) hi2 fun h2 o2 fr2 ho2 I2 => ?_
    refine m1.sumI c hi2 ho2 (sN σ 4 i - 1) 0 12 acc h2 fr2 I2 (by omega) (by omega) fun h3 fr3 => ?_
    exact ih (i + 1) n _ h3 (fr1.trans fr3) (I1.kept fr3) (by omega) (by omega) q
theorem M.checksum (m : M g B mu σ h) (c : zCnt σ) (k : ∀ h', frC B h h' → M g B mu σ h' → K (spSum σ) h') : f_X12_checksum g (some (B + 119)) h K := by
  have c1 := c.1
  unfold f_X12_checksum
  refine m.code fun h1 fr e1 m1 => ?_
  rw [m1.a192, m1.cs0]
  refine m1.iter c (a := 0) (b := 0) (show 0 < 4 by decide) fun h2 o fr2 ho I => ?_
  exact m1.sumO c ho (sN σ 0 0) 0 12 7 h2 fr2 I (by omega) (by omega) fun h3 fr3 => k h3 (frC.k ⟨fr, e1⟩ (fr3.O.K m1.hB)) (m1.old fr3.O)
end MU
section MV
variable {g : Nat → Nat} {B : Nat} {mu : zM} {σ : zS} {h0 h : AH}
theorem M.shareB (m : M g B mu σ h) (c : zCnt σ) (r : zRef σ) (fl : zFlag σ) (sh : zShare σ) {K : UInt32 → AH → Prop} {n : Int32} (p1 : n = 0 → ∀ h', frM B h h' → hI h' 199 (B + 119) = 1 → M g B mu σ h' → K 0 h') (p2 : ¬ n = 0 → ∀ h', frC B h h' → M g B mu σ h' → vf_n32 (FP.fdiv (FP.i2f (spMany σ 45)) (FP.i2f n)) ∧ K (FP.fdiv (FP.i2f (spMany σ 45)) (FP.i2f n)) h') : (if n = 0 then f_X12_doneShare_B56 g (some (B + 119)) n (some (B + 119)) 1 h K else f_X12_doneShare_B56 g (some (B + 119)) n (some (B + 119)) 0 h K) := by
  simp only [f_X12_doneShare_B56, m.cO]
  by_cases q : n = 0
  · rw [if_pos q]
    refine m.failE (by decide) fun h1 fr e1 m1 => ?_
    rw [if_neg (by decide)]
    exact p1 q h1 fr e1 m1
  · rw [if_neg q]
    refine m.fail0 fun h1 fr m1 => ?_
    rw [if_pos rfl, m1.cO]
    exact m1.manyK (K := fun v3 h4 => vf_n32 (FP.fdiv (FP.i2f v3) (FP.i2f n)) ∧ K (FP.fdiv (FP.i2f v3) (FP.i2f n)) h4) c r fl sh fun h2 fr2 => p2 q h2 (fr.k (fr2.K m1.hB)) (m1.old fr2)
theorem M.shareL (m0 : M g B mu σ h0) (c : zCnt σ) (r : zRef σ) (fl : zFlag σ) (sh : zShare σ) {o : Nat} (ho : hN h0 ≤ o) {K : UInt32 → AH → Prop} : ∀ (k i fuel : Nat) (acc : Int32) (h : AH), frN h0 h → IT h o (mu 5 0 0) i → i + k = sN σ 0 0 → k < fuel → (zfo (fun l a => a + nI (sN σ 4 l - 1)) k i acc = 0 → ∀ h', frM B h0 h' → hI h' 199 (B + 119) = 1 → M g B mu σ h' → K 0 h') → (¬ zfo (fun l a => a + nI (sN σ 4 l - 1)) k i acc = 0 → ∀ h', frC B h0 h' → M g B mu σ h' → vf_n32 (FP.fdiv (FP.i2f (spMany σ 45)) (FP.i2f (zfo (fun l a => a + nI (sN σ 4 l - 1)) k i acc))) ∧ K (FP.fdiv (FP.i2f (spMany σ 45)) (FP.i2f (zfo (fun l a => a + nI (sN σ 4 l - 1)) k i acc))) h') → f_X12_doneShare_L12 g K fuel (some (B + 119)) acc (some o) h := by
  intro k
  induction k with
  | zero =>
    intro i fuel acc h fr I hi hf q1 q2
    obtain ⟨n, rfl⟩ : ∃ n, fuel = n + 1 := ⟨fuel - 1, by omega⟩
    have m := m0.old fr.O
    have L := m.al c (a := 0) (b := 0) (show 0 < 4 by decide)
    simp only [f_X12_doneShare_L12, f_X12_doneShare_L12b, cast_eq I.1, I.hasNext L (show i ≤ qN (sN σ) 0 0 by simp only [qN]; omega)]
    rw [if_pos (show i = qN (sN σ) 0 0 by simp only [qN]; omega), if_pos rfl]
    exact m.shareB c r fl sh (fun z h' fr' => q1 z h' ((fr.O.M m0.hB).trans fr')) (fun z h' fr' => q2 z h' ⟨(fr.O.M m0.hB).trans fr'.1, fr'.2⟩)
  | succ k ih =>
    intro i fuel acc h fr I hi hf q1 q2
    obtain ⟨n, rfl⟩ : ∃ n, fuel = n + 1 := ⟨fuel - 1, by omega⟩
    have m := m0.old fr.O
    have L := m.al c (a := 0) (b := 0) (show 0 < 4 by decide)
    have hi2 : i < sN σ 0 0 := by omega
    simp only [f_X12_doneShare_L12, f_X12_doneShare_L12b, cast_eq I.1, I.hasNext L (show i ≤ qN (sN σ) 0 0 by simp only [qN]; omega)]
    rw [if_neg (show ¬ i = qN (sN σ) 0 0 by simp only [qN]; omega), if_neg (by decide)]
    refine IT.step fr ho I L hi2 fun h1 fr1 I1 => ?_
    have m1 := m0.old fr1.O
    simp only [show qE mu 0 0 i = mu 0 i 0 from rfl, m1.cL hi2, m1.a146 hi2, m1.csJ hi2, m1.sJ c hi2]
    exact ih (i + 1) n _ h1 fr1 I1 (by omega) (by omega) q1 q2
theorem M.doneShare (m : M g B mu σ h) (c : zCnt σ) (r : zRef σ) (fl : zFlag σ) (sh : zShare σ) {K : UInt32 → AH → Prop} (p1 : spJoints σ = 0 → ∀ h', frM B h h' → hI h' 199 (B + 119) = 1 → M g B mu σ h' → K 0 h') (p2 : ¬ spJoints σ = 0 → ∀ h', frC B h h' → M g B mu σ h' → vf_n32 (spDoneV σ) ∧ K (spDoneV σ) h') : f_X12_doneShare g (some (B + 119)) h K := by
  have c1 := c.1
  unfold f_X12_doneShare
  rw [m.a192, m.cs0]
  refine m.iter c (a := 0) (b := 0) (show 0 < 4 by decide) fun h2 o fr2 ho I => ?_
  exact m.shareL c r fl sh ho (sN σ 0 0) 0 12 0 h2 fr2 I (by omega) (by omega) p1 p2
theorem M.meanSpool (m : M g B mu σ h) (c : zCnt σ) {l : Int32} {K : UInt64 → AH → Prop} (p1 : ix l (sN σ 0 0) = none → ∀ h', frM B h h' → hI h' 199 (B + 119) = 1 → M g B mu σ h' → K 0 h') (p2 : ∀ i, ix l (sN σ 0 0) = some i → sN σ 4 i = 0 → ∀ h', frM B h h' → hI h' 199 (B + 119) = 2 → M g B mu σ h' → K 0 h') (p3 : ∀ i, ix l (sN σ 0 0) = some i → ¬ sN σ 4 i = 0 → ∀ h', frC B h h' → M g B mu σ h' → vf_n64 (spMeanV σ i) ∧ K (spMeanV σ i) h') : f_X12_meanSpool g (some (B + 119)) l h K := by
  have c1 := c.1
  simp only [f_X12_meanSpool, f_X12_meanSpool_B42, m.cO, m.isLine c, if_true, e10, if_false]
  cases e : ix l (sN σ 0 0) with
  | none =>
    refine m.failE (by decide) fun h1 fr e1 m1 => ?_
    rw [if_neg (by decide)]
    exact p1 e h1 fr e1 m1
  | some i =>
    have e' := e
    obtain ⟨hi, rfl⟩ := ix_some (by omega) e
    dsimp only
    simp only [m.a192, m.cs0, m.gL c hi, m.cL hi, m.a145 hi, m.csP hi, m.eP c hi, m.cO]
    by_cases q : sN σ 4 i = 0
    · rw [if_pos q, if_neg (by decide)]
      refine m.failE (by decide) fun h1 fr e1 m1 => ?_
      rw [if_neg (by decide)]
      exact p2 i e' q h1 fr e1 m1
    · rw [if_neg q, if_pos rfl]
      refine m.fail0 fun h1 fr m1 => ?_
      simp only [if_true, m1.a192, m1.cs0, m1.gL c hi, m1.cL hi]
      refine m1.length9 c hi fun h2 fr2 => ?_
      have m2 := m1.old fr2
      simp only [m2.a192, m2.cs0, m2.gL c hi, m2.cL hi, m2.spools9 c hi]
      exact p3 i e' q h2 (fr.k (fr2.K m1.hB)) m2
end MV
