/-! the model's longer questions -/
theorem IT.kept {h h' : AH} {o a c : Nat} (I : IT h o a c) (fr : frN h h') : IT h' o a c := by
  obtain ⟨i1, i2, i3, i4, i5, i6⟩ := I
  obtain ⟨f1, f2, f3, f4, f5, f6, f7, f8⟩ := fr
  exact ⟨(f2 o i6).trans i1, (f1 224 o i6).1.trans i2, (f1 227 o i6).2.trans i3, by rw [(f1 226 o i6).1, (f1 208 a (Nat.lt_trans i5 i6)).1]; exact i4, i5, Nat.lt_of_lt_of_le i6 f8⟩
section MS2
variable {g : Nat → Nat} {B : Nat} {mu : zM} {σ : zS} {h0 h : AH}
theorem M.spoolL (m : M g B mu σ h) (c : zCnt σ) {l p : Nat} (hl : l < sN σ 0 0) (hp : p < sN σ 4 l) {K : Int32 → AH → Prop} : ∀ (k i fuel : Nat) (t : Int32 × Int32 × Int32), (t.2.2 = 0 ∨ t.2.2 = 1 ∨ t.2.2 = 2) → i + k = p + 1 → k < fuel → f_X9_spool_L10 g K fuel (some (mu 0 l 0)) (nI p) t.1 t.2.1 t.2.2 (nI i) h = K (zfo (spStep σ l) k i t).1 h := by
  have c2 := c.2.2.2.2 l
  intro k
  induction k with
  | zero =>
    intro i fuel t ht hi hf
    obtain ⟨n, rfl⟩ : ∃ n, fuel = n + 1 := ⟨fuel - 1, by omega⟩
    simp only [f_X9_spool_L10, f_X9_spool_L10b, f_X9_spool_B147]
    rw [if_pos (nI_lt (by omega) (by omega))]
    rfl
  | succ k ih =>
    intro i fuel t ht hi hf
    obtain ⟨n, rfl⟩ : ∃ n, fuel = n + 1 := ⟨fuel - 1, by omega⟩
    have hi2 : i < sN σ 4 l := by omega
    simp only [f_X9_spool_L10, f_X9_spool_L10b, f_X9_spool_B75, f_X9_spool_B79, f_X9_spool_B80, f_X9_spool_B93, f_X9_spool_B105, f_X9_spool_B123, f_X9_spool_B138, f_X9_spool_B147, m.a145 hl, m.csP hl, m.sP c hl, m.gP c hl hi2, m.cP hl hi2, m.r161 hl hi2, m.r160 hl hi2, nI_1, if_true, e10, if_false]
    rw [if_neg (nI_nlt (by omega) (by omega)), if_neg (nI_ge hi2 (by omega))]
    show _ = K (zfo (spStep σ l) k (i + 1) (spStep σ l i t)).1 h
    have h2 : (spStep σ l i t).2.2 = 0 ∨ (spStep σ l i t).2.2 = 1 ∨ (spStep σ l i t).2.2 = 2 := by
      unfold spStep
      by_cases q1 : sV σ 6 l i = 101
      · by_cases q2 : 12000 < t.2.1 + sV σ 7 l i
        · simp [q1, q2]
        · rcases ht with z | z | z <;> rw [z] <;> simp [q1, q2] <;> decide
      · by_cases q2 : 12000 < t.2.1 + sV σ 7 l i
        · simp [q1, q2]
        · rcases ht with z | z | z <;> rw [z] <;> simp [q1, q2, z]
    rw [← ih (i + 1) n _ h2 (by omega) (by omega)]
    unfold spStep
    by_cases q1 : sV σ 6 l i = 101
    · by_cases q2 : 12000 < t.2.1 + sV σ 7 l i
      · simp [q1, q2]
      · rcases ht with z | z | z <;> rw [z] <;> simp [q1, q2] <;> rfl
    · by_cases q2 : 12000 < t.2.1 + sV σ 7 l i
      · simp [q1, q2]
      · rcases ht with z | z | z <;> rw [z] <;> simp [q1, q2] <;> rfl
theorem M.spool9 (m : M g B mu σ h) (c : zCnt σ) {l p : Nat} (hl : l < sN σ 0 0) (hp : p < sN σ 4 l) {K : Int32 → AH → Prop} : f_X9_spool g (some (mu 0 l 0)) (nI p) h K = K (spSpool σ l p) h := by
  have c2 := c.2.2.2.2 l
  unfold f_X9_spool
  have e := m.spoolL (g := g) (K := K) c hl hp (p + 1) 0 12 (0, 0, 0) (Or.inl rfl) (by omega) (by omega)
  rw [nI_0] at e
  exact e
theorem M.spools9 (m : M g B mu σ h) (c : zCnt σ) {l : Nat} (hl : l < sN σ 0 0) {K : Int32 → AH → Prop} : f_X9_spools g (some (mu 0 l 0)) h K = K (spSpools σ l) h := by
  have c2 := c.2.2.2.2 l
  unfold spSpools
  simp only [f_X9_spools, m.a145 hl, m.csP hl, m.eP c hl, m.sP c hl, m.cL hl]
  by_cases q : sN σ 4 l = 0
  · rw [if_pos q, if_pos q, if_neg (by decide)]
  · rw [if_neg q, if_neg q, if_pos rfl]
    obtain ⟨n, hn⟩ : ∃ n, sN σ 4 l = n + 1 := ⟨sN σ 4 l - 1, by omega⟩
    rw [hn, nI_pred, m.spool9 c hl (by omega)]
    rfl
end MS2
section MR2
variable {g : Nat → Nat} {B : Nat} {mu : zM} {σ : zS} {h0 h : AH} {K : Int32 → AH → Prop}
theorem M.length (m : M g B mu σ h) (c : zCnt σ) {l : Int32} (p : mPost g B σ h 3 9 9 (oRow σ 0 l fun i => (0, spTotal σ i, σ)) K) : f_X12_length g (some (B + 119)) l h K := by
  have c1 := c.1
  unfold oRow at p
  simp only [f_X12_length, f_X12_length_B14, m.cO, m.isLine c, if_true, e10, if_false]
  cases e : ix l (sN σ 0 0) with
  | none => rw [e] at p; exact p.exR m rfl (by decide) (by decide)
  | some i =>
    rw [e] at p
    obtain ⟨hi, rfl⟩ := ix_some (by omega) e
    refine m.fail0 fun h1 fr m1 => ?_
    simp only [if_true, m1.a192, m1.cs0, m1.gL c hi, m1.cL hi]
    exact m1.length9 c hi fun h2 fr2 => p.ok (fr.k (fr2.K m1.hB)) (m1.old fr2)
theorem M.spools (m : M g B mu σ h) (c : zCnt σ) {l : Int32} (p : mPost g B σ h 3 9 9 (oRow σ 0 l fun i => (0, spSpools σ i, σ)) K) : f_X12_spools g (some (B + 119)) l h K := by
  have c1 := c.1
  unfold oRow at p
  simp only [f_X12_spools, f_X12_spools_B14, m.cO, m.isLine c, if_true, e10, if_false]
  cases e : ix l (sN σ 0 0) with
  | none => rw [e] at p; exact p.exR m rfl (by decide) (by decide)
  | some i =>
    rw [e] at p
    obtain ⟨hi, rfl⟩ := ix_some (by omega) e
    refine m.fail0 fun h1 fr m1 => ?_
    simp only [if_true, m1.a192, m1.cs0, m1.gL c hi, m1.cL hi, m1.spools9 c hi]
    exact p.ok fr m1
theorem M.toLook (m : M g B mu σ h) (c : zCnt σ) (fl : zFlag σ) (sh : zShare σ) {l : Int32} (p : mPost g B σ h 3 9 9 (oRow σ 0 l fun i => (0, spDue σ i, σ)) K) : f_X12_toLook g (some (B + 119)) l h K := by
  have c1 := c.1
  unfold oRow at p
  simp only [f_X12_toLook, f_X12_toLook_B14, m.cO, m.isLine c, if_true, e10, if_false]
  cases e : ix l (sN σ 0 0) with
  | none => rw [e] at p; exact p.exR m rfl (by decide) (by decide)
  | some i =>
    rw [e] at p
    obtain ⟨hi, rfl⟩ := ix_some (by omega) e
    refine m.fail0 fun h1 fr m1 => ?_
    simp only [if_true, m1.a192, m1.cs0, m1.gL c hi, m1.cL hi]
    exact m1.toLook9 c fl sh hi fun h2 fr2 => p.ok (fr.k (fr2.K m1.hB)) (m1.old fr2)
theorem M.spoolOf (m : M g B mu σ h) (c : zCnt σ) {l p : Int32} (q : mPost g B σ h 3 9 9 (oPart σ l p fun i j => (0, spSpool σ i j, σ)) K) : f_X12_spoolOf g (some (B + 119)) l p h K := by
  have c1 := c.1
  unfold oPart at q
  simp only [f_X12_spoolOf, f_X12_spoolOf_B15, m.cO, m.isPart c, if_true, e10, if_false]
  cases e : ix l (sN σ 0 0) with
  | none => rw [e] at q; exact q.exR m rfl (by decide) (by decide)
  | some i =>
    rw [e] at q
    obtain ⟨hi, rfl⟩ := ix_some (by omega) e
    have c2 := c.2.2.2.2 i
    dsimp only at q ⊢
    cases e2 : ix p (sN σ 4 i) with
    | none => rw [e2] at q; exact q.exR m rfl (by decide) (by decide)
    | some j =>
      rw [e2] at q
      obtain ⟨hj, rfl⟩ := ix_some (by omega) e2
      dsimp only at q ⊢
      refine m.fail0 fun h1 fr m1 => ?_
      simp only [if_true, m1.a192, m1.cs0, m1.gL c hi, m1.cL hi, m1.spool9 c hi hj]
      exact q.ok fr m1
theorem M.isField (m : M g B mu σ h) (c : zCnt σ) {l p : Int32} (q : mPost g B σ h 3 9 9 (oJoint σ l p fun i j => (0, (if spSpool σ i j = spSpool σ i (j + 1) then 0 else 1), σ)) K) : f_X12_isField g (some (B + 119)) l p h K := by
  have c1 := c.1
  unfold oJoint at q
  simp only [f_X12_isField, f_X12_isField_B15, m.cO, m.isJoint c, if_true, e10, if_false, okZ_0, okZ_1]
  cases e : ix l (sN σ 0 0) with
  | none => rw [e] at q; exact q.exR m rfl (by decide) (by decide)
  | some i =>
    rw [e] at q
    obtain ⟨hi, rfl⟩ := ix_some (by omega) e
    have c2 := c.2.2.2.2 i
    dsimp only at q ⊢
    cases e2 : ix p (sN σ 4 i - 1) with
    | none => rw [e2] at q; exact q.exR m rfl (by decide) (by decide)
    | some j =>
      rw [e2] at q
      obtain ⟨hj, rfl⟩ := ix_some (by omega) e2
      dsimp only at q ⊢
      refine m.fail0 fun h1 fr m1 => ?_
      simp only [if_true, m1.a192, m1.cs0, m1.gL c hi, m1.cL hi, m1.spool9 c hi (show j < sN σ 4 i by omega), nI_1, m1.spool9 c hi (show j + 1 < sN σ 4 i by omega)]
      have z := q.ok fr m1
      by_cases q3 : spSpool σ i j = spSpool σ i (j + 1)
      · rw [if_pos q3] at z ⊢; exact z
      · rw [if_neg q3] at z ⊢; exact z
theorem M.lack (m : M g B mu σ h) (c : zCnt σ) (r : zRef σ) (fl : zFlag σ) (sh : zShare σ) {l p : Int32} (q : mPost g B σ h 3 9 9 (oJoint σ l p fun i j => (0, spLack σ i j, σ)) K) : f_X12_lack g (some (B + 119)) l p h K := by
  have c1 := c.1
  unfold oJoint at q
  simp only [f_X12_lack, f_X12_lack_B15, m.cO, m.isJoint c, if_true, e10, if_false, okC_32]
  cases e : ix l (sN σ 0 0) with
  | none => rw [e] at q; exact q.exR m rfl (by decide) (by decide)
  | some i =>
    rw [e] at q
    obtain ⟨hi, rfl⟩ := ix_some (by omega) e
    have c2 := c.2.2.2.2 i
    dsimp only at q ⊢
    cases e2 : ix p (sN σ 4 i - 1) with
    | none => rw [e2] at q; exact q.exR m rfl (by decide) (by decide)
    | some j =>
      rw [e2] at q
      obtain ⟨hj, rfl⟩ := ix_some (by omega) e2
      dsimp only at q ⊢
      refine m.fail0 fun h1 fr m1 => ?_
      simp only [if_true, m1.cO]
      refine m1.lackOf c r fl sh hi hj fun h2 fr2 => ?_
      rw [okC_lack]
      exact q.ok (fr.k (fr2.K m1.hB)) (m1.old fr2)
theorem M.manyI (m0 : M g B mu σ h0) (c : zCnt σ) (r : zRef σ) (fl : zFlag σ) (sh : zShare σ) {l : Nat} (hl : l < sN σ 0 0) {kind : Int32} {rec4 : Option Nat → Int32 → Int32 → Int32 → AH → Prop} : ∀ (k j fuel : Nat) (acc : Int32) (h : AH), frO h0 h → j + k = sN σ 4 l - 1 → k < fuel → (∀ h', frO h0 h' → rec4 (some (B + 119)) kind (spManyL σ kind l k j acc) (nI (l + 1)) h') → f_X12_many_L20 g rec4 K fuel (some (B + 119)) kind acc (nI l) (nI j) h := by
  have c2 := c.2.2.2.2 l
  intro k
  induction k with
  | zero =>
    intro j fuel acc h fr hi hf q
    obtain ⟨n, rfl⟩ : ∃ n, fuel = n + 1 := ⟨fuel - 1, by omega⟩
    have m := m0.old fr
    simp only [f_X12_many_L20, f_X12_many_L20b, m.a192, m.cs0, m.gL c hl, m.cL hl, m.a146 hl, m.csJ hl, m.sJ c hl, nI_1]
    rw [if_pos (nI_le (by omega) (by omega))]
    exact q h fr
  | succ k ih =>
    intro j fuel acc h fr hi hf q
    obtain ⟨n, rfl⟩ : ∃ n, fuel = n + 1 := ⟨fuel - 1, by omega⟩
    have m := m0.old fr
    have hj : j < sN σ 4 l - 1 := by omega
    simp only [f_X12_many_L20, f_X12_many_L20b, f_X12_many_B63, m.a192, m.cs0, m.gL c hl, m.cL hl, m.a146 hl, m.csJ hl, m.sJ c hl, nI_1, m.cO]
    rw [if_neg (nI_ge hj (by omega))]
    refine m.lackOf c r fl sh hl hj fun h1 fr1 => ?_
    have e := ih (j + 1) n (if spLack σ l j = kind then acc + 1 else acc) h1 (fr.trans fr1) (by omega) (by omega) q
    by_cases z : spLack σ l j = kind
    · rw [if_pos z] at e ⊢; exact e
    · rw [if_neg z] at e ⊢; rw [Int32.add_zero]; exact e
theorem M.manyO (m0 : M g B mu σ h0) (c : zCnt σ) (r : zRef σ) (fl : zFlag σ) (sh : zShare σ) {kind : Int32} : ∀ (k l fuel : Nat) (acc : Int32) (h : AH), frO h0 h → l + k = sN σ 0 0 → k < fuel → (∀ h', frO h0 h' → K (zfo (fun l a => spManyL σ kind l (sN σ 4 l - 1) 0 a) k l acc) h') → f_X12_many_L4 g K fuel (some (B + 119)) kind acc (nI l) h := by
  have c1 := c.1
  intro k
  induction k with
  | zero =>
    intro l fuel acc h fr hi hf q
    obtain ⟨n, rfl⟩ : ∃ n, fuel = n + 1 := ⟨fuel - 1, by omega⟩
    have m := m0.old fr
    simp only [f_X12_many_L4, f_X12_many_L4b, m.a192, m.cs0, m.s0 c]
    rw [if_pos (nI_le (by omega) (by omega))]
    exact q h fr
  | succ k ih =>
    intro l fuel acc h fr hi hf q
    obtain ⟨n, rfl⟩ : ∃ n, fuel = n + 1 := ⟨fuel - 1, by omega⟩
    have m := m0.old fr
    have hl : l < sN σ 0 0 := by omega
    have c2 := c.2.2.2.2 l
    simp only [f_X12_many_L4, f_X12_many_L4b, m.a192, m.cs0, m.s0 c]
    rw [if_neg (nI_ge hl (by omega))]
    have e := m.manyI (K := K) c r fl sh hl (kind := kind) (rec4 := fun x0 x1 x2 x3 h => f_X12_many_L4 g K n x0 x1 x2 x3 h) (sN σ 4 l - 1) 0 12 acc h frO.refl (by omega) (by omega) fun h2 fr2 => ih (l + 1) n _ h2 (fr.trans fr2) (by omega) (by omega) q
    rw [nI_0] at e
    exact e
theorem M.manyK (m : M g B mu σ h) (c : zCnt σ) (r : zRef σ) (fl : zFlag σ) (sh : zShare σ) {kind : Int32} (q : ∀ h', frO h h' → K (spMany σ kind) h') : f_X12_many g (some (B + 119)) kind h K := by
  have c1 := c.1
  unfold f_X12_many
  have e := m.manyO (K := K) c r fl sh (kind := kind) (sN σ 0 0) 0 12 0 h frO.refl (by omega) (by omega) q
  rw [nI_0] at e
  exact e
theorem lack_ix {k : Int32} (h0 : ¬ k < 0) : (0 ≤ sIdx [115, 112, 119, 98, 108, 116, 105] k) = (isLack k = true) := by
  obtain ⟨j, hj, rfl⟩ := nI_of h0
  by_cases q : j < 256
  · have : ∀ j, j < 256 → decide (0 ≤ sIdx [115, 112, 119, 98, 108, 116, 105] (nI j)) = isLack (nI j) := by decide +kernel
    rw [← this j q]
    simp
  · have e1 : (255 : Int32) < nI j := nI_lt (a := 255) (by omega) hj
    unfold sIdx
    rw [if_neg h0, if_pos e1]
    have ne : ∀ {v : Nat}, v < 256 → ¬ nI j = nI v := fun hv z => by rw [nI_eq hj (by omega)] at z; omega
    have n1 : ¬ nI j = 115 := ne (v := 115) (by decide)
    have n2 : ¬ nI j = 112 := ne (v := 112) (by decide)
    have n3 : ¬ nI j = 119 := ne (v := 119) (by decide)
    have n4 : ¬ nI j = 98 := ne (v := 98) (by decide)
    have n5 : ¬ nI j = 108 := ne (v := 108) (by decide)
    have n6 : ¬ nI j = 116 := ne (v := 116) (by decide)
    have n7 : ¬ nI j = 105 := ne (v := 105) (by decide)
    have e2 : isLack (nI j) = false := by unfold isLack; simp [n1, n2, n3, n4, n5, n6, n7]
    rw [e2]
    simp
theorem M.lacks (m : M g B mu σ h) (c : zCnt σ) (r : zRef σ) (fl : zFlag σ) (sh : zShare σ) {k : Int32} (h0 : ¬ k < 0) (p : mPost g B σ h 1 9 9 (if isLack k then (0, spMany σ k, σ) else (1, 0, σ)) K) : f_X12_lacks g (some (B + 119)) k h K := by
  have s := m.1.2.2.2.2.2.2.2.2.2.2.2.2.2
  simp only [f_X12_lacks, f_X12_lacks_B15, cast_eq s.1, s.indexOf (g := g) (by decide) (by decide), m.cO, lack_ix h0]
  by_cases q : isLack k = true
  · rw [if_pos q] at p ⊢
    refine m.fail0 fun h1 fr m1 => ?_
    rw [if_pos rfl, m1.cO]
    exact m1.manyK c r fl sh fun h2 fr2 => p.ok (fr.k (fr2.K m1.hB)) (m1.old fr2)
  · rw [if_neg q] at p ⊢
    exact p.exR m rfl (by decide) (by decide)
end MR2
