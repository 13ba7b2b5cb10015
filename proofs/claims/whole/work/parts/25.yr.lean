/-! the class's sums over lines -/
def spManyL (σ : zS) (kind : Int32) (l : Nat) : Nat → Nat → Int32 → Int32 := zfo (fun j a => if spLack σ l j = kind then a + 1 else a)
def spMany (σ : zS) (kind : Int32) : Int32 := zfo (fun l a => spManyL σ kind l (sN σ 4 l - 1) 0 a) (sN σ 0 0) 0 0
def spGivenL (σ : zS) (q l : Nat) : Nat → Nat → Int32 → Int32 := zfo (fun p a => a + if sR σ 0 l p = some q then sV σ 7 l p else 0)
def spGiven (σ : zS) (q : Nat) : Int32 := zfo (fun l a => spGivenL σ q l (sN σ 4 l) 0 a) (sN σ 0 0) 0 0
def spAllP (σ : zS) : Nat → Nat → Int32 → Int32 := zfo (fun i b => if hb b (nI i) then b ||| sV σ 5 i 0 else b)
def spAll (σ : zS) (l : Nat) : Int32 := zfo (fun _ b => spAllP σ (sN σ 0 0) 0 b) (sN σ 0 0) 0 (sV σ 5 l 0)
def spNextL (σ : zS) (over : Int32) : Nat → Nat → Int32
  | 0, _ => -1
  | k + 1, i => if hb over (nI i) = false ∧ sV σ 5 i 0 &&& (over ^^^ (-1)) = 0 then nI i else spNextL σ over k (i + 1)
def spNext (σ : zS) (over : Int32) : Int32 := spNextL σ over (sN σ 0 0) 0
def spSumJ (σ : zS) (l : Nat) : Nat → Nat → Int64 → Int64 := zfo (fun j a => (31 : Int64) * a + (sV σ 8 l j).toInt64)
def spSumH (σ : zS) : Nat → Nat → Int64 → Int64 := zfo (fun q a => (31 : Int64) * a + (sV σ 13 q 0).toInt64)
def spSum (σ : zS) : Int64 := (31 : Int64) * ((31 : Int64) * spSumH σ (sN σ 1 0) 0 (zfo (fun l a => spSumJ σ l (sN σ 4 l - 1) 0 a) (sN σ 0 0) 0 7) + (sV σ 0 1 0).toInt64) + (sV σ 0 0 0).toInt64
def spJoints (σ : zS) : Int32 := zfo (fun l a => a + nI (sN σ 4 l - 1)) (sN σ 0 0) 0 0
theorem mapH {B q : Nat} {x : Option Nat} : (x.map (yRT B 0) = some (yH B q)) = (x = some q) := by
  cases x with
  | none => simp
  | some a => simp [yRT_0, yH]
section YU
variable {B : Nat} {σ : zS} {h : AH} {g : Nat → Nat} {Xf : Nat → AH → Prop}
theorem Y.manyI (y : Y B σ h) (c : zCnt σ) (r : zRef σ) {l : Nat} (hl : l < 4) {kind : Int32} {K : Int32 → AH → Prop} {rec4 : Option Nat → Int32 → Int32 → Int32 → AH → Prop} : ∀ (k j fuel : Nat) (acc : Int32), j + k = sN σ 4 l - 1 → k < fuel → f_X6_countLacking_L15 g rec4 K fuel (some B) kind acc (nI l) (nI j) h = rec4 (some B) kind (spManyL σ kind l k j acc) (nI (l + 1)) h := by
  have c2 := c.2.2.2.2 l
  intro k
  induction k with
  | zero =>
    intro j fuel acc hi hf
    obtain ⟨m, rfl⟩ : ∃ m, fuel = m + 1 := ⟨fuel - 1, by omega⟩
    simp only [f_X6_countLacking_L15, f_X6_countLacking_L15b, y.a96, y.lL hl, y.cL hl, y.jointCount c hl, nI_1]
    rw [if_pos (nI_le (by omega) (by omega))]
    rfl
  | succ k ih =>
    intro j fuel acc hi hf
    obtain ⟨m, rfl⟩ : ∃ m, fuel = m + 1 := ⟨fuel - 1, by omega⟩
    have h9 : j < 9 := by omega
    simp only [f_X6_countLacking_L15, f_X6_countLacking_L15b, f_X6_countLacking_B47, y.a96, y.lL hl, y.cL hl, y.jointCount c hl, y.firstLack c r hl h9]
    rw [if_neg (nI_ge (by omega) (by omega))]
    show _ = rec4 (some B) kind (spManyL σ kind l k (j + 1) (if spLack σ l j = kind then acc + 1 else acc)) (nI (l + 1)) h
    rw [← ih (j + 1) m _ (by omega) (by omega), nI_1]
    by_cases q : spLack σ l j = kind
    · simp [q]
    · simp [q]
theorem Y.manyO (y : Y B σ h) (c : zCnt σ) (r : zRef σ) {kind : Int32} {K : Int32 → AH → Prop} : ∀ (k i fuel : Nat) (acc : Int32), i + k = sN σ 0 0 → k < fuel → f_X6_countLacking_L4 g K fuel (some B) kind acc (nI i) h = K (zfo (fun l a => spManyL σ kind l (sN σ 4 l - 1) 0 a) k i acc) h := by
  have c1 := c.1
  intro k
  induction k with
  | zero =>
    intro i fuel acc hi hf
    obtain ⟨m, rfl⟩ : ∃ m, fuel = m + 1 := ⟨fuel - 1, by omega⟩
    simp only [f_X6_countLacking_L4, f_X6_countLacking_L4b, y.r100]
    rw [if_pos (nI_le (by omega) (by omega))]
    rfl
  | succ k ih =>
    intro i fuel acc hi hf
    obtain ⟨m, rfl⟩ : ∃ m, fuel = m + 1 := ⟨fuel - 1, by omega⟩
    have h4 : i < 4 := by omega
    have c2 := c.2.2.2.2 i
    simp only [f_X6_countLacking_L4, f_X6_countLacking_L4b, y.r100]
    rw [if_neg (nI_ge (by omega) (by omega))]
    have e := y.manyI (g := g) (K := K) c r h4 (kind := kind) (rec4 := fun x0 x1 x2 x3 h => f_X6_countLacking_L4 g K m x0 x1 x2 x3 h) (sN σ 4 i - 1) 0 12 acc (by omega) (by omega)
    rw [nI_0] at e
    rw [e]
    exact ih (i + 1) m _ (by omega) (by omega)
theorem Y.countLacking (y : Y B σ h) (c : zCnt σ) (r : zRef σ) {kind : Int32} {K : Int32 → AH → Prop} : f_X6_countLacking g (some B) kind h K = K (spMany σ kind) h := by
  have c1 := c.1
  unfold f_X6_countLacking
  have e := y.manyO (g := g) (K := K) (kind := kind) c r (sN σ 0 0) 0 12 0 (by omega) (by omega)
  rw [nI_0] at e
  exact e
theorem Y.givenI (y : Y B σ h) (c : zCnt σ) {l q : Nat} (hl : l < 4) {K : Int32 → AH → Prop} {rec4 : Option Nat → Option Nat → Int32 → Int32 → AH → Prop} : ∀ (k j fuel : Nat) (acc : Int32), j + k = sN σ 4 l → k < fuel → f_X6_sizeGivenFrom_L15 g rec4 K fuel (some B) (some (yH B q)) acc (nI l) (nI j) h = rec4 (some B) (some (yH B q)) (spGivenL σ q l k j acc) (nI (l + 1)) h := by
  have c2 := c.2.2.2.2 l
  intro k
  induction k with
  | zero =>
    intro j fuel acc hi hf
    obtain ⟨m, rfl⟩ : ∃ m, fuel = m + 1 := ⟨fuel - 1, by omega⟩
    simp only [f_X6_sizeGivenFrom_L15, f_X6_sizeGivenFrom_L15b, y.a96, y.lL hl, y.r52 hl, nI_1]
    rw [if_pos (nI_le (by omega) (by omega))]
    rfl
  | succ k ih =>
    intro j fuel acc hi hf
    obtain ⟨m, rfl⟩ : ∃ m, fuel = m + 1 := ⟨fuel - 1, by omega⟩
    have h10 : j < 10 := by omega
    simp only [f_X6_sizeGivenFrom_L15, f_X6_sizeGivenFrom_L15b, f_X6_sizeGivenFrom_B62, y.a96, y.lL hl, y.r52 hl, y.a48 hl, y.lP hl h10, y.a66 hl h10, y.r65 hl h10, mapH]
    rw [if_neg (nI_ge (by omega) (by omega))]
    show _ = rec4 (some B) (some (yH B q)) (spGivenL σ q l k (j + 1) (acc + if sR σ 0 l j = some q then sV σ 7 l j else 0)) (nI (l + 1)) h
    rw [← ih (j + 1) m _ (by omega) (by omega), nI_1]
    by_cases q1 : sR σ 0 l j = some q
    · simp [q1]
    · simp [q1]
theorem Y.givenO (y : Y B σ h) (c : zCnt σ) {q : Nat} {K : Int32 → AH → Prop} : ∀ (k i fuel : Nat) (acc : Int32), i + k = sN σ 0 0 → k < fuel → f_X6_sizeGivenFrom_L4 g K fuel (some B) (some (yH B q)) acc (nI i) h = K (zfo (fun l a => spGivenL σ q l (sN σ 4 l) 0 a) k i acc) h := by
  have c1 := c.1
  intro k
  induction k with
  | zero =>
    intro i fuel acc hi hf
    obtain ⟨m, rfl⟩ : ∃ m, fuel = m + 1 := ⟨fuel - 1, by omega⟩
    simp only [f_X6_sizeGivenFrom_L4, f_X6_sizeGivenFrom_L4b, y.r100]
    rw [if_pos (nI_le (by omega) (by omega))]
    rfl
  | succ k ih =>
    intro i fuel acc hi hf
    obtain ⟨m, rfl⟩ : ∃ m, fuel = m + 1 := ⟨fuel - 1, by omega⟩
    have h4 : i < 4 := by omega
    have c2 := c.2.2.2.2 i
    simp only [f_X6_sizeGivenFrom_L4, f_X6_sizeGivenFrom_L4b, y.r100]
    rw [if_neg (nI_ge (by omega) (by omega))]
    have e := y.givenI (g := g) (K := K) c h4 (q := q) (rec4 := fun x0 x1 x2 x3 h => f_X6_sizeGivenFrom_L4 g K m x0 x1 x2 x3 h) (sN σ 4 i) 0 12 acc (by omega) (by omega)
    rw [nI_0] at e
    rw [e]
    exact ih (i + 1) m _ (by omega) (by omega)
theorem Y.sizeGivenFrom (y : Y B σ h) (c : zCnt σ) {q : Nat} {K : Int32 → AH → Prop} : f_X6_sizeGivenFrom g (some B) (some (yH B q)) h K = K (spGiven σ q) h := by
  have c1 := c.1
  unfold f_X6_sizeGivenFrom
  have e := y.givenO (g := g) (K := K) (q := q) c (sN σ 0 0) 0 12 0 (by omega) (by omega)
  rw [nI_0] at e
  exact e
theorem Y.allI (y : Y B σ h) (c : zCnt σ) {s : Nat} {K : Int32 → AH → Prop} {rec12 : Option Nat → Int32 → Int32 → AH → Prop} : ∀ (k i fuel : Nat) (b : Int32), i + k = sN σ 0 0 → k < fuel → f_X6_allAheadOf_L23 g rec12 K fuel (some B) b (nI s) (nI i) h = rec12 (some B) (spAllP σ k i b) (nI (s + 1)) h := by
  have c1 := c.1
  intro k
  induction k with
  | zero =>
    intro i fuel b hi hf
    obtain ⟨m, rfl⟩ : ∃ m, fuel = m + 1 := ⟨fuel - 1, by omega⟩
    simp only [f_X6_allAheadOf_L23, f_X6_allAheadOf_L23b, y.r100, nI_1]
    rw [if_pos (nI_le (by omega) (by omega))]
    rfl
  | succ k ih =>
    intro i fuel b hi hf
    obtain ⟨m, rfl⟩ : ∃ m, fuel = m + 1 := ⟨fuel - 1, by omega⟩
    have h4 : i < 4 := by omega
    simp only [f_X6_allAheadOf_L23, f_X6_allAheadOf_L23b, f_X6_allAheadOf_B54, y.r100, f_hasBit, y.a96, y.lL h4, y.r56 h4, if10]
    rw [if_neg (nI_ge (by omega) (by omega))]
    show _ = rec12 (some B) (spAllP σ k (i + 1) (if hb b (nI i) then b ||| sV σ 5 i 0 else b)) (nI (s + 1)) h
    rw [← ih (i + 1) m _ (by omega) (by omega), nI_1]
    by_cases q : hb b (nI i) = true
    · simp [q]
    · simp [q]
theorem Y.allO (y : Y B σ h) (c : zCnt σ) {K : Int32 → AH → Prop} : ∀ (k s fuel : Nat) (b : Int32), s + k = sN σ 0 0 → k < fuel → f_X6_allAheadOf_L12 g K fuel (some B) b (nI s) h = K (zfo (fun _ b => spAllP σ (sN σ 0 0) 0 b) k s b) h := by
  have c1 := c.1
  intro k
  induction k with
  | zero =>
    intro s fuel b hi hf
    obtain ⟨m, rfl⟩ : ∃ m, fuel = m + 1 := ⟨fuel - 1, by omega⟩
    simp only [f_X6_allAheadOf_L12, f_X6_allAheadOf_L12b, y.r100]
    rw [if_pos (nI_le (by omega) (by omega))]
    rfl
  | succ k ih =>
    intro s fuel b hi hf
    obtain ⟨m, rfl⟩ : ∃ m, fuel = m + 1 := ⟨fuel - 1, by omega⟩
    simp only [f_X6_allAheadOf_L12, f_X6_allAheadOf_L12b, y.r100]
    rw [if_neg (nI_ge (by omega) (by omega))]
    have e := y.allI (g := g) (K := K) c (s := s) (rec12 := fun x0 x2 x3 h => f_X6_allAheadOf_L12 g K m x0 x2 x3 h) (sN σ 0 0) 0 12 b (by omega) (by omega)
    rw [nI_0] at e
    rw [e]
    exact ih (s + 1) m _ (by omega) (by omega)
theorem Y.allAheadOf (y : Y B σ h) (c : zCnt σ) {l : Nat} (hl : l < 4) {K : Int32 → AH → Prop} : f_X6_allAheadOf g (some B) (nI l) h K = K (spAll σ l) h := by
  have c1 := c.1
  simp only [f_X6_allAheadOf, y.a96, y.lL hl, y.r56 hl]
  have e := y.allO (g := g) (K := K) c (sN σ 0 0) 0 12 (sV σ 5 l 0) (by omega) (by omega)
  rw [nI_0] at e
  exact e
theorem Y.nextL (y : Y B σ h) (c : zCnt σ) {over : Int32} {K : Int32 → AH → Prop} : ∀ (k i fuel : Nat), i + k = sN σ 0 0 → k < fuel → f_X6_nextOver_L2 g K fuel (some B) over (nI i) h = K (spNextL σ over k i) h := by
  have c1 := c.1
  intro k
  induction k with
  | zero =>
    intro i fuel hi hf
    obtain ⟨m, rfl⟩ : ∃ m, fuel = m + 1 := ⟨fuel - 1, by omega⟩
    simp only [f_X6_nextOver_L2, f_X6_nextOver_L2b, y.r100]
    rw [if_pos (nI_le (by omega) (by omega))]
    rfl
  | succ k ih =>
    intro i fuel hi hf
    obtain ⟨m, rfl⟩ : ∃ m, fuel = m + 1 := ⟨fuel - 1, by omega⟩
    have h4 : i < 4 := by omega
    simp only [f_X6_nextOver_L2, f_X6_nextOver_L2b, f_X6_nextOver_B36, y.r100, f_hasBit, y.a96, y.lL h4, y.r56 h4, if10, nI_1, spNextL]
    rw [if_neg (nI_ge (by omega) (by omega)), ih (i + 1) m (by omega) (by omega)]
    by_cases q : hb over (nI i) = true
    · simp [q]
    · have q' : hb over (nI i) = false := by simpa using q
      by_cases q2 : sV σ 5 i 0 &&& (over ^^^ (-1)) = 0
      · rw [if_pos q', if_pos q2, if_pos (And.intro q' q2)]
      · rw [if_pos q', if_neg q2, if_neg (fun z => q2 z.2)]
theorem Y.nextOver (y : Y B σ h) (c : zCnt σ) {over : Int32} {K : Int32 → AH → Prop} : f_X6_nextOver g (some B) over h K = K (spNext σ over) h := by
  have c1 := c.1
  unfold f_X6_nextOver
  have e := y.nextL (g := g) (K := K) c (over := over) (sN σ 0 0) 0 12 (by omega) (by omega)
  rw [nI_0] at e
  exact e
theorem Y.sumI (y : Y B σ h) (c : zCnt σ) {l : Nat} (hl : l < 4) {K : Int64 → AH → Prop} {rec6 : Option Nat → Int64 → Int32 → AH → Prop} : ∀ (k j fuel : Nat) (acc : Int64), j + k = sN σ 4 l - 1 → k < fuel → f_X6_checksum_L17 g rec6 K fuel (some B) acc (nI l) (nI j) h = rec6 (some B) (spSumJ σ l k j acc) (nI (l + 1)) h := by
  have c2 := c.2.2.2.2 l
  intro k
  induction k with
  | zero =>
    intro j fuel acc hi hf
    obtain ⟨m, rfl⟩ : ∃ m, fuel = m + 1 := ⟨fuel - 1, by omega⟩
    simp only [f_X6_checksum_L17, f_X6_checksum_L17b, y.a96, y.lL hl, y.cL hl, y.jointCount c hl, nI_1]
    rw [if_pos (nI_le (by omega) (by omega))]
    rfl
  | succ k ih =>
    intro j fuel acc hi hf
    obtain ⟨m, rfl⟩ : ∃ m, fuel = m + 1 := ⟨fuel - 1, by omega⟩
    have h9 : j < 9 := by omega
    simp only [f_X6_checksum_L17, f_X6_checksum_L17b, y.a96, y.lL hl, y.cL hl, y.jointCount c hl, y.a49 hl, y.lJ hl h9, y.r32 hl h9]
    rw [if_neg (nI_ge (by omega) (by omega)), nI_1 j]
    exact ih (j + 1) m _ (by omega) (by omega)
theorem Y.sumH (y : Y B σ h) (c : zCnt σ) {K : Int64 → AH → Prop} : ∀ (k i fuel : Nat) (acc : Int64), i + k = sN σ 1 0 → k < fuel → f_X6_checksum_L68 g K fuel (some B) acc (nI i) h = K ((31 : Int64) * ((31 : Int64) * spSumH σ k i acc + (sV σ 0 1 0).toInt64) + (sV σ 0 0 0).toInt64) h := by
  have c1 := c.2.1
  intro k
  induction k with
  | zero =>
    intro i fuel acc hi hf
    obtain ⟨m, rfl⟩ : ∃ m, fuel = m + 1 := ⟨fuel - 1, by omega⟩
    simp only [f_X6_checksum_L68, f_X6_checksum_L68b, y.r101, y.r105, y.r104]
    rw [if_pos (nI_le (by omega) (by omega))]
    rfl
  | succ k ih =>
    intro i fuel acc hi hf
    obtain ⟨m, rfl⟩ : ∃ m, fuel = m + 1 := ⟨fuel - 1, by omega⟩
    have h8 : i < 8 := by omega
    simp only [f_X6_checksum_L68, f_X6_checksum_L68b, y.r101, y.a97, y.lH h8, y.r19 h8, nI_1]
    rw [if_neg (nI_ge (by omega) (by omega)), ih (i + 1) m _ (by omega) (by omega)]
    rfl
theorem Y.sumO (y : Y B σ h) (c : zCnt σ) {K : Int64 → AH → Prop} : ∀ (k i fuel : Nat) (acc : Int64), i + k = sN σ 0 0 → k < fuel → f_X6_checksum_L6 g K fuel (some B) acc (nI i) h = K ((31 : Int64) * ((31 : Int64) * spSumH σ (sN σ 1 0) 0 (zfo (fun l a => spSumJ σ l (sN σ 4 l - 1) 0 a) k i acc) + (sV σ 0 1 0).toInt64) + (sV σ 0 0 0).toInt64) h := by
  have c1 := c.1
  have c3 := c.2.1
  intro k
  induction k with
  | zero =>
    intro i fuel acc hi hf
    obtain ⟨m, rfl⟩ : ∃ m, fuel = m + 1 := ⟨fuel - 1, by omega⟩
    simp only [f_X6_checksum_L6, f_X6_checksum_L6b, y.r100]
    rw [if_pos (nI_le (by omega) (by omega))]
    have e := y.sumH (g := g) (K := K) c (sN σ 1 0) 0 12 acc (by omega) (by omega)
    rw [nI_0] at e
    exact e
  | succ k ih =>
    intro i fuel acc hi hf
    obtain ⟨m, rfl⟩ : ∃ m, fuel = m + 1 := ⟨fuel - 1, by omega⟩
    have h4 : i < 4 := by omega
    have c2 := c.2.2.2.2 i
    simp only [f_X6_checksum_L6, f_X6_checksum_L6b, y.r100]
    rw [if_neg (nI_ge (by omega) (by omega))]
    have e := y.sumI (g := g) (K := K) c h4 (rec6 := fun x0 x1 x3 h => f_X6_checksum_L6 g K m x0 x1 x3 h) (sN σ 4 i - 1) 0 12 acc (by omega) (by omega)
    rw [nI_0] at e
    rw [e]
    exact ih (i + 1) m _ (by omega) (by omega)
theorem Y.checksum (y : Y B σ h) (c : zCnt σ) {K : Int64 → AH → Prop} : f_X6_checksum g (some B) h K = K (spSum σ) h := by
  have c1 := c.1
  unfold f_X6_checksum
  have e := y.sumO (g := g) (K := K) c (sN σ 0 0) 0 12 7 (by omega) (by omega)
  rw [nI_0] at e
  exact e
end YU
