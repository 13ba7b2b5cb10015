/-! a line's sums -/
def zfo {α : Type} (f : Nat → α → α) : Nat → Nat → α → α
  | 0, _, a => a
  | k + 1, i, a => zfo f k (i + 1) (f i a)
def zal (p : Nat → Bool) : Nat → Nat → Bool
  | 0, _ => true
  | k + 1, i => p i && zal p k (i + 1)
theorem yRT_0 (B q : Nat) : yRT B 0 q = yH B q := rfl
theorem yRT_1 (B q : Nat) : yRT B 1 q = yW B q := rfl
theorem yRT_2 (B q : Nat) : yRT B 2 q = yE B (q / 2) (q % 2) := rfl
/-- the indices of the references -/
def zRef (σ : zS) : Prop := (∀ l p q, sR σ 0 l p = some q → q < sN σ 1 0) ∧ (∀ l j q, sR σ 1 l j = some q → q < sN σ 2 0) ∧ (∀ l a q, sR σ 2 l a = some q → q < 2 * sN σ 0 0)
def spTotal (σ : zS) (l : Nat) : Int32 := zfo (fun p a => a + sV σ 7 l p) (sN σ 4 l) 0 0
/-- one part of a line goes into the spool that is being filled, or into the next -/
def spStep (σ : zS) (l : Nat) (p : Nat) (t : Int32 × Int32 × Int32) : Int32 × Int32 × Int32 :=
  if 12000 < t.2.1 + sV σ 7 l p ∨ ¬ t.2.2 + (if sV σ 6 l p = 101 then 1 else 0) ≤ 2 then (t.1 + 1, 0 + sV σ 7 l p, 0 + (if sV σ 6 l p = 101 then 1 else 0)) else (t.1, t.2.1 + sV σ 7 l p, t.2.2 + (if sV σ 6 l p = 101 then 1 else 0))
def spSpool (σ : zS) (l p : Nat) : Int32 := (zfo (spStep σ l) (p + 1) 0 (0, 0, 0)).1
def spSpools (σ : zS) (l : Nat) : Int32 := if sN σ 4 l = 0 then 0 else spSpool σ l (sN σ 4 l - 1) + 1
def spNotNew (σ : zS) (l : Nat) : Int32 := zfo (fun j a => a + if sV σ 8 l j = 110 then 0 else 1) (sN σ 4 l - 1) 0 0
def spLooked (σ : zS) (l : Nat) : Int32 := zfo (fun j a => a + if sV σ 8 l j = 103 ∨ sV σ 8 l j = 98 then 1 else 0) (sN σ 4 l - 1) 0 0
def spDue (σ : zS) (l : Nat) : Int32 :=
  let all := nI (sN σ 4 l - 1)
  let d := (all * sV σ 2 l 0 + 99) / 100 + 2 * sV σ 3 l 0
  let x := (if d < all then d else all) - spLooked σ l
  if 0 < x then x else 0
section YS
variable {B : Nat} {σ : zS} {h : AH} {g : Nat → Nat} {Xf : Nat → AH → Prop}
theorem Y.totalL (y : Y B σ h) {l : Nat} (hl : l < 4) {K : Int32 → AH → Prop} : ∀ (k i fuel : Nat) (acc : Int32), i + k = sN σ 4 l → sN σ 4 l ≤ 10 → k < fuel → f_X3_totalSize_L4 g K fuel (some (yL B l)) acc (nI i) h = K (zfo (fun p a => a + sV σ 7 l p) k i acc) h := by
  intro k
  induction k with
  | zero =>
    intro i fuel acc hi hn hf
    obtain ⟨m, rfl⟩ : ∃ m, fuel = m + 1 := ⟨fuel - 1, by omega⟩
    simp only [f_X3_totalSize_L4, f_X3_totalSize_L4b, y.r52 hl]
    rw [if_pos (nI_le (by omega) (by omega))]
    rfl
  | succ k ih =>
    intro i fuel acc hi hn hf
    obtain ⟨m, rfl⟩ : ∃ m, fuel = m + 1 := ⟨fuel - 1, by omega⟩
    have h10 : i < 10 := by omega
    simp only [f_X3_totalSize_L4, f_X3_totalSize_L4b, y.r52 hl, y.a48 hl, y.lP hl h10, y.r65 hl h10, nI_1]
    rw [if_neg (nI_ge (by omega) (by omega)), ih (i + 1) m _ (by omega) hn (by omega)]
    rfl
theorem Y.totalSize (y : Y B σ h) (c : zCnt σ) {l : Nat} (hl : l < 4) {K : Int32 → AH → Prop} : f_X3_totalSize g (some (yL B l)) h K = K (spTotal σ l) h := by
  have c2 := c.2.2.2.2 l
  unfold f_X3_totalSize
  rw [show (0 : Int32) = nI 0 from nI_0.symm]
  rw [y.totalL hl (sN σ 4 l) 0 12 (nI 0) (by omega) c2 (by omega), nI_0]
  rfl
theorem Y.spoolL (y : Y B σ h) {l p : Nat} (hl : l < 4) (hp : p < 10) {K : Int32 → AH → Prop} : ∀ (k i fuel : Nat) (t : Int32 × Int32 × Int32), i + k = p + 1 → k < fuel → f_X3_spoolWith_L10 g K fuel (some (yL B l)) (nI p) t.1 t.2.1 t.2.2 (nI i) h = K (zfo (spStep σ l) k i t).1 h := by
  intro k
  induction k with
  | zero =>
    intro i fuel t hi hf
    obtain ⟨m, rfl⟩ : ∃ m, fuel = m + 1 := ⟨fuel - 1, by omega⟩
    simp only [f_X3_spoolWith_L10, f_X3_spoolWith_L10b]
    rw [if_pos (nI_lt (by omega) (by omega))]
    rfl
  | succ k ih =>
    intro i fuel t hi hf
    obtain ⟨m, rfl⟩ : ∃ m, fuel = m + 1 := ⟨fuel - 1, by omega⟩
    have h10 : i < 10 := by omega
    simp only [f_X3_spoolWith_L10, f_X3_spoolWith_L10b, f_X3_spoolWith_B36, f_X3_spoolWith_B65, f_X3_spoolWith_B73, y.a48 hl, y.lP hl h10, y.r64 hl h10, y.r65 hl h10, nI_1]
    rw [if_neg (nI_nlt (by omega) (by omega))]
    have e1 := fun (t' : Int32 × Int32 × Int32) => ih (i + 1) m t' (by omega) (by omega)
    show _ = K (zfo (spStep σ l) k (i + 1) (spStep σ l i t)).1 h
    rw [← e1]
    unfold spStep
    by_cases q1 : sV σ 6 l i = 101
    · by_cases q2 : 12000 < t.2.1 + sV σ 7 l i
      · simp [q1, q2]
      · by_cases q3 : t.2.2 + 1 ≤ 2
        · simp [q1, q2, q3]
        · simp [q1, q2, q3]
    · by_cases q2 : 12000 < t.2.1 + sV σ 7 l i
      · simp [q1, q2]
      · by_cases q3 : t.2.2 ≤ 2
        · simp [q1, q2, q3, Int32.not_lt.mpr q3]
        · simp [q1, q2, q3, Int32.not_le.mp q3]
theorem Y.spoolWith (y : Y B σ h) {l p : Nat} (hl : l < 4) (hp : p < 10) {K : Int32 → AH → Prop} : f_X3_spoolWith g (some (yL B l)) (nI p) h K = K (spSpool σ l p) h := by
  unfold f_X3_spoolWith
  have e := y.spoolL (g := g) (K := K) hl hp (p + 1) 0 12 (0, 0, 0) (by omega) (by omega)
  rw [nI_0] at e
  exact e
theorem Y.spoolCount (y : Y B σ h) (c : zCnt σ) {l : Nat} (hl : l < 4) {K : Int32 → AH → Prop} : f_X3_spoolCount g (some (yL B l)) h K = K (spSpools σ l) h := by
  have c2 := c.2.2.2.2 l
  unfold f_X3_spoolCount spSpools
  simp only [y.r52 hl, y.cL hl]
  cases e : sN σ 4 l with
  | zero => rfl
  | succ n =>
    rw [if_neg (nI_ne0 (by omega) (by omega)), nI_pred, y.spoolWith hl (by omega), if_neg (by omega)]
    rfl
theorem Y.notNewL (y : Y B σ h) (c : zCnt σ) {l : Nat} (hl : l < 4) {K : Int32 → AH → Prop} : ∀ (k i fuel : Nat) (acc : Int32), i + k = sN σ 4 l - 1 → k < fuel → f_X3_countNotNew_L4 g K fuel (some (yL B l)) acc (nI i) h = K (zfo (fun j a => a + if sV σ 8 l j = 110 then 0 else 1) k i acc) h := by
  have c2 := c.2.2.2.2 l
  intro k
  induction k with
  | zero =>
    intro i fuel acc hi hf
    obtain ⟨m, rfl⟩ : ∃ m, fuel = m + 1 := ⟨fuel - 1, by omega⟩
    simp only [f_X3_countNotNew_L4, f_X3_countNotNew_L4b, y.cL hl, y.jointCount c hl]
    rw [if_pos (nI_le (by omega) (by omega))]
    rfl
  | succ k ih =>
    intro i fuel acc hi hf
    obtain ⟨m, rfl⟩ : ∃ m, fuel = m + 1 := ⟨fuel - 1, by omega⟩
    have h9 : i < 9 := by omega
    simp only [f_X3_countNotNew_L4, f_X3_countNotNew_L4b, f_X3_countNotNew_B32, y.cL hl, y.jointCount c hl, y.a49 hl, y.lJ hl h9, y.r32 hl h9, nI_1]
    rw [if_neg (nI_ge (by omega) (by omega))]
    show _ = K (zfo _ k (i + 1) (acc + if sV σ 8 l i = 110 then 0 else 1)) h
    rw [← ih (i + 1) m _ (by omega) (by omega)]
    by_cases q1 : sV σ 8 l i = 110
    · simp [q1]
    · simp [q1]
theorem Y.countNotNew (y : Y B σ h) (c : zCnt σ) {l : Nat} (hl : l < 4) {K : Int32 → AH → Prop} : f_X3_countNotNew g (some (yL B l)) h K = K (spNotNew σ l) h := by
  have c2 := c.2.2.2.2 l
  unfold f_X3_countNotNew
  have e := y.notNewL (g := g) (K := K) c hl (sN σ 4 l - 1) 0 12 0 (by omega) (by omega)
  rw [nI_0] at e
  exact e
theorem Y.isLookedAt (y : Y B σ h) {l j : Nat} (hl : l < 4) (hj : j < 9) {K : Int32 → AH → Prop} : f_X2_isLookedAt g (some (yJ B l j)) h K = K (if sV σ 8 l j = 103 ∨ sV σ 8 l j = 98 then 1 else 0) h := by
  simp only [f_X2_isLookedAt, f_X2_isLookedAt_B18, y.r32 hl hj, okZ_0, okZ_1]
  by_cases q1 : sV σ 8 l j = 103
  · simp [q1]
  · by_cases q2 : sV σ 8 l j = 98
    · simp [q2]
    · simp [q1, q2]
theorem Y.lookedL (y : Y B σ h) {l : Nat} (hl : l < 4) {n : Nat} (hn : n ≤ 9) {x2 : Int32} {K : Int32 → AH → Prop} : ∀ (k i fuel : Nat) (acc : Int32), i + k = n → k < fuel → f_X3_looksDue_L30 g K fuel (some (yL B l)) (nI n) x2 acc (nI i) h = K (let x := (if x2 < nI n then x2 else nI n) - zfo (fun j a => a + if sV σ 8 l j = 103 ∨ sV σ 8 l j = 98 then 1 else 0) k i acc; if 0 < x then x else 0) h := by
  intro k
  induction k with
  | zero =>
    intro i fuel acc hi hf
    obtain ⟨m, rfl⟩ : ∃ m, fuel = m + 1 := ⟨fuel - 1, by omega⟩
    simp only [f_X3_looksDue_L30, f_X3_looksDue_L30b]
    rw [if_pos (nI_le (by omega) (by omega))]
    rfl
  | succ k ih =>
    intro i fuel acc hi hf
    obtain ⟨m, rfl⟩ : ∃ m, fuel = m + 1 := ⟨fuel - 1, by omega⟩
    have h9 : i < 9 := by omega
    simp only [f_X3_looksDue_L30, f_X3_looksDue_L30b, f_X3_looksDue_B55, y.a49 hl, y.lJ hl h9, y.cJ hl h9, y.isLookedAt hl h9, nI_1]
    rw [if_neg (nI_ge (by omega) (by omega))]
    have e1 := ih (i + 1) m (acc + if sV σ 8 l i = 103 ∨ sV σ 8 l i = 98 then 1 else 0) (by omega) (by omega)
    refine Eq.trans ?_ e1
    by_cases q1 : sV σ 8 l i = 103 ∨ sV σ 8 l i = 98
    · simp [q1]
    · simp [q1]
theorem Y.looksDue (y : Y B σ h) (c : zCnt σ) {l : Nat} (hl : l < 4) {K : Int32 → AH → Prop} : f_X3_looksDue g (some (yL B l)) h K = K (spDue σ l) h := by
  have c2 := c.2.2.2.2 l
  have h100 : ¬ (100 : Int32) = 0 := by decide
  simp only [f_X3_looksDue, y.cL hl, y.jointCount c hl, y.r53 hl, y.r54 hl, h100, not_false_eq_true, true_and]
  have e := y.lookedL (g := g) (K := K) hl (n := sN σ 4 l - 1) (by omega) (x2 := (nI (sN σ 4 l - 1) * sV σ 2 l 0 + 99) / 100 + 2 * sV σ 3 l 0) (sN σ 4 l - 1) 0 12 0 (by omega) (by omega)
  rw [nI_0] at e
  exact e
end YS
