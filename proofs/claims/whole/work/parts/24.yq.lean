/-! the class's longer questions -/
def hb (b l : Int32) : Bool := !decide (((b >>> (l &&& 31)) &&& 1) = 0)
theorem f_hasBit {g : Nat → Nat} {b l : Int32} {h : AH} {K : Int32 → AH → Prop} : f_X6_hasBit g b l h K = K (if hb b l then 1 else 0) h := by
  unfold f_X6_hasBit hb
  by_cases q : ((b >>> (l &&& 31)) &&& 1) = 0
  · simp [q, okZ_0]
  · simp [q, okZ_1]
theorem if10 {b : Bool} : ((if b = true then (1 : Int32) else 0) = 0) = (b = false) := by cases b <;> simp
theorem okC_c {v : Int32} {P : Prop} (hv : narrow .char (.int v) = .int v ∧ fits .char (.int v) = true) : okC v P = P := propext ⟨fun q => q.2, fun p => ⟨hv, p⟩⟩
theorem okC_115 {P : Prop} : okC 115 P = P := okC_c (by decide)
theorem okC_112 {P : Prop} : okC 112 P = P := okC_c (by decide)
theorem okC_119 {P : Prop} : okC 119 P = P := okC_c (by decide)
theorem okC_98 {P : Prop} : okC 98 P = P := okC_c (by decide)
theorem okC_108 {P : Prop} : okC 108 P = P := okC_c (by decide)
theorem okC_116 {P : Prop} : okC 116 P = P := okC_c (by decide)
theorem okC_105 {P : Prop} : okC 105 P = P := okC_c (by decide)
theorem okC_45 {P : Prop} : okC 45 P = P := okC_c (by decide)
theorem okC_110 {P : Prop} : okC 110 P = P := okC_c (by decide)
theorem okC_103 {P : Prop} : okC 103 P = P := okC_c (by decide)
def spLack (σ : zS) (l j : Nat) : Int32 :=
  match sR σ 0 l j, sR σ 0 l (j + 1) with
  | some a, some b => if sV σ 14 a 0 = 0 ∨ sV σ 14 b 0 = 0 then 112 else if sV σ 8 l j = 110 then 119 else if sV σ 8 l j = 98 then 98 else if spDue σ l ≤ 0 then (if sV σ 4 l 0 = 0 then 116 else if sV σ 10 l 0 = 0 ∧ sV σ 10 l 1 = 0 then 45 else 105) else 108
  | _, _ => 115
def spCan (σ : zS) (l : Nat) : Bool := zal (fun j => !decide (sV σ 8 l j = 110) && !decide (sV σ 8 l j = 98)) (sN σ 4 l - 1) 0 && decide (spDue σ l = 0)
def spDone (σ : zS) (l : Nat) : Bool := zal (fun j => decide (spLack σ l j = 45)) (sN σ 4 l - 1) 0 && decide (0 < sN σ 4 l - 1)
def spMay (σ : zS) (l j w : Nat) : Bool :=
  match sR σ 0 l j, sR σ 0 l (j + 1) with
  | some a, some b => decide (sV σ 11 a 0 = sV σ 11 b 0) && !decide (sV σ 15 w (sV σ 11 a 0).toNatClampNeg < sV σ 0 0 0)
  | _, _ => false
def spIsOpen (σ : zS) (l a : Nat) (bits : Int32) : Bool :=
  if sV σ 10 l a = 0 then (match sR σ 2 l a with | none => true | some m => !hb bits (nI (m / 2))) else false
def spOpen (σ : zS) (bits : Int32) : Int32 := zfo (fun l a => if hb bits (nI l) then (a + if spIsOpen σ l 0 bits then 1 else 0) + if spIsOpen σ l 1 bits then 1 else 0 else a) (sN σ 0 0) 0 0
def spTestable (σ : zS) (bits : Int32) : Bool := zal (fun l => !hb bits (nI l) || spCan σ l) (sN σ 0 0) 0 && decide (spOpen σ bits = 0)
/-- a heat's alloy is one -/
def zAlloy (σ : zS) : Prop := ∀ q, q < sN σ 1 0 → ∃ k, k < 4 ∧ sV σ 11 q 0 = nI k
section YT
variable {B : Nat} {σ : zS} {h : AH} {g : Nat → Nat} {Xf : Nat → AH → Prop}
theorem Y.hasPaper (y : Y B σ h) {l p q : Nat} (hl : l < 4) (hp : p < 10) (e : sR σ 0 l p = some q) (hq : q < 8) {K : Int32 → AH → Prop} : f_X4_hasPaper g (some (yP B l p)) h K = K (if sV σ 14 q 0 = 0 then 0 else 1) h := by
  simp only [f_X4_hasPaper, y.a66 hl hp, e, Option.map_some, yRT_0, nNull_some, y.r20 hq, okZ_0, okZ_1]
  by_cases q1 : sV σ 14 q 0 = 0
  · simp [q1]
  · simp [q1]
theorem Y.firstLack (y : Y B σ h) (c : zCnt σ) (r : zRef σ) {l j : Nat} (hl : l < 4) (hj : j < 9) {K : Int32 → AH → Prop} : f_X3_firstLack g (some (yL B l)) (nI j) h K = K (spLack σ l j) h := by
  have hj0 : j < 10 := by omega
  have hj1 : j + 1 < 10 := by omega
  have c1 := c.2.1
  simp only [f_X3_firstLack, f_X3_firstLack_B41, f_X3_firstLack_B58, f_X3_firstLack_B75, f_X3_firstLack_B130, y.a48 hl, y.a49 hl, y.lP hl hj0, nI_1, y.lP hl hj1, y.lJ hl hj, y.r32 hl hj, y.a66 hl hj0, y.a66 hl hj1, okC_115, okC_112, okC_119, okC_98, okC_108, okC_116, okC_105, okC_45]
  unfold spLack
  cases e1 : sR σ 0 l j with
  | none => rfl
  | some a =>
    cases e2 : sR σ 0 l (j + 1) with
    | none => rfl
    | some b =>
      have ha : a < 8 := by have := r.1 l j a e1; omega
      have hb8 : b < 8 := by have := r.1 l (j + 1) b e2; omega
      simp only [Option.map_some, nNull_some, y.cP hl hj0, y.cP hl hj1, y.hasPaper hl hj0 e1 ha, y.hasPaper hl hj1 e2 hb8, y.cL hl, y.looksDue c hl, y.r55 hl, y.a50 hl, y.a51 hl, y.r2 hl (show 0 < 2 by decide), y.r2 hl (show 1 < 2 by decide)]
      by_cases q1 : sV σ 14 a 0 = 0
      · simp [q1]
      · by_cases q2 : sV σ 14 b 0 = 0
        · simp [q1, q2]
        · by_cases q3 : sV σ 8 l j = 110
          · simp [q1, q2, q3]
          · by_cases q4 : sV σ 8 l j = 98
            · simp [q1, q2, q4]
            · by_cases q5 : spDue σ l ≤ 0
              · by_cases q6 : sV σ 4 l 0 = 0
                · simp [q1, q2, q3, q4, q5, q6]
                · by_cases q7 : sV σ 10 l 0 = 0
                  · by_cases q8 : sV σ 10 l 1 = 0
                    · simp [q1, q2, q3, q4, q5, q6, q7, q8]
                    · simp [q1, q2, q3, q4, q5, q6, q7, q8]
                  · simp [q1, q2, q3, q4, q5, q6, q7]
              · simp [q1, q2, q3, q4, q5]
theorem Y.canL (y : Y B σ h) (c : zCnt σ) {l : Nat} (hl : l < 4) {K : Int32 → AH → Prop} : ∀ (k i fuel : Nat), i + k = sN σ 4 l - 1 → k < fuel → f_X3_canBeTested_L2 g K fuel (some (yL B l)) (nI i) h = K (if (zal (fun j => !decide (sV σ 8 l j = 110) && !decide (sV σ 8 l j = 98)) k i && decide (spDue σ l = 0)) then 1 else 0) h := by
  have c2 := c.2.2.2.2 l
  intro k
  induction k with
  | zero =>
    intro i fuel hi hf
    obtain ⟨m, rfl⟩ : ∃ m, fuel = m + 1 := ⟨fuel - 1, by omega⟩
    simp only [f_X3_canBeTested_L2, f_X3_canBeTested_L2b, y.cL hl, y.jointCount c hl, y.looksDue c hl, okZ_0, okZ_1, zal]
    rw [if_pos (nI_le (by omega) (by omega))]
    by_cases q : spDue σ l = 0
    · simp [q]
    · simp [q]
  | succ k ih =>
    intro i fuel hi hf
    obtain ⟨m, rfl⟩ : ∃ m, fuel = m + 1 := ⟨fuel - 1, by omega⟩
    have h9 : i < 9 := by omega
    simp only [f_X3_canBeTested_L2, f_X3_canBeTested_L2b, y.cL hl, y.jointCount c hl, y.a49 hl, y.lJ hl h9, y.r32 hl h9, nI_1, okZ_0, zal]
    rw [if_neg (nI_ge (by omega) (by omega)), ih (i + 1) m (by omega) (by omega)]
    by_cases q1 : sV σ 8 l i = 110
    · simp [q1]
    · by_cases q2 : sV σ 8 l i = 98
      · simp [q2]
      · simp [q1, q2]
theorem Y.canBeTested (y : Y B σ h) (c : zCnt σ) {l : Nat} (hl : l < 4) {K : Int32 → AH → Prop} : f_X3_canBeTested g (some (yL B l)) h K = K (if spCan σ l then 1 else 0) h := by
  have c2 := c.2.2.2.2 l
  unfold f_X3_canBeTested
  have e := y.canL (g := g) (K := K) c hl (sN σ 4 l - 1) 0 12 (by omega) (by omega)
  rw [nI_0] at e
  exact e
theorem Y.doneL (y : Y B σ h) (c : zCnt σ) (r : zRef σ) {l : Nat} (hl : l < 4) {K : Int32 → AH → Prop} : ∀ (k i fuel : Nat), i + k = sN σ 4 l - 1 → k < fuel → f_X3_isComplete_L2 g K fuel (some (yL B l)) (nI i) h = K (if (zal (fun j => decide (spLack σ l j = 45)) k i && decide (0 < sN σ 4 l - 1)) then 1 else 0) h := by
  have c2 := c.2.2.2.2 l
  intro k
  induction k with
  | zero =>
    intro i fuel hi hf
    obtain ⟨m, rfl⟩ : ∃ m, fuel = m + 1 := ⟨fuel - 1, by omega⟩
    simp only [f_X3_isComplete_L2, f_X3_isComplete_L2b, y.cL hl, y.jointCount c hl, okZ_0, okZ_1, zal]
    rw [if_pos (nI_le (by omega) (by omega))]
    by_cases q : 0 < sN σ 4 l - 1
    · rw [if_neg (nI_nle q (by omega))]; simp [q]
    · have q0 : sN σ 4 l - 1 = 0 := by omega
      rw [q0, if_pos (by decide)]; simp
  | succ k ih =>
    intro i fuel hi hf
    obtain ⟨m, rfl⟩ : ∃ m, fuel = m + 1 := ⟨fuel - 1, by omega⟩
    have h9 : i < 9 := by omega
    simp only [f_X3_isComplete_L2, f_X3_isComplete_L2b, y.cL hl, y.jointCount c hl, y.firstLack c r hl h9, nI_1, okZ_0, zal]
    rw [if_neg (nI_ge (by omega) (by omega)), ih (i + 1) m (by omega) (by omega)]
    by_cases q1 : spLack σ l i = 45
    · simp [q1]
    · simp [q1]
theorem Y.isComplete (y : Y B σ h) (c : zCnt σ) (r : zRef σ) {l : Nat} (hl : l < 4) {K : Int32 → AH → Prop} : f_X3_isComplete g (some (yL B l)) h K = K (if spDone σ l then 1 else 0) h := by
  have c2 := c.2.2.2.2 l
  unfold f_X3_isComplete
  have e := y.doneL (g := g) (K := K) c r hl (sN σ 4 l - 1) 0 12 (by omega) (by omega)
  rw [nI_0] at e
  exact e
theorem Y.isAllowed (y : Y B σ h) (c : zCnt σ) (r : zRef σ) (al : zAlloy σ) {l j w : Nat} (hl : l < 4) (hj : j < 9) (hw : w < 5) {K : Int32 → AH → Prop} : f_X6_isAllowed g (some B) (some (yL B l)) (nI j) (some (yW B w)) h K = K (if spMay σ l j w then 1 else 0) h := by
  have hj0 : j < 10 := by omega
  have hj1 : j + 1 < 10 := by omega
  have c1 := c.2.1
  simp only [f_X6_isAllowed, y.a48 hl, y.lP hl hj0, nI_1, y.lP hl hj1, y.a66 hl hj0, y.a66 hl hj1, okZ_0, okZ_1]
  unfold spMay
  cases e1 : sR σ 0 l j with
  | none => simp [nNull_none]
  | some a =>
    cases e2 : sR σ 0 l (j + 1) with
    | none => simp [nNull_none, nNull_some]
    | some b =>
      have ha0 := r.1 l j a e1
      have ha : a < 8 := by omega
      have hb8 : b < 8 := by have := r.1 l (j + 1) b e2; omega
      obtain ⟨k, hk, ek⟩ := al a ha0
      simp only [Option.map_some, yRT_0, nNull_some, y.r17 ha, y.r17 hb8, y.r104, y.a81 hw, ek, y.lT hw hk, nI_clamp (show k < 2 ^ 31 by omega)]
      by_cases q1 : nI k = sV σ 11 b 0
      · by_cases q2 : sV σ 15 w k < sV σ 0 0 0
        · simp [q1, q2]
        · simp [q1, q2]
      · simp [q1]
theorem Y.isOpen (y : Y B σ h) (c : zCnt σ) (r : zRef σ) {l a : Nat} (hl : l < 4) (ha : a < 2) {bits : Int32} {K : Int32 → AH → Prop} : f_X6_isOpen g (some (yE B l a)) bits h K = K (if spIsOpen σ l a bits then 1 else 0) h := by
  have c1 := c.1
  simp only [f_X6_isOpen, f_X6_isOpen_B28, y.r2 hl ha, y.a1 hl ha, okZ_0, okZ_1, f_hasBit]
  unfold spIsOpen
  by_cases q1 : sV σ 10 l a = 0
  · cases e : sR σ 2 l a with
    | none => simp [q1, nNull_none]
    | some m =>
      have hm := r.2.2 l a m e
      have h1 : m / 2 < 4 := by omega
      have h2 : m % 2 < 2 := by omega
      simp only [q1, Option.map_some, yRT_2, nNull_some, y.r0 h1 h2, if10]
      cases hb bits (nI (m / 2)) <;> simp
  · simp [q1]
theorem Y.openL (y : Y B σ h) (c : zCnt σ) (r : zRef σ) {bits : Int32} {K : Int32 → AH → Prop} : ∀ (k i fuel : Nat) (acc : Int32), i + k = sN σ 0 0 → k < fuel → f_X6_countOpenEnds_L4 g K fuel (some B) bits acc (nI i) h = K (zfo (fun l a => if hb bits (nI l) then (a + if spIsOpen σ l 0 bits then 1 else 0) + if spIsOpen σ l 1 bits then 1 else 0 else a) k i acc) h := by
  have c1 := c.1
  intro k
  induction k with
  | zero =>
    intro i fuel acc hi hf
    obtain ⟨m, rfl⟩ : ∃ m, fuel = m + 1 := ⟨fuel - 1, by omega⟩
    simp only [f_X6_countOpenEnds_L4, f_X6_countOpenEnds_L4b, y.r100]
    rw [if_pos (nI_le (by omega) (by omega))]
    rfl
  | succ k ih =>
    intro i fuel acc hi hf
    obtain ⟨m, rfl⟩ : ∃ m, fuel = m + 1 := ⟨fuel - 1, by omega⟩
    have h4 : i < 4 := by omega
    simp only [f_X6_countOpenEnds_L4, f_X6_countOpenEnds_L4b, f_X6_countOpenEnds_B68, f_X6_countOpenEnds_B66, f_X6_countOpenEnds_B42, y.r100, f_hasBit, y.a96, y.lL h4, y.a50 h4, y.a51 h4, y.isOpen c r h4 (show 0 < 2 by decide), y.isOpen c r h4 (show 1 < 2 by decide), nI_1, if10]
    rw [if_neg (nI_ge (by omega) (by omega))]
    show _ = K (zfo _ k (i + 1) (if hb bits (nI i) then (acc + if spIsOpen σ i 0 bits then 1 else 0) + if spIsOpen σ i 1 bits then 1 else 0 else acc)) h
    rw [← ih (i + 1) m _ (by omega) (by omega)]
    cases hb bits (nI i) <;> cases spIsOpen σ i 0 bits <;> cases spIsOpen σ i 1 bits <;> simp
theorem Y.countOpenEnds (y : Y B σ h) (c : zCnt σ) (r : zRef σ) {bits : Int32} {K : Int32 → AH → Prop} : f_X6_countOpenEnds g (some B) bits h K = K (spOpen σ bits) h := by
  have c1 := c.1
  unfold f_X6_countOpenEnds
  have e := y.openL (g := g) (K := K) (bits := bits) c r (sN σ 0 0) 0 12 0 (by omega) (by omega)
  rw [nI_0] at e
  exact e
theorem Y.testL (y : Y B σ h) (c : zCnt σ) (r : zRef σ) {bits : Int32} {K : Int32 → AH → Prop} : ∀ (k i fuel : Nat), i + k = sN σ 0 0 → k < fuel → f_X6_isTestable_L2 g K fuel (some B) bits (nI i) h = K (if (zal (fun l => !hb bits (nI l) || spCan σ l) k i && decide (spOpen σ bits = 0)) then 1 else 0) h := by
  have c1 := c.1
  intro k
  induction k with
  | zero =>
    intro i fuel hi hf
    obtain ⟨m, rfl⟩ : ∃ m, fuel = m + 1 := ⟨fuel - 1, by omega⟩
    simp only [f_X6_isTestable_L2, f_X6_isTestable_L2b, y.r100, y.cB, y.countOpenEnds c r, okZ_0, okZ_1, zal]
    rw [if_pos (nI_le (by omega) (by omega))]
    by_cases q : spOpen σ bits = 0
    · simp [q]
    · simp [q]
  | succ k ih =>
    intro i fuel hi hf
    obtain ⟨m, rfl⟩ : ∃ m, fuel = m + 1 := ⟨fuel - 1, by omega⟩
    have h4 : i < 4 := by omega
    simp only [f_X6_isTestable_L2, f_X6_isTestable_L2b, f_X6_isTestable_B32, y.r100, f_hasBit, y.a96, y.lL h4, y.cL h4, y.canBeTested c h4, nI_1, okZ_0, zal, if10]
    rw [if_neg (nI_ge (by omega) (by omega)), ih (i + 1) m (by omega) (by omega)]
    by_cases q1 : hb bits (nI i) = true <;> by_cases q2 : spCan σ i = true <;> simp [q1, q2]
theorem Y.isTestable (y : Y B σ h) (c : zCnt σ) (r : zRef σ) {bits : Int32} {K : Int32 → AH → Prop} : f_X6_isTestable g (some B) bits h K = K (if spTestable σ bits then 1 else 0) h := by
  have c1 := c.1
  unfold f_X6_isTestable
  have e := y.testL (g := g) (K := K) (bits := bits) c r (sN σ 0 0) 0 12 (by omega) (by omega)
  rw [nI_0] at e
  exact e
end YT
