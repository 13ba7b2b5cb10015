/-! WHAT ALWAYS HOLDS of the state -/
/-- who comes ahead of whom: masks of four bits, some order that all of them keep -/
def zGr (σ : zS) : Prop := ∃ m rk : Nat → Nat, ∀ l, l < sN σ 0 0 → sV σ 5 l 0 = nI (m l) ∧ m l < 2 ^ sN σ 0 0 ∧ ∀ i, i < 4 → (m l).testBit i = true → rk i < rk l
def sm (f : Nat → Nat) : Nat → Nat
  | 0 => 0
  | k + 1 => sm f k + f k
def zz (σ : zS) (l p : Nat) : Nat := (sV σ 7 l p).toNatClampNeg
def zc1 (σ : zS) (q l p : Nat) : Nat := if sR σ 0 l p = some q then zz σ l p else 0
/-- how much of a heat the parts have -/
def zG (σ : zS) (q : Nat) : Nat := sm (fun l => sm (zc1 σ q l) (sN σ 4 l)) (sN σ 0 0)
def zSt (σ : zS) : Prop := (∀ l p, l < sN σ 0 0 → p < sN σ 4 l → ∃ s, sV σ 7 l p = nI s ∧ s ≤ 6000) ∧ ∀ q, q < sN σ 1 0 → ∃ r f, sV σ 13 q 0 = nI r ∧ sV σ 12 q 0 = nI f ∧ f ≤ 20000 ∧ r + zG σ q = f
/-- a joint that is not new: steel of one alloy on both sides -/
def zJt (σ : zS) : Prop := ∀ l j, ¬ sV σ 8 l j = 110 → ∃ a b, sR σ 0 l j = some a ∧ sR σ 0 l (j + 1) = some b ∧ sV σ 11 a 0 = sV σ 11 b 0
/-- ends are joined one to one -/
def zMt (σ : zS) : Prop := ∀ l a k, sR σ 2 l a = some k → sR σ 2 (k / 2) (k % 2) = some (2 * l + a) ∧ ¬ k / 2 = l ∧ sV σ 10 l a = 0 ∧ a < 2
def Inv (σ : zS) : Prop := zCnt σ ∧ zRef σ ∧ zAlloy σ ∧ zFlag σ ∧ zShare σ ∧ zNew σ ∧ zRep2 σ ∧ zJw σ ∧ zGr σ ∧ zSt σ ∧ zJt σ ∧ zMt σ
section INV
variable {σ : zS}
theorem Inv.c (I : Inv σ) : zCnt σ := I.1
theorem Inv.r (I : Inv σ) : zRef σ := I.2.1
theorem Inv.al (I : Inv σ) : zAlloy σ := I.2.2.1
theorem Inv.fl (I : Inv σ) : zFlag σ := I.2.2.2.1
theorem Inv.sh (I : Inv σ) : zShare σ := I.2.2.2.2.1
theorem Inv.nw (I : Inv σ) : zNew σ := I.2.2.2.2.2.1
theorem Inv.rp (I : Inv σ) : zRep2 σ := I.2.2.2.2.2.2.1
theorem Inv.jw (I : Inv σ) : zJw σ := I.2.2.2.2.2.2.2.1
theorem Inv.gr (I : Inv σ) : zGr σ := I.2.2.2.2.2.2.2.2.1
theorem Inv.st (I : Inv σ) : zSt σ := I.2.2.2.2.2.2.2.2.2.1
theorem Inv.jt (I : Inv σ) : zJt σ := I.2.2.2.2.2.2.2.2.2.2.1
theorem Inv.mt (I : Inv σ) : zMt σ := I.2.2.2.2.2.2.2.2.2.2.2
end INV
/-! orders: masks of bits as numbers -/
def pc4 (x : Nat) : Nat := x % 2 + x / 2 % 2 + x / 4 % 2 + x / 8 % 2
theorem m_or : ∀ x, x < 16 → ∀ y, y < 16 → nI x ||| nI y = nI (x ||| y) := by decide +kernel
theorem m_hb : ∀ x, x < 16 → ∀ i, i < 4 → hb (nI x) (nI i) = x.testBit i := by decide +kernel
theorem m_lt : ∀ x, x < 16 → ∀ y, y < 16 → (x ||| y) < 16 := by decide +kernel
theorem m_pc : ∀ x, x < 16 → ∀ y, y < 16 → (x ||| y) = x ∨ pc4 x < pc4 (x ||| y) := by decide +kernel
theorem m_pcN : ∀ N, N < 5 → ∀ x, x < 2 ^ N → pc4 x ≤ N := by decide +kernel
theorem m_shl : ∀ i, i < 4 → (1 : Int32) <<< (nI i &&& 31) = nI (2 ^ i) := by decide +kernel
theorem m_sub : ∀ x, x < 16 → ∀ y, y < 16 → (nI x &&& (nI y ^^^ (-1)) = 0) = ((y ||| x) = y) := by decide +kernel
theorem m_bit : ∀ x, x < 16 → ∀ y, y < 16 → (∀ i, i < 4 → x.testBit i = true → y.testBit i = true) → (y ||| x) = y := by decide +kernel
theorem m_free : ∀ N, N < 5 → ∀ x, x < 2 ^ N → pc4 x < N → ∃ i, i < N ∧ x.testBit i = false := by decide +kernel
theorem m_add : ∀ x, x < 16 → ∀ i, i < 4 → x.testBit i = false → pc4 (x ||| 2 ^ i) = pc4 x + 1 := by decide +kernel
theorem m_pow : ∀ N, N < 5 → ∀ i, i < N → 2 ^ i < 2 ^ N := by decide +kernel
theorem m_16 {N x : Nat} (hN : N < 5) (hx : x < 2 ^ N) : x < 16 := Nat.lt_of_lt_of_le hx (Nat.pow_le_pow_right (by decide) (show N ≤ 4 by omega))
/-- one pass over the lines -/
def pP (m : Nat → Nat) : Nat → Nat → Nat → Nat := zfo (fun i b => if b.testBit i then b ||| m i else b)
theorem pP_lt {m : Nat → Nat} {N : Nat} (hm : ∀ l, l < N → m l < 2 ^ N) : ∀ (k i x : Nat), i + k ≤ N → x < 2 ^ N → pP m k i x < 2 ^ N := by
  intro k
  induction k with
  | zero => intro i x _ hx; exact hx
  | succ k ih =>
    intro i x hi hx
    refine ih (i + 1) _ (by omega) ?_
    dsimp only
    split
    · exact Nat.or_lt_two_pow hx (hm i (by omega))
    · exact hx
theorem pP_bit {m : Nat → Nat} : ∀ (k i x j : Nat), x.testBit j = true → (pP m k i x).testBit j = true := by
  intro k
  induction k with
  | zero => intro i x j h; exact h
  | succ k ih =>
    intro i x j h
    refine ih (i + 1) _ j ?_
    dsimp only
    split
    · rw [Nat.testBit_or, h]; rfl
    · exact h
theorem pP_pc {m : Nat → Nat} {N : Nat} (hN : N < 5) (hm : ∀ l, l < N → m l < 2 ^ N) : ∀ (k i x : Nat), i + k ≤ N → x < 2 ^ N → (pP m k i x = x ∧ ∀ j, i ≤ j → j < i + k → x.testBit j = true → (x ||| m j) = x) ∨ pc4 x < pc4 (pP m k i x) := by
  intro k
  induction k with
  | zero => intro i x _ _; exact Or.inl ⟨rfl, fun j h1 h2 => by omega⟩
  | succ k ih =>
    intro i x hi hx
    have e : pP m (k + 1) i x = pP m k (i + 1) (if x.testBit i then x ||| m i else x) := rfl
    rw [e]
    by_cases q : x.testBit i = true
    · rw [if_pos q]
      have hmi := hm i (by omega)
      have hx2 : (x ||| m i) < 2 ^ N := Nat.or_lt_two_pow hx hmi
      rcases m_pc x (m_16 hN hx) (m i) (m_16 hN hmi) with z | z
      · rw [z]
        rcases ih (i + 1) x (by omega) hx with ⟨w1, w2⟩ | w
        · refine Or.inl ⟨w1, fun j h1 h2 hj => ?_⟩
          by_cases q2 : j = i
          · rw [q2]; exact z
          · exact w2 j (by omega) (by omega) hj
        · exact Or.inr w
      · refine Or.inr ?_
        rcases ih (i + 1) (x ||| m i) (by omega) hx2 with ⟨w1, w2⟩ | w
        · rw [w1]; exact z
        · omega
    · rw [if_neg q]
      rcases ih (i + 1) x (by omega) hx with ⟨w1, w2⟩ | w
      · refine Or.inl ⟨w1, fun j h1 h2 hj => ?_⟩
        by_cases q2 : j = i
        · rw [q2] at hj; exact absurd hj q
        · exact w2 j (by omega) (by omega) hj
      · exact Or.inr w
def pQ (m : Nat → Nat) (N : Nat) (k x : Nat) : Nat := zfo (fun _ b => pP m N 0 b) k 0 x
theorem pQ_succ (m : Nat → Nat) (N k x : Nat) : pQ m N (k + 1) x = pP m N 0 (pQ m N k x) := by
  unfold pQ
  rw [zfo_snoc]
theorem pQ_lt {m : Nat → Nat} {N : Nat} (hm : ∀ l, l < N → m l < 2 ^ N) {x : Nat} (hx : x < 2 ^ N) : ∀ k, pQ m N k x < 2 ^ N := by
  intro k
  induction k with
  | zero => exact hx
  | succ k ih => rw [pQ_succ]; exact pP_lt hm N 0 _ (by omega) ih
theorem pQ_fix {m : Nat → Nat} {N : Nat} (hN : N < 5) (hm : ∀ l, l < N → m l < 2 ^ N) {x : Nat} (hx : x < 2 ^ N) : pP m N 0 (pQ m N N x) = pQ m N N x := by
  have go : ∀ k, k ≤ pc4 (pQ m N k x) ∨ pP m N 0 (pQ m N k x) = pQ m N k x := by
    intro k
    induction k with
    | zero => exact Or.inl (Nat.zero_le _)
    | succ k ih =>
      rw [pQ_succ]
      by_cases q : pP m N 0 (pQ m N k x) = pQ m N k x
      · rw [q]; exact Or.inr q
      · rcases ih with w | w
        · rcases pP_pc hN hm N 0 (pQ m N k x) (by omega) (pQ_lt hm hx k) with z | z
          · exact absurd z.1 q
          · exact Or.inl (by omega)
        · exact absurd w q
  rcases go N with w | w
  · rcases pP_pc hN hm N 0 (pQ m N N x) (by omega) (pQ_lt hm hx N) with z | z
    · exact z.1
    · have := m_pcN N hN _ (pP_lt hm N 0 _ (by omega) (pQ_lt hm hx N))
      omega
  · exact w
theorem pQ_more {m : Nat → Nat} {N : Nat} (hN : N < 5) (hm : ∀ l, l < N → m l < 2 ^ N) {x : Nat} (hx : x < 2 ^ N) : ∀ k, pQ m N (N + k) x = pQ m N N x := by
  intro k
  induction k with
  | zero => rfl
  | succ k ih => rw [show N + (k + 1) = N + k + 1 by omega, pQ_succ, ih, pQ_fix hN hm hx]
/-- what the passes find is closed -/
theorem pQ_closed {m : Nat → Nat} {N : Nat} (hN : N < 5) (hm : ∀ l, l < N → m l < 2 ^ N) {x : Nat} (hx : x < 2 ^ N) {j : Nat} (hj : j < N) (hb : (pQ m N N x).testBit j = true) : (pQ m N N x ||| m j) = pQ m N N x := by
  have f := pQ_fix hN hm hx
  rcases pP_pc hN hm N 0 (pQ m N N x) (by omega) (pQ_lt hm hx N) with z | z
  · exact z.2 j (by omega) (by omega) hb
  · rw [f] at z; omega
theorem pP_rk {m rk : Nat → Nat} {N R : Nat} (hm : ∀ l, l < N → m l < 2 ^ N ∧ ∀ i, i < 4 → (m l).testBit i = true → rk i < rk l) : ∀ (k i x : Nat), i + k ≤ N → (∀ j, j < 4 → x.testBit j = true → rk j < R) → N < 5 → ∀ j, j < 4 → (pP m k i x).testBit j = true → rk j < R := by
  intro k
  induction k with
  | zero => intro i x _ hx _ j hj h; exact hx j hj h
  | succ k ih =>
    intro i x hi hx hN j hj h
    refine ih (i + 1) (if x.testBit i then x ||| m i else x) (by omega) (fun j2 hj2 h2 => ?_) hN j hj h
    by_cases q : x.testBit i = true
    · rw [if_pos q, Nat.testBit_or, Bool.or_eq_true] at h2
      rcases h2 with w | w
      · exact hx j2 hj2 w
      · exact Nat.lt_trans ((hm i (by omega)).2 j2 hj2 w) (hx i (by omega) q)
    · rw [if_neg q] at h2
      exact hx j2 hj2 h2
theorem pQ_rk {m rk : Nat → Nat} {N R : Nat} (hN : N < 5) (hm : ∀ l, l < N → m l < 2 ^ N ∧ ∀ i, i < 4 → (m l).testBit i = true → rk i < rk l) {x : Nat} (hx : ∀ j, j < 4 → x.testBit j = true → rk j < R) : ∀ k, ∀ j, j < 4 → (pQ m N k x).testBit j = true → rk j < R := by
  intro k
  induction k with
  | zero => exact hx
  | succ k ih =>
    rw [pQ_succ]
    exact pP_rk hm N 0 _ (by omega) ih hN
theorem pQ_bit {m : Nat → Nat} {N x j : Nat} (h : x.testBit j = true) : ∀ k, (pQ m N k x).testBit j = true := by
  intro k
  induction k with
  | zero => exact h
  | succ k ih => rw [pQ_succ]; exact pP_bit N 0 _ j ih
section GRS
variable {σ : zS} {m rk : Nat → Nat}
theorem allP_m (hN : sN σ 0 0 < 5) (hm : ∀ l, l < sN σ 0 0 → sV σ 5 l 0 = nI (m l) ∧ m l < 2 ^ sN σ 0 0) : ∀ (k i x : Nat), i + k ≤ sN σ 0 0 → x < 2 ^ sN σ 0 0 → spAllP σ k i (nI x) = nI (pP m k i x) := by
  intro k
  induction k with
  | zero => intro i x _ _; rfl
  | succ k ih =>
    intro i x hi hx
    have hx16 := m_16 hN hx
    obtain ⟨e1, e2⟩ := hm i (by omega)
    show spAllP σ k (i + 1) (if hb (nI x) (nI i) then nI x ||| sV σ 5 i 0 else nI x) = nI (pP m k (i + 1) (if x.testBit i then x ||| m i else x))
    rw [m_hb x hx16 i (by omega), e1]
    by_cases q : x.testBit i = true
    · rw [if_pos q, if_pos q, m_or x hx16 (m i) (m_16 hN e2)]
      exact ih (i + 1) _ (by omega) (Nat.or_lt_two_pow hx e2)
    · rw [if_neg q, if_neg q]
      exact ih (i + 1) x (by omega) hx
theorem allQ_m (hN : sN σ 0 0 < 5) (hm : ∀ l, l < sN σ 0 0 → sV σ 5 l 0 = nI (m l) ∧ m l < 2 ^ sN σ 0 0) {x : Nat} (hx : x < 2 ^ sN σ 0 0) : ∀ k, zfo (fun _ b => spAllP σ (sN σ 0 0) 0 b) k 0 (nI x) = nI (pQ m (sN σ 0 0) k x) := by
  intro k
  induction k with
  | zero => rfl
  | succ k ih =>
    rw [zfo_snoc, ih, pQ_succ]
    exact allP_m hN hm _ 0 _ (by omega) (pQ_lt (fun l hl => (hm l hl).2) hx k)
theorem all_m (hN : sN σ 0 0 < 5) (hm : ∀ l, l < sN σ 0 0 → sV σ 5 l 0 = nI (m l) ∧ m l < 2 ^ sN σ 0 0) {l : Nat} (hl : l < sN σ 0 0) : spAll σ l = nI (pQ m (sN σ 0 0) (sN σ 0 0) (m l)) := by
  unfold spAll
  rw [(hm l hl).1]
  exact allQ_m hN hm (hm l hl).2 _
end GRS
theorem Inv.a4 {σ : zS} (I : Inv σ) : zAll4 σ := by
  intro l hl
  have hN : sN σ 0 0 < 5 := by have := I.c.1; omega
  obtain ⟨m, rk, h⟩ := I.gr
  have hm : ∀ l, l < sN σ 0 0 → sV σ 5 l 0 = nI (m l) ∧ m l < 2 ^ sN σ 0 0 := fun l hl => ⟨(h l hl).1, (h l hl).2.1⟩
  rw [all_m hN hm hl]
  unfold spAll4
  rw [(hm l hl).1, allQ_m hN hm (hm l hl).2]
  have := pQ_more hN (fun l hl => (hm l hl).2) (hm l hl).2 (4 - sN σ 0 0)
  rw [show sN σ 0 0 + (4 - sN σ 0 0) = 4 by omega] at this
  rw [this]
/-- nobody comes ahead of himself -/
theorem Inv.acyc {σ : zS} (I : Inv σ) {l : Nat} (hl : l < sN σ 0 0) : hb (spAll σ l) (nI l) = false := by
  have hN : sN σ 0 0 < 5 := by have := I.c.1; omega
  obtain ⟨m, rk, h⟩ := I.gr
  have hm : ∀ l, l < sN σ 0 0 → sV σ 5 l 0 = nI (m l) ∧ m l < 2 ^ sN σ 0 0 := fun l hl => ⟨(h l hl).1, (h l hl).2.1⟩
  rw [all_m hN hm hl, m_hb _ (m_16 hN (pQ_lt (fun l hl => (hm l hl).2) (hm l hl).2 _)) l (by omega)]
  rw [← Bool.not_eq_true]
  intro z
  have := pQ_rk (rk := rk) (R := rk l) hN (fun l hl => (h l hl).2) (h l hl).2.2 (sN σ 0 0) l (by omega) z
  omega
