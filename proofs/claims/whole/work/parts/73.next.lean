/-! there always is a next line to turn over; orders stay orders -/
theorem minL {m rk : Nat → Nat} {N o : Nat} (hN : N < 5) (hm : ∀ l, l < N → m l < 2 ^ N ∧ ∀ i, i < 4 → (m l).testBit i = true → rk i < rk l) : ∀ (n l : Nat), rk l ≤ n → l < N → o.testBit l = false → ∃ j, j < N ∧ o.testBit j = false ∧ ∀ i, i < 4 → (m j).testBit i = true → o.testBit i = true := by
  intro n
  induction n with
  | zero =>
    intro l hr hl ho
    refine ⟨l, hl, ho, fun i hi hb => ?_⟩
    have := (hm l hl).2 i hi hb
    omega
  | succ n ih =>
    intro l hr hl ho
    by_cases q : ∀ i, i < 4 → (m l).testBit i = true → o.testBit i = true
    · exact ⟨l, hl, ho, q⟩
    · obtain ⟨i, hi⟩ := Classical.not_forall.mp q
      obtain ⟨h4, hi2⟩ := Classical.not_imp.mp hi
      obtain ⟨hb, ho2⟩ := Classical.not_imp.mp hi2
      have r := (hm l hl).2 i h4 hb
      have hiN : i < N := by
        refine Classical.byContradiction fun z => ?_
        have h1 := (hm l hl).1
        have : (m l).testBit i = false := Nat.testBit_lt_two_pow (Nat.lt_of_lt_of_le h1 (Nat.pow_le_pow_right (by decide) (by omega)))
        rw [this] at hb
        cases hb
      exact ih i (by omega) hiN (by rw [← Bool.not_eq_true]; exact ho2)
theorem nextL_ok {σ : zS} {m : Nat → Nat} {o : Nat} (hN : sN σ 0 0 < 5) (hm : ∀ l, l < sN σ 0 0 → sV σ 5 l 0 = nI (m l) ∧ m l < 2 ^ sN σ 0 0) (ho : o < 2 ^ sN σ 0 0) : ∀ (k i j : Nat), i + k = sN σ 0 0 → i ≤ j → j < sN σ 0 0 → o.testBit j = false → (∀ x, x < 4 → (m j).testBit x = true → o.testBit x = true) → ∃ r, r < sN σ 0 0 ∧ o.testBit r = false ∧ spNextL σ (nI o) k i = nI r := by
  intro k
  induction k with
  | zero => intro i j h1 h2 h3; omega
  | succ k ih =>
    intro i j h1 h2 h3 h4 h5
    have o16 := m_16 hN ho
    obtain ⟨e1, e2⟩ := hm i (by omega)
    have e : spNextL σ (nI o) (k + 1) i = if hb (nI o) (nI i) = false ∧ sV σ 5 i 0 &&& (nI o ^^^ (-1)) = 0 then nI i else spNextL σ (nI o) k (i + 1) := rfl
    have ms := m_sub (m i) (m_16 hN e2) o o16
    rw [e, m_hb o o16 i (by omega), e1]
    by_cases q : o.testBit i = false ∧ (nI (m i) &&& (nI o ^^^ (-1))) = 0
    · rw [if_pos q]
      exact ⟨i, by omega, q.1, rfl⟩
    · rw [if_neg q]
      have hne : j ≠ i := by
        intro z
        subst z
        exact q ⟨h4, by rw [ms]; exact m_bit (m j) (m_16 hN e2) o o16 h5⟩
      exact ih (i + 1) j (by omega) (by omega) h3 h4 h5
theorem Inv.nx {σ : zS} (I : Inv σ) : zNext σ := by
  have hN : sN σ 0 0 < 5 := by have := I.c.1; omega
  obtain ⟨m, rk, h⟩ := I.gr
  have hm : ∀ l, l < sN σ 0 0 → sV σ 5 l 0 = nI (m l) ∧ m l < 2 ^ sN σ 0 0 := fun l hl => ⟨(h l hl).1, (h l hl).2.1⟩
  have one : ∀ o, o < 2 ^ sN σ 0 0 → pc4 o < sN σ 0 0 → ∃ r, r < sN σ 0 0 ∧ o.testBit r = false ∧ spNext σ (nI o) = nI r := by
    intro o ho hp
    obtain ⟨l, hl, hf⟩ := m_free _ hN o ho hp
    obtain ⟨j, j1, j2, j3⟩ := minL (o := o) hN (fun l hl => (h l hl).2) (rk l) l (Nat.le_refl _) hl hf
    exact nextL_ok hN hm ho (sN σ 0 0) 0 j (by omega) (Nat.zero_le _) j1 j2 j3
  have go : ∀ i, i ≤ sN σ 0 0 → ∃ o, o < 2 ^ sN σ 0 0 ∧ pc4 o = i ∧ zfo (tuStep σ) i 0 0 = nI o := by
    intro i
    induction i with
    | zero => intro _; exact ⟨0, Nat.two_pow_pos _, rfl, rfl⟩
    | succ i ih =>
      intro hi
      obtain ⟨o, o1, o2, o3⟩ := ih (by omega)
      obtain ⟨r, r1, r2, r3⟩ := one o o1 (by omega)
      refine ⟨o ||| 2 ^ r, Nat.or_lt_two_pow o1 (m_pow _ hN r r1), ?_, ?_⟩
      · rw [m_add o (m_16 hN o1) r (by omega) r2, o2]
      · rw [zfo_snoc, o3]
        unfold tuStep
        rw [r3, m_shl r (by omega)]
        exact m_or o (m_16 hN o1) (2 ^ r) (m_16 hN (m_pow _ hN r r1))
  intro i hi
  obtain ⟨o, o1, o2, o3⟩ := go i (by omega)
  obtain ⟨r, r1, r2, r3⟩ := one o o1 (by omega)
  exact ⟨r, by omega, by rw [o3]; exact r3⟩
theorem zGr.of {σ σ' : zS} (h : zGr σ) (e0 : sN σ' 0 0 = sN σ 0 0) (e : ∀ l, sV σ' 5 l 0 = sV σ 5 l 0) : zGr σ' := by
  obtain ⟨m, rk, h⟩ := h
  refine ⟨m, rk, fun l hl => ?_⟩
  rw [e0] at hl ⊢
  rw [e]
  exact h l hl
theorem zGr.line {σ σ' : zS} (h : zGr σ) (nw : zNew σ) (e0 : sN σ' 0 0 = sN σ 0 0 + 1) (e : ∀ l, sV σ' 5 l 0 = sV σ 5 l 0) : zGr σ' := by
  obtain ⟨m, rk, h⟩ := h
  refine ⟨fun l => if l < sN σ 0 0 then m l else 0, rk, fun l hl => ?_⟩
  rw [e0] at hl ⊢
  rw [e]
  dsimp only
  by_cases q : l < sN σ 0 0
  · rw [if_pos q]
    obtain ⟨h1, h2, h3⟩ := h l q
    exact ⟨h1, Nat.lt_of_lt_of_le h2 (Nat.pow_le_pow_right (by decide) (by omega)), h3⟩
  · rw [if_neg q]
    refine ⟨(nw.2.1 l (by omega)).2.2.2.1.trans nI_0.symm, Nat.two_pow_pos _, fun i hi hb => ?_⟩
    rw [Nat.zero_testBit] at hb
    cases hb
theorem zGr.ahead {σ : zS} (I : Inv σ) {a b : Nat} (ha : a < sN σ 0 0) (hb2 : b < sN σ 0 0) (ne : ¬ a = b) (hf : ¬ hb (spAll σ a) (nI b) = true) : zGr (wV σ 5 b 0 (sV σ 5 b 0 ||| (1 <<< (nI a &&& 31)))) := by
  have hN : sN σ 0 0 < 5 := by have := I.c.1; omega
  obtain ⟨m, rk, h⟩ := I.gr
  have hm : ∀ l, l < sN σ 0 0 → sV σ 5 l 0 = nI (m l) ∧ m l < 2 ^ sN σ 0 0 := fun l hl => ⟨(h l hl).1, (h l hl).2.1⟩
  have hm2 : ∀ l, l < sN σ 0 0 → m l < 2 ^ sN σ 0 0 := fun l hl => (h l hl).2.1
  have eS := all_m hN hm ha
  generalize hS : pQ m (sN σ 0 0) (sN σ 0 0) (m a) = S at *
  have S1 : S < 2 ^ sN σ 0 0 := by rw [← hS]; exact pQ_lt hm2 (hm a ha).2 _
  have S2 : ∀ j, j < 4 → S.testBit j = true → rk j < rk a := by
    intro j hj hb
    rw [← hS] at hb
    exact pQ_rk hN (fun l hl => (h l hl).2) (h a ha).2.2 _ j hj hb
  have S3 : ∀ j, j < 4 → (m a).testBit j = true → S.testBit j = true := by
    intro j hj hb
    rw [← hS]
    exact pQ_bit hb _
  have S4 : ∀ l i, l < sN σ 0 0 → S.testBit l = true → i < 4 → (m l).testBit i = true → S.testBit i = true := by
    intro l i hl hb hi hb3
    have := pQ_closed hN hm2 (hm a ha).2 hl (by rw [hS]; exact hb)
    rw [hS] at this
    rw [← this, Nat.testBit_or, hb3]
    exact Bool.or_true _
  have Sb : S.testBit b = false := by
    rw [eS, m_hb S (m_16 hN S1) b (by omega)] at hf
    rw [← Bool.not_eq_true]; exact hf
  have eb := hm b hb2
  refine ⟨fun l => if l = b then m b ||| 2 ^ a else m l, fun x => if x = a ∨ S.testBit x = true then rk x else rk x + rk a + 1, fun l hl => ?_⟩
  have hl' : l < sN σ 0 0 := hl
  have e0 : sN (wV σ 5 b 0 (sV σ 5 b 0 ||| (1 <<< (nI a &&& 31)))) 0 0 = sN σ 0 0 := rfl
  rw [e0, sV_wV]
  have oldE : ∀ i, i < 4 → (m l).testBit i = true → (if i = a ∨ S.testBit i = true then rk i else rk i + rk a + 1) < (if l = a ∨ S.testBit l = true then rk l else rk l + rk a + 1) := by
    intro i hi hb3
    have r := (h l hl').2.2 i hi hb3
    by_cases q : l = a ∨ S.testBit l = true
    · rw [if_pos q]
      have si : S.testBit i = true := by
        rcases q with q | q
        · exact S3 i hi (by rw [← q]; exact hb3)
        · exact S4 l i hl' q hi hb3
      rw [if_pos (Or.inr si)]
      exact r
    · rw [if_neg q]
      by_cases q2 : i = a ∨ S.testBit i = true
      · rw [if_pos q2]; omega
      · rw [if_neg q2]; omega
  by_cases q : l = b
  · subst q
    dsimp only
    rw [if_pos ⟨rfl, rfl, rfl⟩, if_pos rfl, eb.1, m_shl a (by omega), m_or _ (m_16 hN eb.2) _ (m_16 hN (m_pow _ hN a ha))]
    refine ⟨rfl, Nat.or_lt_two_pow eb.2 (m_pow _ hN a ha), fun i hi hb3 => ?_⟩
    rw [Nat.testBit_or, Bool.or_eq_true] at hb3
    rcases hb3 with w | w
    · exact oldE i hi w
    · rw [Nat.testBit_two_pow, decide_eq_true_eq] at w
      subst w
      rw [if_pos (Or.inl rfl), if_neg (by
        intro z
        rcases z with z | z
        · exact ne z.symm
        · rw [Sb] at z; cases z)]
      omega
  · dsimp only
    rw [if_neg (fun z => q z.2.1), if_neg q]
    exact ⟨(hm l hl').1, (hm l hl').2, oldE⟩
