/-! a part, and the joint before it, among a line's -/
def frL (P A : Nat → Prop) (h h' : AH) : Prop := (∀ b, b < hN h → hK h' b = hK h b ∧ hL h' b = hL h b ∧ (∀ j, aI h' b j = aI h b j ∧ aJ h' b j = aJ h b j ∧ aD h' b j = aD h b j) ∧ (∀ f, ¬ P b ∨ f < 208 ∨ 210 < f → hI h' f b = hI h f b ∧ hA h' f b = hA h f b) ∧ (¬ A b → ∀ j, aA h' b j = aA h b j)) ∧ hN h ≤ hN h'
theorem frO.L {h h' : AH} (q : frO h h') (P A : Nat → Prop) : frL P A h h' := ⟨fun b hb => by
  obtain ⟨q1, q2, q3, q4⟩ := q.1 b hb
  exact ⟨q1, q2, fun j => ⟨(q4 j).1, (q4 j).2.2.1, (q4 j).2.2.2⟩, fun f _ => q3 f, fun _ j => (q4 j).2.1⟩, q.2⟩
theorem frQ.L {a arr n : Nat} {h h' : AH} (q : frQ a arr n h h') {P A : Nat → Prop} (hP : P a) (hA : n ≠ 0 → A arr) : frL P A h h' := ⟨fun b hb => by
  obtain ⟨q1, q2, q3, q4, q5⟩ := q.1 b hb
  refine ⟨q1, q2, q3, fun f hf => q4 f ?_, fun hb2 => q5 ?_⟩
  · rcases hf with z | z
    · exact Or.inl (fun e => z (e ▸ hP))
    · exact Or.inr z
  · by_cases z : n = 0
    · exact Or.inr z
    · exact Or.inl (fun e => hb2 (e ▸ hA z)), q.2⟩
theorem frL.trans {P A : Nat → Prop} {h h1 h2 : AH} (p : frL P A h h1) (q : frL P A h1 h2) : frL P A h h2 := ⟨fun b hb => by
  obtain ⟨p1, p2, p3, p4, p5⟩ := p.1 b hb
  obtain ⟨q1, q2, q3, q4, q5⟩ := q.1 b (Nat.lt_of_lt_of_le hb p.2)
  exact ⟨q1.trans p1, q2.trans p2, fun j => ⟨(q3 j).1.trans (p3 j).1, (q3 j).2.1.trans (p3 j).2.1, (q3 j).2.2.trans (p3 j).2.2⟩, fun f hf => ⟨(q4 f hf).1.trans (p4 f hf).1, (q4 f hf).2.trans (p4 f hf).2⟩, fun hA j => (q5 hA j).trans (p5 hA j)⟩, Nat.le_trans p.2 q.2⟩
def wPart (σ : zS) (i : Nat) (k sz : Int32) : zS := wN (wV (wV σ 6 i (sN σ 4 i) k) 7 i (sN σ 4 i) sz) 4 i (sN σ 4 i + 1)
def nuPart (n i p q aP aJ : Nat) : Nat → Nat → Nat → Option Nat := fun k a b => if k = 1 ∧ a = i ∧ b = n then some p else if 1 ≤ n ∧ k = 2 ∧ a = i ∧ b = n - 1 then some q else if n = 0 ∧ k = 9 ∧ a = 1 ∧ b = i then some aP else if n = 1 ∧ k = 9 ∧ a = 2 ∧ b = i then some aJ else none
section MPT
variable {g : Nat → Nat} {B : Nat} {mu : zM} {σ : zS} {h : AH}
theorem M.partExt (m : M g B mu σ h) (c : zCnt σ) (nw : zNew σ) {i n p q aP aJ : Nat} {k sz : Int32} {h' : AH} (hi : i < sN σ 0 0) (en : sN σ 4 i = n) (hn : n < 10)
    (fr : frL (fun b => b = mu 5 1 i ∨ (1 ≤ n ∧ b = mu 5 2 i)) (fun b => (n ≠ 0 ∧ b = mu 9 1 i) ∨ (1 < n ∧ b = mu 9 2 i)) h h')
    (p1 : hN h ≤ p ∧ p < hN h' ∧ hK h' p = 11) (p2 : hI h' 160 p = k ∧ hI h' 161 p = sz ∧ hI h' 162 p = -1)
    (q1 : 1 ≤ n → hN h ≤ q ∧ q < hN h' ∧ hK h' q = 9 ∧ q ≠ p) (q2 : 1 ≤ n → hI h' 128 q = 110 ∧ hI h' 129 q = 0 ∧ hI h' 130 q = -1)
    (a1 : n = 0 → hN h ≤ aP ∧ aP < hN h' ∧ hK h' aP = 35 ∧ hL h' aP = 10 ∧ aP ≠ p)
    (b1 : n = 1 → hN h ≤ aJ ∧ aJ < hN h' ∧ hK h' aJ = 35 ∧ hL h' aJ = 10 ∧ aJ ≠ p ∧ aJ ≠ q)
    (l1 : hI h' 210 (mu 5 1 i) = nI (n + 1) ∧ hA h' 209 (mu 5 1 i) = some (if n = 0 then aP else mu 9 1 i) ∧ ∀ x, x < n + 1 → aA h' (if n = 0 then aP else mu 9 1 i) x = some (if x = n then p else mu 1 i x))
    (l2 : 1 ≤ n → hI h' 210 (mu 5 2 i) = nI n ∧ hA h' 209 (mu 5 2 i) = some (if n = 1 then aJ else mu 9 2 i) ∧ ∀ x, x < n → aA h' (if n = 1 then aJ else mu 9 2 i) x = some (if x = n - 1 then q else mu 2 i x)) :
    frK B h h' ∧ M g B (muN mu (nuPart n i p q aP aJ) (fun _ => none)) (wPart σ i k sz) h' := by
  have hB := m.hB
  have okP : lsOk (sN σ) 1 i := hi
  have okJ : lsOk (sN σ) 2 i := hi
  have y1 := m.1.1 5 1 i okP
  have y2 := m.1.1 5 2 i okJ
  have y3 : n ≠ 0 → B + 119 < mu 9 1 i := fun hn0 => (m.1.1 9 1 i ⟨okP, show 0 < sN σ 4 i by omega⟩).1
  have y4 : 1 < n → B + 119 < mu 9 2 i := fun hn0 => (m.1.1 9 2 i ⟨okJ, show 0 < sN σ 4 i - 1 by omega⟩).1
  have F4 : ∀ b, b ≤ B + 119 → ∀ j, aA h' b j = aA h b j := fun b hb j => (fr.1 b (by omega)).2.2.2.2 (fun z => by
    rcases z with ⟨z1, z2⟩ | ⟨z1, z2⟩
    · have := y3 z1; omega
    · have := y4 z1; omega) j
  refine ⟨⟨⟨fun b hb => ⟨fun f hf => ?_, (fr.1 b hb).1, (fr.1 b hb).2.1, fun j => ((fr.1 b hb).2.2.1 j).2⟩, fun b hb j => ⟨((fr.1 b (by omega)).2.2.1 j).1, F4 b hb j⟩, fr.2⟩, ((fr.1 _ hB).2.2.2.1 199 (by omega)).1⟩, ?_⟩
  · refine (fr.1 b hb).2.2.2.1 f ?_
    rcases hf with z | z
    · exact Or.inr (Or.inl (by omega))
    · refine Or.inl (fun y => ?_)
      rcases y with y | ⟨-, y⟩ <;> omega
  have N4 : sN (wPart σ i k sz) 4 i = n + 1 := by unfold wPart; rw [sN_wN, if_pos ⟨rfl, rfl⟩, en]
  have Nn : ∀ a b, ¬ (a = 4 ∧ b = i) → sN (wPart σ i k sz) a b = sN σ a b := fun a b z => by unfold wPart; rw [sN_wN, if_neg z]; rfl
  have nul : ∀ {kk a b : Nat}, kk ≠ 1 → kk ≠ 2 → kk ≠ 9 → nuPart n i p q aP aJ kk a b = none := fun h1 h2 h9 => by
    unfold nuPart
    rw [if_neg (fun z => h1 z.1), if_neg (fun z => h2 z.2.1), if_neg (fun z => h9 z.2.1), if_neg (fun z => h9 z.2.1)]
  have e1 : nuPart n i p q aP aJ 1 i n = some p := by unfold nuPart; rw [if_pos ⟨rfl, rfl, rfl⟩]
  have o1 : ∀ a b, ¬ (a = i ∧ b = n) → nuPart n i p q aP aJ 1 a b = none := fun a b z => by
    unfold nuPart
    rw [if_neg (fun y => z y.2), if_neg (by omega), if_neg (by omega), if_neg (by omega)]
  have e2 : 1 ≤ n → nuPart n i p q aP aJ 2 i (n - 1) = some q := fun hn1 => by
    unfold nuPart
    rw [if_neg (by omega), if_pos ⟨hn1, rfl, rfl, rfl⟩]
  have o2 : ∀ a b, ¬ (1 ≤ n ∧ a = i ∧ b = n - 1) → nuPart n i p q aP aJ 2 a b = none := fun a b z => by
    unfold nuPart
    rw [if_neg (by omega), if_neg (fun y => z ⟨y.1, y.2.2⟩), if_neg (by omega), if_neg (by omega)]
  have o9 : ∀ a b, ¬ (n = 0 ∧ a = 1 ∧ b = i) → ¬ (n = 1 ∧ a = 2 ∧ b = i) → nuPart n i p q aP aJ 9 a b = none := fun a b z z' => by
    unfold nuPart
    rw [if_neg (by omega), if_neg (by omega), if_neg (fun y => z ⟨y.1, y.2.2⟩), if_neg (fun y => z' ⟨y.1, y.2.2⟩)]
  have e9P : n = 0 → nuPart n i p q aP aJ 9 1 i = some aP := fun z => by
    unfold nuPart
    rw [if_neg (by omega), if_neg (by omega), if_pos ⟨z, rfl, rfl, rfl⟩]
  have e9J : n = 1 → nuPart n i p q aP aJ 9 2 i = some aJ := fun z => by
    unfold nuPart
    rw [if_neg (by omega), if_neg (by omega), if_neg (by omega), if_pos ⟨z, rfl, rfl, rfl⟩]
  refine m.ext (σ' := wPart σ i k sz) (h' := h') (nuPart n i p q aP aJ) (fun _ => none) (fun a => if a = p then (1, i, n) else if 1 ≤ n ∧ a = q then (2, i, n - 1) else if n = 0 then (9, 1, i) else (9, 2, i)) (fun a b => (a = 1 ∨ (a = 2 ∧ 1 ≤ n)) ∧ b = i) fr.2 (fun b hb => ⟨(fr.1 b hb).1, (fr.1 b hb).2.1, fun j => ((fr.1 b hb).2.2.1 j).1, fun f hf => (fr.1 b hb).2.2.2.1 f (Or.inr hf)⟩) ?_ ?_ (fun b hb => F4 b (by omega)) ?_ ?_ ?_ ?_ ?_ ?_ ?_ ?_ ?_ ?_
  · intro a b ok hC
    have y := m.1.1 5 a b ok
    have z := (fr.1 _ y.2.1).2.2.2.1
    have np : ¬ (mu 5 a b = mu 5 1 i ∨ (1 ≤ n ∧ mu 5 a b = mu 5 2 i)) := by
      intro w
      rcases w with w | ⟨w0, w⟩
      · obtain ⟨-, u, v⟩ := m.1.2.1 _ _ _ _ _ _ (show vOk (sN σ) 5 a b from ok) (show vOk (sN σ) 5 1 i from okP) w
        exact hC ⟨Or.inl u, v⟩
      · obtain ⟨-, u, v⟩ := m.1.2.1 _ _ _ _ _ _ (show vOk (sN σ) 5 a b from ok) (show vOk (sN σ) 5 2 i from okJ) w
        exact hC ⟨Or.inr ⟨u, w0⟩, v⟩
    exact ⟨(z 210 (Or.inl np)).1, (z 209 (Or.inl np)).2⟩
  · intro a b ok hp hC x
    have y := m.1.1 9 a b ⟨ok, hp⟩
    refine (fr.1 _ y.2.1).2.2.2.2 (fun w => ?_) x
    rcases w with ⟨w0, w⟩ | ⟨w0, w⟩
    · obtain ⟨-, u, v⟩ := m.1.2.1 _ _ _ _ _ _ (show vOk (sN σ) 9 a b from ⟨ok, hp⟩) (show vOk (sN σ) 9 1 i from ⟨okP, show 0 < sN σ 4 i by omega⟩) w
      exact hC ⟨Or.inl u, v⟩
    · obtain ⟨-, u, v⟩ := m.1.2.1 _ _ _ _ _ _ (show vOk (sN σ) 9 a b from ⟨ok, hp⟩) (show vOk (sN σ) 9 2 i from ⟨okJ, show 0 < sN σ 4 i - 1 by omega⟩) w
      exact hC ⟨Or.inr ⟨u, by omega⟩, v⟩
  · intro kk a b x e
    unfold nuPart at e
    by_cases c1 : kk = 1 ∧ a = i ∧ b = n
    · rw [if_pos c1] at e; cases e; obtain ⟨rfl, rfl, rfl⟩ := c1
      exact ⟨p1.1, p1.2.1, p1.2.2, fun z => absurd z (by decide), by rw [if_pos rfl]⟩
    rw [if_neg c1] at e
    by_cases c2 : 1 ≤ n ∧ kk = 2 ∧ a = i ∧ b = n - 1
    · rw [if_pos c2] at e; cases e; obtain ⟨c20, rfl, rfl, rfl⟩ := c2
      obtain ⟨z1, z2, z3, z4⟩ := q1 c20
      exact ⟨z1, z2, z3, fun z => absurd z (by decide), by rw [if_neg z4, if_pos ⟨c20, rfl⟩]⟩
    rw [if_neg c2] at e
    by_cases c3 : n = 0 ∧ kk = 9 ∧ a = 1 ∧ b = i
    · rw [if_pos c3] at e; cases e; obtain ⟨c30, rfl, rfl, rfl⟩ := c3
      obtain ⟨z1, z2, z3, z4, z5⟩ := a1 c30
      exact ⟨z1, z2, z3, fun _ => z4, by rw [if_neg z5, if_neg (by omega), if_pos c30]⟩
    rw [if_neg c3] at e
    by_cases c4 : n = 1 ∧ kk = 9 ∧ a = 2 ∧ b = i
    · rw [if_pos c4] at e; cases e; obtain ⟨c40, rfl, rfl, rfl⟩ := c4
      obtain ⟨z1, z2, z3, z4, z5, z6⟩ := b1 c40
      exact ⟨z1, z2, z3, fun _ => z4, by rw [if_neg z5, if_neg (fun z => z6 z.2), if_neg (by omega)]⟩
    rw [if_neg c4] at e; cases e
  · intro kk a b ok hk
    by_cases k1 : kk = 1
    · subst k1
      refine o1 a b (fun z => ?_)
      obtain ⟨rfl, rfl⟩ := z
      have ok' : a < sN σ 0 0 ∧ b < sN σ 4 a := ok
      omega
    · by_cases k9 : kk = 9
      · subst k9
        refine o9 a b (fun z => ?_) (fun z => ?_)
        · obtain ⟨z1, rfl, rfl⟩ := z
          have : 0 < sN σ 4 b := ok.2
          omega
        · obtain ⟨z1, rfl, rfl⟩ := z
          have : 0 < sN σ 4 b - 1 := ok.2
          omega
      · exact nul k1 hk k9
  · intro kk a b ok e
    match kk, ok with
    | 0, ok =>
      have ok' : a < sN (wPart σ i k sz) 0 0 ∧ b = 0 := ok
      rw [Nn 0 0 (by omega)] at ok'; exact ok'
    | 1, ok =>
      have ok' : a < sN (wPart σ i k sz) 0 0 ∧ b < sN (wPart σ i k sz) 4 a := ok
      rw [Nn 0 0 (by omega)] at ok'
      by_cases z : a = i
      · subst z
        rw [N4] at ok'
        by_cases z2 : b = n
        · rw [z2, e1] at e; cases e
        · exact ⟨ok'.1, by omega⟩
      · rw [Nn 4 a (fun y => z y.2)] at ok'; exact ok'
    | 2, ok =>
      have ok' : a < sN (wPart σ i k sz) 0 0 ∧ b < sN (wPart σ i k sz) 4 a - 1 := ok
      rw [Nn 0 0 (by omega)] at ok'
      by_cases z : a = i
      · subst z
        rw [N4] at ok'
        by_cases z2 : b = n - 1
        · rw [z2, e2 (by omega)] at e; cases e
        · exact ⟨ok'.1, by omega⟩
      · rw [Nn 4 a (fun y => z y.2)] at ok'; exact ok'
    | 3, ok =>
      have ok' : a < sN (wPart σ i k sz) 1 0 ∧ b = 0 := ok
      rw [Nn 1 0 (by omega)] at ok'; exact ok'
    | 4, ok =>
      have ok' : a < sN (wPart σ i k sz) 2 0 ∧ b = 0 := ok
      rw [Nn 2 0 (by omega)] at ok'; exact ok'
    | 5, ok =>
      rcases qE_ok ok with ⟨rfl, hb⟩ | ⟨rfl, hb⟩ | ⟨rfl, hb⟩
      · exact hb
      · rw [Nn 0 0 (by omega)] at hb; exact hb
      · rw [Nn 0 0 (by omega)] at hb; exact hb
    | 6, ok =>
      have ok' : a < sN (wPart σ i k sz) 0 0 ∧ b = 0 := ok
      rw [Nn 0 0 (by omega)] at ok'; exact ok'
    | 7, ok =>
      have ok' : a < sN (wPart σ i k sz) 0 0 ∧ b = 0 := ok
      rw [Nn 0 0 (by omega)] at ok'; exact ok'
    | 8, ok =>
      have ok' : a < sN (wPart σ i k sz) 2 0 ∧ b = 0 := ok
      rw [Nn 2 0 (by omega)] at ok'; exact ok'
    | 9, ok =>
      obtain ⟨ok1, ok2⟩ := ok
      rcases qE_ok ok1 with ⟨rfl, hb⟩ | ⟨rfl, hb⟩ | ⟨rfl, hb⟩
      · have ok3 : 0 < sN (wPart σ i k sz) b 0 := ok2
        rw [Nn b 0 (by omega)] at ok3
        exact ⟨hb, ok3⟩
      · rw [Nn 0 0 (by omega)] at hb
        have ok3 : 0 < sN (wPart σ i k sz) 4 b := ok2
        refine ⟨hb, ?_⟩
        show 0 < sN σ 4 b
        by_cases z : b = i
        · subst z
          by_cases z2 : n = 0
          · rw [e9P z2] at e; cases e
          · omega
        · rw [Nn 4 b (fun y => z y.2)] at ok3; exact ok3
      · rw [Nn 0 0 (by omega)] at hb
        have ok3 : 0 < sN (wPart σ i k sz) 4 b - 1 := ok2
        refine ⟨hb, ?_⟩
        show 0 < sN σ 4 b - 1
        by_cases z : b = i
        · subst z
          rw [N4] at ok3
          by_cases z2 : n = 1
          · rw [e9J z2] at e; cases e
          · omega
        · rw [Nn 4 b (fun y => z y.2)] at ok3; exact ok3
  · intro l hl
    rw [Nn 0 0 (by omega)] at hl
    exact Or.inl hl
  · intro w hw
    rw [Nn 2 0 (by omega)] at hw
    exact Or.inl hw
  · intro a b ok
    rcases qE_ok ok with ⟨rfl, hb⟩ | ⟨rfl, hb⟩ | ⟨rfl, hb⟩
    · refine Or.inl ⟨by omega, hb, Nn b 0 (by omega), fun x hx => ?_⟩
      have : b = 0 ∨ b = 1 ∨ b = 2 ∨ b = 3 := by omega
      rcases this with rfl | rfl | rfl | rfl
      · rw [qE_L, qE_L]; exact muN_old (by decide) (nul (by decide) (by decide) (by decide))
      · rw [qE_H, qE_H]; exact muN_old (by decide) (nul (by decide) (by decide) (by decide))
      · rw [qE_W, qE_W]; exact muN_old (by decide) (nul (by decide) (by decide) (by decide))
      · rfl
    · rw [Nn 0 0 (by omega)] at hb
      by_cases z : b = i
      · subst z
        refine Or.inr ?_
        rw [show qN (sN (wPart σ b k sz)) 1 b = n + 1 from N4, if_neg (by omega), muN_old (by decide) (nul (by decide) (by decide) (by decide))]
        have e9 : muN mu (nuPart n b p q aP aJ) (fun _ => none) 9 1 b = if n = 0 then aP else mu 9 1 b := by
          by_cases z2 : n = 0
          · rw [if_pos z2]; exact muN_new (by decide) (e9P z2)
          · rw [if_neg z2]; exact muN_old (by decide) (o9 1 b (by omega) (by omega))
        rw [e9]
        refine ⟨l1.1, l1.2.1, fun x hx => ?_⟩
        rw [l1.2.2 x hx, qE_P]
        by_cases z3 : x = n
        · rw [if_pos z3, z3, muN_new (by decide) e1]
        · rw [if_neg z3, muN_old (by decide) (o1 b x (fun y => z3 y.2))]
      · refine Or.inl ⟨by omega, hb, Nn 4 b (by omega), fun x hx => ?_⟩
        rw [qE_P, qE_P]; exact muN_old (by decide) (o1 b x (fun y => z y.1))
    · rw [Nn 0 0 (by omega)] at hb
      by_cases z : b = i
      · subst z
        by_cases hn1 : 1 ≤ n
        · refine Or.inr ?_
          have qn : qN (sN (wPart σ b k sz)) 2 b = n := by show sN (wPart σ b k sz) 4 b - 1 = n; omega
          rw [qn, if_neg (by omega), muN_old (by decide) (nul (by decide) (by decide) (by decide))]
          obtain ⟨u1, u2, u3⟩ := l2 hn1
          have e9 : muN mu (nuPart n b p q aP aJ) (fun _ => none) 9 2 b = if n = 1 then aJ else mu 9 2 b := by
            by_cases z2 : n = 1
            · rw [if_pos z2]; exact muN_new (by decide) (e9J z2)
            · rw [if_neg z2]; exact muN_old (by decide) (o9 2 b (by omega) (by omega))
          rw [e9]
          refine ⟨u1, u2, fun x hx => ?_⟩
          rw [u3 x hx, qE_J]
          by_cases z3 : x = n - 1
          · rw [if_pos z3, z3, muN_new (by decide) (e2 hn1)]
          · rw [if_neg z3, muN_old (by decide) (o2 b x (fun y => z3 y.2.2))]
        · refine Or.inl ⟨by omega, hb, ?_, fun x hx => ?_⟩
          · show sN (wPart σ b k sz) 4 b - 1 = sN σ 4 b - 1
            omega
          · have hx' : x < sN σ 4 b - 1 := hx
            omega
      · refine Or.inl ⟨by omega, hb, ?_, fun x hx => ?_⟩
        · show sN (wPart σ i k sz) 4 b - 1 = sN σ 4 b - 1
          rw [Nn 4 b (by omega)]
        · rw [qE_J, qE_J]; exact muN_old (by decide) (o2 b x (fun y => z y.2.1))
  · intro f a b ok
    have n5 := (mF_ok ok).2.2.2
    by_cases z : mT f = 1 ∧ a = i ∧ b = n
    · obtain ⟨z1, rfl, rfl⟩ := z
      refine Or.inr ?_
      rw [z1, muN_new (by decide) e1]
      rcases mT_1 z1 with rfl | rfl | rfl
      · refine p2.1.trans ?_
        simp [mV, wPart, sV_wN, sV_wV, en]
      · refine p2.2.1.trans ?_
        simp [mV, wPart, sV_wN, sV_wV, en]
      · refine p2.2.2.trans ?_
        simp [mV, wPart, sR_wN, sR_wV, enc, nw.2.2.1 a b (by omega)]
    by_cases w : mT f = 2 ∧ 1 ≤ n ∧ a = i ∧ b = n - 1
    · obtain ⟨z1, hn1, rfl, rfl⟩ := w
      refine Or.inr ?_
      rw [z1, muN_new (by decide) (e2 hn1)]
      obtain ⟨u1, u2, u3⟩ := q2 hn1
      obtain ⟨v1, v2, v3⟩ := nw.2.2.2 a (n - 1) (by omega)
      rcases mT_2 z1 with rfl | rfl | rfl
      · refine u1.trans ?_
        simp [mV, wPart, sV_wN, sV_wV, v1]
      · refine u2.trans ?_
        simp [mV, wPart, sV_wN, sV_wV, v2]
      · refine u3.trans ?_
        simp [mV, wPart, sR_wN, sR_wV, enc, v3]
    refine Or.inl ⟨?_, ?_⟩
    · by_cases t1 : mT f = 1
      · rw [t1]; exact o1 a b (fun y => z ⟨t1, y⟩)
      · by_cases t2 : mT f = 2
        · rw [t2]; exact o2 a b (fun y => w ⟨t2, y⟩)
        · exact nul t1 t2 (by omega)
    · have ne : ∀ {F}, mT F = 1 → ¬ (f = F ∧ a = i ∧ b = sN σ 4 i) := fun hF y => z ⟨by rw [y.1]; exact hF, y.2.1, by rw [← en]; exact y.2.2⟩
      unfold wPart
      rw [mV_wN, mV_nei (ne rfl), mV_nei (ne rfl)]
  · intro kk a x h6 ok h9 ha
    refine Or.inl ⟨nul (by omega) (by omega) (by omega), ?_⟩
    unfold wPart
    rw [mW_wN, mW_wV (by decide) (by decide), mW_wV (by decide) (by decide)]
  · intro x
    simp [wPart, sV_wN, sV_wV]
  · intro x hx
    rw [Nn 3 0 (by omega)] at hx
    exact Or.inl ⟨hx, rfl, by simp [wPart, sV_wN, sV_wV]⟩
end MPT
