/-! what is made stands behind what was -/
theorem frO.nO {h : AH} {ci : Nat} : frO h (nO h ci) := by
  refine ⟨fun a ha => ?_, Nat.le_succ _⟩
  have hne : a ≠ hN h := Nat.ne_of_lt ha
  refine ⟨?_, rfl, fun f => ⟨?_, ?_⟩, fun j => ⟨rfl, rfl, rfl, rfl⟩⟩
  · show u1 (hK h) (hN h) (ci + 1) a = hK h a
    unfold u1; rw [if_neg hne]
  · show (if a = hN h then 0 else hI h f a) = hI h f a
    rw [if_neg hne]
  · show (if a = hN h then none else hA h f a) = hA h f a
    rw [if_neg hne]
theorem frO.nR {h : AH} {t n : Nat} : frO h (nR h t n) := by
  refine ⟨fun a ha => ?_, Nat.le_succ _⟩
  have hne : a ≠ hN h := Nat.ne_of_lt ha
  refine ⟨?_, ?_, fun f => ⟨rfl, rfl⟩, fun j => ⟨?_, ?_, ?_, ?_⟩⟩
  · show u1 (hK h) (hN h) (30 + t) a = hK h a
    unfold u1; rw [if_neg hne]
  · show u1 (hL h) (hN h) n a = hL h a
    unfold u1; rw [if_neg hne]
  · show (if a = hN h then 0 else aI h a j) = aI h a j
    rw [if_neg hne]
  · show (if a = hN h then none else aA h a j) = aA h a j
    rw [if_neg hne]
  · show (if a = hN h then 0 else aJ h a j) = aJ h a j
    rw [if_neg hne]
  · show (if a = hN h then 0 else aD h a j) = aD h a j
    rw [if_neg hne]
theorem frO.sI {h0 h : AH} {f a : Nat} {v : Int32} (fr : frO h0 h) (ha : hN h0 ≤ a) : frO h0 (sI h f a v) := by
  refine ⟨fun b hb => ?_, fr.2⟩
  obtain ⟨q1, q2, q3, q4⟩ := fr.1 b hb
  exact ⟨q1, q2, fun F => ⟨by rw [hI_sI, if_neg (fun z => by have := z.2; omega)]; exact (q3 F).1, (q3 F).2⟩, q4⟩
theorem frO.sA {h0 h : AH} {f a : Nat} {v : Option Nat} (fr : frO h0 h) (ha : hN h0 ≤ a) : frO h0 (sA h f a v) := by
  refine ⟨fun b hb => ?_, fr.2⟩
  obtain ⟨q1, q2, q3, q4⟩ := fr.1 b hb
  exact ⟨q1, q2, fun F => ⟨(q3 F).1, by rw [hA_sA, if_neg (fun z => by have := z.2; omega)]; exact (q3 F).2⟩, q4⟩
theorem frO.tI {h0 h : AH} {a j : Nat} {v : Int32} (fr : frO h0 h) (ha : hN h0 ≤ a) : frO h0 (tI h a j v) := by
  refine ⟨fun b hb => ?_, fr.2⟩
  obtain ⟨q1, q2, q3, q4⟩ := fr.1 b hb
  exact ⟨q1, q2, q3, fun i => ⟨by rw [aI_tI, if_neg (fun z => by have := z.1; omega)]; exact (q4 i).1, (q4 i).2⟩⟩
theorem vOk_app {n n' : zC} {k i j : Nat} (ok : vOk n' k i j) (h0 : n' 0 0 = n 0 0) (h4 : ∀ l, n' 4 l = n 4 l) : (k = 3 ∧ i < n' 1 0 ∧ j = 0) ∨ ((k = 4 ∨ k = 8) ∧ i < n' 2 0 ∧ j = 0) ∨ (k = 9 ∧ i = 0 ∧ j < 4 ∧ 0 < n' j 0) ∨ (k ≠ 3 ∧ k ≠ 4 ∧ k ≠ 8 ∧ ¬ (k = 9 ∧ i = 0) ∧ vOk n k i j) := by
  match k, ok with
  | 0, ok =>
    have ok' : i < n' 0 0 ∧ j = 0 := ok
    rw [h0] at ok'
    exact Or.inr (Or.inr (Or.inr ⟨by decide, by decide, by decide, fun z => absurd z.1 (by decide), ok'⟩))
  | 1, ok =>
    have ok' : i < n' 0 0 ∧ j < n' 4 i := ok
    rw [h0, h4] at ok'
    exact Or.inr (Or.inr (Or.inr ⟨by decide, by decide, by decide, fun z => absurd z.1 (by decide), ok'⟩))
  | 2, ok =>
    have ok' : i < n' 0 0 ∧ j < n' 4 i - 1 := ok
    rw [h0, h4] at ok'
    exact Or.inr (Or.inr (Or.inr ⟨by decide, by decide, by decide, fun z => absurd z.1 (by decide), ok'⟩))
  | 3, ok => exact Or.inl ⟨rfl, ok⟩
  | 4, ok => exact Or.inr (Or.inl ⟨Or.inl rfl, ok⟩)
  | 5, ok =>
    have ok' : lsOk n i j := by
      match i, ok with
      | 0, ok => exact ok
      | 1, ok => have z : j < n' 0 0 := ok; rw [h0] at z; exact z
      | 2, ok => have z : j < n' 0 0 := ok; rw [h0] at z; exact z
    exact Or.inr (Or.inr (Or.inr ⟨by decide, by decide, by decide, fun z => absurd z.1 (by decide), ok'⟩))
  | 6, ok =>
    have ok' : i < n' 0 0 ∧ j = 0 := ok
    rw [h0] at ok'
    exact Or.inr (Or.inr (Or.inr ⟨by decide, by decide, by decide, fun z => absurd z.1 (by decide), ok'⟩))
  | 7, ok =>
    have ok' : i < n' 0 0 ∧ j = 0 := ok
    rw [h0] at ok'
    exact Or.inr (Or.inr (Or.inr ⟨by decide, by decide, by decide, fun z => absurd z.1 (by decide), ok'⟩))
  | 8, ok => exact Or.inr (Or.inl ⟨Or.inr rfl, ok⟩)
  | 9, ok =>
    match i, ok with
    | 0, ok => exact Or.inr (Or.inr (Or.inl ⟨rfl, rfl, ok.1, ok.2⟩))
    | 1, ok =>
      have z : j < n' 0 0 ∧ 0 < n' 4 j := ok
      rw [h0, h4] at z
      exact Or.inr (Or.inr (Or.inr ⟨by decide, by decide, by decide, fun y => absurd y.2 (by decide), z⟩))
    | 2, ok =>
      have z : j < n' 0 0 ∧ 0 < n' 4 j - 1 := ok
      rw [h0, h4] at z
      exact Or.inr (Or.inr (Or.inr ⟨by decide, by decide, by decide, fun y => absurd y.2 (by decide), z⟩))
theorem M.app {g : Nat → Nat} {B : Nat} {mu : zM} {σ σ' : zS} {h1 h2 h' : AH} (m : M g B mu σ h1) (fr : frO h1 h2) {a0 b0 e arr' : Nat} (ok0 : lsOk (sN σ) a0 b0) (A : Added (mu 5 a0 b0) (if qN (sN σ) a0 b0 = 0 then g 0 else mu 9 a0 b0) (qN (sN σ) a0 b0) e (qE mu a0 b0) h2 h' arr') (nu0 : Nat → Nat → Nat → Option Nat) (ci : Nat → Option Nat) (inv0 : Nat → Nat × Nat × Nat) {nu : Nat → Nat → Nat → Option Nat} (hnu : nu = fun k i j => if qN (sN σ) a0 b0 = 0 ∧ k = 9 ∧ i = a0 ∧ j = b0 then some arr' else nu0 k i j)
    (n1 : ∀ k i j a, nu0 k i j = some a → hN h1 ≤ a ∧ a < hN h2 ∧ hK h2 a = vK k ∧ (6 ≤ k → hL h2 a = vL k) ∧ inv0 a = (k, i, j) ∧ k ≠ 9 ∧ k ≠ 5)
    (n3 : ∀ k i j, vOk (sN σ) k i j → nu0 k i j = none)
    (n4 : ∀ k i j, vOk (sN σ') k i j → nu0 k i j = none → (k = 9 ∧ i = a0 ∧ j = b0) ∨ vOk (sN σ) k i j)
    (w3 : sN σ' 0 0 = sN σ 0 0)
    (w4 : ∀ w, w < sN σ' 2 0 → w < sN σ 2 0 ∨ hA h' 176 (muN mu nu ci 4 w 0) = some (muN mu nu ci 8 w 0))
    (q5 : ∀ a b, lsOk (sN σ') a b → lsOk (sN σ) a b ∧ (¬ (a = a0 ∧ b = b0) → qN (sN σ') a b = qN (sN σ) a b ∧ ∀ i, i < qN (sN σ) a b → qE (muN mu nu ci) a b i = qE mu a b i))
    (hq : qN (sN σ') a0 b0 = qN (sN σ) a0 b0 + 1)
    (he : ∀ i, i < qN (sN σ) a0 b0 + 1 → qE (muN mu nu ci) a0 b0 i = if i = qN (sN σ) a0 b0 then e else qE mu a0 b0 i)
    (v1 : ∀ f i j, vOk (sN σ') (mT f) i j → (nu0 (mT f) i j = none ∧ mV σ' f i j = mV σ f i j) ∨ hI h' (mF f) (muN mu nu ci (mT f) i j) = mV σ' f i j)
    (v2 : ∀ k i a, 6 ≤ k → vOk (sN σ') k i 0 → k < 9 → a < vL k → (nu0 k i 0 = none ∧ mW σ' k i a = mW σ k i a) ∨ aI h' (muN mu nu ci k i 0) a = mW σ' k i a)
    (v3 : ∀ i, sV σ' 0 i 0 = sV σ 0 i 0)
    (v4 : ∀ c, c < sN σ' 3 0 → (c < sN σ 3 0 ∧ ci c = none ∧ sV σ' 17 c 0 = sV σ 17 c 0) ∨ (hK h' (muN mu nu ci 10 c 0) = 21 ∧ hI h' 336 (muN mu nu ci 10 c 0) = sV σ' 17 c 0 ∧ muN mu nu ci 10 c 0 < B)) : frK B h1 h' ∧ M g B (muN mu nu ci) σ' h' := by
  have m2 := m.old fr
  have hB := m.hB
  obtain ⟨Q, Z, A1, A2, A3⟩ := A
  have x5 := m.1.1 5 a0 b0 ok0
  have x9 : ∀ b, b ≤ B + 119 → b < hN h1 → b ≠ (if qN (sN σ) a0 b0 = 0 then g 0 else mu 9 a0 b0) ∨ qN (sN σ) a0 b0 = 0 := by
    intro b hb hb2
    by_cases q : qN (sN σ) a0 b0 = 0
    · exact Or.inr q
    · rw [if_neg q]
      have := (m.1.1 9 a0 b0 ⟨ok0, by omega⟩).1
      exact Or.inl (by omega)
  have F1 : ∀ b, b < hN h1 → hK h' b = hK h1 b ∧ hL h' b = hL h1 b ∧ (∀ j, aI h' b j = aI h1 b j) ∧ ∀ f, f < 208 ∨ 210 < f → hI h' f b = hI h1 f b ∧ hA h' f b = hA h1 f b := by
    intro b hb
    obtain ⟨p1, p2, p3, p4⟩ := fr.1 b hb
    obtain ⟨r1, r2, r3, r4, r5⟩ := Q.1 b (Nat.lt_of_lt_of_le hb fr.2)
    exact ⟨r1.trans p1, r2.trans p2, fun j => (r3 j).1.trans (p4 j).1, fun f hf => ⟨((r4 f (Or.inr hf)).1).trans (p3 f).1, ((r4 f (Or.inr hf)).2).trans (p3 f).2⟩⟩
  have F4 : ∀ b, b ≤ B + 119 → ∀ j, aA h' b j = aA h1 b j := by
    intro b hb j
    have hb2 : b < hN h1 := by omega
    exact ((Q.1 b (Nat.lt_of_lt_of_le hb2 fr.2)).2.2.2.2 (x9 b hb hb2) j).trans ((fr.1 b hb2).2.2.2 j).2.1
  have hn2 : hN h1 ≤ hN h' := Nat.le_trans fr.2 Q.2
  refine ⟨⟨⟨fun b hb => ⟨fun f hf => ?_, (F1 b hb).1, (F1 b hb).2.1, fun j => ?_⟩, fun b hb j => ⟨(F1 b (by omega)).2.2.1 j, F4 b hb j⟩, hn2⟩, ((F1 _ hB).2.2.2 199 (by omega)).1⟩, ?_⟩
  · obtain ⟨p1, p2, p3, p4⟩ := fr.1 b hb
    obtain ⟨r1, r2, r3, r4, r5⟩ := Q.1 b (Nat.lt_of_lt_of_le hb fr.2)
    have z : b ≠ mu 5 a0 b0 ∨ f < 208 ∨ 210 < f := by
      rcases hf with y | y
      · exact Or.inr (Or.inl (by omega))
      · exact Or.inl (by omega)
    exact ⟨(r4 f z).1.trans (p3 f).1, (r4 f z).2.trans (p3 f).2⟩
  · obtain ⟨p1, p2, p3, p4⟩ := fr.1 b hb
    obtain ⟨r1, r2, r3, r4, r5⟩ := Q.1 b (Nat.lt_of_lt_of_le hb fr.2)
    exact ⟨(r3 j).2.1.trans (p4 j).2.2.1, (r3 j).2.2.trans (p4 j).2.2.2⟩
  have nu9 : ∀ {k i j : Nat}, k ≠ 9 → nu k i j = nu0 k i j := fun hk => by rw [hnu]; dsimp only; rw [if_neg (fun z => hk z.2.1)]
  have nu5 : ∀ {a b : Nat}, nu 5 a b = none := by
    intro a b
    rw [nu9 (by decide)]
    cases e5 : nu0 5 a b with
    | none => rfl
    | some x => exact absurd rfl (n1 _ _ _ _ e5).2.2.2.2.2.2
  refine m.ext nu ci (fun a => if a = arr' ∧ qN (sN σ) a0 b0 = 0 then (9, a0, b0) else inv0 a) (fun a b => a = a0 ∧ b = b0) hn2 F1 ?_ ?_ (fun b hb => F4 b (by omega)) ?_ ?_ ?_ ?_ w4 ?_ ?_ ?_ v3 v4
  · intro a b ok hC
    have y := m.1.1 5 a b ok
    obtain ⟨p1, p2, p3, p4⟩ := fr.1 _ y.2.1
    obtain ⟨r1, r2, r3, r4, r5⟩ := Q.1 _ (Nat.lt_of_lt_of_le y.2.1 fr.2)
    have ne : mu 5 a b ≠ mu 5 a0 b0 := fun z => by
      obtain ⟨-, u, w⟩ := m.1.2.1 _ _ _ _ _ _ (show vOk (sN σ) 5 a b from ok) (show vOk (sN σ) 5 a0 b0 from ok0) z
      exact hC ⟨u, w⟩
    exact ⟨(r4 210 (Or.inl ne)).1.trans (p3 210).1, (r4 209 (Or.inl ne)).2.trans (p3 209).2⟩
  · intro a b ok hp hC i
    have y := m.1.1 9 a b ⟨ok, hp⟩
    obtain ⟨p1, p2, p3, p4⟩ := fr.1 _ y.2.1
    obtain ⟨r1, r2, r3, r4, r5⟩ := Q.1 _ (Nat.lt_of_lt_of_le y.2.1 fr.2)
    refine (r5 ?_ i).trans (p4 i).2.1
    by_cases q : qN (sN σ) a0 b0 = 0
    · exact Or.inr q
    · rw [if_neg q]
      refine Or.inl fun z => ?_
      obtain ⟨-, u, w⟩ := m.1.2.1 _ _ _ _ _ _ (show vOk (sN σ) 9 a b from ⟨ok, hp⟩) (show vOk (sN σ) 9 a0 b0 from ⟨ok0, by omega⟩) z
      exact hC ⟨u, w⟩
  · intro k i j a e1
    rw [hnu] at e1
    dsimp only at e1
    by_cases q : qN (sN σ) a0 b0 = 0 ∧ k = 9 ∧ i = a0 ∧ j = b0
    · rw [if_pos q] at e1
      cases e1
      obtain ⟨q1, rfl, rfl, rfl⟩ := q
      rcases Z with ⟨z1, z2, z3, z4, z5⟩ | ⟨z1, -⟩
      · exact ⟨by rw [z2]; exact fr.2, by rw [z2, z5]; exact Nat.lt_succ_self _, z3, fun _ => z4, by rw [if_pos ⟨rfl, q1⟩]⟩
      · omega
    · rw [if_neg q] at e1
      obtain ⟨y1, y2, y3, y4, y5, y6, y7⟩ := n1 _ _ _ _ e1
      obtain ⟨r1, r2, -⟩ := Q.1 _ y2
      refine ⟨y1, Nat.lt_of_lt_of_le y2 Q.2, r1.trans y3, fun h6 => r2.trans (y4 h6), ?_⟩
      rw [if_neg]
      · exact y5
      · intro z
        rcases Z with ⟨z1, z2, -⟩ | ⟨z1, -⟩
        · have := z.1
          omega
        · omega
  · intro k i j ok hk
    rw [hnu]
    dsimp only
    by_cases q : qN (sN σ) a0 b0 = 0 ∧ k = 9 ∧ i = a0 ∧ j = b0
    · obtain ⟨q1, rfl, rfl, rfl⟩ := q
      have := ok.2
      omega
    · rw [if_neg q]
      exact n3 k i j ok
  · intro k i j ok e1
    rw [hnu] at e1
    dsimp only at e1
    by_cases q : qN (sN σ) a0 b0 = 0 ∧ k = 9 ∧ i = a0 ∧ j = b0
    · rw [if_pos q] at e1; cases e1
    · rw [if_neg q] at e1
      rcases n4 k i j ok e1 with ⟨rfl, rfl, rfl⟩ | z
      · exact ⟨ok0, by
          by_cases q2 : qN (sN σ) i j = 0
          · exact absurd ⟨q2, rfl, rfl, rfl⟩ q
          · omega⟩
      · exact z
  · intro l hl
    rw [w3] at hl
    exact Or.inl hl
  · intro a b ok
    by_cases q : a = a0 ∧ b = b0
    · obtain ⟨rfl, rfl⟩ := q
      refine Or.inr ?_
      rw [muN_old (by decide) nu5, hq, if_neg (by omega)]
      have e9 : muN mu nu ci 9 a b = arr' := by
        by_cases q2 : qN (sN σ) a b = 0
        · exact muN_new (by decide) (by rw [hnu]; dsimp only; rw [if_pos ⟨q2, rfl, rfl, rfl⟩])
        · have e8 : nu 9 a b = none := by
            rw [hnu]; dsimp only
            rw [if_neg (fun z => q2 z.1)]
            exact n3 9 a b ⟨ok0, by omega⟩
          rw [muN_old (by decide) e8]
          rcases Z with ⟨z1, -⟩ | ⟨z1, z2, -⟩
          · exact absurd z1 q2
          · rw [z2, if_neg q2]
      rw [e9]
      refine ⟨A1, A2, fun i hi => ?_⟩
      rw [A3 i hi, he i hi]
    · obtain ⟨z1, z2⟩ := q5 a b ok
      exact Or.inl ⟨q, z1, z2 q⟩
  · intro f i j ok
    have ne : mT f ≠ 9 := by have := (mF_ok ok).2.2.2; omega
    rw [nu9 ne]
    exact v1 f i j ok
  · intro k i a h6 ok h9 ha
    rw [nu9 (by omega)]
    exact v2 k i a h6 ok h9 ha
