/-! a line among the model's lines -/
def wLine (σ : zS) (num : Int32) : zS := wN (wV (wV σ 1 (sN σ 0 0) 0 num) 2 (sN σ 0 0) 0 (spShare num)) 0 0 (sN σ 0 0 + 1)
def nuLine (n o arr : Nat) : Nat → Nat → Nat → Option Nat := fun k i j => if k = 0 ∧ i = n ∧ j = 0 then some o else if k = 5 ∧ i = 1 ∧ j = n then some (o + 1) else if k = 5 ∧ i = 2 ∧ j = n then some (o + 2) else if k = 6 ∧ i = n ∧ j = 0 then some (o + 3) else if k = 7 ∧ i = n ∧ j = 0 then some (o + 4) else if n = 0 ∧ k = 9 ∧ i = 0 ∧ j = 0 then some arr else none
section MLI
variable {g : Nat → Nat} {B : Nat} {mu : zM} {σ : zS} {h : AH}
theorem M.newLine (m : M g B mu σ h) (c : zCnt σ) (nw : zNew σ) {num : Int32} (hn : sN σ 0 0 < 4) {K : Int32 → AH → Prop} (k : ∀ h' mu', frK B h h' → M g B mu' (wLine σ num) h' → K 1 h') : nnew h 9 fun o4 h5 => nn o4 (f_X9_init g o4 num h5 (fun h6 => cast h6 (some (mu 5 0 0)) 14 (f_Jx4a65c_add_9ea2d g (some (mu 5 0 0)) o4 h6 K))) := by
  refine nnew_to fun r a => ?_
  rw [nn_eq, a]
  refine f_X9_facts fun h2 fr kd ld rf iv ls rw2 => ?_
  have m2 := m.old fr
  have hB := m.hB
  have ok0 : lsOk (sN σ) 0 0 := show 0 < 4 by decide
  rw [m2.cs0]
  refine m2.addTo c (a := 0) (b := 0) ok0 (show sN σ 0 0 < 10 by omega) (by omega) (by rw [kd.1]; exact Or.inr (Or.inr (Or.inl rfl))) fun h' arr' A => ?_
  obtain ⟨Q, Z, A1, A2, A3⟩ := A
  have fresh := nw.2.1 (sN σ 0 0) (Nat.le_refl _)
  have q2 : hN h2 ≤ hN h' := Q.2
  have x5 := m.1.1 5 0 0 ok0
  have rd : ∀ b, b < hN h2 → b ≠ mu 5 0 0 → ∀ f, hI h' f b = hI h2 f b ∧ hA h' f b = hA h2 f b := fun b hb hne f => (Q.1 b hb).2.2.2.1 f (Or.inl hne)
  have x9 : ∀ b, b ≤ B + 119 → b < hN h → b ≠ (if qN (sN σ) 0 0 = 0 then g 0 else mu 9 0 0) ∨ qN (sN σ) 0 0 = 0 := by
    intro b hb hb2
    by_cases q : qN (sN σ) 0 0 = 0
    · exact Or.inr q
    · rw [if_neg q]
      have := (m.1.1 9 0 0 ⟨ok0, by omega⟩).1
      exact Or.inl (by omega)
  have F1 : ∀ b, b < hN h → hK h' b = hK h b ∧ hL h' b = hL h b ∧ (∀ j, aI h' b j = aI h b j) ∧ ∀ f, f < 208 ∨ 210 < f → hI h' f b = hI h f b ∧ hA h' f b = hA h f b := by
    intro b hb
    obtain ⟨p1, p2, p3, p4⟩ := fr.1 b hb
    obtain ⟨r1, r2, r3, r4, r5⟩ := Q.1 b (Nat.lt_of_lt_of_le hb fr.2)
    exact ⟨r1.trans p1, r2.trans p2, fun j => (r3 j).1.trans (p4 j).1, fun f hf => ⟨((r4 f (Or.inr hf)).1).trans (p3 f).1, ((r4 f (Or.inr hf)).2).trans (p3 f).2⟩⟩
  have F4 : ∀ b, b ≤ B + 119 → ∀ j, aA h' b j = aA h b j := by
    intro b hb j
    have hb2 : b < hN h := by omega
    exact ((Q.1 b (Nat.lt_of_lt_of_le hb2 fr.2)).2.2.2.2 (x9 b hb hb2) j).trans ((fr.1 b hb2).2.2.2 j).2.1
  have hn2 : hN h ≤ hN h' := Nat.le_trans fr.2 Q.2
  have FK : frK B h h' := by
    refine ⟨⟨fun b hb => ⟨fun f hf => ?_, (F1 b hb).1, (F1 b hb).2.1, fun j => ?_⟩, fun b hb j => ⟨(F1 b (by omega)).2.2.1 j, F4 b hb j⟩, hn2⟩, ((F1 _ hB).2.2.2 199 (by omega)).1⟩
    · obtain ⟨p1, p2, p3, p4⟩ := fr.1 b hb
      obtain ⟨r1, r2, r3, r4, r5⟩ := Q.1 b (Nat.lt_of_lt_of_le hb fr.2)
      have z : b ≠ mu 5 0 0 ∨ f < 208 ∨ 210 < f := by
        rcases hf with y | y
        · exact Or.inr (Or.inl (by omega))
        · exact Or.inl (by omega)
      exact ⟨(r4 f z).1.trans (p3 f).1, (r4 f z).2.trans (p3 f).2⟩
    · obtain ⟨p1, p2, p3, p4⟩ := fr.1 b hb
      obtain ⟨r1, r2, r3, r4, r5⟩ := Q.1 b (Nat.lt_of_lt_of_le hb fr.2)
      exact ⟨(r3 j).2.1.trans (p4 j).2.2.1, (r3 j).2.2.trans (p4 j).2.2.2⟩
  generalize ho : hN h = o at *
  generalize hsn : sN σ 0 0 = n at *
  have N0 : sN (wLine σ num) 0 0 = n + 1 := by unfold wLine; rw [hsn, sN_wN, if_pos ⟨rfl, rfl⟩]
  have Nb : ∀ b, b ≠ 0 → ∀ i, sN (wLine σ num) b i = sN σ b i := fun b hb i => by unfold wLine; rw [sN_wN, if_neg (fun z => hb z.1)]; rfl
  have nul : ∀ {k i j : Nat}, k ≠ 0 → k ≠ 5 → k ≠ 6 → k ≠ 7 → k ≠ 9 → nuLine n o arr' k i j = none := fun h0 h5 h6 h7 h9 => by
    unfold nuLine
    rw [if_neg (fun z => h0 z.1), if_neg (fun z => h5 z.1), if_neg (fun z => h5 z.1), if_neg (fun z => h6 z.1), if_neg (fun z => h7 z.1), if_neg (fun z => h9 z.2.1)]
  have e0 : nuLine n o arr' 0 n 0 = some o := by unfold nuLine; simp
  have e51 : nuLine n o arr' 5 1 n = some (o + 1) := by unfold nuLine; simp
  have e52 : nuLine n o arr' 5 2 n = some (o + 2) := by unfold nuLine; simp
  have e6 : nuLine n o arr' 6 n 0 = some (o + 3) := by unfold nuLine; simp
  have e7 : nuLine n o arr' 7 n 0 = some (o + 4) := by unfold nuLine; simp
  have e50 : ∀ b, nuLine n o arr' 5 0 b = none := fun b => by unfold nuLine; simp
  have o0 : ∀ i, i ≠ n → nuLine n o arr' 0 i 0 = none := fun i hi => by unfold nuLine; simp [hi]
  have o5 : ∀ a i, i ≠ n → nuLine n o arr' 5 a i = none := fun a i hi => by unfold nuLine; simp [hi]
  have o6 : ∀ i, i ≠ n → nuLine n o arr' 6 i 0 = none := fun i hi => by unfold nuLine; simp [hi]
  have o7 : ∀ i, i ≠ n → nuLine n o arr' 7 i 0 = none := fun i hi => by unfold nuLine; simp [hi]
  have o9 : ∀ a i, a ≠ 0 ∨ i ≠ 0 ∨ n ≠ 0 → nuLine n o arr' 9 a i = none := fun a i hi => by
    unfold nuLine
    rw [if_neg (by omega), if_neg (by omega), if_neg (by omega), if_neg (by omega), if_neg (by omega), if_neg (by omega)]
  have r := m.ext (σ' := wLine σ num) (h' := h') (nuLine n o arr') (fun _ => none) (fun a => if a = o then (0, n, 0) else if a = o + 1 then (5, 1, n) else if a = o + 2 then (5, 2, n) else if a = o + 3 then (6, n, 0) else if a = o + 4 then (7, n, 0) else (9, 0, 0)) (fun a b => a = 0 ∧ b = 0) (by rw [ho]; exact hn2) (by rw [ho]; exact F1)
    (fun a b ok hC => by
      have y := m.1.1 5 a b ok
      obtain ⟨p1, p2, p3, p4⟩ := fr.1 _ y.2.1
      have ne : mu 5 a b ≠ mu 5 0 0 := fun z => by
        obtain ⟨-, u, w⟩ := m.1.2.1 _ _ _ _ _ _ (show vOk (sN σ) 5 a b from ok) (show vOk (sN σ) 5 0 0 from ok0) z
        exact hC ⟨u, w⟩
      have z := rd _ (Nat.lt_of_lt_of_le y.2.1 fr.2) ne
      exact ⟨(z 210).1.trans (p3 210).1, (z 209).2.trans (p3 209).2⟩)
    (fun a b ok hp hC i => by
      have y := m.1.1 9 a b ⟨ok, hp⟩
      obtain ⟨p1, p2, p3, p4⟩ := fr.1 _ y.2.1
      obtain ⟨r1, r2, r3, r4, r5⟩ := Q.1 _ (Nat.lt_of_lt_of_le y.2.1 fr.2)
      refine (r5 ?_ i).trans (p4 i).2.1
      by_cases q : qN (sN σ) 0 0 = 0
      · exact Or.inr q
      · rw [if_neg q]
        refine Or.inl fun z => ?_
        obtain ⟨-, u, w⟩ := m.1.2.1 _ _ _ _ _ _ (show vOk (sN σ) 9 a b from ⟨ok, hp⟩) (show vOk (sN σ) 9 0 0 from ⟨ok0, by omega⟩) z
        exact hC ⟨u, w⟩)
    (fun b hb => F4 b (by omega))
    (fun k i j a e => by
      rw [ho]
      have big : ∀ {b}, b < hN h2 → hK h' b = hK h2 b ∧ hL h' b = hL h2 b := fun hb => ⟨(Q.1 _ hb).1, (Q.1 _ hb).2.1⟩
      unfold nuLine at e
      by_cases c1 : k = 0 ∧ i = n ∧ j = 0
      · rw [if_pos c1] at e; cases e; obtain ⟨rfl, rfl, rfl⟩ := c1
        exact ⟨Nat.le_refl _, by omega, (big (by omega)).1.trans kd.1, fun z => absurd z (by decide), by rw [if_pos rfl]⟩
      rw [if_neg c1] at e
      by_cases c2 : k = 5 ∧ i = 1 ∧ j = n
      · rw [if_pos c2] at e; cases e; obtain ⟨rfl, rfl, rfl⟩ := c2
        exact ⟨by omega, by omega, (big (by omega)).1.trans kd.2.1, fun z => absurd z (by decide), by rw [if_neg (by omega), if_pos rfl]⟩
      rw [if_neg c2] at e
      by_cases c3 : k = 5 ∧ i = 2 ∧ j = n
      · rw [if_pos c3] at e; cases e; obtain ⟨rfl, rfl, rfl⟩ := c3
        exact ⟨by omega, by omega, (big (by omega)).1.trans kd.2.2.1, fun z => absurd z (by decide), by rw [if_neg (by omega), if_neg (by omega), if_pos rfl]⟩
      rw [if_neg c3] at e
      by_cases c4 : k = 6 ∧ i = n ∧ j = 0
      · rw [if_pos c4] at e; cases e; obtain ⟨rfl, rfl, rfl⟩ := c4
        exact ⟨by omega, by omega, (big (by omega)).1.trans kd.2.2.2.1, fun _ => (big (by omega)).2.trans ld.1, by rw [if_neg (by omega), if_neg (by omega), if_neg (by omega), if_pos rfl]⟩
      rw [if_neg c4] at e
      by_cases c5 : k = 7 ∧ i = n ∧ j = 0
      · rw [if_pos c5] at e; cases e; obtain ⟨rfl, rfl, rfl⟩ := c5
        exact ⟨by omega, by omega, (big (by omega)).1.trans kd.2.2.2.2, fun _ => (big (by omega)).2.trans ld.2.1, by rw [if_neg (by omega), if_neg (by omega), if_neg (by omega), if_neg (by omega), if_pos rfl]⟩
      rw [if_neg c5] at e
      by_cases c6 : n = 0 ∧ k = 9 ∧ i = 0 ∧ j = 0
      · rw [if_pos c6] at e; cases e; obtain ⟨c60, rfl, rfl, rfl⟩ := c6
        rcases Z with ⟨z1, z2, z3, z4, z5⟩ | ⟨z1, -⟩
        · exact ⟨by omega, by omega, z3, fun _ => z4, by rw [if_neg (by omega), if_neg (by omega), if_neg (by omega), if_neg (by omega), if_neg (by omega)]⟩
        · have z1' : 0 < sN σ 0 0 := z1
          omega
      rw [if_neg c6] at e; cases e)
    (fun k i j ok hk => by
      match k, ok with
      | 0, ok => obtain ⟨y1, rfl⟩ := ok; exact o0 i (by omega)
      | 1, ok => exact nul (by decide) (by decide) (by decide) (by decide) (by decide)
      | 3, ok => exact nul (by decide) (by decide) (by decide) (by decide) (by decide)
      | 4, ok => exact nul (by decide) (by decide) (by decide) (by decide) (by decide)
      | 5, ok =>
        rcases qE_ok ok with ⟨rfl, hb⟩ | ⟨rfl, hb⟩ | ⟨rfl, hb⟩
        · exact e50 j
        · exact o5 1 j (by omega)
        · exact o5 2 j (by omega)
      | 6, ok => obtain ⟨y1, rfl⟩ := ok; exact o6 i (by omega)
      | 7, ok => obtain ⟨y1, rfl⟩ := ok; exact o7 i (by omega)
      | 8, ok => exact nul (by decide) (by decide) (by decide) (by decide) (by decide)
      | 9, ok =>
        refine o9 i j ?_
        by_cases q : i = 0 ∧ j = 0
        · obtain ⟨rfl, rfl⟩ := q
          have : 0 < sN σ 0 0 := ok.2
          omega
        · omega)
    (fun k i j ok e => by
      match k, ok with
      | 0, ok =>
        have ok' : i < sN (wLine σ num) 0 0 ∧ j = 0 := ok
        obtain ⟨y1, rfl⟩ := ok'
        by_cases q : i = n
        · rw [q, e0] at e; cases e
        · exact ⟨by omega, rfl⟩
      | 1, ok =>
        have ok' : i < sN (wLine σ num) 0 0 ∧ j < sN (wLine σ num) 4 i := ok
        rw [Nb 4 (by decide)] at ok'
        by_cases q : i = n
        · rw [q, fresh.1] at ok'
          have := ok'.2
          omega
        · exact ⟨by omega, ok'.2⟩
      | 2, ok =>
        have ok' : i < sN (wLine σ num) 0 0 ∧ j < sN (wLine σ num) 4 i - 1 := ok
        rw [Nb 4 (by decide)] at ok'
        by_cases q : i = n
        · rw [q, fresh.1] at ok'
          have := ok'.2
          omega
        · exact ⟨by omega, ok'.2⟩
      | 3, ok =>
        have ok' : i < sN (wLine σ num) 1 0 ∧ j = 0 := ok
        rw [Nb 1 (by decide)] at ok'
        exact ok'
      | 4, ok =>
        have ok' : i < sN (wLine σ num) 2 0 ∧ j = 0 := ok
        rw [Nb 2 (by decide)] at ok'
        exact ok'
      | 5, ok =>
        rcases qE_ok ok with ⟨rfl, hb⟩ | ⟨rfl, hb⟩ | ⟨rfl, hb⟩
        · exact hb
        · by_cases q : j = n
          · rw [q, e51] at e; cases e
          · show j < sN σ 0 0
            omega
        · by_cases q : j = n
          · rw [q, e52] at e; cases e
          · show j < sN σ 0 0
            omega
      | 6, ok =>
        have ok' : i < sN (wLine σ num) 0 0 ∧ j = 0 := ok
        obtain ⟨y1, rfl⟩ := ok'
        by_cases q : i = n
        · rw [q, e6] at e; cases e
        · exact ⟨by omega, rfl⟩
      | 7, ok =>
        have ok' : i < sN (wLine σ num) 0 0 ∧ j = 0 := ok
        obtain ⟨y1, rfl⟩ := ok'
        by_cases q : i = n
        · rw [q, e7] at e; cases e
        · exact ⟨by omega, rfl⟩
      | 8, ok =>
        have ok' : i < sN (wLine σ num) 2 0 ∧ j = 0 := ok
        rw [Nb 2 (by decide)] at ok'
        exact ok'
      | 9, ok =>
        obtain ⟨ok1, ok2⟩ := ok
        rcases qE_ok ok1 with ⟨rfl, hb⟩ | ⟨rfl, hb⟩ | ⟨rfl, hb⟩
        · refine ⟨hb, ?_⟩
          have ok3 : 0 < sN (wLine σ num) j 0 := ok2
          show 0 < sN σ j 0
          by_cases q : j = 0
          · subst q
            by_cases q2 : n = 0
            · unfold nuLine at e
              rw [if_neg (by omega), if_neg (by omega), if_neg (by omega), if_neg (by omega), if_neg (by omega), if_pos ⟨q2, rfl, rfl, rfl⟩] at e
              cases e
            · omega
          · rw [Nb j q] at ok3; exact ok3
        · have ok3 : 0 < sN (wLine σ num) 4 j := ok2
          rw [Nb 4 (by decide)] at ok3
          by_cases q : j = n
          · rw [q, fresh.1] at ok3; omega
          · exact ⟨show j < sN σ 0 0 by omega, ok3⟩
        · have ok3 : 0 < sN (wLine σ num) 4 j - 1 := ok2
          rw [Nb 4 (by decide)] at ok3
          by_cases q : j = n
          · rw [q, fresh.1] at ok3; omega
          · exact ⟨show j < sN σ 0 0 by omega, ok3⟩)
    (fun l hl => by
      by_cases q : l = n
      · refine Or.inr ?_
        subst q
        rw [muN_new (by decide) e0, muN_new (by decide) e51, muN_new (by decide) e52, muN_new (by decide) e6, muN_new (by decide) e7]
        have z := rd o (by omega) (by omega)
        rw [(z 145).2, (z 146).2, (z 147).2, (z 148).2]
        exact rf
      · exact Or.inl (by omega))
    (fun w hw => Or.inl (by rw [Nb 2 (by decide)] at hw; exact hw))
    (fun a b ok => by
      rcases qE_ok ok with ⟨rfl, hb⟩ | ⟨rfl, hb⟩ | ⟨rfl, hb⟩
      · by_cases q : b = 0
        · subst q
          refine Or.inr ?_
          rw [show qN (sN (wLine σ num)) 0 0 = n + 1 from N0, if_neg (by omega), muN_old (by decide) (e50 0)]
          have qn : qN (sN σ) 0 0 = n := hsn
          have e9 : muN mu (nuLine n o arr') (fun _ => none) 9 0 0 = arr' := by
            by_cases q2 : n = 0
            · refine muN_new (by decide) ?_
              unfold nuLine
              rw [if_neg (by omega), if_neg (by omega), if_neg (by omega), if_neg (by omega), if_neg (by omega), if_pos ⟨q2, rfl, rfl, rfl⟩]
            · rw [muN_old (by decide) (o9 0 0 (by omega))]
              rcases Z with ⟨z1, -⟩ | ⟨z1, z2, -⟩
              · omega
              · rw [z2, if_neg (by omega)]
          rw [e9]
          rw [qn] at A1 A3
          refine ⟨A1, A2, fun i hi => ?_⟩
          rw [A3 i hi, qE_L, qE_L]
          by_cases q3 : i = n
          · rw [if_pos q3, q3, muN_new (by decide) e0]
          · rw [if_neg q3, muN_old (by decide) (o0 i q3)]
        · refine Or.inl ⟨fun z => q z.2, hb, Nb b q 0, fun i hi => ?_⟩
          have : b = 1 ∨ b = 2 ∨ b = 3 := by omega
          rcases this with rfl | rfl | rfl
          · rw [qE_H, qE_H]; exact muN_old (by decide) (nul (by decide) (by decide) (by decide) (by decide) (by decide))
          · rw [qE_W, qE_W]; exact muN_old (by decide) (nul (by decide) (by decide) (by decide) (by decide) (by decide))
          · rfl
      · by_cases q : b = n
        · refine Or.inr ?_
          subst q
          have q0 : qN (sN (wLine σ num)) 1 b = 0 := (Nb 4 (by decide) b).trans fresh.1
          rw [q0, if_pos rfl, muN_new (by decide) e51]
          have z := rd (o + 1) (by omega) (by omega)
          exact ⟨(z 210).1.trans ls.1, (z 209).2.trans ls.2.1, fun i hi => absurd hi (Nat.not_lt_zero _)⟩
        · refine Or.inl ⟨fun z => absurd z.1 (by decide), show b < sN σ 0 0 by omega, Nb 4 (by decide) b, fun i hi => ?_⟩
          rw [qE_P, qE_P]; exact muN_old (by decide) (nul (by decide) (by decide) (by decide) (by decide) (by decide))
      · by_cases q : b = n
        · refine Or.inr ?_
          subst q
          have q0 : qN (sN (wLine σ num)) 2 b = 0 := by
            show sN (wLine σ num) 4 b - 1 = 0
            rw [Nb 4 (by decide) b, fresh.1]
          rw [q0, if_pos rfl, muN_new (by decide) e52]
          have z := rd (o + 2) (by omega) (by omega)
          exact ⟨(z 210).1.trans ls.2.2.1, (z 209).2.trans ls.2.2.2, fun i hi => absurd hi (Nat.not_lt_zero _)⟩
        · refine Or.inl ⟨fun z => absurd z.1 (by decide), show b < sN σ 0 0 by omega, ?_, fun i hi => ?_⟩
          · show sN (wLine σ num) 4 b - 1 = sN σ 4 b - 1
            rw [Nb 4 (by decide) b]
          · rw [qE_J, qE_J]; exact muN_old (by decide) (nul (by decide) (by decide) (by decide) (by decide) (by decide)))
    (fun f i j ok => by
      have n5 := (mF_ok ok).2.2.2
      by_cases q : mT f = 0 ∧ i = n ∧ j = 0
      · obtain ⟨q1, rfl, rfl⟩ := q
        refine Or.inr ?_
        rw [q1, muN_new (by decide) e0]
        have z := rd o (by omega) (by omega)
        rcases mT_0 q1 with rfl | rfl | rfl | rfl
        · refine (z 144).1.trans (iv.1.trans ?_)
          simp [mV, wLine, sV_wN, sV_wV, hsn]
        · refine (z 149).1.trans (iv.2.1.trans ?_)
          simp [mV, wLine, sV_wN, sV_wV, fresh.2.1]
        · refine (z 151).1.trans (iv.2.2.2.trans ?_)
          simp [mV, wLine, sV_wN, sV_wV, fresh.2.2.1]
        · refine (z 150).1.trans (iv.2.2.1.trans ?_)
          simp [mV, wLine, sV_wN, sV_wV, fresh.2.2.2.1]
      · refine Or.inl ⟨?_, ?_⟩
        · by_cases q0 : mT f = 0
          · have ok' : vOk (sN (wLine σ num)) 0 i j := q0 ▸ ok
            have j0 : j = 0 := ok'.2
            subst j0
            rw [q0]
            exact o0 i (fun z => q ⟨q0, z, rfl⟩)
          · exact nul q0 (by omega) (by omega) (by omega) (by omega)
        · have ne : ¬ (f = 1 ∧ i = n ∧ j = 0) := fun z => q ⟨by rw [z.1]; rfl, z.2⟩
          unfold wLine
          rw [hsn, mV_wN, mV_ne (vOk_ne ok rfl), mV_nei ne])
    (fun k i x h6 ok h9 ha => by
      have : k = 6 ∨ k = 7 ∨ k = 8 := by omega
      rcases this with rfl | rfl | rfl
      · by_cases q : i = n
        · refine Or.inr ?_
          subst q
          rw [muN_new (by decide) e6, ((Q.1 (o + 3) (by omega)).2.2.1 x).1, (rw2 x ha).1]
          simp [mW, wLine, sR_wN, sR_wV, enc, fresh.2.2.2.2.2 x]
        · refine Or.inl ⟨o6 i q, ?_⟩
          unfold wLine
          rw [mW_wN, mW_wV (by decide) (by decide), mW_wV (by decide) (by decide)]
      · by_cases q : i = n
        · refine Or.inr ?_
          subst q
          rw [muN_new (by decide) e7, ((Q.1 (o + 4) (by omega)).2.2.1 x).1, (rw2 x ha).2]
          simp [mW, wLine, sV_wN, sV_wV, fresh.2.2.2.2.1 x]
        · refine Or.inl ⟨o7 i q, ?_⟩
          unfold wLine
          rw [mW_wN, mW_wV (by decide) (by decide), mW_wV (by decide) (by decide)]
      · refine Or.inl ⟨nul (by decide) (by decide) (by decide) (by decide) (by decide), ?_⟩
        unfold wLine
        rw [mW_wN, mW_wV (by decide) (by decide), mW_wV (by decide) (by decide)])
    (fun i => by simp [wLine, sV_wN, sV_wV])
    (fun x hx => Or.inl ⟨by rw [Nb 3 (by decide)] at hx; exact hx, rfl, by simp [wLine, sV_wN, sV_wV]⟩)
  exact k h' _ FK r
theorem M.addLine (m : M g B mu σ h) (c : zCnt σ) (nw : zNew σ) {num : Int32} {K : Int32 → AH → Prop} (p : mPost g B σ h 1 2 9 (spAddLine σ num) K) : f_X12_addLine g (some (B + 119)) num h K := by
  have c1 := c.1
  unfold spAddLine at p
  simp only [f_X12_addLine, f_X12_addLine_B32, m.cO, f_in, m.a192, m.cs0, m.s0 c]
  by_cases q1 : num < 1
  · rw [if_pos q1] at p
    simp only [if_pos q1, if_true]
    exact p.exR m rfl (by decide) (by decide)
  rw [if_neg q1] at p
  by_cases q2 : num ≤ 3
  · rw [if_pos q2] at p
    simp only [if_neg q1, if_neg (Int32.not_lt.mpr q2), e10, if_false]
    by_cases q3 : sN σ 0 0 < 4
    · rw [if_pos q3] at p
      rw [if_neg (show ¬ nI (sN σ 0 0) = 4 from fun z => by have z' : nI (sN σ 0 0) = nI 4 := z; rw [nI_eq (by omega) (by decide)] at z'; omega)]
      refine m.fail0 fun h1 fr m1 => ?_
      rw [if_pos rfl, m1.a192]
      refine m1.newLine c nw q3 fun h2 mu2 fr2 m2 => ?_
      have c2 : zCnt (wLine σ num) := ⟨q3, c.2.1, c.2.2.1, c.2.2.2.1, c.2.2.2.2⟩
      simp only [m2.a192, m2.cs0, m2.s0 c2]
      rw [show sN (wLine σ num) 0 0 = sN σ 0 0 + 1 from rfl, nI_pred]
      exact p.ok (fr.k fr2) m2
    · rw [if_neg q3] at p
      rw [if_pos (show nI (sN σ 0 0) = 4 by rw [show sN σ 0 0 = 4 by omega]; rfl)]
      exact p.exR m rfl (by decide) (by decide)
  · rw [if_neg q2] at p
    simp only [if_neg q1, if_pos (Int32.not_le.mp q2), if_true]
    exact p.exR m rfl (by decide) (by decide)
end MLI
