/-! lists grow, objects are made -/
def frQ (a arr n : Nat) (h h' : AH) : Prop := (∀ b, b < hN h → hK h' b = hK h b ∧ hL h' b = hL h b ∧ (∀ j, aI h' b j = aI h b j ∧ aJ h' b j = aJ h b j ∧ aD h' b j = aD h b j) ∧ (∀ f, b ≠ a ∨ f < 208 ∨ 210 < f → hI h' f b = hI h f b ∧ hA h' f b = hA h f b) ∧ (b ≠ arr ∨ n = 0 → ∀ j, aA h' b j = aA h b j)) ∧ hN h ≤ hN h'
def oKd (k : Nat) : Prop := k = 8 ∨ k = 9 ∨ k = 10 ∨ k = 11 ∨ k = 12 ∨ k = 21
/-- what an element put behind a list's last comes to -/
def Added (a arr n e : Nat) (x : Nat → Nat) (h h' : AH) (arr' : Nat) : Prop :=
  frQ a arr n h h' ∧ (n = 0 ∧ arr' = hN h ∧ hK h' arr' = 35 ∧ hL h' arr' = 10 ∧ hN h' = hN h + 1 ∨ 0 < n ∧ arr' = arr ∧ hN h' = hN h) ∧ hI h' 210 a = nI (n + 1) ∧ hA h' 209 a = some arr' ∧ ∀ i, i < n + 1 → aA h' arr' i = some (if i = n then e else x i)
theorem aA_tA (h : AH) (a j : Nat) (v : Option Nat) (b i : Nat) : aA (tA h a j v) b i = if b = a ∧ i = j then v else aA h b i := rfl
theorem AL.add {g : Nat → Nat} {h : AH} {a arr n e : Nat} {x : Nat → Nat} (L : AL (g 0) h a arr n x) (h0 : n = 0 → arr = g 0 ∧ hK h (g 0) = 55 ∧ hL h (g 0) = 0) (hn : n < 10) (ha : a < hN h) (hr : arr < hN h) (hee : e < hN h) (he : oKd (hK h e)) {K : Int32 → AH → Prop} (k : ∀ h' arr', Added a arr n e x h h' arr' → K 1 h') : f_Jx4a65c_add_9ea2d g (some a) (some e) h K := by
  obtain ⟨l1, l2, l3, l4, l5, l6⟩ := L
  have hane : a ≠ hN h := Nat.ne_of_lt ha
  have hene : e ≠ hN h := Nat.ne_of_lt hee
  unfold f_Jx4a65c_add_9ea2d
  rw [gI_eq l1 rfl]
  refine ⟨a, rfl, l1, ?_⟩
  dsimp only
  have e3 : hA (sI h 208 a (hI h 208 a + 1)) 209 a = some arr := l3
  have e4 : hI (sI h 208 a (hI h 208 a + 1)) 210 a = nI n := by rw [hI_sI, if_neg (fun q => absurd q.1 (by decide))]; exact l2
  have e1 : hK (sI h 208 a (hI h 208 a + 1)) a = 14 := l1
  rw [gA_eq e1 e3, gI_eq e1 e4, cast_eq e1]
  unfold f_Jx4a65c_add_72be8
  by_cases hn0 : n = 0
  · subst hn0
    obtain ⟨z1, z2, z3⟩ := h0 rfl
    subst z1
    have r1 : isR (sI h 208 a (hI h 208 a + 1)) (g 0) 5 := Or.inr z2
    have r2 : hL (sI h 208 a (hI h 208 a + 1)) (g 0) = 0 := z3
    rw [aLen_eq r1 r2, if_pos rfl, cast_eq e1]
    unfold f_Jx4a65c_grow_d5877 f_Jx4a65c_grow_92f84
    rw [gI_eq e1 e4, cast_eq e1, gA_eq e1 e3, aLen_eq r1 r2, if_neg (by decide), gA_eq e1 e3, if_pos rfl]
    refine ⟨by decide, ?_⟩
    refine ⟨a, rfl, ?_, ?_⟩
    · show u1 (hK h) (hN h) 35 a = 14
      unfold u1; rw [if_neg hane]; exact l1
    dsimp only
    unfold f_Jx4a65c_add_72be8_B11
    refine ⟨hN h, e, rfl, ?_, ?_, rfl, ?_, ?_⟩
    · simp [sA, nR, sI, hK, u1]
      intro z
      exact absurd rfl z
    · show vp_in (nI 0) (u1 (hL h) (hN h) 10 (hN h))
      unfold u1; rw [if_pos rfl]
      exact vp_in_nI (by decide) (by decide)
    · show oKd (u1 (hK h) (hN h) 35 e)
      unfold u1; rw [if_neg hene]
      exact he
    refine ⟨a, rfl, ?_, ?_⟩
    · show u1 (hK h) (hN h) 35 a = 14
      unfold u1; rw [if_neg hane]; exact l1
    dsimp only
    rw [okZ_1]
    refine k _ (hN h) ⟨⟨fun b hb => ?_, Nat.le_succ _⟩, Or.inl ⟨rfl, rfl, ?_, ?_, rfl⟩, ?_, ?_, fun i hi => ?_⟩
    · have hb9 : b ≠ hN h := Nat.ne_of_lt hb
      refine ⟨?_, ?_, fun j => ⟨?_, ?_, ?_⟩, fun f hf => ⟨?_, ?_⟩, fun _ j => ?_⟩
      · show u1 (hK h) (hN h) 35 b = hK h b
        unfold u1; rw [if_neg hb9]
      · show u1 (hL h) (hN h) 10 b = hL h b
        unfold u1; rw [if_neg hb9]
      · show (if b = hN h then 0 else aI h b j) = aI h b j
        rw [if_neg hb9]
      · show (if b = hN h then 0 else aJ h b j) = aJ h b j
        rw [if_neg hb9]
      · show (if b = hN h then 0 else aD h b j) = aD h b j
        rw [if_neg hb9]
      · show (if f = 210 ∧ b = a then _ else if f = 208 ∧ b = a then _ else hI h f b) = hI h f b
        rw [if_neg (fun z => by omega), if_neg (fun z => by omega)]
      · show (if f = 209 ∧ b = a then _ else hA h f b) = hA h f b
        rw [if_neg (fun z => by omega)]
      · show (if b = hN h ∧ j = _ then _ else if b = hN h then none else aA h b j) = aA h b j
        rw [if_neg (fun z => hb9 z.1), if_neg hb9]
    · show u1 (hK h) (hN h) 35 (hN h) = 35
      unfold u1; rw [if_pos rfl]
    · show u1 (hL h) (hN h) 10 (hN h) = 10
      unfold u1; rw [if_pos rfl]
    · rw [hI_sI, if_pos ⟨rfl, rfl⟩, nI_1]
    · show (if 209 = 209 ∧ a = a then some (hN h) else _) = some (hN h)
      rw [if_pos ⟨rfl, rfl⟩]
    · have hi0 : i = 0 := by omega
      subst hi0
      show (if hN h = hN h ∧ 0 = (nI 0).toNatClampNeg then some e else _) = _
      rw [if_pos ⟨rfl, by decide⟩, if_pos rfl]
  · have z : hK h arr = 35 ∧ hL h arr = 10 := by
      rcases l4 with z | z
      · exact absurd z.1 hn0
      · exact z
    have r1 : isR (sI h 208 a (hI h 208 a + 1)) arr 5 := Or.inl z.1
    have r2 : hL (sI h 208 a (hI h 208 a + 1)) arr = 10 := z.2
    rw [aLen_eq r1 r2, if_neg (fun y => by rw [nI_eq (by omega) (by decide)] at y; omega)]
    unfold f_Jx4a65c_add_72be8_B11
    have e9 : (nI n).toNatClampNeg = n := nI_clamp (by omega)
    refine ⟨arr, e, rfl, z.1, by rw [r2]; exact vp_in_nI hn (by decide), rfl, he, ?_⟩
    rw [e9]
    refine ⟨a, rfl, l1, ?_⟩
    dsimp only
    rw [okZ_1]
    refine k _ arr ⟨⟨fun b hb => ⟨rfl, rfl, fun j => ⟨rfl, rfl, rfl⟩, fun f hf => ⟨?_, rfl⟩, fun hb2 j => ?_⟩, Nat.le_refl _⟩, Or.inr ⟨by omega, rfl, rfl⟩, ?_, l3, fun i hi => ?_⟩
    · show (if f = 210 ∧ b = a then _ else if f = 208 ∧ b = a then _ else hI h f b) = hI h f b
      rw [if_neg (fun z => by omega), if_neg (fun z => by omega)]
    · show (if b = arr ∧ j = n then _ else aA h b j) = aA h b j
      rw [if_neg (fun z => by rcases hb2 with y | y; exact y z.1; exact hn0 y)]
    · rw [hI_sI, if_pos ⟨rfl, rfl⟩, nI_1]
    · show (if arr = arr ∧ i = n then some e else aA h arr i) = _
      by_cases q : i = n
      · rw [if_pos ⟨rfl, q⟩, if_pos q]
      · rw [if_neg (fun z => q z.2), if_neg q]
        exact l6 i (by omega)
theorem AL.set {e0 : Nat} {g : Nat → Nat} {h : AH} {a arr n e i : Nat} {x : Nat → Nat} (L : AL e0 h a arr n x) (hi : i < n) (he : oKd (hK h e)) {K : Option Nat → AH → Prop} (k : ∀ v, K v (tA h arr i (some e))) : f_Jx4a65c_set_bcc79 g (some a) (nI i) (some e) h K := by
  obtain ⟨l1, l2, l3, l4, l5, l6⟩ := L
  have z : hK h arr = 35 ∧ hL h arr = 10 := by
    rcases l4 with z | z
    · have := z.1
      omega
    · exact z
  have r1 : isR h arr 5 := Or.inl z.1
  unfold f_Jx4a65c_set_bcc79 f_J15_checkIndex_7cf53 f_J3_checkIndex_8e157 f_Jx4a65c_elementData_915e3
  rw [gI_eq l1 l2, if_neg (nI_pos (by omega)), if_pos (nI_lt hi (by omega))]
  dsimp only
  rw [cast_eq l1, gA_eq l1 l3, lA_eq r1 z.2 (by omega) (by decide) (l6 i hi), gA_eq l1 l3]
  have e9 : (nI i).toNatClampNeg = i := nI_clamp (by omega)
  refine ⟨arr, e, rfl, z.1, by rw [z.2]; exact vp_in_nI (by omega) (by decide), rfl, he, ?_⟩
  rw [e9]
  exact k _
/-- the ghost's addresses with new ones -/
def muN (mu : zM) (nu : Nat → Nat → Nat → Option Nat) (ci : Nat → Option Nat) : zM := fun k i j => if k = 10 then (ci i).getD (mu 10 i j) else (nu k i j).getD (mu k i j)
theorem muN_old {mu : zM} {nu : Nat → Nat → Nat → Option Nat} {ci : Nat → Option Nat} {k i j : Nat} (hk : k ≠ 10) (h : nu k i j = none) : muN mu nu ci k i j = mu k i j := by
  unfold muN; rw [if_neg hk, h]; rfl
theorem muN_new {mu : zM} {nu : Nat → Nat → Nat → Option Nat} {ci : Nat → Option Nat} {k i j a : Nat} (hk : k ≠ 10) (h : nu k i j = some a) : muN mu nu ci k i j = a := by
  unfold muN; rw [if_neg hk, h]; rfl
theorem MS.keepB {B : Nat} {h h' : AH} {a : Nat} {s : List Int32} (p : MS B h a s) (q : ∀ b, b < B → hK h' b = hK h b ∧ hL h' b = hL h b ∧ (∀ j, aI h' b j = aI h b j) ∧ ∀ f, f < 208 ∨ 210 < f → hI h' f b = hI h f b ∧ hA h' f b = hA h f b) : MS B h' a s := by
  obtain ⟨p1, p2, p3, b, p4, p5, p6, p7, p8⟩ := p
  have a1 := q a p3
  have b1 := q b p7
  exact ⟨a1.1.trans p1, (a1.2.2.2 321 (Or.inr (by decide))).1.trans p2, p3, b, (a1.2.2.2 320 (Or.inr (by decide))).2.trans p4, b1.1.trans p5, b1.2.1.trans p6, p7, fun i hi => (b1.2.2.1 i).trans (p8 i hi)⟩
theorem MC.keepB {g : Nat → Nat} {B : Nat} {h h' : AH} (p : MC g B h) (q : ∀ b, b < B → hK h' b = hK h b ∧ hL h' b = hL h b ∧ (∀ j, aI h' b j = aI h b j) ∧ ∀ f, f < 208 ∨ 210 < f → hI h' f b = hI h f b ∧ hA h' f b = hA h f b) (q2 : ∀ b, b < B → ∀ j, aA h' b j = aA h b j) : MC g B h' := by
  obtain ⟨⟨a1, a2, a3⟩, ⟨b1, b2, b3, b4⟩, ⟨c1, c2, c3, c4⟩, d1, d2, d3, d4⟩ := p
  have ka := q (g 0) a3
  have kb := q (g 1) b3
  have kc := q (g 2) c3
  refine ⟨⟨ka.1.trans a1, ka.2.1.trans a2, a3⟩, ⟨kb.1.trans b1, kb.2.1.trans b2, b3, ?_⟩, ⟨kc.1.trans c1, kc.2.1.trans c2, c3, ?_⟩, d1.keepB q, d2.keepB q, d3.keepB q, d4.keepB q⟩
  · rw [kb.2.2.1 0, kb.2.2.1 1, kb.2.2.1 2, kb.2.2.1 3]
    exact b4
  · intro x hx
    obtain ⟨c, e1, e2, e3, e4⟩ := c4 x hx
    have k := q c e4
    exact ⟨c, (q2 _ c3 _).trans e1, k.1.trans e2, (k.2.2.2 336 (Or.inr (by decide))).1.trans e3, e4⟩
theorem vOk_10 {n : zC} {k i j : Nat} (ok : vOk n k i j) : k ≠ 10 := fun q => by subst q; exact ok
theorem M.ext {g : Nat → Nat} {B : Nat} {mu : zM} {σ σ' : zS} {h h' : AH} (m : M g B mu σ h) (nu : Nat → Nat → Nat → Option Nat) (ci : Nat → Option Nat) (inv : Nat → Nat × Nat × Nat) (C : Nat → Nat → Prop)
    (hn : hN h ≤ hN h')
    (fr1 : ∀ b, b < hN h → hK h' b = hK h b ∧ hL h' b = hL h b ∧ (∀ j, aI h' b j = aI h b j) ∧ ∀ f, f < 208 ∨ 210 < f → hI h' f b = hI h f b ∧ hA h' f b = hA h f b)
    (fr2 : ∀ a b, lsOk (sN σ) a b → ¬ C a b → hI h' 210 (mu 5 a b) = hI h 210 (mu 5 a b) ∧ hA h' 209 (mu 5 a b) = hA h 209 (mu 5 a b))
    (fr3 : ∀ a b, lsOk (sN σ) a b → 0 < qN (sN σ) a b → ¬ C a b → ∀ i, aA h' (mu 9 a b) i = aA h (mu 9 a b) i)
    (fr4 : ∀ b, b < B → ∀ j, aA h' b j = aA h b j)
    (n1 : ∀ k i j a, nu k i j = some a → hN h ≤ a ∧ a < hN h' ∧ hK h' a = vK k ∧ (6 ≤ k → hL h' a = vL k) ∧ inv a = (k, i, j))
    (n3 : ∀ k i j, vOk (sN σ) k i j → k ≠ 2 → nu k i j = none)
    (n4 : ∀ k i j, vOk (sN σ') k i j → nu k i j = none → vOk (sN σ) k i j)
    (w3 : ∀ l, l < sN σ' 0 0 → l < sN σ 0 0 ∨ (hA h' 145 (muN mu nu ci 0 l 0) = some (muN mu nu ci 5 1 l) ∧ hA h' 146 (muN mu nu ci 0 l 0) = some (muN mu nu ci 5 2 l) ∧ hA h' 147 (muN mu nu ci 0 l 0) = some (muN mu nu ci 6 l 0) ∧ hA h' 148 (muN mu nu ci 0 l 0) = some (muN mu nu ci 7 l 0)))
    (w4 : ∀ w, w < sN σ' 2 0 → w < sN σ 2 0 ∨ hA h' 176 (muN mu nu ci 4 w 0) = some (muN mu nu ci 8 w 0))
    (w5 : ∀ a b, lsOk (sN σ') a b → (¬ C a b ∧ lsOk (sN σ) a b ∧ qN (sN σ') a b = qN (sN σ) a b ∧ ∀ i, i < qN (sN σ) a b → qE (muN mu nu ci) a b i = qE mu a b i) ∨ (hI h' 210 (muN mu nu ci 5 a b) = nI (qN (sN σ') a b) ∧ hA h' 209 (muN mu nu ci 5 a b) = some (if qN (sN σ') a b = 0 then g 0 else muN mu nu ci 9 a b) ∧ ∀ i, i < qN (sN σ') a b → aA h' (muN mu nu ci 9 a b) i = some (qE (muN mu nu ci) a b i)))
    (v1 : ∀ f i j, vOk (sN σ') (mT f) i j → (nu (mT f) i j = none ∧ mV σ' f i j = mV σ f i j) ∨ hI h' (mF f) (muN mu nu ci (mT f) i j) = mV σ' f i j)
    (v2 : ∀ k i a, 6 ≤ k → vOk (sN σ') k i 0 → k < 9 → a < vL k → (nu k i 0 = none ∧ mW σ' k i a = mW σ k i a) ∨ aI h' (muN mu nu ci k i 0) a = mW σ' k i a)
    (v3 : ∀ i, sV σ' 0 i 0 = sV σ 0 i 0)
    (v4 : ∀ c, c < sN σ' 3 0 → (c < sN σ 3 0 ∧ ci c = none ∧ sV σ' 17 c 0 = sV σ 17 c 0) ∨ (hK h' (muN mu nu ci 10 c 0) = 21 ∧ hI h' 336 (muN mu nu ci 10 c 0) = sV σ' 17 c 0 ∧ muN mu nu ci 10 c 0 < B)) : M g B (muN mu nu ci) σ' h' := by
  obtain ⟨⟨p1, p2, p3, p4, p5, ⟨p6, p7, p8⟩, p9, p10⟩, s1, s2, ⟨s3, s4, s5⟩, s6⟩ := m
  have old : ∀ {k i j : Nat}, vOk (sN σ') k i j → nu k i j = none → vOk (sN σ) k i j ∧ muN mu nu ci k i j = mu k i j := fun ok e => ⟨n4 _ _ _ ok e, muN_old (vOk_10 ok) e⟩
  have w0 : ∀ {k i j : Nat}, vOk (sN σ) k i j → k ≠ 2 → muN mu nu ci k i j = mu k i j := fun ok hk => muN_old (vOk_10 ok) (n3 _ _ _ ok hk)
  refine ⟨⟨?_, ?_, ?_, ?_, ?_, ⟨(fr1 _ p7).1.trans p6, Nat.lt_of_lt_of_le p7 hn, ?_⟩, ?_, p10.keepB (fun b hb => fr1 b (by omega)) fr4⟩, ?_, ?_, ⟨?_, ?_, ?_⟩, ?_⟩
  · intro k i j ok
    cases e : nu k i j with
    | none =>
      obtain ⟨o1, o2⟩ := old ok e
      obtain ⟨x1, x2, x3⟩ := p1 _ _ _ o1
      rw [o2]
      exact ⟨x1, Nat.lt_of_lt_of_le x2 hn, (fr1 _ x2).1.trans x3⟩
    | some a =>
      obtain ⟨x1, x2, x3, x4, x5⟩ := n1 _ _ _ _ e
      rw [muN_new (vOk_10 ok) e]
      exact ⟨by omega, x2, x3⟩
  · intro k i j k' i' j' ok ok' he
    cases e : nu k i j with
    | none =>
      obtain ⟨o1, o2⟩ := old ok e
      cases e' : nu k' i' j' with
      | none =>
        obtain ⟨o1', o2'⟩ := old ok' e'
        rw [o2, o2'] at he
        exact p2 _ _ _ _ _ _ o1 o1' he
      | some a' =>
        obtain ⟨x1, -⟩ := n1 _ _ _ _ e'
        rw [o2, muN_new (vOk_10 ok') e'] at he
        have := (p1 _ _ _ o1).2.1
        omega
    | some a =>
      obtain ⟨x1, x2, x3, x4, x5⟩ := n1 _ _ _ _ e
      rw [muN_new (vOk_10 ok) e] at he
      cases e' : nu k' i' j' with
      | none =>
        obtain ⟨o1', o2'⟩ := old ok' e'
        rw [o2'] at he
        have := (p1 _ _ _ o1').2.1
        omega
      | some a' =>
        obtain ⟨-, -, -, -, y5⟩ := n1 _ _ _ _ e'
        rw [muN_new (vOk_10 ok') e'] at he
        rw [← he, x5] at y5
        exact ⟨congrArg Prod.fst y5, congrArg (fun z => z.2.1) y5, congrArg (fun z => z.2.2) y5⟩
  · intro k i j ok h6
    cases e : nu k i j with
    | none =>
      obtain ⟨o1, o2⟩ := old ok e
      rw [o2]
      exact (fr1 _ (p1 _ _ _ o1).2.1).2.1.trans (p3 _ _ _ o1 h6)
    | some a =>
      rw [muN_new (vOk_10 ok) e]
      exact (n1 _ _ _ _ e).2.2.2.1 h6
  · intro l hl
    rcases w3 l hl with z | z
    · have x := (fr1 _ (p1 0 l 0 ⟨z, rfl⟩).2.1).2.2.2
      rw [w0 (k := 0) ⟨z, rfl⟩ (by decide), w0 (k := 5) (i := 1) (j := l) z (by decide), w0 (k := 5) (i := 2) (j := l) z (by decide), w0 (k := 6) ⟨z, rfl⟩ (by decide), w0 (k := 7) ⟨z, rfl⟩ (by decide), (x 145 (by omega)).2, (x 146 (by omega)).2, (x 147 (by omega)).2, (x 148 (by omega)).2]
      exact p4 l z
    · exact z
  · intro w hw
    rcases w4 w hw with z | z
    · rw [w0 (k := 4) ⟨z, rfl⟩ (by decide), w0 (k := 8) ⟨z, rfl⟩ (by decide), ((fr1 _ (p1 4 w 0 ⟨z, rfl⟩).2.1).2.2.2 176 (by omega)).2]
      exact p5 w z
    · exact z
  · intro b hb
    rw [w0 (k := 5) (i := 0) (j := b) hb (by decide), ((fr1 _ p7).2.2.2 _ (by omega)).2]
    exact p8 b hb
  · intro a b ok
    rcases w5 a b ok with ⟨z1, z2, z3, z4⟩ | z
    · obtain ⟨y1, y2, y3⟩ := p9 a b z2
      obtain ⟨f1, f2⟩ := fr2 a b z2 z1
      rw [w0 (k := 5) z2 (by decide), z3, f1, f2]
      refine ⟨y1, ?_, fun i hi => ?_⟩
      · rw [y2]
        by_cases q : qN (sN σ) a b = 0
        · rw [if_pos q, if_pos q]
        · rw [if_neg q, if_neg q, w0 (k := 9) ⟨z2, by omega⟩ (by decide)]
      · rw [w0 (k := 9) ⟨z2, by omega⟩ (by decide), z4 i hi, fr3 a b z2 (by omega) z1 i]
        exact y3 i hi
    · exact z
  · intro f i j ok
    rcases v1 f i j ok with ⟨z1, z2⟩ | z
    · obtain ⟨o1, o2⟩ := old ok z1
      rw [o2, z2, ((fr1 _ (p1 _ _ _ o1).2.1).2.2.2 _ (by have := (mF_ok ok).2.2.1; omega)).1]
      exact s1 f i j o1
    · exact z
  · intro k i a h6 ok h9 ha
    rcases v2 k i a h6 ok h9 ha with ⟨z1, z2⟩ | z
    · obtain ⟨o1, o2⟩ := old ok z1
      rw [o2, z2, (fr1 _ (p1 _ _ _ o1).2.1).2.2.1]
      exact s2 k i a h6 o1 h9 ha
    · exact z
  · rw [v3, ((fr1 _ p7).2.2.2 196 (by omega)).1]; exact s3
  · rw [v3, ((fr1 _ p7).2.2.2 197 (by omega)).1]; exact s4
  · rw [v3, ((fr1 _ p7).2.2.2 198 (by omega)).1]; exact s5
  · intro c hc
    rcases v4 c hc with ⟨z1, z2, z3⟩ | z
    · obtain ⟨y1, y2, y3⟩ := s6 c z1
      have e : muN mu nu ci 10 c 0 = mu 10 c 0 := by unfold muN; rw [if_pos rfl, z2]; rfl
      have x := fr1 (mu 10 c 0) (by omega)
      rw [e, z3]
      exact ⟨x.1.trans y1, (x.2.2.2 336 (by omega)).1.trans y2, y3⟩
    · exact z
