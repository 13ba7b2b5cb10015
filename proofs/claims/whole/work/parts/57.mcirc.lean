/-! circuits, orders, the best heat in the model -/
theorem nI_div2 : ∀ k, k < 8 → nI k / 2 = nI (k / 2) := by decide +kernel
theorem cnt0 {Q : Nat → Bool} : ∀ (k i s : Nat), s + k < 100 → ((zfo (fun j a => a + if Q j = true then 0 else 1) k i (nI s) = (0 : Int32)) = (s = 0 ∧ zal Q k i = true)) := by
  intro k
  induction k with
  | zero =>
    intro i s hs
    show (nI s = 0) = (s = 0 ∧ true = true)
    by_cases q : s = 0
    · subst q; simp [nI_0]
    · simp [q, nI_ne0 (n := s) (by omega) (by omega)]
  | succ k ih =>
    intro i s hs
    show (zfo _ k (i + 1) (nI s + if Q i = true then 0 else 1) = 0) = (s = 0 ∧ (Q i && zal Q k (i + 1)) = true)
    cases e : Q i
    · rw [if_neg (by simp), nI_1, ih (i + 1) (s + 1) (by omega)]
      simp
    · rw [if_pos rfl, Int32.add_zero, ih (i + 1) s (by omega)]
      simp
theorem b2_and1 {b : Bool} : b2 b &&& 1 = b2 b := by cases b <;> decide
theorem b2_and0 {b : Bool} : b2 b &&& 0 = b2 false := by cases b <;> decide
theorem b2_0 {b : Bool} : (b2 b = 0) = (b = false) := by cases b <;> decide
theorem okZ_b {b : Bool} {P : Prop} : okZ (b2 b) P = P := by cases b <;> simp [b2, okZ_0, okZ_1]
theorem zal_and {p : Nat → Bool} : ∀ (k i : Nat) (b : Bool), (b && zal p (k + 1) i) = ((b && p i) && zal p k (i + 1)) := fun k i b => by
  show (b && (p i && zal p k (i + 1))) = _
  cases b <;> rfl
section MC1
variable {g : Nat → Nat} {B : Nat} {mu : zM} {σ : zS} {h0 h : AH} {K : Int32 → AH → Prop}
theorem M.openStep (m : M g B mu σ h) (c : zCnt σ) (r : zRef σ) {i l a : Nat} (hi : i < sN σ 3 0) (hl : l < sN σ 0 0) (ha : a < 2) {acc : Int32} {rec4 : Option Nat → Int32 → Int32 → Int32 → AH → Prop} {rec20 : Option Nat → Int32 → Int32 → Int32 → Int32 → AH → Prop} : f_X12_openOf_L20b g rec4 rec20 (some (B + 119)) (nI i) acc (nI l) (nI a) h K = rec20 (some (B + 119)) (nI i) (acc + if (hb (sV σ 17 i 0) (nI l) && spIsOpen σ l a (sV σ 17 i 0)) = true then 1 else 0) (nI l) (nI (a + 1)) h := by
  have c1 := c.1
  have h2 : ¬ (2 : Int32) = 0 := by decide
  simp only [f_X12_openOf_L20b, f_X12_openOf_B82, f_X12_openOf_B86, f_X12_openOf_B87, f_X12_openOf_B108, f_X12_openOf_B109, m.a192, m.cs0, m.gL c hl, m.cL hl, m.a148 hl, m.lBl hl ha, m.a147 hl, m.lJn hl ha, m.cO, m.isOf c hi, nI_1, if_true, e10, if_false, Int32.add_zero, h2, not_false_eq_true, true_and]
  rw [if_neg (show ¬ (2 : Int32) ≤ nI a from nI_ge (a := a) (b := 2) ha (by decide))]
  unfold spIsOpen
  by_cases q1 : sV σ 10 l a = 0
  · rw [if_pos q1, if_pos q1]
    cases e : sR σ 2 l a with
    | none =>
      simp only [enc, if_true]
      cases hb (sV σ 17 i 0) (nI l) <;> simp
    | some k =>
      have hk := r.2.2 l a k e
      simp only [enc, nI_m1 (show k < 2 ^ 31 by omega), if_false, nI_div2 k (by omega), m.isOf c hi]
      by_cases a1 : hb (sV σ 17 i 0) (nI l) = true <;> by_cases a2 : hb (sV σ 17 i 0) (nI (k / 2)) = true <;> simp [a1, a2]
  · rw [if_neg q1, if_neg q1]
    cases hb (sV σ 17 i 0) (nI l) <;> simp
theorem M.openL (m : M g B mu σ h) (c : zCnt σ) (r : zRef σ) {i : Nat} (hi : i < sN σ 3 0) : ∀ (k l fuel : Nat) (acc : Int32), l + k = sN σ 0 0 → k < fuel → f_X12_openOf_L4 g K fuel (some (B + 119)) (nI i) acc (nI l) h = K (zfo (fun l a => if hb (sV σ 17 i 0) (nI l) then (a + if spIsOpen σ l 0 (sV σ 17 i 0) then 1 else 0) + if spIsOpen σ l 1 (sV σ 17 i 0) then 1 else 0 else a) k l acc) h := by
  have c1 := c.1
  intro k
  induction k with
  | zero =>
    intro l fuel acc hi hf
    obtain ⟨n, rfl⟩ : ∃ n, fuel = n + 1 := ⟨fuel - 1, by omega⟩
    simp only [f_X12_openOf_L4, f_X12_openOf_L4b, m.a192, m.cs0, m.s0 c]
    rw [if_pos (nI_le (by omega) (by omega))]
    rfl
  | succ k ih =>
    intro l fuel acc hi2 hf
    obtain ⟨n, rfl⟩ : ∃ n, fuel = n + 1 := ⟨fuel - 1, by omega⟩
    have hl : l < sN σ 0 0 := by omega
    simp only [f_X12_openOf_L4, f_X12_openOf_L4b, m.a192, m.cs0, m.s0 c]
    rw [if_neg (nI_ge hl (by omega))]
    show f_X12_openOf_L20b g _ _ (some (B + 119)) (nI i) acc (nI l) (nI 0) h K = _
    rw [m.openStep c r hi hl (by decide)]
    show f_X12_openOf_L20b g _ _ (some (B + 119)) (nI i) _ (nI l) (nI 1) h K = _
    rw [m.openStep c r hi hl (by decide)]
    show f_X12_openOf_L20b g _ _ (some (B + 119)) (nI i) _ (nI l) (nI 2) h K = _
    unfold f_X12_openOf_L20b
    rw [if_pos (show (2 : Int32) ≤ nI 2 by decide), nI_1]
    show f_X12_openOf_L4 g K n (some (B + 119)) (nI i) _ (nI (l + 1)) h = _
    rw [ih (l + 1) n _ (by omega) (by omega)]
    show _ = K (zfo _ k (l + 1) (if hb (sV σ 17 i 0) (nI l) then (acc + if spIsOpen σ l 0 (sV σ 17 i 0) then 1 else 0) + if spIsOpen σ l 1 (sV σ 17 i 0) then 1 else 0 else acc)) h
    cases hb (sV σ 17 i 0) (nI l) <;> cases spIsOpen σ l 0 (sV σ 17 i 0) <;> cases spIsOpen σ l 1 (sV σ 17 i 0) <;> simp
theorem M.openOf (m : M g B mu σ h) (c : zCnt σ) (r : zRef σ) {i : Nat} (hi : i < sN σ 3 0) : f_X12_openOf g (some (B + 119)) (nI i) h K = K (spOpen σ (sV σ 17 i 0)) h := by
  have c1 := c.1
  unfold f_X12_openOf
  have e := m.openL (K := K) c r hi (sN σ 0 0) 0 12 0 (by omega) (by omega)
  rw [nI_0] at e
  exact e
theorem M.opens (m : M g B mu σ h) (c : zCnt σ) (r : zRef σ) {l : Int32} (p : mPost g B σ h 3 9 9 (oRow σ 3 l fun i => (0, spOpen σ (sV σ 17 i 0), σ)) K) : f_X12_open g (some (B + 119)) l h K := by
  have c1 := c.2.2.2.1
  unfold oRow at p
  simp only [f_X12_open, f_X12_open_B14, m.cO, m.isCircuit c, if_true, e10, if_false]
  cases e : ix l (sN σ 3 0) with
  | none => rw [e] at p; exact p.exR m rfl (by decide) (by decide)
  | some i =>
    rw [e] at p
    obtain ⟨hi, rfl⟩ := ix_some (by omega) e
    refine m.fail0 fun h1 fr m1 => ?_
    simp only [if_true, m1.cO, m1.openOf c r hi]
    exact p.ok fr m1
theorem M.canL (m0 : M g B mu σ h0) (c : zCnt σ) (r : zRef σ) (fl : zFlag σ) (sh : zShare σ) {i : Nat} (hi : i < sN σ 3 0) : ∀ (k l fuel : Nat) (b : Bool) (h : AH), frO h0 h → l + k = sN σ 0 0 → k < fuel → (∀ h', frO h0 h' → K (b2 (b && zal (fun l => !hb (sV σ 17 i 0) (nI l) || spCan σ l) k l)) h') → f_X12_can_L16 g K fuel (some (B + 119)) (nI i) (b2 b) (nI l) h := by
  have c1 := c.1
  intro k
  induction k with
  | zero =>
    intro l fuel b h fr hi hf q
    obtain ⟨n, rfl⟩ : ∃ n, fuel = n + 1 := ⟨fuel - 1, by omega⟩
    have m := m0.old fr
    simp only [f_X12_can_L16, f_X12_can_L16b, m.a192, m.cs0, m.s0 c, okZ_b]
    rw [if_pos (nI_le (by omega) (by omega))]
    have z := q h fr
    simpa [zal] using z
  | succ k ih =>
    intro l fuel b h fr hi2 hf q
    obtain ⟨n, rfl⟩ : ∃ n, fuel = n + 1 := ⟨fuel - 1, by omega⟩
    have m := m0.old fr
    have hl : l < sN σ 0 0 := by omega
    have c2 := c.2.2.2.2 l
    replace q : ∀ h', frO h0 h' → K (b2 ((b && (!hb (sV σ 17 i 0) (nI l) || spCan σ l)) && zal (fun l => !hb (sV σ 17 i 0) (nI l) || spCan σ l) k (l + 1))) h' := fun h' fr' => by
      have z := q h' fr'
      rw [zal_and] at z
      exact z
    simp only [f_X12_can_L16, f_X12_can_L16b, f_X12_can_B79, f_X12_can_B83, f_X12_can_B84, m.a192, m.cs0, m.s0 c, m.cO, m.isOf c hi, nI_1, b2_and1, b2_and0, if10]
    rw [if_neg (nI_ge hl (by omega))]
    have go := fun (b' : Bool) (h' : AH) (fr' : frO h0 h') => ih (l + 1) n b' h' fr' (by omega) (by omega)
    cases e1 : hb (sV σ 17 i 0) (nI l) with
    | false =>
      rw [if_pos rfl]
      refine go b h fr fun h' fr' => ?_
      have z := q h' fr'
      rw [e1] at z
      simpa using z
    | true =>
      rw [if_neg (by simp)]
      rw [e1] at q
      simp only [m.a192, m.cs0, m.gL c hl, m.cL hl]
      refine m.manyNb c fl hl fun h1 fr1 => ?_
      have m1 := m.old fr1
      have e2 := cnt0 (Q := jPass σ l) (sN σ 4 l - 1) 0 0 (by omega)
      rw [nI_0] at e2
      by_cases q1 : zal (jPass σ l) (sN σ 4 l - 1) 0 = true
      · rw [if_pos (e2.mpr ⟨rfl, q1⟩)]
        simp only [m1.a192, m1.cs0, m1.gL c hl, m1.cL hl]
        refine m1.toLook9 c fl sh hl fun h2 fr2 => ?_
        by_cases q2 : spDue σ l = 0
        · rw [if_pos q2]
          refine go b h2 (fr.trans (fr1.trans fr2)) fun h' fr' => ?_
          have z := q h' fr'
          have e3 : spCan σ l = true := by
            show (zal (jPass σ l) (sN σ 4 l - 1) 0 && decide (spDue σ l = 0)) = true
            rw [q1, q2]; rfl
          rw [e3] at z
          simpa using z
        · rw [if_neg q2]
          refine go false h2 (fr.trans (fr1.trans fr2)) fun h' fr' => ?_
          have z := q h' fr'
          have e3 : spCan σ l = false := by
            show (zal (jPass σ l) (sN σ 4 l - 1) 0 && decide (spDue σ l = 0)) = false
            rw [q1]; simp [q2]
          rw [e3] at z
          simpa using z
      · rw [if_neg (fun z => q1 (e2.mp z).2)]
        refine go false h1 (fr.trans fr1) fun h' fr' => ?_
        have z := q h' fr'
        have e3 : spCan σ l = false := by
          show (zal (jPass σ l) (sN σ 4 l - 1) 0 && decide (spDue σ l = 0)) = false
          rw [Bool.not_eq_true] at q1
          rw [q1]; rfl
        rw [e3] at z
        simpa using z
theorem M.can (m : M g B mu σ h) (c : zCnt σ) (r : zRef σ) (fl : zFlag σ) (sh : zShare σ) {i : Nat} (hi : i < sN σ 3 0) (k : ∀ h', frO h h' → K (b2 (spTestable σ (sV σ 17 i 0))) h') : f_X12_can g (some (B + 119)) (nI i) h K := by
  have c1 := c.1
  simp only [f_X12_can, f_X12_can_B13, m.cO, m.openOf c r hi]
  have e := fun b => m.canL (K := K) c r fl sh hi (sN σ 0 0) 0 12 b h frO.refl (by omega) (by omega)
  rw [nI_0] at e
  unfold spTestable at k
  by_cases q : spOpen σ (sV σ 17 i 0) = 0
  · rw [if_pos q]
    refine e true fun h' fr => ?_
    have z := k h' fr
    rw [q] at z
    simpa using z
  · rw [if_neg q]
    refine e false fun h' fr => ?_
    have z := k h' fr
    simpa [q] using z
theorem M.canTest (m : M g B mu σ h) (c : zCnt σ) (r : zRef σ) (fl : zFlag σ) (sh : zShare σ) {l : Int32} (p : mPost g B σ h 3 9 9 (oRow σ 3 l fun i => (0, b2 (spTestable σ (sV σ 17 i 0)), σ)) K) : f_X12_canTest g (some (B + 119)) l h K := by
  have c1 := c.2.2.2.1
  unfold oRow at p
  simp only [f_X12_canTest, f_X12_canTest_B14, m.cO, m.isCircuit c, if_true, e10, if_false, okZ_0, okZ_1]
  cases e : ix l (sN σ 3 0) with
  | none => rw [e] at p; exact p.exR m rfl (by decide) (by decide)
  | some i =>
    rw [e] at p
    obtain ⟨hi, rfl⟩ := ix_some (by omega) e
    refine m.fail0 fun h1 fr m1 => ?_
    simp only [if_true, m1.cO]
    refine m1.can c r fl sh hi fun h2 fr2 => ?_
    have z := p.ok (fr.k (fr2.K m1.hB)) (m1.old fr2)
    unfold b2 at z ⊢
    cases e4 : spTestable σ (sV σ 17 i 0)
    · rw [e4] at z; simpa using z
    · rw [e4] at z; simpa using z
theorem wV_self (σ : zS) (f i j : Nat) : wV σ f i j (sV σ f i j) = σ := by
  unfold wV
  refine Prod.ext rfl (Prod.ext ?_ rfl)
  funext a b c
  dsimp only
  by_cases q : a = f ∧ b = i ∧ c = j
  · obtain ⟨rfl, rfl, rfl⟩ := q; rw [if_pos ⟨rfl, rfl, rfl⟩]; rfl
  · rw [if_neg q]
theorem M.testL {N i : Nat} (hN : N ≤ 4) {bits : Int32} : ∀ (k l fuel : Nat) (τ : zS) (acc : Int32) (h : AH), sN τ 0 0 = N → i < sN τ 3 0 → sV τ 17 i 0 = bits → zCnt τ → (∀ l, sV τ 4 l 0 = 0 ∨ sV τ 4 l 0 = 1) → M g B mu τ h → l + k = N → k < fuel → (∀ h', frK B h h' → M g B mu (zfo (tStep bits) k l (τ, acc)).1 h' → K (zfo (tStep bits) k l (τ, acc)).2 h') → f_X12_testAll_L38 g K fuel (some (B + 119)) (nI i) acc (nI l) h := by
  intro k
  induction k with
  | zero =>
    intro l fuel τ acc h hτ hi hb c fl m hl hf q
    obtain ⟨n, rfl⟩ : ∃ n, fuel = n + 1 := ⟨fuel - 1, by omega⟩
    simp only [f_X12_testAll_L38, f_X12_testAll_L38b, m.a192, m.cs0, m.s0 c, hτ]
    rw [if_pos (nI_le (by omega) (by omega))]
    exact q h frK.refl m
  | succ k ih =>
    intro l fuel τ acc h hτ hi hbb c fl m hl hf q
    obtain ⟨n, rfl⟩ : ∃ n, fuel = n + 1 := ⟨fuel - 1, by omega⟩
    have h4 : l < sN τ 0 0 := by omega
    have e0 : zfo (tStep bits) (k + 1) l (τ, acc) = zfo (tStep bits) k (l + 1) (tStep bits l (τ, acc)) := rfl
    rw [e0] at q
    simp only [f_X12_testAll_L38, f_X12_testAll_L38b, f_X12_testAll_B103, m.a192, m.cs0, m.s0 c, m.gL c h4, m.cL h4, m.r151 h4, m.cO, m.isOf c hi, hbb, nI_1]
    rw [if_neg (nI_ge h4 (by omega))]
    by_cases q1 : hb bits (nI l) = true
    · rw [show tStep bits l (τ, acc) = (wV τ 4 l 0 1, acc + 1) by unfold tStep; rw [if_pos q1]] at q
      have e1 : (sV τ 4 l 0 ||| (if hb bits (nI l) = true then (1 : Int32) else 0)) = 1 := by
        rw [if_pos q1]; rcases fl l with z | z <;> rw [z] <;> decide
      rw [e1, okZ_1]
      refine m.putI 4 l 0 ⟨h4, rfl⟩ (by decide) fun h1 fr1 m1 => ?_
      simp only [m1.a192, m1.cs0, m1.gL c h4, m1.cL h4, m1.r151 h4, sV_wV, and_self, if_true, e10, if_false]
      refine ih (l + 1) n (wV τ 4 l 0 1) _ h1 hτ hi ?_ c ?_ m1 (by omega) (by omega) fun h2 fr2 m2 => q h2 (fr1.trans fr2) m2
      · rw [sV_wV, if_neg (fun z => absurd z.1 (by decide))]; exact hbb
      · intro l'
        rw [sV_wV]
        by_cases z : l' = l
        · rw [if_pos ⟨rfl, z, rfl⟩]; exact Or.inr rfl
        · rw [if_neg (fun y => z y.2.1)]; exact fl l'
    · have e1 : (sV τ 4 l 0 ||| (if hb bits (nI l) = true then (1 : Int32) else 0)) = sV τ 4 l 0 := by
        rw [if_neg q1]; rcases fl l with z | z <;> rw [z] <;> decide
      rw [e1, okZ_f (fl l)]
      refine m.putI 4 l 0 ⟨h4, rfl⟩ (by decide) fun h1 fr1 m1 => ?_
      rw [wV_self] at m1
      simp only [m1.a192, m1.cs0, m1.gL c h4, m1.cL h4, m1.r151 h4]
      by_cases q2 : sV τ 4 l 0 = 0
      · rw [show tStep bits l (τ, acc) = (τ, acc) by unfold tStep; rw [if_neg q1, if_pos q2]] at q
        rw [if_pos q2, Int32.add_zero]
        exact ih (l + 1) n _ _ h1 hτ hi hbb c fl m1 (by omega) (by omega) fun h2 fr2 m2 => q h2 (fr1.trans fr2) m2
      · rw [show tStep bits l (τ, acc) = (τ, acc + 1) by unfold tStep; rw [if_neg q1, if_neg q2]] at q
        rw [if_neg q2]
        exact ih (l + 1) n _ _ h1 hτ hi hbb c fl m1 (by omega) (by omega) fun h2 fr2 m2 => q h2 (fr1.trans fr2) m2
theorem M.testAll (m : M g B mu σ h) (c : zCnt σ) (r : zRef σ) (fl : zFlag σ) (sh : zShare σ) {l : Int32} (p : mPost g B σ h 3 4 9 (spTestAll σ l) K) : f_X12_testAll g (some (B + 119)) l h K := by
  have c1 := c.2.2.2.1
  have c0 := c.1
  unfold spTestAll oRow at p
  simp only [f_X12_testAll, f_X12_testAll_B26, m.cO, m.isCircuit c, if_true, e10, if_false]
  cases e : ix l (sN σ 3 0) with
  | none => rw [e] at p; exact p.exR m rfl (by decide) (by decide)
  | some i =>
    rw [e] at p
    obtain ⟨hi, rfl⟩ := ix_some (by omega) e
    dsimp only at p ⊢
    refine m.can c r fl sh hi fun h2 fr2 => ?_
    have m2 := m.old fr2
    by_cases q : spTestable σ (sV σ 17 i 0) = true
    · rw [if_pos q] at p
      rw [q]
      rw [if_neg (show ¬ b2 true = 0 by decide), m2.cO]
      refine m2.fail0 fun h3 fr3 m3 => ?_
      rw [if_pos rfl]
      have e2 := M.testL (K := K) (g := g) (B := B) (mu := mu) (N := sN σ 0 0) (i := i) c0 (bits := sV σ 17 i 0) (sN σ 0 0) 0 12 σ 0 h3 rfl hi rfl c fl.1 m3 (by omega) (by omega) fun h4 fr4 m4 => p.ok (frC.k ⟨(fr2.M m.hB).trans fr3.1, fr3.2⟩ fr4) m4
      rw [nI_0] at e2
      exact e2
    · rw [if_neg q] at p
      rw [Bool.not_eq_true] at q
      rw [q]
      rw [if_pos (show b2 false = 0 by decide), m2.cO]
      refine m2.failE (by decide) fun h3 fr3 e3 m3 => ?_
      rw [if_neg (by decide)]
      exact p h3 mu 0 ((fr2.M m.hB).trans fr3) e3 m3 (fun z => absurd (show (4 : Nat) = 0 from z) (by decide))
end MC1
