/-! orders and the best heat in the model -/
def spAll4 (σ : zS) (l : Nat) : Int32 := zfo (fun _ b => spAllP σ (sN σ 0 0) 0 b) 4 0 (sV σ 5 l 0)
def zAll4 (σ : zS) : Prop := ∀ l, l < sN σ 0 0 → spAll4 σ l = spAll σ l
theorem zfo_snoc {α : Type} (f : Nat → α → α) : ∀ (k i : Nat) (a : α), zfo f (k + 1) i a = f (i + k) (zfo f k i a) := by
  intro k
  induction k with
  | zero => intro i a; rfl
  | succ k ih =>
    intro i a
    show zfo f (k + 1) (i + 1) (f i a) = _
    rw [ih]
    show f (i + 1 + k) (zfo f k (i + 1) (f i a)) = f (i + (k + 1)) (zfo f k (i + 1) (f i a))
    rw [show i + 1 + k = i + (k + 1) by omega]
theorem zal_iff {p : Nat → Bool} : ∀ (k i : Nat), zal p k i = true ↔ ∀ j, i ≤ j → j < i + k → p j = true := by
  intro k
  induction k with
  | zero => intro i; exact ⟨fun _ j h1 h2 => by omega, fun _ => rfl⟩
  | succ k ih =>
    intro i
    show (p i && zal p k (i + 1)) = true ↔ _
    rw [Bool.and_eq_true, ih]
    refine ⟨fun ⟨h1, h2⟩ j hj1 hj2 => ?_, fun h => ⟨h i (Nat.le_refl _) (by omega), fun j hj1 hj2 => h j (by omega) (by omega)⟩⟩
    by_cases q : j = i
    · rw [q]; exact h1
    · exact h2 j (by omega) (by omega)
theorem hb_or {a b l : Int32} : hb (a ||| b) l = (hb a l || hb b l) := by
  have e1 : ((a ||| b) >>> (l &&& 31)) = ((a >>> (l &&& 31)) ||| (b >>> (l &&& 31))) := Int32.shiftRight_or
  have e2 : ∀ x y : Int32, ((x ||| y) &&& 1) = ((x &&& 1) ||| (y &&& 1)) := fun x y => Int32.toBitVec_inj.mp (by
    simp only [Int32.toBitVec_and, Int32.toBitVec_or]
    exact BitVec.and_or_distrib_right)
  unfold hb
  rw [e1, e2]
  rcases and1 (a >>> (l &&& 31)) with x | x <;> rcases and1 (b >>> (l &&& 31)) with y | y <;> rw [x, y] <;> decide
theorem hb_shl : ∀ i, i < 4 → ∀ o, o < 4 → hb (1 <<< (nI i &&& 31)) (nI o) = decide (o = i) := by decide +kernel
theorem need_eq {a d : Nat → Bool} {i s k : Nat} (h1 : s ≤ i) (h2 : i < s + k) : zal (fun o => !(a o || decide (o = i)) || d o) k s = (d i && zal (fun o => !a o || d o) k s) := by
  rw [Bool.eq_iff_iff, Bool.and_eq_true, zal_iff, zal_iff]
  refine ⟨fun h => ⟨?_, fun j j1 j2 => ?_⟩, fun ⟨h3, h4⟩ j j1 j2 => ?_⟩
  · have := h i h1 h2
    simpa using this
  · have := h j j1 j2
    cases e : a j
    · rfl
    · simpa [e] using this
  · by_cases q : j = i
    · rw [q, h3]; simp
    · have := h4 j j1 j2
      simpa [q] using this
section MD
variable {g : Nat → Nat} {B : Nat} {mu : zM} {σ : zS} {h0 h : AH} {K : Int32 → AH → Prop}
theorem M.allI (m : M g B mu σ h) (c : zCnt σ) {x3 : Int32} {rec19 : Option Nat → Int32 → Int32 → AH → Prop} : ∀ (k i fuel : Nat) (b : Int32), i + k = sN σ 0 0 → k < fuel → f_X12_allAhead_L27 g rec19 K fuel (some (B + 119)) b x3 (nI i) h = rec19 (some (B + 119)) (spAllP σ k i b) (x3 + 1) h := by
  have c1 := c.1
  intro k
  induction k with
  | zero =>
    intro i fuel b hi hf
    obtain ⟨n, rfl⟩ : ∃ n, fuel = n + 1 := ⟨fuel - 1, by omega⟩
    simp only [f_X12_allAhead_L27, f_X12_allAhead_L27b, m.a192, m.cs0, m.s0 c]
    rw [if_pos (nI_le (by omega) (by omega))]
    rfl
  | succ k ih =>
    intro i fuel b hi hf
    obtain ⟨n, rfl⟩ : ∃ n, fuel = n + 1 := ⟨fuel - 1, by omega⟩
    have hi2 : i < sN σ 0 0 := by omega
    simp only [f_X12_allAhead_L27, f_X12_allAhead_L27b, f_X12_allAhead_B73, m.a192, m.cs0, m.s0 c, m.gL c hi2, m.cL hi2, m.r150 hi2, and1_hb, nI_1]
    rw [if_neg (nI_ge hi2 (by omega)), ih (i + 1) n _ (by omega) (by omega), ih (i + 1) n _ (by omega) (by omega)]
    show _ = rec19 (some (B + 119)) (spAllP σ k (i + 1) (if hb b (nI i) then b ||| sV σ 5 i 0 else b)) (x3 + 1) h
    by_cases q : hb b (nI i) = true
    · rw [if_pos q, if_pos q]
    · rw [if_neg q, if_neg q, Int32.or_zero]
theorem M.allO (m : M g B mu σ h) (c : zCnt σ) : ∀ (k n fuel : Nat) (b : Int32), n + k = 4 → k < fuel → f_X12_allAhead_L19 g K fuel (some (B + 119)) b (nI n) h = K (zfo (fun _ b => spAllP σ (sN σ 0 0) 0 b) k n b) h := by
  have c1 := c.1
  intro k
  induction k with
  | zero =>
    intro i fuel b hi hf
    obtain ⟨n, rfl⟩ : ∃ n, fuel = n + 1 := ⟨fuel - 1, by omega⟩
    simp only [f_X12_allAhead_L19, f_X12_allAhead_L19b]
    rw [if_pos (show (4 : Int32) ≤ nI i from nI_le (a := 4) (b := i) (by omega) (by omega))]
    rfl
  | succ k ih =>
    intro i fuel b hi hf
    obtain ⟨n, rfl⟩ : ∃ n, fuel = n + 1 := ⟨fuel - 1, by omega⟩
    simp only [f_X12_allAhead_L19, f_X12_allAhead_L19b]
    rw [if_neg (show ¬ (4 : Int32) ≤ nI i from nI_ge (a := i) (b := 4) (by omega) (by omega))]
    have e := m.allI (K := K) c (x3 := nI i) (rec19 := fun x0 x2 x3 h => f_X12_allAhead_L19 g K n x0 x2 x3 h) (sN σ 0 0) 0 12 b (by omega) (by omega)
    rw [nI_0, nI_1] at e
    rw [e, ih (i + 1) n _ (by omega) (by omega)]
    rfl
theorem M.allAhead (m : M g B mu σ h) (c : zCnt σ) (a4 : zAll4 σ) {l : Nat} (hl : l < sN σ 0 0) : f_X12_allAhead g (some (B + 119)) (nI l) h K = K (spAll σ l) h := by
  simp only [f_X12_allAhead, m.a192, m.cs0, m.gL c hl, m.cL hl, m.r150 hl]
  have e := m.allO (K := K) c 4 0 12 (sV σ 5 l 0) (by omega) (by omega)
  rw [nI_0] at e
  rw [← a4 l hl]
  exact e
theorem M.ahead (m : M g B mu σ h) (c : zCnt σ) (a4 : zAll4 σ) {a b : Int32} (q : mPost g B σ h 3 1 4 (spAhead σ a b) K) : f_X12_ahead g (some (B + 119)) a b h K := by
  have c1 := c.1
  unfold spAhead oRow at q
  simp only [f_X12_ahead, f_X12_ahead_B17, f_X12_ahead_B48, f_X12_ahead_B85, m.cO, m.isLine c, if_true, e10, if_false, okZ_0, okZ_1, and1_hb]
  cases e : ix a (sN σ 0 0) with
  | none => rw [e] at q; exact q.exR m rfl (by decide) (by decide)
  | some i =>
    rw [e] at q
    obtain ⟨hi, rfl⟩ := ix_some (by omega) e
    dsimp only at q ⊢
    cases e2 : ix b (sN σ 0 0) with
    | none => rw [e2] at q; exact q.exR m rfl (by decide) (by decide)
    | some j =>
      rw [e2] at q
      obtain ⟨hj, rfl⟩ := ix_some (by omega) e2
      dsimp only at q ⊢
      simp only [nI_eq (show i < 2 ^ 31 by omega) (show j < 2 ^ 31 by omega)]
      by_cases q1 : i = j
      · rw [if_pos q1] at q ⊢; exact q.exR m rfl (by decide) (by decide)
      rw [if_neg q1] at q ⊢
      rw [m.allAhead c a4 hi]
      simp only [m.cO]
      by_cases q2 : hb (spAll σ i) (nI j) = true
      · rw [if_pos q2] at q ⊢; exact q.exR m rfl (by decide) (by decide)
      rw [if_neg q2] at q ⊢
      refine m.fail0 fun h1 fr m1 => ?_
      simp only [if_true, m1.a192, m1.cs0, m1.gL c hj, m1.cL hj, m1.r150 hj]
      by_cases q3 : hb (sV σ 5 j 0) (nI i) = true
      · rw [if_pos q3]
        refine m1.putI 5 j 0 ⟨hj, rfl⟩ (by decide) fun h2 fr2 m2 => ?_
        have z := q.ok (fr.k fr2) m2
        rw [q3] at z
        exact z
      · rw [if_neg q3]
        refine m1.putI 5 j 0 ⟨hj, rfl⟩ (by decide) fun h2 fr2 m2 => ?_
        have z := q.ok (fr.k fr2) m2
        rw [Bool.not_eq_true] at q3
        rw [q3] at z
        exact z
theorem M.doneL (m0 : M g B mu σ h0) (c : zCnt σ) (r : zRef σ) (fl : zFlag σ) (sh : zShare σ) {l : Nat} (hl : l < sN σ 0 0) : ∀ (k j fuel : Nat) (b : Bool) (h : AH), frO h0 h → j + k = sN σ 4 l - 1 → k < fuel → (∀ h', frO h0 h' → K (b2 (b && zal (fun j => decide (spLack σ l j = 45)) k j)) h') → f_X12_isDone_L35 g K fuel (some (B + 119)) (nI l) (nI (sN σ 4 l - 1)) (b2 b) (nI j) h := by
  have c2 := c.2.2.2.2 l
  intro k
  induction k with
  | zero =>
    intro j fuel b h fr hi hf q
    obtain ⟨n, rfl⟩ : ∃ n, fuel = n + 1 := ⟨fuel - 1, by omega⟩
    simp only [f_X12_isDone_L35, f_X12_isDone_L35b, okZ_b]
    rw [if_pos (nI_le (by omega) (by omega))]
    have z := q h fr
    simpa [zal] using z
  | succ k ih =>
    intro j fuel b h fr hi hf q
    obtain ⟨n, rfl⟩ : ∃ n, fuel = n + 1 := ⟨fuel - 1, by omega⟩
    have m := m0.old fr
    have hj : j < sN σ 4 l - 1 := by omega
    simp only [f_X12_isDone_L35, f_X12_isDone_L35b, f_X12_isDone_B59, m.cO, nI_1, b2_and1, b2_and0]
    rw [if_neg (nI_ge hj (by omega))]
    refine m.lackOf c r fl sh hl hj fun h1 fr1 => ?_
    have go := fun (b' : Bool) => ih (j + 1) n b' h1 (fr.trans fr1) (by omega) (by omega)
    by_cases q1 : spLack σ l j = 45
    · rw [if_pos q1]
      refine go b fun h' fr' => ?_
      have z := q h' fr'
      rw [zal_and] at z
      simpa [q1] using z
    · rw [if_neg q1]
      refine go false fun h' fr' => ?_
      have z := q h' fr'
      rw [zal_and] at z
      simpa [q1] using z
theorem M.isDone (m : M g B mu σ h) (c : zCnt σ) (r : zRef σ) (fl : zFlag σ) (sh : zShare σ) {l : Nat} (hl : l < sN σ 0 0) (k : ∀ h', frO h h' → K (b2 (spDone σ l)) h') : f_X12_isDone g (some (B + 119)) (nI l) h K := by
  have c2 := c.2.2.2.2 l
  simp only [f_X12_isDone, f_X12_isDone_B31, m.a192, m.cs0, m.gL c hl, m.cL hl, m.a146 hl, m.csJ hl, m.sJ c hl]
  have e := fun b => m.doneL (K := K) c r fl sh hl (sN σ 4 l - 1) 0 12 b h frO.refl (by omega) (by omega)
  rw [nI_0] at e
  unfold spDone at k
  by_cases q : 0 < sN σ 4 l - 1
  · rw [if_neg (nI_nle q (by omega))]
    refine e true fun h' fr => ?_
    have z := k h' fr
    simpa [q] using z
  · have q0 : sN σ 4 l - 1 = 0 := by omega
    rw [if_pos (by rw [q0]; decide)]
    refine e false fun h' fr => ?_
    have z := k h' fr
    simpa [q] using z
theorem M.readyL (m0 : M g B mu σ h0) (c : zCnt σ) (r : zRef σ) (fl : zFlag σ) (sh : zShare σ) (a4 : zAll4 σ) {l : Nat} (hl : l < sN σ 0 0) : ∀ (k o fuel : Nat) (b : Bool) (h : AH), frO h0 h → o + k = sN σ 0 0 → k < fuel → (∀ h', frO h0 h' → K (b2 (b && zal (fun o => !hb (spAll σ l) (nI o) || spDone σ o) k o)) h') → f_X12_isReady_L30 g K fuel (some (B + 119)) (nI l) (b2 b) (nI o) h := by
  have c1 := c.1
  intro k
  induction k with
  | zero =>
    intro j fuel b h fr hi hf q
    obtain ⟨n, rfl⟩ : ∃ n, fuel = n + 1 := ⟨fuel - 1, by omega⟩
    have m := m0.old fr
    simp only [f_X12_isReady_L30, f_X12_isReady_L30b, m.a192, m.cs0, m.s0 c, okZ_b]
    rw [if_pos (nI_le (by omega) (by omega))]
    have z := q h fr
    simpa [zal] using z
  | succ k ih =>
    intro j fuel b h fr hi hf q
    obtain ⟨n, rfl⟩ : ∃ n, fuel = n + 1 := ⟨fuel - 1, by omega⟩
    have m := m0.old fr
    have hj : j < sN σ 0 0 := by omega
    simp only [f_X12_isReady_L30, f_X12_isReady_L30b, f_X12_isReady_B64, f_X12_isReady_B69, m.a192, m.cs0, m.s0 c, m.cO, m.allAhead c a4 hl, nI_1, b2_and1, b2_and0, and0_hb]
    rw [if_neg (nI_ge hj (by omega))]
    by_cases q0 : hb (spAll σ l) (nI j) = false
    · rw [if_pos q0]
      refine ih (j + 1) n b h fr (by omega) (by omega) fun h' fr' => ?_
      have z := q h' fr'
      rw [zal_and] at z
      simpa [q0] using z
    · rw [if_neg q0]
      refine m.isDone c r fl sh hj fun h1 fr1 => ?_
      have go := fun (b' : Bool) => ih (j + 1) n b' h1 (fr.trans fr1) (by omega) (by omega)
      rw [Bool.not_eq_false] at q0
      cases q1 : spDone σ j
      · rw [if_pos (show b2 false = 0 by decide)]
        refine go false fun h' fr' => ?_
        have z := q h' fr'
        rw [zal_and] at z
        simpa [q1, q0] using z
      · rw [if_neg (show ¬ b2 true = 0 by decide)]
        refine go b fun h' fr' => ?_
        have z := q h' fr'
        rw [zal_and] at z
        simpa [q1, q0] using z
theorem M.isReady (m : M g B mu σ h) (c : zCnt σ) (r : zRef σ) (fl : zFlag σ) (sh : zShare σ) (a4 : zAll4 σ) {l : Int32} (p : mPost g B σ h 3 9 9 (spReady σ l) K) : f_X12_isReady g (some (B + 119)) l h K := by
  have c1 := c.1
  unfold spReady oRow at p
  simp only [f_X12_isReady, f_X12_isReady_B14, m.cO, m.isLine c, if_true, e10, if_false, okZ_0]
  cases e : ix l (sN σ 0 0) with
  | none => rw [e] at p; exact p.exR m rfl (by decide) (by decide)
  | some i =>
    rw [e] at p
    obtain ⟨hi, rfl⟩ := ix_some (by omega) e
    refine m.fail0 fun h1 fr m1 => ?_
    simp only [if_true, m1.cO]
    refine m1.isDone c r fl sh hi fun h2 fr2 => ?_
    have m2 := m1.old fr2
    have e2 := m2.readyL (K := K) c r fl sh a4 hi (sN σ 0 0) 0 12 (spDone σ i) h2 frO.refl (by omega) (by omega)
    rw [nI_0] at e2
    refine e2 fun h3 fr3 => ?_
    have z := p.ok (fr.k ((fr2.K m1.hB).trans (fr3.K m2.hB))) (m2.old fr3)
    have e3 : zal (fun o => !hb (spNeed σ i) (nI o) || spDone σ o) (sN σ 0 0) 0 = (spDone σ i && zal (fun o => !hb (spAll σ i) (nI o) || spDone σ o) (sN σ 0 0) 0) := by
      rw [← need_eq (a := fun o => hb (spAll σ i) (nI o)) (i := i) (by omega) (by omega)]
      rw [Bool.eq_iff_iff, zal_iff, zal_iff]
      have e4 : ∀ j, j < 0 + sN σ 0 0 → hb (spNeed σ i) (nI j) = (hb (spAll σ i) (nI j) || decide (j = i)) := fun j hj => by
        unfold spNeed
        rw [hb_or, hb_shl i (by omega) j (by omega)]
      exact ⟨fun h j j1 j2 => by rw [← e4 j j2]; exact h j j1 j2, fun h j j1 j2 => by rw [e4 j j2]; exact h j j1 j2⟩
    rw [e3] at z
    exact z
theorem M.bestL (m : M g B mu σ h) (c : zCnt σ) {sz al : Int32} : ∀ (k n fuel : Nat) (b : Option Nat), (∀ q, b = some q → q < sN σ 1 0) → n + k = sN σ 1 0 → k < fuel → f_X12_best_L5 g K fuel (some (B + 119)) sz al (enc b) (nI n) h = K (enc (zfo (bStep σ sz al) k n b)) h := by
  have c1 := c.2.1
  intro k
  induction k with
  | zero =>
    intro n fuel b hb8 hi hf
    obtain ⟨f, rfl⟩ : ∃ f, fuel = f + 1 := ⟨fuel - 1, by omega⟩
    simp only [f_X12_best_L5, f_X12_best_L5b, m.a193, m.cs1, m.s1 c]
    rw [if_pos (nI_le (by omega) (by omega))]
    rfl
  | succ k ih =>
    intro n fuel b hb8 hi hf
    obtain ⟨f, rfl⟩ : ∃ f, fuel = f + 1 := ⟨fuel - 1, by omega⟩
    have hn : n < sN σ 1 0 := by omega
    have hs8 : ∀ q, (some n : Option Nat) = some q → q < sN σ 1 0 := fun q z => by cases z; exact hn
    have i1 := ih (n + 1) f b hb8 (by omega) (by omega)
    have i2 := ih (n + 1) f (some n) hs8 (by omega) (by omega)
    rw [show enc (some n) = nI n from rfl] at i2
    simp only [f_X12_best_L5, f_X12_best_L5b, f_X12_best_B90, f_X12_best_B93, m.a193, m.cs1, m.s1 c, m.gH c hn, m.cH hn, m.r112 hn, m.r114 hn, m.r113 hn, nI_1]
    rw [if_neg (nI_ge hn (by omega))]
    show _ = K (enc (zfo (bStep σ sz al) k (n + 1) (bStep σ sz al n b))) h
    by_cases q1 : sV σ 11 n 0 = al
    · rw [if_pos q1]
      by_cases q2 : sV σ 14 n 0 = 0
      · rw [if_pos q2, i1, show bStep σ sz al n b = b by unfold bStep; rw [if_neg (fun z => z.2.1 q2)]]
      · rw [if_neg q2]
        by_cases q3 : sV σ 13 n 0 < sz
        · rw [if_pos q3, i1, show bStep σ sz al n b = b by unfold bStep; rw [if_neg (fun z => z.2.2 q3)]]
        · rw [if_neg q3]
          cases b with
          | none =>
            rw [if_pos (show enc none = -1 from rfl), i2, show bStep σ sz al n none = some n by unfold bStep; rw [if_pos ⟨q1, q2, q3⟩]]
          | some b =>
            have hb := hb8 b rfl
            rw [show enc (some b) = nI b from rfl] at i1 ⊢
            simp only [nI_m1 (show b < 2 ^ 31 by omega), if_false, m.gH c hb, m.cH hb, m.r113 hb]
            by_cases q4 : sV σ 13 b 0 ≤ sV σ 13 n 0
            · rw [if_pos q4, i1, show bStep σ sz al n (some b) = some b by unfold bStep; rw [if_pos ⟨q1, q2, q3⟩]; exact if_pos q4]
            · rw [if_neg q4, i2, show bStep σ sz al n (some b) = some n by unfold bStep; rw [if_pos ⟨q1, q2, q3⟩]; exact if_neg q4]
    · rw [if_neg q1, i1, show bStep σ sz al n b = b by unfold bStep; rw [if_neg (fun z => q1 z.1)]]
theorem best_lt {σ : zS} {sz al : Int32} {N : Nat} : ∀ (k n : Nat) (b : Option Nat), (∀ q, b = some q → q < N) → n + k = N → ∀ q, zfo (bStep σ sz al) k n b = some q → q < N := by
  intro k
  induction k with
  | zero => intro n b h _ q e; exact h q e
  | succ k ih =>
    intro n b h hn q e
    refine ih (n + 1) (bStep σ sz al n b) (fun q' e' => ?_) (by omega) q e
    unfold bStep at e'
    split at e'
    · cases b with
      | none => cases e'; omega
      | some b =>
        dsimp only at e'
        split at e'
        · cases e'; exact h _ rfl
        · cases e'; omega
    · exact h q' e'
theorem in_alloy {a : Int32} : (if a < 0 then (0 : Int32) else if 3 < a then 0 else 1) = if isAlloy a then 1 else 0 := by
  by_cases q1 : a < 0
  · rw [if_pos q1]; simp [isAlloy, q1]
  · rw [if_neg q1]
    obtain ⟨j, hj, rfl⟩ := nI_of q1
    unfold isAlloy
    rw [show (4 : Int32) = nI 4 from rfl]
    by_cases q2 : j < 4
    · rw [if_neg (show ¬ (3 : Int32) < nI j from nI_nlt (a := 3) (b := j) (by omega) (by omega))]
      simp [q1, nI_leI (show 4 < 2 ^ 31 by decide) hj, show ¬ 4 ≤ j by omega]
    · rw [if_pos (show (3 : Int32) < nI j from nI_lt (a := 3) (b := j) (by omega) hj)]
      simp [q1, nI_leI (show 4 < 2 ^ 31 by decide) hj, show 4 ≤ j by omega]
theorem M.bestHeat (m : M g B mu σ h) (c : zCnt σ) {l p al : Int32} (q : mPost g B σ h 3 1 5 (spBest σ l p al) K) : f_X12_bestHeat g (some (B + 119)) l p al h K := by
  have c1 := c.1
  have c3 := c.2.1
  unfold spBest oPart at q
  simp only [f_X12_bestHeat, f_X12_bestHeat_B28, f_X12_bestHeat_B64, m.cO, m.isPart c, if_true, e10, if_false, f_in, in_alloy]
  cases e : ix l (sN σ 0 0) with
  | none => rw [e] at q; exact q.exR m rfl (by decide) (by decide)
  | some i =>
    rw [e] at q
    obtain ⟨hi, rfl⟩ := ix_some (by omega) e
    have c2 := c.2.2.2.2 i
    dsimp only at q ⊢
    cases e2 : ix p (sN σ 4 i) with
    | none => rw [e2] at q; exact q.exR m rfl (by decide) (by decide)
    | some j =>
      rw [e2] at q
      obtain ⟨hj, rfl⟩ := ix_some (by omega) e2
      dsimp only at q ⊢
      cases q0 : isAlloy al with
      | false =>
        rw [q0] at q
        simp only [Bool.false_eq_true, if_false] at q
        simp only [Bool.false_eq_true, if_false, if_true]
        exact q.exR m rfl (by decide) (by decide)
      | true =>
        rw [q0] at q
        simp only [if_true] at q
        simp only [if_true, e10, if_false]
        refine m.fail0 fun h1 fr m1 => ?_
        simp only [if_true, m1.cO, m1.part c hi hj, m1.r161 hi hj, f_X12_best]
        have e3 := fun K => m1.bestL (K := K) c (sz := sV σ 7 i j) (al := al) (sN σ 1 0) 0 12 none (fun q z => by cases z) (by omega) (by omega)
        rw [nI_0] at e3
        rw [show enc none = (-1 : Int32) from rfl] at e3
        rw [e3]
        have lt := best_lt (σ := σ) (sz := sV σ 7 i j) (al := al) (N := sN σ 1 0) (sN σ 1 0) 0 none (fun q z => by cases z) (by omega)
        cases e4 : zfo (bStep σ (sV σ 7 i j) al) (sN σ 1 0) 0 none with
        | none =>
          rw [e4] at q
          simp only [enc, if_true, m1.cO]
          refine m1.failE (by decide) fun h2 fr2 e5 m2 => ?_
          rw [if_neg (by decide)]
          exact q h2 mu 0 (fr.1.trans fr2) e5 m2 (fun z => absurd (show (5 : Nat) = 0 from z) (by decide))
        | some b =>
          rw [e4] at q
          have hb := lt b e4
          simp only [enc, nI_m1 (show b < 2 ^ 31 by omega), if_false, m1.cO]
          refine m1.fail0 fun h2 fr2 m2 => ?_
          rw [if_pos rfl]
          exact q.ok ⟨fr.1.trans fr2.1, fr2.2⟩ m2
theorem M.nextL (m : M g B mu σ h) (c : zCnt σ) {x1 x4 over : Int32} {rec40 : Option Nat → Int32 → Int32 → Int32 → Int32 → AH → Prop} : ∀ (k i fuel : Nat) (j : Nat), spNextL σ over k i = nI j → j < 4 → i + k = sN σ 0 0 → k < fuel → f_X12_turnover_L48 g rec40 K fuel (some (B + 119)) x1 over (nI i) x4 h = rec40 (some (B + 119)) x1 (over ||| (1 <<< (nI j &&& 31))) (nI j) (x4 + 1) h := by
  have c1 := c.1
  intro k
  induction k with
  | zero =>
    intro i fuel j e hj
    refine absurd e ?_
    show ¬ (-1 : Int32) = nI j
    intro z
    have := nI_m1 (q := j) (by omega)
    rw [← z] at this
    simp at this
  | succ k ih =>
    intro i fuel j e hj hi hf
    obtain ⟨n, rfl⟩ : ∃ n, fuel = n + 1 := ⟨fuel - 1, by omega⟩
    have hi2 : i < sN σ 0 0 := by omega
    have e' : (if hb over (nI i) = false ∧ sV σ 5 i 0 &&& (over ^^^ (-1)) = 0 then nI i else spNextL σ over k (i + 1)) = nI j := e
    simp only [f_X12_turnover_L48, f_X12_turnover_L48b, f_X12_turnover_B80, and1_hb, m.a192, m.cs0, m.gL c hi2, m.cL hi2, m.r150 hi2, nI_1]
    by_cases q1 : hb over (nI i) = true
    · rw [if_pos q1]
      rw [if_neg (fun z => by rw [q1] at z; exact absurd z.1 (by decide))] at e'
      exact ih (i + 1) n j e' hj (by omega) (by omega)
    · rw [if_neg q1]
      rw [Bool.not_eq_true] at q1
      by_cases q2 : sV σ 5 i 0 &&& (over ^^^ (-1)) = 0
      · rw [if_pos q2]
        rw [if_pos ⟨q1, q2⟩] at e'
        rw [e']
      · rw [if_neg q2]
        rw [if_neg (fun z => q2 z.2)] at e'
        exact ih (i + 1) n j e' hj (by omega) (by omega)
/-- there always is a next one -/
def zNext (σ : zS) : Prop := ∀ i, i < sN σ 0 0 → ∃ j, j < 4 ∧ spNext σ (zfo (tuStep σ) i 0 0) = nI j
theorem M.turnL (m : M g B mu σ h) (c : zCnt σ) (nx : zNext σ) {n : Nat} (hn : n < sN σ 0 0) : ∀ (k i fuel : Nat) (last : Int32), i + k = n + 1 → k < fuel → f_X12_turnover_L40 g K fuel (some (B + 119)) (nI n) (zfo (tuStep σ) i 0 0) last (nI i) h = K (if k = 0 then last else spNext σ (zfo (tuStep σ) n 0 0)) h := by
  have c1 := c.1
  intro k
  induction k with
  | zero =>
    intro i fuel last hi hf
    obtain ⟨f, rfl⟩ : ∃ f, fuel = f + 1 := ⟨fuel - 1, by omega⟩
    simp only [f_X12_turnover_L40, f_X12_turnover_L40b]
    rw [if_pos (nI_lt (by omega) (by omega))]
    rfl
  | succ k ih =>
    intro i fuel last hi hf
    obtain ⟨f, rfl⟩ : ∃ f, fuel = f + 1 := ⟨fuel - 1, by omega⟩
    simp only [f_X12_turnover_L40, f_X12_turnover_L40b]
    rw [if_neg (nI_nlt (by omega) (by omega))]
    obtain ⟨j, hj, ej⟩ := nx i (by omega)
    have e := m.nextL (K := K) c (x1 := nI n) (x4 := nI i) (over := zfo (tuStep σ) i 0 0) (rec40 := fun x0 x1 x2 x3 x4 h => f_X12_turnover_L40 g K f x0 x1 x2 x3 x4 h) (sN σ 0 0) 0 12 j ej hj (by omega) (by omega)
    rw [nI_0] at e
    rw [e, nI_1]
    have e2 : (zfo (tuStep σ) i 0 0 ||| (1 <<< (nI j &&& 31))) = zfo (tuStep σ) (i + 1) 0 0 := by
      rw [zfo_snoc]
      unfold tuStep
      rw [← ej]
      rfl
    rw [e2, ih (i + 1) f _ (by omega) (by omega), if_neg (show ¬ k + 1 = 0 by omega)]
    by_cases q : k = 0
    · subst q
      rw [if_pos rfl, ← ej, show i = n by omega]
    · rw [if_neg q]
theorem M.turnover (m : M g B mu σ h) (c : zCnt σ) (nx : zNext σ) {l : Int32} (p : mPost g B σ h 5 9 9 (spTurnover σ l) K) : f_X12_turnover g (some (B + 119)) l h K := by
  have c1 := c.1
  unfold spTurnover at p
  simp only [f_X12_turnover, f_X12_turnover_B25, m.cO, m.a192, m.cs0, m.s0 c, f_in]
  rw [in_ix (by omega)]
  cases e : ix l (sN σ 0 0) with
  | none =>
    rw [e] at p
    simp only [Option.isSome_none, Bool.false_eq_true, if_false, if_true]
    exact p.exR m rfl (by decide) (by decide)
  | some i =>
    rw [e] at p
    obtain ⟨hi, rfl⟩ := ix_some (by omega) e
    simp only [Option.isSome_some, if_true, e10, if_false]
    refine m.fail0 fun h1 fr m1 => ?_
    rw [if_pos rfl]
    have e2 := m1.turnL (K := K) c nx hi (i + 1) 0 12 (-1) (by omega) (by omega)
    rw [nI_0, if_neg (show ¬ i + 1 = 0 by omega)] at e2
    exact e2.mpr (p.ok fr m1)
end MD
