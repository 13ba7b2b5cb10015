/-! the model's iterations and texts -/
theorem IT.step {e0 : Nat} {h0 h : AH} {a arr n : Nat} {x : Nat → Nat} {g : Nat → Nat} {o c : Nat} (fr : frN h0 h) (ho : hN h0 ≤ o) (I : IT h o a c) (L : AL e0 h a arr n x) (hc : c < n) {K : Option Nat → AH → Prop} (k : ∀ h', frN h0 h' → IT h' o a (c + 1) → K (some (x c)) h') : f_Jx35411_next_0502b g (some o) h K :=
  I.next L hc fun h' f1 f2 f3 f4 f5 f6 f7 f8 f9 i' => k h' (fr.step ho f1 f2 f3 f4 f5 f6 f7 f8 f9) i'
theorem M.iter {g : Nat → Nat} {B : Nat} {mu : zM} {σ : zS} {h : AH} (m : M g B mu σ h) (c : zCnt σ) {a b : Nat} (ok : lsOk (sN σ) a b) {K : Option Nat → AH → Prop} (k : ∀ h' o, frN h h' → hN h ≤ o → IT h' o (mu 5 a b) 0 → K (some o) h') : f_Jx4a65c_iterator_32c93 g (some (mu 5 a b)) h K := (m.al c ok).iter (m.1.1 5 a b ok).2.1 k
def sFind (s : List Int32) (y : Int32) : Nat → Nat → Int32
  | 0, _ => -1
  | k + 1, i => if s.getD i 0 = y then nI i else sFind s y k (i + 1)
def sIdx (s : List Int32) (x : Int32) : Int32 := if x < 0 then -1 else if 255 < x then -1 else sFind s x.toInt8.toInt32 s.length 0
theorem gIc_eq {h : AH} {a q f : Nat} {v : Int32} {kk : Int32 → Prop} (hk : hK h a = q) (hv : hI h f a = v) : gIc h (some a) q f kk = kk v := by
  subst hv
  exact propext ⟨fun ⟨_, e, _, q⟩ => by cases e; exact q, fun q => ⟨a, rfl, hk, q⟩⟩
theorem gAc_eq {h : AH} {a q f : Nat} {v : Option Nat} {kk : Option Nat → Prop} (hk : hK h a = q) (hv : hA h f a = v) : gAc h (some a) q f kk = kk v := by
  subst hv
  exact propext ⟨fun ⟨_, e, _, q⟩ => by cases e; exact q, fun q => ⟨a, rfl, hk, q⟩⟩
theorem okB_0 {P : Prop} : okB 0 P = P := propext ⟨fun q => q.2, fun p => ⟨by decide, p⟩⟩
theorem sFindL {g : Nat → Nat} {h : AH} {b : Nat} {s : List Int32} {y : Int32} {K : Int32 → AH → Prop} (h1 : isR h b 4) (h2 : hL h b = s.length) (h3 : ∀ i, i < s.length → aI h b i = s.getD i 0) (h4 : s.length < 11) : ∀ (k i fuel : Nat), i + k = s.length → k < fuel → f_J1_indexOfChar_4cfef_L7 g K fuel (some b) (nI s.length) y (nI i) h = K (sFind s y k i) h := by
  intro k
  induction k with
  | zero =>
    intro i fuel hi hf
    obtain ⟨m, rfl⟩ : ∃ m, fuel = m + 1 := ⟨fuel - 1, by omega⟩
    simp only [f_J1_indexOfChar_4cfef_L7, f_J1_indexOfChar_4cfef_L7b]
    rw [if_pos (nI_le (by omega) (by omega))]
    rfl
  | succ k ih =>
    intro i fuel hi hf
    obtain ⟨m, rfl⟩ : ∃ m, fuel = m + 1 := ⟨fuel - 1, by omega⟩
    have hi2 : i < s.length := by omega
    simp only [f_J1_indexOfChar_4cfef_L7, f_J1_indexOfChar_4cfef_L7b, lI_eq h1 h2 hi2 (by omega) (h3 i hi2), nI_1]
    rw [if_neg (nI_ge hi2 (by omega)), ih (i + 1) m (by omega) (by omega)]
    unfold sFind
    by_cases q : s.getD i 0 = y
    · rw [if_pos q, if_pos q]
    · rw [if_neg q, if_neg q]
      cases k <;> rfl
theorem MS.indexOf {g : Nat → Nat} {B : Nat} {h : AH} {a : Nat} {s : List Int32} (p : MS B h a s) (hs : 0 < s.length) (hs2 : s.length < 11) {x : Int32} {K : Int32 → AH → Prop} : f_J0_indexOf_0f7a4 g (some a) x h K = K (sIdx s x) h := by
  obtain ⟨p1, p2, p3, b, p4, p5, p6, p7, p8⟩ := p
  have e0 : ((0 : Int32) &&& 31) = 0 := by decide
  have hr : isR h b 4 := Or.inr p5
  simp only [f_J0_indexOf_0f7a4, f_J0_indexOf_7cf53, f_J0_isLatin1_aae02, f_J0_length_8abf5, f_J0_coder_7d493, f_J1_indexOf_4cfef, f_J1_canEncode_9a6ad, f_J1_indexOfChar_4cfef, cast_eq p1, e10, if_false, gIc_eq p1 p2, if_true, okZ_1, gAc_eq p1 p4, aLen_eq hr p6, okB_0, e0, Int32.shiftRight_zero, okZ_0]
  unfold sIdx
  by_cases q1 : x < 0
  · rw [if_pos q1, if_pos q1]
  rw [if_neg q1, if_neg q1]
  by_cases q2 : 255 < x
  · rw [if_pos q2, if_pos q2]
  rw [if_neg q2, if_neg q2]
  have e1 : ¬ (0 : Int32) < 0 := by decide
  have e2 : ¬ nI s.length < nI s.length := nI_nlt (Nat.le_refl _) (by omega)
  have e3 : (0 : Int32) < nI s.length := nI_lt (a := 0) hs (by omega)
  rw [if_neg e1, if_neg e2, if_pos e3]
  have z := sFindL (g := g) (y := x.toInt8.toInt32) (K := K) (Or.inr p5) p6 p8 hs2 s.length 0 12 (by omega) (by omega)
  rw [nI_0] at z
  exact z
theorem zfo_congr {α : Type} {f f' : Nat → α → α} (e : ∀ i a, f i a = f' i a) (k i : Nat) (a : α) : zfo f k i a = zfo f' k i a := by
  rw [show f = f' from funext fun i => funext fun a => e i a]
/-- the share that is told of a class is the class's -/
def zShare (σ : zS) : Prop := ∀ l, l < sN σ 0 0 → ∃ k, 1 ≤ k ∧ k ≤ 3 ∧ sV σ 1 l 0 = nI k ∧ sV σ 2 l 0 = (if k = 1 then 5 else if k = 2 then 20 else 100)
section MI
variable {g : Nat → Nat} {B : Nat} {mu : zM} {σ : zS} {h0 h : AH}
theorem M.lenL (m0 : M g B mu σ h0) (c : zCnt σ) {l o : Nat} (hl : l < sN σ 0 0) (ho : hN h0 ≤ o) {K : Int32 → AH → Prop} : ∀ (k i fuel : Nat) (acc : Int32) (h : AH), frN h0 h → IT h o (mu 5 1 l) i → i + k = sN σ 4 l → k < fuel → (∀ h', frN h0 h' → K (zfo (fun p a => a + sV σ 7 l p) k i acc) h') → f_X9_length_L12 g K fuel acc (some o) h := by
  intro k
  induction k with
  | zero =>
    intro i fuel acc h fr I hi hf q
    obtain ⟨n, rfl⟩ : ∃ n, fuel = n + 1 := ⟨fuel - 1, by omega⟩
    have m := m0.old fr.O
    have L := m.al c (a := 1) (b := l) hl
    simp only [f_X9_length_L12, f_X9_length_L12b, cast_eq I.1, I.hasNext L (show i ≤ qN (sN σ) 1 l by simp only [qN]; omega)]
    rw [if_pos (show i = qN (sN σ) 1 l by simp only [qN]; omega), if_pos rfl]
    exact q h fr
  | succ k ih =>
    intro i fuel acc h fr I hi hf q
    obtain ⟨n, rfl⟩ : ∃ n, fuel = n + 1 := ⟨fuel - 1, by omega⟩
    have m := m0.old fr.O
    have L := m.al c (a := 1) (b := l) hl
    have hi2 : i < sN σ 4 l := by omega
    simp only [f_X9_length_L12, f_X9_length_L12b, cast_eq I.1, I.hasNext L (show i ≤ qN (sN σ) 1 l by simp only [qN]; omega)]
    rw [if_neg (show ¬ i = qN (sN σ) 1 l by simp only [qN]; omega), if_neg (by decide)]
    refine IT.step fr ho I L hi2 fun h1 fr1 I1 => ?_
    have m1 := m0.old fr1.O
    simp only [show qE mu 1 l i = mu 1 l i from rfl, m1.cP hl hi2, m1.r161 hl hi2]
    exact ih (i + 1) n _ h1 fr1 I1 (by omega) (by omega) q
theorem M.length9 (m : M g B mu σ h) (c : zCnt σ) {l : Nat} (hl : l < sN σ 0 0) {K : Int32 → AH → Prop} (k : ∀ h', frO h h' → K (spTotal σ l) h') : f_X9_length g (some (mu 0 l 0)) h K := by
  have c2 := c.2.2.2.2 l
  unfold f_X9_length
  rw [m.a145 hl, m.csP hl]
  refine m.iter c (a := 1) (b := l) hl fun h1 o fr ho I => ?_
  exact m.lenL c hl ho (sN σ 4 l) 0 12 0 h1 fr I (by omega) (by omega) fun h2 fr2 => k h2 fr2.O
theorem M.cntL (m0 : M g B mu σ h0) (c : zCnt σ) {l o x : Nat} (hl : l < sN σ 0 0) (ho : hN h0 ≤ o) {s : List Int32} (hs : ∀ h, M g B mu σ h → MS B h x s) (hs0 : 0 < s.length) (hs2 : s.length < 11) {K : Int32 → AH → Prop} : ∀ (k i fuel : Nat) (acc : Int32) (h : AH), frN h0 h → IT h o (mu 5 2 l) i → i + k = sN σ 4 l - 1 → k < fuel → (∀ h', frN h0 h' → K (zfo (fun j a => a + if sIdx s (sV σ 8 l j) < 0 then 0 else 1) k i acc) h') → f_X9_many_L12 g K fuel (some x) acc (some o) h := by
  intro k
  induction k with
  | zero =>
    intro i fuel acc h fr I hi hf q
    obtain ⟨n, rfl⟩ : ∃ n, fuel = n + 1 := ⟨fuel - 1, by omega⟩
    have m := m0.old fr.O
    have L := m.al c (a := 2) (b := l) hl
    simp only [f_X9_many_L12, f_X9_many_L12b, cast_eq I.1, I.hasNext L (show i ≤ qN (sN σ) 2 l by simp only [qN]; omega)]
    rw [if_pos (show i = qN (sN σ) 2 l by simp only [qN]; omega), if_pos rfl]
    exact q h fr
  | succ k ih =>
    intro i fuel acc h fr I hi hf q
    obtain ⟨n, rfl⟩ : ∃ n, fuel = n + 1 := ⟨fuel - 1, by omega⟩
    have m := m0.old fr.O
    have L := m.al c (a := 2) (b := l) hl
    have hi2 : i < sN σ 4 l - 1 := by omega
    simp only [f_X9_many_L12, f_X9_many_L12b, f_X9_many_B50, cast_eq I.1, I.hasNext L (show i ≤ qN (sN σ) 2 l by simp only [qN]; omega)]
    rw [if_neg (show ¬ i = qN (sN σ) 2 l by simp only [qN]; omega), if_neg (by decide)]
    refine IT.step fr ho I L hi2 fun h1 fr1 I1 => ?_
    have m1 := m0.old fr1.O
    have s1 := hs h1 m1
    simp only [show qE mu 2 l i = mu 2 l i from rfl, m1.cJ hl hi2, m1.r128 hl hi2, cast_eq s1.1, s1.indexOf hs0 hs2]
    have e := ih (i + 1) n (acc + if sIdx s (sV σ 8 l i) < 0 then 0 else 1) h1 fr1 I1 (by omega) (by omega) q
    by_cases z : sIdx s (sV σ 8 l i) < 0
    · rw [if_pos z] at e ⊢; exact e
    · rw [if_neg z] at e ⊢; exact e
theorem M.many9 (m : M g B mu σ h) (c : zCnt σ) {l x : Nat} (hl : l < sN σ 0 0) {s : List Int32} (hs : ∀ h, M g B mu σ h → MS B h x s) (hs0 : 0 < s.length) (hs2 : s.length < 11) {K : Int32 → AH → Prop} (k : ∀ h', frO h h' → K (zfo (fun j a => a + if sIdx s (sV σ 8 l j) < 0 then 0 else 1) (sN σ 4 l - 1) 0 0) h') : f_X9_many g (some (mu 0 l 0)) (some x) h K := by
  have c2 := c.2.2.2.2 l
  unfold f_X9_many
  rw [m.a146 hl, m.csJ hl]
  refine m.iter c (a := 2) (b := l) hl fun h1 o fr ho I => ?_
  exact m.cntL c hl ho hs hs0 hs2 (sN σ 4 l - 1) 0 12 0 h1 fr I (by omega) (by omega) fun h2 fr2 => k h2 fr2.O
theorem M.manyWgb (m : M g B mu σ h) (c : zCnt σ) (fl : zFlag σ) {l : Nat} (hl : l < sN σ 0 0) {K : Int32 → AH → Prop} (k : ∀ h', frO h h' → K (spNotNew σ l) h') : f_X9_many g (some (mu 0 l 0)) (some (g 3)) h K := by
  refine m.many9 c hl (s := [119, 103, 98]) (fun h m => m.1.2.2.2.2.2.2.2.2.2.2.1) (by decide) (by decide) fun h1 fr => ?_
  rw [zfo_congr (f' := fun j a => a + if sV σ 8 l j = 110 then 0 else 1)]
  · exact k h1 fr
  · intro i a
    rcases fl.2.2.2 l i with z | z | z | z <;> rw [z] <;> rfl
theorem M.manyGb (m : M g B mu σ h) (c : zCnt σ) (fl : zFlag σ) {l : Nat} (hl : l < sN σ 0 0) {K : Int32 → AH → Prop} (k : ∀ h', frO h h' → K (spLooked σ l) h') : f_X9_many g (some (mu 0 l 0)) (some (g 4)) h K := by
  refine m.many9 c hl (s := [103, 98]) (fun h m => m.1.2.2.2.2.2.2.2.2.2.2.2.1) (by decide) (by decide) fun h1 fr => ?_
  rw [zfo_congr (f' := fun j a => a + if sV σ 8 l j = 103 ∨ sV σ 8 l j = 98 then 1 else 0)]
  · exact k h1 fr
  · intro i a
    rcases fl.2.2.2 l i with z | z | z | z <;> rw [z] <;> rfl
/-- a joint that a test lets pass -/
def jPass (σ : zS) (l j : Nat) : Bool := !decide (sV σ 8 l j = 110) && !decide (sV σ 8 l j = 98)
theorem M.manyNb (m : M g B mu σ h) (c : zCnt σ) (fl : zFlag σ) {l : Nat} (hl : l < sN σ 0 0) {K : Int32 → AH → Prop} (k : ∀ h', frO h h' → K (zfo (fun j a => a + if jPass σ l j = true then 0 else 1) (sN σ 4 l - 1) 0 0) h') : f_X9_many g (some (mu 0 l 0)) (some (g 5)) h K := by
  refine m.many9 c hl (s := [110, 98]) (fun h m => m.1.2.2.2.2.2.2.2.2.2.2.2.2.1) (by decide) (by decide) fun h1 fr => ?_
  rw [zfo_congr (f' := fun j a => a + if jPass σ l j = true then 0 else 1)]
  · exact k h1 fr
  · intro i a
    unfold jPass
    rcases fl.2.2.2 l i with z | z | z | z <;> rw [z] <;> rfl
theorem M.toLook9 (m : M g B mu σ h) (c : zCnt σ) (fl : zFlag σ) (sh : zShare σ) {l : Nat} (hl : l < sN σ 0 0) {K : Int32 → AH → Prop} (k : ∀ h', frO h h' → K (spDue σ l) h') : f_X9_toLook g (some (mu 0 l 0)) h K := by
  have h100 : ¬ (100 : Int32) = 0 := by decide
  obtain ⟨n, n1, n2, e1, e2⟩ := sh l hl
  have e3 : aI h (g 1) n = sV σ 2 l 0 := by
    obtain ⟨x0, x1, x2, x3⟩ := m.1.2.2.2.2.2.2.2.2.1.2.2.2
    rw [e2]
    have : n = 1 ∨ n = 2 ∨ n = 3 := by omega
    rcases this with rfl | rfl | rfl
    · exact x1
    · exact x2
    · exact x3
  simp only [f_X9_toLook, m.a146 hl, m.csJ hl, m.sJ c hl, m.r144 hl, e1, m.lSh (show n < 4 by omega), e3, h100, not_false_eq_true, true_and, m.r149 hl, m.cL hl]
  refine m.manyGb c fl hl fun h1 fr => ?_
  exact k h1 fr
theorem M.lackOf (m : M g B mu σ h) (c : zCnt σ) (r : zRef σ) (fl : zFlag σ) (sh : zShare σ) {i j : Nat} (hi : i < sN σ 0 0) (hj : j < sN σ 4 i - 1) {K : Int32 → AH → Prop} (k : ∀ h', frO h h' → K (spLack σ i j) h') : f_X12_lackOf g (some (B + 119)) (nI i) (nI j) h K := by
  have hj0 : j < sN σ 4 i := by omega
  have hj1 : j + 1 < sN σ 4 i := by omega
  have c3 := c.2.1
  simp only [f_X12_lackOf, f_X12_lackOf_B64, f_X12_lackOf_B107, m.a192, m.cs0, m.gL c hi, m.cL hi, m.a145 hi, m.csP hi, m.gP c hi hj0, m.cP hi hj0, m.r162 hi hj0, nI_1, m.gP c hi hj1, m.cP hi hj1, m.r162 hi hj1, okC_115, okC_112, okC_119, okC_98]
  unfold spLack at k
  cases e1 : sR σ 0 i j with
  | none =>
    rw [e1] at k
    simp only [enc, if_true]
    exact k h frO.refl
  | some a =>
    rw [e1] at k
    have ha := r.1 i j a e1
    cases e2 : sR σ 0 i (j + 1) with
    | none =>
      rw [e2] at k
      simp only [enc, nI_m1 (show a < 2 ^ 31 by omega), if_true, if_false]
      exact k h frO.refl
    | some b =>
      rw [e2] at k
      have hb8 := r.1 i (j + 1) b e2
      simp only [enc, nI_m1 (show a < 2 ^ 31 by omega), nI_m1 (show b < 2 ^ 31 by omega), if_false, m.a193, m.cs1, m.gH c ha, m.cH ha, m.r114 ha, m.gH c hb8, m.cH hb8, m.r114 hb8, m.a146 hi, m.csJ hi, m.gJ c hi hj, m.cJ hi hj, m.r128 hi hj]
      dsimp only at k
      by_cases q1 : sV σ 14 a 0 = 0
      · rw [if_pos q1]
        rw [if_pos (Or.inl q1)] at k
        exact k h frO.refl
      rw [if_neg q1]
      by_cases q2 : sV σ 14 b 0 = 0
      · rw [if_pos q2]
        rw [if_pos (Or.inr q2)] at k
        exact k h frO.refl
      rw [if_neg q2]
      rw [if_neg (by intro z; rcases z with z | z; exact q1 z; exact q2 z)] at k
      by_cases q3 : sV σ 8 i j = 110
      · rw [if_pos q3] at k ⊢
        exact k h frO.refl
      rw [if_neg q3] at k ⊢
      by_cases q4 : sV σ 8 i j = 98
      · rw [if_pos q4] at k ⊢
        exact k h frO.refl
      rw [if_neg q4] at k ⊢
      rw [m.cL hi]
      refine m.toLook9 c fl sh hi fun h1 fr => ?_
      have m1 := m.old fr
      by_cases q5 : spDue σ i ≤ 0
      · rw [if_pos q5] at k ⊢
        rw [m1.r151 hi]
        by_cases q6 : sV σ 4 i 0 = 0
        · rw [if_pos q6] at k ⊢
          rw [okC_116]
          exact k h1 fr
        rw [if_neg q6] at k ⊢
        simp only [m1.cL hi, f_X9_isBlind, f_X9_isBlind_B18, m1.a148 hi, m1.lBl0 hi, m1.lBl1 hi, okZ_0, okZ_1, okC_45, okC_105, if_true, e10, if_false]
        by_cases q7 : sV σ 10 i 0 = 0
        · rw [if_pos q7]
          by_cases q8 : sV σ 10 i 1 = 0
          · rw [if_pos q8]
            rw [if_pos ⟨q7, q8⟩] at k
            exact k h1 fr
          · rw [if_neg q8]
            rw [if_neg (fun z => q8 z.2)] at k
            exact k h1 fr
        · rw [if_neg q7]
          rw [if_neg (fun z => q7 z.1)] at k
          exact k h1 fr
      · rw [if_neg q5] at k ⊢
        rw [okC_108]
        exact k h1 fr
end MI
