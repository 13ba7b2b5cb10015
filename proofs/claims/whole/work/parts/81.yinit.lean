/-! the class's constructors: a line -/
theorem frO.tA {h0 h : AH} {a j : Nat} {v : Option Nat} (fr : frO h0 h) (ha : hN h0 ≤ a) : frO h0 (tA h a j v) := by
  refine ⟨fun b hb => ?_, fr.2⟩
  obtain ⟨q1, q2, q3, q4⟩ := fr.1 b hb
  exact ⟨q1, q2, q3, fun i => ⟨(q4 i).1, by rw [aA_tA, if_neg (fun z => by have := z.1; omega)]; exact (q4 i).2.1, (q4 i).2.2⟩⟩
theorem stA_to {h : AH} {a t i n b ci : Nat} {kk : AH → Prop} (hk : hK h a = 30 + t) (hl : hL h a = n) (hi : i < n) (hn : n < 2 ^ 31) (hb : hK h b = ci + 1) (k : ∀ r, r = tA h a i (some b) → kk r) : stA h (some a) t (nI i) (some b) ci kk := by
  have e9 : (nI i).toNatClampNeg = i := nI_clamp (Nat.lt_trans hi hn)
  refine ⟨a, b, rfl, hk, by rw [hl]; exact vp_in_nI hi hn, rfl, hb, ?_⟩
  rw [e9]
  exact k _ rfl
def LB (o : Nat) (h : AH) : Prop := hK h o = 4 ∧ (hK h (o + 1) = 39 ∧ hL h (o + 1) = 10) ∧ (hK h (o + 2) = 40 ∧ hL h (o + 2) = 9) ∧ hA h 48 o = some (o + 1) ∧ hA h 49 o = some (o + 2) ∧ ∀ f, hI h f o = 0
def LPp (o n : Nat) (h : AH) : Prop := ∀ p, p < n → hK h (o + 3 + p) = 5 ∧ aA h (o + 1) p = some (o + 3 + p) ∧ ∀ f, hI h f (o + 3 + p) = 0 ∧ hA h f (o + 3 + p) = none
def LJj (o n : Nat) (h : AH) : Prop := ∀ p, p < n → hK h (o + 13 + p) = 3 ∧ aA h (o + 2) p = some (o + 13 + p) ∧ hI h 32 (o + 13 + p) = 110 ∧ hI h 33 (o + 13 + p) = 0 ∧ ∀ f, hA h f (o + 13 + p) = none
def LEe (o : Nat) (l : Int32) (h : AH) : Prop := (hA h 50 o = some (o + 22) ∧ hA h 51 o = some (o + 23)) ∧ ∀ a, a < 2 → hK h (o + 22 + a) = 1 ∧ hI h 0 (o + 22 + a) = l ∧ hI h 2 (o + 22 + a) = 0 ∧ ∀ f, hA h f (o + 22 + a) = none
theorem LB.keep {o : Nat} {h h' : AH} (q : LB o h) (k : ∀ a, a < o + 3 → hK h' a = hK h a ∧ hL h' a = hL h a ∧ ∀ f, hI h' f a = hI h f a ∧ (f = 48 ∨ f = 49 → hA h' f a = hA h f a)) : LB o h' := by
  obtain ⟨q1, ⟨q2, q3⟩, ⟨q4, q5⟩, q6, q7, q8⟩ := q
  have k0 := k o (by omega)
  have k1 := k (o + 1) (by omega)
  have k2 := k (o + 2) (by omega)
  exact ⟨k0.1.trans q1, ⟨k1.1.trans q2, k1.2.1.trans q3⟩, ⟨k2.1.trans q4, k2.2.1.trans q5⟩, ((k0.2.2 48).2 (Or.inl rfl)).trans q6, ((k0.2.2 49).2 (Or.inr rfl)).trans q7, fun f => ((k0.2.2 f).1).trans (q8 f)⟩
theorem LPp.keep {o n m : Nat} {h h' : AH} (q : LPp o n h) (hm : o + 3 + n ≤ m) (k : ∀ a, o + 3 ≤ a → a < m → hK h' a = hK h a ∧ ∀ f, hI h' f a = hI h f a ∧ hA h' f a = hA h f a) (ka : ∀ p, p < n → aA h' (o + 1) p = aA h (o + 1) p) : LPp o n h' := fun p hp => by
  obtain ⟨q1, q2, q3⟩ := q p hp
  have kk := k (o + 3 + p) (by omega) (by omega)
  exact ⟨kk.1.trans q1, (ka p hp).trans q2, fun f => ⟨((kk.2 f).1).trans (q3 f).1, ((kk.2 f).2).trans (q3 f).2⟩⟩
theorem LJj.keep {o n m : Nat} {h h' : AH} (q : LJj o n h) (hm : o + 13 + n ≤ m) (k : ∀ a, o + 3 ≤ a → a < m → hK h' a = hK h a ∧ ∀ f, hI h' f a = hI h f a ∧ hA h' f a = hA h f a) (ka : ∀ p, p < n → aA h' (o + 2) p = aA h (o + 2) p) : LJj o n h' := fun p hp => by
  obtain ⟨q1, q2, q3, q4, q5⟩ := q p hp
  have kk := k (o + 13 + p) (by omega) (by omega)
  exact ⟨kk.1.trans q1, (ka p hp).trans q2, ((kk.2 32).1).trans q3, ((kk.2 33).1).trans q4, fun f => ((kk.2 f).2).trans (q5 f)⟩
section YI
variable {g : Nat → Nat} {o : Nat} {l : Int32} {K : AH → Prop} {hb : AH}
theorem x3_ends {h : AH} (n0 : hN h = o + 22) (hN0 : hN hb = o) (fr : frO hb h) (b : LB o h) (p : LPp o 10 h) (j : LJj o 9 h) (k : ∀ h', hN h' = o + 24 → frO hb h' → LB o h' → LPp o 10 h' → LJj o 9 h' → LEe o l h' → K h') : nnew h 0 fun o1 h2 => nn o1 (f_X0_init g o1 l h2 (fun h3 => pA h3 (some o) 3 50 o1 fun h4 => nnew h4 0 fun o5 h6 => nn o5 (f_X0_init g o5 l h6 (fun h7 => pA h7 (some o) 3 51 o5 fun h8 => K h8)))) := by
  refine nnew_to fun r0 a0 => ?_
  unfold f_X0_init
  rw [nn_eq, nn_eq, n0]
  have c0 : hK r0 o = 4 := by rw [a0, x_hK_nO, n0, if_neg (by omega)]; exact b.1
  refine pI_to (by rw [a0, x_hK_nO, n0, if_pos rfl]) fun r1 a1 => ?_
  refine pA_to (by rw [a1, x_hK_sI]; exact c0) fun r2 a2 => ?_
  have n2 : hN r2 = o + 23 := by rw [a2, x_hN_sA, a1, x_hN_sI, a0, x_hN_nO, n0]
  refine nnew_to fun r3 a3 => ?_
  rw [nn_eq, nn_eq, n2]
  have c3 : hK r3 o = 4 := by rw [a3, x_hK_nO, n2, if_neg (by omega), a2, x_hK_sA, a1, x_hK_sI]; exact c0
  refine pI_to (by rw [a3, x_hK_nO, n2, if_pos rfl]) fun r4 a4 => ?_
  refine pA_to (by rw [a4, x_hK_sI]; exact c3) fun r5 a5 => ?_
  have n5 : hN r5 = o + 24 := by rw [a5, x_hN_sA, a4, x_hN_sI, a3, x_hN_nO, n2]
  have kK : ∀ a, a < o + 22 → hK r5 a = hK h a := fun a ha => by
    rw [a5, x_hK_sA, a4, x_hK_sI, a3, x_hK_nO, n2, if_neg (by omega), a2, x_hK_sA, a1, x_hK_sI, a0, x_hK_nO, n0, if_neg (by omega)]
  have kL : hL r5 = hL h := by rw [a5, x_hL_sA, a4, x_hL_sI, a3, x_hL_nO, a2, x_hL_sA, a1, x_hL_sI, a0, x_hL_nO]
  have kA : aA r5 = aA h := by rw [a5, x_aA_sA, a4, x_aA_sI, a3, x_aA_nO, a2, x_aA_sA, a1, x_aA_sI, a0, x_aA_nO]
  have kI : ∀ f a, a < o + 22 → hI r5 f a = hI h f a := fun f a ha => by
    rw [a5, x_hI_sA, a4, hI_sI, if_neg (by omega), a3, x_hI_nO, n2, if_neg (by omega), a2, x_hI_sA, a1, hI_sI, if_neg (by omega), a0, x_hI_nO, n0, if_neg (by omega)]
  have kB : ∀ f a, a < o + 22 → ¬ (a = o ∧ (f = 50 ∨ f = 51)) → hA r5 f a = hA h f a := fun f a ha hne => by
    rw [a5, hA_sA, if_neg (by omega), a4, x_hA_sI, a3, x_hA_nO, n2, if_neg (by omega), a2, hA_sA, if_neg (by omega), a1, x_hA_sI, a0, x_hA_nO, n0, if_neg (by omega)]
  have fr5 : frO hb r5 := by
    rw [a5]
    refine frO.sA ?_ (by omega)
    rw [a4]
    refine frO.sI ?_ (by omega)
    rw [a3]
    refine frO.trans ?_ frO.nO
    rw [a2]
    refine frO.sA ?_ (by omega)
    rw [a1]
    refine frO.sI ?_ (by omega)
    rw [a0]
    exact fr.trans frO.nO
  refine k r5 n5 fr5 (b.keep fun a ha => ⟨kK a (by omega), by rw [kL], fun f => ⟨kI f a (by omega), fun z => kB f a (by omega) (by omega)⟩⟩) (p.keep (m := o + 22) (by omega) (fun a h1 h2 => ⟨kK a h2, fun f => ⟨kI f a h2, kB f a h2 (by omega)⟩⟩) (fun q _ => by rw [kA])) (j.keep (m := o + 22) (by omega) (fun a h1 h2 => ⟨kK a h2, fun f => ⟨kI f a h2, kB f a h2 (by omega)⟩⟩) (fun q _ => by rw [kA])) ⟨⟨?_, ?_⟩, fun a ha => ?_⟩
  · rw [a5, hA_sA, if_neg (by omega), a4, x_hA_sI, a3, x_hA_nO, n2, if_neg (by omega), a2, hA_sA, if_pos ⟨rfl, rfl⟩]
  · rw [a5, hA_sA, if_pos ⟨rfl, rfl⟩]
  · have : a = 0 ∨ a = 1 := by omega
    rcases this with rfl | rfl
    · refine ⟨?_, ?_, ?_, fun f => ?_⟩
      · rw [a5, x_hK_sA, a4, x_hK_sI, a3, x_hK_nO, n2, if_neg (by omega), a2, x_hK_sA, a1, x_hK_sI, a0, x_hK_nO, n0, if_pos (by omega)]
      · rw [a5, x_hI_sA, a4, hI_sI, if_neg (by omega), a3, x_hI_nO, n2, if_neg (by omega), a2, x_hI_sA, a1, hI_sI, if_pos ⟨rfl, by omega⟩]
      · rw [a5, x_hI_sA, a4, hI_sI, if_neg (by omega), a3, x_hI_nO, n2, if_neg (by omega), a2, x_hI_sA, a1, hI_sI, if_neg (by omega), a0, x_hI_nO, n0, if_pos (by omega)]
      · rw [a5, hA_sA, if_neg (by omega), a4, x_hA_sI, a3, x_hA_nO, n2, if_neg (by omega), a2, hA_sA, if_neg (by omega), a1, x_hA_sI, a0, x_hA_nO, n0, if_pos (by omega)]
    · refine ⟨?_, ?_, ?_, fun f => ?_⟩
      · rw [a5, x_hK_sA, a4, x_hK_sI, a3, x_hK_nO, n2, if_pos (by omega)]
      · rw [a5, x_hI_sA, a4, hI_sI, if_pos ⟨rfl, by omega⟩]
      · rw [a5, x_hI_sA, a4, hI_sI, if_neg (by omega), a3, x_hI_nO, n2, if_pos (by omega)]
      · rw [a5, hA_sA, if_neg (by omega), a4, x_hA_sI, a3, x_hA_nO, n2, if_pos (by omega)]
theorem x3_joints (hN0 : hN hb = o) (k : ∀ h', hN h' = o + 24 → frO hb h' → LB o h' → LPp o 10 h' → LJj o 9 h' → LEe o l h' → K h') : ∀ (n i fuel : Nat) (h : AH), i + n = 9 → n < fuel → hN h = o + 13 + i → frO hb h → LB o h → LPp o 10 h → LJj o i h → f_X3_init_L51 g K fuel (some o) l (nI i) h := by
  intro n
  induction n with
  | zero =>
    intro i fuel h hi hf n0 fr b p j
    obtain ⟨m, rfl⟩ : ∃ m, fuel = m + 1 := ⟨fuel - 1, by omega⟩
    simp only [f_X3_init_L51, f_X3_init_L51b]
    rw [if_pos (show (9 : Int32) ≤ nI i from nI_le (a := 9) (by omega) (by omega))]
    have e9 : i = 9 := by omega
    subst e9
    exact x3_ends n0 hN0 fr b p j k
  | succ n ih =>
    intro i fuel h hi hf n0 fr b p j
    obtain ⟨m, rfl⟩ : ∃ m, fuel = m + 1 := ⟨fuel - 1, by omega⟩
    simp only [f_X3_init_L51, f_X3_init_L51b]
    rw [if_neg (show ¬ (9 : Int32) ≤ nI i from nI_ge (b := 9) (by omega) (by omega)), gA_eq b.1 b.2.2.2.2.1]
    refine nnew_to fun r0 a0 => ?_
    unfold f_X2_init
    rw [nn_eq, nn_eq, okC_110, n0]
    refine pI_to (by rw [a0, x_hK_nO, n0, if_pos rfl]) fun r1 a1 => ?_
    refine stA_to (n := 9) (by rw [a1, x_hK_sI, a0, x_hK_nO, n0, if_neg (by omega)]; exact b.2.2.1.1) (by rw [a1, x_hL_sI, a0, x_hL_nO]; exact b.2.2.1.2) (by omega) (by decide) (by rw [a1, x_hK_sI, a0, x_hK_nO, n0, if_pos rfl]) fun r2 a2 => ?_
    rw [show nI i + 1 = nI (i + 1) from nI_add i 1]
    have n2 : hN r2 = o + 13 + (i + 1) := by rw [a2, x_hN_tA, a1, x_hN_sI, a0, x_hN_nO, n0]; omega
    have kK : ∀ a, a < o + 13 + i → hK r2 a = hK h a := fun a ha => by
      rw [a2, x_hK_tA, a1, x_hK_sI, a0, x_hK_nO, n0, if_neg (by omega)]
    have kL : hL r2 = hL h := by rw [a2, x_hL_tA, a1, x_hL_sI, a0, x_hL_nO]
    have kI : ∀ f a, a < o + 13 + i → hI r2 f a = hI h f a := fun f a ha => by
      rw [a2, x_hI_tA, a1, hI_sI, if_neg (by omega), a0, x_hI_nO, n0, if_neg (by omega)]
    have kB : ∀ f a, a < o + 13 + i → hA r2 f a = hA h f a := fun f a ha => by
      rw [a2, x_hA_tA, a1, x_hA_sI, a0, x_hA_nO, n0, if_neg (by omega)]
    have kA : ∀ a q, ¬ (a = o + 2 ∧ q = i) → aA r2 a q = aA h a q := fun a q hne => by
      rw [a2, aA_tA, if_neg hne, a1, x_aA_sI, a0, x_aA_nO]
    refine ih (i + 1) m r2 (by omega) (by omega) n2 ?_ (b.keep fun a ha => ⟨kK a (by omega), by rw [kL], fun f => ⟨kI f a (by omega), fun z => kB f a (by omega)⟩⟩) (p.keep (m := o + 13) (by omega) (fun a h1 h2 => ⟨kK a (by omega), fun f => ⟨kI f a (by omega), kB f a (by omega)⟩⟩) (fun q _ => kA _ _ (by omega))) ?_
    · rw [a2]
      refine frO.tA ?_ (by omega)
      rw [a1]
      refine frO.sI ?_ (by omega)
      rw [a0]
      exact fr.trans frO.nO
    · intro q hq
      by_cases z : q = i
      · subst z
        refine ⟨?_, ?_, ?_, ?_, fun f => ?_⟩
        · rw [a2, x_hK_tA, a1, x_hK_sI, a0, x_hK_nO, n0, if_pos rfl]
        · rw [a2, aA_tA, if_pos ⟨rfl, rfl⟩]
        · rw [a2, x_hI_tA, a1, hI_sI, if_pos ⟨rfl, rfl⟩]
        · rw [a2, x_hI_tA, a1, hI_sI, if_neg (by omega), a0, x_hI_nO, n0, if_pos rfl]
        · rw [a2, x_hA_tA, a1, x_hA_sI, a0, x_hA_nO, n0, if_pos rfl]
      · exact (j.keep (m := o + 13 + i) (by omega) (fun a h1 h2 => ⟨kK a h2, fun f => ⟨kI f a h2, kB f a h2⟩⟩) (fun q2 _ => kA _ _ (by omega))) q (by omega)
theorem x3_parts (hN0 : hN hb = o) (k : ∀ h', hN h' = o + 24 → frO hb h' → LB o h' → LPp o 10 h' → LJj o 9 h' → LEe o l h' → K h') : ∀ (n i fuel : Nat) (h : AH), i + n = 10 → n < fuel → hN h = o + 3 + i → frO hb h → LB o h → LPp o i h → f_X3_init_L24 g K fuel (some o) l (nI i) h := by
  intro n
  induction n with
  | zero =>
    intro i fuel h hi hf n0 fr b p
    obtain ⟨m, rfl⟩ : ∃ m, fuel = m + 1 := ⟨fuel - 1, by omega⟩
    simp only [f_X3_init_L24, f_X3_init_L24b]
    rw [if_pos (show (10 : Int32) ≤ nI i from nI_le (a := 10) (by omega) (by omega))]
    have e9 : i = 10 := by omega
    subst e9
    exact x3_joints hN0 k 9 0 12 h (by omega) (by omega) (by omega) fr b p (fun q hq => by omega)
  | succ n ih =>
    intro i fuel h hi hf n0 fr b p
    obtain ⟨m, rfl⟩ : ∃ m, fuel = m + 1 := ⟨fuel - 1, by omega⟩
    simp only [f_X3_init_L24, f_X3_init_L24b]
    rw [if_neg (show ¬ (10 : Int32) ≤ nI i from nI_ge (b := 10) (by omega) (by omega)), gA_eq b.1 b.2.2.2.1]
    refine nnew_to fun r0 a0 => ?_
    unfold f_X4_init
    rw [nn_eq, nn_eq, n0]
    refine stA_to (n := 10) (by rw [a0, x_hK_nO, n0, if_neg (by omega)]; exact b.2.1.1) (by rw [a0, x_hL_nO]; exact b.2.1.2) (by omega) (by decide) (by rw [a0, x_hK_nO, n0, if_pos rfl]) fun r2 a2 => ?_
    rw [show nI i + 1 = nI (i + 1) from nI_add i 1]
    have n2 : hN r2 = o + 3 + (i + 1) := by rw [a2, x_hN_tA, a0, x_hN_nO, n0]; omega
    have kK : ∀ a, a < o + 3 + i → hK r2 a = hK h a := fun a ha => by
      rw [a2, x_hK_tA, a0, x_hK_nO, n0, if_neg (by omega)]
    have kL : hL r2 = hL h := by rw [a2, x_hL_tA, a0, x_hL_nO]
    have kI : ∀ f a, a < o + 3 + i → hI r2 f a = hI h f a := fun f a ha => by
      rw [a2, x_hI_tA, a0, x_hI_nO, n0, if_neg (by omega)]
    have kB : ∀ f a, a < o + 3 + i → hA r2 f a = hA h f a := fun f a ha => by
      rw [a2, x_hA_tA, a0, x_hA_nO, n0, if_neg (by omega)]
    have kA : ∀ a q, ¬ (a = o + 1 ∧ q = i) → aA r2 a q = aA h a q := fun a q hne => by
      rw [a2, aA_tA, if_neg hne, a0, x_aA_nO]
    refine ih (i + 1) m r2 (by omega) (by omega) n2 ?_ (b.keep fun a ha => ⟨kK a (by omega), by rw [kL], fun f => ⟨kI f a (by omega), fun z => kB f a (by omega)⟩⟩) ?_
    · rw [a2]
      refine frO.tA ?_ (by omega)
      rw [a0]
      exact fr.trans frO.nO
    · intro q hq
      by_cases z : q = i
      · subst z
        refine ⟨?_, ?_, fun f => ⟨?_, ?_⟩⟩
        · rw [a2, x_hK_tA, a0, x_hK_nO, n0, if_pos rfl]
        · rw [a2, aA_tA, if_pos ⟨rfl, rfl⟩]
        · rw [a2, x_hI_tA, a0, x_hI_nO, n0, if_pos rfl]
        · rw [a2, x_hA_tA, a0, x_hA_nO, n0, if_pos rfl]
      · exact (p.keep (m := o + 3 + i) (by omega) (fun a h1 h2 => ⟨kK a h2, fun f => ⟨kI f a h2, kB f a h2⟩⟩) (fun q2 _ => kA _ _ (by omega))) q (by omega)
/-- a line is made -/
theorem x3_facts {h : AH} (hN0 : hN hb = o) (e : h = nO hb 3) (k : ∀ h', hN h' = o + 24 → frO hb h' → LB o h' → LPp o 10 h' → LJj o 9 h' → LEe o l h' → K h') : f_X3_init g (some o) l h K := by
  unfold f_X3_init
  rw [nn_eq]
  have n0 : hN h = o + 1 := by rw [e, x_hN_nO, hN0]
  have c0 : hK h o = 4 := by rw [e, x_hK_nO, hN0, if_pos rfl]
  have i0 : ∀ f, hI h f o = 0 := fun f => by rw [e, x_hI_nO, hN0, if_pos rfl]
  have fr : frO hb h := by rw [e]; exact frO.nO
  refine nrow_to fun r0 a0 => ?_
  rw [n0]
  refine pA_to (by rw [a0, x_hK_nR, n0, if_neg (by omega)]; exact c0) fun r1 a1 => ?_
  have n1 : hN r1 = o + 2 := by rw [a1, x_hN_sA, a0, x_hN_nR, n0]
  refine nrow_to fun r2 a2 => ?_
  rw [n1]
  have c2 : hK r2 o = 4 := by rw [a2, x_hK_nR, n1, if_neg (by omega), a1, x_hK_sA, a0, x_hK_nR, n0, if_neg (by omega)]; exact c0
  refine pA_to c2 fun r3 a3 => ?_
  have n3 : hN r3 = o + 3 + 0 := by rw [a3, x_hN_sA, a2, x_hN_nR, n1]
  refine x3_parts hN0 k 10 0 12 r3 (by omega) (by omega) n3 ?_ ⟨?_, ⟨?_, ?_⟩, ⟨?_, ?_⟩, ?_, ?_, fun f => ?_⟩ (fun q hq => by omega)
  · rw [a3]
    refine frO.sA ?_ (by omega)
    rw [a2]
    refine frO.trans ?_ frO.nR
    rw [a1]
    refine frO.sA ?_ (by omega)
    rw [a0]
    exact fr.trans frO.nR
  · rw [a3, x_hK_sA]; exact c2
  · rw [a3, x_hK_sA, a2, x_hK_nR, n1, if_neg (by omega), a1, x_hK_sA, a0, x_hK_nR, n0, if_pos rfl]
  · rw [a3, x_hL_sA, a2, x_hL_nR, n1, if_neg (by omega), a1, x_hL_sA, a0, x_hL_nR, n0, if_pos rfl]
  · rw [a3, x_hK_sA, a2, x_hK_nR, n1, if_pos rfl]
  · rw [a3, x_hL_sA, a2, x_hL_nR, n1, if_pos rfl]
  · rw [a3, hA_sA, if_neg (by omega), a2, x_hA_nR, a1, hA_sA, if_pos ⟨rfl, rfl⟩]
  · rw [a3, hA_sA, if_pos ⟨rfl, rfl⟩]
  · rw [a3, x_hI_sA, a2, x_hI_nR, a1, x_hI_sA, a0, x_hI_nR]; exact i0 f
end YI
