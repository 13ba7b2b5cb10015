/-! the class's constructors: welders, heats, the yard -/
def WB (o : Nat) (w : Int32) (h : AH) : Prop := hK h o = 6 ∧ (hK h (o + 1) = 30 ∧ hL h (o + 1) = 4) ∧ hA h 81 o = some (o + 1) ∧ hI h 80 o = w ∧ hI h 82 o = 0
section YJ
variable {g : Nat → Nat} {o : Nat} {l : Int32} {K : AH → Prop} {hb : AH}
theorem x5_loop (hN0 : hN hb = o) (k : ∀ h', hN h' = o + 2 → frO hb h' → WB o l h' → (∀ a, a < 4 → aI h' (o + 1) a = -1) → K h') : ∀ (n i fuel : Nat) (h : AH), i + n = 4 → n < fuel → hN h = o + 2 → frO hb h → WB o l h → (∀ a, a < i → aI h (o + 1) a = -1) → f_X5_init_L18 g K fuel (some o) (nI i) h := by
  intro n
  induction n with
  | zero =>
    intro i fuel h hi hf n0 fr b p
    obtain ⟨m, rfl⟩ : ∃ m, fuel = m + 1 := ⟨fuel - 1, by omega⟩
    simp only [f_X5_init_L18, f_X5_init_L18b]
    rw [if_pos (show (4 : Int32) ≤ nI i from nI_le (a := 4) (by omega) (by omega))]
    exact k h n0 fr b (fun a ha => p a (by omega))
  | succ n ih =>
    intro i fuel h hi hf n0 fr b p
    obtain ⟨m, rfl⟩ : ∃ m, fuel = m + 1 := ⟨fuel - 1, by omega⟩
    simp only [f_X5_init_L18, f_X5_init_L18b]
    rw [if_neg (show ¬ (4 : Int32) ≤ nI i from nI_ge (b := 4) (by omega) (by omega)), gA_eq b.1 b.2.2.1]
    refine stI_to b.2.1.1 b.2.1.2 (by omega) (by decide) fun r a0 => ?_
    rw [show nI i + 1 = nI (i + 1) from nI_add i 1]
    refine ih (i + 1) m r (by omega) (by omega) (by rw [a0, x_hN_tI]; exact n0) (by rw [a0]; exact fr.tI (by omega)) ?_ ?_
    · unfold WB
      rw [a0, x_hK_tI, x_hL_tI, x_hA_tI, x_hI_tI]
      exact b
    · intro a ha
      rw [a0, aI_tI]
      by_cases z : a = i
      · rw [if_pos ⟨rfl, z⟩]
      · rw [if_neg (fun y => z y.2)]; exact p a (by omega)
theorem x5_facts {h : AH} (hN0 : hN hb = o) (e : h = nO hb 5) (k : ∀ h', hN h' = o + 2 → frO hb h' → WB o l h' → (∀ a, a < 4 → aI h' (o + 1) a = -1) → K h') : f_X5_init g (some o) l h K := by
  unfold f_X5_init
  rw [nn_eq]
  have n0 : hN h = o + 1 := by rw [e, x_hN_nO, hN0]
  have c0 : hK h o = 6 := by rw [e, x_hK_nO, hN0, if_pos rfl]
  have i0 : ∀ f, hI h f o = 0 := fun f => by rw [e, x_hI_nO, hN0, if_pos rfl]
  have fr : frO hb h := by rw [e]; exact frO.nO
  refine nrow_to fun r0 a0 => ?_
  rw [n0]
  have c1 : hK r0 o = 6 := by rw [a0, x_hK_nR, n0, if_neg (by omega)]; exact c0
  refine pA_to c1 fun r1 a1 => ?_
  refine pI_to (by rw [a1, x_hK_sA]; exact c1) fun r2 a2 => ?_
  refine x5_loop hN0 k 4 0 12 r2 (by omega) (by omega) (by rw [a2, x_hN_sI, a1, x_hN_sA, a0, x_hN_nR, n0]) ?_ ⟨?_, ⟨?_, ?_⟩, ?_, ?_, ?_⟩ (fun a ha => by omega)
  · rw [a2]
    refine frO.sI ?_ (by omega)
    rw [a1]
    refine frO.sA ?_ (by omega)
    rw [a0]
    exact fr.trans frO.nR
  · rw [a2, x_hK_sI, a1, x_hK_sA]; exact c1
  · rw [a2, x_hK_sI, a1, x_hK_sA, a0, x_hK_nR, n0, if_pos rfl]
  · rw [a2, x_hL_sI, a1, x_hL_sA, a0, x_hL_nR, n0, if_pos rfl]
  · rw [a2, x_hA_sI, a1, hA_sA, if_pos ⟨rfl, rfl⟩]
  · rw [a2, hI_sI, if_pos ⟨rfl, rfl⟩]
  · rw [a2, hI_sI, if_neg (by omega), a1, x_hI_sA, a0, x_hI_nR]; exact i0 82
end YJ
/-- a step of one of the yard's loops: all old cells stay, but one place of one row -/
def stp (rw i : Nat) (v : Option Nat) (h h' : AH) : Prop := ∀ a, a < hN h → hK h' a = hK h a ∧ hL h' a = hL h a ∧ (∀ f, hI h' f a = hI h f a ∧ hA h' f a = hA h f a) ∧ (∀ j, aI h' a j = aI h a j) ∧ ∀ j, aA h' a j = if a = rw ∧ j = i then v else aA h a j
theorem stp.of {rw i : Nat} {v : Option Nat} {h h1 h' : AH} (fr : frO h h1) (e : h' = tA h1 rw i v) : stp rw i v h h' := fun a ha => by
  obtain ⟨q1, q2, q3, q4⟩ := fr.1 a ha
  rw [e]
  refine ⟨q1, q2, q3, fun j => (q4 j).1, fun j => ?_⟩
  rw [aA_tA, (q4 j).2.1]
def BB (B : Nat) (h : AH) : Prop := (hK h B = 7 ∧ (hK h (B + 1) = 36 ∧ hL h (B + 1) = 4) ∧ (hK h (B + 2) = 37 ∧ hL h (B + 2) = 8) ∧ (hK h (B + 3) = 38 ∧ hL h (B + 3) = 5) ∧ hK h (B + 4) = 30 ∧ hL h (B + 4) = 6) ∧ (hA h 96 B = some (B + 1) ∧ hA h 97 B = some (B + 2) ∧ hA h 98 B = some (B + 3) ∧ hA h 99 B = some (B + 4)) ∧ (∀ f, hI h f B = 0) ∧ ∀ c, aI h (B + 4) c = 0
def LNn (B n : Nat) (h : AH) : Prop := ∀ l, l < n → (LB (B + 5 + 24 * l) h ∧ LPp (B + 5 + 24 * l) 10 h ∧ LJj (B + 5 + 24 * l) 9 h ∧ LEe (B + 5 + 24 * l) (nI l) h) ∧ aA h (B + 1) l = some (B + 5 + 24 * l)
def HNn (B n : Nat) (h : AH) : Prop := ∀ q, q < n → hK h (B + 101 + q) = 2 ∧ aA h (B + 2) q = some (B + 101 + q) ∧ hI h 16 (B + 101 + q) = nI q ∧ ∀ f, f ≠ 16 → hI h f (B + 101 + q) = 0
def WNn (B n : Nat) (h : AH) : Prop := ∀ w, w < n → WB (B + 109 + 2 * w) (nI w) h ∧ (∀ a, a < 4 → aI h (B + 109 + 2 * w + 1) a = -1) ∧ aA h (B + 3) w = some (B + 109 + 2 * w)
section YK
variable {g : Nat → Nat} {B : Nat} {K : AH → Prop} {h0 : AH}
theorem BB.stp {h h' : AH} {rw i : Nat} {v : Option Nat} (q : BB B h) (s : stp rw i v h h') (hn : B + 5 ≤ hN h) : BB B h' := by
  obtain ⟨⟨k0, ⟨k1, l1⟩, ⟨k2, l2⟩, ⟨k3, l3⟩, k4, l4⟩, ⟨r1, r2, r3, r4⟩, i0, c0⟩ := q
  have s0 := s B (by omega)
  have s1 := s (B + 1) (by omega)
  have s2 := s (B + 2) (by omega)
  have s3 := s (B + 3) (by omega)
  have s4 := s (B + 4) (by omega)
  exact ⟨⟨s0.1.trans k0, ⟨s1.1.trans k1, s1.2.1.trans l1⟩, ⟨s2.1.trans k2, s2.2.1.trans l2⟩, ⟨s3.1.trans k3, s3.2.1.trans l3⟩, s4.1.trans k4, s4.2.1.trans l4⟩, ⟨((s0.2.2.1 96).2).trans r1, ((s0.2.2.1 97).2).trans r2, ((s0.2.2.1 98).2).trans r3, ((s0.2.2.1 99).2).trans r4⟩, fun f => ((s0.2.2.1 f).1).trans (i0 f), fun c => (s4.2.2.2.1 c).trans (c0 c)⟩
theorem LNn.stp {h h' : AH} {rw i n : Nat} {v : Option Nat} (q : LNn B n h) (s : stp rw i v h h') (hn : B + 5 + 24 * n ≤ hN h) (hr : rw < B + 5) (hi : rw = B + 1 → n ≤ i) : LNn B n h' := fun l hl => by
  obtain ⟨⟨q1, q2, q3, q4⟩, q5⟩ := q l hl
  have sa : ∀ a, a < B + 5 + 24 * l + 24 → a < hN h := fun a ha => by omega
  have ne : ∀ a, B + 5 + 24 * l ≤ a → ¬ a = rw := fun a ha => by omega
  refine ⟨⟨q1.keep fun a ha => ?_, q2.keep (m := B + 5 + 24 * l + 13) (by omega) (fun a h1 h2 => ?_) (fun p hp => ?_), q3.keep (m := B + 5 + 24 * l + 22) (by omega) (fun a h1 h2 => ?_) (fun p hp => ?_), ?_⟩, ?_⟩
  · have z := s a (sa a (by omega))
    exact ⟨z.1, z.2.1, fun f => ⟨(z.2.2.1 f).1, fun _ => (z.2.2.1 f).2⟩⟩
  · have z := s a (sa a (by omega))
    exact ⟨z.1, z.2.2.1⟩
  · have z := (s _ (sa (B + 5 + 24 * l + 1) (by omega))).2.2.2.2 p
    rw [if_neg (fun y => ne _ (by omega) y.1)] at z
    exact z
  · have z := s a (sa a (by omega))
    exact ⟨z.1, z.2.2.1⟩
  · have z := (s _ (sa (B + 5 + 24 * l + 2) (by omega))).2.2.2.2 p
    rw [if_neg (fun y => ne _ (by omega) y.1)] at z
    exact z
  · have z0 := s _ (sa (B + 5 + 24 * l) (by omega))
    refine ⟨⟨((z0.2.2.1 50).2).trans q4.1.1, ((z0.2.2.1 51).2).trans q4.1.2⟩, fun a ha => ?_⟩
    obtain ⟨e1, e2, e3, e4⟩ := q4.2 a ha
    have z := s _ (sa (B + 5 + 24 * l + 22 + a) (by omega))
    exact ⟨z.1.trans e1, ((z.2.2.1 0).1).trans e2, ((z.2.2.1 2).1).trans e3, fun f => ((z.2.2.1 f).2).trans (e4 f)⟩
  · have z := (s (B + 1) (sa _ (by omega))).2.2.2.2 l
    rw [if_neg (fun y => by have := hi y.1.symm; omega)] at z
    exact z.trans q5
theorem HNn.stp {h h' : AH} {rw i n : Nat} {v : Option Nat} (q : HNn B n h) (s : stp rw i v h h') (hn : B + 101 + n ≤ hN h) (hr : rw < B + 5) (hi : rw = B + 2 → n ≤ i) : HNn B n h' := fun l hl => by
  obtain ⟨q1, q2, q3, q4⟩ := q l hl
  have z0 := s (B + 101 + l) (by omega)
  have z := (s (B + 2) (by omega)).2.2.2.2 l
  rw [if_neg (fun y => by have := hi y.1.symm; omega)] at z
  exact ⟨z0.1.trans q1, z.trans q2, ((z0.2.2.1 16).1).trans q3, fun f hf => ((z0.2.2.1 f).1).trans (q4 f hf)⟩
theorem WNn.stp {h h' : AH} {rw i n : Nat} {v : Option Nat} (q : WNn B n h) (s : stp rw i v h h') (hn : B + 109 + 2 * n ≤ hN h) (hr : rw < B + 5) (hi : rw = B + 3 → n ≤ i) : WNn B n h' := fun l hl => by
  obtain ⟨⟨q1, ⟨q2, q3⟩, q4, q5, q6⟩, q7, q8⟩ := q l hl
  have z0 := s (B + 109 + 2 * l) (by omega)
  have z1 := s (B + 109 + 2 * l + 1) (by omega)
  have z := (s (B + 3) (by omega)).2.2.2.2 l
  rw [if_neg (fun y => by have := hi y.1.symm; omega)] at z
  exact ⟨⟨z0.1.trans q1, ⟨z1.1.trans q2, z1.2.1.trans q3⟩, ((z0.2.2.1 81).2).trans q4, ((z0.2.2.1 80).1).trans q5, ((z0.2.2.1 82).1).trans q6⟩, fun a ha => (z1.2.2.2.1 a).trans (q7 a ha), z.trans q8⟩
theorem x6_welders (hN0 : hN h0 = B) (k : ∀ h', hN h' = B + 119 → frO h0 h' → BB B h' → LNn B 4 h' → HNn B 8 h' → WNn B 5 h' → K h') : ∀ (n i fuel : Nat) (h : AH), i + n = 5 → n < fuel → hN h = B + 109 + 2 * i → frO h0 h → BB B h → LNn B 4 h → HNn B 8 h → WNn B i h → f_X6_init_L94 g K fuel (some B) (nI i) h := by
  intro n
  induction n with
  | zero =>
    intro i fuel h hi hf n0 fr b q1 q2 q3
    obtain ⟨m, rfl⟩ : ∃ m, fuel = m + 1 := ⟨fuel - 1, by omega⟩
    simp only [f_X6_init_L94, f_X6_init_L94b]
    rw [if_pos (show (5 : Int32) ≤ nI i from nI_le (a := 5) (by omega) (by omega))]
    have e9 : i = 5 := by omega
    subst e9
    exact k h (by omega) fr b q1 q2 q3
  | succ n ih =>
    intro i fuel h hi hf n0 fr b q1 q2 q3
    obtain ⟨m, rfl⟩ : ∃ m, fuel = m + 1 := ⟨fuel - 1, by omega⟩
    simp only [f_X6_init_L94, f_X6_init_L94b]
    rw [if_neg (show ¬ (5 : Int32) ≤ nI i from nI_ge (b := 5) (by omega) (by omega)), gA_eq b.1.1 b.2.1.2.2.1]
    refine nnew_to fun r0 a0 => ?_
    rw [nn_eq]
    refine x5_facts rfl a0 fun h1 n1 fr1 w1 v1 => ?_
    have o1 := fr1.1 (B + 3) (by omega)
    refine stA_to (n := 5) (o1.1.trans b.1.2.2.2.1.1) (o1.2.1.trans b.1.2.2.2.1.2) (by omega) (by decide) w1.1 fun r2 a2 => ?_
    have s := stp.of fr1 a2
    rw [show nI i + 1 = nI (i + 1) from nI_add i 1]
    refine ih (i + 1) m r2 (by omega) (by omega) (by rw [a2, x_hN_tA, n1, n0]; omega) (by rw [a2]; exact (fr.trans fr1).tA (by omega)) (b.stp s (by omega)) (q1.stp s (by omega) (by omega) (by omega)) (q2.stp s (by omega) (by omega) (by omega)) ?_
    intro w hw
    by_cases z : w = i
    · subst z
      rw [n0] at w1 v1 a2
      refine ⟨?_, ?_, ?_⟩
      · unfold WB
        rw [a2, x_hK_tA, x_hL_tA, x_hA_tA, x_hI_tA]
        exact w1
      · intro a ha
        rw [a2, x_aI_tA]
        exact v1 a ha
      · rw [a2, aA_tA, if_pos ⟨rfl, rfl⟩]
    · exact (q3.stp s (by omega) (by omega) (by omega)) w (by omega)
theorem x6_heats (hN0 : hN h0 = B) (k : ∀ h', hN h' = B + 119 → frO h0 h' → BB B h' → LNn B 4 h' → HNn B 8 h' → WNn B 5 h' → K h') : ∀ (n i fuel : Nat) (h : AH), i + n = 8 → n < fuel → hN h = B + 101 + i → frO h0 h → BB B h → LNn B 4 h → HNn B i h → f_X6_init_L66 g K fuel (some B) (nI i) h := by
  intro n
  induction n with
  | zero =>
    intro i fuel h hi hf n0 fr b q1 q2
    obtain ⟨m, rfl⟩ : ∃ m, fuel = m + 1 := ⟨fuel - 1, by omega⟩
    simp only [f_X6_init_L66, f_X6_init_L66b]
    rw [if_pos (show (8 : Int32) ≤ nI i from nI_le (a := 8) (by omega) (by omega))]
    have e9 : i = 8 := by omega
    subst e9
    exact x6_welders hN0 k 5 0 12 h (by omega) (by omega) (by omega) fr b q1 q2 (fun w hw => by omega)
  | succ n ih =>
    intro i fuel h hi hf n0 fr b q1 q2
    obtain ⟨m, rfl⟩ : ∃ m, fuel = m + 1 := ⟨fuel - 1, by omega⟩
    simp only [f_X6_init_L66, f_X6_init_L66b]
    rw [if_neg (show ¬ (8 : Int32) ≤ nI i from nI_ge (b := 8) (by omega) (by omega)), gA_eq b.1.1 b.2.1.2.1]
    refine nnew_to fun r0 a0 => ?_
    unfold f_X1_init
    rw [nn_eq, nn_eq]
    refine pI_to (by rw [a0, x_hK_nO, if_pos rfl]) fun r1 a1 => ?_
    have fr1 : frO h r1 := by rw [a1]; refine frO.sI ?_ (Nat.le_refl _); rw [a0]; exact frO.nO
    have o1 := fr1.1 (B + 2) (by omega)
    refine stA_to (n := 8) (o1.1.trans b.1.2.2.1.1) (o1.2.1.trans b.1.2.2.1.2) (by omega) (by decide) (by rw [a1, x_hK_sI, a0, x_hK_nO, if_pos rfl]) fun r2 a2 => ?_
    have s := stp.of fr1 a2
    rw [show nI i + 1 = nI (i + 1) from nI_add i 1]
    refine ih (i + 1) m r2 (by omega) (by omega) (by rw [a2, x_hN_tA, a1, x_hN_sI, a0, x_hN_nO, n0]; omega) (by rw [a2]; exact (fr.trans fr1).tA (by omega)) (b.stp s (by omega)) (q1.stp s (by omega) (by omega) (by omega)) ?_
    intro w hw
    by_cases z : w = i
    · subst z
      rw [n0] at a1 a2
      refine ⟨?_, ?_, ?_, fun f hf => ?_⟩
      · rw [a2, x_hK_tA, a1, x_hK_sI, a0, x_hK_nO, n0, if_pos rfl]
      · rw [a2, aA_tA, if_pos ⟨rfl, rfl⟩]
      · rw [a2, x_hI_tA, a1, hI_sI, if_pos ⟨rfl, rfl⟩]
      · rw [a2, x_hI_tA, a1, hI_sI, if_neg (fun y => hf y.1), a0, x_hI_nO, n0, if_pos rfl]
    · exact (q2.stp s (by omega) (by omega) (by omega)) w (by omega)
theorem x6_lines (hN0 : hN h0 = B) (k : ∀ h', hN h' = B + 119 → frO h0 h' → BB B h' → LNn B 4 h' → HNn B 8 h' → WNn B 5 h' → K h') : ∀ (n i fuel : Nat) (h : AH), i + n = 4 → n < fuel → hN h = B + 5 + 24 * i → frO h0 h → BB B h → LNn B i h → f_X6_init_L39 g K fuel (some B) (nI i) h := by
  intro n
  induction n with
  | zero =>
    intro i fuel h hi hf n0 fr b q1
    obtain ⟨m, rfl⟩ : ∃ m, fuel = m + 1 := ⟨fuel - 1, by omega⟩
    simp only [f_X6_init_L39, f_X6_init_L39b]
    rw [if_pos (show (4 : Int32) ≤ nI i from nI_le (a := 4) (by omega) (by omega))]
    have e9 : i = 4 := by omega
    subst e9
    exact x6_heats hN0 k 8 0 12 h (by omega) (by omega) (by omega) fr b q1 (fun w hw => by omega)
  | succ n ih =>
    intro i fuel h hi hf n0 fr b q1
    obtain ⟨m, rfl⟩ : ∃ m, fuel = m + 1 := ⟨fuel - 1, by omega⟩
    simp only [f_X6_init_L39, f_X6_init_L39b]
    rw [if_neg (show ¬ (4 : Int32) ≤ nI i from nI_ge (b := 4) (by omega) (by omega)), gA_eq b.1.1 b.2.1.1]
    refine nnew_to fun r0 a0 => ?_
    rw [nn_eq]
    refine x3_facts rfl a0 fun h1 n1 fr1 w1 w2 w3 w4 => ?_
    have o1 := fr1.1 (B + 1) (by omega)
    refine stA_to (n := 4) (o1.1.trans b.1.2.1.1) (o1.2.1.trans b.1.2.1.2) (by omega) (by decide) w1.1 fun r2 a2 => ?_
    have s := stp.of fr1 a2
    rw [show nI i + 1 = nI (i + 1) from nI_add i 1]
    refine ih (i + 1) m r2 (by omega) (by omega) (by rw [a2, x_hN_tA, n1, n0]; omega) (by rw [a2]; exact (fr.trans fr1).tA (by omega)) (b.stp s (by omega)) ?_
    intro w hw
    by_cases z : w = i
    · subst z
      rw [n0] at w1 w2 w3 w4 a2
      refine ⟨⟨w1.keep fun a ha => ?_, w2.keep (m := B + 5 + 24 * w + 13) (by omega) (fun a h1 h2 => ?_) (fun p hp => ?_), w3.keep (m := B + 5 + 24 * w + 22) (by omega) (fun a h1 h2 => ?_) (fun p hp => ?_), ?_⟩, ?_⟩
      · rw [a2, x_hK_tA, x_hL_tA, x_hI_tA, x_hA_tA]; exact ⟨rfl, rfl, fun f => ⟨rfl, fun _ => rfl⟩⟩
      · rw [a2, x_hK_tA, x_hI_tA, x_hA_tA]; exact ⟨rfl, fun f => ⟨rfl, rfl⟩⟩
      · rw [a2, aA_tA, if_neg (by omega)]
      · rw [a2, x_hK_tA, x_hI_tA, x_hA_tA]; exact ⟨rfl, fun f => ⟨rfl, rfl⟩⟩
      · rw [a2, aA_tA, if_neg (by omega)]
      · unfold LEe
        rw [a2, x_hK_tA, x_hI_tA, x_hA_tA]
        exact w4
      · rw [a2, aA_tA, if_pos ⟨rfl, rfl⟩]
    · exact (q1.stp s (by omega) (by omega) (by omega)) w (by omega)
/-- the pieces together are a yard -/
theorem Y.of {h : AH} (b : BB B h) (q1 : LNn B 4 h) (q2 : HNn B 8 h) (q3 : WNn B 5 h) : Y B z0 h := by
  obtain ⟨b1, b2, b3, b4⟩ := b
  have eP : ∀ l p, yP B l p = B + 5 + 24 * l + 3 + p := fun l p => by unfold yP; omega
  have eJ : ∀ l p, yJ B l p = B + 5 + 24 * l + 13 + p := fun l p => by unfold yJ; omega
  have eE : ∀ l p, yE B l p = B + 5 + 24 * l + 22 + p := fun l p => by unfold yE; omega
  have v0 : ∀ f i j, f ≠ 8 → f ≠ 15 → sV z0 f i j = 0 := fun f i j h1 h2 => by
    show (if f = 8 then (110 : Int32) else if f = 15 then -1 else 0) = 0
    rw [if_neg h1, if_neg h2]
  refine ⟨⟨b1, b2, ?_, ?_, ?_, ?_, ?_, ?_⟩, ?_, ?_, ?_, ?_, ?_⟩
  · intro l hl
    obtain ⟨⟨⟨c1, c2, c3, c4, c5, c6⟩, -, -, ⟨c7, c8⟩, -⟩, c9⟩ := q1 l hl
    refine ⟨c1, c2, c3, c4, c5, ?_, ?_, c9⟩
    · rw [eE]; exact c7
    · rw [eE]; exact c8
  · intro l p hl hp
    obtain ⟨⟨-, c, -⟩, -⟩ := q1 l hl
    obtain ⟨c1, c2, c3⟩ := c p hp
    rw [eP]
    exact ⟨c1, c2⟩
  · intro l p hl hp
    obtain ⟨⟨-, -, c, -⟩, -⟩ := q1 l hl
    obtain ⟨c1, c2, c3⟩ := c p hp
    rw [eJ]
    exact ⟨c1, c2⟩
  · intro l p hl hp
    obtain ⟨⟨-, -, -, c⟩, -⟩ := q1 l hl
    obtain ⟨c1, c2, c3⟩ := c.2 p hp
    rw [eE]
    exact ⟨c1, c2⟩
  · intro q hq
    obtain ⟨c1, c2, c3, c4⟩ := q2 q hq
    exact ⟨c1, c2, c3⟩
  · intro w hw
    obtain ⟨⟨c1, c2, c3, c4, c5⟩, c6, c7⟩ := q3 w hw
    exact ⟨c1, c2, c3, c7, c4⟩
  · intro f i j ok
    match f, ok with
    | 0, ok => rw [v0 _ _ _ (by decide) (by decide)]; exact b3 _
    | 2, ok => rw [v0 _ _ _ (by decide) (by decide)]; exact (q1 i ok.1).1.1.2.2.2.2.2 _
    | 3, ok => rw [v0 _ _ _ (by decide) (by decide)]; exact (q1 i ok.1).1.1.2.2.2.2.2 _
    | 4, ok => rw [v0 _ _ _ (by decide) (by decide)]; exact (q1 i ok.1).1.1.2.2.2.2.2 _
    | 5, ok => rw [v0 _ _ _ (by decide) (by decide)]; exact (q1 i ok.1).1.1.2.2.2.2.2 _
    | 6, ok => rw [v0 _ _ _ (by decide) (by decide)]; show hI h 64 (yP B i j) = 0; rw [eP]; exact (((q1 i ok.1).1.2.1 j ok.2).2.2 _).1
    | 7, ok => rw [v0 _ _ _ (by decide) (by decide)]; show hI h 65 (yP B i j) = 0; rw [eP]; exact (((q1 i ok.1).1.2.1 j ok.2).2.2 _).1
    | 8, ok => show hI h 32 (yJ B i j) = 110; rw [eJ]; exact ((q1 i ok.1).1.2.2.1 j ok.2).2.2.1
    | 9, ok => rw [v0 _ _ _ (by decide) (by decide)]; show hI h 33 (yJ B i j) = 0; rw [eJ]; exact ((q1 i ok.1).1.2.2.1 j ok.2).2.2.2.1
    | 10, ok => rw [v0 _ _ _ (by decide) (by decide)]; show hI h 2 (yE B i j) = 0; rw [eE]; exact ((q1 i ok.1).1.2.2.2.2 j ok.2).2.2.1
    | 11, ok => rw [v0 _ _ _ (by decide) (by decide)]; exact (q2 i ok.1).2.2.2 17 (by decide)
    | 12, ok => rw [v0 _ _ _ (by decide) (by decide)]; exact (q2 i ok.1).2.2.2 18 (by decide)
    | 13, ok => rw [v0 _ _ _ (by decide) (by decide)]; exact (q2 i ok.1).2.2.2 19 (by decide)
    | 14, ok => rw [v0 _ _ _ (by decide) (by decide)]; exact (q2 i ok.1).2.2.2 20 (by decide)
    | 16, ok => rw [v0 _ _ _ (by decide) (by decide)]; exact (q3 i ok.1).1.2.2.2.2
  · intro f i j ok
    match f, ok with
    | 0, ok => show hA h 66 (yP B i j) = none; rw [eP]; exact (((q1 i ok.1).1.2.1 j ok.2).2.2 _).2
    | 1, ok => show hA h 34 (yJ B i j) = none; rw [eJ]; exact ((q1 i ok.1).1.2.2.1 j ok.2).2.2.2.2 _
    | 2, ok => show hA h 1 (yE B i j) = none; rw [eE]; exact ((q1 i ok.1).1.2.2.2.2 j ok.2).2.2.2 _
  · intro k i ok
    match k, ok with
    | 0, _ => exact b3 _
    | 1, _ => exact b3 _
    | 2, _ => exact b3 _
    | 3, _ => exact b3 _
    | 4, ok => exact (q1 i ok).1.1.2.2.2.2.2 _
  · intro w a hw ha
    exact (q3 w hw).2.1 a ha
  · intro c hc
    rw [v0 _ _ _ (by decide) (by decide)]
    exact b4 c
/-- the yard is made -/
theorem x6_facts {h : AH} (hN0 : hN h0 = B) (e : h = nO h0 6) (k : ∀ h', hN h' = B + 119 → frO h0 h' → Y B z0 h' → K h') : f_X6_init g (some B) h K := by
  unfold f_X6_init
  rw [nn_eq]
  have n0 : hN h = B + 1 := by rw [e, x_hN_nO, hN0]
  have c0 : hK h B = 7 := by rw [e, x_hK_nO, hN0, if_pos rfl]
  have i0 : ∀ f, hI h f B = 0 := fun f => by rw [e, x_hI_nO, hN0, if_pos rfl]
  have fr : frO h0 h := by rw [e]; exact frO.nO
  refine nrow_to fun r0 a0 => ?_
  rw [n0]
  have c1 : hK r0 B = 7 := by rw [a0, x_hK_nR, n0, if_neg (by omega)]; exact c0
  refine pA_to c1 fun r1 a1 => ?_
  have n1 : hN r1 = B + 2 := by rw [a1, x_hN_sA, a0, x_hN_nR, n0]
  refine nrow_to fun r2 a2 => ?_
  rw [n1]
  have c2 : hK r2 B = 7 := by rw [a2, x_hK_nR, n1, if_neg (by omega), a1, x_hK_sA]; exact c1
  refine pA_to c2 fun r3 a3 => ?_
  have n3 : hN r3 = B + 3 := by rw [a3, x_hN_sA, a2, x_hN_nR, n1]
  refine nrow_to fun r4 a4 => ?_
  rw [n3]
  have c4 : hK r4 B = 7 := by rw [a4, x_hK_nR, n3, if_neg (by omega), a3, x_hK_sA]; exact c2
  refine pA_to c4 fun r5 a5 => ?_
  have n5 : hN r5 = B + 4 := by rw [a5, x_hN_sA, a4, x_hN_nR, n3]
  refine nrow_to fun r6 a6 => ?_
  rw [n5]
  have c6 : hK r6 B = 7 := by rw [a6, x_hK_nR, n5, if_neg (by omega), a5, x_hK_sA]; exact c4
  refine pA_to c6 fun r7 a7 => ?_
  have n7 : hN r7 = B + 5 + 24 * 0 := by rw [a7, x_hN_sA, a6, x_hN_nR, n5]
  refine x6_lines hN0 (fun h' n' fr' b q1 q2 q3 => k h' n' fr' (Y.of b q1 q2 q3)) 4 0 12 r7 (by omega) (by omega) n7 ?_ ⟨⟨?_, ⟨?_, ?_⟩, ⟨?_, ?_⟩, ⟨?_, ?_⟩, ?_, ?_⟩, ⟨?_, ?_, ?_, ?_⟩, fun f => ?_, fun c => ?_⟩ (fun l hl => by omega)
  · rw [a7]
    refine frO.sA ?_ (by omega)
    rw [a6]
    refine frO.trans ?_ frO.nR
    rw [a5]
    refine frO.sA ?_ (by omega)
    rw [a4]
    refine frO.trans ?_ frO.nR
    rw [a3]
    refine frO.sA ?_ (by omega)
    rw [a2]
    refine frO.trans ?_ frO.nR
    rw [a1]
    refine frO.sA ?_ (by omega)
    rw [a0]
    exact fr.trans frO.nR
  · rw [a7, x_hK_sA]; exact c6
  · rw [a7, x_hK_sA, a6, x_hK_nR, n5, if_neg (by omega), a5, x_hK_sA, a4, x_hK_nR, n3, if_neg (by omega), a3, x_hK_sA, a2, x_hK_nR, n1, if_neg (by omega), a1, x_hK_sA, a0, x_hK_nR, n0, if_pos rfl]
  · rw [a7, x_hL_sA, a6, x_hL_nR, n5, if_neg (by omega), a5, x_hL_sA, a4, x_hL_nR, n3, if_neg (by omega), a3, x_hL_sA, a2, x_hL_nR, n1, if_neg (by omega), a1, x_hL_sA, a0, x_hL_nR, n0, if_pos rfl]
  · rw [a7, x_hK_sA, a6, x_hK_nR, n5, if_neg (by omega), a5, x_hK_sA, a4, x_hK_nR, n3, if_neg (by omega), a3, x_hK_sA, a2, x_hK_nR, n1, if_pos rfl]
  · rw [a7, x_hL_sA, a6, x_hL_nR, n5, if_neg (by omega), a5, x_hL_sA, a4, x_hL_nR, n3, if_neg (by omega), a3, x_hL_sA, a2, x_hL_nR, n1, if_pos rfl]
  · rw [a7, x_hK_sA, a6, x_hK_nR, n5, if_neg (by omega), a5, x_hK_sA, a4, x_hK_nR, n3, if_pos rfl]
  · rw [a7, x_hL_sA, a6, x_hL_nR, n5, if_neg (by omega), a5, x_hL_sA, a4, x_hL_nR, n3, if_pos rfl]
  · rw [a7, x_hK_sA, a6, x_hK_nR, n5, if_pos rfl]
  · rw [a7, x_hL_sA, a6, x_hL_nR, n5, if_pos rfl]
  · rw [a7, hA_sA, if_neg (by omega), a6, x_hA_nR, a5, hA_sA, if_neg (by omega), a4, x_hA_nR, a3, hA_sA, if_neg (by omega), a2, x_hA_nR, a1, hA_sA, if_pos ⟨rfl, rfl⟩]
  · rw [a7, hA_sA, if_neg (by omega), a6, x_hA_nR, a5, hA_sA, if_neg (by omega), a4, x_hA_nR, a3, hA_sA, if_pos ⟨rfl, rfl⟩]
  · rw [a7, hA_sA, if_neg (by omega), a6, x_hA_nR, a5, hA_sA, if_pos ⟨rfl, rfl⟩]
  · rw [a7, hA_sA, if_pos ⟨rfl, rfl⟩]
  · rw [a7, x_hI_sA, a6, x_hI_nR, a5, x_hI_sA, a4, x_hI_nR, a3, x_hI_sA, a2, x_hI_nR, a1, x_hI_sA, a0, x_hI_nR]; exact i0 f
  · rw [a7, x_aI_sA, a6, x_aI_nR, n5, if_pos rfl]
end YK
