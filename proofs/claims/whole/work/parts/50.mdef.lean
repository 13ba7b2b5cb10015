/-! THE MODEL'S OBJECTS. mu: the ghost's addresses: 0 line, 1 part, 2 joint, 3 heat, 4 welder, 5 list (0 b: the model's four; 1 l: parts; 2 l: joints), 6 joined, 7 blinds, 8 tickets, 9 a list's array, 10 a circuit's Integer -/
abbrev zM : Type := Nat → Nat → Nat → Nat
abbrev zC : Type := Nat → Nat → Nat
def enc (x : Option Nat) : Int32 := match x with
  | none => -1
  | some i => nI i
def qN (n : zC) : Nat → Nat → Nat
  | 0, b => n b 0
  | 1, l => n 4 l
  | 2, l => n 4 l - 1
  | _, _ => 0
def lsOk (n : zC) : Nat → Nat → Prop
  | 0, b => b < 4
  | 1, l => l < n 0 0
  | 2, l => l < n 0 0
  | _, _ => False
def qE (mu : zM) : Nat → Nat → Nat → Nat
  | 0, 0, i => mu 0 i 0
  | 0, 1, i => mu 3 i 0
  | 0, 2, i => mu 4 i 0
  | 0, _, i => mu 10 i 0
  | 1, l, i => mu 1 l i
  | _, l, i => mu 2 l i
def vOk (n : zC) : Nat → Nat → Nat → Prop
  | 0, i, j => i < n 0 0 ∧ j = 0
  | 1, i, j => i < n 0 0 ∧ j < n 4 i
  | 2, i, j => i < n 0 0 ∧ j < n 4 i - 1
  | 3, i, j => i < n 1 0 ∧ j = 0
  | 4, i, j => i < n 2 0 ∧ j = 0
  | 5, i, j => lsOk n i j
  | 6, i, j => i < n 0 0 ∧ j = 0
  | 7, i, j => i < n 0 0 ∧ j = 0
  | 8, i, j => i < n 2 0 ∧ j = 0
  | 9, i, j => lsOk n i j ∧ 0 < qN n i j
  | _, _, _ => False
def vK : Nat → Nat
  | 0 => 10 | 1 => 11 | 2 => 9 | 3 => 8 | 4 => 12 | 5 => 14 | 6 => 30 | 7 => 31 | 8 => 30 | 9 => 35 | _ => 0
def vC : Nat → Nat
  | 0 => 9 | 1 => 10 | 2 => 8 | 3 => 7 | 4 => 11 | _ => 99
def vL : Nat → Nat
  | 6 => 2 | 7 => 2 | 8 => 4 | 9 => 10 | _ => 0
def mF : Nat → Nat
  | 1 => 144 | 3 => 149 | 4 => 151 | 5 => 150 | 6 => 160 | 7 => 161 | 8 => 128 | 9 => 129 | 11 => 112 | 13 => 113 | 14 => 114 | 16 => 177 | 18 => 162 | 19 => 130 | _ => 0
def mInv : Nat → Nat
  | 144 => 1 | 149 => 3 | 151 => 4 | 150 => 5 | 160 => 6 | 161 => 7 | 128 => 8 | 129 => 9 | 112 => 11 | 113 => 13 | 114 => 14 | 177 => 16 | 162 => 18 | 130 => 19 | _ => 99
def mT : Nat → Nat
  | 1 => 0 | 3 => 0 | 4 => 0 | 5 => 0 | 6 => 1 | 7 => 1 | 18 => 1 | 8 => 2 | 9 => 2 | 19 => 2 | 11 => 3 | 13 => 3 | 14 => 3 | 16 => 4 | _ => 99
def mV (σ : zS) (f i j : Nat) : Int32 := if f = 18 then enc (sR σ 0 i j) else if f = 19 then enc (sR σ 1 i j) else sV σ f i j
def mW (σ : zS) (k i a : Nat) : Int32 := if k = 6 then enc (sR σ 2 i a) else if k = 7 then sV σ 10 i a else sV σ 15 i a
/-- a constant text -/
def MS (B : Nat) (h : AH) (a : Nat) (s : List Int32) : Prop := hK h a = 20 ∧ hI h 321 a = 0 ∧ a < B ∧ ∃ b, hA h 320 a = some b ∧ hK h b = 54 ∧ hL h b = s.length ∧ b < B ∧ ∀ i, i < s.length → aI h b i = s.getD i 0
/-- the constants -/
def MC (g : Nat → Nat) (B : Nat) (h : AH) : Prop :=
  (hK h (g 0) = 55 ∧ hL h (g 0) = 0 ∧ g 0 < B) ∧ (hK h (g 1) = 50 ∧ hL h (g 1) = 4 ∧ g 1 < B ∧ aI h (g 1) 0 = 0 ∧ aI h (g 1) 1 = 5 ∧ aI h (g 1) 2 = 20 ∧ aI h (g 1) 3 = 100) ∧
  (hK h (g 2) = 61 ∧ hL h (g 2) = 256 ∧ g 2 < B ∧ ∀ x, x < 16 → ∃ c, aA h (g 2) (128 + x) = some c ∧ hK h c = 21 ∧ hI h 336 c = nI x ∧ c < B) ∧
  (MS B h (g 3) [119, 103, 98] ∧ MS B h (g 4) [103, 98] ∧ MS B h (g 5) [110, 98] ∧ MS B h (g 6) [115, 112, 119, 98, 108, 116, 105])
def M0 (g : Nat → Nat) (B : Nat) (mu : zM) (n : zC) (h : AH) : Prop :=
  (∀ k i j, vOk n k i j → B + 119 < mu k i j ∧ mu k i j < hN h ∧ hK h (mu k i j) = vK k) ∧
  (∀ k i j k' i' j', vOk n k i j → vOk n k' i' j' → mu k i j = mu k' i' j' → k = k' ∧ i = i' ∧ j = j') ∧
  (∀ k i j, vOk n k i j → 6 ≤ k → hL h (mu k i j) = vL k) ∧
  (∀ l, l < n 0 0 → hA h 145 (mu 0 l 0) = some (mu 5 1 l) ∧ hA h 146 (mu 0 l 0) = some (mu 5 2 l) ∧ hA h 147 (mu 0 l 0) = some (mu 6 l 0) ∧ hA h 148 (mu 0 l 0) = some (mu 7 l 0)) ∧
  (∀ w, w < n 2 0 → hA h 176 (mu 4 w 0) = some (mu 8 w 0)) ∧
  (hK h (B + 119) = 13 ∧ B + 119 < hN h ∧ ∀ b, b < 4 → hA h (192 + b) (B + 119) = some (mu 5 0 b)) ∧
  (∀ a b, lsOk n a b → hI h 210 (mu 5 a b) = nI (qN n a b) ∧ hA h 209 (mu 5 a b) = some (if qN n a b = 0 then g 0 else mu 9 a b) ∧ ∀ i, i < qN n a b → aA h (mu 9 a b) i = some (qE mu a b i)) ∧
  MC g B h
def M1 (B : Nat) (mu : zM) (σ : zS) (h : AH) : Prop :=
  (∀ f i j, vOk (sN σ) (mT f) i j → hI h (mF f) (mu (mT f) i j) = mV σ f i j) ∧
  (∀ k i a, 6 ≤ k → vOk (sN σ) k i 0 → k < 9 → a < vL k → aI h (mu k i 0) a = mW σ k i a) ∧
  (hI h 196 (B + 119) = sV σ 0 0 0 ∧ hI h 197 (B + 119) = sV σ 0 1 0 ∧ hI h 198 (B + 119) = sV σ 0 2 0) ∧
  (∀ c, c < sN σ 3 0 → hK h (mu 10 c 0) = 21 ∧ hI h 336 (mu 10 c 0) = sV σ 17 c 0 ∧ mu 10 c 0 < B)
def M (g : Nat → Nat) (B : Nat) (mu : zM) (σ : zS) (h : AH) : Prop := M0 g B mu (sN σ) h ∧ M1 B mu σ h
/-! frames -/
/-- what M0 looks at stays -/
def frS (B : Nat) (h h' : AH) : Prop := (∀ a, a < hN h → hK h' a = hK h a ∧ hL h' a = hL h a ∧ (∀ f, 112 ≤ f → hA h' f a = hA h f a) ∧ (∀ j, aA h' a j = aA h a j) ∧ hI h' 210 a = hI h 210 a) ∧ (∀ a, a < B → (∀ f, 112 ≤ f → hI h' f a = hI h f a) ∧ (∀ j, aI h' a j = aI h a j)) ∧ hN h ≤ hN h'
/-- what M1 looks at stays -/
def frT (B : Nat) (h h' : AH) : Prop := frS B h h' ∧ (∀ f a, 112 ≤ f → a < hN h → hI h' f a = hI h f a) ∧ ∀ a, B + 119 < a → a < hN h → ∀ j, aI h' a j = aI h a j
/-- old cells stay -/
def frO (h h' : AH) : Prop := (∀ a, a < hN h → hK h' a = hK h a ∧ hL h' a = hL h a ∧ (∀ f, hI h' f a = hI h f a ∧ hA h' f a = hA h f a) ∧ ∀ j, aI h' a j = aI h a j ∧ aA h' a j = aA h a j ∧ aJ h' a j = aJ h a j ∧ aD h' a j = aD h a j) ∧ hN h ≤ hN h'
/-- what the model leaves as it is -/
def frM (B : Nat) (h h' : AH) : Prop :=
  (∀ a, a < hN h → (∀ f, f < 112 ∨ a < B → hI h' f a = hI h f a ∧ hA h' f a = hA h f a) ∧ hK h' a = hK h a ∧ hL h' a = hL h a ∧ ∀ j, aJ h' a j = aJ h a j ∧ aD h' a j = aD h a j) ∧ (∀ a, a ≤ B + 119 → ∀ j, aI h' a j = aI h a j ∧ aA h' a j = aA h a j) ∧ hN h ≤ hN h'
/-- .. and its code -/
def frK (B : Nat) (h h' : AH) : Prop := frM B h h' ∧ hI h' 199 (B + 119) = hI h 199 (B + 119)
theorem frO.refl {h : AH} : frO h h := ⟨fun _ _ => ⟨rfl, rfl, fun _ => ⟨rfl, rfl⟩, fun _ => ⟨rfl, rfl, rfl, rfl⟩⟩, Nat.le_refl _⟩
theorem frO.trans {h h1 h2 : AH} (p : frO h h1) (q : frO h1 h2) : frO h h2 := by
  refine ⟨fun a ha => ?_, Nat.le_trans p.2 q.2⟩
  obtain ⟨p1, p2, p3, p4⟩ := p.1 a ha
  obtain ⟨q1, q2, q3, q4⟩ := q.1 a (Nat.lt_of_lt_of_le ha p.2)
  exact ⟨q1.trans p1, q2.trans p2, fun f => ⟨(q3 f).1.trans (p3 f).1, (q3 f).2.trans (p3 f).2⟩, fun j => ⟨(q4 j).1.trans (p4 j).1, (q4 j).2.1.trans (p4 j).2.1, (q4 j).2.2.1.trans (p4 j).2.2.1, (q4 j).2.2.2.trans (p4 j).2.2.2⟩⟩
theorem frN.O {h h' : AH} (p : frN h h') : frO h h' := by
  obtain ⟨p1, p2, p3, p4, p5, p6, p7, p8⟩ := p
  exact ⟨fun a ha => ⟨p2 a ha, by rw [p3], fun f => p1 f a ha, fun j => ⟨by rw [p4], by rw [p5], by rw [p6], by rw [p7]⟩⟩, p8⟩
theorem frO.T {B : Nat} {h h' : AH} (p : frO h h') (hB : B + 119 < hN h) : frT B h h' := by
  refine ⟨⟨fun a ha => ?_, fun a ha => ?_, p.2⟩, fun f a _ ha => ((p.1 a ha).2.2.1 f).1, fun a _ ha j => ((p.1 a ha).2.2.2 j).1⟩
  · obtain ⟨p1, p2, p3, p4⟩ := p.1 a ha
    exact ⟨p1, p2, fun f _ => (p3 f).2, fun j => (p4 j).2.1, (p3 210).1⟩
  · obtain ⟨p1, p2, p3, p4⟩ := p.1 a (by omega)
    exact ⟨fun f _ => (p3 f).1, fun j => (p4 j).1⟩
theorem frO.M {B : Nat} {h h' : AH} (p : frO h h') (hB : B + 119 < hN h) : frM B h h' := by
  refine ⟨fun a ha => ?_, fun a ha j => ?_, p.2⟩
  · obtain ⟨p1, p2, p3, p4⟩ := p.1 a ha
    exact ⟨fun f _ => p3 f, p1, p2, fun j => ⟨(p4 j).2.2.1, (p4 j).2.2.2⟩⟩
  · obtain ⟨p1, p2, p3, p4⟩ := p.1 a (by omega)
    exact ⟨(p4 j).1, (p4 j).2.1⟩
theorem frO.K {B : Nat} {h h' : AH} (p : frO h h') (hB : B + 119 < hN h) : frK B h h' := ⟨p.M hB, ((p.1 _ hB).2.2.1 199).1⟩
theorem frY.T {B : Nat} {h h' : AH} (p : frY B h h') : frT B h h' := by
  obtain ⟨p1, p2, p3, p4, p5, p6, p7, p8⟩ := p
  refine ⟨⟨fun a _ => ⟨by rw [p6], by rw [p7], fun f hf => (p1 f a hf).2, fun j => by rw [p3], (p1 210 a (by decide)).1⟩, fun a ha => ⟨fun f hf => (p1 f a hf).1, fun j => p2 a (Or.inl ha) j⟩, p8⟩, fun f a hf _ => (p1 f a hf).1, fun a ha _ j => p2 a (Or.inr (by omega)) j⟩
theorem frM.refl {B : Nat} {h : AH} : frM B h h := ⟨fun _ _ => ⟨fun _ _ => ⟨rfl, rfl⟩, rfl, rfl, fun _ => ⟨rfl, rfl⟩⟩, fun _ _ _ => ⟨rfl, rfl⟩, Nat.le_refl _⟩
theorem frM.trans {B : Nat} {h h1 h2 : AH} (p : frM B h h1) (q : frM B h1 h2) : frM B h h2 := by
  refine ⟨fun a ha => ?_, fun a ha j => ⟨(q.2.1 a ha j).1.trans (p.2.1 a ha j).1, (q.2.1 a ha j).2.trans (p.2.1 a ha j).2⟩, Nat.le_trans p.2.2 q.2.2⟩
  obtain ⟨p1, p2, p3, p4⟩ := p.1 a ha
  obtain ⟨q1, q2, q3, q4⟩ := q.1 a (Nat.lt_of_lt_of_le ha p.2.2)
  exact ⟨fun f hf => ⟨(q1 f hf).1.trans (p1 f hf).1, (q1 f hf).2.trans (p1 f hf).2⟩, q2.trans p2, q3.trans p3, fun j => ⟨(q4 j).1.trans (p4 j).1, (q4 j).2.trans (p4 j).2⟩⟩
theorem frK.refl {B : Nat} {h : AH} : frK B h h := ⟨frM.refl, rfl⟩
theorem frK.trans {B : Nat} {h h1 h2 : AH} (p : frK B h h1) (q : frK B h1 h2) : frK B h h2 := ⟨p.1.trans q.1, q.2.trans p.2⟩
theorem MS.keep {B : Nat} {h h' : AH} {a : Nat} {s : List Int32} (p : MS B h a s) (q : frS B h h') (hB : B < hN h) : MS B h' a s := by
  obtain ⟨p1, p2, p3, b, p4, p5, p6, p7, p8⟩ := p
  obtain ⟨q1, q2, q3⟩ := q
  have a1 := q1 a (by omega)
  have b1 := q1 b (by omega)
  exact ⟨a1.1.trans p1, ((q2 a p3).1 321 (by decide)).trans p2, p3, b, (a1.2.2.1 320 (by decide)).trans p4, b1.1.trans p5, b1.2.1.trans p6, p7, fun i hi => ((q2 b p7).2 i).trans (p8 i hi)⟩
theorem MC.keep {g : Nat → Nat} {B : Nat} {h h' : AH} (p : MC g B h) (q : frS B h h') (hB : B < hN h) : MC g B h' := by
  obtain ⟨⟨a1, a2, a3⟩, ⟨b1, b2, b3, b4⟩, ⟨c1, c2, c3, c4⟩, d1, d2, d3, d4⟩ := p
  have k := q.1
  have k2 := q.2.1
  have ka := k (g 0) (by omega)
  have kb := k (g 1) (by omega)
  have kc := k (g 2) (by omega)
  refine ⟨⟨ka.1.trans a1, ka.2.1.trans a2, a3⟩, ⟨kb.1.trans b1, kb.2.1.trans b2, b3, ?_⟩, ⟨kc.1.trans c1, kc.2.1.trans c2, c3, ?_⟩, d1.keep q hB, d2.keep q hB, d3.keep q hB, d4.keep q hB⟩
  · rw [(k2 (g 1) b3).2 0, (k2 (g 1) b3).2 1, (k2 (g 1) b3).2 2, (k2 (g 1) b3).2 3]
    exact b4
  · intro x hx
    obtain ⟨c, e1, e2, e3, e4⟩ := c4 x hx
    exact ⟨c, (kc.2.2.2.1 _).trans e1, (k c (by omega)).1.trans e2, ((k2 c e4).1 336 (by decide)).trans e3, e4⟩
theorem qE_ok {n : zC} {a b : Nat} (h : lsOk n a b) : a = 0 ∧ b < 4 ∨ a = 1 ∧ b < n 0 0 ∨ a = 2 ∧ b < n 0 0 := by
  match a, h with
  | 0, h => exact Or.inl ⟨rfl, h⟩
  | 1, h => exact Or.inr (Or.inl ⟨rfl, h⟩)
  | 2, h => exact Or.inr (Or.inr ⟨rfl, h⟩)
theorem M0.keep {g : Nat → Nat} {B : Nat} {mu : zM} {n : zC} {h h' : AH} (p : M0 g B mu n h) (q : frS B h h') : M0 g B mu n h' := by
  obtain ⟨p1, p2, p3, p4, p5, ⟨p6, p7, p8⟩, p9, p10⟩ := p
  have k := q.1
  refine ⟨?_, p2, ?_, ?_, ?_, ⟨(k _ p7).1.trans p6, Nat.lt_of_lt_of_le p7 q.2.2, ?_⟩, ?_, p10.keep q (by omega)⟩
  · intro a i j ok
    obtain ⟨x1, x2, x3⟩ := p1 a i j ok
    exact ⟨x1, Nat.lt_of_lt_of_le x2 q.2.2, (k _ x2).1.trans x3⟩
  · intro a i j ok h6
    exact (k _ (p1 a i j ok).2.1).2.1.trans (p3 a i j ok h6)
  · intro l hl
    obtain ⟨x1, x2, x3⟩ := p1 0 l 0 ⟨hl, rfl⟩
    have z := (k _ x2).2.2.1
    rw [z 145 (by decide), z 146 (by decide), z 147 (by decide), z 148 (by decide)]
    exact p4 l hl
  · intro w hw
    obtain ⟨x1, x2, x3⟩ := p1 4 w 0 ⟨hw, rfl⟩
    rw [(k _ x2).2.2.1 176 (by decide)]
    exact p5 w hw
  · intro b hb
    rw [(k _ p7).2.2.1 _ (by omega)]
    exact p8 b hb
  · intro a b ok
    obtain ⟨x1, x2, x3⟩ := p1 5 a b ok
    obtain ⟨y1, y2, y3⟩ := p9 a b ok
    refine ⟨(k _ x2).2.2.2.2.trans y1, ((k _ x2).2.2.1 209 (by decide)).trans y2, fun i hi => ?_⟩
    obtain ⟨z1, z2, z3⟩ := p1 9 a b ⟨ok, by omega⟩
    exact ((k _ z2).2.2.2.1 i).trans (y3 i hi)
theorem mF_ok {n : zC} {f i j : Nat} (ok : vOk n (mT f) i j) : mInv (mF f) = f ∧ 112 ≤ mF f ∧ mF f < 192 ∧ mT f < 5 := by
  have h5 : ∀ f, mT f = 99 ∨ f = 1 ∨ f = 3 ∨ f = 4 ∨ f = 5 ∨ f = 6 ∨ f = 7 ∨ f = 18 ∨ f = 8 ∨ f = 9 ∨ f = 19 ∨ f = 11 ∨ f = 13 ∨ f = 14 ∨ f = 16 := by
    intro f
    unfold mT
    split <;> simp
  rcases h5 f with q | rfl | rfl | rfl | rfl | rfl | rfl | rfl | rfl | rfl | rfl | rfl | rfl | rfl | rfl
  · rw [q] at ok; exact ok.elim
  all_goals exact ⟨rfl, by decide, by decide, by decide⟩
theorem M.keep {g : Nat → Nat} {B : Nat} {mu : zM} {σ : zS} {h h' : AH} (p : M g B mu σ h) (q : frT B h h') : M g B mu σ h' := by
  obtain ⟨p0, p1, p2, ⟨p3, p4, p5⟩, p6⟩ := p
  have hB := p0.2.2.2.2.2.1.2.1
  refine ⟨p0.keep q.1, ?_, ?_, ⟨(q.2.1 196 _ (by decide) hB).trans p3, (q.2.1 197 _ (by decide) hB).trans p4, (q.2.1 198 _ (by decide) hB).trans p5⟩, ?_⟩
  · intro f i j ok
    exact (q.2.1 _ _ (mF_ok ok).2.1 (p0.1 _ i j ok).2.1).trans (p1 f i j ok)
  · intro k i a h6 ok h9 ha
    obtain ⟨z1, z2, z3⟩ := p0.1 k i 0 ok
    exact (q.2.2 _ z1 z2 a).trans (p2 k i a h6 ok h9 ha)
  · intro c hc
    obtain ⟨z1, z2, z3⟩ := p6 c hc
    exact ⟨(q.1.1 _ (by omega)).1.trans z1, (q.2.1 336 _ (by decide) (by omega)).trans z2, z3⟩
theorem M.hB {g : Nat → Nat} {B : Nat} {mu : zM} {σ : zS} {h : AH} (p : M g B mu σ h) : B + 119 < hN h := p.1.2.2.2.2.2.1.2.1
theorem M.old {g : Nat → Nat} {B : Nat} {mu : zM} {σ : zS} {h h' : AH} (p : M g B mu σ h) (q : frO h h') : M g B mu σ h' := p.keep (q.T p.hB)
/-- the class's objects under what the model does -/
theorem Y.keepM {B : Nat} {σ : zS} {h h' : AH} (y : Y B σ h) (q : frM B h h') (hB : B + 119 ≤ hN h) : Y B σ h' := by
  obtain ⟨⟨c1, c2, c3, c4, c5, c6, c7, c8⟩, y2, y3, y4, y5, y6⟩ := y
  have k : ∀ a, a < B + 119 → hK h' a = hK h a ∧ hL h' a = hL h a := fun a ha => ⟨(q.1 a (by omega)).2.1, (q.1 a (by omega)).2.2.1⟩
  have kf : ∀ f a, f < 112 → a < B + 119 → hI h' f a = hI h f a ∧ hA h' f a = hA h f a := fun f a hf ha => (q.1 a (by omega)).1 f (Or.inl hf)
  have ka : ∀ a, a < B + 119 → ∀ j, aI h' a j = aI h a j ∧ aA h' a j = aA h a j := fun a ha => q.2.1 a (by omega)
  refine ⟨⟨?_, ?_, ?_, ?_, ?_, ?_, ?_, ?_⟩, ?_, ?_, ?_, ?_, ?_⟩
  · rw [(k B (by omega)).1, (k (B + 1) (by omega)).1, (k (B + 1) (by omega)).2, (k (B + 2) (by omega)).1, (k (B + 2) (by omega)).2, (k (B + 3) (by omega)).1, (k (B + 3) (by omega)).2, (k (B + 4) (by omega)).1, (k (B + 4) (by omega)).2]
    exact c1
  · rw [(kf 96 B (by decide) (by omega)).2, (kf 97 B (by decide) (by omega)).2, (kf 98 B (by decide) (by omega)).2, (kf 99 B (by decide) (by omega)).2]
    exact c2
  · intro l hl
    have e1 : yL B l + 2 < B + 119 := by simp only [yL]; omega
    rw [(k (yL B l) (by omega)).1, (k (yL B l + 1) (by omega)).1, (k (yL B l + 1) (by omega)).2, (k (yL B l + 2) (by omega)).1, (k (yL B l + 2) (by omega)).2, (kf 48 (yL B l) (by decide) (by omega)).2, (kf 49 (yL B l) (by decide) (by omega)).2, (kf 50 (yL B l) (by decide) (by omega)).2, (kf 51 (yL B l) (by decide) (by omega)).2, (ka (B + 1) (by omega) l).2]
    exact c3 l hl
  · intro l p hl hp
    rw [(k (yP B l p) (by simp only [yP]; omega)).1, (ka (yL B l + 1) (by simp only [yL]; omega) p).2]
    exact c4 l p hl hp
  · intro l p hl hp
    rw [(k (yJ B l p) (by simp only [yJ]; omega)).1, (ka (yL B l + 2) (by simp only [yL]; omega) p).2]
    exact c5 l p hl hp
  · intro l a hl ha
    rw [(k (yE B l a) (by simp only [yE]; omega)).1, (kf 0 (yE B l a) (by decide) (by simp only [yE]; omega)).1]
    exact c6 l a hl ha
  · intro x hx
    rw [(k (yH B x) (by simp only [yH]; omega)).1, (ka (B + 2) (by omega) x).2, (kf 16 (yH B x) (by decide) (by simp only [yH]; omega)).1]
    exact c7 x hx
  · intro w hw
    rw [(k (yW B w) (by simp only [yW]; omega)).1, (k (yW B w + 1) (by simp only [yW]; omega)).1, (k (yW B w + 1) (by simp only [yW]; omega)).2, (kf 81 (yW B w) (by decide) (by simp only [yW]; omega)).2, (ka (B + 3) (by omega) w).2, (kf 80 (yW B w) (by decide) (by simp only [yW]; omega)).1]
    exact c8 w hw
  · intro f i j ok
    have e : yAd B f i j < B + 119 := by
      match f, ok with
      | 0, _ => simp only [yAd]; omega
      | 2, ok => obtain ⟨o1, o2⟩ := ok; simp only [yAd, yL]; omega
      | 3, ok => obtain ⟨o1, o2⟩ := ok; simp only [yAd, yL]; omega
      | 4, ok => obtain ⟨o1, o2⟩ := ok; simp only [yAd, yL]; omega
      | 5, ok => obtain ⟨o1, o2⟩ := ok; simp only [yAd, yL]; omega
      | 6, ok => obtain ⟨o1, o2⟩ := ok; simp only [yAd, yP]; omega
      | 7, ok => obtain ⟨o1, o2⟩ := ok; simp only [yAd, yP]; omega
      | 8, ok => obtain ⟨o1, o2⟩ := ok; simp only [yAd, yJ]; omega
      | 9, ok => obtain ⟨o1, o2⟩ := ok; simp only [yAd, yJ]; omega
      | 10, ok => obtain ⟨o1, o2⟩ := ok; simp only [yAd, yE]; omega
      | 11, ok => obtain ⟨o1, o2⟩ := ok; simp only [yAd, yH]; omega
      | 12, ok => obtain ⟨o1, o2⟩ := ok; simp only [yAd, yH]; omega
      | 13, ok => obtain ⟨o1, o2⟩ := ok; simp only [yAd, yH]; omega
      | 14, ok => obtain ⟨o1, o2⟩ := ok; simp only [yAd, yH]; omega
      | 16, ok => obtain ⟨o1, o2⟩ := ok; simp only [yAd, yW]; omega
    rw [(kf _ _ (yF_lt ok).1 e).1]
    exact y2 f i j ok
  · intro f i j ok
    have e : yRA B f i j < B + 119 ∧ yRF f < 112 := by
      match f, ok with
      | 0, ok => obtain ⟨o1, o2⟩ := ok; simp only [yRA, yP, yRF]; omega
      | 1, ok => obtain ⟨o1, o2⟩ := ok; simp only [yRA, yJ, yRF]; omega
      | 2, ok => obtain ⟨o1, o2⟩ := ok; simp only [yRA, yE, yRF]; omega
    rw [(kf _ _ e.2 e.1).2]
    exact y3 f i j ok
  · intro c i ok
    have e : yNA B c i < B + 119 ∧ yNF c < 112 := by
      match c, ok with
      | 0, _ => simp only [yNA, yNF]; omega
      | 1, _ => simp only [yNA, yNF]; omega
      | 2, _ => simp only [yNA, yNF]; omega
      | 3, _ => simp only [yNA, yNF]; omega
      | 4, ok => have o1 : i < 4 := ok; simp only [yNA, yNF, yL]; omega
    rw [(kf _ _ e.2 e.1).1]
    exact y4 c i ok
  · intro w a hw ha
    rw [(ka (yW B w + 1) (by simp only [yW]; omega) a).1]
    exact y5 w a hw ha
  · intro c hc
    rw [(ka (B + 4) (by omega) c).1]
    exact y6 c hc
