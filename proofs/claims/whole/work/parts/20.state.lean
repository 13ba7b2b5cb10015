/-! THE STATE OF BOTH SIDES: counts, ints, references, by index -/
abbrev zS : Type := (Nat → Nat → Nat) × (Nat → Nat → Nat → Int32) × (Nat → Nat → Nat → Option Nat)
def sN (σ : zS) : Nat → Nat → Nat := σ.1
def sV (σ : zS) : Nat → Nat → Nat → Int32 := σ.2.1
def sR (σ : zS) : Nat → Nat → Nat → Option Nat := σ.2.2
def wN (σ : zS) (k i v : Nat) : zS := ((fun a b => if a = k ∧ b = i then v else σ.1 a b), σ.2.1, σ.2.2)
def wV (σ : zS) (f i j : Nat) (v : Int32) : zS := (σ.1, (fun a b c => if a = f ∧ b = i ∧ c = j then v else σ.2.1 a b c), σ.2.2)
def wR (σ : zS) (f i j : Nat) (v : Option Nat) : zS := (σ.1, σ.2.1, fun a b c => if a = f ∧ b = i ∧ c = j then v else σ.2.2 a b c)
theorem sN_wN (σ : zS) (k i v a b : Nat) : sN (wN σ k i v) a b = if a = k ∧ b = i then v else sN σ a b := rfl
theorem sV_wN (σ : zS) (k i v : Nat) : sV (wN σ k i v) = sV σ := rfl
theorem sR_wN (σ : zS) (k i v : Nat) : sR (wN σ k i v) = sR σ := rfl
theorem sN_wV (σ : zS) (f i j : Nat) (v : Int32) : sN (wV σ f i j v) = sN σ := rfl
theorem sV_wV (σ : zS) (f i j : Nat) (v : Int32) (a b c : Nat) : sV (wV σ f i j v) a b c = if a = f ∧ b = i ∧ c = j then v else sV σ a b c := rfl
theorem sR_wV (σ : zS) (f i j : Nat) (v : Int32) : sR (wV σ f i j v) = sR σ := rfl
theorem sN_wR (σ : zS) (f i j : Nat) (v : Option Nat) : sN (wR σ f i j v) = sN σ := rfl
theorem sV_wR (σ : zS) (f i j : Nat) (v : Option Nat) : sV (wR σ f i j v) = sV σ := rfl
theorem sR_wR (σ : zS) (f i j : Nat) (v : Option Nat) (a b c : Nat) : sR (wR σ f i j v) a b c = if a = f ∧ b = i ∧ c = j then v else sR σ a b c := rfl
/-! where the class's objects lie, counted from the object's own cell -/
def yL (B l : Nat) : Nat := B + 5 + 24 * l
def yP (B l p : Nat) : Nat := B + 8 + 24 * l + p
def yJ (B l j : Nat) : Nat := B + 18 + 24 * l + j
def yE (B l a : Nat) : Nat := B + 27 + 24 * l + a
def yH (B h : Nat) : Nat := B + 101 + h
def yW (B w : Nat) : Nat := B + 109 + 2 * w
/-- the ints: 0 today, undone, cut; 2 share, 3 bad looks, 4 tested, 5 ahead; 6 kind, 7 size; 8 state, 9 repairs; 10 blind; 11 alloy, 12 size, 13 rest, 14 paper; 16 bad looks -/
def yF : Nat → Nat → Nat
  | 0, i => 104 + i | 2, _ => 53 | 3, _ => 54 | 4, _ => 55 | 5, _ => 56 | 6, _ => 64 | 7, _ => 65 | 8, _ => 32 | 9, _ => 33 | 10, _ => 2 | 11, _ => 17 | 12, _ => 18 | 13, _ => 19 | 14, _ => 20 | 16, _ => 82 | _, _ => 0
def yC : Nat → Nat
  | 0 => 6 | 2 => 3 | 3 => 3 | 4 => 3 | 5 => 3 | 6 => 4 | 7 => 4 | 8 => 2 | 9 => 2 | 10 => 0 | 11 => 1 | 12 => 1 | 13 => 1 | 14 => 1 | 16 => 5 | _ => 0
def yAd (B : Nat) : Nat → Nat → Nat → Nat
  | 0, _, _ => B | 2, i, _ => yL B i | 3, i, _ => yL B i | 4, i, _ => yL B i | 5, i, _ => yL B i | 6, i, j => yP B i j | 7, i, j => yP B i j | 8, i, j => yJ B i j | 9, i, j => yJ B i j | 10, i, j => yE B i j | 11, i, _ => yH B i | 12, i, _ => yH B i | 13, i, _ => yH B i | 14, i, _ => yH B i | 16, i, _ => yW B i | _, _, _ => 0
def yOk : Nat → Nat → Nat → Prop
  | 0, i, j => i < 3 ∧ j = 0 | 2, i, j => i < 4 ∧ j = 0 | 3, i, j => i < 4 ∧ j = 0 | 4, i, j => i < 4 ∧ j = 0 | 5, i, j => i < 4 ∧ j = 0 | 6, i, j => i < 4 ∧ j < 10 | 7, i, j => i < 4 ∧ j < 10 | 8, i, j => i < 4 ∧ j < 9 | 9, i, j => i < 4 ∧ j < 9 | 10, i, j => i < 4 ∧ j < 2 | 11, i, j => i < 8 ∧ j = 0 | 12, i, j => i < 8 ∧ j = 0 | 13, i, j => i < 8 ∧ j = 0 | 14, i, j => i < 8 ∧ j = 0 | 16, i, j => i < 5 ∧ j = 0 | _, _, _ => False
/-- which of them a field is -/
def yInv : Nat → Nat
  | 104 => 0 | 105 => 0 | 106 => 0 | 53 => 2 | 54 => 3 | 55 => 4 | 56 => 5 | 64 => 6 | 65 => 7 | 32 => 8 | 33 => 9 | 2 => 10 | 17 => 11 | 18 => 12 | 19 => 13 | 20 => 14 | 82 => 16 | _ => 99
theorem yInv_F {f i j : Nat} (ok : yOk f i j) : yInv (yF f i) = f := by
  match f, ok with
  | 0, ok => obtain ⟨h1, -⟩ := ok; match i, h1 with
    | 0, _ => rfl
    | 1, _ => rfl
    | 2, _ => rfl
  | 2, _ => rfl
  | 3, _ => rfl
  | 4, _ => rfl
  | 5, _ => rfl
  | 6, _ => rfl
  | 7, _ => rfl
  | 8, _ => rfl
  | 9, _ => rfl
  | 10, _ => rfl
  | 11, _ => rfl
  | 12, _ => rfl
  | 13, _ => rfl
  | 14, _ => rfl
  | 16, _ => rfl
theorem yInj {B f i j f' i' j' : Nat} (ok : yOk f i j) (ok' : yOk f' i' j') (h1 : yF f' i' = yF f i) (h2 : yAd B f' i' j' = yAd B f i j) : f' = f ∧ i' = i ∧ j' = j := by
  have e : f' = f := by rw [← yInv_F ok', ← yInv_F ok, h1]
  subst e
  refine ⟨rfl, ?_⟩
  match f', ok, ok' with
  | 0, ok, ok' => simp only [yF, yOk] at h1 ok ok'; omega
  | 2, ok, ok' => simp only [yAd, yL, yOk] at h2 ok ok'; omega
  | 3, ok, ok' => simp only [yAd, yL, yOk] at h2 ok ok'; omega
  | 4, ok, ok' => simp only [yAd, yL, yOk] at h2 ok ok'; omega
  | 5, ok, ok' => simp only [yAd, yL, yOk] at h2 ok ok'; omega
  | 6, ok, ok' => simp only [yAd, yP, yOk] at h2 ok ok'; omega
  | 7, ok, ok' => simp only [yAd, yP, yOk] at h2 ok ok'; omega
  | 8, ok, ok' => simp only [yAd, yJ, yOk] at h2 ok ok'; omega
  | 9, ok, ok' => simp only [yAd, yJ, yOk] at h2 ok ok'; omega
  | 10, ok, ok' => simp only [yAd, yE, yOk] at h2 ok ok'; omega
  | 11, ok, ok' => simp only [yAd, yH, yOk] at h2 ok ok'; omega
  | 12, ok, ok' => simp only [yAd, yH, yOk] at h2 ok ok'; omega
  | 13, ok, ok' => simp only [yAd, yH, yOk] at h2 ok ok'; omega
  | 14, ok, ok' => simp only [yAd, yH, yOk] at h2 ok ok'; omega
  | 16, ok, ok' => simp only [yAd, yW, yOk] at h2 ok ok'; omega
/-- the references: 0 a part's heat, 1 a joint's welder, 2 an end's mate (twice its line, and which end) -/
def yRF : Nat → Nat
  | 0 => 66 | 1 => 34 | 2 => 1 | _ => 0
def yRC : Nat → Nat
  | 0 => 4 | 1 => 2 | _ => 0
def yRA (B : Nat) : Nat → Nat → Nat → Nat
  | 0, i, j => yP B i j | 1, i, j => yJ B i j | 2, i, j => yE B i j | _, _, _ => 0
def yRT (B : Nat) : Nat → Nat → Nat
  | 0, h => yH B h | 1, w => yW B w | 2, m => yE B (m / 2) (m % 2) | _, _ => 0
def yROk : Nat → Nat → Nat → Prop
  | 0, i, j => i < 4 ∧ j < 10 | 1, i, j => i < 4 ∧ j < 9 | 2, i, j => i < 4 ∧ j < 2 | _, _, _ => False
theorem yRInj {B f i j f' i' j' : Nat} (ok : yROk f i j) (ok' : yROk f' i' j') (h1 : yRF f' = yRF f) (h2 : yRA B f' i' j' = yRA B f i j) : f' = f ∧ i' = i ∧ j' = j := by
  match f, f', ok, ok' with
  | 0, 0, ok, ok' => simp only [yRA, yP, yROk] at h2 ok ok'; omega
  | 1, 1, ok, ok' => simp only [yRA, yJ, yROk] at h2 ok ok'; omega
  | 2, 2, ok, ok' => simp only [yRA, yE, yROk] at h2 ok ok'; omega
  | 0, 1, _, _ => simp [yRF] at h1
  | 0, 2, _, _ => simp [yRF] at h1
  | 1, 0, _, _ => simp [yRF] at h1
  | 1, 2, _, _ => simp [yRF] at h1
  | 2, 0, _, _ => simp [yRF] at h1
  | 2, 1, _, _ => simp [yRF] at h1
/-- the counts: 0 lines, 1 heats, 2 welders, 3 circuits; 4 a line's parts -/
def yNF : Nat → Nat
  | 0 => 100 | 1 => 101 | 2 => 102 | 3 => 103 | _ => 52
def yNC : Nat → Nat
  | 4 => 3 | _ => 6
def yNA (B : Nat) : Nat → Nat → Nat
  | 4, i => yL B i | _, _ => B
def yNOk : Nat → Nat → Prop
  | 0, i => i = 0 | 1, i => i = 0 | 2, i => i = 0 | 3, i => i = 0 | 4, i => i < 4 | _, _ => False
theorem yNInj {B k i k' i' : Nat} (ok : yNOk k i) (ok' : yNOk k' i') (h1 : yNF k' = yNF k) (h2 : yNA B k' i' = yNA B k i) : k' = k ∧ i' = i := by
  match k, k', ok, ok' with
  | 0, 0, ok, ok' => simp only [yNOk] at ok ok'; omega
  | 1, 1, ok, ok' => simp only [yNOk] at ok ok'; omega
  | 2, 2, ok, ok' => simp only [yNOk] at ok ok'; omega
  | 3, 3, ok, ok' => simp only [yNOk] at ok ok'; omega
  | 4, 4, ok, ok' => simp only [yNA, yL] at h2; omega
  | 0, 1, _, _ => simp [yNF] at h1
  | 0, 2, _, _ => simp [yNF] at h1
  | 0, 3, _, _ => simp [yNF] at h1
  | 0, 4, _, _ => simp [yNF] at h1
  | 1, 0, _, _ => simp [yNF] at h1
  | 1, 2, _, _ => simp [yNF] at h1
  | 1, 3, _, _ => simp [yNF] at h1
  | 1, 4, _, _ => simp [yNF] at h1
  | 2, 0, _, _ => simp [yNF] at h1
  | 2, 1, _, _ => simp [yNF] at h1
  | 2, 3, _, _ => simp [yNF] at h1
  | 2, 4, _, _ => simp [yNF] at h1
  | 3, 0, _, _ => simp [yNF] at h1
  | 3, 1, _, _ => simp [yNF] at h1
  | 3, 2, _, _ => simp [yNF] at h1
  | 3, 4, _, _ => simp [yNF] at h1
  | 4, 0, _, _ => simp [yNF] at h1
  | 4, 1, _, _ => simp [yNF] at h1
  | 4, 2, _, _ => simp [yNF] at h1
  | 4, 3, _, _ => simp [yNF] at h1
/-- what stays: kinds, lengths, the rows' cells, numbers -/
def YC (B : Nat) (h : AH) : Prop :=
  (hK h B = 7 ∧ (hK h (B + 1) = 36 ∧ hL h (B + 1) = 4) ∧ (hK h (B + 2) = 37 ∧ hL h (B + 2) = 8) ∧ (hK h (B + 3) = 38 ∧ hL h (B + 3) = 5) ∧ hK h (B + 4) = 30 ∧ hL h (B + 4) = 6) ∧
  (hA h 96 B = some (B + 1) ∧ hA h 97 B = some (B + 2) ∧ hA h 98 B = some (B + 3) ∧ hA h 99 B = some (B + 4)) ∧
  (∀ l, l < 4 → hK h (yL B l) = 4 ∧ (hK h (yL B l + 1) = 39 ∧ hL h (yL B l + 1) = 10) ∧ (hK h (yL B l + 2) = 40 ∧ hL h (yL B l + 2) = 9) ∧ hA h 48 (yL B l) = some (yL B l + 1) ∧ hA h 49 (yL B l) = some (yL B l + 2) ∧ hA h 50 (yL B l) = some (yE B l 0) ∧ hA h 51 (yL B l) = some (yE B l 1) ∧ aA h (B + 1) l = some (yL B l)) ∧
  (∀ l p, l < 4 → p < 10 → hK h (yP B l p) = 5 ∧ aA h (yL B l + 1) p = some (yP B l p)) ∧
  (∀ l j, l < 4 → j < 9 → hK h (yJ B l j) = 3 ∧ aA h (yL B l + 2) j = some (yJ B l j)) ∧
  (∀ l a, l < 4 → a < 2 → hK h (yE B l a) = 1 ∧ hI h 0 (yE B l a) = nI l) ∧
  (∀ q, q < 8 → hK h (yH B q) = 2 ∧ aA h (B + 2) q = some (yH B q) ∧ hI h 16 (yH B q) = nI q) ∧
  (∀ w, w < 5 → hK h (yW B w) = 6 ∧ (hK h (yW B w + 1) = 30 ∧ hL h (yW B w + 1) = 4) ∧ hA h 81 (yW B w) = some (yW B w + 1) ∧ aA h (B + 3) w = some (yW B w) ∧ hI h 80 (yW B w) = nI w)
/-- the class's objects hold σ -/
def Y (B : Nat) (σ : zS) (h : AH) : Prop :=
  YC B h ∧ (∀ f i j, yOk f i j → hI h (yF f i) (yAd B f i j) = sV σ f i j) ∧ (∀ f i j, yROk f i j → hA h (yRF f) (yRA B f i j) = (sR σ f i j).map (yRT B f)) ∧
  (∀ k i, yNOk k i → hI h (yNF k) (yNA B k i) = nI (sN σ k i)) ∧ (∀ w a, w < 5 → a < 4 → aI h (yW B w + 1) a = sV σ 15 w a) ∧ (∀ c, c < 6 → aI h (B + 4) c = sV σ 17 c 0)
/-- what the class leaves as it is -/
def frY (B : Nat) (h h' : AH) : Prop :=
  (∀ f a, 112 ≤ f → hI h' f a = hI h f a ∧ hA h' f a = hA h f a) ∧ (∀ a, a < B ∨ B + 119 ≤ a → (∀ j, aI h' a j = aI h a j)) ∧ aA h' = aA h ∧ aJ h' = aJ h ∧ aD h' = aD h ∧ hK h' = hK h ∧ hL h' = hL h ∧ hN h ≤ hN h'
theorem frY.refl {B : Nat} {h : AH} : frY B h h := ⟨fun _ _ _ => ⟨rfl, rfl⟩, fun _ _ _ => rfl, rfl, rfl, rfl, rfl, rfl, Nat.le_refl _⟩
theorem frY.trans {B : Nat} {h h1 h2 : AH} (a : frY B h h1) (b : frY B h1 h2) : frY B h h2 := by
  obtain ⟨a1, a2, a3, a4, a5, a6, a7, a8⟩ := a
  obtain ⟨b1, b2, b3, b4, b5, b6, b7, b8⟩ := b
  exact ⟨fun f x hf => ⟨(b1 f x hf).1.trans (a1 f x hf).1, (b1 f x hf).2.trans (a1 f x hf).2⟩, fun x hx j => (b2 x hx j).trans (a2 x hx j), b3.trans a3, b4.trans a4, b5.trans a5, b6.trans a6, b7.trans a7, Nat.le_trans a8 b8⟩
theorem yF_lt {f i j : Nat} (ok : yOk f i j) : yF f i < 112 ∧ yF f i ≠ 0 ∧ yF f i ≠ 16 ∧ yF f i ≠ 80 ∧ (∀ k i', yNOk k i' → yNF k ≠ yF f i) := by
  have e := yInv_F ok
  refine ⟨?_, ?_, ?_, ?_, ?_⟩
  · match f, ok with
    | 0, ok => simp only [yF, yOk] at ok ⊢; omega
    | 2, _ => simp [yF]
    | 3, _ => simp [yF]
    | 4, _ => simp [yF]
    | 5, _ => simp [yF]
    | 6, _ => simp [yF]
    | 7, _ => simp [yF]
    | 8, _ => simp [yF]
    | 9, _ => simp [yF]
    | 10, _ => simp [yF]
    | 11, _ => simp [yF]
    | 12, _ => simp [yF]
    | 13, _ => simp [yF]
    | 14, _ => simp [yF]
    | 16, _ => simp [yF]
  · intro q; rw [q] at e; simp only [yInv] at e; subst e; exact ok.elim
  · intro q; rw [q] at e; simp only [yInv] at e; subst e; exact ok.elim
  · intro q; rw [q] at e; simp only [yInv] at e; subst e; exact ok.elim
  · intro k i' hk q
    rw [← q] at e
    match k, hk with
    | 0, _ => simp only [yNF, yInv] at e; subst e; exact ok.elim
    | 1, _ => simp only [yNF, yInv] at e; subst e; exact ok.elim
    | 2, _ => simp only [yNF, yInv] at e; subst e; exact ok.elim
    | 3, _ => simp only [yNF, yInv] at e; subst e; exact ok.elim
    | 4, _ => simp only [yNF, yInv] at e; subst e; exact ok.elim
theorem Y.kind {B : Nat} {σ : zS} {h : AH} (y : Y B σ h) {f i j : Nat} (ok : yOk f i j) : hK h (yAd B f i j) = yC f + 1 := by
  obtain ⟨⟨c1, c2, c3, c4, c5, c6, c7, c8⟩, -⟩ := y
  match f, ok with
  | 0, _ => exact c1.1
  | 2, ok => exact (c3 i ok.1).1
  | 3, ok => exact (c3 i ok.1).1
  | 4, ok => exact (c3 i ok.1).1
  | 5, ok => exact (c3 i ok.1).1
  | 6, ok => exact (c4 i j ok.1 ok.2).1
  | 7, ok => exact (c4 i j ok.1 ok.2).1
  | 8, ok => exact (c5 i j ok.1 ok.2).1
  | 9, ok => exact (c5 i j ok.1 ok.2).1
  | 10, ok => exact (c6 i j ok.1 ok.2).1
  | 11, ok => exact (c7 i ok.1).1
  | 12, ok => exact (c7 i ok.1).1
  | 13, ok => exact (c7 i ok.1).1
  | 14, ok => exact (c7 i ok.1).1
  | 16, ok => exact (c8 i ok.1).1
theorem Y.kindR {B : Nat} {σ : zS} {h : AH} (y : Y B σ h) {f i j : Nat} (ok : yROk f i j) : hK h (yRA B f i j) = yRC f + 1 := by
  obtain ⟨⟨c1, c2, c3, c4, c5, c6, c7, c8⟩, -⟩ := y
  match f, ok with
  | 0, ok => exact (c4 i j ok.1 ok.2).1
  | 1, ok => exact (c5 i j ok.1 ok.2).1
  | 2, ok => exact (c6 i j ok.1 ok.2).1
theorem Y.kindN {B : Nat} {σ : zS} {h : AH} (y : Y B σ h) {k i : Nat} (ok : yNOk k i) : hK h (yNA B k i) = yNC k + 1 := by
  obtain ⟨⟨c1, c2, c3, c4, c5, c6, c7, c8⟩, -⟩ := y
  match k, ok with
  | 0, _ => exact c1.1
  | 1, _ => exact c1.1
  | 2, _ => exact c1.1
  | 3, _ => exact c1.1
  | 4, ok => exact (c3 i ok).1
-- reading and writing by index
theorem Y.getI {B : Nat} {σ : zS} {h : AH} (y : Y B σ h) (f i j : Nat) (ok : yOk f i j) {kk : Int32 → Prop} (k : kk (sV σ f i j)) : gI h (some (yAd B f i j)) (yC f) (yF f i) kk :=
  ⟨_, rfl, y.kind ok, by rw [y.2.1 f i j ok]; exact k⟩
theorem Y.getN {B : Nat} {σ : zS} {h : AH} (y : Y B σ h) (k i : Nat) (ok : yNOk k i) {kk : Int32 → Prop} (q : kk (nI (sN σ k i))) : gI h (some (yNA B k i)) (yNC k) (yNF k) kk :=
  ⟨_, rfl, y.kindN ok, by rw [y.2.2.2.1 k i ok]; exact q⟩
theorem Y.getR {B : Nat} {σ : zS} {h : AH} (y : Y B σ h) (f i j : Nat) (ok : yROk f i j) {kk : Option Nat → Prop} (k : kk ((sR σ f i j).map (yRT B f))) : gA h (some (yRA B f i j)) (yRC f) (yRF f) kk :=
  ⟨_, rfl, y.kindR ok, by rw [y.2.2.1 f i j ok]; exact k⟩
theorem hI_sI (h : AH) (f a : Nat) (v : Int32) (g b : Nat) : hI (sI h f a v) g b = if g = f ∧ b = a then v else hI h g b := rfl
theorem hA_sA (h : AH) (f a : Nat) (v : Option Nat) (g b : Nat) : hA (sA h f a v) g b = if g = f ∧ b = a then v else hA h g b := rfl
theorem aI_tI (h : AH) (a j : Nat) (v : Int32) (b i : Nat) : aI (tI h a j v) b i = if b = a ∧ i = j then v else aI h b i := rfl
theorem Y.setI {B : Nat} {σ : zS} {h : AH} (y : Y B σ h) (f i j : Nat) (ok : yOk f i j) (v : Int32) : Y B (wV σ f i j v) (sI h (yF f i) (yAd B f i j) v) := by
  obtain ⟨⟨c1, c2, c3, c4, c5, c6, c7, c8⟩, y2, y3, y4, y5, y6⟩ := y
  obtain ⟨l1, l2, l3, l4, l5⟩ := yF_lt ok
  have n15 : f ≠ 15 := fun q => by subst q; exact ok
  have n17 : f ≠ 17 := fun q => by subst q; exact ok
  refine ⟨⟨c1, c2, c3, c4, c5, ?_, ?_, ?_⟩, ?_, y3, ?_, ?_, ?_⟩
  · intro l a hl ha
    refine ⟨(c6 l a hl ha).1, ?_⟩
    rw [hI_sI, if_neg (fun q => l2 q.1.symm)]
    exact (c6 l a hl ha).2
  · intro q hq
    refine ⟨(c7 q hq).1, (c7 q hq).2.1, ?_⟩
    rw [hI_sI, if_neg (fun q => l3 q.1.symm)]
    exact (c7 q hq).2.2
  · intro w hw
    refine ⟨(c8 w hw).1, (c8 w hw).2.1, (c8 w hw).2.2.1, (c8 w hw).2.2.2.1, ?_⟩
    rw [hI_sI, if_neg (fun q => l4 q.1.symm)]
    exact (c8 w hw).2.2.2.2
  · intro f' i' j' ok'
    rw [hI_sI, sV_wV]
    by_cases e : f' = f ∧ i' = i ∧ j' = j
    · obtain ⟨rfl, rfl, rfl⟩ := e
      simp
    · rw [if_neg e, if_neg (fun q => e (yInj ok ok' q.1 q.2))]
      exact y2 f' i' j' ok'
  · intro k i' hk
    rw [hI_sI, if_neg (fun q => l5 k i' hk q.1)]
    exact y4 k i' hk
  · intro w a hw ha
    rw [sV_wV, if_neg (fun q => n15 q.1.symm)]
    exact y5 w a hw ha
  · intro c hc
    rw [sV_wV, if_neg (fun q => n17 q.1.symm)]
    exact y6 c hc
theorem Y.putI {B : Nat} {σ : zS} {h : AH} (y : Y B σ h) (f i j : Nat) (ok : yOk f i j) {v : Int32} {kk : AH → Prop} (k : ∀ h', frY B h h' → Y B (wV σ f i j v) h' → kk h') : pI h (some (yAd B f i j)) (yC f) (yF f i) v kk := by
  refine ⟨_, rfl, y.kind ok, k _ ⟨?_, fun _ _ _ => rfl, rfl, rfl, rfl, rfl, rfl, Nat.le_refl _⟩ (y.setI f i j ok v)⟩
  intro f' a hf
  refine ⟨?_, rfl⟩
  rw [hI_sI, if_neg]
  intro q
  have := (yF_lt ok).1
  omega
theorem Y.putN {B : Nat} {σ : zS} {h : AH} (y : Y B σ h) (k i : Nat) (ok : yNOk k i) {n : Nat} {v : Int32} (hv : v = nI n) {kk : AH → Prop} (q : ∀ h', frY B h h' → Y B (wN σ k i n) h' → kk h') : pI h (some (yNA B k i)) (yNC k) (yNF k) v kk := by
  have hk := y.kindN ok
  obtain ⟨⟨c1, c2, c3, c4, c5, c6, c7, c8⟩, y2, y3, y4, y5, y6⟩ := y
  have nn : yNF k < 112 ∧ yNF k ≠ 0 ∧ yNF k ≠ 16 ∧ yNF k ≠ 80 := by
    match k, ok with
    | 0, _ => simp [yNF]
    | 1, _ => simp [yNF]
    | 2, _ => simp [yNF]
    | 3, _ => simp [yNF]
    | 4, _ => simp [yNF]
  refine ⟨_, rfl, hk, q _ ⟨?_, fun _ _ _ => rfl, rfl, rfl, rfl, rfl, rfl, Nat.le_refl _⟩ ⟨⟨c1, c2, c3, c4, c5, ?_, ?_, ?_⟩, ?_, y3, ?_, y5, y6⟩⟩
  · intro f' a hf
    refine ⟨?_, rfl⟩
    rw [hI_sI, if_neg]
    intro q
    omega
  · intro l a hl ha
    refine ⟨(c6 l a hl ha).1, ?_⟩
    rw [hI_sI, if_neg (fun q => nn.2.1 q.1.symm)]
    exact (c6 l a hl ha).2
  · intro q hq
    refine ⟨(c7 q hq).1, (c7 q hq).2.1, ?_⟩
    rw [hI_sI, if_neg (fun q => nn.2.2.1 q.1.symm)]
    exact (c7 q hq).2.2
  · intro w hw
    refine ⟨(c8 w hw).1, (c8 w hw).2.1, (c8 w hw).2.2.1, (c8 w hw).2.2.2.1, ?_⟩
    rw [hI_sI, if_neg (fun q => nn.2.2.2 q.1.symm)]
    exact (c8 w hw).2.2.2.2
  · intro f' i' j' ok'
    rw [hI_sI, if_neg (fun q => (yF_lt ok').2.2.2.2 k i ok q.1.symm)]
    exact y2 f' i' j' ok'
  · intro k' i' ok'
    rw [hI_sI, sN_wN]
    by_cases e : k' = k ∧ i' = i
    · obtain ⟨rfl, rfl⟩ := e
      simp [hv]
    · rw [if_neg e, if_neg (fun q => e (yNInj ok ok' q.1 q.2))]
      exact y4 k' i' ok'
theorem Y.putR {B : Nat} {σ : zS} {h : AH} (y : Y B σ h) (f i j : Nat) (ok : yROk f i j) (v : Option Nat) {x : Option Nat} (hx : x = v.map (yRT B f)) {kk : AH → Prop} (k : ∀ h', frY B h h' → Y B (wR σ f i j v) h' → kk h') : pA h (some (yRA B f i j)) (yRC f) (yRF f) x kk := by
  have hk := y.kindR ok
  obtain ⟨⟨c1, c2, c3, c4, c5, c6, c7, c8⟩, y2, y3, y4, y5, y6⟩ := y
  subst hx
  have nn : yRF f < 112 ∧ yRF f ≠ 96 ∧ yRF f ≠ 97 ∧ yRF f ≠ 98 ∧ yRF f ≠ 99 ∧ yRF f ≠ 48 ∧ yRF f ≠ 49 ∧ yRF f ≠ 50 ∧ yRF f ≠ 51 ∧ yRF f ≠ 81 := by
    match f, ok with
    | 0, _ => simp [yRF]
    | 1, _ => simp [yRF]
    | 2, _ => simp [yRF]
  obtain ⟨n0, n1, n2, n3, n4, n5, n6, n7, n8, n9⟩ := nn
  have ne : ∀ {g b : Nat}, yRF f ≠ g → hA (sA h (yRF f) (yRA B f i j) (v.map (yRT B f))) g b = hA h g b := fun hg => by rw [hA_sA, if_neg (fun q => hg q.1.symm)]
  refine ⟨_, rfl, hk, k _ ⟨?_, fun _ _ _ => rfl, rfl, rfl, rfl, rfl, rfl, Nat.le_refl _⟩ ⟨⟨c1, ?_, ?_, c4, c5, c6, c7, ?_⟩, y2, ?_, y4, y5, y6⟩⟩
  · intro f' a hf
    exact ⟨rfl, ne (by omega)⟩
  · rw [ne n1, ne n2, ne n3, ne n4]; exact c2
  · intro l hl
    rw [ne n5, ne n6, ne n7, ne n8]; exact c3 l hl
  · intro w hw
    rw [ne n9]; exact c8 w hw
  · intro f' i' j' ok'
    rw [hA_sA, sR_wR]
    by_cases e : f' = f ∧ i' = i ∧ j' = j
    · obtain ⟨rfl, rfl, rfl⟩ := e
      simp
    · rw [if_neg e, if_neg (fun q => e (yRInj ok ok' q.1 q.2))]
      exact y3 f' i' j' ok'
theorem Y.bumped {B : Nat} {σ : zS} {h : AH} (y : Y B σ h) (n : Nat) : Y B σ (bump h n) := y
theorem frY.bumped {B : Nat} {h : AH} {n : Nat} (hn : hN h ≤ n) : frY B h (bump h n) := ⟨fun _ _ _ => ⟨rfl, rfl⟩, fun _ _ _ => rfl, rfl, rfl, rfl, rfl, rfl, hn⟩
theorem Y.thrown {B : Nat} {σ : zS} {h : AH} (y : Y B σ h) {e : Nat} {Xf : Nat → AH → Prop} (k : ∀ h', frY B h h' → Y B σ h' → Xf e h') : thr h e Xf := fun n hn => k _ (frY.bumped hn) (y.bumped n)
