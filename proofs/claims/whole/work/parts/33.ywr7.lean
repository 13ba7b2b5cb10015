/-! tests of circuits, turnovers, the best heat -/
def tStep (bits : Int32) (i : Nat) (t : zS × Int32) : zS × Int32 :=
  if hb bits (nI i) then (wV t.1 4 i 0 1, t.2 + 1) else (t.1, if sV t.1 4 i 0 = 0 then t.2 else t.2 + 1)
def spTestAll (σ : zS) (l : Int32) : zO := oRow σ 3 l fun i => if spTestable σ (sV σ 17 i 0) then (0, (zfo (tStep (sV σ 17 i 0)) (sN σ 0 0) 0 (σ, 0)).2, (zfo (tStep (sV σ 17 i 0)) (sN σ 0 0) 0 (σ, 0)).1) else (4, 0, σ)
def tuStep (σ : zS) (_ : Nat) (ov : Int32) : Int32 := ov ||| (1 <<< (spNext σ ov &&& 31))
def spTurnover (σ : zS) (l : Int32) : zO := match ix l (sN σ 0 0) with
  | none => (5, 0, σ)
  | some n => (0, spNext σ (zfo (tuStep σ) n 0 0), σ)
def bStep (σ : zS) (sz al : Int32) (i : Nat) (b : Option Nat) : Option Nat :=
  if sV σ 11 i 0 = al ∧ ¬ sV σ 14 i 0 = 0 ∧ ¬ sV σ 13 i 0 < sz then (match b with
    | none => some i
    | some b => if sV σ 13 b 0 ≤ sV σ 13 i 0 then some b else some i) else b
def spBest (σ : zS) (l p al : Int32) : zO := oPart σ l p fun i j => if isAlloy al then (match zfo (bStep σ (sV σ 7 i j) al) (sN σ 1 0) 0 none with
  | none => (5, 0, σ)
  | some b => (0, nI b, σ)) else (1, 0, σ)
section YD
variable {B : Nat} {σ : zS} {h : AH} {g : Nat → Nat} {Xf : Nat → AH → Prop} {K : Int32 → AH → Prop}
theorem Y.testAllL {n : Nat} (hn : n ≤ 4) {bits : Int32} : ∀ (k i fuel : Nat) (τ : zS) (acc : Int32) (h : AH), sN τ 0 0 = n → Y B τ h → i + k = n → k < fuel → (∀ h', frY B h h' → Y B (zfo (tStep bits) k i (τ, acc)).1 h' → K (zfo (tStep bits) k i (τ, acc)).2 h') → f_X6_testAll_L30 g Xf K fuel (some B) bits acc (nI i) h := by
  intro k
  induction k with
  | zero =>
    intro i fuel τ acc h hτ y hi hf q
    obtain ⟨m, rfl⟩ : ∃ m, fuel = m + 1 := ⟨fuel - 1, by omega⟩
    simp only [f_X6_testAll_L30, f_X6_testAll_L30b, y.r100, hτ]
    rw [if_pos (nI_le (by omega) (by omega))]
    exact q h frY.refl y
  | succ k ih =>
    intro i fuel τ acc h hτ y hi hf q
    obtain ⟨m, rfl⟩ : ∃ m, fuel = m + 1 := ⟨fuel - 1, by omega⟩
    have h4 : i < 4 := by omega
    have e0 : zfo (tStep bits) (k + 1) i (τ, acc) = zfo (tStep bits) k (i + 1) (tStep bits i (τ, acc)) := rfl
    rw [e0] at q
    simp only [f_X6_testAll_L30, f_X6_testAll_L30b, f_X6_testAll_B59, f_X6_testAll_B75, y.r100, hτ, f_hasBit, if10, y.a96, y.lL h4, y.r55 h4, okZ_1, nI_1]
    rw [if_neg (nI_ge (by omega) (by omega))]
    by_cases q1 : hb bits (nI i) = true
    · rw [show tStep bits i (τ, acc) = (wV τ 4 i 0 1, acc + 1) by unfold tStep; rw [if_pos q1]] at q
      rw [if_neg (by rw [q1]; simp)]
      refine y.putI 4 i 0 ⟨h4, rfl⟩ fun h1 fr1 y1 => ?_
      simp only [y1.a96, y1.lL h4, y1.r55 h4, sV_wV, and_self, if_true]
      rw [if_neg (by decide)]
      exact ih (i + 1) m (wV τ 4 i 0 1) _ h1 hτ y1 (by omega) (by omega) fun h2 fr2 y2 => q h2 (fr1.trans fr2) y2
    · rw [if_pos (by simpa using q1)]
      by_cases q2 : sV τ 4 i 0 = 0
      · rw [show tStep bits i (τ, acc) = (τ, acc) by unfold tStep; rw [if_neg q1, if_pos q2]] at q
        rw [if_pos q2]
        exact ih (i + 1) m _ _ h hτ y (by omega) (by omega) q
      · rw [show tStep bits i (τ, acc) = (τ, acc + 1) by unfold tStep; rw [if_neg q1, if_neg q2]] at q
        rw [if_neg q2]
        exact ih (i + 1) m _ _ h hτ y (by omega) (by omega) q
theorem Y.testAll (y : Y B σ h) (c : zCnt σ) (r : zRef σ) {l : Int32} (q : yPost B σ h (spTestAll σ l) Xf K) : f_X6_testAll g (some B) l h Xf K := by
  unfold spTestAll oRow at q
  have c1 := c.1
  simp only [f_X6_testAll, y.cB, y.circuitAt c]
  cases e : ix l (sN σ 3 0) with
  | none => rw [e] at q; exact q.ex y (by decide)
  | some i =>
    rw [e] at q
    dsimp only at q ⊢
    simp only [y.cB, y.isTestable c r, if10]
    by_cases q1 : spTestable σ (sV σ 17 i 0) = true
    · rw [if_pos q1] at q
      rw [if_neg (by rw [q1]; simp)]
      have e2 := Y.testAllL (B := B) (g := g) (Xf := Xf) (K := K) c1 (bits := sV σ 17 i 0) (sN σ 0 0) 0 12 σ 0 h rfl y (by omega) (by omega) fun h1 fr1 y1 => q.ok fr1 y1
      rw [nI_0] at e2
      exact e2
    · rw [if_neg q1] at q
      rw [if_pos (by simpa using q1)]
      exact q.ex y (by decide)
theorem Y.turnL (y : Y B σ h) (c : zCnt σ) {n : Nat} (hn : n < 4) : ∀ (k i fuel : Nat) (ov : Int32), i + k = n → k < fuel → f_X6_turnover_L23 g Xf K fuel (some B) (nI n) ov (nI i) h = K (spNext σ (zfo (tuStep σ) k i ov)) h := by
  intro k
  induction k with
  | zero =>
    intro i fuel ov hi hf
    obtain ⟨m, rfl⟩ : ∃ m, fuel = m + 1 := ⟨fuel - 1, by omega⟩
    simp only [f_X6_turnover_L23, f_X6_turnover_L23b, y.cB, y.nextOver c]
    rw [if_pos (nI_le (by omega) (by omega))]
    rfl
  | succ k ih =>
    intro i fuel ov hi hf
    obtain ⟨m, rfl⟩ : ∃ m, fuel = m + 1 := ⟨fuel - 1, by omega⟩
    simp only [f_X6_turnover_L23, f_X6_turnover_L23b, y.cB, y.nextOver c, nI_1]
    rw [if_neg (nI_ge (by omega) (by omega)), ih (i + 1) m _ (by omega) (by omega)]
    rfl
theorem Y.turnover (y : Y B σ h) (c : zCnt σ) {l : Int32} : f_X6_turnover g (some B) l h Xf K = yRun h (spTurnover σ l) Xf K := by
  unfold spTurnover
  have c1 := c.1
  simp only [f_X6_turnover, y.cB, y.isLine]
  cases e : ix l (sN σ 0 0) with
  | none => rfl
  | some n =>
    obtain ⟨hi, rfl⟩ := ix_some (by omega) e
    have e := y.turnL (g := g) (Xf := Xf) (K := K) c (n := n) (by omega) n 0 12 0 (by omega) (by omega)
    rw [nI_0] at e
    simp only [Option.isSome_some, if_true]
    rw [if_neg (by decide)]
    exact e
end YD
