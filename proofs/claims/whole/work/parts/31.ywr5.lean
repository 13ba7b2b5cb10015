/-! parts, orders -/
def spPut (σ : zS) (i : Nat) (k sz : Int32) : zO := if sN σ 4 i < 10 then (0, nI (sN σ 4 i), wV (wN (wV (wV σ 6 i (sN σ 4 i) k) 7 i (sN σ 4 i) sz) 4 i (sN σ 4 i + 1)) 4 i 0 0) else (2, 0, σ)
def spAddPart (σ : zS) (l k len : Int32) : zO := oRow σ 0 l fun i => if k = 115 then (if isLen len then spPut σ i k len else (1, 0, σ)) else if k = 101 ∨ k = 118 then spPut σ i k 300 else (1, 0, σ)
def spAhead (σ : zS) (a b : Int32) : zO := oRow σ 0 a fun i => oRow σ 0 b fun j => if i = j then (1, 0, σ) else if hb (spAll σ i) (nI j) then (4, 0, σ) else (0, b2 (hb (sV σ 5 j 0) (nI i)), wV σ 5 j 0 (sV σ 5 j 0 ||| (1 <<< (nI i &&& 31))))
def spNeed (σ : zS) (i : Nat) : Int32 := spAll σ i ||| (1 <<< (nI i &&& 31))
def spReady (σ : zS) (l : Int32) : zO := oRow σ 0 l fun i => (0, b2 (zal (fun o => !hb (spNeed σ i) (nI o) || spDone σ o) (sN σ 0 0) 0), σ)
section YB
variable {B : Nat} {σ : zS} {h : AH} {g : Nat → Nat} {Xf : Nat → AH → Prop} {K : Int32 → AH → Prop}
theorem Y.addPut (y : Y B σ h) (c : zCnt σ) {i : Nat} (hi : i < 4) {k sz : Int32} (hk : k = 115 ∨ k = 101 ∨ k = 118) (hn : sN σ 4 i < 10) (q : yPost B σ h (spPut σ i k sz) Xf K) : f_X6_addPart_B94 g (some (yL B i)) (some (yL B i)) k sz h Xf K := by
  unfold spPut at q
  rw [if_pos hn] at q
  have hc : narrow .char (.int k) = .int k ∧ fits .char (.int k) = true := by
    rcases hk with rfl | rfl | rfl <;> decide
  simp only [f_X6_addPart_B94, f_X3_append, y.cL hi, y.a48 hi, y.r52 hi, y.lP hi hn, okC_c hc]
  refine y.putI 6 i (sN σ 4 i) ⟨hi, hn⟩ fun h1 fr1 y1 => ?_
  simp only [y1.a48 hi, y1.r52 hi, sN_wV, y1.lP hi hn]
  refine y1.putI 7 i (sN σ 4 i) ⟨hi, hn⟩ fun h2 fr2 y2 => ?_
  simp only [y2.r52 hi, sN_wV]
  refine y2.putN 4 i hi (n := sN σ 4 i + 1) (nI_1 _) fun h3 fr3 y3 => ?_
  rw [okZ_0]
  refine y3.putI 4 i 0 ⟨hi, rfl⟩ fun h4 fr4 y4 => ?_
  simp only [y4.r52 hi, sN_wV, sN_wN, and_self, if_true, nI_pred]
  exact q.ok (fr1.trans (fr2.trans (fr3.trans fr4))) y4
theorem Y.addPart (y : Y B σ h) (c : zCnt σ) {l k len : Int32} (q : yPost B σ h (spAddPart σ l k len) Xf K) : f_X6_addPart g (some B) l k len h Xf K := by
  unfold spAddPart oRow at q
  simp only [f_X6_addPart, y.cB, y.lineAt c]
  cases e : ix l (sN σ 0 0) with
  | none => rw [e] at q; exact q.ex y (by decide)
  | some i =>
    rw [e] at q
    have c1 := c.1
    have c2 := c.2.2.2.2 i
    obtain ⟨hi, rfl⟩ := ix_some (by omega) e
    have hi4 : i < 4 := by omega
    dsimp only at q ⊢
    have put : ∀ sz, (k = 115 ∨ k = 101 ∨ k = 118) → yPost B σ h (spPut σ i k sz) Xf K → (if nI (sN σ 4 i) < 10 then f_X6_addPart_B94 g (some (yL B i)) (some (yL B i)) k sz h Xf K else thr h 2 Xf) := by
      intro sz hk q
      by_cases hn : sN σ 4 i < 10
      · rw [if_pos (show nI (sN σ 4 i) < 10 from nI_lt (a := sN σ 4 i) (b := 10) hn (by decide))]
        exact y.addPut c hi4 hk hn q
      · rw [if_neg (show ¬ nI (sN σ 4 i) < 10 from nI_nlt (a := sN σ 4 i) (b := 10) (by omega) (by omega))]
        unfold spPut at q
        rw [if_neg hn] at q
        exact q.ex y (by decide)
    simp only [f_X6_addPart_B35, f_X6_addPart_B58, y.r52 hi4, f_isLen, if10]
    by_cases q1 : k = 115
    · subst q1
      rw [if_pos rfl] at q
      by_cases q2 : isLen len = true
      · rw [if_pos q2] at q
        have := put len (Or.inl rfl) q
        simpa [q2] using this
      · rw [if_neg q2] at q
        have := q.ex y (by decide)
        simpa [q2] using this
    · rw [if_neg q1] at q
      by_cases q2 : k = 101
      · subst q2
        rw [if_pos (Or.inl rfl)] at q
        have := put 300 (Or.inr (Or.inl rfl)) q
        simpa using this
      · by_cases q3 : k = 118
        · subst q3
          rw [if_pos (Or.inr rfl)] at q
          have := put 300 (Or.inr (Or.inr rfl)) q
          simpa using this
        · rw [if_neg (by intro z; rcases z with z | z; exact q2 z; exact q3 z)] at q
          have := q.ex y (by decide)
          simpa [q1, q2, q3] using this
theorem Y.ahead (y : Y B σ h) (c : zCnt σ) {a b : Int32} (q : yPost B σ h (spAhead σ a b) Xf K) : f_X6_ahead g (some B) a b h Xf K := by
  unfold spAhead oRow at q
  simp only [f_X6_ahead, y.cB, y.checkLine]
  have c1 := c.1
  cases e : ix a (sN σ 0 0) with
  | none => rw [e] at q; exact q.ex y (by decide)
  | some i =>
    rw [e] at q
    obtain ⟨hi, rfl⟩ := ix_some (by omega) e
    have hi4 : i < 4 := by omega
    dsimp only at q ⊢
    simp only [y.cB, y.lineAt c]
    cases e2 : ix b (sN σ 0 0) with
    | none => rw [e2] at q; exact q.ex y (by decide)
    | some j =>
      rw [e2] at q
      obtain ⟨hj, rfl⟩ := ix_some (by omega) e2
      have hj4 : j < 4 := by omega
      dsimp only at q ⊢
      simp only [y.cB, y.allAheadOf c hi4, f_hasBit, if10, y.r56 hj4, nI_eq (show i < 2 ^ 31 by omega) (show j < 2 ^ 31 by omega)]
      by_cases q1 : i = j
      · rw [if_pos q1] at q ⊢; exact q.ex y (by decide)
      rw [if_neg q1] at q ⊢
      by_cases q2 : hb (spAll σ i) (nI j) = true
      · rw [if_pos q2] at q
        rw [if_neg (by rw [q2]; simp)]
        exact q.ex y (by decide)
      · rw [if_neg q2] at q
        rw [if_pos (by simpa using q2)]
        refine y.putI 5 j 0 ⟨hj4, rfl⟩ fun h1 fr1 y1 => ?_
        rw [okZ_b2]
        exact q.ok fr1 y1
theorem Y.readyL (y : Y B σ h) (c : zCnt σ) (r : zRef σ) {bits : Int32} : ∀ (k i fuel : Nat), i + k = sN σ 0 0 → k < fuel → f_X6_isReady_L17 g Xf K fuel (some B) bits (nI i) h = K (if zal (fun o => !hb bits (nI o) || spDone σ o) k i then 1 else 0) h := by
  have c1 := c.1
  intro k
  induction k with
  | zero =>
    intro i fuel hi hf
    obtain ⟨m, rfl⟩ : ∃ m, fuel = m + 1 := ⟨fuel - 1, by omega⟩
    simp only [f_X6_isReady_L17, f_X6_isReady_L17b, y.r100, okZ_1, zal]
    rw [if_pos (nI_le (by omega) (by omega))]
    rfl
  | succ k ih =>
    intro i fuel hi hf
    obtain ⟨m, rfl⟩ : ∃ m, fuel = m + 1 := ⟨fuel - 1, by omega⟩
    have h4 : i < 4 := by omega
    simp only [f_X6_isReady_L17, f_X6_isReady_L17b, f_X6_isReady_B47, y.r100, f_hasBit, y.a96, y.lL h4, y.cL h4, y.isComplete c r h4, nI_1, okZ_0, zal, if10]
    rw [if_neg (nI_ge (by omega) (by omega)), ih (i + 1) m (by omega) (by omega)]
    by_cases q1 : hb bits (nI i) = true <;> by_cases q2 : spDone σ i = true <;> simp [q1, q2]
theorem Y.isReady (y : Y B σ h) (c : zCnt σ) (r : zRef σ) {l : Int32} : f_X6_isReady g (some B) l h Xf K = yRun h (spReady σ l) Xf K := by
  unfold spReady oRow
  have c1 := c.1
  simp only [f_X6_isReady, y.cB, y.checkLine]
  cases e : ix l (sN σ 0 0) with
  | none => rfl
  | some i =>
    obtain ⟨hi, rfl⟩ := ix_some (by omega) e
    have hi4 : i < 4 := by omega
    simp only [y.cB, y.allAheadOf c hi4]
    have e := y.readyL (g := g) (Xf := Xf) (K := K) (bits := spNeed σ i) c r (sN σ 0 0) 0 12 (by omega) (by omega)
    rw [nI_0] at e
    exact e
end YB
