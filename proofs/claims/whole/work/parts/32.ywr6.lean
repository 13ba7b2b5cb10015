/-! ends, tests, turnovers -/
theorem mapE {B j b : Nat} (hb2 : b < 2) {x : Option Nat} : (x.map (yRT B 2) = some (yE B j b)) = (x = some (2 * j + b)) := by
  cases x with
  | none => simp
  | some m =>
    simp only [Option.map_some, yRT_2, Option.some.injEq, yE, eq_iff_iff]
    omega
def wJoin (σ : zS) (i a j b : Nat) (x y : Option Nat) : zS := wV (wV (wR (wR σ 2 i a x) 2 j b y) 4 i 0 0) 4 j 0 0
def endFree (σ : zS) (i a : Nat) : Bool := decide (sR σ 2 i a = none) && decide (sV σ 10 i a = 0)
def spJoin (σ : zS) (l la o lo : Int32) : zO := oRow σ 0 l fun i => oRow σ 0 o fun j => if i = j then (1, 0, σ) else if sR σ 2 i (eN la) = some (2 * j + eN lo) then (0, 0, wJoin σ i (eN la) j (eN lo) none none)
  else if endFree σ i (eN la) && endFree σ j (eN lo) then (0, 1, wJoin σ i (eN la) j (eN lo) (some (2 * j + eN lo)) (some (2 * i + eN la))) else (4, 0, σ)
section YC
variable {B : Nat} {σ : zS} {h : AH} {g : Nat → Nat} {Xf : Nat → AH → Prop} {K : Int32 → AH → Prop}
theorem Y.isFree (y : Y B σ h) {i a : Nat} (hi : i < 4) (ha : a < 2) {K : Int32 → AH → Prop} : f_X0_isFree g (some (yE B i a)) h K = K (if endFree σ i a then 1 else 0) h := by
  simp only [f_X0_isFree, y.a1 hi ha, y.r2 hi ha, okZ_0, okZ_1]
  unfold endFree
  cases e : sR σ 2 i a with
  | none =>
    by_cases q : sV σ 10 i a = 0
    · simp [q, nNull_none]
    · simp [q, nNull_none]
  | some m => simp [nNull_some]
theorem yRT_2m {B j b : Nat} (hb2 : b < 2) : yRT B 2 (2 * j + b) = yE B j b := by
  rw [yRT_2, show (2 * j + b) / 2 = j by omega, show (2 * j + b) % 2 = b by omega]
theorem Y.joinEnd (y : Y B σ h) {i j b : Nat} (hi : i < 4) (hj : j < 4) (hb2 : b < 2) {x7 : Int32} {v : Option Nat} {s : Option Nat} (hs : s = v.map (yRT B 2)) (q : ∀ h', frY B h h' → Y B (wV (wV (wR σ 2 j b v) 4 i 0 0) 4 j 0 0) h' → (if x7 = 0 then K 1 h' else K 0 h')) : f_X6_join_B117 g (some B) (nI i) (nI j) x7 (some (yE B j b)) s h Xf K := by
  unfold f_X6_join_B117
  refine y.putR 2 j b ⟨hj, hb2⟩ v hs fun h1 fr1 y1 => ?_
  simp only [y1.a96, y1.lL hi, okZ_0]
  refine y1.putI 4 i 0 ⟨hi, rfl⟩ fun h2 fr2 y2 => ?_
  simp only [y2.a96, y2.lL hj]
  refine y2.putI 4 j 0 ⟨hj, rfl⟩ fun h3 fr3 y3 => ?_
  simp only [okZ_1]
  exact q h3 (fr1.trans (fr2.trans fr3)) y3
theorem Y.join (y : Y B σ h) (c : zCnt σ) {l la o lo : Int32} (q : yPost B σ h (spJoin σ l la o lo) Xf K) : f_X6_join g (some B) l la o lo h Xf K := by
  unfold spJoin oRow at q
  simp only [f_X6_join, y.cB, y.lineAt c]
  have c1 := c.1
  cases e : ix l (sN σ 0 0) with
  | none => rw [e] at q; exact q.ex y (by decide)
  | some i =>
    rw [e] at q
    obtain ⟨hi, rfl⟩ := ix_some (by omega) e
    have hi4 : i < 4 := by omega
    dsimp only at q ⊢
    simp only [y.cL hi4, y.endAt hi4, y.cB, y.lineAt c]
    cases e2 : ix o (sN σ 0 0) with
    | none => rw [e2] at q; exact q.ex y (by decide)
    | some j =>
      rw [e2] at q
      obtain ⟨hj, rfl⟩ := ix_some (by omega) e2
      have hj4 : j < 4 := by omega
      dsimp only at q ⊢
      simp only [y.cL hj4, y.endAt hj4, y.a1 hi4 eN_lt, mapE eN_lt, nI_eq (show i < 2 ^ 31 by omega) (show j < 2 ^ 31 by omega)]
      by_cases q1 : i = j
      · rw [if_pos q1] at q ⊢; exact q.ex y (by decide)
      rw [if_neg q1] at q ⊢
      by_cases q2 : sR σ 2 i (eN la) = some (2 * j + eN lo)
      · rw [if_pos q2] at q ⊢
        simp only [f_X6_join_B54, f_X6_join_B88, f_X6_join_B101]
        rw [if_neg (by decide), if_neg (by decide)]
        refine y.putR 2 i (eN la) ⟨hi4, eN_lt⟩ none rfl fun h1 fr1 y1 => ?_
        rw [if_neg (by decide)]
        refine y1.joinEnd hi4 hj4 eN_lt (v := none) rfl fun h2 fr2 y2 => ?_
        rw [if_neg (by decide)]
        exact q.ok (fr1.trans fr2) y2
      · rw [if_neg q2] at q ⊢
        simp only [f_X6_join_B54, f_X6_join_B88, f_X6_join_B101]
        rw [if_pos trivial]
        simp only [y.cE hi4 eN_lt, y.isFree hi4 eN_lt, if10, y.cE hj4 eN_lt, y.isFree hj4 eN_lt]
        by_cases q3 : endFree σ i (eN la) = true
        · rw [if_neg (by rw [q3]; simp)]
          by_cases q4 : endFree σ j (eN lo) = true
          · rw [if_neg (by rw [q4]; simp)]
            rw [if_pos (by rw [q3, q4]; rfl)] at q
            rw [if_pos trivial]
            refine y.putR 2 i (eN la) ⟨hi4, eN_lt⟩ (some (2 * j + eN lo)) (by rw [Option.map_some, yRT_2m eN_lt]) fun h1 fr1 y1 => ?_
            rw [if_pos trivial]
            refine y1.joinEnd hi4 hj4 eN_lt (v := some (2 * i + eN la)) (by rw [Option.map_some, yRT_2m eN_lt]) fun h2 fr2 y2 => ?_
            rw [if_pos rfl]
            exact q.ok (fr1.trans fr2) y2
          · rw [if_pos (by simpa using q4)]
            rw [if_neg (by rw [q3]; simpa using q4)] at q
            exact q.ex y (by decide)
        · rw [if_pos (by simpa using q3)]
          rw [if_neg (by simp [q3])] at q
          exact q.ex y (by decide)
end YC
