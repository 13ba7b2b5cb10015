/-! the class's operations that write -/
def yPost (B : Nat) (σ : zS) (h : AH) (o : zO) (Xf : Nat → AH → Prop) (K : Int32 → AH → Prop) : Prop :=
  (∀ h', frY B h h' → o.1 = 0 → Y B o.2.2 h' → K o.2.1 h') ∧ (∀ h', frY B h h' → o.1 ≠ 0 → Y B σ h' → Xf o.1 h')
theorem yPost.ex {B : Nat} {σ s : zS} {h : AH} {e : Nat} {v : Int32} {Xf : Nat → AH → Prop} {K : Int32 → AH → Prop} (p : yPost B σ h (e, v, s) Xf K) (y : Y B σ h) (he : e ≠ 0) : thr h e Xf := y.thrown fun h' fr y' => p.2 h' fr he y'
theorem yPost.ok {B : Nat} {σ s : zS} {h h' : AH} {v : Int32} {Xf : Nat → AH → Prop} {K : Int32 → AH → Prop} (p : yPost B σ h (0, v, s) Xf K) (fr : frY B h h') (y' : Y B s h') : K v h' := p.1 h' fr rfl y'
theorem yPost.run {B : Nat} {σ : zS} {h : AH} {o : zO} {Xf : Nat → AH → Prop} {K : Int32 → AH → Prop} (p : yPost B σ h o Xf K) (y : Y B σ h) (ho : o.1 = 0 → o.2.2 = σ) : yRun h o Xf K := by
  obtain ⟨e, v, s⟩ := o
  unfold yRun
  cases e with
  | zero => exact p.1 h frY.refl rfl (by rw [ho rfl]; exact y)
  | succ e => exact p.ex y (Nat.succ_ne_zero e)
theorem aI_ne {h : AH} {a j : Nat} {v : Int32} {b : Nat} (hb : b ≠ a) (i : Nat) : aI (tI h a j v) b i = aI h b i := by rw [aI_tI, if_neg (fun q => hb q.1)]
/-- a number that only the model keeps -/
theorem Y.w1 {B : Nat} {σ : zS} {h : AH} (y : Y B σ h) (i j : Nat) (v : Int32) : Y B (wV σ 1 i j v) h := by
  obtain ⟨y1, y2, y3, y4, y5, y6⟩ := y
  refine ⟨y1, ?_, y3, y4, ?_, ?_⟩
  · intro f i' j' ok
    rw [sV_wV, if_neg (fun q => by have q1 := q.1; subst q1; exact ok)]
    exact y2 f i' j' ok
  · intro w a hw ha
    rw [sV_wV, if_neg (fun q => absurd q.1 (by decide))]
    exact y5 w a hw ha
  · intro c hc
    rw [sV_wV, if_neg (fun q => absurd q.1 (by decide))]
    exact y6 c hc
theorem Y.stT {B : Nat} {σ : zS} {h : AH} (y : Y B σ h) {w a : Nat} (hw : w < 5) (ha : a < 4) {v : Int32} {kk : AH → Prop} (k : ∀ h', frY B h h' → Y B (wV σ 15 w a v) h' → kk h') : stI h (some (yW B w + 1)) 0 (nI a) v kk := by
  obtain ⟨⟨c1, c2, c3, c4, c5, c6, c7, c8⟩, y2, y3, y4, y5, y6⟩ := y
  have e9 : (nI a).toNatClampNeg = a := nI_clamp (by omega)
  refine ⟨_, rfl, (c8 w hw).2.1.1, by rw [(c8 w hw).2.1.2]; exact vp_in_nI ha (by decide), ?_⟩
  rw [e9]
  refine k _ ⟨fun _ _ _ => ⟨rfl, rfl⟩, ?_, rfl, rfl, rfl, rfl, rfl, Nat.le_refl _⟩ ⟨⟨c1, c2, c3, c4, c5, c6, c7, c8⟩, ?_, y3, y4, ?_, ?_⟩
  · intro x hx j
    exact aI_ne (by simp only [yW]; omega) j
  · intro f i' j' ok
    rw [sV_wV, if_neg (fun q => by have q1 := q.1; subst q1; exact ok)]
    exact y2 f i' j' ok
  · intro w' a' hw' ha'
    rw [aI_tI, sV_wV]
    by_cases q : w' = w ∧ a' = a
    · obtain ⟨rfl, rfl⟩ := q
      simp
    · rw [if_neg (fun z => q ⟨by have := z.1; simp only [yW] at this; omega, z.2⟩), if_neg (fun z => q z.2)]
      exact y5 w' a' hw' ha'
  · intro c hc
    rw [aI_ne (by simp only [yW]; omega), sV_wV, if_neg (fun q => absurd q.1 (by decide))]
    exact y6 c hc
theorem Y.stC {B : Nat} {σ : zS} {h : AH} (y : Y B σ h) {i : Nat} (hi : i < 6) {v : Int32} {kk : AH → Prop} (k : ∀ h', frY B h h' → Y B (wV σ 17 i 0 v) h' → kk h') : stI h (some (B + 4)) 0 (nI i) v kk := by
  obtain ⟨⟨c1, c2, c3, c4, c5, c6, c7, c8⟩, y2, y3, y4, y5, y6⟩ := y
  have e9 : (nI i).toNatClampNeg = i := nI_clamp (by omega)
  refine ⟨_, rfl, c1.2.2.2.2.1, by rw [c1.2.2.2.2.2]; exact vp_in_nI hi (by decide), ?_⟩
  rw [e9]
  refine k _ ⟨fun _ _ _ => ⟨rfl, rfl⟩, ?_, rfl, rfl, rfl, rfl, rfl, Nat.le_refl _⟩ ⟨⟨c1, c2, c3, c4, c5, c6, c7, c8⟩, ?_, y3, y4, ?_, ?_⟩
  · intro x hx j
    exact aI_ne (by omega) j
  · intro f i' j' ok
    rw [sV_wV, if_neg (fun q => by have q1 := q.1; subst q1; exact ok)]
    exact y2 f i' j' ok
  · intro w a hw ha
    rw [aI_ne (by simp only [yW]; omega), sV_wV, if_neg (fun q => absurd q.1 (by decide))]
    exact y5 w a hw ha
  · intro c hc
    rw [aI_tI, sV_wV]
    by_cases q : c = i
    · subst q; simp
    · rw [if_neg (fun z => q z.2), if_neg (fun z => q z.2.1)]
      exact y6 c hc
def isAlloy (a : Int32) : Bool := !decide (a < 0) && !decide (4 ≤ a)
theorem f_isAlloy {g : Nat → Nat} {a : Int32} {h : AH} {K : Int32 → AH → Prop} : f_X6_isAlloy g a h K = K (if isAlloy a then 1 else 0) h := by
  unfold f_X6_isAlloy isAlloy
  simp only [okZ_0, okZ_1]
  by_cases q1 : a < 0
  · simp [q1]
  · by_cases q2 : 4 ≤ a
    · simp [q1, q2]
    · simp [q1, q2]
theorem isAlloy_ix {a : Int32} (q : isAlloy a = true) : ∃ k, k < 4 ∧ a = nI k := by
  unfold isAlloy at q
  have q1 : ¬ a < 0 := by intro z; simp [z] at q
  have q2 : ¬ (4 : Int32) ≤ a := by intro z; simp [z] at q
  obtain ⟨j, hj, rfl⟩ := nI_of q1
  refine ⟨j, ?_, rfl⟩
  rw [show (4 : Int32) = nI 4 from rfl, nI_leI (by decide) hj] at q2
  omega
def isLen (a : Int32) : Bool := !decide (a < 100) && !decide (6000 < a)
theorem f_isLen {g : Nat → Nat} {a : Int32} {h : AH} {K : Int32 → AH → Prop} : f_X6_isPartLength g a h K = K (if isLen a then 1 else 0) h := by
  unfold f_X6_isPartLength isLen
  simp only [okZ_0, okZ_1]
  by_cases q1 : a < 100
  · simp [q1]
  · by_cases q2 : 6000 < a
    · simp [q1, q2]
    · simp [q1, q2]
def spShare (n : Int32) : Int32 := if n = 1 then 5 else if n = 2 then 20 else 100
def spPass (σ : zS) (d : Int32) : zO := if d < 1 then (1, 0, σ) else if d ≤ 99 then (if sV σ 0 0 0 + d ≤ 999 then (0, sV σ 0 0 0 + d, wV σ 0 0 0 (sV σ 0 0 0 + d)) else (2, 0, σ)) else (1, 0, σ)
def spAddLine (σ : zS) (n : Int32) : zO := if n < 1 then (1, 0, σ) else if n ≤ 3 then (if sN σ 0 0 < 4 then (0, nI (sN σ 0 0), wN (wV (wV σ 1 (sN σ 0 0) 0 n) 2 (sN σ 0 0) 0 (spShare n)) 0 0 (sN σ 0 0 + 1)) else (2, 0, σ)) else (1, 0, σ)
def spAddWelder (σ : zS) : zO := if sN σ 2 0 < 5 then (0, nI (sN σ 2 0), wN σ 2 0 (sN σ 2 0 + 1)) else (2, 0, σ)
def spTicket (σ : zS) (w a d : Int32) : zO := oRow σ 2 w fun k => if isAlloy a then (if d < 0 then (1, 0, σ) else if d ≤ 999 then (0, sV σ 15 k a.toNatClampNeg, wV σ 15 k a.toNatClampNeg d) else (1, 0, σ)) else (1, 0, σ)
def spPaper (σ : zS) (q : Int32) (v : Int32) : zO := oRow σ 1 q fun k => (0, sV σ 14 k 0, wV σ 14 k 0 v)
section YX
variable {B : Nat} {σ : zS} {h : AH} {g : Nat → Nat} {Xf : Nat → AH → Prop} {K : Int32 → AH → Prop}
theorem Y.pass (y : Y B σ h) {d : Int32} (p : yPost B σ h (spPass σ d) Xf K) : f_X6_pass g (some B) d h Xf K := by
  unfold spPass at p
  simp only [f_X6_pass, y.r104]
  by_cases q1 : d < 1
  · rw [if_pos q1] at p ⊢; exact p.ex y (by decide)
  rw [if_neg q1] at p ⊢
  by_cases q2 : d ≤ 99
  · rw [if_pos q2] at p ⊢
    by_cases q3 : sV σ 0 0 0 + d ≤ 999
    · rw [if_pos q3] at p ⊢
      refine y.putI 0 0 0 ⟨by decide, rfl⟩ fun h1 fr1 y1 => ?_
      simp only [y1.r104, sV_wV]
      exact p.ok fr1 y1
    · rw [if_neg q3] at p ⊢; exact p.ex y (by decide)
  · rw [if_neg q2] at p ⊢; exact p.ex y (by decide)
theorem Y.addLine (y : Y B σ h) (c : zCnt σ) {n : Int32} (p : yPost B σ h (spAddLine σ n) Xf K) : f_X6_addLine g (some B) n h Xf K := by
  have c1 := c.1
  unfold spAddLine at p
  simp only [f_X6_addLine, f_X6_lookShareOf, y.r100, y.a96]
  by_cases q1 : n < 1
  · rw [if_pos q1] at p ⊢; exact p.ex y (by decide)
  rw [if_neg q1] at p ⊢
  by_cases q2 : n ≤ 3
  · rw [if_pos q2] at p ⊢
    by_cases q3 : sN σ 0 0 < 4
    · rw [if_pos q3] at p
      rw [if_pos (show nI (sN σ 0 0) < 4 from nI_lt q3 (by decide))]
      simp only [y.lL q3]
      have step : ∀ s : Int32, s = spShare n → pI h (some (yL B (sN σ 0 0))) 3 53 s fun h7 => gI h7 (some B) 6 100 fun v8 => pI h7 (some B) 6 100 (v8 + 1) fun h9 => gI h9 (some B) 6 100 fun v10 => K (v10 - 1) h9 := by
        intro s hs
        subst hs
        refine y.putI 2 (sN σ 0 0) 0 ⟨q3, rfl⟩ fun h1 fr1 y1 => ?_
        simp only [y1.r100, sN_wV]
        refine y1.putN 0 0 rfl (n := sN σ 0 0 + 1) (nI_1 _) fun h2 fr2 y2 => ?_
        simp only [y2.r100, sN_wN, nI_pred, and_self, if_true]
        refine p.ok (fr1.trans fr2) ?_
        have y3 := y2.w1 (sN σ 0 0) 0 n
        have e : wV (wN (wV σ 2 (sN σ 0 0) 0 (spShare n)) 0 0 (sN σ 0 0 + 1)) 1 (sN σ 0 0) 0 n = wN (wV (wV σ 1 (sN σ 0 0) 0 n) 2 (sN σ 0 0) 0 (spShare n)) 0 0 (sN σ 0 0 + 1) := by
          unfold wV wN
          refine Prod.ext rfl (Prod.ext ?_ rfl)
          funext a b cc
          dsimp only
          by_cases z : a = 1 ∧ b = sN σ 0 0 ∧ cc = 0
          · obtain ⟨rfl, rfl, rfl⟩ := z; simp
          · rw [if_neg z, if_neg z]
        rw [← e]
        exact y3
      unfold spShare at step
      by_cases r1 : n = 1
      · rw [if_pos r1]; exact step 5 (by rw [if_pos r1])
      · rw [if_neg r1]
        by_cases r2 : n = 2
        · rw [if_pos r2]; exact step 20 (by rw [if_neg r1, if_pos r2])
        · rw [if_neg r2]; exact step 100 (by rw [if_neg r1, if_neg r2])
    · rw [if_neg q3] at p
      rw [if_neg (show ¬ nI (sN σ 0 0) < 4 from nI_nlt (a := sN σ 0 0) (b := 4) (by omega) (by omega))]
      exact p.ex y (by decide)
  · rw [if_neg q2] at p ⊢; exact p.ex y (by decide)
theorem Y.addWelder (y : Y B σ h) (c : zCnt σ) (p : yPost B σ h (spAddWelder σ) Xf K) : f_X6_addWelder g (some B) h Xf K := by
  have c1 := c.2.2.1
  unfold spAddWelder at p
  simp only [f_X6_addWelder, y.r102]
  by_cases q3 : sN σ 2 0 < 5
  · rw [if_pos q3] at p
    rw [if_pos (show nI (sN σ 2 0) < 5 from nI_lt q3 (by decide))]
    refine y.putN 2 0 rfl (n := sN σ 2 0 + 1) (nI_1 _) fun h2 fr2 y2 => ?_
    simp only [y2.r102, sN_wN, nI_pred, and_self, if_true]
    exact p.ok fr2 y2
  · rw [if_neg q3] at p
    rw [if_neg (show ¬ nI (sN σ 2 0) < 5 from nI_nlt (a := sN σ 2 0) (b := 5) (by omega) (by omega))]
    exact p.ex y (by decide)
theorem Y.ticket (y : Y B σ h) (c : zCnt σ) {w a d : Int32} (p : yPost B σ h (spTicket σ w a d) Xf K) : f_X6_ticket g (some B) w a d h Xf K := by
  have c1 := c.2.2.1
  unfold spTicket oRow at p
  simp only [f_X6_ticket, y.cB, y.welderAt c]
  cases e : ix w (sN σ 2 0) with
  | none => rw [e] at p; exact p.ex y (by decide)
  | some k =>
    rw [e] at p
    dsimp only at p ⊢
    obtain ⟨hk, rfl⟩ := ix_some (by omega) e
    have hk5 : k < 5 := by omega
    simp only [f_isAlloy, if10]
    by_cases q0 : isAlloy a = true
    · rw [if_pos q0] at p
      rw [if_neg (by rw [q0]; simp)]
      by_cases q1 : d < 0
      · rw [if_pos q1] at p ⊢; exact p.ex y (by decide)
      rw [if_neg q1] at p ⊢
      by_cases q2 : d ≤ 999
      · rw [if_pos q2] at p ⊢
        obtain ⟨j, hj, rfl⟩ := isAlloy_ix q0
        rw [nI_clamp (by omega)] at p
        simp only [y.a81 hk5, y.lT hk5 hj]
        exact y.stT hk5 hj fun h1 fr1 y1 => p.ok fr1 y1
      · rw [if_neg q2] at p ⊢; exact p.ex y (by decide)
    · rw [if_neg q0] at p
      rw [if_pos (by simpa using q0)]
      exact p.ex y (by decide)
theorem Y.paper (y : Y B σ h) (c : zCnt σ) (fl : zFlag σ) {q v : Int32} (hv : v = 0 ∨ v = 1) (p : yPost B σ h (spPaper σ q v) Xf K) : f_X6_heatAt g (some B) q h Xf (fun v1 h2 => cast h2 v1 2 (f_X1_putPaper g v1 v h2 (fun v3 h4 => okZ v3 (K v3 h4)))) := by
  have c1 := c.2.1
  unfold spPaper oRow at p
  rw [y.heatAt c]
  cases e : ix q (sN σ 1 0) with
  | none => rw [e] at p; exact p.ex y (by decide)
  | some k =>
    rw [e] at p
    dsimp only at p ⊢
    obtain ⟨hk, rfl⟩ := ix_some (by omega) e
    have hk8 : k < 8 := by omega
    simp only [y.cH hk8, f_X1_putPaper, y.r20 hk8, okZ_f hv]
    refine y.putI 14 k 0 ⟨hk8, rfl⟩ fun h1 fr1 y1 => ?_
    rw [okZ_f (fl.2.2.1 k), okZ_f (fl.2.2.1 k)]
    exact p.ok fr1 y1
end YX
