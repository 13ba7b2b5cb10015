/-! addPart and join in the model -/
theorem frL.mono {P A P' A' : Nat → Prop} {h h' : AH} (q : frL P A h h') (hP : ∀ b, P b → P' b) (hA : ∀ b, A b → A' b) : frL P' A' h h' := ⟨fun b hb => by
  obtain ⟨q1, q2, q3, q4, q5⟩ := q.1 b hb
  exact ⟨q1, q2, q3, fun f hf => q4 f (hf.imp (fun z y => z (hP b y)) id), fun z => q5 (fun y => z (hA b y))⟩, q.2⟩
section MAP
variable {g : Nat → Nat} {B : Nat} {mu : zM} {σ : zS} {h : AH}
theorem M.partEnd {mu' : zM} {τ : zS} {h' : AH} (m : M g B mu' τ h') (c : zCnt τ) {i n : Nat} (hi : i < sN τ 0 0) (en : sN τ 4 i = n + 1) {K : Int32 → AH → Prop} {x : Nat} (ex : x = mu' 0 i 0) (k : ∀ h2, frK B h' h2 → M g B mu' (wV τ 4 i 0 0) h2 → K (nI n) h2) : f_X12_addPart_B177 g (some x) h' K := by
  subst ex
  unfold f_X12_addPart_B177
  rw [okZ_0]
  refine m.putI 4 i 0 ⟨hi, rfl⟩ (by decide) fun h1 fr1 m1 => ?_
  have c1 : zCnt (wV τ 4 i 0 0) := c
  simp only [m1.a145 hi, m1.csP hi, m1.sP c1 hi]
  rw [show sN (wV τ 4 i 0 0) 4 i = n + 1 from en, nI_pred]
  exact k h1 fr1 m1
theorem M.putPart (m : M g B mu σ h) (c : zCnt σ) (nw : zNew σ) {i n : Nat} {k sz : Int32} (hi : i < sN σ 0 0) (en : sN σ 4 i = n) (hn : n < 10) (hk : narrow .char (.int k) = .int k ∧ fits .char (.int k) = true) {K : Int32 → AH → Prop} (kk : ∀ h' mu', frK B h h' → M g B mu' (wV (wPart σ i k sz) 4 i 0 0) h' → K (nI n) h') : nnew h 10 fun o h2 => f_X12_addPart_B136 g (some (mu 0 i 0)) (some (mu 5 1 i)) o o k sz h2 K := by
  refine nnew_to fun r0 a0 => ?_
  unfold f_X12_addPart_B136 f_X10_init
  rw [nn_eq, nn_eq]
  have le := Nat.le_refl (hN h)
  have hB := m.hB
  have k0 : hK r0 (hN h) = 11 := by rw [a0, x_hK_nO, if_pos rfl]
  refine pI_to k0 fun r1 a1 => ?_
  rw [okC_c hk]
  have k1 : hK r1 (hN h) = 11 := by rw [a1, x_hK_sI]; exact k0
  refine pI_to k1 fun r2 a2 => ?_
  have k2 : hK r2 (hN h) = 11 := by rw [a2, x_hK_sI]; exact k1
  refine pI_to k2 fun r3 a3 => ?_
  have k3 : hK r3 (hN h) = 11 := by rw [a3, x_hK_sI]; exact k2
  have fr3 : frO h r3 := by rw [a3, a2, a1, a0]; exact ((frO.nO.sI le).sI le).sI le
  have n3 : hN r3 = hN h + 1 := by rw [a3, x_hN_sI, a2, x_hN_sI, a1, x_hN_sI, a0, x_hN_nO]
  have i0 : hI r3 160 (hN h) = k := by rw [a3, hI_sI, if_neg (by omega), a2, hI_sI, if_pos ⟨rfl, rfl⟩]
  have i1 : hI r3 161 (hN h) = sz := by rw [a3, hI_sI, if_pos ⟨rfl, rfl⟩]
  have i2 : hI r3 162 (hN h) = -1 := by rw [a3, hI_sI, if_neg (by omega), a2, hI_sI, if_neg (by omega), a1, hI_sI, if_pos ⟨rfl, rfl⟩]
  have m3 := m.old fr3
  dsimp only
  rw [m3.csP hi]
  have okP : lsOk (sN σ) 1 i := hi
  have okJ : lsOk (sN σ) 2 i := hi
  have qP : qN (sN σ) 1 i = n := en
  refine m3.addTo c (a := 1) (b := i) hi (by rw [qP]; exact hn) (by omega) (by rw [k3]; exact Or.inr (Or.inr (Or.inr (Or.inl rfl)))) fun h7 arrP A => ?_
  rw [qP] at A
  obtain ⟨Q, Z, A1, A2, A3⟩ := A
  have y0 := m.1.1 0 i 0 ⟨hi, rfl⟩
  have yP := m.1.1 5 1 i okP
  have yJ := m.1.1 5 2 i okJ
  have neL : mu 5 1 i ≠ mu 5 2 i := fun z => by
    obtain ⟨-, u, -⟩ := m.1.2.1 _ _ _ _ _ _ (show vOk (sN σ) 5 1 i from okP) (show vOk (sN σ) 5 2 i from okJ) z
    omega
  obtain ⟨ln1, ln2, -⟩ := m.1.2.2.2.1 i hi
  have fL7 : frL (fun b => b = mu 5 1 i) (fun b => n ≠ 0 ∧ b = mu 9 1 i) h h7 := (fr3.L _ _).trans (Q.L rfl (fun z => ⟨z, by rw [if_neg z]⟩))
  have g145 : hK h7 (mu 0 i 0) = 10 ∧ hA h7 145 (mu 0 i 0) = some (mu 5 1 i) ∧ hA h7 146 (mu 0 i 0) = some (mu 5 2 i) := by
    obtain ⟨z1, z2, z3, z4, z5⟩ := fL7.1 _ y0.2.1
    exact ⟨z1.trans y0.2.2, (z4 145 (Or.inr (Or.inl (by decide)))).2.trans ln1, (z4 146 (Or.inr (Or.inl (by decide)))).2.trans ln2⟩
  have kP7 : hK h7 (mu 5 1 i) = 14 := (fL7.1 _ yP.2.1).1.trans yP.2.2
  rw [gA_eq g145.1 g145.2.1, cast_eq kP7]
  unfold f_Jx4a65c_size_8abf5
  rw [gI_eq kP7 A1]
  dsimp only
  have rp7 : hI h7 160 (hN h) = k ∧ hI h7 161 (hN h) = sz ∧ hI h7 162 (hN h) = -1 ∧ hK h7 (hN h) = 11 := by
    obtain ⟨z1, z2, z3, z4, z5⟩ := Q.1 (hN h) (by omega)
    exact ⟨(z4 160 (Or.inr (Or.inl (by decide)))).1.trans i0, (z4 161 (Or.inr (Or.inl (by decide)))).1.trans i1, (z4 162 (Or.inr (Or.inl (by decide)))).1.trans i2, z1.trans k3⟩
  have hq7 : hN r3 ≤ hN h7 := Q.2
  by_cases hn0 : n = 0
  · rw [if_pos (show nI (n + 1) ≤ 1 by rw [hn0]; decide)]
    have r := m.partExt c nw (p := hN h) (q := 0) (aP := arrP) (aJ := 0) (k := k) (sz := sz) (h' := h7) hi en hn (fL7.mono (fun b z => Or.inl z) (fun b z => Or.inl z)) ⟨le, by omega, rp7.2.2.2⟩ ⟨rp7.1, rp7.2.1, rp7.2.2.1⟩ (fun z => by omega) (fun z => by omega)
      (fun z => by
        rcases Z with ⟨z1, z2, z3, z4, z5⟩ | ⟨z1, -⟩
        · exact ⟨by omega, by omega, z3, z4, by omega⟩
        · omega) (fun z => by omega) ⟨A1, by rw [if_pos hn0]; exact A2, fun x hx => by rw [if_pos hn0]; exact A3 x hx⟩ (fun z => by omega)
    have cw : zCnt (wPart σ i k sz) := by
      refine ⟨c.1, c.2.1, c.2.2.1, c.2.2.2.1, fun l => ?_⟩
      unfold wPart
      rw [sN_wN]
      by_cases z : 4 = 4 ∧ l = i
      · rw [if_pos z]; omega
      · rw [if_neg z]; exact c.2.2.2.2 l
    refine r.2.partEnd cw (i := i) (n := n) hi (by unfold wPart; rw [sN_wN, if_pos ⟨rfl, rfl⟩, en]) ?_ fun h2 fr2 m2 => kk h2 _ (r.1.trans fr2) m2
    exact (muN_old (by decide) (by unfold nuPart; rw [if_neg (by omega), if_neg (by omega), if_neg (by omega), if_neg (by omega)])).symm
  · rw [if_neg (show ¬ nI (n + 1) ≤ 1 from nI_ge (a := 1) (b := n + 1) (by omega) (by omega))]
    rw [gA_eq g145.1 g145.2.2]
    refine nnew_to fun r8 a8 => ?_
    unfold f_X8_init
    rw [nn_eq, nn_eq, okC_110]
    have le7 := Nat.le_refl (hN h7)
    have k8 : hK r8 (hN h7) = 9 := by rw [a8, x_hK_nO, if_pos rfl]
    refine pI_to k8 fun r9 a9 => ?_
    have k9 : hK r9 (hN h7) = 9 := by rw [a9, x_hK_sI]; exact k8
    refine pI_to k9 fun r10 a10 => ?_
    have k10 : hK r10 (hN h7) = 9 := by rw [a10, x_hK_sI]; exact k9
    have fr10 : frO h7 r10 := by rw [a10, a9, a8]; exact (frO.nO.sI le7).sI le7
    have n10 : hN r10 = hN h7 + 1 := by rw [a10, x_hN_sI, a9, x_hN_sI, a8, x_hN_nO]
    have j8 : hI r10 128 (hN h7) = 110 := by rw [a10, hI_sI, if_neg (by omega), a9, hI_sI, if_pos ⟨rfl, rfl⟩]
    have j9 : hI r10 129 (hN h7) = 0 := by rw [a10, hI_sI, if_neg (by omega), a9, hI_sI, if_neg (by omega), a8, x_hI_nO, if_pos rfl]
    have j19 : hI r10 130 (hN h7) = -1 := by rw [a10, hI_sI, if_pos ⟨rfl, rfl⟩]
    have fL10 : frL (fun b => b = mu 5 1 i) (fun b => n ≠ 0 ∧ b = mu 9 1 i) h r10 := fL7.trans (fr10.L _ _)
    have qJ : qN (sN σ) 2 i = n - 1 := by show sN σ 4 i - 1 = n - 1; omega
    have L := m.al c (a := 2) (b := i) hi
    rw [qJ] at L
    obtain ⟨L1, L2, L3, L4, L5, L6⟩ := L
    have ar := m.arr0 (a := 2) (b := i) okJ
    rw [qJ] at ar
    obtain ⟨ar1, ar2⟩ := ar
    have fJ := fL10.1 _ yJ.2.1
    have fA := fL10.1 _ ar2
    have neA : (if n - 1 = 0 then g 0 else mu 9 2 i) ≠ mu 9 1 i := by
      have u9 := m.1.1 9 1 i ⟨okP, show 0 < sN σ 4 i by omega⟩
      by_cases z : n - 1 = 0
      · rw [if_pos z]
        have := m.1.2.2.2.2.2.2.2.1.2.2
        omega
      · rw [if_neg z]
        intro w
        obtain ⟨-, u, -⟩ := m.1.2.1 _ _ _ _ _ _ (show vOk (sN σ) 9 2 i from ⟨okJ, show 0 < sN σ 4 i - 1 by omega⟩) (show vOk (sN σ) 9 1 i from ⟨okP, show 0 < sN σ 4 i by omega⟩) w
        omega
    have L' : AL (g 0) r10 (mu 5 2 i) (if n - 1 = 0 then g 0 else mu 9 2 i) (n - 1) (qE mu 2 i) := by
      have nP : ¬ mu 5 2 i = mu 5 1 i := fun z => neL z.symm
      refine ⟨fJ.1.trans L1, (fJ.2.2.2.1 210 (Or.inl nP)).1.trans L2, (fJ.2.2.2.1 209 (Or.inl nP)).2.trans L3, ?_, L5, fun x hx => (fA.2.2.2.2 (fun z => neA z.2) x).trans (L6 x hx)⟩
      by_cases z : n - 1 = 0
      · obtain ⟨z1, z2, z3⟩ := ar1 z
        have g0 : g 0 < hN h := by
          have := m.1.2.2.2.2.2.2.2.1.2.2
          omega
        exact Or.inl ⟨z, z1, (fL10.1 _ g0).1.trans z2, (fL10.1 _ g0).2.1.trans z3⟩
      · rcases L4 with w | w
        · exact absurd w.1 z
        · exact Or.inr ⟨fA.1.trans w.1, fA.2.1.trans w.2⟩
    dsimp only
    rw [cast_eq L'.1]
    refine L'.add (fun z => ?_) (by omega) (Nat.lt_of_lt_of_le yJ.2.1 fL10.2) (Nat.lt_of_lt_of_le ar2 fL10.2) (by omega) (by rw [k10]; exact Or.inr (Or.inl rfl)) fun h5 arrJ A' => ?_
    · obtain ⟨z1, z2, z3⟩ := ar1 z
      have g0 : g 0 < hN h := by
        have := m.1.2.2.2.2.2.2.2.1.2.2
        omega
      exact ⟨z1, (fL10.1 _ g0).1.trans z2, (fL10.1 _ g0).2.1.trans z3⟩
    obtain ⟨Q', Z', B1, B2, B3⟩ := A'
    have hq5 : hN r10 ≤ hN h5 := Q'.2
    have rpP : ∀ b, b < hN h7 → ∀ f, f < 208 → hI h5 f b = hI h7 f b := fun b hb f hf => ((Q'.1 b (by omega)).2.2.2.1 f (Or.inr (Or.inl hf))).1.trans ((fr10.1 b hb).2.2.1 f).1
    have aP' : arrP = mu 9 1 i := by
      rcases Z with ⟨z1, -⟩ | ⟨z1, z2, -⟩
      · exact absurd z1 hn0
      · rw [z2, if_neg hn0]
    have u9 := m.1.1 9 1 i ⟨okP, show 0 < sN σ 4 i by omega⟩
    have r := m.partExt c nw (p := hN h) (q := hN h7) (aP := 0) (aJ := arrJ) (k := k) (sz := sz) (h' := h5) hi en hn
      ((fL10.mono (fun b z => Or.inl z) (fun b z => Or.inl z)).trans (Q'.L (Or.inr ⟨by omega, rfl⟩) (fun z => Or.inr ⟨by omega, by rw [if_neg z]⟩)))
      ⟨le, by omega, (Q'.1 (hN h) (by omega)).1.trans ((fr10.1 (hN h) (by omega)).1.trans rp7.2.2.2)⟩ ⟨(rpP _ (by omega) 160 (by decide)).trans rp7.1, (rpP _ (by omega) 161 (by decide)).trans rp7.2.1, (rpP _ (by omega) 162 (by decide)).trans rp7.2.2.1⟩
      (fun _ => ⟨by omega, by omega, (Q'.1 (hN h7) (by omega)).1.trans k10, by omega⟩)
      (fun _ => by
        have z4 := (Q'.1 (hN h7) (by omega)).2.2.2.1
        exact ⟨(z4 128 (Or.inr (Or.inl (by decide)))).1.trans j8, (z4 129 (Or.inr (Or.inl (by decide)))).1.trans j9, (z4 130 (Or.inr (Or.inl (by decide)))).1.trans j19⟩)
      (fun z => absurd z hn0)
      (fun z => by
        rcases Z' with ⟨z1, z2, z3, z4, z5⟩ | ⟨z1, -⟩
        · exact ⟨by omega, by omega, z3, z4, by omega, by omega⟩
        · omega)
      (by
        rw [if_neg hn0]
        have z4 := (Q'.1 (mu 5 1 i) (by omega)).2.2.2.1
        have w4 := (fr10.1 (mu 5 1 i) (by omega)).2.2.1
        refine ⟨(z4 210 (Or.inl neL)).1.trans ((w4 210).1.trans A1), (z4 209 (Or.inl neL)).2.trans ((w4 209).2.trans (A2.trans (by rw [aP']))), fun x hx => ?_⟩
        have z5 := (Q'.1 (mu 9 1 i) (by omega)).2.2.2.2 (Or.inl (fun z => neA z.symm)) x
        have w5 := ((fr10.1 (mu 9 1 i) (by omega)).2.2.2 x).2.1
        rw [z5, w5]
        rw [aP'] at A3
        exact A3 x hx)
      (fun hn1 => by
        rw [show n - 1 + 1 = n by omega] at B1 B3
        have e9 : arrJ = if n = 1 then arrJ else mu 9 2 i := by
          by_cases z : n = 1
          · rw [if_pos z]
          · rw [if_neg z]
            rcases Z' with ⟨z1, -⟩ | ⟨z1, z2, -⟩
            · omega
            · rw [z2, if_neg (by omega)]
        rw [← e9]
        exact ⟨B1, B2, B3⟩)
    have cw : zCnt (wPart σ i k sz) := by
      refine ⟨c.1, c.2.1, c.2.2.1, c.2.2.2.1, fun l => ?_⟩
      unfold wPart
      rw [sN_wN]
      by_cases z : 4 = 4 ∧ l = i
      · rw [if_pos z]; omega
      · rw [if_neg z]; exact c.2.2.2.2 l
    refine r.2.partEnd cw (i := i) (n := n) hi (by unfold wPart; rw [sN_wN, if_pos ⟨rfl, rfl⟩, en]) ?_ fun h2 fr2 m2 => kk h2 _ (r.1.trans fr2) m2
    exact (muN_old (by decide) (by unfold nuPart; rw [if_neg (by omega), if_neg (by omega), if_neg (by omega), if_neg (by omega)])).symm
theorem M.addPart (m : M g B mu σ h) (c : zCnt σ) (nw : zNew σ) {l k len : Int32} {K : Int32 → AH → Prop} (q : mPost g B σ h 3 1 2 (spAddPart σ l k len) K) : f_X12_addPart g (some (B + 119)) l k len h K := by
  have c1 := c.1
  unfold spAddPart oRow at q
  have go : ∀ (fit : Bool), f_X12_addPart_B35 g (some (B + 119)) l k len (if fit = true then 1 else 0) h K = (match ix l (sN σ 0 0) with | none => f_X12_addPart_B90 g (some (B + 119)) l k len (some (B + 119)) 1 h K | some i => if fit = true then (if sN σ 4 i = 10 then f_X12_addPart_B90 g (some (B + 119)) l k len (some (B + 119)) 3 h K else f_X12_addPart_B90 g (some (B + 119)) l k len (some (B + 119)) 0 h K) else f_X12_addPart_B90 g (some (B + 119)) l k len (some (B + 119)) 2 h K) := by
    intro fit
    simp only [f_X12_addPart_B35, m.cO, m.isLine c, if_true, e10, if_false]
    cases e : ix l (sN σ 0 0) with
    | none => rfl
    | some i =>
      obtain ⟨hi, rfl⟩ := ix_some (by omega) e
      have c2 := c.2.2.2.2 i
      dsimp only
      cases fit with
      | false => simp
      | true =>
        simp only [if_true, e10, if_false, m.a192, m.cs0, m.gL c hi, m.cL hi, m.a145 hi, m.csP hi, m.sP c hi]
        by_cases z : sN σ 4 i = 10
        · rw [if_pos z, if_pos (show nI (sN σ 4 i) = 10 by rw [z]; rfl)]
        · rw [if_neg z, if_neg (show ¬ nI (sN σ 4 i) = 10 from fun y => by have y' : nI (sN σ 4 i) = nI 10 := y; rw [nI_eq (by omega) (by decide)] at y'; exact z y')]
  have e0 : f_X12_addPart g (some (B + 119)) l k len h K = f_X12_addPart_B35 g (some (B + 119)) l k len (if (if k = 115 then isLen len else (decide (k = 101) || decide (k = 118))) = true then 1 else 0) h K := by
    simp only [f_X12_addPart, f_X12_addPart_B30, f_in, in_len]
    by_cases q1 : k = 115
    · rw [if_pos q1, if_pos q1]
    · rw [if_neg q1, if_neg q1]
      by_cases q2 : k = 101
      · simp [q2]
      · by_cases q3 : k = 118
        · simp [q3]
        · simp [q2, q3]
  rw [e0, go]
  cases e : ix l (sN σ 0 0) with
  | none =>
    rw [e] at q
    simp only [f_X12_addPart_B90, m.cO]
    exact q.exR m rfl (by decide) (by decide)
  | some i =>
    rw [e] at q
    obtain ⟨hi, rfl⟩ := ix_some (by omega) e
    have c2 := c.2.2.2.2 i
    dsimp only at q ⊢
    have put : ∀ sz, (k = 115 ∨ k = 101 ∨ k = 118) → sz = (if k = 115 then len else 300) → mPost g B σ h 3 1 2 (spPut σ i k sz) K → (if sN σ 4 i = 10 then f_X12_addPart_B90 g (some (B + 119)) (nI i) k len (some (B + 119)) 3 h K else f_X12_addPart_B90 g (some (B + 119)) (nI i) k len (some (B + 119)) 0 h K) := by
      intro sz hk hsz q
      unfold spPut at q
      have hc : narrow .char (.int k) = .int k ∧ fits .char (.int k) = true := by
        rcases hk with rfl | rfl | rfl <;> decide
      simp only [f_X12_addPart_B90, m.cO]
      by_cases z : sN σ 4 i < 10
      · rw [if_pos z] at q
        rw [if_neg (show ¬ sN σ 4 i = 10 by omega)]
        refine m.fail0 fun h1 fr m1 => ?_
        simp only [if_true, m1.a192, m1.cs0, m1.gL c hi, m1.cL hi, m1.a145 hi]
        have e3 := m1.putPart c nw (i := i) (k := k) (sz := sz) (K := K) hi rfl z hc fun h2 mu2 fr2 m2 => q.ok (fr.k fr2) m2
        by_cases q1 : k = 115
        · rw [if_pos q1] at hsz
          rw [hsz] at e3
          simpa only [q1, if_true] using e3
        · rw [if_neg q1] at hsz
          rw [hsz] at e3
          simpa only [q1, if_false] using e3
      · rw [if_neg z] at q
        rw [if_pos (show sN σ 4 i = 10 by omega)]
        exact q.exR m rfl (by decide) (by decide)
    by_cases q1 : k = 115
    · rw [if_pos q1] at q
      simp only [if_pos q1]
      cases q0 : isLen len with
      | false =>
        rw [q0] at q
        simp only [Bool.false_eq_true, if_false] at q
        simp only [Bool.false_eq_true, if_false, f_X12_addPart_B90, m.cO]
        exact q.exR m rfl (by decide) (by decide)
      | true =>
        rw [q0] at q
        simp only [if_true] at q
        simp only [if_true]
        exact put len (Or.inl q1) (by rw [if_pos q1]) q
    · rw [if_neg q1] at q
      simp only [if_neg q1]
      by_cases q2 : k = 101 ∨ k = 118
      · rw [if_pos q2] at q
        rw [if_pos (show (decide (k = 101) || decide (k = 118)) = true by simpa using q2)]
        exact put 300 (Or.inr q2) (by rw [if_neg q1]) q
      · rw [if_neg q2] at q
        rw [if_neg (show ¬ (decide (k = 101) || decide (k = 118)) = true by simpa using q2)]
        simp only [f_X12_addPart_B90, m.cO]
        exact q.exR m rfl (by decide) (by decide)
end MAP
