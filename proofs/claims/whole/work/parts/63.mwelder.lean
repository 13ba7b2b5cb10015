/-! welders and circuits are added to the model -/
/-- what has not been made yet is as it will be at first -/
def zNew (σ : zS) : Prop := (∀ w, sN σ 2 0 ≤ w → sV σ 16 w 0 = 0 ∧ ∀ a, sV σ 15 w a = -1) ∧ (∀ l, sN σ 0 0 ≤ l → sN σ 4 l = 0 ∧ sV σ 3 l 0 = 0 ∧ sV σ 4 l 0 = 0 ∧ sV σ 5 l 0 = 0 ∧ (∀ a, sV σ 10 l a = 0) ∧ ∀ a, sR σ 2 l a = none) ∧ (∀ l p, sN σ 4 l ≤ p → sR σ 0 l p = none) ∧ ∀ l j, sN σ 4 l - 1 ≤ j → sV σ 8 l j = 110 ∧ sV σ 9 l j = 0 ∧ sR σ 1 l j = none
/-! what a step leaves and changes, as equations -/
theorem x_hK_sI (h : AH) (f a : Nat) (v : Int32) : hK (sI h f a v) = hK h := rfl
theorem x_hA_sI (h : AH) (f a : Nat) (v : Int32) : hA (sI h f a v) = hA h := rfl
theorem x_hL_sI (h : AH) (f a : Nat) (v : Int32) : hL (sI h f a v) = hL h := rfl
theorem x_aI_sI (h : AH) (f a : Nat) (v : Int32) : aI (sI h f a v) = aI h := rfl
theorem x_aA_sI (h : AH) (f a : Nat) (v : Int32) : aA (sI h f a v) = aA h := rfl
theorem x_aJ_sI (h : AH) (f a : Nat) (v : Int32) : aJ (sI h f a v) = aJ h := rfl
theorem x_aD_sI (h : AH) (f a : Nat) (v : Int32) : aD (sI h f a v) = aD h := rfl
theorem x_hN_sI (h : AH) (f a : Nat) (v : Int32) : hN (sI h f a v) = hN h := rfl
theorem x_hK_sA (h : AH) (f a : Nat) (v : Option Nat) : hK (sA h f a v) = hK h := rfl
theorem x_hI_sA (h : AH) (f a : Nat) (v : Option Nat) : hI (sA h f a v) = hI h := rfl
theorem x_hL_sA (h : AH) (f a : Nat) (v : Option Nat) : hL (sA h f a v) = hL h := rfl
theorem x_aI_sA (h : AH) (f a : Nat) (v : Option Nat) : aI (sA h f a v) = aI h := rfl
theorem x_aA_sA (h : AH) (f a : Nat) (v : Option Nat) : aA (sA h f a v) = aA h := rfl
theorem x_aJ_sA (h : AH) (f a : Nat) (v : Option Nat) : aJ (sA h f a v) = aJ h := rfl
theorem x_aD_sA (h : AH) (f a : Nat) (v : Option Nat) : aD (sA h f a v) = aD h := rfl
theorem x_hN_sA (h : AH) (f a : Nat) (v : Option Nat) : hN (sA h f a v) = hN h := rfl
theorem x_hK_tI (h : AH) (a j : Nat) (v : Int32) : hK (tI h a j v) = hK h := rfl
theorem x_hI_tI (h : AH) (a j : Nat) (v : Int32) : hI (tI h a j v) = hI h := rfl
theorem x_hA_tI (h : AH) (a j : Nat) (v : Int32) : hA (tI h a j v) = hA h := rfl
theorem x_hL_tI (h : AH) (a j : Nat) (v : Int32) : hL (tI h a j v) = hL h := rfl
theorem x_aA_tI (h : AH) (a j : Nat) (v : Int32) : aA (tI h a j v) = aA h := rfl
theorem x_aJ_tI (h : AH) (a j : Nat) (v : Int32) : aJ (tI h a j v) = aJ h := rfl
theorem x_aD_tI (h : AH) (a j : Nat) (v : Int32) : aD (tI h a j v) = aD h := rfl
theorem x_hN_tI (h : AH) (a j : Nat) (v : Int32) : hN (tI h a j v) = hN h := rfl
theorem x_hK_tA (h : AH) (a j : Nat) (v : Option Nat) : hK (tA h a j v) = hK h := rfl
theorem x_hI_tA (h : AH) (a j : Nat) (v : Option Nat) : hI (tA h a j v) = hI h := rfl
theorem x_hA_tA (h : AH) (a j : Nat) (v : Option Nat) : hA (tA h a j v) = hA h := rfl
theorem x_hL_tA (h : AH) (a j : Nat) (v : Option Nat) : hL (tA h a j v) = hL h := rfl
theorem x_aI_tA (h : AH) (a j : Nat) (v : Option Nat) : aI (tA h a j v) = aI h := rfl
theorem x_aJ_tA (h : AH) (a j : Nat) (v : Option Nat) : aJ (tA h a j v) = aJ h := rfl
theorem x_aD_tA (h : AH) (a j : Nat) (v : Option Nat) : aD (tA h a j v) = aD h := rfl
theorem x_hN_tA (h : AH) (a j : Nat) (v : Option Nat) : hN (tA h a j v) = hN h := rfl
theorem x_hL_nO (h : AH) (ci : Nat) : hL (nO h ci) = hL h := rfl
theorem x_aI_nO (h : AH) (ci : Nat) : aI (nO h ci) = aI h := rfl
theorem x_aA_nO (h : AH) (ci : Nat) : aA (nO h ci) = aA h := rfl
theorem x_aJ_nO (h : AH) (ci : Nat) : aJ (nO h ci) = aJ h := rfl
theorem x_aD_nO (h : AH) (ci : Nat) : aD (nO h ci) = aD h := rfl
theorem x_hI_nR (h : AH) (t n : Nat) : hI (nR h t n) = hI h := rfl
theorem x_hA_nR (h : AH) (t n : Nat) : hA (nR h t n) = hA h := rfl
theorem x_hK_nO (h : AH) (ci b : Nat) : hK (nO h ci) b = if b = hN h then ci + 1 else hK h b := rfl
theorem x_hI_nO (h : AH) (ci f b : Nat) : hI (nO h ci) f b = if b = hN h then 0 else hI h f b := rfl
theorem x_hA_nO (h : AH) (ci f b : Nat) : hA (nO h ci) f b = if b = hN h then none else hA h f b := rfl
theorem x_hN_nO (h : AH) (ci : Nat) : hN (nO h ci) = hN h + 1 := rfl
theorem x_hK_nR (h : AH) (t n b : Nat) : hK (nR h t n) b = if b = hN h then 30 + t else hK h b := rfl
theorem x_hL_nR (h : AH) (t n b : Nat) : hL (nR h t n) b = if b = hN h then n else hL h b := rfl
theorem x_aI_nR (h : AH) (t n b j : Nat) : aI (nR h t n) b j = if b = hN h then 0 else aI h b j := rfl
theorem x_aA_nR (h : AH) (t n b j : Nat) : aA (nR h t n) b j = if b = hN h then none else aA h b j := rfl
theorem x_aJ_nR (h : AH) (t n b j : Nat) : aJ (nR h t n) b j = if b = hN h then 0 else aJ h b j := rfl
theorem x_aD_nR (h : AH) (t n b j : Nat) : aD (nR h t n) b j = if b = hN h then 0 else aD h b j := rfl
theorem x_hN_nR (h : AH) (t n : Nat) : hN (nR h t n) = hN h + 1 := rfl
theorem f_X11_facts {g : Nat → Nat} {h : AH} {K : AH → Prop} (k : ∀ h2, frO h h2 → hK h2 (hN h) = 12 → hK h2 (hN h + 1) = 30 → hL h2 (hN h + 1) = 4 → hN h2 = hN h + 2 → hI h2 177 (hN h) = 0 → hA h2 176 (hN h) = some (hN h + 1) → (∀ a, a < 4 → aI h2 (hN h + 1) a = -1) → K h2) : f_X11_init g (some (hN h)) (nO h 11) K := by
  have le := Nat.le_refl (hN h)
  have le1 : hN h ≤ hN h + 1 := Nat.le_succ _
  have n1 : hN (nO h 11) = hN h + 1 := rfl
  unfold f_X11_init
  rw [nn_eq]
  unfold nrow
  rw [n1]
  generalize hr : nR (nO h 11) 0 4 = r
  have kr : hK r (hN h + 1) = 30 := by rw [← hr, x_hK_nR, if_pos n1.symm]
  have lr : hL r (hN h + 1) = 4 := by rw [← hr, x_hL_nR, if_pos n1.symm]
  have ko : hK r (hN h) = 12 := by rw [← hr, x_hK_nR, n1, if_neg (by omega), x_hK_nO, if_pos rfl]
  have nr : hN r = hN h + 2 := by rw [← hr, x_hN_nR, n1]
  have i0 : hI r 177 (hN h) = 0 := by rw [← hr, x_hI_nR, x_hI_nO, if_pos rfl]
  have fr : frO h r := by rw [← hr]; exact frO.nO.trans frO.nR
  have vp : ∀ {x : AH}, hL x = hL r → ∀ i, i < 4 → vp_in (nI i) (hL x (hN h + 1)) := fun e i hi => by rw [e, lr]; exact vp_in_nI hi (by decide)
  refine ⟨hN h + 1, rfl, kr, vp rfl 0 (by decide), ?_⟩
  generalize hr1 : tI r (hN h + 1) (Int32.toNatClampNeg 0) (-1) = r1
  have a1 : r1 = tI r (hN h + 1) 0 (-1) := hr1.symm
  refine ⟨hN h + 1, rfl, by rw [a1]; exact kr, vp (by rw [a1]; rfl) 1 (by decide), ?_⟩
  generalize hr2 : tI r1 (hN h + 1) (Int32.toNatClampNeg 1) (-1) = r2
  have a2 : r2 = tI r1 (hN h + 1) 1 (-1) := hr2.symm
  refine ⟨hN h + 1, rfl, by rw [a2, x_hK_tI, a1]; exact kr, vp (by rw [a2, x_hL_tI, a1]; rfl) 2 (by decide), ?_⟩
  generalize hr3 : tI r2 (hN h + 1) (Int32.toNatClampNeg 2) (-1) = r3
  have a3 : r3 = tI r2 (hN h + 1) 2 (-1) := hr3.symm
  refine ⟨hN h + 1, rfl, by rw [a3, x_hK_tI, a2, x_hK_tI, a1]; exact kr, vp (by rw [a3, x_hL_tI, a2, x_hL_tI, a1]; rfl) 3 (by decide), ?_⟩
  generalize hr4 : tI r3 (hN h + 1) (Int32.toNatClampNeg 3) (-1) = r4
  have a4 : r4 = tI r3 (hN h + 1) 3 (-1) := hr4.symm
  have k4 : hK r4 = hK r := by rw [a4, x_hK_tI, a3, x_hK_tI, a2, x_hK_tI, a1, x_hK_tI]
  have l4 : hL r4 = hL r := by rw [a4, x_hL_tI, a3, x_hL_tI, a2, x_hL_tI, a1, x_hL_tI]
  have i4 : hI r4 = hI r := by rw [a4, x_hI_tI, a3, x_hI_tI, a2, x_hI_tI, a1, x_hI_tI]
  have n4 : hN r4 = hN r := by rw [a4, x_hN_tI, a3, x_hN_tI, a2, x_hN_tI, a1, x_hN_tI]
  have f4 : frO h r4 := by
    rw [a4, a3, a2, a1]
    exact (((fr.tI le1).tI le1).tI le1).tI le1
  refine ⟨hN h, rfl, by rw [k4]; exact ko, ?_⟩
  refine k _ (f4.sA le) ?_ ?_ ?_ ?_ ?_ ?_ ?_
  · rw [x_hK_sA, k4]; exact ko
  · rw [x_hK_sA, k4]; exact kr
  · rw [x_hL_sA, l4]; exact lr
  · rw [x_hN_sA, n4]; exact nr
  · rw [x_hI_sA, i4]; exact i0
  · rw [hA_sA, if_pos ⟨rfl, rfl⟩]
  · intro a ha
    rw [x_aI_sA, a4, aI_tI, a3, aI_tI, a2, aI_tI, a1, aI_tI]
    have : a = 0 ∨ a = 1 ∨ a = 2 ∨ a = 3 := by omega
    rcases this with rfl | rfl | rfl | rfl <;> simp
section MWD
variable {g : Nat → Nat} {B : Nat} {mu : zM} {σ : zS} {h : AH}
theorem M.newWelder (m : M g B mu σ h) (c : zCnt σ) (nw : zNew σ) (hn : sN σ 2 0 < 5) {K : Int32 → AH → Prop} (k : ∀ h' mu', frK B h h' → M g B mu' (wN σ 2 0 (sN σ 2 0 + 1)) h' → K 1 h') : nnew h 11 fun o4 h5 => nn o4 (f_X11_init g o4 h5 (fun h6 => cast h6 (some (mu 5 0 2)) 14 (f_Jx4a65c_add_9ea2d g (some (mu 5 0 2)) o4 h6 K))) := by
  show nn (some (hN h)) (f_X11_init g (some (hN h)) (nO h 11) _)
  rw [nn_eq]
  refine f_X11_facts fun h2 fr k12 k30 l4 n2 i177 a176 t15 => ?_
  have le := Nat.le_refl (hN h)
  have le1 : hN h ≤ hN h + 1 := Nat.le_succ _
  have m2 := m.old fr
  have ok0 : lsOk (sN σ) 0 2 := show 2 < 4 by decide
  rw [m2.cs2]
  refine m2.addTo c (a := 0) (b := 2) ok0 (show sN σ 2 0 < 10 by omega) (by omega) (by rw [k12]; exact Or.inr (Or.inr (Or.inr (Or.inr (Or.inl rfl))))) fun h' arr' A => ?_
  have hA' := A
  obtain ⟨Q, -⟩ := hA'
  have rd := (Q.1 (hN h) (by omega)).2.2.2.1
  have rd2 := (Q.1 (hN h + 1) (by omega)).2.2.1
  have r := m.app (σ' := wN σ 2 0 (sN σ 2 0 + 1)) fr ok0 A (fun k i j => if k = 4 ∧ i = sN σ 2 0 ∧ j = 0 then some (hN h) else if k = 8 ∧ i = sN σ 2 0 ∧ j = 0 then some (hN h + 1) else none) (fun _ => none) (fun a => if a = hN h then (4, sN σ 2 0, 0) else (8, sN σ 2 0, 0)) rfl
    (fun k i j x e => by
      by_cases q : k = 4 ∧ i = sN σ 2 0 ∧ j = 0
      · rw [if_pos q] at e
        cases e
        obtain ⟨rfl, rfl, rfl⟩ := q
        exact ⟨le, by omega, k12, fun z => absurd z (by decide), by rw [if_pos rfl], by decide, by decide⟩
      · rw [if_neg q] at e
        by_cases q' : k = 8 ∧ i = sN σ 2 0 ∧ j = 0
        · rw [if_pos q'] at e
          cases e
          obtain ⟨rfl, rfl, rfl⟩ := q'
          exact ⟨le1, by omega, k30, fun _ => l4, by rw [if_neg (by omega)], by decide, by decide⟩
        · rw [if_neg q'] at e; cases e)
    (fun k i j ok => by
      rw [if_neg, if_neg]
      · rintro ⟨rfl, rfl, rfl⟩
        exact Nat.lt_irrefl _ ok.1
      · rintro ⟨rfl, rfl, rfl⟩
        exact Nat.lt_irrefl _ ok.1)
    (fun k i j ok e => by
      rcases vOk_app (n := sN σ) ok rfl (fun _ => rfl) with ⟨rfl, z1, rfl⟩ | ⟨z0, z1, rfl⟩ | ⟨rfl, rfl, z1, z2⟩ | z
      · exact Or.inr ⟨z1, rfl⟩
      · have z1' : i < sN σ 2 0 + 1 := z1
        by_cases q : i = sN σ 2 0
        · rcases z0 with rfl | rfl
          · rw [if_pos ⟨rfl, q, rfl⟩] at e; cases e
          · rw [if_neg (fun z => absurd z.1 (by decide)), if_pos ⟨rfl, q, rfl⟩] at e; cases e
        · rcases z0 with rfl | rfl
          · exact Or.inr ⟨by omega, rfl⟩
          · exact Or.inr ⟨by omega, rfl⟩
      · by_cases q : j = 2
        · exact Or.inl ⟨rfl, rfl, q⟩
        · refine Or.inr ⟨z1, ?_⟩
          have : sN (wN σ 2 0 (sN σ 2 0 + 1)) j 0 = sN σ j 0 := by
            rw [sN_wN, if_neg (fun y => q y.1)]
          show 0 < sN σ j 0
          rw [← this]; exact z2
      · exact Or.inr z.2.2.2.2)
    rfl
    (fun w hw => by
      have hw' : w < sN σ 2 0 + 1 := hw
      by_cases q : w = sN σ 2 0
      · refine Or.inr ?_
        rw [muN_new (a := hN h) (by decide) (by simp [q]), muN_new (a := hN h + 1) (by decide) (by simp [q])]
        exact (rd 176 (Or.inr (Or.inl (by decide)))).2.trans a176
      · exact Or.inl (by omega))
    (fun a' b ok => by
      rcases qE_ok ok with ⟨rfl, hb⟩ | ⟨rfl, hb⟩ | ⟨rfl, hb⟩
      · refine ⟨hb, fun q => ?_⟩
        have q1 : b ≠ 2 := fun z => q ⟨rfl, z⟩
        refine ⟨?_, fun i hi => ?_⟩
        · show sN (wN σ 2 0 (sN σ 2 0 + 1)) b 0 = sN σ b 0
          rw [sN_wN, if_neg (fun y => q1 y.1)]
        · have : b = 0 ∨ b = 1 ∨ b = 3 := by omega
          rcases this with rfl | rfl | rfl
          · rw [qE_L, qE_L]
            exact muN_old (by decide) (by simp)
          · rw [qE_H, qE_H]
            exact muN_old (by decide) (by simp)
          · rfl
      · refine ⟨hb, fun _ => ⟨rfl, fun i hi => ?_⟩⟩
        rw [qE_P, qE_P]
        exact muN_old (by decide) (by simp)
      · refine ⟨hb, fun _ => ⟨rfl, fun i hi => ?_⟩⟩
        rw [qE_J, qE_J]
        exact muN_old (by decide) (by simp))
    (by
      show sN (wN σ 2 0 (sN σ 2 0 + 1)) 2 0 = sN σ 2 0 + 1
      rw [sN_wN, if_pos ⟨rfl, rfl⟩])
    (fun i hi => by
      rw [qE_W, qE_W]
      by_cases q : i = sN σ 2 0
      · rw [if_pos (show i = qN (sN σ) 0 2 from q)]
        exact muN_new (by decide) (by simp [q])
      · rw [if_neg (show ¬ i = qN (sN σ) 0 2 from q)]
        exact muN_old (by decide) (by simp [q]))
    (fun f i j ok => by
      by_cases q : mT f = 4 ∧ i = sN σ 2 0 ∧ j = 0
      · obtain ⟨q1, rfl, rfl⟩ := q
        refine Or.inr ?_
        rw [q1, muN_new (a := hN h) (by decide) (by simp)]
        rw [mT_4 q1]
        exact ((rd 177 (Or.inr (Or.inl (by decide)))).1.trans i177).trans (nw.1 _ (Nat.le_refl _)).1.symm
      · refine Or.inl ⟨?_, rfl⟩
        rw [if_neg q, if_neg (fun z => by have := (mF_ok ok).2.2.2; omega)])
    (fun k i x h6 ok h9 ha => by
      by_cases q : k = 8 ∧ i = sN σ 2 0
      · obtain ⟨rfl, rfl⟩ := q
        refine Or.inr ?_
        rw [muN_new (a := hN h + 1) (by decide) (by simp)]
        rw [(rd2 x).1, t15 x ha]
        exact ((nw.1 _ (Nat.le_refl _)).2 x).symm
      · refine Or.inl ⟨?_, rfl⟩
        rw [if_neg (fun z => by omega), if_neg (fun z => q ⟨z.1, z.2.1⟩)])
    (fun i => rfl)
    (fun x hx => Or.inl ⟨hx, rfl, rfl⟩)
  exact k h' _ r.1 r.2
theorem M.addWelder (m : M g B mu σ h) (c : zCnt σ) (nw : zNew σ) {K : Int32 → AH → Prop} (p : mPost g B σ h 2 9 9 (spAddWelder σ) K) : f_X12_addWelder g (some (B + 119)) h K := by
  have c1 := c.2.2.1
  unfold spAddWelder at p
  simp only [f_X12_addWelder, f_X12_addWelder_B19, m.cO, m.a194, m.cs2, m.s2 c]
  by_cases q3 : sN σ 2 0 < 5
  · rw [if_pos q3] at p
    rw [if_neg (show ¬ nI (sN σ 2 0) = 5 from fun z => by have z' : nI (sN σ 2 0) = nI 5 := z; rw [nI_eq (by omega) (by decide)] at z'; omega)]
    refine m.fail0 fun h1 fr m1 => ?_
    rw [if_pos rfl, m1.a194]
    refine m1.newWelder c nw q3 fun h2 mu2 fr2 m2 => ?_
    have c2 : zCnt (wN σ 2 0 (sN σ 2 0 + 1)) := ⟨c.1, c.2.1, q3, c.2.2.2.1, c.2.2.2.2⟩
    simp only [m2.a194, m2.cs2, m2.s2 c2]
    rw [show sN (wN σ 2 0 (sN σ 2 0 + 1)) 2 0 = sN σ 2 0 + 1 from rfl, nI_pred]
    exact p.ok (fr.k fr2) m2
  · rw [if_neg q3] at p
    rw [if_pos (show nI (sN σ 2 0) = 5 by rw [show sN σ 2 0 = 5 by omega]; rfl)]
    exact p.exR m rfl (by decide) (by decide)
def wCirc (σ : zS) (x : Int32) : zS := wN (wV σ 17 (sN σ 3 0) 0 x) 3 0 (sN σ 3 0 + 1)
theorem M.newCirc (m : M g B mu σ h) (c : zCnt σ) {k0 : Nat} (hk0 : k0 < 16) (hn : sN σ 3 0 < 6) {K : Int32 → AH → Prop} (k : ∀ h' mu', frK B h h' → M g B mu' (wCirc σ (nI k0)) h' → K 1 h') : f_J6_valueOf_2dffe g (nI k0) h (fun v4 h5 => cast h5 (some (mu 5 0 3)) 14 (f_Jx4a65c_add_9ea2d g (some (mu 5 0 3)) v4 h5 K)) := by
  obtain ⟨g1, g2, g3, g4⟩ := m.1.2.2.2.2.2.2.2.2.2.1
  obtain ⟨e, e1, e2, e3, e4⟩ := g4 k0 hk0
  have hB := m.hB
  unfold f_J6_valueOf_2dffe
  have r1 : isR h (g 2) 11 := Or.inr g1
  rw [if_neg (show ¬ nI k0 < -128 from fun z => nI_pos (n := k0) (by omega) (Int32.lt_trans z (by decide))), if_neg (show ¬ (127 : Int32) < nI k0 from nI_nlt (a := 127) (b := k0) (by omega) (by decide))]
  rw [show nI k0 + 128 = nI (128 + k0) by rw [Nat.add_comm]; exact nI_add k0 128]
  rw [lA_eq r1 g2 (by omega) (by decide) e1]
  have ok0 : lsOk (sN σ) 0 3 := show 3 < 4 by decide
  dsimp only
  rw [m.cs3]
  refine m.addTo c (a := 0) (b := 3) ok0 (show sN σ 3 0 < 10 by omega) (by omega) (by rw [e2]; exact Or.inr (Or.inr (Or.inr (Or.inr (Or.inr rfl))))) fun h' arr' A => ?_
  have hA' := A
  obtain ⟨Q, -⟩ := hA'
  have rd := (Q.1 e (by omega)).2.2.2.1
  have r := m.app (σ' := wCirc σ (nI k0)) frO.refl ok0 A (fun k i j => none) (fun i => if i = sN σ 3 0 then some e else none) (fun a => (0, 0, 0)) rfl
    (fun k i j x e => by cases e)
    (fun k i j ok => rfl)
    (fun k i j ok _ => by
      rcases vOk_app (n := sN σ) ok rfl (fun _ => rfl) with ⟨rfl, z1, rfl⟩ | ⟨z0, z1, rfl⟩ | ⟨rfl, rfl, z1, z2⟩ | z
      · exact Or.inr ⟨z1, rfl⟩
      · rcases z0 with rfl | rfl
        · exact Or.inr ⟨z1, rfl⟩
        · exact Or.inr ⟨z1, rfl⟩
      · by_cases q : j = 3
        · exact Or.inl ⟨rfl, rfl, q⟩
        · refine Or.inr ⟨z1, ?_⟩
          have : sN (wCirc σ (nI k0)) j 0 = sN σ j 0 := by
            unfold wCirc
            rw [sN_wN, if_neg (fun y => q y.1)]; rfl
          show 0 < sN σ j 0
          rw [← this]; exact z2
      · exact Or.inr z.2.2.2.2)
    rfl
    (fun w hw => Or.inl hw)
    (fun a' b ok => by
      rcases qE_ok ok with ⟨rfl, hb⟩ | ⟨rfl, hb⟩ | ⟨rfl, hb⟩
      · refine ⟨hb, fun q => ?_⟩
        have q1 : b ≠ 3 := fun z => q ⟨rfl, z⟩
        refine ⟨?_, fun i hi => ?_⟩
        · show sN (wCirc σ (nI k0)) b 0 = sN σ b 0
          unfold wCirc
          rw [sN_wN, if_neg (fun y => q1 y.1)]; rfl
        · have : b = 0 ∨ b = 1 ∨ b = 2 := by omega
          rcases this with rfl | rfl | rfl
          · rw [qE_L, qE_L]
            exact muN_old (by decide) (by simp)
          · rw [qE_H, qE_H]
            exact muN_old (by decide) (by simp)
          · rw [qE_W, qE_W]
            exact muN_old (by decide) (by simp)
      · refine ⟨hb, fun _ => ⟨rfl, fun i hi => ?_⟩⟩
        rw [qE_P, qE_P]
        exact muN_old (by decide) (by simp)
      · refine ⟨hb, fun _ => ⟨rfl, fun i hi => ?_⟩⟩
        rw [qE_J, qE_J]
        exact muN_old (by decide) (by simp))
    (by
      show sN (wCirc σ (nI k0)) 3 0 = sN σ 3 0 + 1
      unfold wCirc
      rw [sN_wN, if_pos ⟨rfl, rfl⟩])
    (fun i hi => by
      rw [qE_C, qE_C]
      by_cases q : i = sN σ 3 0
      · rw [if_pos (show i = qN (sN σ) 0 3 from q)]
        simp [muN, q]
      · rw [if_neg (show ¬ i = qN (sN σ) 0 3 from q)]
        simp [muN, q])
    (fun f i j ok => Or.inl ⟨rfl, by unfold wCirc; rw [mV_wN, mV_ne (vOk_ne ok rfl)]⟩)
    (fun k i x h6 ok h9 ha => Or.inl ⟨rfl, by unfold wCirc; rw [mW_wN, mW_wV (by decide) (by decide)]⟩)
    (fun i => by simp [wCirc, sV_wN, sV_wV])
    (fun x hx => by
      have hx' : x < sN σ 3 0 + 1 := hx
      by_cases q : x = sN σ 3 0
      · refine Or.inr ?_
        have em : muN mu (fun k i j => if qN (sN σ) 0 3 = 0 ∧ k = 9 ∧ i = 0 ∧ j = 3 then some arr' else none) (fun i => if i = sN σ 3 0 then some e else none) 10 x 0 = e := by
          simp [muN, q]
        rw [em]
        refine ⟨(Q.1 e (by omega)).1.trans e2, (rd 336 (Or.inr (Or.inr (by decide)))).1.trans (e3.trans ?_), e4⟩
        rw [q]
        simp [wCirc, sV_wN, sV_wV]
      · refine Or.inl ⟨by omega, by rw [if_neg q], ?_⟩
        simp [wCirc, sV_wN, sV_wV, q])
  exact k h' _ r.1 r.2
theorem bits_eq : ∀ k, k < 16 → ∀ n, n < 5 → decide ((nI k >>> (nI n &&& 31)) = 0) = decide (nI k < 1 <<< (nI n &&& 31)) := by decide +kernel
theorem M.addCircuit (m : M g B mu σ h) (c : zCnt σ) {x : Int32} {K : Int32 → AH → Prop} (p : mPost g B σ h 1 2 9 (spAddCircuit σ x) K) : f_X12_addCircuit g (some (B + 119)) x h K := by
  have c1 := c.2.2.2.1
  have c0 := c.1
  unfold spAddCircuit at p
  simp only [f_X12_addCircuit, f_X12_addCircuit_B26, f_X12_addCircuit_B49, m.cO, f_in, m.a192, m.cs0, m.s0 c, m.a195, m.cs3, m.s3 c]
  by_cases q1 : x < 1
  · rw [if_pos q1] at p
    simp only [if_pos q1, if_true]
    exact p.exR m rfl (by decide) (by decide)
  rw [if_neg q1] at p
  by_cases q2 : 15 < x
  · rw [if_pos q2] at p
    simp only [if_neg q1, if_pos q2, if_true]
    exact p.exR m rfl (by decide) (by decide)
  rw [if_neg q2] at p
  simp only [if_neg q1, if_neg q2, e10, if_false]
  have q0 : ¬ x < 0 := fun z => q1 (Int32.lt_trans z (by decide))
  obtain ⟨k0, hk0, rfl⟩ := nI_of q0
  have hk16 : k0 < 16 := by
    refine Classical.byContradiction fun z => q2 ?_
    exact nI_lt (a := 15) (b := k0) (by omega) hk0
  have be := bits_eq k0 hk16 (sN σ 0 0) (by omega)
  by_cases q4 : (nI k0 >>> (nI (sN σ 0 0) &&& 31)) = 0
  · rw [if_pos q4] at p
    have q5 : nI k0 < 1 <<< (nI (sN σ 0 0) &&& 31) := by simpa [q4] using be
    rw [if_pos q5]
    by_cases q3 : sN σ 3 0 < 6
    · rw [if_pos q3] at p
      rw [if_neg (show ¬ nI (sN σ 3 0) = 6 from fun z => by have z' : nI (sN σ 3 0) = nI 6 := z; rw [nI_eq (by omega) (by decide)] at z'; omega)]
      refine m.fail0 fun h1 fr m1 => ?_
      rw [if_pos rfl, m1.a195]
      refine m1.newCirc c hk16 q3 fun h2 mu2 fr2 m2 => ?_
      have c2 : zCnt (wCirc σ (nI k0)) := ⟨c.1, c.2.1, c.2.2.1, q3, c.2.2.2.2⟩
      simp only [m2.a195, m2.cs3, m2.s3 c2]
      rw [show sN (wCirc σ (nI k0)) 3 0 = sN σ 3 0 + 1 from rfl, nI_pred]
      exact p.ok (fr.k fr2) m2
    · rw [if_neg q3] at p
      rw [if_pos (show nI (sN σ 3 0) = 6 by rw [show sN σ 3 0 = 6 by omega]; rfl)]
      exact p.exR m rfl (by decide) (by decide)
  · rw [if_neg q4] at p
    have q5 : ¬ nI k0 < 1 <<< (nI (sN σ 0 0) &&& 31) := by simpa [q4] using be
    rw [if_neg q5]
    exact p.exR m rfl (by decide) (by decide)
end MWD
