/-! heats, welders, circuits are added to the model -/
theorem M.arr0 {g : Nat → Nat} {B : Nat} {mu : zM} {σ : zS} {h : AH} (m : M g B mu σ h) {a b : Nat} (ok : lsOk (sN σ) a b) : (qN (sN σ) a b = 0 → (if qN (sN σ) a b = 0 then g 0 else mu 9 a b) = g 0 ∧ hK h (g 0) = 55 ∧ hL h (g 0) = 0) ∧ (if qN (sN σ) a b = 0 then g 0 else mu 9 a b) < hN h := by
  obtain ⟨z1, z2, z3⟩ := m.1.2.2.2.2.2.2.2.1
  have hB := m.hB
  refine ⟨fun q => ⟨by rw [if_pos q], z1, z2⟩, ?_⟩
  by_cases q : qN (sN σ) a b = 0
  · rw [if_pos q]; omega
  · rw [if_neg q]; exact (m.1.1 9 a b ⟨ok, by omega⟩).2.1
theorem M.addTo {g : Nat → Nat} {B : Nat} {mu : zM} {σ : zS} {h : AH} (m : M g B mu σ h) (c : zCnt σ) {a b e : Nat} (ok : lsOk (sN σ) a b) (hn : qN (sN σ) a b < 10) (hee : e < hN h) (he : oKd (hK h e)) {K : Int32 → AH → Prop} (k : ∀ h' arr', Added (mu 5 a b) (if qN (sN σ) a b = 0 then g 0 else mu 9 a b) (qN (sN σ) a b) e (qE mu a b) h h' arr' → K 1 h') : f_Jx4a65c_add_9ea2d g (some (mu 5 a b)) (some e) h K :=
  (m.al c ok).add (m.arr0 ok).1 hn (m.1.1 5 a b ok).2.1 (m.arr0 ok).2 hee he k
theorem mV_nei {σ : zS} {f i j f' a b : Nat} {v : Int32} (hf : ¬ (f' = f ∧ a = i ∧ b = j)) : mV (wV σ f i j v) f' a b = mV σ f' a b := by
  unfold mV
  rw [sR_wV, sV_wV, if_neg hf]
theorem mV_wN {σ : zS} {k i v f a b : Nat} : mV (wN σ k i v) f a b = mV σ f a b := rfl
theorem mW_wN {σ : zS} {k i v f a b : Nat} : mW (wN σ k i v) f a b = mW σ f a b := rfl
theorem qE_L {mu : zM} {i : Nat} : qE mu 0 0 i = mu 0 i 0 := rfl
theorem qE_H {mu : zM} {i : Nat} : qE mu 0 1 i = mu 3 i 0 := rfl
theorem qE_W {mu : zM} {i : Nat} : qE mu 0 2 i = mu 4 i 0 := rfl
theorem qE_C {mu : zM} {i : Nat} : qE mu 0 3 i = mu 10 i 0 := rfl
theorem qE_P {mu : zM} {l i : Nat} : qE mu 1 l i = mu 1 l i := rfl
theorem qE_J {mu : zM} {l i : Nat} : qE mu 2 l i = mu 2 l i := rfl
theorem mT_3 {f : Nat} (h : mT f = 3) : f = 11 ∨ f = 13 ∨ f = 14 := by
  unfold mT at h
  split at h <;> simp_all
theorem mT_4 {f : Nat} (h : mT f = 4) : f = 16 := by
  unfold mT at h
  split at h <;> simp_all
theorem mT_0 {f : Nat} (h : mT f = 0) : f = 1 ∨ f = 3 ∨ f = 4 ∨ f = 5 := by
  unfold mT at h
  split at h <;> simp_all
theorem mT_1 {f : Nat} (h : mT f = 1) : f = 6 ∨ f = 7 ∨ f = 18 := by
  unfold mT at h
  split at h <;> simp_all
theorem mT_2 {f : Nat} (h : mT f = 2) : f = 8 ∨ f = 9 ∨ f = 19 := by
  unfold mT at h
  split at h <;> simp_all
theorem nI_e8 {n v : Nat} (hn : n < 2 ^ 31) (hv : v < 2 ^ 31) : (nI n = nI v) = (n = v) := propext (nI_eq hn hv)
section MH
variable {g : Nat → Nat} {B : Nat} {mu : zM} {σ : zS} {h : AH}
def wHeat (σ : zS) (a len v : Int32) : zS := wN (wV (wV (wV (wV σ 11 (sN σ 1 0) 0 a) 12 (sN σ 1 0) 0 len) 13 (sN σ 1 0) 0 len) 14 (sN σ 1 0) 0 v) 1 0 (sN σ 1 0 + 1)
theorem M.newHeat (m : M g B mu σ h) (c : zCnt σ) {a len v : Int32} (hv : v = 0 ∨ v = 1) (hn : sN σ 1 0 < 8) {K : Int32 → AH → Prop} (k : ∀ h' mu', frK B h h' → M g B mu' (wHeat σ a len v) h' → K 1 h') : nnew h 7 fun o4 h5 => nn o4 (f_X7_init g o4 a len v h5 (fun h6 => cast h6 (some (mu 5 0 1)) 14 (f_Jx4a65c_add_9ea2d g (some (mu 5 0 1)) o4 h6 K))) := by
  show nn (some (hN h)) (f_X7_init g (some (hN h)) a len v (nO h 7) _)
  unfold f_X7_init
  rw [nn_eq, nn_eq]
  have k8 : hK (nO h 7) (hN h) = 8 := by show u1 (hK h) (hN h) 8 (hN h) = 8; unfold u1; rw [if_pos rfl]
  refine ⟨_, rfl, k8, ⟨_, rfl, k8, ?_⟩⟩
  dsimp only
  rw [okZ_f hv]
  refine ⟨_, rfl, k8, ?_⟩
  dsimp only
  have le := Nat.le_refl (hN h)
  have fr : frO h (sI (sI (sI (nO h 7) 112 (hN h) a) 113 (hN h) len) 114 (hN h) v) := ((frO.nO.sI le).sI le).sI le
  have m2 := m.old fr
  have ok0 : lsOk (sN σ) 0 1 := show 1 < 4 by decide
  rw [m2.cs1]
  refine m2.addTo c (a := 0) (b := 1) ok0 (show sN σ 1 0 < 10 by omega) (Nat.lt_succ_self _) (Or.inl k8) fun h' arr' A => ?_
  have hA := A
  obtain ⟨Q, -⟩ := hA
  have lt2 : hN h < hN (sI (sI (sI (nO h 7) 112 (hN h) a) 113 (hN h) len) 114 (hN h) v) := Nat.lt_succ_self _
  have rd : ∀ f, f < 208 → hI h' f (hN h) = hI (sI (sI (sI (nO h 7) 112 (hN h) a) 113 (hN h) len) 114 (hN h) v) f (hN h) := fun f hf => ((Q.1 _ lt2).2.2.2.1 f (Or.inr (Or.inl hf))).1
  have r := m.app (σ' := wHeat σ a len v) fr ok0 A (fun k i j => if k = 3 ∧ i = sN σ 1 0 ∧ j = 0 then some (hN h) else none) (fun _ => none) (fun _ => (3, sN σ 1 0, 0)) rfl
    (fun k i j x e => by
      by_cases q : k = 3 ∧ i = sN σ 1 0 ∧ j = 0
      · rw [if_pos q] at e
        cases e
        obtain ⟨rfl, rfl, rfl⟩ := q
        exact ⟨le, lt2, k8, fun z => absurd z (by decide), rfl, by decide, by decide⟩
      · rw [if_neg q] at e; cases e)
    (fun k i j ok => by
      rw [if_neg]
      rintro ⟨rfl, rfl, rfl⟩
      exact Nat.lt_irrefl _ ok.1)
    (fun k i j ok e => by
      rcases vOk_app (n := sN σ) ok rfl (fun _ => rfl) with ⟨rfl, z1, rfl⟩ | ⟨z0, z1, rfl⟩ | ⟨rfl, rfl, z1, z2⟩ | z
      · have z1' : i < sN σ 1 0 + 1 := z1
        by_cases q : i = sN σ 1 0
        · rw [if_pos ⟨rfl, q, rfl⟩] at e; cases e
        · exact Or.inr ⟨by omega, rfl⟩
      · rcases z0 with rfl | rfl
        · exact Or.inr ⟨z1, rfl⟩
        · exact Or.inr ⟨z1, rfl⟩
      · by_cases q : j = 1
        · exact Or.inl ⟨rfl, rfl, q⟩
        · refine Or.inr ⟨z1, ?_⟩
          have : sN (wHeat σ a len v) j 0 = sN σ j 0 := by
            unfold wHeat
            rw [sN_wN, if_neg (fun y => q y.1)]; rfl
          show 0 < sN σ j 0
          rw [← this]; exact z2
      · exact Or.inr z.2.2.2.2)
    rfl (fun w hw => Or.inl hw)
    (fun a' b ok => by
      rcases qE_ok ok with ⟨rfl, hb⟩ | ⟨rfl, hb⟩ | ⟨rfl, hb⟩
      · refine ⟨hb, fun q => ?_⟩
        have q1 : b ≠ 1 := fun z => q ⟨rfl, z⟩
        refine ⟨?_, fun i hi => ?_⟩
        · show sN (wHeat σ a len v) b 0 = sN σ b 0
          unfold wHeat
          rw [sN_wN, if_neg (fun y => q1 y.1)]; rfl
        · have : b = 0 ∨ b = 2 ∨ b = 3 := by omega
          rcases this with rfl | rfl | rfl
          · rw [qE_L, qE_L]
            exact muN_old (by decide) (by simp)
          · rw [qE_W, qE_W]
            exact muN_old (by decide) (by simp)
          · rfl
      · refine ⟨hb, fun _ => ⟨rfl, fun i hi => ?_⟩⟩
        rw [qE_P, qE_P]
        exact muN_old (by decide) (by simp)
      · refine ⟨hb, fun _ => ⟨rfl, fun i hi => ?_⟩⟩
        rw [qE_J, qE_J]
        exact muN_old (by decide) (by simp))
    (by
      show sN (wHeat σ a len v) 1 0 = sN σ 1 0 + 1
      unfold wHeat
      rw [sN_wN, if_pos ⟨rfl, rfl⟩])
    (fun i hi => by
      rw [qE_H, qE_H]
      by_cases q : i = sN σ 1 0
      · rw [if_pos (show i = qN (sN σ) 0 1 from q)]
        exact muN_new (by decide) (by simp [q])
      · rw [if_neg (show ¬ i = qN (sN σ) 0 1 from q)]
        exact muN_old (by decide) (by simp [q]))
    (fun f i j ok => by
      by_cases q : mT f = 3 ∧ i = sN σ 1 0 ∧ j = 0
      · obtain ⟨q1, rfl, rfl⟩ := q
        refine Or.inr ?_
        rw [q1, muN_new (a := hN h) (by decide) (by simp)]
        rcases mT_3 q1 with rfl | rfl | rfl
        · rw [rd _ (by decide)]
          simp [mF, sI, nO, hI, u2, mV, wHeat, sV_wN, sV_wV]
        · rw [rd _ (by decide)]
          simp [mF, sI, nO, hI, u2, mV, wHeat, sV_wN, sV_wV]
        · rw [rd _ (by decide)]
          simp [mF, sI, nO, hI, u2, mV, wHeat, sV_wN, sV_wV]
      · refine Or.inl ⟨by rw [if_neg q], ?_⟩
        have ne : ∀ {F}, mT F = 3 → ¬ (f = F ∧ i = sN σ 1 0 ∧ j = 0) := fun hF z => q ⟨by rw [z.1]; exact hF, z.2⟩
        unfold wHeat
        rw [mV_wN, mV_nei (ne rfl), mV_nei (ne rfl), mV_ne (vOk_ne ok rfl), mV_nei (ne rfl)])
    (fun k i x h6 ok h9 ha => by
      refine Or.inl ⟨by rw [if_neg (fun z => by omega)], ?_⟩
      unfold wHeat
      rw [mW_wN, mW_wV (by decide) (by decide), mW_wV (by decide) (by decide), mW_wV (by decide) (by decide), mW_wV (by decide) (by decide)])
    (fun i => by simp [wHeat, sV_wN, sV_wV])
    (fun x hx => Or.inl ⟨hx, rfl, by simp [wHeat, sV_wN, sV_wV]⟩)
  exact k h' _ r.1 r.2
theorem M.addHeat (m : M g B mu σ h) (c : zCnt σ) {a len v : Int32} (hv : v = 0 ∨ v = 1) {K : Int32 → AH → Prop} (p : mPost g B σ h 1 2 9 (spAddHeat σ a len v) K) : f_X12_addHeat g (some (B + 119)) a len v h K := by
  have c1 := c.2.1
  unfold spAddHeat at p
  simp only [f_X12_addHeat, f_X12_addHeat_B22, f_X12_addHeat_B45, m.cO, f_in, in_alloy, m.a193, m.cs1, m.s1 c]
  cases q0 : isAlloy a with
  | false =>
    rw [q0] at p
    simp only [Bool.false_eq_true, if_false] at p
    simp only [Bool.false_eq_true, if_false, if_true]
    exact p.exR m rfl (by decide) (by decide)
  | true =>
    rw [q0] at p
    simp only [if_true] at p
    simp only [if_true, e10, if_false]
    by_cases q1 : len < 100
    · rw [if_pos q1] at p
      simp only [if_pos q1, if_true]
      exact p.exR m rfl (by decide) (by decide)
    rw [if_neg q1] at p
    by_cases q2 : len ≤ 20000
    · rw [if_pos q2] at p
      simp only [if_neg q1, if_neg (Int32.not_lt.mpr q2), e10, if_false]
      by_cases q3 : sN σ 1 0 < 8
      · rw [if_pos q3] at p
        rw [if_neg (show ¬ nI (sN σ 1 0) = 8 from fun z => by have z' : nI (sN σ 1 0) = nI 8 := z; rw [nI_eq (by omega) (by decide)] at z'; omega)]
        refine m.fail0 fun h1 fr m1 => ?_
        rw [if_pos rfl, m1.a193]
        refine m1.newHeat c hv q3 fun h2 mu2 fr2 m2 => ?_
        have c2 : zCnt (wHeat σ a len v) := ⟨c.1, q3, c.2.2.1, c.2.2.2.1, c.2.2.2.2⟩
        simp only [m2.a193, m2.cs1, m2.s1 c2]
        rw [show sN (wHeat σ a len v) 1 0 = sN σ 1 0 + 1 from rfl, nI_pred]
        exact p.ok (fr.k fr2) m2
      · rw [if_neg q3] at p
        rw [if_pos (show nI (sN σ 1 0) = 8 by rw [show sN σ 1 0 = 8 by omega]; rfl)]
        exact p.exR m rfl (by decide) (by decide)
    · rw [if_neg q2] at p
      simp only [if_neg q1, if_pos (Int32.not_le.mp q2), if_true]
      exact p.exR m rfl (by decide) (by decide)
end MH
