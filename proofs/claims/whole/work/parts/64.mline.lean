/-! a line is added to the model -/
theorem pA_to {h : AH} {a ci f : Nat} {v : Option Nat} {kk : AH → Prop} (hk : hK h a = ci + 1) (k : ∀ r, r = sA h f a v → kk r) : pA h (some a) ci f v kk := ⟨a, rfl, hk, k _ rfl⟩
theorem pI_to {h : AH} {a ci f : Nat} {v : Int32} {kk : AH → Prop} (hk : hK h a = ci + 1) (k : ∀ r, r = sI h f a v → kk r) : pI h (some a) ci f v kk := ⟨a, rfl, hk, k _ rfl⟩
theorem stI_to {h : AH} {a t i n : Nat} {v : Int32} {kk : AH → Prop} (hk : hK h a = 30 + t) (hl : hL h a = n) (hi : i < n) (hn : n < 2 ^ 31) (k : ∀ r, r = tI h a i v → kk r) : stI h (some a) t (nI i) v kk := by
  have e9 : (nI i).toNatClampNeg = i := nI_clamp (Nat.lt_trans hi hn)
  refine ⟨a, rfl, hk, by rw [hl]; exact vp_in_nI hi hn, ?_⟩
  rw [e9]
  exact k _ rfl
theorem nnew_to {h : AH} {ci : Nat} {kk : Option Nat → AH → Prop} (k : ∀ r, r = nO h ci → kk (some (hN h)) r) : nnew h ci kk := k _ rfl
theorem nrow_to {h : AH} {t n : Nat} {kk : Option Nat → AH → Prop} (k : ∀ r, r = nR h t n → kk (some (hN h)) r) : nrow h t n kk := k _ rfl
theorem AL_to {g : Nat → Nat} {h : AH} {o : Nat} {K : AH → Prop} (hk : hK h o = 14) (k : ∀ r, r = sA (sI h 208 o 0) 209 o (some (g 0)) → K r) : f_Jx4a65c_init_da8c8 g (some o) h K := by
  unfold f_Jx4a65c_init_da8c8 f_Jxc12de_init_da8c8 f_Jxa1e45_init_da8c8
  rw [nn_eq, nn_eq, nn_eq]
  refine pI_to hk fun r1 a1 => ?_
  refine pA_to (by rw [a1, x_hK_sI]; exact hk) fun r2 a2 => ?_
  rw [a1] at a2
  exact k r2 a2
theorem f_X9_facts {g : Nat → Nat} {h : AH} {num : Int32} {K : AH → Prop} (k : ∀ h2, frO h h2 → (hK h2 (hN h) = 10 ∧ hK h2 (hN h + 1) = 14 ∧ hK h2 (hN h + 2) = 14 ∧ hK h2 (hN h + 3) = 30 ∧ hK h2 (hN h + 4) = 31) → (hL h2 (hN h + 3) = 2 ∧ hL h2 (hN h + 4) = 2 ∧ hN h2 = hN h + 5) → (hA h2 145 (hN h) = some (hN h + 1) ∧ hA h2 146 (hN h) = some (hN h + 2) ∧ hA h2 147 (hN h) = some (hN h + 3) ∧ hA h2 148 (hN h) = some (hN h + 4)) → (hI h2 144 (hN h) = num ∧ hI h2 149 (hN h) = 0 ∧ hI h2 150 (hN h) = 0 ∧ hI h2 151 (hN h) = 0) → (hI h2 210 (hN h + 1) = 0 ∧ hA h2 209 (hN h + 1) = some (g 0) ∧ hI h2 210 (hN h + 2) = 0 ∧ hA h2 209 (hN h + 2) = some (g 0)) → (∀ a, a < 2 → aI h2 (hN h + 3) a = -1 ∧ aI h2 (hN h + 4) a = 0) → K h2) : f_X9_init g (some (hN h)) num (nO h 9) K := by
  have le := Nat.le_refl (hN h)
  unfold f_X9_init
  rw [nn_eq]
  generalize hr0 : nO h 9 = r0
  have a0 : r0 = nO h 9 := hr0.symm
  have n0 : hN r0 = hN h + 1 := by rw [a0, x_hN_nO]
  have k0 : hK r0 (hN h) = 10 := by rw [a0, x_hK_nO, if_pos rfl]
  have f0 : frO h r0 := by rw [a0]; exact frO.nO
  refine nnew_to fun r1 a1 => ?_
  rw [n0, nn_eq]
  have n1 : hN r1 = hN h + 2 := by rw [a1, x_hN_nO, n0]
  have k1 : hK r1 (hN h) = 10 := by rw [a1, x_hK_nO, n0, if_neg (by omega)]; exact k0
  have l1 : hK r1 (hN h + 1) = 14 := by rw [a1, x_hK_nO, n0, if_pos rfl]
  have f1 : frO h r1 := by rw [a1]; exact f0.trans frO.nO
  refine AL_to l1 fun r2 a2 => ?_
  have K2 : hK r2 = hK r1 := by rw [a2, x_hK_sA, x_hK_sI]
  have n2 : hN r2 = hN h + 2 := by rw [a2, x_hN_sA, x_hN_sI]; exact n1
  have f2 : frO h r2 := by rw [a2]; exact (f1.sI (by omega)).sA (by omega)
  refine pA_to (by rw [K2]; exact k1) fun r3 a3 => ?_
  have K3 : hK r3 = hK r1 := by rw [a3, x_hK_sA]; exact K2
  have n3 : hN r3 = hN h + 2 := by rw [a3, x_hN_sA]; exact n2
  have f3 : frO h r3 := by rw [a3]; exact f2.sA le
  refine nnew_to fun r4 a4 => ?_
  rw [n3, nn_eq]
  have n4 : hN r4 = hN h + 3 := by rw [a4, x_hN_nO, n3]
  have k4 : ∀ b, b < hN h + 2 → hK r4 b = hK r1 b := fun b hb => by rw [a4, x_hK_nO, n3, if_neg (by omega), K3]
  have l4 : hK r4 (hN h + 2) = 14 := by rw [a4, x_hK_nO, n3, if_pos rfl]
  have f4 : frO h r4 := by rw [a4]; exact f3.trans frO.nO
  refine AL_to l4 fun r5 a5 => ?_
  have K5 : hK r5 = hK r4 := by rw [a5, x_hK_sA, x_hK_sI]
  have n5 : hN r5 = hN h + 3 := by rw [a5, x_hN_sA, x_hN_sI]; exact n4
  have f5 : frO h r5 := by rw [a5]; exact (f4.sI (by omega)).sA (by omega)
  refine pA_to (by rw [K5, k4 _ (by omega)]; exact k1) fun r6 a6 => ?_
  have K6 : hK r6 = hK r4 := by rw [a6, x_hK_sA]; exact K5
  have n6 : hN r6 = hN h + 3 := by rw [a6, x_hN_sA]; exact n5
  have f6 : frO h r6 := by rw [a6]; exact f5.sA le
  refine nrow_to fun r7 a7 => ?_
  rw [n6]
  have n7 : hN r7 = hN h + 4 := by rw [a7, x_hN_nR, n6]
  have k7 : ∀ b, b < hN h + 3 → hK r7 b = hK r4 b := fun b hb => by rw [a7, x_hK_nR, n6, if_neg (by omega), K6]
  have l7 : hK r7 (hN h + 3) = 30 := by rw [a7, x_hK_nR, n6, if_pos rfl]
  have m7 : hL r7 (hN h + 3) = 2 := by rw [a7, x_hL_nR, n6, if_pos rfl]
  have f7 : frO h r7 := by rw [a7]; exact f6.trans frO.nR
  refine stI_to (i := 0) l7 m7 (by decide) (by decide) fun r8 a8 => ?_
  have K8 : hK r8 = hK r7 := by rw [a8, x_hK_tI]
  have L8 : hL r8 = hL r7 := by rw [a8, x_hL_tI]
  refine stI_to (i := 1) (n := 2) (by rw [K8]; exact l7) (by rw [L8]; exact m7) (by decide) (by decide) fun r9 a9 => ?_
  have K9 : hK r9 = hK r7 := by rw [a9, x_hK_tI]; exact K8
  have n9 : hN r9 = hN h + 4 := by rw [a9, x_hN_tI, a8, x_hN_tI]; exact n7
  have f9 : frO h r9 := by rw [a9, a8]; exact (f7.tI (by omega)).tI (by omega)
  refine pA_to (by rw [K9, k7 _ (by omega), k4 _ (by omega)]; exact k1) fun r10 a10 => ?_
  have K10 : hK r10 = hK r7 := by rw [a10, x_hK_sA]; exact K9
  have n10 : hN r10 = hN h + 4 := by rw [a10, x_hN_sA]; exact n9
  have f10 : frO h r10 := by rw [a10]; exact f9.sA le
  refine nrow_to fun r11 a11 => ?_
  rw [n10]
  have n11 : hN r11 = hN h + 5 := by rw [a11, x_hN_nR, n10]
  have k11 : ∀ b, b < hN h + 4 → hK r11 b = hK r7 b := fun b hb => by rw [a11, x_hK_nR, n10, if_neg (by omega), K10]
  have l11 : hK r11 (hN h + 4) = 31 := by rw [a11, x_hK_nR, n10, if_pos rfl]
  have f11 : frO h r11 := by rw [a11]; exact f10.trans frO.nR
  have ko : hK r11 (hN h) = 10 := by rw [k11 _ (by omega), k7 _ (by omega), k4 _ (by omega)]; exact k1
  refine pA_to ko fun r12 a12 => ?_
  have K12 : hK r12 = hK r11 := by rw [a12, x_hK_sA]
  refine pI_to (by rw [K12]; exact ko) fun r13 a13 => ?_
  have K13 : hK r13 = hK r11 := by rw [a13, x_hK_sI]; exact K12
  have f13 : frO h r13 := by rw [a13, a12]; exact (f11.sA le).sI le
  have A13 : hA r13 = hA r12 := by rw [a13, x_hA_sI]
  refine k r13 f13 ⟨?_, ?_, ?_, ?_, ?_⟩ ⟨?_, ?_, ?_⟩ ⟨?_, ?_, ?_, ?_⟩ ⟨?_, ?_, ?_, ?_⟩ ⟨?_, ?_, ?_, ?_⟩ ?_
  · rw [K13]; exact ko
  · rw [K13, k11 _ (by omega), k7 _ (by omega), k4 _ (by omega)]; exact l1
  · rw [K13, k11 _ (by omega), k7 _ (by omega)]; exact l4
  · rw [K13, k11 _ (by omega)]; exact l7
  · rw [K13]; exact l11
  · rw [a13, x_hL_sI, a12, x_hL_sA, a11, x_hL_nR, n10, if_neg (by omega), a10, x_hL_sA, a9, x_hL_tI, L8]; exact m7
  · rw [a13, x_hL_sI, a12, x_hL_sA, a11, x_hL_nR, n10, if_pos rfl]
  · rw [a13, x_hN_sI, a12, x_hN_sA]; exact n11
  · rw [A13, a12, hA_sA, if_neg (by omega), a11, x_hA_nR, a10, hA_sA, if_neg (by omega), a9, x_hA_tI, a8, x_hA_tI, a7, x_hA_nR, a6, hA_sA, if_neg (by omega), a5, hA_sA, if_neg (by omega), x_hA_sI, a4, x_hA_nO, n3, if_neg (by omega), a3, hA_sA, if_pos ⟨rfl, rfl⟩]
  · rw [A13, a12, hA_sA, if_neg (by omega), a11, x_hA_nR, a10, hA_sA, if_neg (by omega), a9, x_hA_tI, a8, x_hA_tI, a7, x_hA_nR, a6, hA_sA, if_pos ⟨rfl, rfl⟩]
  · rw [A13, a12, hA_sA, if_neg (by omega), a11, x_hA_nR, a10, hA_sA, if_pos ⟨rfl, rfl⟩]
  · rw [A13, a12, hA_sA, if_pos ⟨rfl, rfl⟩]
  · rw [a13, hI_sI, if_pos ⟨rfl, rfl⟩]
  · rw [a13, hI_sI, if_neg (by omega), a12, x_hI_sA, a11, x_hI_nR, a10, x_hI_sA, a9, x_hI_tI, a8, x_hI_tI, a7, x_hI_nR, a6, x_hI_sA, a5, x_hI_sA, hI_sI, if_neg (by omega), a4, x_hI_nO, n3, if_neg (by omega), a3, x_hI_sA, a2, x_hI_sA, hI_sI, if_neg (by omega), a1, x_hI_nO, n0, if_neg (by omega), a0, x_hI_nO, if_pos rfl]
  · rw [a13, hI_sI, if_neg (by omega), a12, x_hI_sA, a11, x_hI_nR, a10, x_hI_sA, a9, x_hI_tI, a8, x_hI_tI, a7, x_hI_nR, a6, x_hI_sA, a5, x_hI_sA, hI_sI, if_neg (by omega), a4, x_hI_nO, n3, if_neg (by omega), a3, x_hI_sA, a2, x_hI_sA, hI_sI, if_neg (by omega), a1, x_hI_nO, n0, if_neg (by omega), a0, x_hI_nO, if_pos rfl]
  · rw [a13, hI_sI, if_neg (by omega), a12, x_hI_sA, a11, x_hI_nR, a10, x_hI_sA, a9, x_hI_tI, a8, x_hI_tI, a7, x_hI_nR, a6, x_hI_sA, a5, x_hI_sA, hI_sI, if_neg (by omega), a4, x_hI_nO, n3, if_neg (by omega), a3, x_hI_sA, a2, x_hI_sA, hI_sI, if_neg (by omega), a1, x_hI_nO, n0, if_neg (by omega), a0, x_hI_nO, if_pos rfl]
  · rw [a13, hI_sI, if_neg (by omega), a12, x_hI_sA, a11, x_hI_nR, a10, x_hI_sA, a9, x_hI_tI, a8, x_hI_tI, a7, x_hI_nR, a6, x_hI_sA, a5, x_hI_sA, hI_sI, if_neg (by omega), a4, x_hI_nO, n3, if_neg (by omega), a3, x_hI_sA, a2, x_hI_sA, hI_sI, if_neg (by omega), a1, x_hI_nO, n0, if_pos rfl]
  · rw [A13, a12, hA_sA, if_neg (by omega), a11, x_hA_nR, a10, hA_sA, if_neg (by omega), a9, x_hA_tI, a8, x_hA_tI, a7, x_hA_nR, a6, hA_sA, if_neg (by omega), a5, hA_sA, if_neg (by omega), x_hA_sI, a4, x_hA_nO, n3, if_neg (by omega), a3, hA_sA, if_neg (by omega), a2, hA_sA, if_pos ⟨rfl, rfl⟩]
  · rw [a13, hI_sI, if_neg (by omega), a12, x_hI_sA, a11, x_hI_nR, a10, x_hI_sA, a9, x_hI_tI, a8, x_hI_tI, a7, x_hI_nR, a6, x_hI_sA, a5, x_hI_sA, hI_sI, if_neg (by omega), a4, x_hI_nO, n3, if_pos rfl]
  · rw [A13, a12, hA_sA, if_neg (by omega), a11, x_hA_nR, a10, hA_sA, if_neg (by omega), a9, x_hA_tI, a8, x_hA_tI, a7, x_hA_nR, a6, hA_sA, if_neg (by omega), a5, hA_sA, if_pos ⟨rfl, rfl⟩]
  · intro a ha
    have z : a = 0 ∨ a = 1 := by omega
    refine ⟨?_, ?_⟩
    · rw [a13, x_aI_sI, a12, x_aI_sA, a11, x_aI_nR, n10, if_neg (by omega), a10, x_aI_sA, a9, aI_tI, a8, aI_tI]
      rcases z with rfl | rfl
      · rw [if_neg (by omega), if_pos ⟨rfl, rfl⟩]
      · rw [if_pos ⟨rfl, rfl⟩]
    · rw [a13, x_aI_sI, a12, x_aI_sA, a11, x_aI_nR, n10, if_pos rfl]
