/-! the model's constructor -/
def LQ (g : Nat → Nat) (B b : Nat) (h : AH) : Prop := hA h (192 + b) (B + 119) = some (B + 120 + b) ∧ hK h (B + 120 + b) = 14 ∧ hI h 210 (B + 120 + b) = 0 ∧ hA h 209 (B + 120 + b) = some (g 0)
section XM
variable {g : Nat → Nat} {B : Nat} {K : AH → Prop} {h1 : AH}
theorem x12_step {h : AH} {b f : Nat} (hf : f = 192 + b) (hb4 : b < 4) (n0 : hN h = B + 120 + b) (hN1 : hN h1 = B + 119) (fr : frO h1 h) (e : aI h = aI h1 ∧ aA h = aA h1) (c : hK h (B + 119) = 13) (i0 : ∀ f, hI h f (B + 119) = 0) (q : ∀ x, x < b → LQ g B x h) {K1 : AH → Prop} (k : ∀ h', hN h' = B + 120 + (b + 1) → frO h1 h' → (aI h' = aI h1 ∧ aA h' = aA h1) → hK h' (B + 119) = 13 → (∀ f, hI h' f (B + 119) = 0) → (∀ x, x < b + 1 → LQ g B x h') → K1 h') :
    nnew h 13 fun o1 h2 => nn o1 (f_Jx4a65c_init_da8c8 g o1 h2 (fun h3 => pA h3 (some (B + 119)) 12 f o1 K1)) := by
  subst hf
  refine nnew_to fun r0 a0 => ?_
  rw [nn_eq, n0]
  refine AL_to (by rw [a0, x_hK_nO, n0, if_pos rfl]) fun r1 a1 => ?_
  have c1 : hK r1 (B + 119) = 13 := by rw [a1, x_hK_sA, x_hK_sI, a0, x_hK_nO, n0, if_neg (by omega)]; exact c
  refine pA_to c1 fun r2 a2 => ?_
  have kI : ∀ F a, a < B + 120 + b → hI r2 F a = hI h F a := fun F a ha => by
    rw [a2, x_hI_sA, a1, x_hI_sA, hI_sI, if_neg (by omega), a0, x_hI_nO, n0, if_neg (by omega)]
  refine k r2 ?_ ?_ ⟨?_, ?_⟩ ?_ (fun F => (kI F _ (by omega)).trans (i0 F)) (fun x hx => ?_)
  · rw [a2, x_hN_sA, a1, x_hN_sA, x_hN_sI, a0, x_hN_nO, n0]; omega
  · rw [a2]
    refine frO.sA ?_ (by omega)
    rw [a1]
    refine frO.sA (frO.sI ?_ (by omega)) (by omega)
    rw [a0]
    exact fr.trans frO.nO
  · rw [a2, x_aI_sA, a1, x_aI_sA, x_aI_sI, a0, x_aI_nO]; exact e.1
  · rw [a2, x_aA_sA, a1, x_aA_sA, x_aA_sI, a0, x_aA_nO]; exact e.2
  · rw [a2, x_hK_sA]; exact c1
  · by_cases z : x = b
    · subst z
      refine ⟨?_, ?_, ?_, ?_⟩
      · rw [a2, hA_sA, if_pos ⟨rfl, rfl⟩]
      · rw [a2, x_hK_sA, a1, x_hK_sA, x_hK_sI, a0, x_hK_nO, n0, if_pos rfl]
      · rw [a2, x_hI_sA, a1, x_hI_sA, hI_sI, if_neg (by omega), a0, x_hI_nO, n0, if_pos rfl]
      · rw [a2, hA_sA, if_neg (by omega), a1, hA_sA, if_pos ⟨rfl, rfl⟩]
    · obtain ⟨q1, q2, q3, q4⟩ := q x (by omega)
      refine ⟨?_, ?_, ?_, ?_⟩
      · rw [a2, hA_sA, if_neg (by omega), a1, hA_sA, if_neg (by omega), x_hA_sI, a0, x_hA_nO, n0, if_neg (by omega)]; exact q1
      · rw [a2, x_hK_sA, a1, x_hK_sA, x_hK_sI, a0, x_hK_nO, n0, if_neg (by omega)]; exact q2
      · exact (kI 210 _ (by omega)).trans q3
      · rw [a2, hA_sA, if_neg (by omega), a1, hA_sA, if_neg (by omega), x_hA_sI, a0, x_hA_nO, n0, if_neg (by omega)]; exact q4
theorem x12_facts {h : AH} (hN1 : hN h1 = B + 119) (e : h = nO h1 12) (k : ∀ h', hN h' = B + 124 → frO h1 h' → (aI h' = aI h1 ∧ aA h' = aA h1) → hK h' (B + 119) = 13 → (∀ f, hI h' f (B + 119) = 0) → (∀ x, x < 4 → LQ g B x h') → K h') : f_X12_init g (some (B + 119)) h K := by
  unfold f_X12_init
  rw [nn_eq]
  refine x12_step (b := 0) rfl (by decide) (by rw [e, x_hN_nO, hN1]) hN1 (by rw [e]; exact frO.nO) ⟨by rw [e, x_aI_nO], by rw [e, x_aA_nO]⟩ (by rw [e, x_hK_nO, hN1, if_pos rfl]) (fun f => by rw [e, x_hI_nO, hN1, if_pos rfl]) (fun x hx => by omega) fun h2 n2 fr2 e2 c2 i2 q2 => ?_
  refine x12_step (b := 1) rfl (by decide) n2 hN1 fr2 e2 c2 i2 q2 fun h3 n3 fr3 e3 c3 i3 q3 => ?_
  refine x12_step (b := 2) rfl (by decide) n3 hN1 fr3 e3 c3 i3 q3 fun h4 n4 fr4 e4 c4 i4 q4 => ?_
  refine x12_step (b := 3) rfl (by decide) n4 hN1 fr4 e4 c4 i4 q4 fun h5 n5 fr5 e5 c5 i5 q5 => ?_
  exact k h5 n5 fr5 e5 c5 i5 q5
theorem vOk_z0 {k i j : Nat} (ok : vOk (sN z0) k i j) : k = 5 ∧ i = 0 ∧ j < 4 := by
  match k, ok with
  | 0, ok => exact absurd ok.1 (Nat.not_lt_zero _)
  | 1, ok => exact absurd ok.1 (Nat.not_lt_zero _)
  | 2, ok => exact absurd ok.1 (Nat.not_lt_zero _)
  | 3, ok => exact absurd ok.1 (Nat.not_lt_zero _)
  | 4, ok => exact absurd ok.1 (Nat.not_lt_zero _)
  | 5, ok =>
    match i, ok with
    | 0, ok => exact ⟨rfl, rfl, ok⟩
    | 1, ok => exact absurd ok (Nat.not_lt_zero _)
    | 2, ok => exact absurd ok (Nat.not_lt_zero _)
  | 6, ok => exact absurd ok.1 (Nat.not_lt_zero _)
  | 7, ok => exact absurd ok.1 (Nat.not_lt_zero _)
  | 8, ok => exact absurd ok.1 (Nat.not_lt_zero _)
  | 9, ok =>
    match i, ok with
    | 0, ok => exact absurd ok.2 (Nat.lt_irrefl 0)
    | 1, ok => exact absurd ok.1 (Nat.not_lt_zero _)
    | 2, ok => exact absurd ok.1 (Nat.not_lt_zero _)
theorem mT_5 (f : Nat) : mT f ≠ 5 := by
  unfold mT
  split <;> decide
def mu0 (B : Nat) : zM := fun k _ j => if k = 5 then B + 120 + j else 0
theorem M.of {h : AH} (n0 : hN h = B + 124) (c : hK h (B + 119) = 13) (i0 : ∀ f, hI h f (B + 119) = 0) (q : ∀ x, x < 4 → LQ g B x h) (mc : MC g B h) : M g B (mu0 B) z0 h := by
  refine ⟨⟨?_, ?_, ?_, ?_, ?_, ⟨c, by omega, ?_⟩, ?_, mc⟩, ?_, ?_, ⟨?_, ?_, ?_⟩, ?_⟩
  · intro k i j ok
    obtain ⟨rfl, rfl, hj⟩ := vOk_z0 ok
    show B + 119 < B + 120 + j ∧ B + 120 + j < hN h ∧ hK h (B + 120 + j) = 14
    exact ⟨by omega, by omega, (q j hj).2.1⟩
  · intro k i j k' i' j' ok ok' e
    obtain ⟨rfl, rfl, hj⟩ := vOk_z0 ok
    obtain ⟨rfl, rfl, hj'⟩ := vOk_z0 ok'
    have e' : B + 120 + j = B + 120 + j' := e
    exact ⟨rfl, rfl, by omega⟩
  · intro k i j ok h6
    obtain ⟨rfl, rfl, hj⟩ := vOk_z0 ok
    omega
  · intro l hl; exact absurd hl (Nat.not_lt_zero _)
  · intro l hl; exact absurd hl (Nat.not_lt_zero _)
  · intro b hb; exact (q b hb).1
  · intro a b ok
    obtain ⟨-, rfl, hb⟩ := vOk_z0 (k := 5) ok
    refine ⟨(q b hb).2.2.1, (q b hb).2.2.2, fun i hi => absurd hi (Nat.not_lt_zero _)⟩
  · intro f i j ok
    exact absurd (vOk_z0 ok).1 (mT_5 f)
  · intro k i a h6 ok
    obtain ⟨rfl, -, -⟩ := vOk_z0 ok
    omega
  · exact i0 196
  · exact i0 197
  · exact i0 198
  · intro c hc; exact absurd hc (Nat.not_lt_zero _)
/-- the whole law, from its script -/
theorem law_all {h : AH} {b L : Nat} {xs : Nat → Int32} {KI : Int32 → AH → Prop} (hL0 : L ≤ 2560) (hb : b < hN h) (hs : hK h b = 50 ∧ hL h b = L ∧ ∀ j, j < L → aI h b j = xs j) (mc : MC g (hN h) h) (kend : ∀ h, KI 1 h) : f_L_law g (some b) h KI := by
  unfold f_L_law
  refine nnew_to fun r0 a0 => ?_
  rw [nn_eq]
  refine x6_facts (B := hN h) rfl a0 fun r1 n1 fr1 y1 => ?_
  refine nnew_to fun r2 a2 => ?_
  rw [nn_eq, n1]
  refine x12_facts n1 a2 fun r3 n3 fr3 e3 c3 i3 q3 => ?_
  generalize hB : hN h = B at *
  have frA := fr1.trans fr3
  have mc3 : MC g B r3 := mc.keepB (fun x hx => by
    obtain ⟨p1, p2, p3, p4⟩ := frA.1 x (by omega)
    exact ⟨p1, p2, fun j => (p4 j).1, fun f _ => p3 f⟩) (fun x hx j => ((frA.1 x (by omega)).2.2.2 j).2.1)
  have m3 := M.of n3 c3 i3 q3 mc3
  have fm : frM B r1 r3 := by
    refine ⟨fun a ha => ?_, fun a ha j => ⟨by rw [e3.1], by rw [e3.2]⟩, fr3.2⟩
    obtain ⟨p1, p2, p3, p4⟩ := fr3.1 a ha
    exact ⟨fun f _ => p3 f, p1, p2, fun j => ⟨(p4 j).2.2.1, (p4 j).2.2.2⟩⟩
  have y3 := y1.keepM fm (by omega)
  refine nrow_to fun r4 a4 => ?_
  rw [n3]
  have n4 : hN r4 = B + 125 := by rw [a4, x_hN_nR, n3]
  refine nrow_to fun r5 a5 => ?_
  rw [n4]
  have n5 : hN r5 = B + 126 := by rw [a5, x_hN_nR, n4]
  have fr5 : frO r3 r5 := by
    rw [a5]
    refine frO.trans ?_ frO.nR
    rw [a4]
    exact frO.nR
  have frB := frA.trans fr5
  have W : LW g B b L xs z0 z0 r5 := by
    refine ⟨y3.keepM (fr5.M (by omega)) (by omega), ⟨_, m3.keep (fr5.T (by omega))⟩, hb, ⟨?_, ?_, fun j hj => ?_⟩, ⟨?_, ?_⟩, ⟨?_, ?_⟩, by omega, by omega⟩
    · exact (frB.1 b (by omega)).1.trans hs.1
    · exact (frB.1 b (by omega)).2.1.trans hs.2.1
    · exact ((frB.1 b (by omega)).2.2.2 j).1.trans (hs.2.2 j hj)
    · rw [a5, x_hK_nR, n4, if_neg (by omega), a4, x_hK_nR, n3, if_pos rfl]
    · rw [a5, x_hL_nR, n4, if_neg (by omega), a4, x_hL_nR, n3, if_pos rfl]
    · rw [a5, x_hK_nR, n4, if_pos rfl]
    · rw [a5, x_hL_nR, n4, if_pos rfl]
  exact law_loop hL0 kend 513 0 z0 r5 Inv.zero W (Nat.zero_le _) (by omega)
end XM
