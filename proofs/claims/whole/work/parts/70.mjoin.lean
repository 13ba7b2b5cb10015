/-! join in the model -/
theorem mate_nI : ∀ j, j < 4 → ∀ b, b < 2 → (2 : Int32) * nI j + nI b = nI (2 * j + b) := by decide +kernel
section MJN
variable {g : Nat → Nat} {B : Nat} {mu : zM} {σ : zS} {h : AH} {K : Int32 → AH → Prop}
theorem M.joinEnd (m : M g B mu σ h) (c : zCnt σ) {i j a b : Nat} (hi : i < sN σ 0 0) (hj : j < sN σ 0 0) (ha : a < 2) (hb : b < 2) {x y : Option Nat} {are vx vy w : Int32} (hx : vx = enc x) (hy : vy = enc y) (q : ∀ h', frK B h h' → M g B mu (wJoin σ i a j b x y) h' → K (if are = 0 then 1 else 0) h') :
    stI h (some (mu 6 i 0)) 0 (nI a) vx fun h4 => gA h4 (some (mu 0 j 0)) 9 147 fun v5 => f_X12_join_B238 g (some (mu 0 i 0)) (some (mu 0 j 0)) are v5 (nI b) vy h4 K := by
  refine m.stJn hi ha x hx fun h1 fr1 m1 => ?_
  rw [m1.a147 hj]
  unfold f_X12_join_B238
  refine m1.stJn (l := j) (a := b) hj hb y hy fun h2 fr2 m2 => ?_
  rw [okZ_0]
  refine m2.putI 4 i 0 ⟨hi, rfl⟩ (by decide) fun h3 fr3 m3 => ?_
  rw [okZ_0]
  refine m3.putI 4 j 0 ⟨hj, rfl⟩ (by decide) fun h4 fr4 m4 => ?_
  have z := q h4 (fr1.trans (fr2.trans (fr3.trans fr4))) m4
  by_cases w : are = 0
  · rw [if_pos w] at z ⊢; rw [okZ_1]; exact z
  · rw [if_neg w] at z ⊢; rw [okZ_0]; exact z
theorem M.join (m : M g B mu σ h) (c : zCnt σ) (r : zRef σ) {l la o lo : Int32} (q : mPost g B σ h 3 1 4 (spJoin σ l la o lo) K) : f_X12_join g (some (B + 119)) l la o lo h K := by
  have c1 := c.1
  have ha : eN la < 2 := eN_lt
  have hb2 : eN lo < 2 := eN_lt
  unfold spJoin oRow at q
  unfold f_X12_join
  rw [eN_if (P := fun z => f_X12_join_B9 g (some (B + 119)) l o lo z h K)]
  unfold f_X12_join_B9
  rw [eN_if (P := fun z => f_X12_join_B21 g (some (B + 119)) l o (nI (eN la)) z h K)]
  generalize eN la = a at *
  generalize eN lo = b at *
  simp only [f_X12_join_B21, f_X12_join_B40, f_X12_join_B54, m.cO, m.isLine c, if_true, e10, if_false, okZ_0]
  cases e : ix l (sN σ 0 0) with
  | none => rw [e] at q; exact q.exR m rfl (by decide) (by decide)
  | some i =>
    rw [e] at q
    obtain ⟨hi, rfl⟩ := ix_some (by omega) e
    dsimp only at q ⊢
    cases e2 : ix o (sN σ 0 0) with
    | none => rw [e2] at q; exact q.exR m rfl (by decide) (by decide)
    | some j =>
      rw [e2] at q
      obtain ⟨hj, rfl⟩ := ix_some (by omega) e2
      dsimp only at q ⊢
      simp only [nI_eq (show i < 2 ^ 31 by omega) (show j < 2 ^ 31 by omega)]
      by_cases q1 : i = j
      · rw [if_pos q1] at q ⊢; exact q.exR m rfl (by decide) (by decide)
      rw [if_neg q1] at q ⊢
      refine m.fail0 fun h1 fr m1 => ?_
      have bd : ∀ x y v, sR σ 2 x y = some v → v < 2 ^ 31 := fun x y v z => by have := r.2.2 x y v z; omega
      simp only [if_true, m1.a192, m1.cs0, m1.gL c hi, m1.cL hi, m1.gL c hj, m1.cL hj, m1.a147 hi, m1.lJn hi ha, mate_nI j (by omega) b hb2, enc_eq (bd i a) (show 2 * j + b < 2 ^ 31 by omega)]
      have tak : ∀ {x : Option Nat}, (∀ v, x = some v → v < 2 ^ 31) → (enc x = -1) = (x = none) := fun {x} hx => by
        cases x with
        | none => simp [enc]
        | some v => simp [enc, nI_m1 (hx v rfl)]
      have m2O : ∀ {w : Int32} {K1 : Int32 → AH → Prop}, cast h1 (some (B + 119)) 13 (f_X12_fails g (some (B + 119)) w h1 K1) = f_X12_fails g (some (B + 119)) w h1 K1 := m1.cO
      by_cases q2 : sR σ 2 i a = some (2 * j + b)
      · rw [if_pos q2] at q ⊢
        have n1 : ¬ enc (sR σ 2 i a) = -1 := by rw [tak (bd i a), q2]; simp
        simp only [f_X12_join_B114, f_X12_join_B162, f_X12_join_B167, f_X12_join_B184, f_X12_join_B185, m1.a147 hi, m1.lJn hi ha, n1, if_false, e10, m1.cO]
        refine m1.fail0 fun h2 fr2 m2 => ?_
        simp only [if_true, m2.a147 hi, f_X12_join_B215, e10, if_false]
        exact m2.joinEnd (x := none) (y := none) (w := 0) c hi hj ha hb2 rfl rfl fun h3 fr3 m3 => (q.ok (frC.k ⟨fr.1.trans fr2.1, fr2.2⟩ fr3) m3 : K 0 h3)
      · rw [if_neg q2] at q ⊢
        have n2 : enc (some (2 * j + b)) = (2 : Int32) * nI j + nI b := (mate_nI j (by omega) b hb2).symm
        have n3 : enc (some (2 * i + a)) = (2 : Int32) * nI i + nI a := (mate_nI i (by omega) a ha).symm
        have bad : endFree σ i a = false ∨ endFree σ j b = false → f_X12_join_B185 g (nI i) (nI j) (nI a) (nI b) (some (mu 0 i 0)) (some (mu 0 j 0)) 0 (some (B + 119)) 3 h1 K := by
          intro z
          have q' : mPost g B σ h 3 1 4 (4, 0, σ) K := by
            rw [if_neg (by rcases z with z | z <;> simp [z])] at q
            exact q
          simp only [f_X12_join_B185, m1.cO, okZ_0]
          refine m1.failE (by decide) fun h2 fr2 e5 m2 => ?_
          rw [if_neg (by decide)]
          exact q' h2 mu 0 (fr.1.trans fr2) e5 m2 (fun z => absurd (show (4 : Nat) = 0 from z) (by decide))
        simp only [f_X12_join_B114, f_X12_join_B162, f_X12_join_B167, f_X12_join_B184, m1.a147 hi, m1.lJn hi ha, m1.a147 hj, m1.lJn hj hb2, m1.a148 hi, m1.lBl hi ha, m1.a148 hj, m1.lBl hj hb2, tak (bd i a), tak (bd j b), if_true, e10, if_false]
        by_cases p1 : sR σ 2 i a = none
        · rw [if_pos p1]
          by_cases p2 : sR σ 2 j b = none
          · rw [if_pos p2]
            by_cases p3 : sV σ 10 i a = 0
            · rw [if_pos p3]
              by_cases p4 : sV σ 10 j b = 0
              · rw [if_pos p4]
                rw [if_pos (by unfold endFree; simp [p1, p2, p3, p4])] at q
                simp only [f_X12_join_B185, m1.cO]
                refine m1.fail0 fun h2 fr2 m2 => ?_
                simp only [if_true, m2.a147 hi, f_X12_join_B215]
                exact m2.joinEnd (x := some (2 * j + b)) (y := some (2 * i + a)) (w := 0) c hi hj ha hb2 n2.symm n3.symm fun h3 fr3 m3 => (q.ok (frC.k ⟨fr.1.trans fr2.1, fr2.2⟩ fr3) m3 : K 1 h3)
              · rw [if_neg p4]; exact bad (Or.inr (by unfold endFree; simp [p4]))
            · rw [if_neg p3]; exact bad (Or.inl (by unfold endFree; simp [p3]))
          · rw [if_neg p2]; exact bad (Or.inr (by unfold endFree; simp [p2]))
        · rw [if_neg p1]; exact bad (Or.inl (by unfold endFree; simp [p1]))
end MJN
