/-! joints made anew, steel given back, what is undone, in the model -/
theorem zS_ext {σ τ : zS} (h1 : sN σ = sN τ) (h2 : sV σ = sV τ) (h3 : sR σ = sR τ) : σ = τ := Prod.ext h1 (Prod.ext h2 h3)
theorem wR_self {σ : zS} {f i j : Nat} {x : Option Nat} (h : sR σ f i j = x) : wR σ f i j x = σ := by
  subst h
  unfold wR
  refine Prod.ext rfl (Prod.ext rfl ?_)
  funext a b c
  dsimp only
  by_cases q : a = f ∧ b = i ∧ c = j
  · obtain ⟨rfl, rfl, rfl⟩ := q; rw [if_pos ⟨rfl, rfl, rfl⟩]; rfl
  · rw [if_neg q]
theorem wV_over {σ : zS} {f i j : Nat} {v w : Int32} : wV (wV σ f i j v) f i j w = wV σ f i j w := by
  unfold wV
  refine Prod.ext rfl (Prod.ext ?_ rfl)
  funext a b c
  dsimp only
  by_cases q : a = f ∧ b = i ∧ c = j
  · rw [if_pos q, if_pos q]
  · rw [if_neg q, if_neg q, if_neg q]
theorem wRenew_wV {σ : zS} {f a b i j : Nat} {v : Int32} (h8 : f ≠ 8) (h9 : f ≠ 9) : wRenew (wV σ f a b v) i j = wV (wRenew σ i j) f a b v := by
  unfold wRenew
  rw [wV_comm h8, wV_comm h9]
  rfl
def mUndo1 (σ : zS) (i j : Nat) : zS := if j < sN σ 4 i - 1 ∧ ¬ sV σ 8 i j = 110 then wV (wRenew σ i j) 0 1 0 (sV σ 0 1 0 + 1) else σ
def mUndo (σ : zS) (i p : Nat) : zS := wV (if p = 0 then mUndo1 σ i 0 else mUndo1 (mUndo1 σ i (p - 1)) i p) 4 i 0 0
theorem mUndo1_N (σ : zS) (i j : Nat) : sN (mUndo1 σ i j) = sN σ := by unfold mUndo1; split <;> rfl
theorem sV_wRenew {σ : zS} {i j f a b : Nat} (h : ¬ (f = 8 ∧ a = i ∧ b = j)) (h' : ¬ (f = 9 ∧ a = i ∧ b = j)) : sV (wRenew σ i j) f a b = sV σ f a b := by
  unfold wRenew
  rw [sV_wR, sV_wV, if_neg h', sV_wV, if_neg h]
theorem undo1_m {σ : zS} {i j : Nat} {c : Int32} : undo1 (wV σ 4 i 0 0) i j c = (if j < sN σ 4 i - 1 ∧ ¬ sV σ 8 i j = 110 then (wV (wRenew σ i j) 4 i 0 0, c + 1) else (wV σ 4 i 0 0, c)) := by
  unfold undo1
  rw [sN_wV, sV_ne (by decide), wRenew_wV (by decide) (by decide)]
theorem undo_eq {σ : zS} {i p : Nat} : wUndo σ i p = mUndo σ i p := by
  unfold wUndo mUndo spUndo
  have z0 : ∀ {x : Int32}, x + 0 = x := Int32.add_zero _
  have one : ∀ {τ : zS} {x : Int32}, wV (wV τ 4 i 0 0) 0 1 0 x = wV (wV τ 0 1 0 x) 4 i 0 0 := wV_comm (by decide)
  have self : ∀ τ : zS, wV (wV τ 4 i 0 0) 0 1 0 (sV τ 0 1 0) = wV τ 4 i 0 0 := fun τ => by
    rw [one, wV_self]
  by_cases hp : p = 0
  · rw [if_pos hp, if_pos hp, undo1_m]
    unfold mUndo1
    by_cases q : 0 < sN σ 4 i - 1 ∧ ¬ sV σ 8 i 0 = 110
    · rw [if_pos q, if_pos q]
      dsimp only
      rw [one, Int32.zero_add]
    · rw [if_neg q, if_neg q]
      dsimp only
      rw [z0, self]
  · rw [if_neg hp, if_neg hp, undo1_m]
    by_cases q : p - 1 < sN σ 4 i - 1 ∧ ¬ sV σ 8 i (p - 1) = 110
    · rw [if_pos q]
      dsimp only
      rw [undo1_m]
      have e1 : mUndo1 σ i (p - 1) = wV (wRenew σ i (p - 1)) 0 1 0 (sV σ 0 1 0 + 1) := by unfold mUndo1; rw [if_pos q]
      rw [e1]
      unfold mUndo1
      have e2 : sV (wRenew σ i (p - 1)) 8 i p = sV σ 8 i p := sV_wRenew (by omega) (by omega)
      have e3 : sV (wV (wRenew σ i (p - 1)) 0 1 0 (sV σ 0 1 0 + 1)) 8 i p = sV σ 8 i p := by rw [sV_ne (by decide), e2]
      have e4 : sV (wV (wRenew σ i (p - 1)) 0 1 0 (sV σ 0 1 0 + 1)) 0 1 0 = sV σ 0 1 0 + 1 := by rw [sV_wV, if_pos ⟨rfl, rfl, rfl⟩]
      have n1 : sN (wRenew σ i (p - 1)) = sN σ := rfl
      have n2 : sN (wV (wRenew σ i (p - 1)) 0 1 0 (sV σ 0 1 0 + 1)) = sN σ := rfl
      rw [e2, e3, e4, n1, n2]
      by_cases q2 : p < sN σ 4 i - 1 ∧ ¬ sV σ 8 i p = 110
      · rw [if_pos q2, if_pos q2]
        dsimp only
        rw [one, wRenew_wV (by decide) (by decide), wV_over, Int32.zero_add, Int32.add_assoc]
      · rw [if_neg q2, if_neg q2]
        dsimp only
        rw [one, Int32.zero_add]
    · rw [if_neg q]
      dsimp only
      rw [undo1_m]
      have e1 : mUndo1 σ i (p - 1) = σ := by unfold mUndo1; rw [if_neg q]
      rw [e1]
      unfold mUndo1
      by_cases q2 : p < sN σ 4 i - 1 ∧ ¬ sV σ 8 i p = 110
      · rw [if_pos q2, if_pos q2]
        dsimp only
        rw [one, Int32.zero_add]
      · rw [if_neg q2, if_neg q2]
        dsimp only
        rw [z0, self]
section MU2
variable {g : Nat → Nat} {B : Nat} {mu : zM} {σ : zS} {h : AH}
theorem M.newJoint (m : M g B mu σ h) (c : zCnt σ) {i j : Nat} (hi : i < sN σ 0 0) (hj : j < sN σ 4 i - 1) {K : Option Nat → AH → Prop} (k : ∀ h' mu' v, frK B h h' → M g B mu' (wRenew σ i j) h' → K v h') : nnew h 8 fun o4 h5 => nn o4 (f_X8_init g o4 h5 (fun h6 => cast h6 (some (mu 5 2 i)) 14 (f_Jx4a65c_set_bcc79 g (some (mu 5 2 i)) (nI j) o4 h6 K))) := by
  refine nnew_to fun r0 a0 => ?_
  rw [nn_eq]
  unfold f_X8_init
  rw [nn_eq, okC_110]
  have le := Nat.le_refl (hN h)
  have k0 : hK r0 (hN h) = 9 := by rw [a0, x_hK_nO, if_pos rfl]
  refine pI_to k0 fun r1 a1 => ?_
  refine pI_to (by rw [a1, x_hK_sI]; exact k0) fun r2 a2 => ?_
  have k2 : hK r2 (hN h) = 9 := by rw [a2, x_hK_sI, a1, x_hK_sI]; exact k0
  have fr : frO h r2 := by rw [a2, a1, a0]; exact (frO.nO.sI le).sI le
  have n2 : hN r2 = hN h + 1 := by rw [a2, x_hN_sI, a1, x_hN_sI, a0, x_hN_nO]
  have i8 : hI r2 128 (hN h) = 110 := by rw [a2, hI_sI, if_neg (by omega), a1, hI_sI, if_pos ⟨rfl, rfl⟩]
  have i9 : hI r2 129 (hN h) = 0 := by rw [a2, hI_sI, if_neg (by omega), a1, hI_sI, if_neg (by omega), a0, x_hI_nO, if_pos rfl]
  have i19 : hI r2 130 (hN h) = -1 := by rw [a2, hI_sI, if_pos ⟨rfl, rfl⟩]
  have m2 := m.old fr
  have hB := m.hB
  have ok0 : lsOk (sN σ) 2 i := hi
  dsimp only
  rw [m2.csJ hi]
  refine (m2.al c (a := 2) (b := i) hi).set hj (by rw [k2]; exact Or.inr (Or.inl rfl)) fun v => ?_
  have q0 : ¬ qN (sN σ) 2 i = 0 := by show ¬ sN σ 4 i - 1 = 0; omega
  rw [if_neg q0]
  have ok9 : vOk (sN σ) 9 2 i := ⟨ok0, by omega⟩
  have y9 := m.1.1 9 2 i ok9
  generalize a3 : tA r2 (mu 9 2 i) j (some (hN h)) = r3
  have F1 : ∀ b, b < hN h → hK r3 b = hK h b ∧ hL r3 b = hL h b ∧ (∀ j, aI r3 b j = aI h b j) ∧ (∀ f, hI r3 f b = hI h f b ∧ hA r3 f b = hA h f b) ∧ (∀ j, aJ r3 b j = aJ h b j ∧ aD r3 b j = aD h b j) ∧ (b ≠ mu 9 2 i → ∀ x, aA r3 b x = aA h b x) := by
    intro b hb
    obtain ⟨p1, p2, p3, p4⟩ := fr.1 b hb
    rw [← a3]
    exact ⟨p1, p2, fun j => (p4 j).1, p3, fun j => (p4 j).2.2, fun hne x => by rw [aA_tA, if_neg (fun z => hne z.1)]; exact (p4 x).2.1⟩
  have n3 : hN r3 = hN h + 1 := by rw [← a3, x_hN_tA]; exact n2
  have F4 : ∀ b, b ≤ B + 119 → ∀ x, aA r3 b x = aA h b x := fun b hb => (F1 b (by omega)).2.2.2.2.2 (by omega)
  have FK : frK B h r3 := ⟨⟨fun b hb => ⟨fun f _ => (F1 b hb).2.2.2.1 f, (F1 b hb).1, (F1 b hb).2.1, (F1 b hb).2.2.2.2.1⟩, fun b hb j => ⟨(F1 b (by omega)).2.2.1 j, F4 b hb j⟩, by omega⟩, ((F1 _ hB).2.2.2.1 199).1⟩
  have r := m.ext (σ' := wRenew σ i j) (h' := r3) (fun k a b => if k = 2 ∧ a = i ∧ b = j then some (hN h) else none) (fun _ => none) (fun _ => (2, i, j)) (fun a b => a = 2 ∧ b = i) (by omega) (fun b hb => ⟨(F1 b hb).1, (F1 b hb).2.1, (F1 b hb).2.2.1, fun f _ => (F1 b hb).2.2.2.1 f⟩)
    (fun a b ok hC => by
      have y := m.1.1 5 a b ok
      have z := (F1 _ y.2.1).2.2.2.1
      exact ⟨(z 210).1, (z 209).2⟩)
    (fun a b ok hp hC x => by
      have y := m.1.1 9 a b ⟨ok, hp⟩
      refine (F1 _ y.2.1).2.2.2.2.2 (fun z => ?_) x
      obtain ⟨-, u, w⟩ := m.1.2.1 _ _ _ _ _ _ (show vOk (sN σ) 9 a b from ⟨ok, hp⟩) ok9 z
      exact hC ⟨u, w⟩)
    (fun b hb => F4 b (by omega))
    (fun k a b x e => by
      by_cases q : k = 2 ∧ a = i ∧ b = j
      · rw [if_pos q] at e
        cases e
        obtain ⟨rfl, rfl, rfl⟩ := q
        exact ⟨le, by omega, by rw [← a3, x_hK_tA]; exact k2, fun z => absurd z (by decide), rfl⟩
      · rw [if_neg q] at e; cases e)
    (fun k a b ok hk => if_neg (fun z => hk z.1))
    (fun k a b ok _ => ok)
    (fun l hl => Or.inl hl)
    (fun w hw => Or.inl hw)
    (fun a b ok => by
      by_cases q : a = 2 ∧ b = i
      · obtain ⟨rfl, rfl⟩ := q
        refine Or.inr ?_
        obtain ⟨y1, y2, y3⟩ := m.1.2.2.2.2.2.2.1 2 b hi
        have y5 := m.1.1 5 2 b hi
        have z := (F1 _ y5.2.1).2.2.2.1
        rw [muN_old (by decide) (if_neg (by omega)), muN_old (by decide) (if_neg (by omega))]
        refine ⟨(z 210).1.trans y1, ((z 209).2.trans y2), fun x hx => ?_⟩
        rw [← a3, aA_tA, qE_J]
        by_cases q3 : x = j
        · subst q3
          rw [if_pos ⟨rfl, rfl⟩, muN_new (by decide) (if_pos ⟨rfl, rfl, rfl⟩)]
        · rw [if_neg (fun z => q3 z.2), muN_old (by decide) (if_neg (fun z => q3 z.2.2))]
          rw [((fr.1 _ y9.2.1).2.2.2 x).2.1]
          exact y3 x hx
      · refine Or.inl ⟨q, ok, rfl, fun x hx => ?_⟩
        rcases qE_ok ok with ⟨rfl, hb⟩ | ⟨rfl, hb⟩ | ⟨rfl, hb⟩
        · have : b = 0 ∨ b = 1 ∨ b = 2 ∨ b = 3 := by omega
          rcases this with rfl | rfl | rfl | rfl
          · rw [qE_L, qE_L]; exact muN_old (by decide) (if_neg (by omega))
          · rw [qE_H, qE_H]; exact muN_old (by decide) (if_neg (by omega))
          · rw [qE_W, qE_W]; exact muN_old (by decide) (if_neg (by omega))
          · rfl
        · rw [qE_P, qE_P]; exact muN_old (by decide) (if_neg (by omega))
        · rw [qE_J, qE_J]; exact muN_old (by decide) (if_neg (by omega)))
    (fun f a b ok => by
      by_cases q : mT f = 2 ∧ a = i ∧ b = j
      · obtain ⟨q1, rfl, rfl⟩ := q
        refine Or.inr ?_
        rw [q1, muN_new (by decide) (if_pos ⟨rfl, rfl, rfl⟩), ← a3, x_hI_tA]
        rcases mT_2 q1 with rfl | rfl | rfl
        · refine i8.trans ?_
          simp [mV, wRenew, sV_wR, sV_wV]
        · refine i9.trans ?_
          simp [mV, wRenew, sV_wR, sV_wV]
        · refine i19.trans ?_
          simp [mV, wRenew, sR_wR, enc]
      · refine Or.inl ⟨if_neg q, ?_⟩
        have ne : ∀ {F}, mT F = 2 → ¬ (f = F ∧ a = i ∧ b = j) := fun hF z => q ⟨by rw [z.1]; exact hF, z.2⟩
        unfold wRenew
        have e3 : ∀ τ : zS, mV (wR τ 1 i j none) f a b = mV τ f a b := by
          intro τ
          unfold mV
          rw [sR_ne (by decide)]
          by_cases q18 : f = 18
          · rw [if_pos q18, if_pos q18]
          · rw [if_neg q18, if_neg q18]
            by_cases q19 : f = 19
            · rw [if_pos q19, if_pos q19, sR_wR, if_neg (fun z => ne (F := 19) rfl ⟨q19, z.2⟩)]
            · rw [if_neg q19, if_neg q19]; rfl
        rw [e3, mV_nei (ne rfl), mV_nei (ne rfl)])
    (fun k a x h6 ok h9 ha => by
      refine Or.inl ⟨if_neg (by omega), ?_⟩
      unfold wRenew
      rw [mW_wR (by decide), mW_wV (by decide) (by decide), mW_wV (by decide) (by decide)])
    (fun x => by simp [wRenew, sV_wR, sV_wV])
    (fun x hx => Or.inl ⟨hx, rfl, by simp [wRenew, sV_wR, sV_wV]⟩)
  exact k r3 _ v FK r
theorem M.undoStep (m : M g B mu σ h) (c : zCnt σ) {i j p : Nat} (hi : i < sN σ 0 0) (hj : j < 10) (hp : j ≤ p) (hp2 : p < 10) {rec4 : Option Nat → Int32 → Int32 → Int32 → AH → Prop} {K : AH → Prop} (k : ∀ h' mu', frK B h h' → M g B mu' (mUndo1 σ i j) h' → rec4 (some (B + 119)) (nI i) (nI p) (nI (j + 1)) h') : f_X12_undoes_L4b g rec4 (some (B + 119)) (nI i) (nI p) (nI j) h K := by
  have c1 := c.1
  have c2 := c.2.2.2.2 i
  simp only [f_X12_undoes_L4b, f_X12_undoes_B75, m.cO, m.isJoint c, nI_1, if_true, e10, if_false]
  rw [if_neg (nI_nlt hp (by omega)), ix_nI (by omega) hi]
  dsimp only
  unfold mUndo1 at k
  by_cases q1 : j < sN σ 4 i - 1
  · rw [ix_nI (by omega) q1]
    dsimp only
    simp only [m.at c hi q1, m.r128 hi q1]
    by_cases q2 : sV σ 8 i j = 110
    · rw [if_pos q2]
      rw [if_neg (fun z => z.2 q2)] at k
      exact k h mu frK.refl m
    · rw [if_neg q2]
      rw [if_pos ⟨q1, q2⟩] at k
      simp only [m.a192, m.cs0, m.gL c hi, m.cL hi, m.a146 hi]
      refine m.newJoint c hi q1 fun h1 mu1 v fr1 m1 => ?_
      rw [m1.r197]
      refine m1.putO 1 (by decide) fun h2 fr2 m2 => ?_
      have e : sV (wRenew σ i j) 0 1 0 = sV σ 0 1 0 := sV_wRenew (by omega) (by omega)
      rw [e] at m2
      exact k h2 mu1 (fr1.trans fr2) m2
  · have e : ix (nI j) (sN σ 4 i - 1) = none := by
      unfold ix
      rw [if_neg (nI_pos (by omega)), if_pos (nI_le (by omega) (by omega))]
    rw [e]
    dsimp only
    rw [if_neg (fun z => q1 z.1)] at k
    exact k h mu frK.refl m
theorem M.undoes (m : M g B mu σ h) (c : zCnt σ) {i p : Nat} (hi : i < sN σ 0 0) (hp : p < 10) {K : AH → Prop} (k : ∀ h' mu', frK B h h' → M g B mu' (wUndo σ i p) h' → K h') : f_X12_undoes g (some (B + 119)) (nI i) (nI p) h K := by
  have c1 := c.1
  rw [undo_eq] at k
  unfold mUndo at k
  have fin : ∀ {τ : zS} {mu1 : zM} {h1 : AH} {rec4 : Option Nat → Int32 → Int32 → Int32 → AH → Prop}, M g B mu1 τ h1 → sN τ = sN σ → (∀ h', frK B h1 h' → M g B mu1 (wV τ 4 i 0 0) h' → K h') → f_X12_undoes_L4b g rec4 (some (B + 119)) (nI i) (nI p) (nI (p + 1)) h1 K := by
    intro τ mu1 h1 rec4 m1 e k1
    have ct : zCnt τ := c.of e
    have hi1 : i < sN τ 0 0 := by rw [e]; exact hi
    simp only [f_X12_undoes_L4b]
    rw [if_pos (nI_lt (by omega) (by omega))]
    simp only [m1.a192, m1.cs0, m1.gL ct hi1, m1.cL hi1, okZ_0]
    exact m1.putI 4 i 0 ⟨hi1, rfl⟩ (by decide) k1
  unfold f_X12_undoes
  cases p with
  | zero =>
    rw [if_pos rfl] at k
    show f_X12_undoes_L4b g _ (some (B + 119)) (nI i) (nI 0) (nI 0 - 1) h K
    simp only [f_X12_undoes_L4b, f_X12_undoes_B75, m.cO, m.isJoint c, if_true, e10, if_false]
    rw [if_neg (by decide), ix_nI (by omega) hi]
    dsimp only
    have e : ix (nI 0 - 1) (sN σ 4 i - 1) = none := by unfold ix; rw [if_pos (by decide)]
    rw [e]
    dsimp only
    rw [show nI 0 - 1 + 1 = nI 0 by decide]
    refine m.undoStep c hi (by decide) (Nat.le_refl _) (by decide) fun h1 mu1 fr1 m1 => ?_
    exact fin m1 (mUndo1_N σ i 0) fun h2 fr2 m2 => k h2 mu1 (fr1.trans fr2) m2
  | succ p =>
    rw [if_neg (by omega)] at k
    rw [nI_pred]
    refine m.undoStep c hi (by omega) (by omega) (by omega) fun h1 mu1 fr1 m1 => ?_
    have c' : zCnt (mUndo1 σ i p) := c.of (mUndo1_N σ i p)
    have hi' : i < sN (mUndo1 σ i p) 0 0 := by rw [mUndo1_N]; exact hi
    refine m1.undoStep c' hi' (by omega) (Nat.le_refl _) (by omega) fun h2 mu2 fr2 m2 => ?_
    exact fin m2 ((mUndo1_N _ i (p + 1)).trans (mUndo1_N σ i p)) fun h3 fr3 m3 => k h3 mu2 (fr1.trans (fr2.trans fr3)) m3
end MU2
