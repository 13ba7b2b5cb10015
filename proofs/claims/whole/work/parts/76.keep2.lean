/-! what always holds is kept: one operation after another -/
section KQ
variable {σ : zS} {P : zS → Prop}
theorem oRow_k {k : Nat} {l : Int32} {f : Nat → zO} (p : P σ) (hk : sN σ k 0 < 2 ^ 31) (h : ∀ i, i < sN σ k 0 → P (f i).2.2) : P (oRow σ k l f).2.2 := by
  unfold oRow
  cases e : ix l (sN σ k 0) with
  | none => exact p
  | some i => exact h i (ix_some hk e).1
theorem oPart_k {l q : Int32} {f : Nat → Nat → zO} (p : P σ) (c : zCnt σ) (h : ∀ i j, i < sN σ 0 0 → j < sN σ 4 i → P (f i j).2.2) : P (oPart σ l q f).2.2 := by
  have c1 := c.1
  unfold oPart
  cases e : ix l (sN σ 0 0) with
  | none => exact p
  | some i =>
    dsimp only
    have c2 := c.2.2.2.2 i
    cases e2 : ix q (sN σ 4 i) with
    | none => exact p
    | some j => exact h i j (ix_some (by omega) e).1 (ix_some (by omega) e2).1
theorem oJoint_k {l q : Int32} {f : Nat → Nat → zO} (p : P σ) (c : zCnt σ) (h : ∀ i j, i < sN σ 0 0 → j < sN σ 4 i - 1 → P (f i j).2.2) : P (oJoint σ l q f).2.2 := by
  have c1 := c.1
  unfold oJoint
  cases e : ix l (sN σ 0 0) with
  | none => exact p
  | some i =>
    dsimp only
    have c2 := c.2.2.2.2 i
    cases e2 : ix q (sN σ 4 i - 1) with
    | none => exact p
    | some j => exact h i j (ix_some (by omega) e).1 (ix_some (by omega) e2).1
theorem may_two {i j k : Nat} (h : spMay σ i j k = true) : ∃ a b, sR σ 0 i j = some a ∧ sR σ 0 i (j + 1) = some b ∧ sV σ 11 a 0 = sV σ 11 b 0 := by
  unfold spMay at h
  cases e1 : sR σ 0 i j with
  | none => rw [e1] at h; cases h
  | some a =>
    cases e2 : sR σ 0 i (j + 1) with
    | none => rw [e1, e2] at h; cases h
    | some b =>
      rw [e1, e2] at h
      dsimp only at h
      rw [Bool.and_eq_true, decide_eq_true_eq] at h
      exact ⟨a, b, rfl, rfl, h.1⟩
theorem Inv.pass (I : Inv σ) {d : Int32} : Inv (spPass σ d).2.2 := by
  unfold spPass
  repeat' split
  all_goals first | exact I | exact I.v 0 0 0 _ (Or.inl rfl) (fun z => by omega) (fun z => by omega) (fun z => by omega)
theorem Inv.ticket (I : Inv σ) {w a d : Int32} : Inv (spTicket σ w a d).2.2 := by
  unfold spTicket
  refine oRow_k I (by have := I.c.2.2.1; omega) fun k hk => ?_
  repeat' split
  all_goals first | exact I | exact I.v 15 k _ _ (by decide) (fun z => by omega) (fun z => by omega) (fun _ => hk)
theorem Inv.paper (I : Inv σ) {q v : Int32} (hv : v = 0 ∨ v = 1) : Inv (spPaper σ q v).2.2 := by
  unfold spPaper
  exact oRow_k I (by have := I.c.2.1; omega) fun k hk => I.v 14 k 0 v (by decide) (fun _ => hv) (fun z => by omega) (fun z => by omega)
theorem Inv.weldW (I : Inv σ) {i j k : Nat} (hi : i < sN σ 0 0) (hj : j < sN σ 4 i - 1) (hk : k < sN σ 2 0) (hm : spMay σ i j k = true) : Inv (wWeld σ i j k) := by
  unfold wWeld
  refine (InvX.t ((I.X fun _ _ => False).jnt (E' := fun _ _ => False) (τ := wR (wV σ 8 i j 119) 1 i j (some k)) hj rfl (fun f a b h8 _ => by rw [sV_wR, sV_nei h8]) (fun f a b h1 => by rw [sR_nei h1]; rfl) ?_ ?_ ?_ ?_ (fun _ _ h _ => h) (fun _ _ => may_two hm)) (Or.inl rfl) hi).I (fun _ _ z => z)
  · simp [sV_wR, sV_wV]
  · rw [sV_wR, sV_ne (by decide)]; exact I.rp i j
  · simp [sV_wR, sV_wV, sR_wR]
  · intro x z; simp [sR_wR] at z; omega
theorem Inv.weld (I : Inv σ) {l p w : Int32} : Inv (spWeld σ l p w).2.2 := by
  unfold spWeld
  refine oJoint_k I I.c fun i j hi hj => oRow_k I (by have := I.c.2.2.1; omega) fun k hk => ?_
  by_cases q : sV σ 8 i j = 110
  · rw [if_pos q]
    by_cases m : spMay σ i j k = true
    · rw [if_pos m]; exact I.weldW hi hj hk m
    · rw [if_neg m]; exact I
  · rw [if_neg q]; exact I
theorem Inv.repair (I : Inv σ) {l p w : Int32} : Inv (spRepair σ l p w).2.2 := by
  unfold spRepair
  refine oJoint_k I I.c fun i j hi hj => oRow_k I (by have := I.c.2.2.1; omega) fun k hk => ?_
  by_cases q : sV σ 8 i j = 98
  · rw [if_pos q]
    by_cases q2 : 2 ≤ sV σ 9 i j
    · rw [if_pos q2]; exact I
    · rw [if_neg q2]
      by_cases m : spMay σ i j k = true
      · rw [if_pos m]
        have r9 : sV σ 9 i j + 1 = 0 ∨ sV σ 9 i j + 1 = 1 ∨ sV σ 9 i j + 1 = 2 := by
          rcases I.rp i j with z | z | z
          · rw [z]; decide
          · rw [z]; decide
          · rw [z] at q2; exact absurd (by decide) q2
        show Inv (wRepair σ i j k)
        unfold wRepair
        refine (InvX.t ((I.X fun _ _ => False).jnt (E' := fun _ _ => False) (τ := wV (wR (wV σ 8 i j 119) 1 i j (some k)) 9 i j (sV σ 9 i j + 1)) hj rfl (fun f a b h8 h9 => by rw [sV_nei h9, sV_wR, sV_nei h8]) (fun f a b h1 => by rw [sR_wV, sR_nei h1]; rfl) ?_ ?_ ?_ ?_ (fun _ _ h _ => h) (fun _ _ => may_two m)) (Or.inl rfl) hi).I (fun _ _ z => z)
        · simp [sV_wR, sV_wV]
        · rw [sV_wV, if_pos ⟨rfl, rfl, rfl⟩]; exact r9
        · simp [sV_wR, sV_wV, sR_wR, sR_wV]
        · intro x z; simp [sR_wR, sR_wV] at z; omega
      · rw [if_neg m]; exact I
  · rw [if_neg q]; exact I
theorem Inv.cutOut (I : Inv σ) {l p : Int32} : Inv (spCutOut σ l p).2.2 := by
  unfold spCutOut
  refine oJoint_k I I.c fun i j hi hj => ?_
  by_cases q : sV σ 8 i j = 98
  · rw [if_pos q]
    by_cases q2 : 2 ≤ sV σ 9 i j
    · rw [if_pos q2]
      refine Inv.v ((InvX.t ((I.X fun _ _ => False).jnt (E' := fun _ _ => False) (τ := wR (wV (wV σ 8 i j 110) 9 i j 0) 1 i j none) hj rfl (fun f a b h8 h9 => by rw [sV_wR, sV_nei h9, sV_nei h8]) (fun f a b h1 => by rw [sR_nei h1]; rfl) ?_ ?_ ?_ ?_ (fun _ _ h _ => h) (fun _ z => ?_)) (Or.inl rfl) hi).I (fun _ _ z => z)) 0 2 0 _ (Or.inl rfl) (fun z => by omega) (fun z => by omega) (fun z => by omega)
      · simp [sV_wR, sV_wV]
      · simp [sV_wR, sV_wV]
      · simp [sV_wR, sV_wV, sR_wR]
      · intro x z; simp [sR_wR] at z
      · exact absurd (by simp [sV_wR, sV_wV]) z
    · rw [if_neg q2]; exact I
  · rw [if_neg q]; exact I
theorem Inv.lookV (I : Inv σ) {i j : Nat} {v : Int32} (hj : j < sN σ 4 i - 1) (q : sV σ 8 i j = 119) (hv : v = 103 ∨ v = 98) : Inv (wV σ 8 i j v) := by
  have n0 : ¬ v = 110 := by rcases hv with rfl | rfl <;> decide
  have e : sV (wV σ 8 i j v) 8 i j = v := by rw [sV_wV, if_pos ⟨rfl, rfl, rfl⟩]
  have n1 : ¬ sV σ 8 i j = 110 := by rw [q]; decide
  refine ((I.X fun _ _ => False).jnt (E' := fun _ _ => False) (τ := wV σ 8 i j v) hj rfl (fun f a b h8 _ => sV_nei h8) (fun f a b _ => rfl) ?_ ?_ ?_ ?_ (fun _ _ h _ => h) (fun _ _ => I.jt i j n1)).I (fun _ _ z => z)
  · rw [e]; rcases hv with rfl | rfl <;> decide
  · rw [sV_ne (by decide)]; exact I.rp i j
  · rw [e]
    refine ⟨fun z => absurd z n0, fun z => absurd ((I.jw i j).mpr z) n1⟩
  · intro x z; exact I.r.2.1 i j x z
theorem Inv.look (I : Inv σ) {l p w : Int32} : Inv (spLook σ l p w).2.2 := by
  unfold spLook
  refine oJoint_k I I.c fun i j hi hj => ?_
  by_cases q : sV σ 8 i j = 119
  · rw [if_pos q]
    cases e : sR σ 1 i j with
    | none => exact I
    | some k =>
      dsimp only
      have hk := I.r.2.1 i j k e
      by_cases g : w = 0
      · rw [if_pos g]
        show Inv (wBadLook σ i j k)
        unfold wBadLook
        refine Inv.t (Inv.v (Inv.v (I.lookV hj q (Or.inr rfl)) 16 k 0 _ (by decide) (fun z => by omega) (fun z => by omega) (fun _ => hk)) 3 i 0 _ (by decide) (fun z => by omega) (fun _ => hi) (fun z => by omega)) (Or.inl rfl) hi
      · rw [if_neg g]; exact I.lookV hj q (Or.inl rfl)
  · rw [if_neg q]; exact I
theorem Inv.blinds (I : Inv σ) {l a v : Int32} (hv : v = 0 ∨ v = 1) : Inv (spBlind σ l a v).2.2 := by
  unfold spBlind
  refine oRow_k I (by have := I.c.1; omega) fun i hi => ?_
  by_cases z : v = 0
  · rw [if_pos z]; exact I.blind hv hi (Or.inl z)
  · rw [if_neg z]
    cases e : sR σ 2 i (eN a) with
    | none => exact I.blind hv hi (Or.inr e)
    | some k => exact I
theorem Inv.setLength (I : Inv σ) {l p len : Int32} : Inv (spSetLength σ l p len).2.2 := by
  unfold spSetLength
  refine oPart_k I I.c fun i j hi hj => ?_
  by_cases q : isLen len = true
  · rw [if_pos q]
    by_cases q2 : sV σ 6 i j = 115
    · rw [if_pos q2]
      by_cases q3 : sV σ 7 i j = len
      · rw [if_pos q3]; exact I
      · rw [if_neg q3]
        have q4 : ¬ len < 100 ∧ ¬ 6000 < len := by
          unfold isLen at q
          simpa using q
        obtain ⟨s, -, hs, rfl⟩ := rng (lo := 100) (hi := 6000) (by decide) (by decide) q4.1 (Int32.not_lt.mp q4.2)
        have eb := (zSt.back I hi hj).2
        have XB := I.back hi hj
        refine InvX.undo (InvX.stl XB (E' := fun l b => l = i ∧ (b = j ∨ b + 1 = j)) (i := i) (j := j) (by rw [wBack_N]; exact hj) rfl (fun f a b h7 _ => sV_ne h7) (fun f a b _ => rfl) (fun k z => ?_) (zSt.size (zSt.back I hi hj).1 hs eb) (fun l b h => ⟨h, h⟩)) (by rw [sN_wV, wBack_N]; exact hi)
        rw [sR_wV, eb] at z; cases z
    · rw [if_neg q2]; exact I
  · rw [if_neg q]; exact I
theorem back_same {i j k : Nat} (h : sV σ 7 i j ≤ sV σ 13 k 0) (ne : ¬ sR σ 0 i j = some k) : sV (wBack σ i j) 7 i j ≤ sV (wBack σ i j) 13 k 0 := by
  unfold wBack
  cases e : sR σ 0 i j with
  | none => exact h
  | some q =>
    dsimp only
    have : ¬ k = q := fun z => ne (by rw [e, z])
    rw [sV_wR, sV_ne (by decide), sV_nei (fun z => this z.2.1)]
    exact h
theorem Inv.give (I : Inv σ) {l p q : Int32} : Inv (spGive σ l p q).2.2 := by
  unfold spGive
  refine oPart_k I I.c fun i j hi hj => oRow_k I (by have := I.c.2.1; omega) fun k hk => ?_
  by_cases q : sR σ 0 i j = some k
  · rw [if_pos q]; exact I
  · rw [if_neg q]
    by_cases q2 : sV σ 7 i j ≤ sV σ 13 k 0
    · rw [if_pos q2]
      have eb := (zSt.back I hi hj).2
      have n0 := wBack_N σ i j
      refine InvX.undo (InvX.stl (I.back hi hj) (E' := fun l b => l = i ∧ (b = j ∨ b + 1 = j)) (i := i) (j := j) (by rw [n0]; exact hj) rfl (fun f a b _ h13 => by unfold wTake; rw [sV_wR, sV_ne h13]) (fun f a b h => by unfold wTake; rw [sR_nei h]; rfl) (fun x z => ?_) (zSt.take (zSt.back I hi hj).1 (by rw [n0]; exact hi) (by rw [n0]; exact hj) (by rw [n0]; exact hk) eb (back_same q2 q)) (fun l b h => ⟨h, h⟩)) ?_
      · unfold wTake at z
        rw [sR_wR, if_pos ⟨rfl, rfl, rfl⟩] at z
        rw [n0]
        have := Option.some.inj z
        omega
      · unfold wTake
        rw [sN_wR, sN_wV, n0]
        exact hi
    · rw [if_neg q2]; exact I
theorem Inv.ahead (I : Inv σ) {a b : Int32} : Inv (spAhead σ a b).2.2 := by
  unfold spAhead
  refine oRow_k I (by have := I.c.1; omega) fun i hi => oRow_k I (by have := I.c.1; omega) fun j hj => ?_
  by_cases q : i = j
  · rw [if_pos q]; exact I
  · rw [if_neg q]
    by_cases q2 : hb (spAll σ i) (nI j) = true
    · rw [if_pos q2]; exact I
    · rw [if_neg q2]
      have g := zGr.ahead I hi hj q q2
      show Inv (wV σ 5 j 0 (sV σ 5 j 0 ||| (1 <<< (nI i &&& 31))))
      generalize (sV σ 5 j 0 ||| (1 <<< (nI i &&& 31))) = v at g ⊢
      obtain ⟨c, r, al, fl, sh, nw, rp, jw, gr, st, jt, mt⟩ := I.X fun _ _ => False
      have ne : ∀ k, k ≠ 5 → ∀ x y, sV (wV σ 5 j 0 v) k x y = sV σ k x y := fun k hk x y => sV_ne hk
      refine InvX.I (E := fun _ _ => False) ⟨c, r, al.of rfl fun q => ne 11 (by decide) q 0, fl.wV 5 j 0 v (fun z => by omega) (fun z => by omega), sh.of rfl (fun l => ne 1 (by decide) l 0) (fun l => ne 2 (by decide) l 0), ⟨?_, ?_, nw.2.2.1, ?_⟩, rp.of (ne 9 (by decide)), jw.of (ne 8 (by decide)) (fun _ _ => rfl), g, st.of rfl (ne 7 (by decide)) (fun _ _ => rfl) (fun q => ne 13 (by decide) q 0) (fun q => ne 12 (by decide) q 0), jt.of (ne 8 (by decide)) (fun _ _ => rfl) (fun q => ne 11 (by decide) q 0), mt.of (fun _ _ => rfl) (ne 10 (by decide))⟩ (fun _ _ z => z)
      · intro w hw2
        obtain ⟨n1, n2⟩ := nw.1 w hw2
        exact ⟨by rw [ne 16 (by decide)]; exact n1, fun x => by rw [ne 15 (by decide)]; exact n2 x⟩
      · intro l hl
        obtain ⟨n0, n1, n2, n3, n4, n5⟩ := nw.2.1 l hl
        have hl3 : sN σ 0 0 ≤ l := hl
        exact ⟨n0, by rw [ne 3 (by decide)]; exact n1, by rw [ne 4 (by decide)]; exact n2, by rw [sV_nei (fun z => by omega)]; exact n3, fun x => by rw [ne 10 (by decide)]; exact n4 x, n5⟩
      · intro l j2 hj
        obtain ⟨n1, n2, n3⟩ := nw.2.2.2 l j2 hj
        exact ⟨by rw [ne 8 (by decide)]; exact n1, by rw [ne 9 (by decide)]; exact n2, n3⟩
theorem tS_k (bits : Int32) : ∀ k i t, i + k ≤ sN t.1 0 0 → Inv t.1 → Inv (zfo (tStep bits) k i t).1 := by
  intro k
  induction k with
  | zero => intro i t _ I; exact I
  | succ k ih =>
    intro i t hi I
    refine ih (i + 1) (tStep bits i t) ?_ ?_
    · unfold tStep
      split
      · show i + 1 + k ≤ sN t.1 0 0; omega
      · show i + 1 + k ≤ sN t.1 0 0; omega
    · unfold tStep
      split
      · exact I.t (Or.inr rfl) (by omega)
      · exact I
theorem Inv.testAll (I : Inv σ) {l : Int32} : Inv (spTestAll σ l).2.2 := by
  unfold spTestAll
  refine oRow_k I (by have := I.c.2.2.2.1; omega) fun i hi => ?_
  split
  · exact tS_k _ _ 0 (σ, 0) (Nat.le_of_eq (Nat.zero_add _)) I
  · exact I
end KQ
