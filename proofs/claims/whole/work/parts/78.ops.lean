/-! each of the law's own helpers: what the class answers, and when it refuses -/
section OPQ
variable {σ : zS} {Q : zO → Prop}
theorem oRow_q {k : Nat} {l : Int32} {f : Nat → zO} (h0 : Q (3, 0, σ)) (h : ∀ i, Q (f i)) : Q (oRow σ k l f) := by
  unfold oRow
  split
  · exact h0
  · exact h _
theorem oPart_q {l p : Int32} {f : Nat → Nat → zO} (h0 : Q (3, 0, σ)) (h : ∀ i j, Q (f i j)) : Q (oPart σ l p f) := by
  unfold oPart
  split
  · exact h0
  · split
    · exact h0
    · exact h _ _
theorem oJoint_q {l p : Int32} {f : Nat → Nat → zO} (h0 : Q (3, 0, σ)) (h : ∀ i j, Q (f i j)) : Q (oJoint σ l p f) := by
  unfold oJoint
  split
  · exact h0
  · split
    · exact h0
    · exact h _ _
theorem exA {a b c : Nat} {v : Int32} (ha : a ≠ 0) (h9 : a < 9) : exOk σ a b c (a, v, σ) := Or.inr ⟨ha, rfl, Or.inl rfl, h9⟩
theorem exB {a b c : Nat} {v : Int32} (ha : b ≠ 0) (h9 : b < 9) : exOk σ a b c (b, v, σ) := Or.inr ⟨ha, rfl, Or.inr (Or.inl rfl), h9⟩
theorem exC {a b c : Nat} {v : Int32} (ha : c ≠ 0) (h9 : c < 9) : exOk σ a b c (c, v, σ) := Or.inr ⟨ha, rfl, Or.inr (Or.inr rfl), h9⟩
def boOk (o : zO) : Prop := o.1 = 0 → o.2.1 = 0 ∨ o.2.1 = 1
theorem boE {e : Nat} {v : Int32} {s : zS} (he : e ≠ 0) : boOk (e, v, s) := fun z => absurd z he
theorem boV {e : Nat} {v : Int32} {s : zS} (hv : v = 0 ∨ v = 1) : boOk (e, v, s) := fun _ => hv
theorem b2_01 (b : Bool) : b2 b = 0 ∨ b2 b = 1 := by cases b <;> decide
theorem hx1 {x : Nat} {KK : Int32 → AH → Prop} : ∀ (e : Nat) (h' : AH), e < 9 → (if e = x then KK 1 h' else if e = 9 then KK 2 h' else if e = 9 then KK 3 h' else False) → (if e = x then KK 1 h' else False) := fun e h' he q => by
  by_cases z : e = x
  · rw [if_pos z] at q ⊢; exact q
  · rw [if_neg z, if_neg (by omega), if_neg (by omega)] at q; exact q.elim
theorem hx2 {x y : Nat} {KK : Int32 → AH → Prop} : ∀ (e : Nat) (h' : AH), e < 9 → (if e = x then KK 1 h' else if e = y then KK 2 h' else if e = 9 then KK 3 h' else False) → (if e = x then KK 1 h' else if e = y then KK 2 h' else False) := fun e h' he q => by
  by_cases z : e = x
  · rw [if_pos z] at q ⊢; exact q
  rw [if_neg z] at q ⊢
  by_cases z2 : e = y
  · rw [if_pos z2] at q ⊢; exact q
  · rw [if_neg z2, if_neg (by omega)] at q; exact q.elim
theorem hx3 {x y z : Nat} {KK : Int32 → AH → Prop} : ∀ (e : Nat) (h' : AH), e < 9 → (if e = x then KK 1 h' else if e = y then KK 2 h' else if e = z then KK 3 h' else False) → (if e = x then KK 1 h' else if e = y then KK 2 h' else if e = z then KK 3 h' else False) := fun _ _ _ q => q
end OPQ
section OPL
variable {g : Nat → Nat} {B b L : Nat} {xs : Nat → Int32} {σ : zS} {h : AH} {Xf : Nat → AH → Prop} {KK : Int32 → AH → Prop}

theorem ex_addLine {n : Int32} : exOk σ 1 2 9 (spAddLine σ n) := by
  unfold spAddLine
  try dsimp only
  repeat' split
  all_goals first | exact Or.inl rfl | exact exA (by decide) (by decide) | exact exB (by decide) (by decide) | exact exC (by decide) (by decide)
theorem LW.addLine (W : LW g B b L xs σ σ h) (I : Inv σ) {n : Int32}  (kk : ∀ h3, LW g B b L xs (spAddLine σ n).2.2 σ h3 → ((spAddLine σ n).1 = 0 → aJ h3 (B + 124) 0 = (spAddLine σ n).2.1.toInt64) → KK (cd3 1 2 9 (spAddLine σ n).1) h3) : f_L_addLine g (some B) n (some (B + 124)) h Xf KK := by
  unfold f_L_addLine
  rw [W.cB]
  exact W.1.addLine I.c (W.yP ex_addLine (fun _ h2 w2 k2 => w2.sI k2) kk hx2)
theorem ex_addPart {l k len : Int32} : exOk σ 3 1 2 (spAddPart σ l k len) := by
  unfold spAddPart
  refine oRow_q (Q := exOk σ 3 1 2) (exA (by decide) (by decide)) fun _ => ?_
  unfold spPut
  try dsimp only
  repeat' split
  all_goals first | exact Or.inl rfl | exact exA (by decide) (by decide) | exact exB (by decide) (by decide) | exact exC (by decide) (by decide)
theorem LW.addPart (W : LW g B b L xs σ σ h) (I : Inv σ) {l k len : Int32}  (kk : ∀ h3, LW g B b L xs (spAddPart σ l k len).2.2 σ h3 → ((spAddPart σ l k len).1 = 0 → aJ h3 (B + 124) 0 = (spAddPart σ l k len).2.1.toInt64) → KK (cd3 3 1 2 (spAddPart σ l k len).1) h3) : f_L_addPart g (some B) l k len (some (B + 124)) h Xf KK := by
  unfold f_L_addPart
  rw [W.cB]
  exact W.1.addPart I.c (W.yP ex_addPart (fun _ h2 w2 k2 => w2.sI k2) kk hx3)
theorem ex_setLength {l p len : Int32} : exOk σ 3 1 4 (spSetLength σ l p len) := by
  unfold spSetLength
  refine oPart_q (Q := exOk σ 3 1 4) (exA (by decide) (by decide)) fun _ _ => ?_
  try dsimp only
  repeat' split
  all_goals first | exact Or.inl rfl | exact exA (by decide) (by decide) | exact exB (by decide) (by decide) | exact exC (by decide) (by decide)
theorem LW.setLength (W : LW g B b L xs σ σ h) (I : Inv σ) {l p len : Int32}  (kk : ∀ h3, LW g B b L xs (spSetLength σ l p len).2.2 σ h3 → ((spSetLength σ l p len).1 = 0 → aJ h3 (B + 124) 0 = (spSetLength σ l p len).2.1.toInt64) → KK (cd3 3 1 4 (spSetLength σ l p len).1) h3) : f_L_setLength g (some B) l p len (some (B + 124)) h Xf KK := by
  unfold f_L_setLength
  rw [W.cB]
  exact W.1.setLength I.c I.r (W.yP ex_setLength (fun _ h2 w2 k2 => w2.sI k2) kk hx3)
theorem ex_length {l : Int32} : exOk σ 3 9 9 (oRow σ 0 l fun i => (0, spTotal σ i, σ)) := by
  refine oRow_q (Q := exOk σ 3 9 9) (exA (by decide) (by decide)) fun _ => ?_
  try dsimp only
  repeat' split
  all_goals first | exact Or.inl rfl | exact exA (by decide) (by decide) | exact exB (by decide) (by decide) | exact exC (by decide) (by decide)
theorem st_length {l : Int32} : (oRow σ 0 l fun i => (0, spTotal σ i, σ)).2.2 = σ := by
  refine oRow_q (Q := fun o => o.2.2 = σ) (rfl) fun _ => ?_
  try dsimp only
  repeat' split
  all_goals rfl
theorem LW.length (W : LW g B b L xs σ σ h) (I : Inv σ) {l : Int32}  (kk : ∀ h3, LW g B b L xs (oRow σ 0 l fun i => (0, spTotal σ i, σ)).2.2 σ h3 → ((oRow σ 0 l fun i => (0, spTotal σ i, σ)).1 = 0 → aJ h3 (B + 124) 0 = (oRow σ 0 l fun i => (0, spTotal σ i, σ)).2.1.toInt64) → KK (cd3 3 9 9 (oRow σ 0 l fun i => (0, spTotal σ i, σ)).1) h3) : f_L_length g (some B) l (some (B + 124)) h Xf KK := by
  unfold f_L_length
  rw [W.cB]
  rw [W.1.length I.c]
  exact (W.yP ex_length (fun _ h2 w2 k2 => w2.sI k2) kk hx1).run W.1 (fun _ => st_length)
theorem ex_spools {l : Int32} : exOk σ 3 9 9 (oRow σ 0 l fun i => (0, spSpools σ i, σ)) := by
  refine oRow_q (Q := exOk σ 3 9 9) (exA (by decide) (by decide)) fun _ => ?_
  try dsimp only
  repeat' split
  all_goals first | exact Or.inl rfl | exact exA (by decide) (by decide) | exact exB (by decide) (by decide) | exact exC (by decide) (by decide)
theorem st_spools {l : Int32} : (oRow σ 0 l fun i => (0, spSpools σ i, σ)).2.2 = σ := by
  refine oRow_q (Q := fun o => o.2.2 = σ) (rfl) fun _ => ?_
  try dsimp only
  repeat' split
  all_goals rfl
theorem LW.spools (W : LW g B b L xs σ σ h) (I : Inv σ) {l : Int32}  (kk : ∀ h3, LW g B b L xs (oRow σ 0 l fun i => (0, spSpools σ i, σ)).2.2 σ h3 → ((oRow σ 0 l fun i => (0, spSpools σ i, σ)).1 = 0 → aJ h3 (B + 124) 0 = (oRow σ 0 l fun i => (0, spSpools σ i, σ)).2.1.toInt64) → KK (cd3 3 9 9 (oRow σ 0 l fun i => (0, spSpools σ i, σ)).1) h3) : f_L_spools g (some B) l (some (B + 124)) h Xf KK := by
  unfold f_L_spools
  rw [W.cB]
  rw [W.1.spools I.c]
  exact (W.yP ex_spools (fun _ h2 w2 k2 => w2.sI k2) kk hx1).run W.1 (fun _ => st_spools)
theorem ex_spoolOf {l p : Int32} : exOk σ 3 9 9 (oPart σ l p fun i j => (0, spSpool σ i j, σ)) := by
  refine oPart_q (Q := exOk σ 3 9 9) (exA (by decide) (by decide)) fun _ _ => ?_
  try dsimp only
  repeat' split
  all_goals first | exact Or.inl rfl | exact exA (by decide) (by decide) | exact exB (by decide) (by decide) | exact exC (by decide) (by decide)
theorem st_spoolOf {l p : Int32} : (oPart σ l p fun i j => (0, spSpool σ i j, σ)).2.2 = σ := by
  refine oPart_q (Q := fun o => o.2.2 = σ) (rfl) fun _ _ => ?_
  try dsimp only
  repeat' split
  all_goals rfl
theorem LW.spoolOf (W : LW g B b L xs σ σ h) (I : Inv σ) {l p : Int32}  (kk : ∀ h3, LW g B b L xs (oPart σ l p fun i j => (0, spSpool σ i j, σ)).2.2 σ h3 → ((oPart σ l p fun i j => (0, spSpool σ i j, σ)).1 = 0 → aJ h3 (B + 124) 0 = (oPart σ l p fun i j => (0, spSpool σ i j, σ)).2.1.toInt64) → KK (cd3 3 9 9 (oPart σ l p fun i j => (0, spSpool σ i j, σ)).1) h3) : f_L_spoolOf g (some B) l p (some (B + 124)) h Xf KK := by
  unfold f_L_spoolOf
  rw [W.cB]
  rw [W.1.spoolOf I.c]
  exact (W.yP ex_spoolOf (fun _ h2 w2 k2 => w2.sI k2) kk hx1).run W.1 (fun _ => st_spoolOf)
theorem ex_isField {l p : Int32} : exOk σ 3 9 9 (oJoint σ l p fun i j => (0, (if spSpool σ i j = spSpool σ i (j + 1) then 0 else 1), σ)) := by
  refine oJoint_q (Q := exOk σ 3 9 9) (exA (by decide) (by decide)) fun _ _ => ?_
  try dsimp only
  repeat' split
  all_goals first | exact Or.inl rfl | exact exA (by decide) (by decide) | exact exB (by decide) (by decide) | exact exC (by decide) (by decide)
theorem st_isField {l p : Int32} : (oJoint σ l p fun i j => (0, (if spSpool σ i j = spSpool σ i (j + 1) then 0 else 1), σ)).2.2 = σ := by
  refine oJoint_q (Q := fun o => o.2.2 = σ) (rfl) fun _ _ => ?_
  try dsimp only
  repeat' split
  all_goals rfl
theorem bo_isField {l p : Int32} (I : Inv σ)  : boOk (oJoint σ l p fun i j => (0, (if spSpool σ i j = spSpool σ i (j + 1) then 0 else 1), σ)) := by
  refine oJoint_q (Q := boOk) (boE (by decide)) fun _ _ => boV ?_
  split
  · exact Or.inl rfl
  · exact Or.inr rfl
theorem LW.isField (W : LW g B b L xs σ σ h) (I : Inv σ) {l p : Int32}  (kk : ∀ h3, LW g B b L xs (oJoint σ l p fun i j => (0, (if spSpool σ i j = spSpool σ i (j + 1) then 0 else 1), σ)).2.2 σ h3 → ((oJoint σ l p fun i j => (0, (if spSpool σ i j = spSpool σ i (j + 1) then 0 else 1), σ)).1 = 0 → aJ h3 (B + 124) 0 = (oJoint σ l p fun i j => (0, (if spSpool σ i j = spSpool σ i (j + 1) then 0 else 1), σ)).2.1.toInt64) → KK (cd3 3 9 9 (oJoint σ l p fun i j => (0, (if spSpool σ i j = spSpool σ i (j + 1) then 0 else 1), σ)).1) h3) : f_L_isField g (some B) l p (some (B + 124)) h Xf KK := by
  unfold f_L_isField
  rw [W.cB]
  rw [W.1.isField I.c]
  exact (W.yP ex_isField (fun hz h2 w2 k2 => w2.sB (bo_isField I  hz) k2) kk hx1).run W.1 (fun _ => st_isField)
theorem ex_addHeat {a len v : Int32} : exOk σ 1 2 9 (spAddHeat σ a len v) := by
  unfold spAddHeat
  try dsimp only
  repeat' split
  all_goals first | exact Or.inl rfl | exact exA (by decide) (by decide) | exact exB (by decide) (by decide) | exact exC (by decide) (by decide)
theorem LW.addHeat (W : LW g B b L xs σ σ h) (I : Inv σ) {a len v : Int32} (hv : v = 0 ∨ v = 1) (kk : ∀ h3, LW g B b L xs (spAddHeat σ a len v).2.2 σ h3 → ((spAddHeat σ a len v).1 = 0 → aJ h3 (B + 124) 0 = (spAddHeat σ a len v).2.1.toInt64) → KK (cd3 1 2 9 (spAddHeat σ a len v).1) h3) : f_L_addHeat g (some B) a len v (some (B + 124)) h Xf KK := by
  unfold f_L_addHeat
  rw [W.cB]
  exact W.1.addHeat I.c hv (W.yP ex_addHeat (fun _ h2 w2 k2 => w2.sI k2) kk hx2)
theorem ex_left {l : Int32} : exOk σ 3 9 9 (oRow σ 1 l fun i => (0, sV σ 13 i 0, σ)) := by
  refine oRow_q (Q := exOk σ 3 9 9) (exA (by decide) (by decide)) fun _ => ?_
  try dsimp only
  repeat' split
  all_goals first | exact Or.inl rfl | exact exA (by decide) (by decide) | exact exB (by decide) (by decide) | exact exC (by decide) (by decide)
theorem st_left {l : Int32} : (oRow σ 1 l fun i => (0, sV σ 13 i 0, σ)).2.2 = σ := by
  refine oRow_q (Q := fun o => o.2.2 = σ) (rfl) fun _ => ?_
  try dsimp only
  repeat' split
  all_goals rfl
theorem LW.left (W : LW g B b L xs σ σ h) (I : Inv σ) {l : Int32}  (kk : ∀ h3, LW g B b L xs (oRow σ 1 l fun i => (0, sV σ 13 i 0, σ)).2.2 σ h3 → ((oRow σ 1 l fun i => (0, sV σ 13 i 0, σ)).1 = 0 → aJ h3 (B + 124) 0 = (oRow σ 1 l fun i => (0, sV σ 13 i 0, σ)).2.1.toInt64) → KK (cd3 3 9 9 (oRow σ 1 l fun i => (0, sV σ 13 i 0, σ)).1) h3) : f_L_left g (some B) l (some (B + 124)) h Xf KK := by
  unfold f_L_left
  rw [W.cB]
  rw [W.1.left I.c]
  exact (W.yP ex_left (fun _ h2 w2 k2 => w2.sI k2) kk hx1).run W.1 (fun _ => st_left)
theorem ex_losePaper {l : Int32} : exOk σ 3 9 9 (spPaper σ l 0) := by
  unfold spPaper
  refine oRow_q (Q := exOk σ 3 9 9) (exA (by decide) (by decide)) fun _ => ?_
  try dsimp only
  repeat' split
  all_goals first | exact Or.inl rfl | exact exA (by decide) (by decide) | exact exB (by decide) (by decide) | exact exC (by decide) (by decide)
theorem bo_losePaper {l : Int32} (I : Inv σ)  : boOk (spPaper σ l 0) := by
  unfold spPaper
  refine oRow_q (Q := boOk) (boE (by decide)) fun _ => ?_
  try dsimp only
  repeat' split
  all_goals first | exact boE (by decide) | exact boV (b2_01 _) | exact boV (Or.inl rfl) | exact boV (Or.inr rfl) | exact boV (I.fl.1 _) | exact boV (I.fl.2.1 _ _) | exact boV (I.fl.2.2.1 _)
theorem LW.losePaper (W : LW g B b L xs σ σ h) (I : Inv σ) {l : Int32}  (kk : ∀ h3, LW g B b L xs (spPaper σ l 0).2.2 σ h3 → ((spPaper σ l 0).1 = 0 → aJ h3 (B + 124) 0 = (spPaper σ l 0).2.1.toInt64) → KK (cd3 3 9 9 (spPaper σ l 0).1) h3) : f_L_losePaper g (some B) l (some (B + 124)) h Xf KK := by
  unfold f_L_losePaper
  rw [W.cB]
  unfold f_X6_losePaper
  rw [W.cB]
  exact W.1.paper I.c I.fl (Or.inl rfl) (W.yP ex_losePaper (fun hz h2 w2 k2 => w2.sB (bo_losePaper I  hz) k2) kk hx1)
theorem ex_test {l : Int32} : exOk σ 3 9 9 (spPaper σ l 1) := by
  unfold spPaper
  refine oRow_q (Q := exOk σ 3 9 9) (exA (by decide) (by decide)) fun _ => ?_
  try dsimp only
  repeat' split
  all_goals first | exact Or.inl rfl | exact exA (by decide) (by decide) | exact exB (by decide) (by decide) | exact exC (by decide) (by decide)
theorem bo_test {l : Int32} (I : Inv σ)  : boOk (spPaper σ l 1) := by
  unfold spPaper
  refine oRow_q (Q := boOk) (boE (by decide)) fun _ => ?_
  try dsimp only
  repeat' split
  all_goals first | exact boE (by decide) | exact boV (b2_01 _) | exact boV (Or.inl rfl) | exact boV (Or.inr rfl) | exact boV (I.fl.1 _) | exact boV (I.fl.2.1 _ _) | exact boV (I.fl.2.2.1 _)
theorem LW.test (W : LW g B b L xs σ σ h) (I : Inv σ) {l : Int32}  (kk : ∀ h3, LW g B b L xs (spPaper σ l 1).2.2 σ h3 → ((spPaper σ l 1).1 = 0 → aJ h3 (B + 124) 0 = (spPaper σ l 1).2.1.toInt64) → KK (cd3 3 9 9 (spPaper σ l 1).1) h3) : f_L_test g (some B) l (some (B + 124)) h Xf KK := by
  unfold f_L_test
  rw [W.cB]
  unfold f_X6_test
  rw [W.cB]
  exact W.1.paper I.c I.fl (Or.inr rfl) (W.yP ex_test (fun hz h2 w2 k2 => w2.sB (bo_test I  hz) k2) kk hx1)
theorem ex_give {l p q : Int32} : exOk σ 3 4 9 (spGive σ l p q) := by
  unfold spGive
  refine oPart_q (Q := exOk σ 3 4 9) (exA (by decide) (by decide)) fun _ _ => ?_
  refine oRow_q (Q := exOk σ 3 4 9) (exA (by decide) (by decide)) fun _ => ?_
  try dsimp only
  repeat' split
  all_goals first | exact Or.inl rfl | exact exA (by decide) (by decide) | exact exB (by decide) (by decide) | exact exC (by decide) (by decide)
theorem LW.give (W : LW g B b L xs σ σ h) (I : Inv σ) {l p q : Int32}  (kk : ∀ h3, LW g B b L xs (spGive σ l p q).2.2 σ h3 → ((spGive σ l p q).1 = 0 → aJ h3 (B + 124) 0 = (spGive σ l p q).2.1.toInt64) → KK (cd3 3 4 9 (spGive σ l p q).1) h3) : f_L_give g (some B) l p q (some (B + 124)) h Xf KK := by
  unfold f_L_give
  rw [W.cB]
  exact W.1.give I.c I.r (W.yP ex_give (fun _ h2 w2 k2 => w2.sI k2) kk hx2)
theorem ex_heatOf {l p : Int32} : exOk σ 3 5 9 (oPart σ l p fun i j => match sR σ 0 i j with | none => (5, 0, σ) | some q => (0, nI q, σ)) := by
  refine oPart_q (Q := exOk σ 3 5 9) (exA (by decide) (by decide)) fun _ _ => ?_
  try dsimp only
  repeat' split
  all_goals first | exact Or.inl rfl | exact exA (by decide) (by decide) | exact exB (by decide) (by decide) | exact exC (by decide) (by decide)
theorem st_heatOf {l p : Int32} : (oPart σ l p fun i j => match sR σ 0 i j with | none => (5, 0, σ) | some q => (0, nI q, σ)).2.2 = σ := by
  refine oPart_q (Q := fun o => o.2.2 = σ) (rfl) fun _ _ => ?_
  try dsimp only
  repeat' split
  all_goals rfl
theorem LW.heatOf (W : LW g B b L xs σ σ h) (I : Inv σ) {l p : Int32}  (kk : ∀ h3, LW g B b L xs (oPart σ l p fun i j => match sR σ 0 i j with | none => (5, 0, σ) | some q => (0, nI q, σ)).2.2 σ h3 → ((oPart σ l p fun i j => match sR σ 0 i j with | none => (5, 0, σ) | some q => (0, nI q, σ)).1 = 0 → aJ h3 (B + 124) 0 = (oPart σ l p fun i j => match sR σ 0 i j with | none => (5, 0, σ) | some q => (0, nI q, σ)).2.1.toInt64) → KK (cd3 3 5 9 (oPart σ l p fun i j => match sR σ 0 i j with | none => (5, 0, σ) | some q => (0, nI q, σ)).1) h3) : f_L_heatOf g (some B) l p (some (B + 124)) h Xf KK := by
  unfold f_L_heatOf
  rw [W.cB]
  rw [W.1.heatOf I.c I.r]
  exact (W.yP ex_heatOf (fun _ h2 w2 k2 => w2.sI k2) kk hx2).run W.1 (fun _ => st_heatOf)
theorem ex_bestHeat {l p al : Int32} : exOk σ 3 1 5 (spBest σ l p al) := by
  unfold spBest
  refine oPart_q (Q := exOk σ 3 1 5) (exA (by decide) (by decide)) fun _ _ => ?_
  try dsimp only
  repeat' split
  all_goals first | exact Or.inl rfl | exact exA (by decide) (by decide) | exact exB (by decide) (by decide) | exact exC (by decide) (by decide)
theorem st_bestHeat {l p al : Int32} : (spBest σ l p al).2.2 = σ := by
  unfold spBest
  refine oPart_q (Q := fun o => o.2.2 = σ) (rfl) fun _ _ => ?_
  try dsimp only
  repeat' split
  all_goals rfl
theorem LW.bestHeat (W : LW g B b L xs σ σ h) (I : Inv σ) {l p al : Int32}  (kk : ∀ h3, LW g B b L xs (spBest σ l p al).2.2 σ h3 → ((spBest σ l p al).1 = 0 → aJ h3 (B + 124) 0 = (spBest σ l p al).2.1.toInt64) → KK (cd3 3 1 5 (spBest σ l p al).1) h3) : f_L_bestHeat g (some B) l p al (some (B + 124)) h Xf KK := by
  unfold f_L_bestHeat
  rw [W.cB]
  rw [W.1.bestHeat I.c]
  exact (W.yP ex_bestHeat (fun _ h2 w2 k2 => w2.sI k2) kk hx3).run W.1 (fun _ => st_bestHeat)
theorem ex_addWelder  : exOk σ 2 9 9 (spAddWelder σ) := by
  unfold spAddWelder
  try dsimp only
  repeat' split
  all_goals first | exact Or.inl rfl | exact exA (by decide) (by decide) | exact exB (by decide) (by decide) | exact exC (by decide) (by decide)
theorem LW.addWelder (W : LW g B b L xs σ σ h) (I : Inv σ)   (kk : ∀ h3, LW g B b L xs (spAddWelder σ).2.2 σ h3 → ((spAddWelder σ).1 = 0 → aJ h3 (B + 124) 0 = (spAddWelder σ).2.1.toInt64) → KK (cd3 2 9 9 (spAddWelder σ).1) h3) : f_L_addWelder g (some B)  (some (B + 124)) h Xf KK := by
  unfold f_L_addWelder
  rw [W.cB]
  exact W.1.addWelder I.c (W.yP ex_addWelder (fun _ h2 w2 k2 => w2.sI k2) kk hx1)
theorem ex_ticket {w a d : Int32} : exOk σ 3 1 9 (spTicket σ w a d) := by
  unfold spTicket
  refine oRow_q (Q := exOk σ 3 1 9) (exA (by decide) (by decide)) fun _ => ?_
  try dsimp only
  repeat' split
  all_goals first | exact Or.inl rfl | exact exA (by decide) (by decide) | exact exB (by decide) (by decide) | exact exC (by decide) (by decide)
theorem LW.ticket (W : LW g B b L xs σ σ h) (I : Inv σ) {w a d : Int32}  (kk : ∀ h3, LW g B b L xs (spTicket σ w a d).2.2 σ h3 → ((spTicket σ w a d).1 = 0 → aJ h3 (B + 124) 0 = (spTicket σ w a d).2.1.toInt64) → KK (cd3 3 1 9 (spTicket σ w a d).1) h3) : f_L_ticket g (some B) w a d (some (B + 124)) h Xf KK := by
  unfold f_L_ticket
  rw [W.cB]
  exact W.1.ticket I.c (W.yP ex_ticket (fun _ h2 w2 k2 => w2.sI k2) kk hx2)
theorem ex_mayWeld {l p w : Int32} : exOk σ 3 9 9 (oJoint σ l p fun i j => oRow σ 2 w fun k => (0, b2 (spMay σ i j k), σ)) := by
  refine oJoint_q (Q := exOk σ 3 9 9) (exA (by decide) (by decide)) fun _ _ => ?_
  refine oRow_q (Q := exOk σ 3 9 9) (exA (by decide) (by decide)) fun _ => ?_
  try dsimp only
  repeat' split
  all_goals first | exact Or.inl rfl | exact exA (by decide) (by decide) | exact exB (by decide) (by decide) | exact exC (by decide) (by decide)
theorem st_mayWeld {l p w : Int32} : (oJoint σ l p fun i j => oRow σ 2 w fun k => (0, b2 (spMay σ i j k), σ)).2.2 = σ := by
  refine oJoint_q (Q := fun o => o.2.2 = σ) (rfl) fun _ _ => ?_
  refine oRow_q (Q := fun o => o.2.2 = σ) (rfl) fun _ => ?_
  try dsimp only
  repeat' split
  all_goals rfl
theorem bo_mayWeld {l p w : Int32} (I : Inv σ)  : boOk (oJoint σ l p fun i j => oRow σ 2 w fun k => (0, b2 (spMay σ i j k), σ)) := by
  refine oJoint_q (Q := boOk) (boE (by decide)) fun _ _ => ?_
  refine oRow_q (Q := boOk) (boE (by decide)) fun _ => ?_
  try dsimp only
  repeat' split
  all_goals first | exact boE (by decide) | exact boV (b2_01 _) | exact boV (Or.inl rfl) | exact boV (Or.inr rfl) | exact boV (I.fl.1 _) | exact boV (I.fl.2.1 _ _) | exact boV (I.fl.2.2.1 _)
theorem LW.mayWeld (W : LW g B b L xs σ σ h) (I : Inv σ) {l p w : Int32}  (kk : ∀ h3, LW g B b L xs (oJoint σ l p fun i j => oRow σ 2 w fun k => (0, b2 (spMay σ i j k), σ)).2.2 σ h3 → ((oJoint σ l p fun i j => oRow σ 2 w fun k => (0, b2 (spMay σ i j k), σ)).1 = 0 → aJ h3 (B + 124) 0 = (oJoint σ l p fun i j => oRow σ 2 w fun k => (0, b2 (spMay σ i j k), σ)).2.1.toInt64) → KK (cd3 3 9 9 (oJoint σ l p fun i j => oRow σ 2 w fun k => (0, b2 (spMay σ i j k), σ)).1) h3) : f_L_mayWeld g (some B) l p w (some (B + 124)) h Xf KK := by
  unfold f_L_mayWeld
  rw [W.cB]
  rw [W.1.mayWeld I.c I.r I.al]
  exact (W.yP ex_mayWeld (fun hz h2 w2 k2 => w2.sB (bo_mayWeld I  hz) k2) kk hx1).run W.1 (fun _ => st_mayWeld)
theorem ex_weld {l p w : Int32} : exOk σ 3 4 9 (spWeld σ l p w) := by
  unfold spWeld
  refine oJoint_q (Q := exOk σ 3 4 9) (exA (by decide) (by decide)) fun _ _ => ?_
  refine oRow_q (Q := exOk σ 3 4 9) (exA (by decide) (by decide)) fun _ => ?_
  try dsimp only
  repeat' split
  all_goals first | exact Or.inl rfl | exact exA (by decide) (by decide) | exact exB (by decide) (by decide) | exact exC (by decide) (by decide)
theorem LW.weld (W : LW g B b L xs σ σ h) (I : Inv σ) {l p w : Int32}  (kk : ∀ h3, LW g B b L xs (spWeld σ l p w).2.2 σ h3 → ((spWeld σ l p w).1 = 0 → aJ h3 (B + 124) 0 = (spWeld σ l p w).2.1.toInt64) → KK (cd3 3 4 9 (spWeld σ l p w).1) h3) : f_L_weld g (some B) l p w (some (B + 124)) h Xf KK := by
  unfold f_L_weld
  rw [W.cB]
  exact W.1.weld I.c I.r I.al (W.yP ex_weld (fun _ h2 w2 k2 => w2.sI k2) kk hx2)
theorem ex_look {l p w : Int32} : exOk σ 3 4 9 (spLook σ l p w) := by
  unfold spLook
  refine oJoint_q (Q := exOk σ 3 4 9) (exA (by decide) (by decide)) fun _ _ => ?_
  try dsimp only
  repeat' split
  all_goals first | exact Or.inl rfl | exact exA (by decide) (by decide) | exact exB (by decide) (by decide) | exact exC (by decide) (by decide)
theorem LW.look (W : LW g B b L xs σ σ h) (I : Inv σ) {l p w : Int32}  (kk : ∀ h3, LW g B b L xs (spLook σ l p w).2.2 σ h3 → ((spLook σ l p w).1 = 0 → aJ h3 (B + 124) 0 = (spLook σ l p w).2.1.toInt64) → KK (cd3 3 4 9 (spLook σ l p w).1) h3) : f_L_look g (some B) l p w (some (B + 124)) h Xf KK := by
  unfold f_L_look
  rw [W.cB]
  exact W.1.look I.c I.r (W.yP ex_look (fun _ h2 w2 k2 => w2.sI k2) kk hx2)
theorem ex_repair {l p w : Int32} : exOk σ 3 4 9 (spRepair σ l p w) := by
  unfold spRepair
  refine oJoint_q (Q := exOk σ 3 4 9) (exA (by decide) (by decide)) fun _ _ => ?_
  refine oRow_q (Q := exOk σ 3 4 9) (exA (by decide) (by decide)) fun _ => ?_
  try dsimp only
  repeat' split
  all_goals first | exact Or.inl rfl | exact exA (by decide) (by decide) | exact exB (by decide) (by decide) | exact exC (by decide) (by decide)
theorem LW.repair (W : LW g B b L xs σ σ h) (I : Inv σ) {l p w : Int32}  (kk : ∀ h3, LW g B b L xs (spRepair σ l p w).2.2 σ h3 → ((spRepair σ l p w).1 = 0 → aJ h3 (B + 124) 0 = (spRepair σ l p w).2.1.toInt64) → KK (cd3 3 4 9 (spRepair σ l p w).1) h3) : f_L_repair g (some B) l p w (some (B + 124)) h Xf KK := by
  unfold f_L_repair
  rw [W.cB]
  exact W.1.repair I.c I.r I.al (W.yP ex_repair (fun _ h2 w2 k2 => w2.sI k2) kk hx2)
theorem ex_cutOut {l p : Int32} : exOk σ 3 4 9 (spCutOut σ l p) := by
  unfold spCutOut
  refine oJoint_q (Q := exOk σ 3 4 9) (exA (by decide) (by decide)) fun _ _ => ?_
  try dsimp only
  repeat' split
  all_goals first | exact Or.inl rfl | exact exA (by decide) (by decide) | exact exB (by decide) (by decide) | exact exC (by decide) (by decide)
theorem LW.cutOut (W : LW g B b L xs σ σ h) (I : Inv σ) {l p : Int32}  (kk : ∀ h3, LW g B b L xs (spCutOut σ l p).2.2 σ h3 → ((spCutOut σ l p).1 = 0 → aJ h3 (B + 124) 0 = (spCutOut σ l p).2.1.toInt64) → KK (cd3 3 4 9 (spCutOut σ l p).1) h3) : f_L_cutOut g (some B) l p (some (B + 124)) h Xf KK := by
  unfold f_L_cutOut
  rw [W.cB]
  exact W.1.cutOut I.c (W.yP ex_cutOut (fun _ h2 w2 k2 => w2.sI k2) kk hx2)
theorem ex_joint {l p : Int32} : exOk σ 3 9 9 (oJoint σ l p fun i j => (0, sV σ 8 i j, σ)) := by
  refine oJoint_q (Q := exOk σ 3 9 9) (exA (by decide) (by decide)) fun _ _ => ?_
  try dsimp only
  repeat' split
  all_goals first | exact Or.inl rfl | exact exA (by decide) (by decide) | exact exB (by decide) (by decide) | exact exC (by decide) (by decide)
theorem st_joint {l p : Int32} : (oJoint σ l p fun i j => (0, sV σ 8 i j, σ)).2.2 = σ := by
  refine oJoint_q (Q := fun o => o.2.2 = σ) (rfl) fun _ _ => ?_
  try dsimp only
  repeat' split
  all_goals rfl
theorem LW.joint (W : LW g B b L xs σ σ h) (I : Inv σ) {l p : Int32}  (kk : ∀ h3, LW g B b L xs (oJoint σ l p fun i j => (0, sV σ 8 i j, σ)).2.2 σ h3 → ((oJoint σ l p fun i j => (0, sV σ 8 i j, σ)).1 = 0 → aJ h3 (B + 124) 0 = (oJoint σ l p fun i j => (0, sV σ 8 i j, σ)).2.1.toInt64) → KK (cd3 3 9 9 (oJoint σ l p fun i j => (0, sV σ 8 i j, σ)).1) h3) : f_L_joint g (some B) l p (some (B + 124)) h Xf KK := by
  unfold f_L_joint
  rw [W.cB]
  rw [W.1.joint I.c I.fl]
  exact (W.yP ex_joint (fun _ h2 w2 k2 => w2.sI k2) kk hx1).run W.1 (fun _ => st_joint)
theorem ex_welderOf {l p : Int32} : exOk σ 3 5 9 (oJoint σ l p fun i j => match sR σ 1 i j with | none => (5, 0, σ) | some q => (0, nI q, σ)) := by
  refine oJoint_q (Q := exOk σ 3 5 9) (exA (by decide) (by decide)) fun _ _ => ?_
  try dsimp only
  repeat' split
  all_goals first | exact Or.inl rfl | exact exA (by decide) (by decide) | exact exB (by decide) (by decide) | exact exC (by decide) (by decide)
theorem st_welderOf {l p : Int32} : (oJoint σ l p fun i j => match sR σ 1 i j with | none => (5, 0, σ) | some q => (0, nI q, σ)).2.2 = σ := by
  refine oJoint_q (Q := fun o => o.2.2 = σ) (rfl) fun _ _ => ?_
  try dsimp only
  repeat' split
  all_goals rfl
theorem LW.welderOf (W : LW g B b L xs σ σ h) (I : Inv σ) {l p : Int32}  (kk : ∀ h3, LW g B b L xs (oJoint σ l p fun i j => match sR σ 1 i j with | none => (5, 0, σ) | some q => (0, nI q, σ)).2.2 σ h3 → ((oJoint σ l p fun i j => match sR σ 1 i j with | none => (5, 0, σ) | some q => (0, nI q, σ)).1 = 0 → aJ h3 (B + 124) 0 = (oJoint σ l p fun i j => match sR σ 1 i j with | none => (5, 0, σ) | some q => (0, nI q, σ)).2.1.toInt64) → KK (cd3 3 5 9 (oJoint σ l p fun i j => match sR σ 1 i j with | none => (5, 0, σ) | some q => (0, nI q, σ)).1) h3) : f_L_welderOf g (some B) l p (some (B + 124)) h Xf KK := by
  unfold f_L_welderOf
  rw [W.cB]
  rw [W.1.welderOf I.c I.r]
  exact (W.yP ex_welderOf (fun _ h2 w2 k2 => w2.sI k2) kk hx2).run W.1 (fun _ => st_welderOf)
theorem ex_toLook {l : Int32} : exOk σ 3 9 9 (oRow σ 0 l fun i => (0, spDue σ i, σ)) := by
  refine oRow_q (Q := exOk σ 3 9 9) (exA (by decide) (by decide)) fun _ => ?_
  try dsimp only
  repeat' split
  all_goals first | exact Or.inl rfl | exact exA (by decide) (by decide) | exact exB (by decide) (by decide) | exact exC (by decide) (by decide)
theorem st_toLook {l : Int32} : (oRow σ 0 l fun i => (0, spDue σ i, σ)).2.2 = σ := by
  refine oRow_q (Q := fun o => o.2.2 = σ) (rfl) fun _ => ?_
  try dsimp only
  repeat' split
  all_goals rfl
theorem LW.toLook (W : LW g B b L xs σ σ h) (I : Inv σ) {l : Int32}  (kk : ∀ h3, LW g B b L xs (oRow σ 0 l fun i => (0, spDue σ i, σ)).2.2 σ h3 → ((oRow σ 0 l fun i => (0, spDue σ i, σ)).1 = 0 → aJ h3 (B + 124) 0 = (oRow σ 0 l fun i => (0, spDue σ i, σ)).2.1.toInt64) → KK (cd3 3 9 9 (oRow σ 0 l fun i => (0, spDue σ i, σ)).1) h3) : f_L_toLook g (some B) l (some (B + 124)) h Xf KK := by
  unfold f_L_toLook
  rw [W.cB]
  rw [W.1.toLook I.c]
  exact (W.yP ex_toLook (fun _ h2 w2 k2 => w2.sI k2) kk hx1).run W.1 (fun _ => st_toLook)
theorem ex_failed {l : Int32} : exOk σ 3 9 9 (oRow σ 2 l fun i => (0, sV σ 16 i 0, σ)) := by
  refine oRow_q (Q := exOk σ 3 9 9) (exA (by decide) (by decide)) fun _ => ?_
  try dsimp only
  repeat' split
  all_goals first | exact Or.inl rfl | exact exA (by decide) (by decide) | exact exB (by decide) (by decide) | exact exC (by decide) (by decide)
theorem st_failed {l : Int32} : (oRow σ 2 l fun i => (0, sV σ 16 i 0, σ)).2.2 = σ := by
  refine oRow_q (Q := fun o => o.2.2 = σ) (rfl) fun _ => ?_
  try dsimp only
  repeat' split
  all_goals rfl
theorem LW.failed (W : LW g B b L xs σ σ h) (I : Inv σ) {l : Int32}  (kk : ∀ h3, LW g B b L xs (oRow σ 2 l fun i => (0, sV σ 16 i 0, σ)).2.2 σ h3 → ((oRow σ 2 l fun i => (0, sV σ 16 i 0, σ)).1 = 0 → aJ h3 (B + 124) 0 = (oRow σ 2 l fun i => (0, sV σ 16 i 0, σ)).2.1.toInt64) → KK (cd3 3 9 9 (oRow σ 2 l fun i => (0, sV σ 16 i 0, σ)).1) h3) : f_L_failed g (some B) l (some (B + 124)) h Xf KK := by
  unfold f_L_failed
  rw [W.cB]
  rw [W.1.failed I.c]
  exact (W.yP ex_failed (fun _ h2 w2 k2 => w2.sI k2) kk hx1).run W.1 (fun _ => st_failed)
theorem ex_pass {d : Int32} : exOk σ 1 2 9 (spPass σ d) := by
  unfold spPass
  try dsimp only
  repeat' split
  all_goals first | exact Or.inl rfl | exact exA (by decide) (by decide) | exact exB (by decide) (by decide) | exact exC (by decide) (by decide)
theorem LW.pass (W : LW g B b L xs σ σ h) (I : Inv σ) {d : Int32}  (kk : ∀ h3, LW g B b L xs (spPass σ d).2.2 σ h3 → ((spPass σ d).1 = 0 → aJ h3 (B + 124) 0 = (spPass σ d).2.1.toInt64) → KK (cd3 1 2 9 (spPass σ d).1) h3) : f_L_pass g (some B) d (some (B + 124)) h Xf KK := by
  unfold f_L_pass
  rw [W.cB]
  exact W.1.pass  (W.yP ex_pass (fun _ h2 w2 k2 => w2.sI k2) kk hx2)
theorem ex_join {l a o c : Int32} : exOk σ 3 1 4 (spJoin σ l a o c) := by
  unfold spJoin
  refine oRow_q (Q := exOk σ 3 1 4) (exA (by decide) (by decide)) fun _ => ?_
  refine oRow_q (Q := exOk σ 3 1 4) (exA (by decide) (by decide)) fun _ => ?_
  try dsimp only
  repeat' split
  all_goals first | exact Or.inl rfl | exact exA (by decide) (by decide) | exact exB (by decide) (by decide) | exact exC (by decide) (by decide)
theorem bo_join {l a o c : Int32} (I : Inv σ)  : boOk (spJoin σ l a o c) := by
  unfold spJoin
  refine oRow_q (Q := boOk) (boE (by decide)) fun _ => ?_
  refine oRow_q (Q := boOk) (boE (by decide)) fun _ => ?_
  try dsimp only
  repeat' split
  all_goals first | exact boE (by decide) | exact boV (b2_01 _) | exact boV (Or.inl rfl) | exact boV (Or.inr rfl) | exact boV (I.fl.1 _) | exact boV (I.fl.2.1 _ _) | exact boV (I.fl.2.2.1 _)
theorem LW.join (W : LW g B b L xs σ σ h) (I : Inv σ) {l a o c : Int32}  (kk : ∀ h3, LW g B b L xs (spJoin σ l a o c).2.2 σ h3 → ((spJoin σ l a o c).1 = 0 → aJ h3 (B + 124) 0 = (spJoin σ l a o c).2.1.toInt64) → KK (cd3 3 1 4 (spJoin σ l a o c).1) h3) : f_L_join g (some B) l a o c (some (B + 124)) h Xf KK := by
  unfold f_L_join
  rw [W.cB]
  exact W.1.join I.c (W.yP ex_join (fun hz h2 w2 k2 => w2.sB (bo_join I  hz) k2) kk hx3)
theorem ex_blind {l a v : Int32} : exOk σ 3 4 9 (spBlind σ l a v) := by
  unfold spBlind
  refine oRow_q (Q := exOk σ 3 4 9) (exA (by decide) (by decide)) fun _ => ?_
  try dsimp only
  repeat' split
  all_goals first | exact Or.inl rfl | exact exA (by decide) (by decide) | exact exB (by decide) (by decide) | exact exC (by decide) (by decide)
theorem bo_blind {l a v : Int32} (I : Inv σ) (hv : v = 0 ∨ v = 1) : boOk (spBlind σ l a v) := by
  unfold spBlind
  refine oRow_q (Q := boOk) (boE (by decide)) fun _ => ?_
  try dsimp only
  repeat' split
  all_goals first | exact boE (by decide) | exact boV (b2_01 _) | exact boV (Or.inl rfl) | exact boV (Or.inr rfl) | exact boV (I.fl.1 _) | exact boV (I.fl.2.1 _ _) | exact boV (I.fl.2.2.1 _)
theorem LW.blind (W : LW g B b L xs σ σ h) (I : Inv σ) {l a v : Int32} (hv : v = 0 ∨ v = 1) (kk : ∀ h3, LW g B b L xs (spBlind σ l a v).2.2 σ h3 → ((spBlind σ l a v).1 = 0 → aJ h3 (B + 124) 0 = (spBlind σ l a v).2.1.toInt64) → KK (cd3 3 4 9 (spBlind σ l a v).1) h3) : f_L_blind g (some B) l a v (some (B + 124)) h Xf KK := by
  unfold f_L_blind
  rw [W.cB]
  exact W.1.blind I.c I.fl hv (W.yP ex_blind (fun hz h2 w2 k2 => w2.sB (bo_blind I hv hz) k2) kk hx2)
theorem ex_addCircuit {x : Int32} : exOk σ 1 2 9 (spAddCircuit σ x) := by
  unfold spAddCircuit
  try dsimp only
  repeat' split
  all_goals first | exact Or.inl rfl | exact exA (by decide) (by decide) | exact exB (by decide) (by decide) | exact exC (by decide) (by decide)
theorem LW.addCircuit (W : LW g B b L xs σ σ h) (I : Inv σ) {x : Int32}  (kk : ∀ h3, LW g B b L xs (spAddCircuit σ x).2.2 σ h3 → ((spAddCircuit σ x).1 = 0 → aJ h3 (B + 124) 0 = (spAddCircuit σ x).2.1.toInt64) → KK (cd3 1 2 9 (spAddCircuit σ x).1) h3) : f_L_addCircuit g (some B) x (some (B + 124)) h Xf KK := by
  unfold f_L_addCircuit
  rw [W.cB]
  exact W.1.addCircuit I.c (W.yP ex_addCircuit (fun _ h2 w2 k2 => w2.sI k2) kk hx2)
theorem ex_opens {l : Int32} : exOk σ 3 9 9 (oRow σ 3 l fun i => (0, spOpen σ (sV σ 17 i 0), σ)) := by
  refine oRow_q (Q := exOk σ 3 9 9) (exA (by decide) (by decide)) fun _ => ?_
  try dsimp only
  repeat' split
  all_goals first | exact Or.inl rfl | exact exA (by decide) (by decide) | exact exB (by decide) (by decide) | exact exC (by decide) (by decide)
theorem st_opens {l : Int32} : (oRow σ 3 l fun i => (0, spOpen σ (sV σ 17 i 0), σ)).2.2 = σ := by
  refine oRow_q (Q := fun o => o.2.2 = σ) (rfl) fun _ => ?_
  try dsimp only
  repeat' split
  all_goals rfl
theorem LW.opens (W : LW g B b L xs σ σ h) (I : Inv σ) {l : Int32}  (kk : ∀ h3, LW g B b L xs (oRow σ 3 l fun i => (0, spOpen σ (sV σ 17 i 0), σ)).2.2 σ h3 → ((oRow σ 3 l fun i => (0, spOpen σ (sV σ 17 i 0), σ)).1 = 0 → aJ h3 (B + 124) 0 = (oRow σ 3 l fun i => (0, spOpen σ (sV σ 17 i 0), σ)).2.1.toInt64) → KK (cd3 3 9 9 (oRow σ 3 l fun i => (0, spOpen σ (sV σ 17 i 0), σ)).1) h3) : f_L_open g (some B) l (some (B + 124)) h Xf KK := by
  unfold f_L_open
  rw [W.cB]
  rw [W.1.opens I.c I.r]
  exact (W.yP ex_opens (fun _ h2 w2 k2 => w2.sI k2) kk hx1).run W.1 (fun _ => st_opens)
theorem ex_canTest {l : Int32} : exOk σ 3 9 9 (oRow σ 3 l fun i => (0, b2 (spTestable σ (sV σ 17 i 0)), σ)) := by
  refine oRow_q (Q := exOk σ 3 9 9) (exA (by decide) (by decide)) fun _ => ?_
  try dsimp only
  repeat' split
  all_goals first | exact Or.inl rfl | exact exA (by decide) (by decide) | exact exB (by decide) (by decide) | exact exC (by decide) (by decide)
theorem st_canTest {l : Int32} : (oRow σ 3 l fun i => (0, b2 (spTestable σ (sV σ 17 i 0)), σ)).2.2 = σ := by
  refine oRow_q (Q := fun o => o.2.2 = σ) (rfl) fun _ => ?_
  try dsimp only
  repeat' split
  all_goals rfl
theorem bo_canTest {l : Int32} (I : Inv σ)  : boOk (oRow σ 3 l fun i => (0, b2 (spTestable σ (sV σ 17 i 0)), σ)) := by
  refine oRow_q (Q := boOk) (boE (by decide)) fun _ => ?_
  try dsimp only
  repeat' split
  all_goals first | exact boE (by decide) | exact boV (b2_01 _) | exact boV (Or.inl rfl) | exact boV (Or.inr rfl) | exact boV (I.fl.1 _) | exact boV (I.fl.2.1 _ _) | exact boV (I.fl.2.2.1 _)
theorem LW.canTest (W : LW g B b L xs σ σ h) (I : Inv σ) {l : Int32}  (kk : ∀ h3, LW g B b L xs (oRow σ 3 l fun i => (0, b2 (spTestable σ (sV σ 17 i 0)), σ)).2.2 σ h3 → ((oRow σ 3 l fun i => (0, b2 (spTestable σ (sV σ 17 i 0)), σ)).1 = 0 → aJ h3 (B + 124) 0 = (oRow σ 3 l fun i => (0, b2 (spTestable σ (sV σ 17 i 0)), σ)).2.1.toInt64) → KK (cd3 3 9 9 (oRow σ 3 l fun i => (0, b2 (spTestable σ (sV σ 17 i 0)), σ)).1) h3) : f_L_canTest g (some B) l (some (B + 124)) h Xf KK := by
  unfold f_L_canTest
  rw [W.cB]
  rw [W.1.canTest I.c I.r]
  exact (W.yP ex_canTest (fun hz h2 w2 k2 => w2.sB (bo_canTest I  hz) k2) kk hx1).run W.1 (fun _ => st_canTest)
theorem ex_testAll {l : Int32} : exOk σ 3 4 9 (spTestAll σ l) := by
  unfold spTestAll
  refine oRow_q (Q := exOk σ 3 4 9) (exA (by decide) (by decide)) fun _ => ?_
  try dsimp only
  repeat' split
  all_goals first | exact Or.inl rfl | exact exA (by decide) (by decide) | exact exB (by decide) (by decide) | exact exC (by decide) (by decide)
theorem LW.testAll (W : LW g B b L xs σ σ h) (I : Inv σ) {l : Int32}  (kk : ∀ h3, LW g B b L xs (spTestAll σ l).2.2 σ h3 → ((spTestAll σ l).1 = 0 → aJ h3 (B + 124) 0 = (spTestAll σ l).2.1.toInt64) → KK (cd3 3 4 9 (spTestAll σ l).1) h3) : f_L_testAll g (some B) l (some (B + 124)) h Xf KK := by
  unfold f_L_testAll
  rw [W.cB]
  exact W.1.testAll I.c I.r (W.yP ex_testAll (fun _ h2 w2 k2 => w2.sI k2) kk hx2)
theorem ex_isTested {l : Int32} : exOk σ 3 9 9 (oRow σ 0 l fun i => (0, sV σ 4 i 0, σ)) := by
  refine oRow_q (Q := exOk σ 3 9 9) (exA (by decide) (by decide)) fun _ => ?_
  try dsimp only
  repeat' split
  all_goals first | exact Or.inl rfl | exact exA (by decide) (by decide) | exact exB (by decide) (by decide) | exact exC (by decide) (by decide)
theorem st_isTested {l : Int32} : (oRow σ 0 l fun i => (0, sV σ 4 i 0, σ)).2.2 = σ := by
  refine oRow_q (Q := fun o => o.2.2 = σ) (rfl) fun _ => ?_
  try dsimp only
  repeat' split
  all_goals rfl
theorem bo_isTested {l : Int32} (I : Inv σ)  : boOk (oRow σ 0 l fun i => (0, sV σ 4 i 0, σ)) := by
  refine oRow_q (Q := boOk) (boE (by decide)) fun _ => ?_
  try dsimp only
  repeat' split
  all_goals first | exact boE (by decide) | exact boV (b2_01 _) | exact boV (Or.inl rfl) | exact boV (Or.inr rfl) | exact boV (I.fl.1 _) | exact boV (I.fl.2.1 _ _) | exact boV (I.fl.2.2.1 _)
theorem LW.isTested (W : LW g B b L xs σ σ h) (I : Inv σ) {l : Int32}  (kk : ∀ h3, LW g B b L xs (oRow σ 0 l fun i => (0, sV σ 4 i 0, σ)).2.2 σ h3 → ((oRow σ 0 l fun i => (0, sV σ 4 i 0, σ)).1 = 0 → aJ h3 (B + 124) 0 = (oRow σ 0 l fun i => (0, sV σ 4 i 0, σ)).2.1.toInt64) → KK (cd3 3 9 9 (oRow σ 0 l fun i => (0, sV σ 4 i 0, σ)).1) h3) : f_L_isTested g (some B) l (some (B + 124)) h Xf KK := by
  unfold f_L_isTested
  rw [W.cB]
  rw [W.1.isTested I.c I.fl]
  exact (W.yP ex_isTested (fun hz h2 w2 k2 => w2.sB (bo_isTested I  hz) k2) kk hx1).run W.1 (fun _ => st_isTested)
theorem ex_lack {l p : Int32} : exOk σ 3 9 9 (oJoint σ l p fun i j => (0, spLack σ i j, σ)) := by
  refine oJoint_q (Q := exOk σ 3 9 9) (exA (by decide) (by decide)) fun _ _ => ?_
  try dsimp only
  repeat' split
  all_goals first | exact Or.inl rfl | exact exA (by decide) (by decide) | exact exB (by decide) (by decide) | exact exC (by decide) (by decide)
theorem st_lack {l p : Int32} : (oJoint σ l p fun i j => (0, spLack σ i j, σ)).2.2 = σ := by
  refine oJoint_q (Q := fun o => o.2.2 = σ) (rfl) fun _ _ => ?_
  try dsimp only
  repeat' split
  all_goals rfl
theorem LW.lack (W : LW g B b L xs σ σ h) (I : Inv σ) {l p : Int32}  (kk : ∀ h3, LW g B b L xs (oJoint σ l p fun i j => (0, spLack σ i j, σ)).2.2 σ h3 → ((oJoint σ l p fun i j => (0, spLack σ i j, σ)).1 = 0 → aJ h3 (B + 124) 0 = (oJoint σ l p fun i j => (0, spLack σ i j, σ)).2.1.toInt64) → KK (cd3 3 9 9 (oJoint σ l p fun i j => (0, spLack σ i j, σ)).1) h3) : f_L_lack g (some B) l p (some (B + 124)) h Xf KK := by
  unfold f_L_lack
  rw [W.cB]
  rw [W.1.lack I.c I.r]
  exact (W.yP ex_lack (fun _ h2 w2 k2 => w2.sI k2) kk hx1).run W.1 (fun _ => st_lack)
theorem ex_lacks {k : Int32} : exOk σ 1 9 9 (if isLack k then (0, spMany σ k, σ) else (1, 0, σ)) := by
  try dsimp only
  repeat' split
  all_goals first | exact Or.inl rfl | exact exA (by decide) (by decide) | exact exB (by decide) (by decide) | exact exC (by decide) (by decide)
theorem st_lacks {k : Int32} : (if isLack k then (0, spMany σ k, σ) else (1, 0, σ)).2.2 = σ := by
  try dsimp only
  repeat' split
  all_goals rfl
theorem LW.lacks (W : LW g B b L xs σ σ h) (I : Inv σ) {k : Int32}  (kk : ∀ h3, LW g B b L xs (if isLack k then (0, spMany σ k, σ) else (1, 0, σ)).2.2 σ h3 → ((if isLack k then (0, spMany σ k, σ) else (1, 0, σ)).1 = 0 → aJ h3 (B + 124) 0 = (if isLack k then (0, spMany σ k, σ) else (1, 0, σ)).2.1.toInt64) → KK (cd3 1 9 9 (if isLack k then (0, spMany σ k, σ) else (1, 0, σ)).1) h3) : f_L_lacks g (some B) k (some (B + 124)) h Xf KK := by
  unfold f_L_lacks
  rw [W.cB]
  rw [W.1.lacks I.c I.r]
  exact (W.yP ex_lacks (fun _ h2 w2 k2 => w2.sI k2) kk hx1).run W.1 (fun _ => st_lacks)
theorem ex_ahead {a c : Int32} : exOk σ 3 1 4 (spAhead σ a c) := by
  unfold spAhead
  refine oRow_q (Q := exOk σ 3 1 4) (exA (by decide) (by decide)) fun _ => ?_
  refine oRow_q (Q := exOk σ 3 1 4) (exA (by decide) (by decide)) fun _ => ?_
  try dsimp only
  repeat' split
  all_goals first | exact Or.inl rfl | exact exA (by decide) (by decide) | exact exB (by decide) (by decide) | exact exC (by decide) (by decide)
theorem bo_ahead {a c : Int32} (I : Inv σ)  : boOk (spAhead σ a c) := by
  unfold spAhead
  refine oRow_q (Q := boOk) (boE (by decide)) fun _ => ?_
  refine oRow_q (Q := boOk) (boE (by decide)) fun _ => ?_
  try dsimp only
  repeat' split
  all_goals first | exact boE (by decide) | exact boV (b2_01 _) | exact boV (Or.inl rfl) | exact boV (Or.inr rfl) | exact boV (I.fl.1 _) | exact boV (I.fl.2.1 _ _) | exact boV (I.fl.2.2.1 _)
theorem LW.ahead (W : LW g B b L xs σ σ h) (I : Inv σ) {a c : Int32}  (kk : ∀ h3, LW g B b L xs (spAhead σ a c).2.2 σ h3 → ((spAhead σ a c).1 = 0 → aJ h3 (B + 124) 0 = (spAhead σ a c).2.1.toInt64) → KK (cd3 3 1 4 (spAhead σ a c).1) h3) : f_L_ahead g (some B) a c (some (B + 124)) h Xf KK := by
  unfold f_L_ahead
  rw [W.cB]
  exact W.1.ahead I.c (W.yP ex_ahead (fun hz h2 w2 k2 => w2.sB (bo_ahead I  hz) k2) kk hx3)
theorem ex_isReady {l : Int32} : exOk σ 3 9 9 (spReady σ l) := by
  unfold spReady
  refine oRow_q (Q := exOk σ 3 9 9) (exA (by decide) (by decide)) fun _ => ?_
  try dsimp only
  repeat' split
  all_goals first | exact Or.inl rfl | exact exA (by decide) (by decide) | exact exB (by decide) (by decide) | exact exC (by decide) (by decide)
theorem st_isReady {l : Int32} : (spReady σ l).2.2 = σ := by
  unfold spReady
  refine oRow_q (Q := fun o => o.2.2 = σ) (rfl) fun _ => ?_
  try dsimp only
  repeat' split
  all_goals rfl
theorem bo_isReady {l : Int32} (I : Inv σ)  : boOk (spReady σ l) := by
  unfold spReady
  refine oRow_q (Q := boOk) (boE (by decide)) fun _ => ?_
  try dsimp only
  repeat' split
  all_goals first | exact boE (by decide) | exact boV (b2_01 _) | exact boV (Or.inl rfl) | exact boV (Or.inr rfl) | exact boV (I.fl.1 _) | exact boV (I.fl.2.1 _ _) | exact boV (I.fl.2.2.1 _)
theorem LW.isReady (W : LW g B b L xs σ σ h) (I : Inv σ) {l : Int32}  (kk : ∀ h3, LW g B b L xs (spReady σ l).2.2 σ h3 → ((spReady σ l).1 = 0 → aJ h3 (B + 124) 0 = (spReady σ l).2.1.toInt64) → KK (cd3 3 9 9 (spReady σ l).1) h3) : f_L_isReady g (some B) l (some (B + 124)) h Xf KK := by
  unfold f_L_isReady
  rw [W.cB]
  rw [W.1.isReady I.c I.r]
  exact (W.yP ex_isReady (fun hz h2 w2 k2 => w2.sB (bo_isReady I  hz) k2) kk hx1).run W.1 (fun _ => st_isReady)
theorem ex_turnover {l : Int32} : exOk σ 5 9 9 (spTurnover σ l) := by
  unfold spTurnover
  try dsimp only
  repeat' split
  all_goals first | exact Or.inl rfl | exact exA (by decide) (by decide) | exact exB (by decide) (by decide) | exact exC (by decide) (by decide)
theorem st_turnover {l : Int32} : (spTurnover σ l).2.2 = σ := by
  unfold spTurnover
  try dsimp only
  repeat' split
  all_goals rfl
theorem LW.turnover (W : LW g B b L xs σ σ h) (I : Inv σ) {l : Int32}  (kk : ∀ h3, LW g B b L xs (spTurnover σ l).2.2 σ h3 → ((spTurnover σ l).1 = 0 → aJ h3 (B + 124) 0 = (spTurnover σ l).2.1.toInt64) → KK (cd3 5 9 9 (spTurnover σ l).1) h3) : f_L_turnover g (some B) l (some (B + 124)) h Xf KK := by
  unfold f_L_turnover
  rw [W.cB]
  rw [W.1.turnover I.c]
  exact (W.yP ex_turnover (fun _ h2 w2 k2 => w2.sI k2) kk hx1).run W.1 (fun _ => st_turnover)
end OPL
