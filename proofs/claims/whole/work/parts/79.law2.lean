/-! the law's cases, one after another -/
theorem u16_pos (v : UInt32) : ¬ (v % 65536).toInt32 < 0 := by
  have e : ∀ x : UInt32, x.toInt32 = nI x.toNat := fun x => Int32.toBitVec_inj.1 (by
    show x.toBitVec = BitVec.ofNat 32 x.toNat
    rw [← UInt32.toNat_toBitVec, BitVec.ofNat_toNat, BitVec.setWidth_eq])
  have h : (v % 65536).toNat < 65536 := by
    rw [UInt32.toNat_mod]
    exact Nat.mod_lt _ (by decide)
  rw [e]
  exact nI_pos (by omega)
section LAW
variable {g : Nat → Nat} {B b L : Nat} {xs : Nat → Int32} {σ : zS} {h : AH} {K : Int32 → AH → Prop} {i : Nat} {rec28 : Option Nat → Option Nat → Option Nat → Option Nat → Option Nat → Int32 → AH → Prop}
def rK (g : Nat → Nat) (B b L : Nat) (xs : Nat → Int32) (i : Nat) (rec28 : Option Nat → Option Nat → Option Nat → Option Nat → Option Nat → Int32 → AH → Prop) : Prop := ∀ σ' h', Inv σ' → LW g B b L xs σ' σ' h' → rec28 (some b) (some B) (some (B + 119)) (some (B + 124)) (some (B + 125)) (nI i + 5) h'

theorem law_addLine (W : LW g B b L xs σ σ h) (I : Inv σ) (hi : i + 4 < L) (hrec : rK g B b L xs i rec28) : f_L_law_B232 g rec28 (some b) (some B) (some (B + 119)) (some (B + 124)) (some (B + 125)) (nI i) h K := by
  unfold f_L_law_B232
  rw [W.rd1 hi]
  refine W.addLine I fun h3 w3 hj => ?_
  rw [w3.rd1 hi]
  rw [w3.cO]
  exact L_end (F12 := fun K => f_X12_addLine g (some (B + 119)) (xs (i + 1)) h3 K) w3 hj (fun mu K m p => m.addLine I.c I.nw p) (fun _ _ r => cInt r) fun h' w' => hrec _ h' (I.addLine) w'
theorem law_addPart (W : LW g B b L xs σ σ h) (I : Inv σ) (hi : i + 4 < L) (hrec : rK g B b L xs i rec28) : f_L_law_B288 g rec28 (some b) (some B) (some (B + 119)) (some (B + 124)) (some (B + 125)) (nI i) h K := by
  unfold f_L_law_B288
  rw [W.rd1 hi, W.rd2 hi, W.rd3 hi]
  refine W.addPart I fun h3 w3 hj => ?_
  rw [w3.rd1 hi, w3.rd2 hi, w3.rd3 hi]
  rw [w3.cO]
  exact L_end (F12 := fun K => f_X12_addPart g (some (B + 119)) (xs (i + 1)) (((xs (i + 2)).toUInt32 % 65536).toInt32) (xs (i + 3)) h3 K) w3 hj (fun mu K m p => m.addPart I.c I.nw p) (fun _ _ r => cInt r) fun h' w' => hrec _ h' (I.addPart) w'
theorem law_setLength (W : LW g B b L xs σ σ h) (I : Inv σ) (hi : i + 4 < L) (hrec : rK g B b L xs i rec28) : f_L_law_B370 g rec28 (some b) (some B) (some (B + 119)) (some (B + 124)) (some (B + 125)) (nI i) h K := by
  unfold f_L_law_B370
  rw [W.rd1 hi, W.rd2 hi, W.rd3 hi]
  refine W.setLength I fun h3 w3 hj => ?_
  rw [w3.rd1 hi, w3.rd2 hi, w3.rd3 hi]
  rw [w3.cO]
  exact L_end (F12 := fun K => f_X12_setLength g (some (B + 119)) (xs (i + 1)) (xs (i + 2)) (xs (i + 3)) h3 K) w3 hj (fun mu K m p => m.setLength I.c I.r p) (fun _ _ r => cInt r) fun h' w' => hrec _ h' (I.setLength) w'
theorem law_length (W : LW g B b L xs σ σ h) (I : Inv σ) (hi : i + 4 < L) (hrec : rK g B b L xs i rec28) : f_L_law_B450 g rec28 (some b) (some B) (some (B + 119)) (some (B + 124)) (some (B + 125)) (nI i) h K := by
  unfold f_L_law_B450
  rw [W.rd1 hi]
  refine W.length I fun h3 w3 hj => ?_
  rw [w3.rd1 hi]
  rw [w3.cO]
  exact L_end (F12 := fun K => f_X12_length g (some (B + 119)) (xs (i + 1)) h3 K) w3 hj (fun mu K m p => m.length I.c p) (fun _ _ r => cInt r) fun h' w' => hrec _ h' (by rw [st_length]; exact I) w'
theorem law_spools (W : LW g B b L xs σ σ h) (I : Inv σ) (hi : i + 4 < L) (hrec : rK g B b L xs i rec28) : f_L_law_B506 g rec28 (some b) (some B) (some (B + 119)) (some (B + 124)) (some (B + 125)) (nI i) h K := by
  unfold f_L_law_B506
  rw [W.rd1 hi]
  refine W.spools I fun h3 w3 hj => ?_
  rw [w3.rd1 hi]
  rw [w3.cO]
  exact L_end (F12 := fun K => f_X12_spools g (some (B + 119)) (xs (i + 1)) h3 K) w3 hj (fun mu K m p => m.spools I.c p) (fun _ _ r => cInt r) fun h' w' => hrec _ h' (by rw [st_spools]; exact I) w'
theorem law_spoolOf (W : LW g B b L xs σ σ h) (I : Inv σ) (hi : i + 4 < L) (hrec : rK g B b L xs i rec28) : f_L_law_B562 g rec28 (some b) (some B) (some (B + 119)) (some (B + 124)) (some (B + 125)) (nI i) h K := by
  unfold f_L_law_B562
  rw [W.rd1 hi, W.rd2 hi]
  refine W.spoolOf I fun h3 w3 hj => ?_
  rw [w3.rd1 hi, w3.rd2 hi]
  rw [w3.cO]
  exact L_end (F12 := fun K => f_X12_spoolOf g (some (B + 119)) (xs (i + 1)) (xs (i + 2)) h3 K) w3 hj (fun mu K m p => m.spoolOf I.c p) (fun _ _ r => cInt r) fun h' w' => hrec _ h' (by rw [st_spoolOf]; exact I) w'
theorem law_isField (W : LW g B b L xs σ σ h) (I : Inv σ) (hi : i + 4 < L) (hrec : rK g B b L xs i rec28) : f_L_law_B630 g rec28 (some b) (some B) (some (B + 119)) (some (B + 124)) (some (B + 125)) (nI i) h K := by
  unfold f_L_law_B630
  rw [W.rd1 hi, W.rd2 hi]
  refine W.isField I fun h3 w3 hj => ?_
  rw [w3.rd1 hi, w3.rd2 hi]
  rw [w3.cO]
  exact L_end (F12 := fun K => f_X12_isField g (some (B + 119)) (xs (i + 1)) (xs (i + 2)) h3 K) w3 hj (fun mu K m p => m.isField I.c p) (fun hz _ r => cBool (bo_isField I  hz) r) fun h' w' => hrec _ h' (by rw [st_isField]; exact I) w'
theorem law_left (W : LW g B b L xs σ σ h) (I : Inv σ) (hi : i + 4 < L) (hrec : rK g B b L xs i rec28) : f_L_law_B801 g rec28 (some b) (some B) (some (B + 119)) (some (B + 124)) (some (B + 125)) (nI i) h K := by
  unfold f_L_law_B801
  rw [W.rd1 hi]
  refine W.left I fun h3 w3 hj => ?_
  rw [w3.rd1 hi]
  rw [w3.cO]
  exact L_end (F12 := fun K => f_X12_left g (some (B + 119)) (xs (i + 1)) h3 K) w3 hj (fun mu K m p => m.left I.c p) (fun _ _ r => cInt r) fun h' w' => hrec _ h' (by rw [st_left]; exact I) w'
theorem law_losePaper (W : LW g B b L xs σ σ h) (I : Inv σ) (hi : i + 4 < L) (hrec : rK g B b L xs i rec28) : f_L_law_B857 g rec28 (some b) (some B) (some (B + 119)) (some (B + 124)) (some (B + 125)) (nI i) h K := by
  unfold f_L_law_B857
  rw [W.rd1 hi]
  refine W.losePaper I fun h3 w3 hj => ?_
  rw [w3.rd1 hi]
  rw [w3.cO]
  exact L_end (F12 := fun K => f_X12_losePaper g (some (B + 119)) (xs (i + 1)) h3 K) w3 hj (fun mu K m p => m.losePaper I.c I.fl p) (fun hz _ r => cBool (bo_losePaper I  hz) r) fun h' w' => hrec _ h' (I.paper (Or.inl rfl)) w'
theorem law_test (W : LW g B b L xs σ σ h) (I : Inv σ) (hi : i + 4 < L) (hrec : rK g B b L xs i rec28) : f_L_law_B920 g rec28 (some b) (some B) (some (B + 119)) (some (B + 124)) (some (B + 125)) (nI i) h K := by
  unfold f_L_law_B920
  rw [W.rd1 hi]
  refine W.test I fun h3 w3 hj => ?_
  rw [w3.rd1 hi]
  rw [w3.cO]
  exact L_end (F12 := fun K => f_X12_test g (some (B + 119)) (xs (i + 1)) h3 K) w3 hj (fun mu K m p => m.test I.c I.fl p) (fun hz _ r => cBool (bo_test I  hz) r) fun h' w' => hrec _ h' (I.paper (Or.inr rfl)) w'
theorem law_give (W : LW g B b L xs σ σ h) (I : Inv σ) (hi : i + 4 < L) (hrec : rK g B b L xs i rec28) : f_L_law_B983 g rec28 (some b) (some B) (some (B + 119)) (some (B + 124)) (some (B + 125)) (nI i) h K := by
  unfold f_L_law_B983
  rw [W.rd1 hi, W.rd2 hi, W.rd3 hi]
  refine W.give I fun h3 w3 hj => ?_
  rw [w3.rd1 hi, w3.rd2 hi, w3.rd3 hi]
  rw [w3.cO]
  exact L_end (F12 := fun K => f_X12_give g (some (B + 119)) (xs (i + 1)) (xs (i + 2)) (xs (i + 3)) h3 K) w3 hj (fun mu K m p => m.give I.c I.r p) (fun _ _ r => cInt r) fun h' w' => hrec _ h' (I.give) w'
theorem law_heatOf (W : LW g B b L xs σ σ h) (I : Inv σ) (hi : i + 4 < L) (hrec : rK g B b L xs i rec28) : f_L_law_B1063 g rec28 (some b) (some B) (some (B + 119)) (some (B + 124)) (some (B + 125)) (nI i) h K := by
  unfold f_L_law_B1063
  rw [W.rd1 hi, W.rd2 hi]
  refine W.heatOf I fun h3 w3 hj => ?_
  rw [w3.rd1 hi, w3.rd2 hi]
  rw [w3.cO]
  exact L_end (F12 := fun K => f_X12_heatOf g (some (B + 119)) (xs (i + 1)) (xs (i + 2)) h3 K) w3 hj (fun mu K m p => m.heatOf I.c I.r p) (fun _ _ r => cInt r) fun h' w' => hrec _ h' (by rw [st_heatOf]; exact I) w'
theorem law_bestHeat (W : LW g B b L xs σ σ h) (I : Inv σ) (hi : i + 4 < L) (hrec : rK g B b L xs i rec28) : f_L_law_B1131 g rec28 (some b) (some B) (some (B + 119)) (some (B + 124)) (some (B + 125)) (nI i) h K := by
  unfold f_L_law_B1131
  rw [W.rd1 hi, W.rd2 hi, W.rd3 hi]
  refine W.bestHeat I fun h3 w3 hj => ?_
  rw [w3.rd1 hi, w3.rd2 hi, w3.rd3 hi]
  rw [w3.cO]
  exact L_end (F12 := fun K => f_X12_bestHeat g (some (B + 119)) (xs (i + 1)) (xs (i + 2)) (xs (i + 3)) h3 K) w3 hj (fun mu K m p => m.bestHeat I.c p) (fun _ _ r => cInt r) fun h' w' => hrec _ h' (by rw [st_bestHeat]; exact I) w'
theorem law_addWelder (W : LW g B b L xs σ σ h) (I : Inv σ) (hi : i + 4 < L) (hrec : rK g B b L xs i rec28) : f_L_law_B1211 g rec28 (some b) (some B) (some (B + 119)) (some (B + 124)) (some (B + 125)) (nI i) h K := by
  unfold f_L_law_B1211
  refine W.addWelder I fun h3 w3 hj => ?_
  rw [w3.cO]
  exact L_end (F12 := fun K => f_X12_addWelder g (some (B + 119))  h3 K) w3 hj (fun mu K m p => m.addWelder I.c I.nw p) (fun _ _ r => cInt r) fun h' w' => hrec _ h' (I.addWelder) w'
theorem law_ticket (W : LW g B b L xs σ σ h) (I : Inv σ) (hi : i + 4 < L) (hrec : rK g B b L xs i rec28) : f_L_law_B1255 g rec28 (some b) (some B) (some (B + 119)) (some (B + 124)) (some (B + 125)) (nI i) h K := by
  unfold f_L_law_B1255
  rw [W.rd1 hi, W.rd2 hi, W.rd3 hi]
  refine W.ticket I fun h3 w3 hj => ?_
  rw [w3.rd1 hi, w3.rd2 hi, w3.rd3 hi]
  rw [w3.cO]
  exact L_end (F12 := fun K => f_X12_ticket g (some (B + 119)) (xs (i + 1)) (xs (i + 2)) (xs (i + 3)) h3 K) w3 hj (fun mu K m p => m.ticket I.c p) (fun _ _ r => cInt r) fun h' w' => hrec _ h' (I.ticket) w'
theorem law_mayWeld (W : LW g B b L xs σ σ h) (I : Inv σ) (hi : i + 4 < L) (hrec : rK g B b L xs i rec28) : f_L_law_B1335 g rec28 (some b) (some B) (some (B + 119)) (some (B + 124)) (some (B + 125)) (nI i) h K := by
  unfold f_L_law_B1335
  rw [W.rd1 hi, W.rd2 hi, W.rd3 hi]
  refine W.mayWeld I fun h3 w3 hj => ?_
  rw [w3.rd1 hi, w3.rd2 hi, w3.rd3 hi]
  rw [w3.cO]
  exact L_end (F12 := fun K => f_X12_mayWeld g (some (B + 119)) (xs (i + 1)) (xs (i + 2)) (xs (i + 3)) h3 K) w3 hj (fun mu K m p => m.mayWeld I.c I.r I.al p) (fun hz _ r => cBool (bo_mayWeld I  hz) r) fun h' w' => hrec _ h' (by rw [st_mayWeld]; exact I) w'
theorem law_weld (W : LW g B b L xs σ σ h) (I : Inv σ) (hi : i + 4 < L) (hrec : rK g B b L xs i rec28) : f_L_law_B1422 g rec28 (some b) (some B) (some (B + 119)) (some (B + 124)) (some (B + 125)) (nI i) h K := by
  unfold f_L_law_B1422
  rw [W.rd1 hi, W.rd2 hi, W.rd3 hi]
  refine W.weld I fun h3 w3 hj => ?_
  rw [w3.rd1 hi, w3.rd2 hi, w3.rd3 hi]
  rw [w3.cO]
  exact L_end (F12 := fun K => f_X12_weld g (some (B + 119)) (xs (i + 1)) (xs (i + 2)) (xs (i + 3)) h3 K) w3 hj (fun mu K m p => m.weld I.c I.r I.al I.fl p) (fun _ _ r => cInt r) fun h' w' => hrec _ h' (I.weld) w'
theorem law_repair (W : LW g B b L xs σ σ h) (I : Inv σ) (hi : i + 4 < L) (hrec : rK g B b L xs i rec28) : f_L_law_B1598 g rec28 (some b) (some B) (some (B + 119)) (some (B + 124)) (some (B + 125)) (nI i) h K := by
  unfold f_L_law_B1598
  rw [W.rd1 hi, W.rd2 hi, W.rd3 hi]
  refine W.repair I fun h3 w3 hj => ?_
  rw [w3.rd1 hi, w3.rd2 hi, w3.rd3 hi]
  rw [w3.cO]
  exact L_end (F12 := fun K => f_X12_repair g (some (B + 119)) (xs (i + 1)) (xs (i + 2)) (xs (i + 3)) h3 K) w3 hj (fun mu K m p => m.repair I.c I.r I.al I.rp p) (fun _ _ r => cInt r) fun h' w' => hrec _ h' (I.repair) w'
theorem law_cutOut (W : LW g B b L xs σ σ h) (I : Inv σ) (hi : i + 4 < L) (hrec : rK g B b L xs i rec28) : f_L_law_B1678 g rec28 (some b) (some B) (some (B + 119)) (some (B + 124)) (some (B + 125)) (nI i) h K := by
  unfold f_L_law_B1678
  rw [W.rd1 hi, W.rd2 hi]
  refine W.cutOut I fun h3 w3 hj => ?_
  rw [w3.rd1 hi, w3.rd2 hi]
  rw [w3.cO]
  exact L_end (F12 := fun K => f_X12_cutOut g (some (B + 119)) (xs (i + 1)) (xs (i + 2)) h3 K) w3 hj (fun mu K m p => m.cutOut I.c I.rp p) (fun _ _ r => cInt r) fun h' w' => hrec _ h' (I.cutOut) w'
theorem law_joint (W : LW g B b L xs σ σ h) (I : Inv σ) (hi : i + 4 < L) (hrec : rK g B b L xs i rec28) : f_L_law_B1746 g rec28 (some b) (some B) (some (B + 119)) (some (B + 124)) (some (B + 125)) (nI i) h K := by
  unfold f_L_law_B1746
  rw [W.rd1 hi, W.rd2 hi]
  refine W.joint I fun h3 w3 hj => ?_
  rw [w3.rd1 hi, w3.rd2 hi]
  rw [w3.cO]
  exact L_end (F12 := fun K => f_X12_joint g (some (B + 119)) (xs (i + 1)) (xs (i + 2)) h3 K) w3 hj (fun mu K m p => m.joint I.c I.fl p) (fun _ _ r => cInt r) fun h' w' => hrec _ h' (by rw [st_joint]; exact I) w'
theorem law_welderOf (W : LW g B b L xs σ σ h) (I : Inv σ) (hi : i + 4 < L) (hrec : rK g B b L xs i rec28) : f_L_law_B1814 g rec28 (some b) (some B) (some (B + 119)) (some (B + 124)) (some (B + 125)) (nI i) h K := by
  unfold f_L_law_B1814
  rw [W.rd1 hi, W.rd2 hi]
  refine W.welderOf I fun h3 w3 hj => ?_
  rw [w3.rd1 hi, w3.rd2 hi]
  rw [w3.cO]
  exact L_end (F12 := fun K => f_X12_welderOf g (some (B + 119)) (xs (i + 1)) (xs (i + 2)) h3 K) w3 hj (fun mu K m p => m.welderOf I.c I.r I.jw p) (fun _ _ r => cInt r) fun h' w' => hrec _ h' (by rw [st_welderOf]; exact I) w'
theorem law_toLook (W : LW g B b L xs σ σ h) (I : Inv σ) (hi : i + 4 < L) (hrec : rK g B b L xs i rec28) : f_L_law_B1882 g rec28 (some b) (some B) (some (B + 119)) (some (B + 124)) (some (B + 125)) (nI i) h K := by
  unfold f_L_law_B1882
  rw [W.rd1 hi]
  refine W.toLook I fun h3 w3 hj => ?_
  rw [w3.rd1 hi]
  rw [w3.cO]
  exact L_end (F12 := fun K => f_X12_toLook g (some (B + 119)) (xs (i + 1)) h3 K) w3 hj (fun mu K m p => m.toLook I.c I.fl I.sh p) (fun _ _ r => cInt r) fun h' w' => hrec _ h' (by rw [st_toLook]; exact I) w'
theorem law_failed (W : LW g B b L xs σ σ h) (I : Inv σ) (hi : i + 4 < L) (hrec : rK g B b L xs i rec28) : f_L_law_B1938 g rec28 (some b) (some B) (some (B + 119)) (some (B + 124)) (some (B + 125)) (nI i) h K := by
  unfold f_L_law_B1938
  rw [W.rd1 hi]
  refine W.failed I fun h3 w3 hj => ?_
  rw [w3.rd1 hi]
  rw [w3.cO]
  exact L_end (F12 := fun K => f_X12_failed g (some (B + 119)) (xs (i + 1)) h3 K) w3 hj (fun mu K m p => m.failed I.c p) (fun _ _ r => cInt r) fun h' w' => hrec _ h' (by rw [st_failed]; exact I) w'
theorem law_pass (W : LW g B b L xs σ σ h) (I : Inv σ) (hi : i + 4 < L) (hrec : rK g B b L xs i rec28) : f_L_law_B1994 g rec28 (some b) (some B) (some (B + 119)) (some (B + 124)) (some (B + 125)) (nI i) h K := by
  unfold f_L_law_B1994
  rw [W.rd1 hi]
  refine W.pass I fun h3 w3 hj => ?_
  rw [w3.rd1 hi]
  rw [w3.cO]
  exact L_end (F12 := fun K => f_X12_pass g (some (B + 119)) (xs (i + 1)) h3 K) w3 hj (fun mu K m p => m.pass  p) (fun _ _ r => cInt r) fun h' w' => hrec _ h' (I.pass) w'
theorem law_addCircuit (W : LW g B b L xs σ σ h) (I : Inv σ) (hi : i + 4 < L) (hrec : rK g B b L xs i rec28) : f_L_law_B2300 g rec28 (some b) (some B) (some (B + 119)) (some (B + 124)) (some (B + 125)) (nI i) h K := by
  unfold f_L_law_B2300
  rw [W.rd1 hi]
  refine W.addCircuit I fun h3 w3 hj => ?_
  rw [w3.rd1 hi]
  rw [w3.cO]
  exact L_end (F12 := fun K => f_X12_addCircuit g (some (B + 119)) (xs (i + 1)) h3 K) w3 hj (fun mu K m p => m.addCircuit I.c p) (fun _ _ r => cInt r) fun h' w' => hrec _ h' (I.addCircuit) w'
theorem law_open (W : LW g B b L xs σ σ h) (I : Inv σ) (hi : i + 4 < L) (hrec : rK g B b L xs i rec28) : f_L_law_B2356 g rec28 (some b) (some B) (some (B + 119)) (some (B + 124)) (some (B + 125)) (nI i) h K := by
  unfold f_L_law_B2356
  rw [W.rd1 hi]
  refine W.opens I fun h3 w3 hj => ?_
  rw [w3.rd1 hi]
  rw [w3.cO]
  exact L_end (F12 := fun K => f_X12_open g (some (B + 119)) (xs (i + 1)) h3 K) w3 hj (fun mu K m p => m.opens I.c I.r p) (fun _ _ r => cInt r) fun h' w' => hrec _ h' (by rw [st_opens]; exact I) w'
theorem law_canTest (W : LW g B b L xs σ σ h) (I : Inv σ) (hi : i + 4 < L) (hrec : rK g B b L xs i rec28) : f_L_law_B2412 g rec28 (some b) (some B) (some (B + 119)) (some (B + 124)) (some (B + 125)) (nI i) h K := by
  unfold f_L_law_B2412
  rw [W.rd1 hi]
  refine W.canTest I fun h3 w3 hj => ?_
  rw [w3.rd1 hi]
  rw [w3.cO]
  exact L_end (F12 := fun K => f_X12_canTest g (some (B + 119)) (xs (i + 1)) h3 K) w3 hj (fun mu K m p => m.canTest I.c I.r I.fl I.sh p) (fun hz _ r => cBool (bo_canTest I  hz) r) fun h' w' => hrec _ h' (by rw [st_canTest]; exact I) w'
theorem law_testAll (W : LW g B b L xs σ σ h) (I : Inv σ) (hi : i + 4 < L) (hrec : rK g B b L xs i rec28) : f_L_law_B2475 g rec28 (some b) (some B) (some (B + 119)) (some (B + 124)) (some (B + 125)) (nI i) h K := by
  unfold f_L_law_B2475
  rw [W.rd1 hi]
  refine W.testAll I fun h3 w3 hj => ?_
  rw [w3.rd1 hi]
  rw [w3.cO]
  exact L_end (F12 := fun K => f_X12_testAll g (some (B + 119)) (xs (i + 1)) h3 K) w3 hj (fun mu K m p => m.testAll I.c I.r I.fl I.sh p) (fun _ _ r => cInt r) fun h' w' => hrec _ h' (I.testAll) w'
theorem law_isTested (W : LW g B b L xs σ σ h) (I : Inv σ) (hi : i + 4 < L) (hrec : rK g B b L xs i rec28) : f_L_law_B2531 g rec28 (some b) (some B) (some (B + 119)) (some (B + 124)) (some (B + 125)) (nI i) h K := by
  unfold f_L_law_B2531
  rw [W.rd1 hi]
  refine W.isTested I fun h3 w3 hj => ?_
  rw [w3.rd1 hi]
  rw [w3.cO]
  exact L_end (F12 := fun K => f_X12_isTested g (some (B + 119)) (xs (i + 1)) h3 K) w3 hj (fun mu K m p => m.isTested I.c I.fl p) (fun hz _ r => cBool (bo_isTested I  hz) r) fun h' w' => hrec _ h' (by rw [st_isTested]; exact I) w'
theorem law_lack (W : LW g B b L xs σ σ h) (I : Inv σ) (hi : i + 4 < L) (hrec : rK g B b L xs i rec28) : f_L_law_B2594 g rec28 (some b) (some B) (some (B + 119)) (some (B + 124)) (some (B + 125)) (nI i) h K := by
  unfold f_L_law_B2594
  rw [W.rd1 hi, W.rd2 hi]
  refine W.lack I fun h3 w3 hj => ?_
  rw [w3.rd1 hi, w3.rd2 hi]
  rw [w3.cO]
  exact L_end (F12 := fun K => f_X12_lack g (some (B + 119)) (xs (i + 1)) (xs (i + 2)) h3 K) w3 hj (fun mu K m p => m.lack I.c I.r I.fl I.sh p) (fun _ _ r => cInt r) fun h' w' => hrec _ h' (by rw [st_lack]; exact I) w'
theorem law_lacks (W : LW g B b L xs σ σ h) (I : Inv σ) (hi : i + 4 < L) (hrec : rK g B b L xs i rec28) : f_L_law_B2662 g rec28 (some b) (some B) (some (B + 119)) (some (B + 124)) (some (B + 125)) (nI i) h K := by
  unfold f_L_law_B2662
  rw [W.rd1 hi]
  refine W.lacks I fun h3 w3 hj => ?_
  rw [w3.rd1 hi]
  rw [w3.cO]
  exact L_end (F12 := fun K => f_X12_lacks g (some (B + 119)) (((xs (i + 1)).toUInt32 % 65536).toInt32) h3 K) w3 hj (fun mu K m p => m.lacks I.c I.r I.fl I.sh (u16_pos _) p) (fun _ _ r => cInt r) fun h' w' => hrec _ h' (by rw [st_lacks]; exact I) w'
theorem law_ahead (W : LW g B b L xs σ σ h) (I : Inv σ) (hi : i + 4 < L) (hrec : rK g B b L xs i rec28) : f_L_law_B2733 g rec28 (some b) (some B) (some (B + 119)) (some (B + 124)) (some (B + 125)) (nI i) h K := by
  unfold f_L_law_B2733
  rw [W.rd1 hi, W.rd2 hi]
  refine W.ahead I fun h3 w3 hj => ?_
  rw [w3.rd1 hi, w3.rd2 hi]
  rw [w3.cO]
  exact L_end (F12 := fun K => f_X12_ahead g (some (B + 119)) (xs (i + 1)) (xs (i + 2)) h3 K) w3 hj (fun mu K m p => m.ahead I.c I.a4 p) (fun hz _ r => cBool (bo_ahead I  hz) r) fun h' w' => hrec _ h' (I.ahead) w'
theorem law_isReady (W : LW g B b L xs σ σ h) (I : Inv σ) (hi : i + 4 < L) (hrec : rK g B b L xs i rec28) : f_L_law_B2808 g rec28 (some b) (some B) (some (B + 119)) (some (B + 124)) (some (B + 125)) (nI i) h K := by
  unfold f_L_law_B2808
  rw [W.rd1 hi]
  refine W.isReady I fun h3 w3 hj => ?_
  rw [w3.rd1 hi]
  rw [w3.cO]
  exact L_end (F12 := fun K => f_X12_isReady g (some (B + 119)) (xs (i + 1)) h3 K) w3 hj (fun mu K m p => m.isReady I.c I.r I.fl I.sh I.a4 p) (fun hz _ r => cBool (bo_isReady I  hz) r) fun h' w' => hrec _ h' (by rw [st_isReady]; exact I) w'
theorem law_turnover (W : LW g B b L xs σ σ h) (I : Inv σ) (hi : i + 4 < L) (hrec : rK g B b L xs i rec28) : f_L_law_B2871 g rec28 (some b) (some B) (some (B + 119)) (some (B + 124)) (some (B + 125)) (nI i) h K := by
  unfold f_L_law_B2871
  rw [W.rd1 hi]
  refine W.turnover I fun h3 w3 hj => ?_
  rw [w3.rd1 hi]
  rw [w3.cO]
  exact L_end (F12 := fun K => f_X12_turnover g (some (B + 119)) (xs (i + 1)) h3 K) w3 hj (fun mu K m p => m.turnover I.c I.nx p) (fun _ _ r => cInt r) fun h' w' => hrec _ h' (by rw [st_turnover]; exact I) w'
theorem law_addHeat (W : LW g B b L xs σ σ h) (I : Inv σ) (hi : i + 4 < L) (hrec : rK g B b L xs i rec28) : f_L_law_B705 g rec28 (some b) (some B) (some (B + 119)) (some (B + 124)) (some (B + 125)) (nI i) h K := by
  unfold f_L_law_B705
  rw [W.rd1 hi, W.rd2 hi, W.rd3 hi]
  by_cases q : xs (i + 3) = 0
  · rw [if_pos q]
    unfold f_L_law_B732
    refine W.addHeat I (Or.inl rfl) fun h3 w3 hj => ?_
    rw [w3.rd1 hi, w3.rd2 hi, w3.rd3 hi, if_pos q]
    unfold f_L_law_B765
    rw [w3.cO]
    exact L_end (F12 := fun K => f_X12_addHeat g (some (B + 119)) (xs (i + 1)) (xs (i + 2)) 0 h3 K) w3 hj (fun mu K m p => m.addHeat I.c (Or.inl rfl) p) (fun _ _ r => cInt r) fun h' w' => hrec _ h' (I.addHeat (Or.inl rfl)) w'
  · rw [if_neg q]
    unfold f_L_law_B732
    refine W.addHeat I (Or.inr rfl) fun h3 w3 hj => ?_
    rw [w3.rd1 hi, w3.rd2 hi, w3.rd3 hi, if_neg q]
    unfold f_L_law_B765
    rw [w3.cO]
    exact L_end (F12 := fun K => f_X12_addHeat g (some (B + 119)) (xs (i + 1)) (xs (i + 2)) 1 h3 K) w3 hj (fun mu K m p => m.addHeat I.c (Or.inr rfl) p) (fun _ _ r => cInt r) fun h' w' => hrec _ h' (I.addHeat (Or.inr rfl)) w'
theorem law_look (W : LW g B b L xs σ σ h) (I : Inv σ) (hi : i + 4 < L) (hrec : rK g B b L xs i rec28) : f_L_law_B1502 g rec28 (some b) (some B) (some (B + 119)) (some (B + 124)) (some (B + 125)) (nI i) h K := by
  unfold f_L_law_B1502
  rw [W.rd1 hi, W.rd2 hi, W.rd3 hi]
  by_cases q : xs (i + 3) = 0
  · rw [if_pos q]
    unfold f_L_law_B1529
    refine W.look I  fun h3 w3 hj => ?_
    rw [w3.rd1 hi, w3.rd2 hi, w3.rd3 hi, if_pos q]
    unfold f_L_law_B1562
    rw [w3.cO]
    exact L_end (F12 := fun K => f_X12_look g (some (B + 119)) (xs (i + 1)) (xs (i + 2)) 0 h3 K) w3 hj (fun mu K m p => m.look I.c I.r I.jw p) (fun _ _ r => cInt r) fun h' w' => hrec _ h' (I.look) w'
  · rw [if_neg q]
    unfold f_L_law_B1529
    refine W.look I  fun h3 w3 hj => ?_
    rw [w3.rd1 hi, w3.rd2 hi, w3.rd3 hi, if_neg q]
    unfold f_L_law_B1562
    rw [w3.cO]
    exact L_end (F12 := fun K => f_X12_look g (some (B + 119)) (xs (i + 1)) (xs (i + 2)) 1 h3 K) w3 hj (fun mu K m p => m.look I.c I.r I.jw p) (fun _ _ r => cInt r) fun h' w' => hrec _ h' (I.look) w'
theorem law_join (W : LW g B b L xs σ σ h) (I : Inv σ) (hi : i + 4 < L) (hrec : rK g B b L xs i rec28) : f_L_law_B2050 g rec28 (some b) (some B) (some (B + 119)) (some (B + 124)) (some (B + 125)) (nI i) h K := by
  unfold f_L_law_B2050
  rw [W.rd1 hi, W.rd2 hi]
  by_cases q : xs (i + 2) = 0
  · rw [if_pos q]
    unfold f_L_law_B2071
    rw [W.rd3 hi, W.rd4 hi]
    by_cases q2 : xs (i + 4) = 0
    · rw [if_pos q2]
      unfold f_L_law_B2091
      refine W.join I fun h3 w3 hj => ?_
      rw [w3.rd1 hi, w3.rd2 hi, if_pos q]
      unfold f_L_law_B2118
      rw [w3.rd3 hi, w3.rd4 hi, if_pos q2]
      unfold f_L_law_B2138
      rw [w3.cO]
      exact L_end (F12 := fun K => f_X12_join g (some (B + 119)) (xs (i + 1)) 0 (xs (i + 3)) 0 h3 K) w3 hj (fun mu K m p => m.join I.c I.r p) (fun hz _ r => cBool (bo_join I  hz) r) fun h' w' => hrec _ h' (I.join) w'
    · rw [if_neg q2]
      unfold f_L_law_B2091
      refine W.join I fun h3 w3 hj => ?_
      rw [w3.rd1 hi, w3.rd2 hi, if_pos q]
      unfold f_L_law_B2118
      rw [w3.rd3 hi, w3.rd4 hi, if_neg q2]
      unfold f_L_law_B2138
      rw [w3.cO]
      exact L_end (F12 := fun K => f_X12_join g (some (B + 119)) (xs (i + 1)) 0 (xs (i + 3)) 1 h3 K) w3 hj (fun mu K m p => m.join I.c I.r p) (fun hz _ r => cBool (bo_join I  hz) r) fun h' w' => hrec _ h' (I.join) w'
  · rw [if_neg q]
    unfold f_L_law_B2071
    rw [W.rd3 hi, W.rd4 hi]
    by_cases q2 : xs (i + 4) = 0
    · rw [if_pos q2]
      unfold f_L_law_B2091
      refine W.join I fun h3 w3 hj => ?_
      rw [w3.rd1 hi, w3.rd2 hi, if_neg q]
      unfold f_L_law_B2118
      rw [w3.rd3 hi, w3.rd4 hi, if_pos q2]
      unfold f_L_law_B2138
      rw [w3.cO]
      exact L_end (F12 := fun K => f_X12_join g (some (B + 119)) (xs (i + 1)) 1 (xs (i + 3)) 0 h3 K) w3 hj (fun mu K m p => m.join I.c I.r p) (fun hz _ r => cBool (bo_join I  hz) r) fun h' w' => hrec _ h' (I.join) w'
    · rw [if_neg q2]
      unfold f_L_law_B2091
      refine W.join I fun h3 w3 hj => ?_
      rw [w3.rd1 hi, w3.rd2 hi, if_neg q]
      unfold f_L_law_B2118
      rw [w3.rd3 hi, w3.rd4 hi, if_neg q2]
      unfold f_L_law_B2138
      rw [w3.cO]
      exact L_end (F12 := fun K => f_X12_join g (some (B + 119)) (xs (i + 1)) 1 (xs (i + 3)) 1 h3 K) w3 hj (fun mu K m p => m.join I.c I.r p) (fun hz _ r => cBool (bo_join I  hz) r) fun h' w' => hrec _ h' (I.join) w'
theorem law_blind (W : LW g B b L xs σ σ h) (I : Inv σ) (hi : i + 4 < L) (hrec : rK g B b L xs i rec28) : f_L_law_B2181 g rec28 (some b) (some B) (some (B + 119)) (some (B + 124)) (some (B + 125)) (nI i) h K := by
  unfold f_L_law_B2181
  rw [W.rd1 hi, W.rd2 hi]
  by_cases q : xs (i + 2) = 0
  · rw [if_pos q]
    unfold f_L_law_B2202
    rw [W.rd3 hi]
    by_cases q2 : xs (i + 3) = 0
    · rw [if_pos q2]
      unfold f_L_law_B2216
      refine W.blind I (Or.inl rfl) fun h3 w3 hj => ?_
      rw [w3.rd1 hi, w3.rd2 hi, if_pos q]
      unfold f_L_law_B2243
      rw [w3.rd3 hi, if_pos q2]
      unfold f_L_law_B2257
      rw [w3.cO]
      exact L_end (F12 := fun K => f_X12_blind g (some (B + 119)) (xs (i + 1)) 0 0 h3 K) w3 hj (fun mu K m p => m.blind I.c I.r I.fl (Or.inl rfl) p) (fun hz _ r => cBool (bo_blind I (Or.inl rfl) hz) r) fun h' w' => hrec _ h' (I.blinds (Or.inl rfl)) w'
    · rw [if_neg q2]
      unfold f_L_law_B2216
      refine W.blind I (Or.inr rfl) fun h3 w3 hj => ?_
      rw [w3.rd1 hi, w3.rd2 hi, if_pos q]
      unfold f_L_law_B2243
      rw [w3.rd3 hi, if_neg q2]
      unfold f_L_law_B2257
      rw [w3.cO]
      exact L_end (F12 := fun K => f_X12_blind g (some (B + 119)) (xs (i + 1)) 0 1 h3 K) w3 hj (fun mu K m p => m.blind I.c I.r I.fl (Or.inr rfl) p) (fun hz _ r => cBool (bo_blind I (Or.inr rfl) hz) r) fun h' w' => hrec _ h' (I.blinds (Or.inr rfl)) w'
  · rw [if_neg q]
    unfold f_L_law_B2202
    rw [W.rd3 hi]
    by_cases q2 : xs (i + 3) = 0
    · rw [if_pos q2]
      unfold f_L_law_B2216
      refine W.blind I (Or.inl rfl) fun h3 w3 hj => ?_
      rw [w3.rd1 hi, w3.rd2 hi, if_neg q]
      unfold f_L_law_B2243
      rw [w3.rd3 hi, if_pos q2]
      unfold f_L_law_B2257
      rw [w3.cO]
      exact L_end (F12 := fun K => f_X12_blind g (some (B + 119)) (xs (i + 1)) 1 0 h3 K) w3 hj (fun mu K m p => m.blind I.c I.r I.fl (Or.inl rfl) p) (fun hz _ r => cBool (bo_blind I (Or.inl rfl) hz) r) fun h' w' => hrec _ h' (I.blinds (Or.inl rfl)) w'
    · rw [if_neg q2]
      unfold f_L_law_B2216
      refine W.blind I (Or.inr rfl) fun h3 w3 hj => ?_
      rw [w3.rd1 hi, w3.rd2 hi, if_neg q]
      unfold f_L_law_B2243
      rw [w3.rd3 hi, if_neg q2]
      unfold f_L_law_B2257
      rw [w3.cO]
      exact L_end (F12 := fun K => f_X12_blind g (some (B + 119)) (xs (i + 1)) 1 1 h3 K) w3 hj (fun mu K m p => m.blind I.c I.r I.fl (Or.inr rfl) p) (fun hz _ r => cBool (bo_blind I (Or.inr rfl) hz) r) fun h' w' => hrec _ h' (I.blinds (Or.inr rfl)) w'
theorem law_undone (W : LW g B b L xs σ σ h) (I : Inv σ) (hi : i + 4 < L) (hrec : rK g B b L xs i rec28) : f_L_law_B2720 g rec28 (some b) (some B) (some (B + 119)) (some (B + 124)) (some (B + 125)) (nI i) h K := by
  unfold f_L_law_B2720
  rw [W.cB, W.1.undone, W.cO]
  obtain ⟨mu, m⟩ := W.2.1
  refine m.undone fun h' fr m' => ?_
  rw [if_pos rfl]
  exact hrec _ h' I (W.keepM fr.1 m')
theorem law_checksum (W : LW g B b L xs σ σ h) (I : Inv σ) (hi : i + 4 < L) (hrec : rK g B b L xs i rec28) : f_L_law_B2927 g rec28 (some b) (some B) (some (B + 119)) (some (B + 124)) (some (B + 125)) (nI i) h K := by
  unfold f_L_law_B2927
  rw [W.cB, W.1.checksum I.c, W.cO]
  obtain ⟨mu, m⟩ := W.2.1
  refine m.checksum I.c fun h' fr m' => ?_
  rw [if_pos (lg_self _)]
  exact hrec _ h' I (W.keepM fr.1 m')
theorem law_isSound (W : LW g B b L xs σ σ h) (I : Inv σ) (hi : i + 4 < L) (hrec : rK g B b L xs i rec28) : f_L_law_B3084 g rec28 (some b) (some B) (some (B + 119)) (some (B + 124)) (some (B + 125)) (nI i) h K := by
  unfold f_L_law_B3084
  rw [W.cB, W.1.isSound I.c I.r, W.cO]
  obtain ⟨mu, m⟩ := W.2.1
  refine m.isSound fun h' fr m' => ?_
  rw [spSound_ok I, if_pos rfl, if_pos rfl]
  exact hrec _ h' I (W.keepM fr.1 m')
theorem LW.getD (W : LW g B b L xs σ σ h) {v : UInt64} {kk : UInt64 → Prop} (e : aD h (B + 125) 0 = v) (k : kk v) : lD h (some (B + 125)) 0 kk := by
  refine ⟨_, rfl, W.2.2.2.2.2.1.1, by rw [W.2.2.2.2.2.1.2]; exact vp_in_nI (n := 0) (N := 1) (by decide) (by decide), ?_⟩
  rw [show (0 : Int32).toNatClampNeg = 0 by decide, e]
  exact k
theorem LW.keptD {h' : AH} (W : LW g B b L xs σ σ h) (fr : frM B h h') {v : UInt64} (e : aD h (B + 125) 0 = v) : aD h' (B + 125) 0 = v := by
  have hr : B + 125 < hN h := by have := W.2.2.2.2.2.2.1; omega
  rw [((fr.1 _ hr).2.2.2 0).2]
  exact e
theorem law_doneShare (W : LW g B b L xs σ σ h) (I : Inv σ) (hi : i + 4 < L) (hrec : rK g B b L xs i rec28) : f_L_law_B2941 g rec28 (some b) (some B) (some (B + 119)) (some (B + 124)) (some (B + 125)) (nI i) h K := by
  unfold f_L_law_B2941 f_L_doneShare
  rw [W.cB, W.1.doneShare I.c I.r]
  by_cases q : spJoints σ = 0
  · rw [if_pos q]
    refine W.1.thrown fun h1 fr1 y1 => ?_
    have w1 := W.keepY fr1 y1
    rw [if_pos rfl]
    show cast h1 (some (B + 119)) 13 _
    rw [w1.cO]
    obtain ⟨mu, m⟩ := w1.2.1
    refine m.doneShare I.c I.r I.fl I.sh (fun _ h' fr hc m' => ?_) (fun z => absurd q z)
    rw [m'.cO, m'.thrown, hc, if_pos rfl, if_neg (by decide)]
    exact hrec _ h' I (w1.keepM fr m')
  · rw [if_neg q]
    have v32 : vf_n32 (spDoneV σ) := share_ok q
    have v64 := wide_ok v32
    refine ⟨v32, v64, ?_⟩
    refine W.putD fun h1 w1 e1 => ?_
    show cast h1 (some (B + 119)) 13 _
    rw [w1.cO]
    obtain ⟨mu, m⟩ := w1.2.1
    refine m.doneShare I.c I.r I.fl I.sh (fun z => absurd z q) (fun _ h' fr m' => ⟨v32, ?_⟩)
    have w2 := w1.keepM fr.1 m'
    rw [m'.cO, m'.thrown, fr.2, if_pos rfl, if_pos rfl]
    refine w2.getD (w1.keptD fr.1 e1) ⟨v64, ?_⟩
    rw [if_pos (cmp_self v64)]
    exact hrec _ h' I w2
theorem spStep_1 {l p : Nat} {t : Int32 × Int32 × Int32} : (spStep σ l p t).1 = t.1 ∨ (spStep σ l p t).1 = t.1 + 1 := by
  unfold spStep
  repeat' split
  all_goals first | exact Or.inl rfl | exact Or.inr rfl
theorem spool_nat {l : Nat} : ∀ n, n ≤ 10 → ∃ k, k ≤ n ∧ (zfo (spStep σ l) n 0 (0, 0, 0)).1 = nI k := by
  intro n
  induction n with
  | zero => intro _; exact ⟨0, Nat.le_refl _, rfl⟩
  | succ n ih =>
    intro hn
    obtain ⟨k, hk, e⟩ := ih (by omega)
    rw [zfo_snoc]
    rcases spStep_1 (σ := σ) (l := l) (p := 0 + n) (t := zfo (spStep σ l) n 0 (0, 0, 0)) with z | z
    · exact ⟨k, by omega, z.trans e⟩
    · refine ⟨k + 1, by omega, z.trans ?_⟩
      rw [e]
      exact nI_add k 1
theorem spools_0 (c : zCnt σ) {l : Nat} : spSpools σ l = 0 ↔ sN σ 4 l = 0 := by
  unfold spSpools
  by_cases q : sN σ 4 l = 0
  · rw [if_pos q]; exact ⟨fun _ => q, fun _ => rfl⟩
  · rw [if_neg q]
    have c2 := c.2.2.2.2 l
    refine ⟨fun z => ?_, fun z => absurd z q⟩
    unfold spSpool at z
    obtain ⟨k, hk, e⟩ := spool_nat (σ := σ) (l := l) (sN σ 4 l - 1 + 1) (by omega)
    rw [e] at z
    have z2 : nI (k + 1) = nI 0 := (nI_add k 1).symm.trans z
    rw [nI_eq (by omega) (by decide)] at z2
    omega
theorem law_meanSpool (W : LW g B b L xs σ σ h) (I : Inv σ) (hi : i + 4 < L) (hrec : rK g B b L xs i rec28) : f_L_law_B3007 g rec28 (some b) (some B) (some (B + 119)) (some (B + 124)) (some (B + 125)) (nI i) h K := by
  unfold f_L_law_B3007 f_L_meanSpool
  rw [W.rd1 hi, W.cB, W.1.meanSpool I.c]
  cases e : ix (xs (i + 1)) (sN σ 0 0) with
  | none =>
    dsimp only
    refine W.1.thrown fun h1 fr1 y1 => ?_
    have w1 := W.keepY fr1 y1
    rw [if_pos rfl, w1.rd1 hi, w1.cO]
    obtain ⟨mu, m⟩ := w1.2.1
    refine m.meanSpool I.c (fun _ h' fr hc m' => ?_) (fun i z => by rw [e] at z; cases z) (fun i z => by rw [e] at z; cases z)
    rw [m'.cO, m'.thrown, hc, if_pos rfl, if_neg (by decide)]
    exact hrec _ h' I (w1.keepM fr m')
  | some j =>
    dsimp only
    by_cases q : spSpools σ j = 0
    · rw [if_pos q]
      have q2 := (spools_0 I.c).mp q
      refine W.1.thrown fun h1 fr1 y1 => ?_
      have w1 := W.keepY fr1 y1
      rw [if_neg (by decide), if_pos rfl, w1.rd1 hi, w1.cO]
      obtain ⟨mu, m⟩ := w1.2.1
      refine m.meanSpool I.c (fun z => by rw [e] at z; cases z) (fun i2 z _ h' fr hc m' => ?_) (fun i2 z z2 => ?_)
      · rw [m'.cO, m'.thrown, hc, if_pos rfl, if_neg (by decide)]
        exact hrec _ h' I (w1.keepM fr m')
      · rw [e] at z
        cases z
        exact absurd q2 z2
    · rw [if_neg q]
      have q2 : ¬ sN σ 4 j = 0 := fun z => q ((spools_0 I.c).mpr z)
      have v64 : vf_n64 (spMeanV σ j) := mean_ok q
      refine ⟨v64, ?_⟩
      refine W.putD fun h1 w1 e1 => ?_
      rw [w1.rd1 hi, w1.cO]
      obtain ⟨mu, m⟩ := w1.2.1
      refine m.meanSpool I.c (fun z => by rw [e] at z; cases z) (fun i2 z z2 => ?_) (fun i2 z _ h' fr m' => ?_)
      · rw [e] at z
        cases z
        exact absurd z2 q2
      · rw [e] at z
        cases z
        refine ⟨v64, ?_⟩
        have w2 := w1.keepM fr.1 m'
        rw [m'.cO, m'.thrown, fr.2, if_pos rfl, if_pos rfl]
        refine w2.getD (w1.keptD fr.1 e1) ?_
        rw [if_pos (cmp_self v64)]
        exact hrec _ h' I w2
end LAW
