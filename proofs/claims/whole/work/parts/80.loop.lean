/-! the law's loop over its script -/
theorem zsw_all {x : Int32} {D : Prop} (d : D) : ∀ (l : List Prop) (k : Nat), (∀ P, P ∈ l → P) → zsw x D k l := by
  intro l
  induction l with
  | nil => intro k _; exact d
  | cons P r ih =>
    intro k h
    unfold zsw
    by_cases q : x = Int32.ofNat k
    · rw [if_pos q]; exact h P List.mem_cons_self
    · rw [if_neg q]; exact ih (k + 1) (fun Q hQ => h Q (List.mem_cons_of_mem _ hQ))
theorem all_c {P : Prop} {l : List Prop} (p : P) (h : ∀ Q, Q ∈ l → Q) : ∀ Q, Q ∈ P :: l → Q := List.forall_mem_cons.mpr ⟨p, h⟩
theorem all_n : ∀ Q : Prop, Q ∈ ([] : List Prop) → Q := fun _ h => absurd h List.not_mem_nil
theorem sub5_s : ∀ L, L < 5 → nI L - 5 < 0 := by decide
theorem sub5 {L i : Nat} (hL : L ≤ 2560) (hi : i ≤ L) : nI L - 5 < nI i ↔ L < i + 5 := by
  by_cases q : 5 ≤ L
  · rw [show (5 : Int32) = nI 5 from rfl, nI_subI q, nI_ltI (by omega) (by omega)]
    omega
  · have a := sub5_s L (by omega)
    exact ⟨fun _ => by omega, fun _ => Int32.lt_of_lt_of_le a (nI_pos' (by omega))⟩
section LAL
variable {g : Nat → Nat} {B b L : Nat} {xs : Nat → Int32} {K : Int32 → AH → Prop}
theorem law_loop (hL : L ≤ 2560) (kend : ∀ h, K 1 h) : ∀ (n i : Nat) (σ : zS) (h : AH), Inv σ → LW g B b L xs σ σ h → i ≤ L → L < i + 5 * n → f_L_law_L28 g K n (some b) (some B) (some (B + 119)) (some (B + 124)) (some (B + 125)) (nI i) h := by
  intro n
  induction n with
  | zero => intro i σ h _ _ h1 h2; omega
  | succ n ih =>
    intro i σ h I W h1 h2
    show f_L_law_L28b g (fun x0 x1 x2 x3 x4 x5 h => f_L_law_L28 g K n x0 x1 x2 x3 x4 x5 h) (some b) (some B) (some (B + 119)) (some (B + 124)) (some (B + 125)) (nI i) h K
    unfold f_L_law_L28b
    refine ⟨b, rfl, Or.inr W.2.2.2.1.1, ?_⟩
    rw [W.2.2.2.1.2.1]
    show (if nI L - 5 < nI i then K 1 h else _)
    by_cases q : L < i + 5
    · rw [if_pos ((sub5 hL h1).mpr q)]; exact kend h
    rw [if_neg (fun z => q ((sub5 hL h1).mp z)), W.2.2.rd (show i < L by omega)]
    have hi : i + 4 < L := by omega
    have hrec : rK g B b L xs i (fun x0 x1 x2 x3 x4 x5 h => f_L_law_L28 g K n x0 x1 x2 x3 x4 x5 h) := fun σ' h' I' W' => by
      show f_L_law_L28 g K n (some b) (some B) (some (B + 119)) (some (B + 124)) (some (B + 125)) (nI i + 5) h'
      rw [show nI i + 5 = nI (i + 5) from nI_add i 5]
      exact ih (i + 5) σ' h' I' W' (by omega) (by omega)
    refine zsw_all ?_ _ _ ?_
    · exact hrec σ h I W
    · exact all_c (law_addLine W I hi hrec) (all_c (law_addPart W I hi hrec) (all_c (law_setLength W I hi hrec) (all_c (law_length W I hi hrec) (all_c (law_spools W I hi hrec) (all_c (law_spoolOf W I hi hrec) (all_c (law_isField W I hi hrec) (all_c (law_addHeat W I hi hrec) (all_c (law_left W I hi hrec) (all_c (law_losePaper W I hi hrec) (all_c (law_test W I hi hrec) (all_c (law_give W I hi hrec) (all_c (law_heatOf W I hi hrec) (all_c (law_bestHeat W I hi hrec) (all_c (law_addWelder W I hi hrec) (all_c (law_ticket W I hi hrec) (all_c (law_mayWeld W I hi hrec) (all_c (law_weld W I hi hrec) (all_c (law_look W I hi hrec) (all_c (law_repair W I hi hrec) (all_c (law_cutOut W I hi hrec) (all_c (law_joint W I hi hrec) (all_c (law_welderOf W I hi hrec) (all_c (law_toLook W I hi hrec) (all_c (law_failed W I hi hrec) (all_c (law_pass W I hi hrec) (all_c (law_join W I hi hrec) (all_c (law_blind W I hi hrec) (all_c (law_addCircuit W I hi hrec) (all_c (law_open W I hi hrec) (all_c (law_canTest W I hi hrec) (all_c (law_testAll W I hi hrec) (all_c (law_isTested W I hi hrec) (all_c (law_lack W I hi hrec) (all_c (law_lacks W I hi hrec) (all_c (law_undone W I hi hrec) (all_c (law_ahead W I hi hrec) (all_c (law_isReady W I hi hrec) (all_c (law_turnover W I hi hrec) (all_c (law_checksum W I hi hrec) (all_c (law_doneShare W I hi hrec) (all_c (law_meanSpool W I hi hrec) (all_c (law_isSound W I hi hrec) (all_n)))))))))))))))))))))))))))))))))))))))))))
end LAL
