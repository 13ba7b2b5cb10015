/-! an iterator's steps -/
section ITT
variable {e0 : Nat} {h : AH} {a arr n : Nat} {x : Nat → Nat} {g : Nat → Nat} {o c : Nat}
theorem IT.hasNext (I : IT h o a c) (L : AL e0 h a arr n x) (hc : c ≤ n) {K : Int32 → AH → Prop} : f_Jx35411_hasNext_aae02 g (some o) h K = K (if c = n then 0 else 1) h := by
  have hn := L.2.2.2.2.1
  obtain ⟨i1, i2, i3, i4, i5, i6⟩ := I
  unfold f_Jx35411_hasNext_aae02
  rw [gI_eq i1 i2, gA_eq i1 i3, gI_eq L.1 L.2.1, okZ_0, okZ_1]
  by_cases q : c = n
  · rw [if_pos (by rw [q]), if_pos q]
  · rw [if_neg (fun z => q ((nI_eq (by omega) (by omega)).mp z)), if_neg q]
theorem IT.next (I : IT h o a c) (L : AL e0 h a arr n x) (hc : c < n) {K : Option Nat → AH → Prop} (k : ∀ h', (∀ f b, b ≠ o → hI h' f b = hI h f b) → hA h' = hA h → hK h' = hK h → hL h' = hL h → aI h' = aI h → aA h' = aA h → aJ h' = aJ h → aD h' = aD h → hN h' = hN h → IT h' o a (c + 1) → K (some (x c)) h') : f_Jx35411_next_0502b g (some o) h K := by
  obtain ⟨i1, i2, i3, i4, i5, i6⟩ := I
  obtain ⟨l1, l2, l3, l4, l5, l6⟩ := L
  have hao : a ≠ o := Nat.ne_of_lt i5
  have h35 : hK h arr = 35 ∧ hL h arr = 10 := by
    rcases l4 with z | z
    · omega
    · exact z
  unfold f_Jx35411_next_0502b f_Jx35411_checkForComodification_da8c8
  rw [cast_eq i1, gA_eq i1 i3, gI_eq l1 rfl, gI_eq i1 i4, if_pos rfl]
  dsimp only
  rw [gI_eq i1 i2, gA_eq i1 i3, gI_eq l1 l2, if_pos (nI_lt hc (by omega)), gA_eq i1 i3, gA_eq l1 l3, aLen_eq (Or.inl h35.1) h35.2, if_pos (nI_lt (by omega) (by decide))]
  refine ⟨o, rfl, i1, ?_⟩
  refine ⟨o, rfl, i1, ?_⟩
  have e9 := lA_eq (h := sI (sI h 224 o (nI c + 1)) 225 o (nI c)) (a := arr) (t := 5) (n := 10) (i := c) (v := some (x c)) (kk := fun v10 => K v10 (sI (sI h 224 o (nI c + 1)) 225 o (nI c))) (Or.inl h35.1) h35.2 (by omega) (by decide) (l6 c hc)
  refine e9.mpr ?_
  refine k _ ?_ rfl rfl rfl rfl rfl rfl rfl rfl ⟨i1, ?_, i3, ?_, i5, i6⟩
  · intro f b hb
    simp [sI, hI, u2, hb]
  · simp [sI, hI, u2, nI_1]
  · have e1 : hI (sI (sI h 224 o (nI c + 1)) 225 o (nI c)) 226 o = hI h 226 o := by simp [sI, hI, u2]
    have e2 : hI (sI (sI h 224 o (nI c + 1)) 225 o (nI c)) 208 a = hI h 208 a := by simp [sI, hI, u2]
    rw [e1, e2]; exact i4
end ITT
