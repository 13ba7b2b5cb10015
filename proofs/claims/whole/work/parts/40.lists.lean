/-! ARRAY LISTS: the object a, its array arr, n elements x; e0 the shared empty array -/
def AL (e0 : Nat) (h : AH) (a arr n : Nat) (x : Nat → Nat) : Prop :=
  hK h a = 14 ∧ hI h 210 a = nI n ∧ hA h 209 a = some arr ∧ ((n = 0 ∧ arr = e0 ∧ hK h e0 = 55 ∧ hL h e0 = 0) ∨ (hK h arr = 35 ∧ hL h arr = 10)) ∧ n ≤ 10 ∧ ∀ i, i < n → aA h arr i = some (x i)
section ALS
variable {e0 : Nat} {h : AH} {a arr n : Nat} {x : Nat → Nat} {g : Nat → Nat}
theorem AL.size (L : AL e0 h a arr n x) {K : Int32 → AH → Prop} : f_Jx4a65c_size_8abf5 g (some a) h K = K (nI n) h := by
  unfold f_Jx4a65c_size_8abf5
  exact gI_eq L.1 L.2.1
theorem AL.isEmpty (L : AL e0 h a arr n x) {K : Int32 → AH → Prop} : f_Jx4a65c_isEmpty_aae02 g (some a) h K = K (if n = 0 then 1 else 0) h := by
  have hn := L.2.2.2.2.1
  unfold f_Jx4a65c_isEmpty_aae02
  rw [gI_eq L.1 L.2.1, okZ_0, okZ_1]
  by_cases q : n = 0
  · subst q; rw [if_pos (by decide), if_pos rfl]
  · rw [if_neg (nI_ne0 (by omega) (by omega)), if_neg q]
theorem AL.asList (L : AL e0 h a arr n x) {P : Prop} : cast h (some a) 14 P = P := cast_eq L.1
theorem AL.get (L : AL e0 h a arr n x) {i : Nat} (hi : i < n) {K : Option Nat → AH → Prop} : f_Jx4a65c_get_915e3 g (some a) (nI i) h K = K (some (x i)) h := by
  obtain ⟨l1, l2, l3, l4, l5, l6⟩ := L
  have h35 : hK h arr = 35 ∧ hL h arr = 10 := by
    rcases l4 with z | z
    · omega
    · exact z
  unfold f_Jx4a65c_get_915e3 f_J15_checkIndex_7cf53 f_J3_checkIndex_8e157 f_Jx4a65c_elementData_915e3
  rw [gI_eq l1 l2, if_neg (nI_pos (by omega)), if_pos (nI_lt hi (by omega))]
  dsimp only
  rw [cast_eq l1, gA_eq l1 l3]
  exact lA_eq (Or.inl h35.1) h35.2 (by omega) (by decide) (l6 i hi)
end ALS
