/-! ITERATORS: new cells only -/
/-- all that stood before stands -/
def frN (h h' : AH) : Prop := (∀ f a, a < hN h → hI h' f a = hI h f a ∧ hA h' f a = hA h f a) ∧ (∀ a, a < hN h → hK h' a = hK h a) ∧ hL h' = hL h ∧ aI h' = aI h ∧ aA h' = aA h ∧ aJ h' = aJ h ∧ aD h' = aD h ∧ hN h ≤ hN h'
theorem frN.refl {h : AH} : frN h h := ⟨fun _ _ _ => ⟨rfl, rfl⟩, fun _ _ => rfl, rfl, rfl, rfl, rfl, rfl, Nat.le_refl _⟩
theorem frN.trans {h h1 h2 : AH} (a : frN h h1) (b : frN h1 h2) : frN h h2 := by
  obtain ⟨a1, a2, a3, a4, a5, a6, a7, a8⟩ := a
  obtain ⟨b1, b2, b3, b4, b5, b6, b7, b8⟩ := b
  exact ⟨fun f x hx => ⟨(b1 f x (Nat.lt_of_lt_of_le hx a8)).1.trans (a1 f x hx).1, (b1 f x (Nat.lt_of_lt_of_le hx a8)).2.trans (a1 f x hx).2⟩, fun x hx => (b2 x (Nat.lt_of_lt_of_le hx a8)).trans (a2 x hx), b3.trans a3, b4.trans a4, b5.trans a5, b6.trans a6, b7.trans a7, Nat.le_trans a8 b8⟩
/-- an iterator o over the list a, c behind it -/
def IT (h : AH) (o a c : Nat) : Prop := hK h o = 15 ∧ hI h 224 o = nI c ∧ hA h 227 o = some a ∧ hI h 226 o = hI h 208 a ∧ a < o ∧ o < hN h
theorem AL.kept {e0 : Nat} {h h' : AH} {a arr n : Nat} {x : Nat → Nat} (L : AL e0 h a arr n x) (fr : frN h h') (ha : a < hN h) (harr : arr < hN h) (he : e0 < hN h) : AL e0 h' a arr n x := by
  obtain ⟨l1, l2, l3, l4, l5, l6⟩ := L
  obtain ⟨f1, f2, f3, f4, f5, -, -, -⟩ := fr
  refine ⟨(f2 a ha).trans l1, (f1 210 a ha).1.trans l2, (f1 209 a ha).2.trans l3, ?_, l5, fun i hi => by rw [f5]; exact l6 i hi⟩
  rcases l4 with ⟨z1, z2, z3, z4⟩ | ⟨z1, z2⟩
  · exact Or.inl ⟨z1, z2, (f2 e0 he).trans z3, by rw [f3]; exact z4⟩
  · exact Or.inr ⟨(f2 arr harr).trans z1, by rw [f3]; exact z2⟩
section ITS
variable {e0 : Nat} {h : AH} {a arr n : Nat} {x : Nat → Nat} {g : Nat → Nat}
theorem AL.iter (L : AL e0 h a arr n x) (ha : a < hN h) {K : Option Nat → AH → Prop} (k : ∀ h' o, frN h h' → hN h ≤ o → IT h' o a 0 → K (some o) h') : f_Jx4a65c_iterator_32c93 g (some a) h K := by
  have hne : ∀ b, b < hN h → b ≠ hN h := fun b hb => Nat.ne_of_lt hb
  have hane := hne a ha
  unfold f_Jx4a65c_iterator_32c93 nnew
  refine ⟨hN h, rfl, ?_⟩
  unfold f_Jx35411_init_45d68
  refine ⟨hN h, rfl, by simp [nO, hK, u1], ?_⟩
  refine ⟨hN h, rfl, ?_⟩
  refine ⟨hN h, rfl, by simp [nO, sA, hK, u1], ?_⟩
  refine ⟨hN h, rfl, by simp [nO, sA, sI, hK, u1], ?_⟩
  have e1 : hA (sI (sA (nO h 14) 227 (hN h) (some a)) 225 (hN h) (-1)) 227 (hN h) = some a := by simp [sI, sA, hA, u2]
  rw [e1]
  refine ⟨a, rfl, ?_, ?_⟩
  · show u1 (hK h) (hN h) 15 a = 14
    unfold u1; rw [if_neg hane]; exact L.1
  refine ⟨hN h, rfl, by simp [nO, sA, sI, hK, u1], ?_⟩
  refine k _ (hN h) ⟨?_, ?_, rfl, rfl, rfl, rfl, rfl, Nat.le_succ _⟩ (Nat.le_refl _) ⟨by simp [nO, sA, sI, hK, u1], ?_, by simp [sI, sA, hA, u2], ?_, ha, Nat.lt_succ_self _⟩
  · intro f b hb
    have hb9 := hne b hb
    exact ⟨by simp [nO, sA, sI, hI, u2, hb9], by simp [nO, sA, sI, hA, u2, hb9]⟩
  · intro b hb
    have hb9 := hne b hb
    simp [nO, sA, sI, hK, u1, hb9]
  · simp [nO, sA, sI, hI, u2, nI_0]
  · simp [nO, sA, sI, hI, u2, hane]
end ITS
