/-! an iterator's step among new cells -/
theorem frN.step {h0 h h' : AH} {o : Nat} (fr : frN h0 h) (ho : hN h0 ≤ o) (f1 : ∀ f b, b ≠ o → hI h' f b = hI h f b) (f2 : hA h' = hA h) (f3 : hK h' = hK h) (f4 : hL h' = hL h) (f5 : aI h' = aI h) (f6 : aA h' = aA h) (f7 : aJ h' = aJ h) (f8 : aD h' = aD h) (f9 : hN h' = hN h) : frN h0 h' := by
  obtain ⟨b1, b2, b3, b4, b5, b6, b7, b8⟩ := fr
  refine ⟨fun f a ha => ⟨(f1 f a (Nat.ne_of_lt (Nat.lt_of_lt_of_le ha ho))).trans (b1 f a ha).1, by rw [f2]; exact (b1 f a ha).2⟩, fun a ha => by rw [f3]; exact b2 a ha, f4.trans b3, f5.trans b4, f6.trans b5, f7.trans b6, f8.trans b7, by rw [f9]; exact b8⟩
