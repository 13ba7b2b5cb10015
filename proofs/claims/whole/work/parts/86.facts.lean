/-! what the Statement gives of the start: arrays and texts -/
section FA
variable {args : Array Value} {s : State}
theorem len_spec {t : Term} {N : Nat} (hN : N < 2 ^ 31) (h : (Term.length t).eval args s none [] s = some (.int (nI N))) : ∃ a cell, t.eval args s none [] s = some (.ref a) ∧ s.arrayAt? a = some cell ∧ cell.slots.size = N := by
  obtain ⟨a, cell, h1, h2, h3⟩ := Term.length_spec h
  refine ⟨a, cell, h1, h2, ?_⟩
  have sm : cell.slots.size < 2 ^ 31 := by
    simp only [Term.eval, h1, h2, Option.bind_eq_bind, Option.bind_some] at h
    by_cases q : cell.slots.size < 2 ^ 31
    · exact q
    · simp [q] at h
  injection h3 with h4
  have h5 : nI N = nI cell.slots.size := h4
  rw [nI_eq hN sm] at h5
  exact h5.symm
theorem arrI {t : Term} {ty : FieldType} {N : Nat} (xs : List Int32) (hN : N < 2 ^ 31) (harr : (Cond.arrayOf t ty).before args s = true) (hlen : (Cond.eq (.length t) (.int (nI N))).before args s = true) (hel : ∀ j, j < N → (Cond.eq (.elem t (.int (nI j))) (.int (xs.getD j 0))).before args s = true) : ∃ a, t.eval args s none [] s = some (.ref a) ∧ kAr s ty false a ∧ rdL s a = N ∧ ∀ j, j < N → rdI s a j = xs.getD j 0 := by
  obtain ⟨a, cell, h1, h2, h3⟩ := len_spec hN (va_eqt hlen)
  obtain ⟨hcell, hkn, -, -⟩ := State.arrayAt?_spec h2
  obtain ⟨hof, -⟩ := Cond.arrayOf_spec harr h1 hcell
  have el : ∀ j, j < N → cell.slots[j]? = some (.int (xs.getD j 0)) := fun j hj => by
    obtain ⟨a', i, cell', e1, e2, e3, -, e5⟩ := Term.elem_spec (va_eqt (hel j hj))
    cases h1.symm.trans e1
    cases h2.symm.trans e3
    have e2' : some (Value.int (nI j)) = some (.int i) := e2
    injection e2' with e2''
    injection e2'' with e4
    rw [← e4, nI_clamp (Nat.lt_trans hj hN)] at e5
    exact e5
  refine ⟨a, h1, ⟨cell, hcell, hof, hkn, fun j hj => ?_⟩, by rw [rdL_eq hcell]; exact h3, fun j hj => rdI_eq hcell (el j hj)⟩
  rw [if_neg (by decide)]
  rw [h3] at hj
  exact ⟨_, el j hj⟩
/-- a text of the class -/
theorem txt {t : Term} {N : Nat} (xs : List Int32) (hN : N < 2 ^ 31) (hex : (Cond.exactly t "java/lang/String").before args s = true) (hco : (Cond.eq (.field t "java/lang/String" "coder" "B") (.int 0)).before args s = true) (harr : (Cond.arrayOf (.field t "java/lang/String" "value" "[B") .byte).before args s = true) (hlen : (Cond.eq (.length (.field t "java/lang/String" "value" "[B")) (.int (nI N))).before args s = true) (hel : ∀ j, j < N → (Cond.eq (.elem (.field t "java/lang/String" "value" "[B") (.int (nI j))) (.int (xs.getD j 0))).before args s = true) : ∃ a v : Nat, t.eval args s none [] s = some (.ref a) ∧ kS s a ∧ va_OF "java/lang/String" "coder" "B" (.int 0) a (nA s) s s.heap ∧ va_OF "java/lang/String" "value" "[B" (.ref v) a (nA s) s s.heap ∧ kAr s .byte false v ∧ rdL s v = N ∧ ∀ j, j < N → rdI s v j = xs.getD j 0 := by
  have hA : ∀ a : Nat, a < s.heap.size → ¬ nA s a := fun a h => by unfold nA; omega
  obtain ⟨a, -, -, -, h1, -⟩ := Cond.exactly_spec hex
  obtain ⟨v, v1, v2, v3, v4⟩ := arrI xs hN harr hlen hel
  have o := va_Oof hex h1 hA
  have f1 := vk_OFof h1 (va_eqt hco) hA
  have f2 := vk_OFof h1 v1 hA
  exact ⟨a, v, h1, ⟨o, some v, 0, f2, f1⟩, f1, f2, v2, v3, v4⟩
theorem MS_of {B a v N : Nat} {h : AH} {xs : List Int32} (hB : B = s.heap.size) (hx : xs.length = N) (q1 : kS s a) (q2 : va_OF "java/lang/String" "coder" "B" (.int 0) a (nA s) s s.heap) (q3 : va_OF "java/lang/String" "value" "[B" (.ref v) a (nA s) s s.heap) (q4 : kAr s .byte false v) (q5 : rdL s v = N) (q6 : ∀ j, j < N → rdI s v j = xs.getD j 0) (k1 : hK h a = 20) (k2 : hK h v = 54) (e1 : hI h 321 a = 0) (e2 : hA h 320 a = some v) (eL : hL h v = rdL s v) (eI : ∀ j, aI h v j = rdI s v j) : MS B h a xs := by
  have ha : a < s.heap.size := by
    obtain ⟨⟨c, c1, -⟩, -⟩ := q1
    exact (Array.getElem?_eq_some_iff.mp c1).1
  refine ⟨k1, e1, by omega, v, e2, k2, by rw [eL, q5, hx], by have := q4.lt; omega, fun i hi => ?_⟩
  rw [eI]
  exact q6 i (by omega)
end FA
