/-! what the Statement gives of the start: small Integers -/
section FC
variable {args : Array Value} {s : State}
theorem and_two {idx : List Nat} {a b : Cond} (h : (Cond.and a b).value args s none s idx = some true) : a.value args s none s idx = some true ∧ b.value args s none s idx = some true := by
  simp only [Cond.value] at h
  cases ha : a.value args s none s idx with
  | none => simp [ha] at h
  | some x =>
    cases hb : b.value args s none s idx with
    | none => cases x <;> simp [ha, hb] at h
    | some y => cases x <;> cases y <;> simp [ha, hb] at h ⊢
theorem ofI {idx : List Nat} {t : Term} {a : Nat} {o n d : String} {v : Value} (ht : t.eval args s none idx s = some (.ref a)) (hv : (Term.field t o n d).eval args s none idx s = some v) : va_OF o n d v a (nA s) s s.heap := by
  cases hfo : s.fieldFound? o n d with
  | none =>
    rw [va_fe ht] at hv
    simp [State.fieldOf?, State.fieldNamed?, hfo] at hv
  | some x =>
    obtain ⟨cf, k, fi, f⟩ := x
    obtain ⟨g1, cell, g2, g3, -, -, g6⟩ := Term.field_spec hfo ht hv
    have hl := (Array.getElem?_eq_some_iff.mp g2).1
    exact ⟨cf, k, fi, f, cell, hfo, g1, g2, g3, g6, fun z => by unfold nA at z; omega⟩
def tC : Term := .static "java/lang/Integer$IntegerCache" "cache" "[Ljava/lang/Integer;"
def tE : Term := .elem tC (.index 0)
theorem cache {a : Nat} {cell : Cell} (h1 : tC.eval args s none [] s = some (.ref a)) (h2 : s.arrayAt? a = some cell) (h3 : cell.slots.size = 256) (hall : (Cond.all tC (.and (.exactly tE "java/lang/Integer") (.eq (.field tE "java/lang/Integer" "value" "I") (.sub (.index 0) (.int 128))))).before args s = true) : ∀ j, j < 256 → ∃ c : Nat, cell.slots[j]? = some (.ref c) ∧ kQ s c ∧ va_OF "java/lang/Integer" "value" "I" (.int (nI j - 128)) c (nA s) s s.heap := by
  intro j hj
  have hv : (Cond.all tC (.and (.exactly tE "java/lang/Integer") (.eq (.field tE "java/lang/Integer" "value" "I") (.sub (.index 0) (.int 128))))).value args s none s [] = some true := by
    simpa [Cond.before, Cond.holds] using hall
  obtain ⟨b1, b2⟩ := and_two (Cond.all_elim h1 h2 hv j (by omega))
  have b1' : (Cond.exactly tE "java/lang/Integer").holds args s none s [j] = true := by
    unfold Cond.holds; rw [b1]; rfl
  have b2' : (Cond.eq (.field tE "java/lang/Integer" "value" "I") (.sub (.index 0) (.int 128))).holds args s none s [j] = true := by
    unfold Cond.holds; rw [b2]; rfl
  obtain ⟨c, cc, cl, k, e1, e2, e3, -, e5, e6, -⟩ := Cond.exactly_spec b1'
  have e7 := Cond.eq_int b2' (show (Term.sub (.index 0) (.int 128)).eval args s none [j] s = some (.int (nI j - 128)) from rfl)
  have f := ofI e1 e7
  obtain ⟨a', i, cell', x1, x2, x3, -, x5⟩ := Term.elem_spec (t := tC) (i := .index 0) e1
  have x1' : tC.eval args s none [] s = some (.ref a') := x1
  cases h1.symm.trans x1'
  cases h2.symm.trans x3
  have x2' : some (Value.int (nI j)) = some (.int i) := x2
  injection x2' with x2''
  injection x2'' with x4
  rw [← x4, nI_clamp (by omega)] at x5
  have hl := (Array.getElem?_eq_some_iff.mp e3).1
  exact ⟨c, x5, ⟨⟨cl, e3, e5, by rw [e6]; exact e2, fun z => by unfold nA at z; omega⟩, _, f⟩, f⟩
theorem cache_of (harr : (Cond.arrayOf tC tyJ).before args s = true) (hlen : (Cond.eq (.length tC) (.int (nI 256))).before args s = true) (hall : (Cond.all tC (.and (.exactly tE "java/lang/Integer") (.eq (.field tE "java/lang/Integer" "value" "I") (.sub (.index 0) (.int 128))))).before args s = true) : ∃ a : Nat, tC.eval args s none [] s = some (.ref a) ∧ kAr s tyJ true a ∧ rdL s a = 256 ∧ ∀ j, j < 256 → ∃ c : Nat, rdA s a j = some c ∧ kQ s c ∧ va_OF "java/lang/Integer" "value" "I" (.int (nI j - 128)) c (nA s) s s.heap := by
  obtain ⟨a, cell, h1, h2, h3⟩ := len_spec (by decide) (va_eqt hlen)
  obtain ⟨hcell, hkn, -, -⟩ := State.arrayAt?_spec h2
  obtain ⟨hof, -⟩ := Cond.arrayOf_spec harr h1 hcell
  have cc := cache h1 h2 h3 hall
  refine ⟨a, h1, ⟨cell, hcell, hof, hkn, fun j hj => ?_⟩, by rw [rdL_eq hcell]; exact h3, fun j hj => ?_⟩
  · rw [if_pos rfl]
    obtain ⟨c, c1, -⟩ := cc j (by omega)
    exact ⟨some c, c1⟩
  · obtain ⟨c, c1, c2, c3⟩ := cc j hj
    exact ⟨c, rdA_eq (x := some c) hcell c1, c2, c3⟩
theorem nI_128 : ∀ x, x < 16 → nI (128 + x) - 128 = nI x := by decide +kernel
theorem empty_of {t : Term} {ty : FieldType} (harr : (Cond.arrayOf t ty).before args s = true) (hlen : (Cond.eq (.length t) (.int (nI 0))).before args s = true) : ∃ a : Nat, t.eval args s none [] s = some (.ref a) ∧ kAr s ty true a ∧ rdL s a = 0 := by
  obtain ⟨a, cell, h1, h2, h3⟩ := len_spec (by decide) (va_eqt hlen)
  obtain ⟨hcell, hkn, -, -⟩ := State.arrayAt?_spec h2
  obtain ⟨hof, -⟩ := Cond.arrayOf_spec harr h1 hcell
  exact ⟨a, h1, ⟨cell, hcell, hof, hkn, fun j hj => by omega⟩, by rw [rdL_eq hcell]; exact h3⟩
end FC
