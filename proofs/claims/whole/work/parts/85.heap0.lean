/-! the first heap, as an abstract one -/
def kAr (s : State) (ty : FieldType) (r : Bool) (a : Nat) : Prop := ∃ cell : Cell, s.heap[a]? = some cell ∧ s.isArrayOf cell ty ∧ cell.vm ≠ .unknown ∧ ∀ j, j < cell.slots.size → if r = true then ∃ x, cell.slots[j]? = some (va_rf x) else ∃ i, cell.slots[j]? = some (.int i)
def kOb (s : State) (E : String) (a : Nat) : Prop := ∃ cell : Cell, s.heap[a]? = some cell ∧ s.vm.findClass E = some cell.cls
def nA (s : State) : Nat → Prop := fun q => s.heap.size ≤ q
def kQ (s : State) (a : Nat) : Prop := va_O "java/lang/Integer" a (nA s) s s.heap ∧ ∃ v, va_OF "java/lang/Integer" "value" "I" (.int v) a (nA s) s s.heap
def kS (s : State) (a : Nat) : Prop := va_O "java/lang/String" a (nA s) s s.heap ∧ ∃ (x : Option Nat) (v : Int32), va_OF "java/lang/String" "value" "[B" (va_rf x) a (nA s) s s.heap ∧ va_OF "java/lang/String" "coder" "B" (.int v) a (nA s) s s.heap
section H0
variable {s : State}
theorem kAr.inj {t t' : FieldType} {r r' : Bool} {a : Nat} (h : kAr s t r a) (h' : kAr s t' r' a) : t = t' := by
  obtain ⟨c, h1, h2, -, -⟩ := h
  obtain ⟨c', h1', h2', -, -⟩ := h'
  cases h1.symm.trans h1'
  obtain ⟨-, k, hk, comp, e⟩ := h2
  obtain ⟨-, k', hk', comp', e'⟩ := h2'
  cases hk.symm.trans hk'
  rw [e] at e'
  injection e'
theorem va_O.ob {E : String} {a : Nat} {A : Nat → Prop} (h : va_O E a A s s.heap) : kOb s E a := by
  obtain ⟨c, h1, -, h3, -⟩ := h
  exact ⟨c, h1, h3⟩
theorem kAr.ob {t : FieldType} {r : Bool} {a : Nat} {E : String} {i : ClassId} (h : kAr s t r a) (o : kOb s E a) (c : ClassAt s E i) : False := by
  obtain ⟨cc, h1, h2, -, -⟩ := h
  obtain ⟨c', h1', h3⟩ := o
  cases h1.symm.trans h1'
  obtain ⟨-, k, hk, comp, e⟩ := h2
  obtain ⟨c1, k2, c2, c3⟩ := c
  cases h3.symm.trans c1
  cases hk.symm.trans c2
  rw [e] at c3
  cases c3
theorem kOb.ne {a : Nat} {E E' : String} (o : kOb s E a) (o' : kOb s E' a) (h : E ≠ E') : False := by
  obtain ⟨c, h1, h2⟩ := o
  obtain ⟨c', h1', h2'⟩ := o'
  cases h1.symm.trans h1'
  exact Vm.findClass_ne h2 h2' h rfl
theorem va_OF.same {o n d : String} {v v' : Value} {t : Nat} {A : Nat → Prop} (h : va_OF o n d v t A s s.heap) (h' : va_OF o n d v' t A s s.heap) : v = v' := by
  obtain ⟨cf, k, i, f, cell, h1, h2, h3, h4, h5, h6⟩ := h
  obtain ⟨cf', k', i', f', cell', h1', h2', h3', h4', h5', h6'⟩ := h'
  cases h1.symm.trans h1'
  cases h3.symm.trans h3'
  cases h5.symm.trans h5'
  rfl
def tyO : FieldType := .object "java/lang/Object"
def tyJ : FieldType := .object "java/lang/Integer"
theorem kinds (hQ : ∃ c, ClassAt s "java/lang/Integer" c) (hS : ∃ c, ClassAt s "java/lang/String" c) (a : Nat) : ∃ k : Nat, (kAr s .int false a → k = 50) ∧ (kAr s .byte false a → k = 54) ∧ (kAr s tyO true a → k = 55) ∧ (kAr s tyJ true a → k = 61) ∧ (kQ s a → k = 21) ∧ (kS s a → k = 20) ∧ ((k = 50 ∧ kAr s .int false a) ∨ (k = 54 ∧ kAr s .byte false a) ∨ (k = 55 ∧ kAr s tyO true a) ∨ (k = 61 ∧ kAr s tyJ true a) ∨ (k = 21 ∧ kQ s a) ∨ (k = 20 ∧ kS s a) ∨ k = 0) := by
  obtain ⟨cq, hQ⟩ := hQ
  obtain ⟨cs, hS⟩ := hS
  have e1 : ∀ {t t' : FieldType} {r r' : Bool}, kAr s t r a → kAr s t' r' a → t ≠ t' → False := fun h h' n => n (h.inj h')
  have e2 : ∀ {t : FieldType} {r : Bool}, kAr s t r a → kQ s a → False := fun h q => h.ob q.1.ob hQ
  have e3 : ∀ {t : FieldType} {r : Bool}, kAr s t r a → kS s a → False := fun h q => h.ob q.1.ob hS
  have e4 : kQ s a → kS s a → False := fun q q' => q.1.ob.ne q'.1.ob (by decide)
  by_cases p1 : kAr s .int false a
  · exact ⟨50, fun _ => rfl, fun h => (e1 p1 h (by decide)).elim, fun h => (e1 p1 h (by decide)).elim, fun h => (e1 p1 h (by decide)).elim, fun h => (e2 p1 h).elim, fun h => (e3 p1 h).elim, Or.inl ⟨rfl, p1⟩⟩
  by_cases p2 : kAr s .byte false a
  · exact ⟨54, fun h => (p1 h).elim, fun _ => rfl, fun h => (e1 p2 h (by decide)).elim, fun h => (e1 p2 h (by decide)).elim, fun h => (e2 p2 h).elim, fun h => (e3 p2 h).elim, Or.inr (Or.inl ⟨rfl, p2⟩)⟩
  by_cases p3 : kAr s tyO true a
  · exact ⟨55, fun h => (p1 h).elim, fun h => (p2 h).elim, fun _ => rfl, fun h => (e1 p3 h (by decide)).elim, fun h => (e2 p3 h).elim, fun h => (e3 p3 h).elim, Or.inr (Or.inr (Or.inl ⟨rfl, p3⟩))⟩
  by_cases p4 : kAr s tyJ true a
  · exact ⟨61, fun h => (p1 h).elim, fun h => (p2 h).elim, fun h => (p3 h).elim, fun _ => rfl, fun h => (e2 p4 h).elim, fun h => (e3 p4 h).elim, Or.inr (Or.inr (Or.inr (Or.inl ⟨rfl, p4⟩)))⟩
  by_cases p5 : kQ s a
  · exact ⟨21, fun h => (p1 h).elim, fun h => (p2 h).elim, fun h => (p3 h).elim, fun h => (p4 h).elim, fun _ => rfl, fun h => (e4 p5 h).elim, Or.inr (Or.inr (Or.inr (Or.inr (Or.inl ⟨rfl, p5⟩))))⟩
  by_cases p6 : kS s a
  · exact ⟨20, fun h => (p1 h).elim, fun h => (p2 h).elim, fun h => (p3 h).elim, fun h => (p4 h).elim, fun h => (p5 h).elim, fun _ => rfl, Or.inr (Or.inr (Or.inr (Or.inr (Or.inr (Or.inl ⟨rfl, p6⟩)))))⟩
  exact ⟨0, fun h => (p1 h).elim, fun h => (p2 h).elim, fun h => (p3 h).elim, fun h => (p4 h).elim, fun h => (p5 h).elim, fun h => (p6 h).elim, Or.inr (Or.inr (Or.inr (Or.inr (Or.inr (Or.inr rfl)))))⟩
def rdL (s : State) (a : Nat) : Nat := match s.heap[a]? with
  | some c => c.slots.size
  | none => 0
def rdI (s : State) (a j : Nat) : Int32 := match s.heap[a]? with
  | some c => (match c.slots[j]? with
    | some (.int v) => v
    | _ => 0)
  | none => 0
def rdA (s : State) (a j : Nat) : Option Nat := match s.heap[a]? with
  | some c => (match c.slots[j]? with
    | some (.ref x) => some x
    | _ => none)
  | none => none
theorem rdL_eq {a : Nat} {c : Cell} (h : s.heap[a]? = some c) : rdL s a = c.slots.size := by unfold rdL; rw [h]
theorem rdI_eq {a j : Nat} {c : Cell} {v : Int32} (h : s.heap[a]? = some c) (h2 : c.slots[j]? = some (.int v)) : rdI s a j = v := by unfold rdI; rw [h]; dsimp only; rw [h2]
theorem rdA_eq {a j : Nat} {c : Cell} {x : Option Nat} (h : s.heap[a]? = some c) (h2 : c.slots[j]? = some (va_rf x)) : rdA s a j = x := by
  unfold rdA; rw [h]; dsimp only; rw [h2]
  cases x <;> rfl
theorem kAr.lt {t : FieldType} {r : Bool} {a : Nat} (h : kAr s t r a) : a < s.heap.size := by
  obtain ⟨c, h1, -⟩ := h
  exact (Array.getElem?_eq_some_iff.mp h1).1
theorem heap0 {Z : zT} (hZ : Z.2.1 = s.heap.size) (hQ : ∃ c, ClassAt s "java/lang/Integer" c) (hS : ∃ c, ClassAt s "java/lang/String" c) : ∃ h : AH, zRep Z s h s.heap ∧ hN h = s.heap.size ∧ (∀ a, (kAr s .int false a → hK h a = 50) ∧ (kAr s .byte false a → hK h a = 54) ∧ (kAr s tyO true a → hK h a = 55) ∧ (kAr s tyJ true a → hK h a = 61) ∧ (kQ s a → hK h a = 21) ∧ (kS s a → hK h a = 20)) ∧ (∀ a, hL h a = rdL s a) ∧ (∀ a j, aI h a j = rdI s a j ∧ aA h a j = rdA s a j) ∧ (∀ a v, kQ s a → va_OF "java/lang/Integer" "value" "I" (.int v) a (nA s) s s.heap → hI h 336 a = v) ∧ (∀ a v, kS s a → va_OF "java/lang/String" "coder" "B" (.int v) a (nA s) s s.heap → hI h 321 a = v) ∧ ∀ a x, kS s a → va_OF "java/lang/String" "value" "[B" (va_rf x) a (nA s) s s.heap → hA h 320 a = x := by
  obtain ⟨kk, hkk⟩ := Classical.axiomOfChoice (kinds hQ hS)
  have q1 : ∀ a, ∃ v : Int32, kQ s a → va_OF "java/lang/Integer" "value" "I" (.int v) a (nA s) s s.heap := fun a => by
    by_cases p : kQ s a
    · obtain ⟨-, v, hv⟩ := id p
      exact ⟨v, fun _ => hv⟩
    · exact ⟨0, fun h => absurd h p⟩
  have q2 : ∀ a, ∃ v : Option Nat × Int32, kS s a → va_OF "java/lang/String" "value" "[B" (va_rf v.1) a (nA s) s s.heap ∧ va_OF "java/lang/String" "coder" "B" (.int v.2) a (nA s) s s.heap := fun a => by
    by_cases p : kS s a
    · obtain ⟨-, x, v, hv⟩ := id p
      exact ⟨(x, v), fun _ => hv⟩
    · exact ⟨(none, 0), fun h => absurd h p⟩
  obtain ⟨vq, hvq⟩ := Classical.axiomOfChoice q1
  obtain ⟨vs, hvs⟩ := Classical.axiomOfChoice q2
  have zr0 : ∀ x y : Option Nat, va_rf x = va_rf y → x = y := fun x y e => by
    cases x <;> cases y <;> first | rfl | (cases e; rfl) | cases e
  have hZA : zA Z = nA s := by funext q; unfold zA nA; rw [hZ]
  obtain ⟨h, eK, eL, eI, eA, e336, e321, e320, eN⟩ : ∃ h : AH, hK h = kk ∧ hL h = rdL s ∧ aI h = rdI s ∧ aA h = rdA s ∧ (∀ a, hI h 336 a = vq a) ∧ (∀ a, hI h 321 a = (vs a).2) ∧ (∀ a, hA h 320 a = (vs a).1) ∧ hN h = s.heap.size :=
    ⟨(kk, fun f a => if f = 336 then vq a else (vs a).2, fun _ a => (vs a).1, rdL s, rdI s, rdA s, fun _ _ => 0, fun _ _ => 0, s.heap.size), rfl, rfl, rfl, rfl, fun _ => rfl, fun _ => rfl, fun _ => rfl, rfl⟩
  have lt : ∀ a, a < s.heap.size → ¬ zA Z a := fun a ha => by rw [hZA]; unfold nA; omega
  have arI : ∀ {a t : Nat} {ty : FieldType}, kAr s ty false a → zty t = ty → (∀ j, av h t a j = .int (aI h a j)) → zAR s t (hL h a) (av h t a) a s.heap ∧ ¬ zA Z a := fun {a t ty} q e1 e2 => by
    refine ⟨?_, lt a q.lt⟩
    obtain ⟨c, c1, c2, c3, c4⟩ := q
    refine ⟨c, c1, by rw [e1]; exact c2, c3, by rw [eL, rdL_eq c1], fun j hj => ?_⟩
    rw [eL, rdL_eq c1] at hj
    have q4 := c4 j hj
    rw [if_neg (by decide)] at q4
    obtain ⟨i, hi⟩ := q4
    rw [hi, e2, eI, rdI_eq c1 hi]
  have arA : ∀ {a t : Nat} {ty : FieldType}, kAr s ty true a → zty t = ty → (∀ j, av h t a j = va_rf (aA h a j)) → zAR s t (hL h a) (av h t a) a s.heap ∧ ¬ zA Z a := fun {a t ty} q e1 e2 => by
    refine ⟨?_, lt a q.lt⟩
    obtain ⟨c, c1, c2, c3, c4⟩ := q
    refine ⟨c, c1, by rw [e1]; exact c2, c3, by rw [eL, rdL_eq c1], fun j hj => ?_⟩
    rw [eL, rdL_eq c1] at hj
    have q4 := c4 j hj
    rw [if_pos rfl] at q4
    obtain ⟨i, hi⟩ := q4
    rw [hi, e2, eA, rdA_eq c1 hi]
  have obl : ∀ {E : String} {a : Nat}, va_O E a (nA s) s s.heap → a < s.heap.size := fun {E a} q => by
    obtain ⟨c, c1, -⟩ := q
    exact (Array.getElem?_eq_some_iff.mp c1).1
  refine ⟨h, ⟨eN, ?_, ?_, ?_, ?_, ?_, ?_⟩, eN, fun a => ?_, fun a => by rw [eL], fun a j => ⟨by rw [eI], by rw [eA]⟩, ?_, ?_, ?_⟩
  · intro a ci hci hk
    rw [eK] at hk
    obtain ⟨-, -, -, -, -, -, z⟩ := hkk a
    rcases z with ⟨z, -⟩ | ⟨z, -⟩ | ⟨z, -⟩ | ⟨z, -⟩ | ⟨z, -⟩ | ⟨z, -⟩ | z <;> omega
  · intro a ci hci hk
    rw [eK] at hk
    obtain ⟨-, -, -, -, -, -, z⟩ := hkk a
    rcases z with ⟨z, -⟩ | ⟨z, -⟩ | ⟨z, -⟩ | ⟨z, -⟩ | ⟨z, -⟩ | ⟨z, -⟩ | z <;> omega
  · intro a t ht hk
    rw [eK] at hk
    obtain ⟨-, -, -, -, -, -, z⟩ := hkk a
    rcases z with ⟨z, p⟩ | ⟨z, p⟩ | ⟨z, p⟩ | ⟨z, p⟩ | ⟨z, -⟩ | ⟨z, -⟩ | z
    · have : t = 0 := by omega
      subst this
      exact arI p rfl (fun _ => rfl)
    · have : t = 4 := by omega
      subst this
      exact arI p rfl (fun _ => rfl)
    · have : t = 5 := by omega
      subst this
      exact arA p rfl (fun _ => rfl)
    · have : t = 11 := by omega
      subst this
      exact arA p rfl (fun _ => rfl)
    · omega
    · omega
    · omega
  · intro a hk
    rw [eK] at hk
    obtain ⟨-, -, -, -, -, -, z⟩ := hkk a
    rcases z with ⟨z, -⟩ | ⟨z, -⟩ | ⟨z, -⟩ | ⟨z, -⟩ | ⟨z, -⟩ | ⟨z, p⟩ | z
    · omega
    · omega
    · omega
    · omega
    · omega
    · unfold zCS
      rw [e320, e321, hZA]
      exact ⟨p.1, (hvs a p).1, (hvs a p).2⟩
    · omega
  · intro a hk
    rw [eK] at hk
    obtain ⟨-, -, -, -, -, -, z⟩ := hkk a
    rcases z with ⟨z, -⟩ | ⟨z, -⟩ | ⟨z, -⟩ | ⟨z, -⟩ | ⟨z, p⟩ | ⟨z, -⟩ | z
    · omega
    · omega
    · omega
    · omega
    · unfold zCI
      rw [e336, hZA]
      exact ⟨p.1, hvq a p⟩
    · omega
    · omega
  · intro a ha
    rw [eN] at ha
    rw [eK]
    obtain ⟨-, -, -, -, -, -, z⟩ := hkk a
    rcases z with ⟨-, p⟩ | ⟨-, p⟩ | ⟨-, p⟩ | ⟨-, p⟩ | ⟨-, p⟩ | ⟨-, p⟩ | z
    · have := p.lt; omega
    · have := p.lt; omega
    · have := p.lt; omega
    · have := p.lt; omega
    · have := obl p.1; omega
    · have := obl p.1; omega
    · exact z
  · rw [eK]
    obtain ⟨z1, z2, z3, z4, z5, z6, -⟩ := hkk a
    exact ⟨z1, z2, z3, z4, z5, z6⟩
  · intro a v p q
    rw [e336]
    have e := (hvq a p).same q
    cases e
    rfl
  · intro a v p q
    rw [e321]
    have e := (hvs a p).2.same q
    injection e
  · intro a x p q
    rw [e320]
    exact zr0 _ _ ((hvs a p).1.same q)
end H0
