/-! THE ABSTRACT HEAP: kinds by address, int and reference fields by field number and address, arrays by address; the next address -/
abbrev AH : Type := (Nat → Nat) × (Nat → Nat → Int32) × (Nat → Nat → Option Nat) × (Nat → Nat) × (Nat → Nat → Int32) × (Nat → Nat → Option Nat) × (Nat → Nat → Int64) × (Nat → Nat → UInt64) × Nat
def hK (h : AH) : Nat → Nat := h.1
def hI (h : AH) : Nat → Nat → Int32 := h.2.1
def hA (h : AH) : Nat → Nat → Option Nat := h.2.2.1
def hL (h : AH) : Nat → Nat := h.2.2.2.1
def aI (h : AH) : Nat → Nat → Int32 := h.2.2.2.2.1
def aA (h : AH) : Nat → Nat → Option Nat := h.2.2.2.2.2.1
def aJ (h : AH) : Nat → Nat → Int64 := h.2.2.2.2.2.2.1
def aD (h : AH) : Nat → Nat → UInt64 := h.2.2.2.2.2.2.2.1
def hN (h : AH) : Nat := h.2.2.2.2.2.2.2.2
def u1 {α : Type} (f : Nat → α) (a : Nat) (v : α) : Nat → α := fun b => if b = a then v else f b
def u2 {α : Type} (f : Nat → Nat → α) (i a : Nat) (v : α) : Nat → Nat → α := fun g b => if g = i ∧ b = a then v else f g b
/-- an int field, a reference field, an array's place of each kind -/
def sI (h : AH) (f a : Nat) (v : Int32) : AH := (hK h, u2 (hI h) f a v, hA h, hL h, aI h, aA h, aJ h, aD h, hN h)
def sA (h : AH) (f a : Nat) (v : Option Nat) : AH := (hK h, hI h, u2 (hA h) f a v, hL h, aI h, aA h, aJ h, aD h, hN h)
def tI (h : AH) (a j : Nat) (v : Int32) : AH := (hK h, hI h, hA h, hL h, u2 (aI h) a j v, aA h, aJ h, aD h, hN h)
def tA (h : AH) (a j : Nat) (v : Option Nat) : AH := (hK h, hI h, hA h, hL h, aI h, u2 (aA h) a j v, aJ h, aD h, hN h)
def tJ (h : AH) (a j : Nat) (v : Int64) : AH := (hK h, hI h, hA h, hL h, aI h, aA h, u2 (aJ h) a j v, aD h, hN h)
def tD (h : AH) (a j : Nat) (v : UInt64) : AH := (hK h, hI h, hA h, hL h, aI h, aA h, aJ h, u2 (aD h) a j v, hN h)
/-- a new object of class ci; a new array of type t with n places; room taken by an exception -/
def nO (h : AH) (ci : Nat) : AH := (u1 (hK h) (hN h) (ci + 1), (fun g b => if b = hN h then 0 else hI h g b), (fun g b => if b = hN h then none else hA h g b), hL h, aI h, aA h, aJ h, aD h, hN h + 1)
def nR (h : AH) (t n : Nat) : AH := (u1 (hK h) (hN h) (30 + t), hI h, hA h, u1 (hL h) (hN h) n, (fun b j => if b = hN h then 0 else aI h b j), (fun b j => if b = hN h then none else aA h b j), (fun b j => if b = hN h then 0 else aJ h b j), (fun b j => if b = hN h then 0 else aD h b j), hN h + 1)
def bump (h : AH) (n : Nat) : AH := (hK h, hI h, hA h, hL h, aI h, aA h, aJ h, aD h, n)
-- what a method's program does to it, as a condition on what follows
def gI (h : AH) (x : Option Nat) (ci f : Nat) (kk : Int32 → Prop) : Prop := ∃ a, x = some a ∧ hK h a = ci + 1 ∧ kk (hI h f a)
def gA (h : AH) (x : Option Nat) (ci f : Nat) (kk : Option Nat → Prop) : Prop := ∃ a, x = some a ∧ hK h a = ci + 1 ∧ kk (hA h f a)
def pI (h : AH) (x : Option Nat) (ci f : Nat) (v : Int32) (kk : AH → Prop) : Prop := ∃ a, x = some a ∧ hK h a = ci + 1 ∧ kk (sI h f a v)
def pA (h : AH) (x : Option Nat) (ci f : Nat) (v : Option Nat) (kk : AH → Prop) : Prop := ∃ a, x = some a ∧ hK h a = ci + 1 ∧ kk (sA h f a v)
/-- a field of a constant object (String: kind 20, Integer: kind 21) -/
def gIc (h : AH) (x : Option Nat) (q f : Nat) (kk : Int32 → Prop) : Prop := ∃ a, x = some a ∧ hK h a = q ∧ kk (hI h f a)
def gAc (h : AH) (x : Option Nat) (q f : Nat) (kk : Option Nat → Prop) : Prop := ∃ a, x = some a ∧ hK h a = q ∧ kk (hA h f a)
def isR (h : AH) (a t : Nat) : Prop := hK h a = 30 + t ∨ hK h a = 50 + t
def lI (h : AH) (x : Option Nat) (t : Nat) (i : Int32) (kk : Int32 → Prop) : Prop := ∃ a, x = some a ∧ isR h a t ∧ vp_in i (hL h a) ∧ kk (aI h a i.toNatClampNeg)
def lA (h : AH) (x : Option Nat) (t : Nat) (i : Int32) (kk : Option Nat → Prop) : Prop := ∃ a, x = some a ∧ isR h a t ∧ vp_in i (hL h a) ∧ kk (aA h a i.toNatClampNeg)
def lJ (h : AH) (x : Option Nat) (i : Int32) (kk : Int64 → Prop) : Prop := ∃ a, x = some a ∧ hK h a = 32 ∧ vp_in i (hL h a) ∧ kk (aJ h a i.toNatClampNeg)
def lD (h : AH) (x : Option Nat) (i : Int32) (kk : UInt64 → Prop) : Prop := ∃ a, x = some a ∧ hK h a = 33 ∧ vp_in i (hL h a) ∧ kk (aD h a i.toNatClampNeg)
def stI (h : AH) (x : Option Nat) (t : Nat) (i v : Int32) (kk : AH → Prop) : Prop := ∃ a, x = some a ∧ hK h a = 30 + t ∧ vp_in i (hL h a) ∧ kk (tI h a i.toNatClampNeg v)
def stA (h : AH) (x : Option Nat) (t : Nat) (i : Int32) (y : Option Nat) (ci : Nat) (kk : AH → Prop) : Prop := ∃ a b, x = some a ∧ hK h a = 30 + t ∧ vp_in i (hL h a) ∧ y = some b ∧ hK h b = ci + 1 ∧ kk (tA h a i.toNatClampNeg (some b))
def stO (h : AH) (x : Option Nat) (i : Int32) (y : Option Nat) (kk : AH → Prop) : Prop := ∃ a b, x = some a ∧ hK h a = 35 ∧ vp_in i (hL h a) ∧ y = some b ∧ (hK h b = 8 ∨ hK h b = 9 ∨ hK h b = 10 ∨ hK h b = 11 ∨ hK h b = 12 ∨ hK h b = 21) ∧ kk (tA h a i.toNatClampNeg (some b))
def nn (x : Option Nat) (P : Prop) : Prop := ∃ a, x = some a ∧ P
def stJ (h : AH) (x : Option Nat) (i : Int32) (v : Int64) (kk : AH → Prop) : Prop := ∃ a, x = some a ∧ hK h a = 32 ∧ vp_in i (hL h a) ∧ kk (tJ h a i.toNatClampNeg v)
def stD (h : AH) (x : Option Nat) (i : Int32) (v : UInt64) (kk : AH → Prop) : Prop := ∃ a, x = some a ∧ hK h a = 33 ∧ vp_in i (hL h a) ∧ kk (tD h a i.toNatClampNeg v)
def aLen (h : AH) (x : Option Nat) (t : Nat) (kk : Int32 → Prop) : Prop := ∃ a, x = some a ∧ isR h a t ∧ kk (nI (hL h a))
def cast (h : AH) (x : Option Nat) (q : Nat) (kk : Prop) : Prop := ∃ a, x = some a ∧ hK h a = q ∧ kk
def nnew (h : AH) (ci : Nat) (kk : Option Nat → AH → Prop) : Prop := kk (some (hN h)) (nO h ci)
def nrow (h : AH) (t : Nat) (n : Nat) (kk : Option Nat → AH → Prop) : Prop := kk (some (hN h)) (nR h t n)
def thr (h : AH) (e : Nat) (X : Nat → AH → Prop) : Prop := ∀ n, hN h ≤ n → X e (bump h n)
/-- what is written into a place of a narrow type, or returned as one -/
def okZ (v : Int32) (kk : Prop) : Prop := (v = 0 ∨ v = 1) ∧ kk
def okC (v : Int32) (kk : Prop) : Prop := (narrow .char (.int v) = .int v ∧ fits .char (.int v) = true) ∧ kk
def okB (v : Int32) (kk : Prop) : Prop := (narrow .byte (.int v) = .int v ∧ fits .byte (.int v) = true) ∧ kk
def nNull {α : Type} (x : Option Nat) (t e : α) : α := match x with
  | none => t
  | some _ => e
/-! THE TABLES' WORDS that are kept: good ones, and some more -/
def tbx : Cond → Bool
  | .declares _ => true
  | .castable _ _ => true
  | .fieldLinkNest _ _ _ _ _ _ => true
  | .methodLinkNest _ _ _ _ => true
  | .arrayOver (.object _) => true
  | _ => false
def tbw (w : Cond) : Bool := goodWord w || tbx w
def zq (w : Cond) : Prop := w ∈ lw_tbl ∧ tbw w = true
/-- calls through an interface: the receiver's class, the interface's method, the class's -/
def zfw : List (String × MethodName × MethodName) := [("java/util/ArrayList", ⟨"java/util/List", "size", "()I"⟩, ⟨"java/util/ArrayList", "size", "()I"⟩), ("java/util/ArrayList", ⟨"java/util/List", "add", "(Ljava/lang/Object;)Z"⟩, ⟨"java/util/ArrayList", "add", "(Ljava/lang/Object;)Z"⟩), ("java/util/ArrayList", ⟨"java/util/List", "get", "(I)Ljava/lang/Object;"⟩, ⟨"java/util/ArrayList", "get", "(I)Ljava/lang/Object;"⟩), ("java/util/ArrayList", ⟨"java/util/List", "set", "(ILjava/lang/Object;)Ljava/lang/Object;"⟩, ⟨"java/util/ArrayList", "set", "(ILjava/lang/Object;)Ljava/lang/Object;"⟩), ("java/util/ArrayList", ⟨"java/util/List", "iterator", "()Ljava/util/Iterator;"⟩, ⟨"java/util/ArrayList", "iterator", "()Ljava/util/Iterator;"⟩), ("java/util/ArrayList$Itr", ⟨"java/util/Iterator", "hasNext", "()Z"⟩, ⟨"java/util/ArrayList$Itr", "hasNext", "()Z"⟩), ("java/util/ArrayList$Itr", ⟨"java/util/Iterator", "next", "()Ljava/lang/Object;"⟩, ⟨"java/util/ArrayList$Itr", "next", "()Ljava/lang/Object;"⟩), ("java/util/ArrayList", ⟨"java/util/List", "isEmpty", "()Z"⟩, ⟨"java/util/ArrayList", "isEmpty", "()Z"⟩)]
def TB (U : State) : Prop := (∀ w, zq w → ∀ a : Array Value, w.before a U = true) ∧ ∀ q ∈ zfw, va_Fw q.1 q.2.1 q.2.2 U
theorem zfw_ok : ∀ q ∈ zfw, q.2.1.cls ≠ "java/lang/invoke/MethodHandle" ∧ q.2.1.cls ≠ "java/lang/invoke/VarHandle" := by decide +kernel
theorem TB.warm {s U : State} (hW : s.WarmedH U.vm) (h : TB s) : TB U := by
  refine ⟨fun w hw a => ?_, fun q hq => va_Fw.moved (zfw_ok q hq) hW.alike (h.2 q hq)⟩
  have h0 := h.1 w hw #[]
  have ht := hw.2
  by_cases hg : goodWord w = true
  · exact word_at hW (good_of_word hg) h0
  · have hx : tbx w = true := by
      simp only [tbw, Bool.or_eq_true] at ht
      exact ht.resolve_left hg
    unfold tbx at hx
    split at hx
    · exact va_Nw.use rfl (va_Nw.warmD hW (va_Nw.of rfl h0))
    · exact va_Nw.use rfl (va_Nw.warmC hW (va_Nw.of rfl h0))
    · exact va_Nw.use rfl (va_Nw.warmF hW (va_Nw.of rfl h0))
    · exact va_Nw.use rfl (va_Nw.warmM hW (va_Nw.of rfl h0))
    · exact va_AO.use (va_AO.moved hW.alike (va_AO.of h0))
    · cases hx
/-! THE CLASSES of the objects that are written, and which of their fields are references; the arrays' types -/
def zcl : List vw_C := [(RX0, TX0, 3), (RX1, TX1, 5), (RX2, TX2, 3), (RX3, TX3, 9), (RX4, TX4, 3), (RX5, TX5, 3), (RX6, TX6, 11), (RX7, TX7, 3), (RX8, TX8, 3), (RX9, TX9, 8), (RX10, TX10, 3), (RX11, TX11, 2), (RX12, TX12, 8), (RJx4a65c, TJx4a65c, 3), (RJx35411, TJx35411, 4)]
def znf (ci : Nat) : Nat := [3, 5, 3, 9, 3, 3, 11, 3, 3, 8, 3, 2, 8, 3, 4].getD ci 0
def zrt : List (List Nat) := [[1], [], [2], [0, 1, 2, 3], [2], [1], [0, 1, 2, 3], [], [], [1, 2, 3, 4], [], [0], [0, 1, 2, 3], [1], [3]]
def zr (ci k : Nat) : Bool := (zrt.getD ci []).contains k
def fv (h : AH) (ci a k : Nat) : Value := if zr ci k = true then va_rf (hA h (16 * ci + k) a) else .int (hI h (16 * ci + k) a)
def zat : List FieldType := [.int, .boolean, .long, .double, .byte, .object "java/lang/Object", .object RX3, .object RX1, .object RX5, .object RX4, .object RX2, .object "java/lang/Integer"]
def zty (t : Nat) : FieldType := zat.getD t .int
def av (h : AH) (t a j : Nat) : Value := if t = 2 then .long (aJ h a j) else if t = 3 then .double (aD h a j) else if 5 ≤ t then va_rf (aA h a j) else .int (aI h a j)
abbrev zT : Type := va_G × Nat × (Nat → Nat)
abbrev zX : Type := Program × Launch × Env × Room × State × MethodId × Array Value × List Frame × Method × Code
def zA (Z : zT) : Nat → Prop := fun q => Z.2.1 ≤ q
def zAR (s : State) (t n : Nat) (val : Nat → Value) (a : Nat) (H : Heap) : Prop := ∃ cell : Cell, H[a]? = some cell ∧ s.isArrayOf cell (zty t) ∧ cell.vm ≠ .unknown ∧ cell.slots.size = n ∧ ∀ j, j < n → cell.slots[j]? = some (val j)
def zAW (s : State) (t : Nat) (a : Nat) (H : Heap) : Prop := ∃ cell : Cell, H[a]? = some cell ∧ va_RA s cell.cls (zty t)
def zCS (Z : zT) (s : State) (h : AH) (a : Nat) (H : Heap) : Prop := va_O "java/lang/String" a (zA Z) s H ∧ va_OF "java/lang/String" "value" "[B" (va_rf (hA h 320 a)) a (zA Z) s H ∧ va_OF "java/lang/String" "coder" "B" (.int (hI h 321 a)) a (zA Z) s H
def zCI (Z : zT) (s : State) (h : AH) (a : Nat) (H : Heap) : Prop := va_O "java/lang/Integer" a (zA Z) s H ∧ va_OF "java/lang/Integer" "value" "I" (.int (hI h 336 a)) a (zA Z) s H
def zOb (Z : zT) (h : AH) (ci a : Nat) (H : Heap) : Prop := t_OB a (Z.1.1 ci) (znf ci) (Z.1.2 ci) H (fv h ci a)
/-- the heap holds what the abstract one says -/
def zRep (Z : zT) (s : State) (h : AH) (H : Heap) : Prop :=
  hN h = H.size ∧
  (∀ a ci, ci < 15 → hK h a = ci + 1 → Z.2.1 ≤ a ∧ zOb Z h ci a H) ∧
  (∀ a t, t < 12 → hK h a = 30 + t → Z.2.1 ≤ a ∧ zAR s t (hL h a) (av h t a) a H ∧ zAW s t a H) ∧
  (∀ a t, t < 12 → hK h a = 50 + t → zAR s t (hL h a) (av h t a) a H ∧ ¬ zA Z a) ∧
  (∀ a, hK h a = 20 → zCS Z s h a H) ∧ (∀ a, hK h a = 21 → zCI Z s h a H) ∧ (∀ a, hN h ≤ a → hK h a = 0)
theorem zAR.lt {s : State} {t n : Nat} {val : Nat → Value} {a : Nat} {H : Heap} (h : zAR s t n val a H) : a < H.size := by
  obtain ⟨cell, h1, -⟩ := h
  exact (Array.getElem?_eq_some_iff.mp h1).1
theorem zAR.kept {s : State} {t n : Nat} {val : Nat → Value} {a : Nat} {H H1 : Heap} (h : zAR s t n val a H) (e : H1[a]? = H[a]?) : zAR s t n val a H1 := by
  obtain ⟨cell, h1, h2⟩ := h
  exact ⟨cell, by rw [e]; exact h1, h2⟩
theorem zAW.kept {s : State} {t a : Nat} {H H1 : Heap} (h : zAW s t a H) (e : H1[a]? = H[a]?) : zAW s t a H1 := by
  obtain ⟨cell, h1, h2⟩ := h
  exact ⟨cell, by rw [e]; exact h1, h2⟩
theorem zOb.lt {Z : zT} {h : AH} {ci a : Nat} {H : Heap} (q : zOb Z h ci a H) : a < H.size := by
  obtain ⟨cell, h1, -⟩ := q
  exact (Array.getElem?_eq_some_iff.mp h1).1
theorem va_O.lt {E : String} {t : Nat} {A : Nat → Prop} {U : State} {H : Heap} (h : va_O E t A U H) : t < H.size := by
  obtain ⟨cell, h1, -⟩ := h
  exact (Array.getElem?_eq_some_iff.mp h1).1
theorem zq_at {s : State} (h : TB s) {w : Cond} (q : zq w) (a : Array Value) : w.before a s = true := h.1 w q a
/-- tracked addresses are below the next one -/
theorem zRep.lt {Z : zT} {s : State} {h : AH} {H : Heap} (R : zRep Z s h H) {a : Nat} (hk : hK h a ≠ 0) : a < H.size := by
  obtain ⟨h0, -, -, -, -, -, h7⟩ := R
  rw [← h0]
  exact Nat.lt_of_not_le fun q => hk (h7 a q)
theorem zAR.moved {u U : State} (hvm : u.vm.Alike U.vm) {t n : Nat} {val : Nat → Value} {a : Nat} {H : Heap} (h : zAR u t n val a H) : zAR U t n val a H := by
  obtain ⟨cell, h1, h2, h3⟩ := h
  exact ⟨cell, h1, State.isArrayOf_alike hvm h2, h3⟩
theorem zRep.moved {Z : zT} {u U : State} (hvm : u.vm.Alike U.vm) {h : AH} {H : Heap} (R : zRep Z u h H) : zRep Z U h H := by
  obtain ⟨h0, h1, h2, h3, h4, h5, h6⟩ := R
  refine ⟨h0, h1, fun a t ht hk => ?_, fun a t ht hk => ?_, fun a hk => ?_, fun a hk => ?_, h6⟩
  · obtain ⟨q1, q2, cell, q3, q4⟩ := h2 a t ht hk
    exact ⟨q1, q2.moved hvm, cell, q3, q4.moved hvm⟩
  · exact ⟨(h3 a t ht hk).1.moved hvm, (h3 a t ht hk).2⟩
  · obtain ⟨q1, q2, q3⟩ := h4 a hk
    exact ⟨va_O.moved hvm q1, va_OF.moved hvm q2, va_OF.moved hvm q3⟩
  · obtain ⟨q1, q2⟩ := h5 a hk
    exact ⟨va_O.moved hvm q1, va_OF.moved hvm q2⟩
/-- what was there stays, and more may have come -/
theorem zRep.bump {Z : zT} {s : State} {h : AH} {H H1 : Heap} (R : zRep Z s h H) (hz : H.size ≤ H1.size) (hk : ∀ q : Nat, q < H.size → H1[q]? = H[q]?) : zRep Z s (bump h H1.size) H1 := by
  obtain ⟨h0, h1, h2, h3, h4, h5, h6⟩ := R
  refine ⟨rfl, fun a ci hc hk1 => ?_, fun a t ht hk1 => ?_, fun a t ht hk1 => ?_, fun a hk1 => ?_, fun a hk1 => ?_, fun a ha => h6 a (by rw [h0]; exact Nat.le_trans hz ha)⟩
  · obtain ⟨q1, q2⟩ := h1 a ci hc hk1
    exact ⟨q1, t_OB.kept q2 (hk a q2.lt)⟩
  · obtain ⟨q1, q2, q3⟩ := h2 a t ht hk1
    exact ⟨q1, q2.kept (hk a q2.lt), q3.kept (hk a q2.lt)⟩
  · obtain ⟨q2, q3⟩ := h3 a t ht hk1
    exact ⟨q2.kept (hk a q2.lt), q3⟩
  · obtain ⟨q1, q2, q3⟩ := h4 a hk1
    exact ⟨q1.kept (fun x hx _ => hk x hx), q2.kept (fun x hx _ => hk x hx), q3.kept (fun x hx _ => hk x hx)⟩
  · obtain ⟨q1, q2⟩ := h5 a hk1
    exact ⟨q1.kept (fun x hx _ => hk x hx), q2.kept (fun x hx _ => hk x hx)⟩
/-- one field of one object is written -/
theorem zRep.obj {Z : zT} {s : State} {h h' : AH} {H H1 : Heap} {ci a : Nat} (R : zRep Z s h H) (hz : H1.size = H.size) (oq : ∀ q : Nat, q ≠ a → H1[q]? = H[q]?) (hc : ci < 15) (hk : hK h a = ci + 1) (hob : zOb Z h' ci a H1)
    (e0 : hN h' = hN h) (e1 : hK h' = hK h) (e2 : ∀ b ci, b ≠ a → fv h' ci b = fv h ci b) (e3 : hL h' = hL h) (e4 : ∀ t b, av h' t b = av h t b) (e5 : ∀ b, b ≠ a → hA h' 320 b = hA h 320 b ∧ hI h' 321 b = hI h 321 b ∧ hI h' 336 b = hI h 336 b) : zRep Z s h' H1 := by
  obtain ⟨h0, h1, h2, h3, h4, h5, h6⟩ := R
  refine ⟨by rw [e0, h0, hz], fun b cj hcj hkb => ?_, fun b t ht hkb => ?_, fun b t ht hkb => ?_, fun b hkb => ?_, fun b hkb => ?_, fun b hb => by rw [e1]; exact h6 b (by rw [← e0]; exact hb)⟩
  · rw [e1] at hkb
    by_cases hba : b = a
    · subst hba
      have : cj = ci := by omega
      subst this
      exact ⟨(h1 b cj hcj hkb).1, hob⟩
    · obtain ⟨q1, q2⟩ := h1 b cj hcj hkb
      refine ⟨q1, ?_⟩
      unfold zOb
      rw [e2 b cj hba]
      exact t_OB.kept q2 (oq b hba)
  · rw [e1] at hkb
    have hba : b ≠ a := fun e => by rw [e, hk] at hkb; omega
    obtain ⟨q1, q2, q3⟩ := h2 b t ht hkb
    rw [e3, e4]
    exact ⟨q1, q2.kept (oq b hba), q3.kept (oq b hba)⟩
  · rw [e1] at hkb
    have hba : b ≠ a := fun e => by rw [e, hk] at hkb; omega
    obtain ⟨q2, q3⟩ := h3 b t ht hkb
    rw [e3, e4]
    exact ⟨q2.kept (oq b hba), q3⟩
  · rw [e1] at hkb
    have hba : b ≠ a := fun e => by rw [e, hk] at hkb; omega
    obtain ⟨q1, q2, q3⟩ := h4 b hkb
    have kq : ∀ x : Nat, x < H.size → ¬ zA Z x → H1[x]? = H[x]? := fun x _ hx => oq x (fun e => hx (by rw [e]; exact (h1 a ci hc hk).1))
    obtain ⟨f1, f2, f3⟩ := e5 b hba
    unfold zCS
    rw [f1, f2]
    exact ⟨q1.kept kq, q2.kept kq, q3.kept kq⟩
  · rw [e1] at hkb
    have hba : b ≠ a := fun e => by rw [e, hk] at hkb; omega
    obtain ⟨q1, q2⟩ := h5 b hkb
    have kq : ∀ x : Nat, x < H.size → ¬ zA Z x → H1[x]? = H[x]? := fun x _ hx => oq x (fun e => hx (by rw [e]; exact (h1 a ci hc hk).1))
    obtain ⟨f1, f2, f3⟩ := e5 b hba
    unfold zCI
    rw [f3]
    exact ⟨q1.kept kq, q2.kept kq⟩
/-- one place of one array is written -/
theorem zRep.arr {Z : zT} {s : State} {h h' : AH} {H H1 : Heap} {t a : Nat} (R : zRep Z s h H) (hz : H1.size = H.size) (oq : ∀ q : Nat, q ≠ a → H1[q]? = H[q]?) (ht : t < 12) (hk : hK h a = 30 + t) (hob : zAR s t (hL h a) (av h' t a) a H1) (haw : zAW s t a H1)
    (e0 : hN h' = hN h) (e1 : hK h' = hK h) (e2 : ∀ ci b, fv h' ci b = fv h ci b) (e3 : hL h' = hL h) (e4 : ∀ b t, b ≠ a → av h' t b = av h t b) (e5 : hA h' = hA h ∧ hI h' = hI h) : zRep Z s h' H1 := by
  obtain ⟨h0, h1, h2, h3, h4, h5, h6⟩ := R
  have kq : ∀ x : Nat, x < H.size → ¬ zA Z x → H1[x]? = H[x]? := fun x _ hx => oq x (fun e => hx (by rw [e]; exact (h2 a t ht hk).1))
  refine ⟨by rw [e0, h0, hz], fun b cj hcj hkb => ?_, fun b t2 ht2 hkb => ?_, fun b t2 ht2 hkb => ?_, fun b hkb => ?_, fun b hkb => ?_, fun b hb => by rw [e1]; exact h6 b (by rw [← e0]; exact hb)⟩
  · rw [e1] at hkb
    have hba : b ≠ a := fun e => by rw [e, hk] at hkb; omega
    obtain ⟨q1, q2⟩ := h1 b cj hcj hkb
    refine ⟨q1, ?_⟩
    unfold zOb
    rw [e2 cj b]
    exact t_OB.kept q2 (oq b hba)
  · rw [e1] at hkb
    by_cases hba : b = a
    · subst hba
      have : t2 = t := by omega
      subst this
      rw [e3]
      exact ⟨(h2 b t2 ht2 hkb).1, hob, haw⟩
    · obtain ⟨q1, q2, q3⟩ := h2 b t2 ht2 hkb
      rw [e3, e4 b t2 hba]
      exact ⟨q1, q2.kept (oq b hba), q3.kept (oq b hba)⟩
  · rw [e1] at hkb
    have hba : b ≠ a := fun e => by rw [e, hk] at hkb; omega
    obtain ⟨q2, q3⟩ := h3 b t2 ht2 hkb
    rw [e3, e4 b t2 hba]
    exact ⟨q2.kept (oq b hba), q3⟩
  · rw [e1] at hkb
    obtain ⟨q1, q2, q3⟩ := h4 b hkb
    unfold zCS
    rw [e5.1, e5.2]
    exact ⟨q1.kept kq, q2.kept kq, q3.kept kq⟩
  · rw [e1] at hkb
    obtain ⟨q1, q2⟩ := h5 b hkb
    unfold zCI
    rw [e5.2]
    exact ⟨q1.kept kq, q2.kept kq⟩
/-- one cell comes -/
theorem zRep.new {Z : zT} {s : State} {h h' : AH} {H H1 : Heap} {q : Nat} (R : zRep Z s h H) (hz : H1.size = H.size + 1) (oq : ∀ q : Nat, q < H.size → H1[q]? = H[q]?) (hq : q ≠ 0)
    (hb : Z.2.1 ≤ H.size) (e0 : hN h' = hN h + 1) (e1 : hK h' = u1 (hK h) (hN h) q) (e2 : ∀ b ci, b ≠ hN h → fv h' ci b = fv h ci b) (e3 : ∀ b, b ≠ hN h → hL h' b = hL h b) (e4 : ∀ b t, b ≠ hN h → av h' t b = av h t b) (e5 : ∀ b, b ≠ hN h → hA h' 320 b = hA h 320 b ∧ hI h' 321 b = hI h 321 b ∧ hI h' 336 b = hI h 336 b)
    (ho : ∀ ci, ci < 15 → q = ci + 1 → zOb Z h' ci (hN h) H1) (hr : ∀ t, t < 12 → q = 30 + t → zAR s t (hL h' (hN h)) (av h' t (hN h)) (hN h) H1 ∧ zAW s t (hN h) H1) (hn : q < 20 ∨ (30 ≤ q ∧ q < 50)) : zRep Z s h' H1 := by
  have RR := R
  obtain ⟨h0, h1, h2, h3, h4, h5, h6⟩ := R
  have old : ∀ b k, hK h' b = k → k ≠ 0 → (b = hN h ∧ k = q) ∨ (b ≠ hN h ∧ hK h b = k ∧ b < H.size) := by
    intro b k hb hk0
    rw [e1] at hb
    unfold u1 at hb
    split at hb
    · next e => exact Or.inl ⟨e, hb.symm⟩
    · next e => exact Or.inr ⟨e, hb, RR.lt (by rw [hb]; exact hk0)⟩
  have kq : ∀ x : Nat, x < H.size → ¬ zA Z x → H1[x]? = H[x]? := fun x hx _ => oq x hx
  refine ⟨by rw [e0, h0, hz], fun b cj hcj hkb => ?_, fun b t2 ht2 hkb => ?_, fun b t2 ht2 hkb => ?_, fun b hkb => ?_, fun b hkb => ?_, fun b hb => ?_⟩
  · rcases old b _ hkb (by omega) with ⟨e, hqk⟩ | ⟨e, hkb, hlt⟩
    · subst e
      exact ⟨by rw [h0]; exact hb, ho cj hcj hqk.symm⟩
    · obtain ⟨q1, q2⟩ := h1 b cj hcj hkb
      refine ⟨q1, ?_⟩
      unfold zOb
      rw [e2 b cj e]
      exact t_OB.kept q2 (oq b hlt)
  · rcases old b _ hkb (by omega) with ⟨e, hqk⟩ | ⟨e, hkb, hlt⟩
    · subst e
      exact ⟨by rw [h0]; exact hb, hr t2 ht2 hqk.symm⟩
    · obtain ⟨q1, q2, q3⟩ := h2 b t2 ht2 hkb
      rw [e3 b e, e4 b t2 e]
      exact ⟨q1, q2.kept (oq b hlt), q3.kept (oq b hlt)⟩
  · rcases old b _ hkb (by omega) with ⟨e, hqk⟩ | ⟨e, hkb, hlt⟩
    · omega
    · obtain ⟨q2, q3⟩ := h3 b t2 ht2 hkb
      rw [e3 b e, e4 b t2 e]
      exact ⟨q2.kept (oq b hlt), q3⟩
  · rcases old b _ hkb (by omega) with ⟨e, hqk⟩ | ⟨e, hkb, hlt⟩
    · omega
    · obtain ⟨q1, q2, q3⟩ := h4 b hkb
      obtain ⟨f1, f2, f3⟩ := e5 b e
      unfold zCS
      rw [f1, f2]
      exact ⟨q1.kept kq, q2.kept kq, q3.kept kq⟩
  · rcases old b _ hkb (by omega) with ⟨e, hqk⟩ | ⟨e, hkb, hlt⟩
    · omega
    · obtain ⟨q1, q2⟩ := h5 b hkb
      obtain ⟨f1, f2, f3⟩ := e5 b e
      unfold zCI
      rw [f3]
      exact ⟨q1.kept kq, q2.kept kq⟩
  · rw [e1]
    unfold u1
    rw [e0] at hb
    rw [if_neg (by omega)]
    exact h6 b (by omega)
def zex (e : Nat) : String := ["", "java/lang/IllegalArgumentException", "java/lang/IllegalStateException", "java/lang/IndexOutOfBoundsException", "java/lang/UnsupportedOperationException", "java/util/NoSuchElementException", "java/lang/ArithmeticException"].getD e ""
def ztx : List (String × Nat × String) := [("SpoolwrightYard", 38, "no such class of a line"), ("SpoolwrightYard", 49, "no room for a line"), ("SpoolwrightYard", 372, "no such line"), ("SpoolwrightYard", 63, "no such kind of a part"), ("SpoolwrightYard", 69, "no such length of a part"), ("SpoolwrightYard", 74, "no room for a part"), ("SpoolwrightYard", 375, "no such part"), ("SpoolwrightYard", 95, "no other length for this part"), ("SpoolwrightYard", 377, "no such joint"), ("SpoolwrightYard", 131, "no such alloy or length of a heat"), ("SpoolwrightYard", 136, "no room for a heat"), ("SpoolwrightYard", 383, "no such heat"), ("SpoolwrightYard", 163, "no steel of this heat for this part"), ("SpoolwrightYard", 171, "no steel"), ("SpoolwrightYard", 174, "no such alloy"), ("SpoolwrightYard", 180, "no heat for this part"), ("SpoolwrightYard", 185, "no room for a welder"), ("SpoolwrightYard", 385, "no such welder"), ("SpoolwrightYard", 191, "no such alloy or day"), ("SpoolwrightYard", 209, "this joint cannot be welded"), ("SpoolwrightYard", 222, "this joint is not welded"), ("SpoolwrightYard", 231, "this joint cannot be repaired"), ("SpoolwrightYard", 233, "this joint cannot be cut out"), ("SpoolwrightYard", 241, "this joint is new"), ("SpoolwrightYard", 247, "no such number of days"), ("SpoolwrightYard", 252, "no such day"), ("SpoolwrightYard", 258, "a line is not joined to itself"), ("SpoolwrightYard", 270, "these ends cannot be joined"), ("SpoolwrightYard", 272, "this end is joined"), ("SpoolwrightYard", 277, "no such lines"), ("SpoolwrightYard", 282, "no room for a circuit"), ("SpoolwrightYard", 387, "no such circuit"), ("SpoolwrightYard", 293, "this circuit cannot be tested"), ("SpoolwrightYard", 306, "no such lack"), ("SpoolwrightYard", 315, "a line is not ahead of itself"), ("SpoolwrightYard", 320, "a line would come ahead of itself"), ("SpoolwrightYard", 331, "no such turnover"), ("SpoolwrightYard", 349, "no joints"), ("SpoolwrightYard", 352, "no spools")]
/-! WHAT HOLDS IN EVERY METHOD: statics that nobody writes, texts -/
def zST (Z : zT) (s : State) (H : Heap) : Prop :=
  (vx_Zq Bundle.tN "UNASSIGNED_STACK" Bundle.steD (zA Z) s H ∧ vx_Zq Bundle.tN "SUPPRESSED_SENTINEL" Bundle.listD (zA Z) s H) ∧
  (va_Z "java/util/ArrayList" "DEFAULTCAPACITY_EMPTY_ELEMENTDATA" "[Ljava/lang/Object;" (.ref (Z.2.2 0)) (zA Z) s H ∧ va_Z "SpoolwrightYardModel" "SHARES" "[I" (.ref (Z.2.2 1)) (zA Z) s H ∧ va_Z "java/lang/Integer$IntegerCache" "cache" "[Ljava/lang/Integer;" (.ref (Z.2.2 2)) (zA Z) s H) ∧
  (va_Z "java/lang/Integer$IntegerCache" "high" "I" (.int 127) (zA Z) s H ∧ va_Z "java/lang/String" "COMPACT_STRINGS" "Z" (.int 1) (zA Z) s H) ∧
  (vk_R "SpoolwrightYardModel" 177 "wgb" (Z.2.2 3) s ∧ vk_R "SpoolwrightYardModel$Line" 95 "gb" (Z.2.2 4) s ∧ vk_R "SpoolwrightYardModel" 223 "nb" (Z.2.2 5) s ∧ vk_R "SpoolwrightYardModel" 236 "spwblti" (Z.2.2 6) s) ∧
  ∀ q ∈ ztx, ∃ a : Nat, vk_R q.1 q.2.1 q.2.2 a s
theorem zST.kept {Z : zT} {s : State} {H H1 : Heap} (h : zST Z s H) (k : ∀ a : Nat, a < H.size → ¬ zA Z a → H1[a]? = H[a]?) : zST Z s H1 := by
  obtain ⟨⟨a1, a2⟩, ⟨b1, b2, b3⟩, ⟨c1, c2⟩, d⟩ := h
  exact ⟨⟨a1.kept k, a2.kept k⟩, ⟨b1.kept k, b2.kept k, b3.kept k⟩, ⟨c1.kept k, c2.kept k⟩, d⟩
theorem zST.warm {Z : zT} {s U : State} {H : Heap} (hW : s.WarmedH U.vm) (h : zST Z s H) : zST Z U H := by
  obtain ⟨⟨a1, a2⟩, ⟨b1, b2, b3⟩, ⟨c1, c2⟩, ⟨d1, d2, d3, d4⟩, e⟩ := h
  exact ⟨⟨vx_Zq.moved hW.alike a1, vx_Zq.moved hW.alike a2⟩, ⟨va_Z.moved hW.alike b1, va_Z.moved hW.alike b2, va_Z.moved hW.alike b3⟩, ⟨va_Z.moved hW.alike c1, va_Z.moved hW.alike c2⟩, ⟨vk_R.warm hW d1, vk_R.warm hW d2, vk_R.warm hW d3, vk_R.warm hW d4⟩, fun q hq => by
    obtain ⟨a, ha⟩ := e q hq
    exact ⟨a, vk_R.warm hW ha⟩⟩
/-- the classes as the tables have them; of some only that they are known -/
def zKn (Z : zT) (s : State) : Prop := va_K Z.1 zcl [] s ∧ (∃ c, ClassAt s "java/lang/Integer" c) ∧ (∃ c, ClassAt s "java/lang/String" c) ∧ ∃ (c : ClassId) (k : Class), s.vm.findClass "java/lang/Object" = some c ∧ s.vm.classes[c]? = some k
theorem zKn.moved {Z : zT} {u U : State} (hvm : u.vm.Alike U.vm) (h : zKn Z u) : zKn Z U := by
  obtain ⟨a, ⟨c1, b1⟩, ⟨c2, b2⟩, c3, k3, b3, b4⟩ := h
  obtain ⟨k', hk', -⟩ := hvm.2.2 _ _ b4
  exact ⟨va_K.moved hvm a, ⟨c1, classAt_moved hvm b1⟩, ⟨c2, classAt_moved hvm b2⟩, c3, k', by rw [hvm.findClass]; exact b3, hk'⟩
/-- a method's world at its start -/
def zWd (Z : zT) (h : AH) (U : State) : Prop := TB U ∧ zKn Z U ∧ zRep Z U h U.heap ∧ zST Z U U.heap ∧ Z.2.1 ≤ U.heap.size
theorem zWd.calling {Z : zT} {h : AH} {U : State} {g : JFrame} {mk : MethodId} {a : Array Value} (w : zWd Z h U) : zWd Z h (U.calling g mk a) := by
  have hW : U.WarmedH (U.calling g mk a).vm := State.WarmedH.refl U
  obtain ⟨w1, w2, w3, w4, w5⟩ := w
  exact ⟨w1.warm hW, w2.moved hW.alike, w3.moved hW.alike, w4.warm hW, w5⟩
/-- the machine inside a method -/
def Cx (Z : zT) (X : zX) (own : String) (cc : ByteArray) (nL FR MC MS LO : Nat) : Prop :=
  X.1.tables.exec = Jvm.exec ∧ X.2.2.2.2.2.2.2.2.2.code = cc ∧ X.2.2.2.2.2.2.2.2.2.maxLocals = nL ∧ X.2.2.2.2.1.vm.findClass own = some X.2.2.2.2.2.1.cls ∧ TB X.2.2.2.2.1 ∧ zKn Z X.2.2.2.2.1 ∧ zST Z X.2.2.2.2.1 X.2.2.2.2.1.heap ∧ X.2.2.2.2.2.2.2.2.1.locks = false ∧ Z.2.1 ≤ X.2.2.2.2.1.heap.size ∧ X.2.1.stackTraces = false ∧ X.2.2.2.1 = ({ frames := FR, cells := MC, slots := MS, locals := LO } : Room)
abbrev zs (X : zX) : State := X.2.2.2.2.1
abbrev zm (X : zX) : MethodId := X.2.2.2.2.2.1
abbrev zR (X : zX) : Room := X.2.2.2.1
abbrev zc (X : zX) : Code := X.2.2.2.2.2.2.2.2.2
abbrev zW (X : zX) (Q : State → Prop) (H : Heap) (locs : List Loc) (cells slots : Nat) (g : JFrame) : Prop := W X.1 X.2.1 X.2.2.1 X.2.2.2.1 X.2.2.2.2.1 X.2.2.2.2.2.1 X.2.2.2.2.2.2.1 X.2.2.2.2.2.2.2.1 X.2.2.2.2.2.2.2.2.1 X.2.2.2.2.2.2.2.2.2 H locs cells slots Q g
/-- from here on, whatever the heap is that holds h, and the locals that hold L -/
def V (Z : zT) (X : zX) (Q : State → Prop) (nL : Nat) (h : AH) (L : List (Nat × Value)) (cells slots pc : Nat) (st : List Value) : Prop :=
  ∀ (H : Heap) (locs : List Loc) (ls : Array Slot), zRep Z (zs X) h H → va_S (zA Z) (zs X).heap H locs → lv_has ls nL L → zW X Q H locs cells slots (F0 (zm X) pc ls st)
/-- a thrown one is on its way -/
def VX (Z : zT) (X : zX) (Q : State → Prop) (nL : Nat) (h : AH) (L : List (Nat × Value)) (cells slots pc : Nat) (e : Nat) : Prop :=
  ∀ (H : Heap) (locs : List Loc) (ls : Array Slot) (ce : Cell) (q9 : Addr) (rest : List Value), zRep Z (zs X) h H → va_S (zA Z) (zs X).heap H locs → lv_has ls nL L → H[q9]? = some ce → ce.vm = .none → (zs X).vm.findClass (zex e) = some ce.cls →
    vx_W X.1 X.2.1 X.2.2.1 X.2.2.2.1 X.2.2.2.2.1 X.2.2.2.2.2.1 X.2.2.2.2.2.2.1 X.2.2.2.2.2.2.2.1 X.2.2.2.2.2.2.2.2.1 X.2.2.2.2.2.2.2.2.2 H locs cells slots Q (F0 (zm X) pc ls rest) q9
section VR
variable {Z : zT} {X : zX} {Q : State → Prop} {own : String} {cc : ByteArray} {nL : Nat} {h : AH} {L L' : List (Nat × Value)} {cells slots pc q tgt FR MC MS LO : Nat} {st : List Value}
theorem V.sub (ks : List Nat) (hl : lv_pick L ks = L') (k : V Z X Q nL h L' cells slots pc st) : V Z X Q nL h L cells slots pc st := fun H locs ls a b c => k H locs ls a b (lv_sub c ks hl)
theorem V.widen {c2 s2 : Nat} (h1 : cells ≤ c2) (h2 : slots ≤ s2) (k : V Z X Q nL h L c2 s2 pc st) : V Z X Q nL h L cells slots pc st := fun H locs ls a b c => W.widen h1 h2 (k H locs ls a b c)
theorem va_rf_cat (x : Option Nat) : (va_rf x).category = 1 := by cases x <;> rfl
theorem z_iconst (hC : Cx Z X own cc nL FR MC MS LO) {n : Int} {v : Int32} (d : decode cc pc = .ok (.iconst n, 1)) (hq : pc + 1 = q) (hv : Int32.ofInt n = v) (k : V Z X Q nL h L cells slots q (.int v :: st)) : V Z X Q nL h L cells slots pc (st) := by
  subst hq
  exact fun H locs ls a b c => lv_iconst hC.1 hC.2.1 d hv (k H locs ls a b c)
theorem z_bipush (hC : Cx Z X own cc nL FR MC MS LO) {n : Int} {v : Int32} (d : decode cc pc = .ok (.bipush n, 2)) (hq : pc + 2 = q) (hv : (Int8.ofInt n).toInt32 = v) (k : V Z X Q nL h L cells slots q (.int v :: st)) : V Z X Q nL h L cells slots pc (st) := by
  subst hq
  exact fun H locs ls a b c => lv_bipush hC.1 hC.2.1 d hv (k H locs ls a b c)
theorem z_sipush (hC : Cx Z X own cc nL FR MC MS LO) {n : Int} {v : Int32} (d : decode cc pc = .ok (.sipush n, 3)) (hq : pc + 3 = q) (hv : (Int16.ofInt n).toInt32 = v) (k : V Z X Q nL h L cells slots q (.int v :: st)) : V Z X Q nL h L cells slots pc (st) := by
  subst hq
  exact fun H locs ls a b c => lv_sipush hC.1 hC.2.1 d hv (k H locs ls a b c)
theorem z_lconst (hC : Cx Z X own cc nL FR MC MS LO) {n : Fin 2} {v : Int64} (d : decode cc pc = .ok (.lconst n, 1)) (hq : pc + 1 = q) (hv : Int64.ofNat (n : Nat) = v) (k : V Z X Q nL h L cells slots q (.long v :: st)) : V Z X Q nL h L cells slots pc (st) := by
  subst hq
  exact fun H locs ls a b c => lv_lconst hC.1 hC.2.1 d hv (k H locs ls a b c)
theorem z_fconst0 (hC : Cx Z X own cc nL FR MC MS LO)  (d : decode cc pc = .ok (.fconst 0, 1)) (hq : pc + 1 = q)  (k : V Z X Q nL h L cells slots q (.float 0 :: st)) : V Z X Q nL h L cells slots pc (st) := by
  subst hq
  exact fun H locs ls a b c => lv_fconst0 hC.1 hC.2.1 d (k H locs ls a b c)
theorem z_dconst0 (hC : Cx Z X own cc nL FR MC MS LO)  (d : decode cc pc = .ok (.dconst 0, 1)) (hq : pc + 1 = q)  (k : V Z X Q nL h L cells slots q (.double 0 :: st)) : V Z X Q nL h L cells slots pc (st) := by
  subst hq
  exact fun H locs ls a b c => lv_dconst0 hC.1 hC.2.1 d (k H locs ls a b c)
theorem z_null (hC : Cx Z X own cc nL FR MC MS LO)  (d : decode cc pc = .ok (.aconst_null, 1)) (hq : pc + 1 = q)  (k : V Z X Q nL h L cells slots q (va_rf none :: st)) : V Z X Q nL h L cells slots pc (st) := by
  subst hq
  exact fun H locs ls a b c => lv_null hC.1 hC.2.1 d (k H locs ls a b c)
theorem z_ldc2 (hC : Cx Z X own cc nL FR MC MS LO) {idx : Nat} {v : Int64} (d : decode cc pc = .ok (.ldc2_w idx, 3)) (hq : pc + 3 = q) (w : zq (.constantLong own idx v)) (k : V Z X Q nL h L cells slots q (.long v :: st)) : V Z X Q nL h L cells slots pc (st) := by
  subst hq
  exact fun H locs ls a b c => lv_ldc2 hC.1 hC.2.1 hC.2.2.2.1 (zq_at hC.2.2.2.2.1 w _) d (k H locs ls a b c)
theorem z_ldci (hC : Cx Z X own cc nL FR MC MS LO) {idx : Nat} {v : Int32} (d : decode cc pc = .ok (.ldc idx, 2)) (hq : pc + 2 = q) (w : zq (.constant own idx v)) (k : V Z X Q nL h L cells slots q (.int v :: st)) : V Z X Q nL h L cells slots pc (st) := by
  subst hq
  exact fun H locs ls a b c => lv_ldc hC.1 hC.2.1 hC.2.2.2.1 (zq_at hC.2.2.2.2.1 w _) d (k H locs ls a b c)
theorem z_iload (hC : Cx Z X own cc nL FR MC MS LO) {i : Nat} {x : Int32} (d : decode cc pc = .ok (.iload i, 2)) (hq : pc + 2 = q) (j : Nat) (hl : L[j]? = some (i, .int x)) (k : V Z X Q nL h L cells slots q (.int x :: st)) : V Z X Q nL h L cells slots pc (st) := by
  subst hq
  exact fun H locs ls a b c => lv_iload hC.1 hC.2.1 d (lv_at c j hl) (k H locs ls a b c)
theorem z_iload_n (hC : Cx Z X own cc nL FR MC MS LO) {i : Fin 4} {x : Int32} (d : decode cc pc = .ok (.iload_n i, 1)) (hq : pc + 1 = q) (j : Nat) (hl : L[j]? = some ((i : Nat), .int x)) (k : V Z X Q nL h L cells slots q (.int x :: st)) : V Z X Q nL h L cells slots pc (st) := by
  subst hq
  exact fun H locs ls a b c => lv_iload_n hC.1 hC.2.1 d rfl (lv_at c j hl) (k H locs ls a b c)
theorem z_lload (hC : Cx Z X own cc nL FR MC MS LO) {i : Nat} {x : Int64} (d : decode cc pc = .ok (.lload i, 2)) (hq : pc + 2 = q) (j : Nat) (hl : L[j]? = some (i, .long x)) (k : V Z X Q nL h L cells slots q (.long x :: st)) : V Z X Q nL h L cells slots pc (st) := by
  subst hq
  exact fun H locs ls a b c => lv_lload hC.1 hC.2.1 d (lv_at c j hl) (k H locs ls a b c)
theorem z_lload_n (hC : Cx Z X own cc nL FR MC MS LO) {i : Fin 4} {x : Int64} (d : decode cc pc = .ok (.lload_n i, 1)) (hq : pc + 1 = q) (j : Nat) (hl : L[j]? = some ((i : Nat), .long x)) (k : V Z X Q nL h L cells slots q (.long x :: st)) : V Z X Q nL h L cells slots pc (st) := by
  subst hq
  exact fun H locs ls a b c => lv_lload_n hC.1 hC.2.1 d rfl (lv_at c j hl) (k H locs ls a b c)
theorem z_fload (hC : Cx Z X own cc nL FR MC MS LO) {i : Nat} {x : UInt32} (d : decode cc pc = .ok (.fload i, 2)) (hq : pc + 2 = q) (j : Nat) (hl : L[j]? = some (i, .float x)) (k : V Z X Q nL h L cells slots q (.float x :: st)) : V Z X Q nL h L cells slots pc (st) := by
  subst hq
  exact fun H locs ls a b c => lv_fload hC.1 hC.2.1 d (lv_at c j hl) (k H locs ls a b c)
theorem z_fload_n (hC : Cx Z X own cc nL FR MC MS LO) {i : Fin 4} {x : UInt32} (d : decode cc pc = .ok (.fload_n i, 1)) (hq : pc + 1 = q) (j : Nat) (hl : L[j]? = some ((i : Nat), .float x)) (k : V Z X Q nL h L cells slots q (.float x :: st)) : V Z X Q nL h L cells slots pc (st) := by
  subst hq
  exact fun H locs ls a b c => lv_fload_n hC.1 hC.2.1 d rfl (lv_at c j hl) (k H locs ls a b c)
theorem z_dload (hC : Cx Z X own cc nL FR MC MS LO) {i : Nat} {x : UInt64} (d : decode cc pc = .ok (.dload i, 2)) (hq : pc + 2 = q) (j : Nat) (hl : L[j]? = some (i, .double x)) (k : V Z X Q nL h L cells slots q (.double x :: st)) : V Z X Q nL h L cells slots pc (st) := by
  subst hq
  exact fun H locs ls a b c => lv_dload hC.1 hC.2.1 d (lv_at c j hl) (k H locs ls a b c)
theorem z_dload_n (hC : Cx Z X own cc nL FR MC MS LO) {i : Fin 4} {x : UInt64} (d : decode cc pc = .ok (.dload_n i, 1)) (hq : pc + 1 = q) (j : Nat) (hl : L[j]? = some ((i : Nat), .double x)) (k : V Z X Q nL h L cells slots q (.double x :: st)) : V Z X Q nL h L cells slots pc (st) := by
  subst hq
  exact fun H locs ls a b c => lv_dload_n hC.1 hC.2.1 d rfl (lv_at c j hl) (k H locs ls a b c)
theorem z_aload (hC : Cx Z X own cc nL FR MC MS LO) {i : Nat} {x : Option Nat} (d : decode cc pc = .ok (.aload i, 2)) (hq : pc + 2 = q) (j : Nat) (hl : L[j]? = some (i, va_rf x)) (k : V Z X Q nL h L cells slots q (va_rf x :: st)) : V Z X Q nL h L cells slots pc st := by
  subst hq
  intro H locs ls a b c
  have e := lv_at c j hl
  have kk := k H locs ls a b c
  cases x with
  | none => exact lv_aloadN hC.1 hC.2.1 d e kk
  | some y => exact lv_aload hC.1 hC.2.1 d e kk
theorem z_aload_n (hC : Cx Z X own cc nL FR MC MS LO) {i : Fin 4} {x : Option Nat} (d : decode cc pc = .ok (.aload_n i, 1)) (hq : pc + 1 = q) (j : Nat) (hl : L[j]? = some ((i : Nat), va_rf x)) (k : V Z X Q nL h L cells slots q (va_rf x :: st)) : V Z X Q nL h L cells slots pc st := by
  subst hq
  intro H locs ls a b c
  have e := lv_at c j hl
  have kk := k H locs ls a b c
  cases x with
  | none => exact lv_aload_nN hC.1 hC.2.1 d rfl e kk
  | some y => exact lv_aload_n hC.1 hC.2.1 d rfl e kk
theorem z_istore (hC : Cx Z X own cc nL FR MC MS LO) {i : Nat} {x : Int32} (d : decode cc pc = .ok (.istore i, 2)) (hq : pc + 2 = q) (hn : i < nL) (hl : (i, Value.int x) :: L.filter (fun q => !(q.1 == i) && !(q.1 + 1 == i && q.2.category == 2)) = L') (k : V Z X Q nL h L' cells slots q st) : V Z X Q nL h L cells slots pc (.int x :: st) := by
  subst hq
  exact fun H locs ls a b c => lv_istore hC.1 hC.2.1 d c hn hl (fun ls2 c2 => k H locs ls2 a b c2)
theorem z_istore_n (hC : Cx Z X own cc nL FR MC MS LO) {i4 : Fin 4} {i : Nat} {x : Int32} (d : decode cc pc = .ok (.istore_n i4, 1)) (hq : pc + 1 = q) (hi : (i4 : Nat) = i) (hn : i < nL) (hl : (i, Value.int x) :: L.filter (fun q => !(q.1 == i) && !(q.1 + 1 == i && q.2.category == 2)) = L') (k : V Z X Q nL h L' cells slots q st) : V Z X Q nL h L cells slots pc (.int x :: st) := by
  subst hq
  exact fun H locs ls a b c => lv_istore_n hC.1 hC.2.1 d hi c hn hl (fun ls2 c2 => k H locs ls2 a b c2)
theorem z_lstore (hC : Cx Z X own cc nL FR MC MS LO) {i : Nat} {x : Int64} (d : decode cc pc = .ok (.lstore i, 2)) (hq : pc + 2 = q) (hn : i + 1 < nL) (hl : (i, Value.long x) :: L.filter (fun q => !(q.1 == i) && (!(q.1 == i + 1) && !(q.1 + 1 == i && q.2.category == 2))) = L') (k : V Z X Q nL h L' cells slots q st) : V Z X Q nL h L cells slots pc (.long x :: st) := by
  subst hq
  exact fun H locs ls a b c => lv_lstore hC.1 hC.2.1 d c hn hl (fun ls2 c2 => k H locs ls2 a b c2)
theorem z_lstore_n (hC : Cx Z X own cc nL FR MC MS LO) {i4 : Fin 4} {i : Nat} {x : Int64} (d : decode cc pc = .ok (.lstore_n i4, 1)) (hq : pc + 1 = q) (hi : (i4 : Nat) = i) (hn : i + 1 < nL) (hl : (i, Value.long x) :: L.filter (fun q => !(q.1 == i) && (!(q.1 == i + 1) && !(q.1 + 1 == i && q.2.category == 2))) = L') (k : V Z X Q nL h L' cells slots q st) : V Z X Q nL h L cells slots pc (.long x :: st) := by
  subst hq
  exact fun H locs ls a b c => lv_lstore_n hC.1 hC.2.1 d hi c hn hl (fun ls2 c2 => k H locs ls2 a b c2)
theorem z_fstore (hC : Cx Z X own cc nL FR MC MS LO) {i : Nat} {x : UInt32} (d : decode cc pc = .ok (.fstore i, 2)) (hq : pc + 2 = q) (hn : i < nL) (hl : (i, Value.float x) :: L.filter (fun q => !(q.1 == i) && !(q.1 + 1 == i && q.2.category == 2)) = L') (k : V Z X Q nL h L' cells slots q st) : V Z X Q nL h L cells slots pc (.float x :: st) := by
  subst hq
  exact fun H locs ls a b c => lv_fstore hC.1 hC.2.1 d c hn hl (fun ls2 c2 => k H locs ls2 a b c2)
theorem z_fstore_n (hC : Cx Z X own cc nL FR MC MS LO) {i4 : Fin 4} {i : Nat} {x : UInt32} (d : decode cc pc = .ok (.fstore_n i4, 1)) (hq : pc + 1 = q) (hi : (i4 : Nat) = i) (hn : i < nL) (hl : (i, Value.float x) :: L.filter (fun q => !(q.1 == i) && !(q.1 + 1 == i && q.2.category == 2)) = L') (k : V Z X Q nL h L' cells slots q st) : V Z X Q nL h L cells slots pc (.float x :: st) := by
  subst hq
  exact fun H locs ls a b c => lv_fstore_n hC.1 hC.2.1 d hi c hn hl (fun ls2 c2 => k H locs ls2 a b c2)
theorem z_dstore (hC : Cx Z X own cc nL FR MC MS LO) {i : Nat} {x : UInt64} (d : decode cc pc = .ok (.dstore i, 2)) (hq : pc + 2 = q) (hn : i + 1 < nL) (hl : (i, Value.double x) :: L.filter (fun q => !(q.1 == i) && (!(q.1 == i + 1) && !(q.1 + 1 == i && q.2.category == 2))) = L') (k : V Z X Q nL h L' cells slots q st) : V Z X Q nL h L cells slots pc (.double x :: st) := by
  subst hq
  exact fun H locs ls a b c => lv_dstore hC.1 hC.2.1 d c hn hl (fun ls2 c2 => k H locs ls2 a b c2)
theorem z_dstore_n (hC : Cx Z X own cc nL FR MC MS LO) {i4 : Fin 4} {i : Nat} {x : UInt64} (d : decode cc pc = .ok (.dstore_n i4, 1)) (hq : pc + 1 = q) (hi : (i4 : Nat) = i) (hn : i + 1 < nL) (hl : (i, Value.double x) :: L.filter (fun q => !(q.1 == i) && (!(q.1 == i + 1) && !(q.1 + 1 == i && q.2.category == 2))) = L') (k : V Z X Q nL h L' cells slots q st) : V Z X Q nL h L cells slots pc (.double x :: st) := by
  subst hq
  exact fun H locs ls a b c => lv_dstore_n hC.1 hC.2.1 d hi c hn hl (fun ls2 c2 => k H locs ls2 a b c2)
theorem z_astore (hC : Cx Z X own cc nL FR MC MS LO) {i : Nat} {x : Option Nat} (d : decode cc pc = .ok (.astore i, 2)) (hq : pc + 2 = q) (hn : i < nL) (hl : (i, va_rf x) :: L.filter (fun q => !(q.1 == i) && !(q.1 + 1 == i && q.2.category == 2)) = L') (k : V Z X Q nL h L' cells slots q st) : V Z X Q nL h L cells slots pc (va_rf x :: st) := by
  subst hq
  intro H locs ls a b c
  cases x with
  | none => exact lv_astoreN hC.1 hC.2.1 d c hn hl (fun ls2 c2 => k H locs ls2 a b c2)
  | some y => exact lv_astore hC.1 hC.2.1 d c hn hl (fun ls2 c2 => k H locs ls2 a b c2)
theorem z_astore_n (hC : Cx Z X own cc nL FR MC MS LO) {i4 : Fin 4} {i : Nat} {x : Option Nat} (d : decode cc pc = .ok (.astore_n i4, 1)) (hq : pc + 1 = q) (hi : (i4 : Nat) = i) (hn : i < nL) (hl : (i, va_rf x) :: L.filter (fun q => !(q.1 == i) && !(q.1 + 1 == i && q.2.category == 2)) = L') (k : V Z X Q nL h L' cells slots q st) : V Z X Q nL h L cells slots pc (va_rf x :: st) := by
  subst hq
  intro H locs ls a b c
  cases x with
  | none => exact lv_astore_nN hC.1 hC.2.1 d hi c hn hl (fun ls2 c2 => k H locs ls2 a b c2)
  | some y => exact lv_astore_n hC.1 hC.2.1 d hi c hn hl (fun ls2 c2 => k H locs ls2 a b c2)
theorem z_iinc (hC : Cx Z X own cc nL FR MC MS LO) {i : Nat} {n : Int} {x v : Int32} (d : decode cc pc = .ok (.iinc i n, 3)) (hq : pc + 3 = q) (j : Nat) (hj : L[j]? = some (i, .int x)) (hv : Int32.ofInt n = v) (hn : i < nL) (hl : (i, Value.int (x + v)) :: L.filter (fun q => !(q.1 == i) && !(q.1 + 1 == i && q.2.category == 2)) = L') (k : V Z X Q nL h L' cells slots q st) : V Z X Q nL h L cells slots pc st := by
  subst hq
  exact fun H locs ls a b c => lv_iinc hC.1 hC.2.1 d c hj (congrArg (fun z => x + z) hv) hn hl (fun ls2 c2 => k H locs ls2 a b c2)
theorem lv_fR {ls : Array Slot} {i p : Nat} {y : Option Nat} (c : lv_has ls nL L) (j : Nat) (hj : L[j]? = some (p, va_rf y)) (hp : p + 1 = i) : L.filter (fun q => !(q.1 == i) && !(q.1 + 1 == i && q.2.category == 2)) = L.filter (fun q => !(q.1 == i)) := by
  refine List.filter_congr (fun q hq => ?_)
  have e1 := c.2.2 q hq
  have e2 := lv_at c j hj
  by_cases h1 : q.1 + 1 = i
  · have e3 : q.1 = p := by omega
    rw [e3, e2] at e1
    have e4 : q.2 = va_rf y := (Slot.val.inj (Option.some.inj e1)).symm
    rw [e4, va_rf_cat]
    simp
  · have e5 : (q.1 + 1 == i) = false := by simp [h1]
    rw [e5]
    simp
theorem lv_fR2 {ls : Array Slot} {i p : Nat} {y : Option Nat} (c : lv_has ls nL L) (j : Nat) (hj : L[j]? = some (p, va_rf y)) (hp : p + 1 = i) : L.filter (fun q => !(q.1 == i) && (!(q.1 == i + 1) && !(q.1 + 1 == i && q.2.category == 2))) = L.filter (fun q => !(q.1 == i) && !(q.1 == i + 1)) := by
  refine List.filter_congr (fun q hq => ?_)
  have e1 := c.2.2 q hq
  have e2 := lv_at c j hj
  by_cases h1 : q.1 + 1 = i
  · have e3 : q.1 = p := by omega
    rw [e3, e2] at e1
    have e4 : q.2 = va_rf y := (Slot.val.inj (Option.some.inj e1)).symm
    rw [e4, va_rf_cat]
    simp
  · have e5 : (q.1 + 1 == i) = false := by simp [h1]
    rw [e5]
    simp
theorem z_istoreR (hC : Cx Z X own cc nL FR MC MS LO) {i : Nat} {x : Int32} (d : decode cc pc = .ok (.istore i, 2)) (hq : pc + 2 = q) (hn : i < nL) (j : Nat) {p : Nat} {y : Option Nat} (hj : L[j]? = some (p, va_rf y)) (hp : p + 1 = i) (hl : (i, Value.int x) :: L.filter (fun q => !(q.1 == i)) = L') (k : V Z X Q nL h L' cells slots q st) : V Z X Q nL h L cells slots pc (.int x :: st) := by
  intro H locs ls a b c
  exact z_istore hC d hq hn (L' := L') (by rw [lv_fR c j hj hp]; exact hl) k H locs ls a b c
theorem z_istoreR_n (hC : Cx Z X own cc nL FR MC MS LO) {i4 : Fin 4} {i : Nat} {x : Int32} (d : decode cc pc = .ok (.istore_n i4, 1)) (hq : pc + 1 = q) (hi : (i4 : Nat) = i) (hn : i < nL) (j : Nat) {p : Nat} {y : Option Nat} (hj : L[j]? = some (p, va_rf y)) (hp : p + 1 = i) (hl : (i, Value.int x) :: L.filter (fun q => !(q.1 == i)) = L') (k : V Z X Q nL h L' cells slots q st) : V Z X Q nL h L cells slots pc (.int x :: st) := by
  intro H locs ls a b c
  exact z_istore_n hC d hq hi hn (L' := L') (by rw [lv_fR c j hj hp]; exact hl) k H locs ls a b c
theorem z_lstoreR (hC : Cx Z X own cc nL FR MC MS LO) {i : Nat} {x : Int64} (d : decode cc pc = .ok (.lstore i, 2)) (hq : pc + 2 = q) (hn : i + 1 < nL) (j : Nat) {p : Nat} {y : Option Nat} (hj : L[j]? = some (p, va_rf y)) (hp : p + 1 = i) (hl : (i, Value.long x) :: L.filter (fun q => !(q.1 == i) && !(q.1 == i + 1)) = L') (k : V Z X Q nL h L' cells slots q st) : V Z X Q nL h L cells slots pc (.long x :: st) := by
  intro H locs ls a b c
  exact z_lstore hC d hq hn (L' := L') (by rw [lv_fR2 c j hj hp]; exact hl) k H locs ls a b c
theorem z_lstoreR_n (hC : Cx Z X own cc nL FR MC MS LO) {i4 : Fin 4} {i : Nat} {x : Int64} (d : decode cc pc = .ok (.lstore_n i4, 1)) (hq : pc + 1 = q) (hi : (i4 : Nat) = i) (hn : i + 1 < nL) (j : Nat) {p : Nat} {y : Option Nat} (hj : L[j]? = some (p, va_rf y)) (hp : p + 1 = i) (hl : (i, Value.long x) :: L.filter (fun q => !(q.1 == i) && !(q.1 == i + 1)) = L') (k : V Z X Q nL h L' cells slots q st) : V Z X Q nL h L cells slots pc (.long x :: st) := by
  intro H locs ls a b c
  exact z_lstore_n hC d hq hi hn (L' := L') (by rw [lv_fR2 c j hj hp]; exact hl) k H locs ls a b c
theorem z_fstoreR (hC : Cx Z X own cc nL FR MC MS LO) {i : Nat} {x : UInt32} (d : decode cc pc = .ok (.fstore i, 2)) (hq : pc + 2 = q) (hn : i < nL) (j : Nat) {p : Nat} {y : Option Nat} (hj : L[j]? = some (p, va_rf y)) (hp : p + 1 = i) (hl : (i, Value.float x) :: L.filter (fun q => !(q.1 == i)) = L') (k : V Z X Q nL h L' cells slots q st) : V Z X Q nL h L cells slots pc (.float x :: st) := by
  intro H locs ls a b c
  exact z_fstore hC d hq hn (L' := L') (by rw [lv_fR c j hj hp]; exact hl) k H locs ls a b c
theorem z_fstoreR_n (hC : Cx Z X own cc nL FR MC MS LO) {i4 : Fin 4} {i : Nat} {x : UInt32} (d : decode cc pc = .ok (.fstore_n i4, 1)) (hq : pc + 1 = q) (hi : (i4 : Nat) = i) (hn : i < nL) (j : Nat) {p : Nat} {y : Option Nat} (hj : L[j]? = some (p, va_rf y)) (hp : p + 1 = i) (hl : (i, Value.float x) :: L.filter (fun q => !(q.1 == i)) = L') (k : V Z X Q nL h L' cells slots q st) : V Z X Q nL h L cells slots pc (.float x :: st) := by
  intro H locs ls a b c
  exact z_fstore_n hC d hq hi hn (L' := L') (by rw [lv_fR c j hj hp]; exact hl) k H locs ls a b c
theorem z_dstoreR (hC : Cx Z X own cc nL FR MC MS LO) {i : Nat} {x : UInt64} (d : decode cc pc = .ok (.dstore i, 2)) (hq : pc + 2 = q) (hn : i + 1 < nL) (j : Nat) {p : Nat} {y : Option Nat} (hj : L[j]? = some (p, va_rf y)) (hp : p + 1 = i) (hl : (i, Value.double x) :: L.filter (fun q => !(q.1 == i) && !(q.1 == i + 1)) = L') (k : V Z X Q nL h L' cells slots q st) : V Z X Q nL h L cells slots pc (.double x :: st) := by
  intro H locs ls a b c
  exact z_dstore hC d hq hn (L' := L') (by rw [lv_fR2 c j hj hp]; exact hl) k H locs ls a b c
theorem z_dstoreR_n (hC : Cx Z X own cc nL FR MC MS LO) {i4 : Fin 4} {i : Nat} {x : UInt64} (d : decode cc pc = .ok (.dstore_n i4, 1)) (hq : pc + 1 = q) (hi : (i4 : Nat) = i) (hn : i + 1 < nL) (j : Nat) {p : Nat} {y : Option Nat} (hj : L[j]? = some (p, va_rf y)) (hp : p + 1 = i) (hl : (i, Value.double x) :: L.filter (fun q => !(q.1 == i) && !(q.1 == i + 1)) = L') (k : V Z X Q nL h L' cells slots q st) : V Z X Q nL h L cells slots pc (.double x :: st) := by
  intro H locs ls a b c
  exact z_dstore_n hC d hq hi hn (L' := L') (by rw [lv_fR2 c j hj hp]; exact hl) k H locs ls a b c
theorem z_astoreR (hC : Cx Z X own cc nL FR MC MS LO) {i : Nat} {x : Option Nat} (d : decode cc pc = .ok (.astore i, 2)) (hq : pc + 2 = q) (hn : i < nL) (j : Nat) {p : Nat} {y : Option Nat} (hj : L[j]? = some (p, va_rf y)) (hp : p + 1 = i) (hl : (i, va_rf x) :: L.filter (fun q => !(q.1 == i)) = L') (k : V Z X Q nL h L' cells slots q st) : V Z X Q nL h L cells slots pc (va_rf x :: st) := by
  intro H locs ls a b c
  exact z_astore hC d hq hn (L' := L') (by rw [lv_fR c j hj hp]; exact hl) k H locs ls a b c
theorem z_astoreR_n (hC : Cx Z X own cc nL FR MC MS LO) {i4 : Fin 4} {i : Nat} {x : Option Nat} (d : decode cc pc = .ok (.astore_n i4, 1)) (hq : pc + 1 = q) (hi : (i4 : Nat) = i) (hn : i < nL) (j : Nat) {p : Nat} {y : Option Nat} (hj : L[j]? = some (p, va_rf y)) (hp : p + 1 = i) (hl : (i, va_rf x) :: L.filter (fun q => !(q.1 == i)) = L') (k : V Z X Q nL h L' cells slots q st) : V Z X Q nL h L cells slots pc (va_rf x :: st) := by
  intro H locs ls a b c
  exact z_astore_n hC d hq hi hn (L' := L') (by rw [lv_fR c j hj hp]; exact hl) k H locs ls a b c
theorem z_iincR (hC : Cx Z X own cc nL FR MC MS LO) {i : Nat} {n : Int} {x v : Int32} (d : decode cc pc = .ok (.iinc i n, 3)) (hq : pc + 3 = q) (j2 : Nat) (hj2 : L[j2]? = some (i, .int x)) (hv : Int32.ofInt n = v) (hn : i < nL) (j : Nat) {p : Nat} {y : Option Nat} (hj : L[j]? = some (p, va_rf y)) (hp : p + 1 = i) (hl : (i, Value.int (x + v)) :: L.filter (fun q => !(q.1 == i)) = L') (k : V Z X Q nL h L' cells slots q st) : V Z X Q nL h L cells slots pc st := by
  intro H locs ls a b c
  exact z_iinc hC d hq j2 hj2 hv hn (L' := L') (by rw [lv_fR c j hj hp]; exact hl) k H locs ls a b c
theorem z_iadd (hC : Cx Z X own cc nL FR MC MS LO) {x y : Int32} (d : decode cc pc = .ok (.iadd, 1)) (hq : pc + 1 = q)  (k : V Z X Q nL h L cells slots q (.int (x + y) :: st)) : V Z X Q nL h L cells slots pc (.int y :: .int x :: st) := by
  subst hq
  exact fun H locs ls a b c => lv_iadd hC.1 hC.2.1 d (k H locs ls a b c)
theorem z_isub (hC : Cx Z X own cc nL FR MC MS LO) {x y : Int32} (d : decode cc pc = .ok (.isub, 1)) (hq : pc + 1 = q)  (k : V Z X Q nL h L cells slots q (.int (x - y) :: st)) : V Z X Q nL h L cells slots pc (.int y :: .int x :: st) := by
  subst hq
  exact fun H locs ls a b c => lv_isub hC.1 hC.2.1 d (k H locs ls a b c)
theorem z_imul (hC : Cx Z X own cc nL FR MC MS LO) {x y : Int32} (d : decode cc pc = .ok (.imul, 1)) (hq : pc + 1 = q)  (k : V Z X Q nL h L cells slots q (.int (x * y) :: st)) : V Z X Q nL h L cells slots pc (.int y :: .int x :: st) := by
  subst hq
  exact fun H locs ls a b c => lv_imul hC.1 hC.2.1 d (k H locs ls a b c)
theorem z_iand (hC : Cx Z X own cc nL FR MC MS LO) {x y : Int32} (d : decode cc pc = .ok (.iand, 1)) (hq : pc + 1 = q)  (k : V Z X Q nL h L cells slots q (.int (x &&& y) :: st)) : V Z X Q nL h L cells slots pc (.int y :: .int x :: st) := by
  subst hq
  exact fun H locs ls a b c => lv_iand hC.1 hC.2.1 d (k H locs ls a b c)
theorem z_ior (hC : Cx Z X own cc nL FR MC MS LO) {x y : Int32} (d : decode cc pc = .ok (.ior, 1)) (hq : pc + 1 = q)  (k : V Z X Q nL h L cells slots q (.int (x ||| y) :: st)) : V Z X Q nL h L cells slots pc (.int y :: .int x :: st) := by
  subst hq
  exact fun H locs ls a b c => lv_ior hC.1 hC.2.1 d (k H locs ls a b c)
theorem z_ixor (hC : Cx Z X own cc nL FR MC MS LO) {x y : Int32} (d : decode cc pc = .ok (.ixor, 1)) (hq : pc + 1 = q)  (k : V Z X Q nL h L cells slots q (.int (x ^^^ y) :: st)) : V Z X Q nL h L cells slots pc (.int y :: .int x :: st) := by
  subst hq
  exact fun H locs ls a b c => lv_ixor hC.1 hC.2.1 d (k H locs ls a b c)
theorem z_ladd (hC : Cx Z X own cc nL FR MC MS LO) {x y : Int64} (d : decode cc pc = .ok (.ladd, 1)) (hq : pc + 1 = q)  (k : V Z X Q nL h L cells slots q (.long (x + y) :: st)) : V Z X Q nL h L cells slots pc (.long y :: .long x :: st) := by
  subst hq
  exact fun H locs ls a b c => lv_ladd hC.1 hC.2.1 d (k H locs ls a b c)
theorem z_lmul (hC : Cx Z X own cc nL FR MC MS LO) {x y : Int64} (d : decode cc pc = .ok (.lmul, 1)) (hq : pc + 1 = q)  (k : V Z X Q nL h L cells slots q (.long (x * y) :: st)) : V Z X Q nL h L cells slots pc (.long y :: .long x :: st) := by
  subst hq
  exact fun H locs ls a b c => lv_lmul hC.1 hC.2.1 d (k H locs ls a b c)
theorem z_ishl (hC : Cx Z X own cc nL FR MC MS LO) {x y : Int32} (d : decode cc pc = .ok (.ishl, 1)) (hq : pc + 1 = q)  (k : V Z X Q nL h L cells slots q (.int (x <<< (y &&& 31)) :: st)) : V Z X Q nL h L cells slots pc (.int y :: .int x :: st) := by
  subst hq
  exact fun H locs ls a b c => lv_ishl hC.1 hC.2.1 d (k H locs ls a b c)
theorem z_ishr (hC : Cx Z X own cc nL FR MC MS LO) {x y : Int32} (d : decode cc pc = .ok (.ishr, 1)) (hq : pc + 1 = q)  (k : V Z X Q nL h L cells slots q (.int (x >>> (y &&& 31)) :: st)) : V Z X Q nL h L cells slots pc (.int y :: .int x :: st) := by
  subst hq
  exact fun H locs ls a b c => lv_ishr hC.1 hC.2.1 d (k H locs ls a b c)
theorem z_iushr (hC : Cx Z X own cc nL FR MC MS LO) {x y : Int32} (d : decode cc pc = .ok (.iushr, 1)) (hq : pc + 1 = q)  (k : V Z X Q nL h L cells slots q (.int ((x.toUInt32 >>> (y.toUInt32 &&& Int32.toUInt32 31)).toInt32) :: st)) : V Z X Q nL h L cells slots pc (.int y :: .int x :: st) := by
  subst hq
  exact fun H locs ls a b c => lv_iushr hC.1 hC.2.1 d rfl (k H locs ls a b c)
theorem z_lcmp (hC : Cx Z X own cc nL FR MC MS LO) {x y : Int64} (d : decode cc pc = .ok (.lcmp, 1)) (hq : pc + 1 = q)  (k : V Z X Q nL h L cells slots q (.int (lg_cmp x y) :: st)) : V Z X Q nL h L cells slots pc (.long y :: .long x :: st) := by
  subst hq
  exact fun H locs ls a b c => W.lcmp hC.1 hC.2.1 d (k H locs ls a b c)
theorem z_fcmp (hC : Cx Z X own cc nL FR MC MS LO) {x y : UInt32} {op : CmpOp} (d : decode cc pc = .ok (.fcmp op, 1)) (hq : pc + 1 = q)  (k : V Z X Q nL h L cells slots q (.int (Op.cmpValue (FP.fcmp x y) op) :: st)) : V Z X Q nL h L cells slots pc (.float y :: .float x :: st) := by
  subst hq
  exact fun H locs ls a b c => lv_fcmp hC.1 hC.2.1 d (k H locs ls a b c)
theorem z_dcmp (hC : Cx Z X own cc nL FR MC MS LO) {x y : UInt64} {op : CmpOp} (d : decode cc pc = .ok (.dcmp op, 1)) (hq : pc + 1 = q)  (k : V Z X Q nL h L cells slots q (.int (Op.cmpValue (FP.dcmp x y) op) :: st)) : V Z X Q nL h L cells slots pc (.double y :: .double x :: st) := by
  subst hq
  exact fun H locs ls a b c => lv_dcmp hC.1 hC.2.1 d (k H locs ls a b c)
theorem z_i2l (hC : Cx Z X own cc nL FR MC MS LO) {x : Int32} (d : decode cc pc = .ok (.i2l, 1)) (hq : pc + 1 = q)  (k : V Z X Q nL h L cells slots q (.long x.toInt64 :: st)) : V Z X Q nL h L cells slots pc (.int x :: st) := by
  subst hq
  exact fun H locs ls a b c => lv_i2l hC.1 hC.2.1 d rfl (k H locs ls a b c)
theorem z_i2c (hC : Cx Z X own cc nL FR MC MS LO) {x : Int32} (d : decode cc pc = .ok (.i2c, 1)) (hq : pc + 1 = q)  (k : V Z X Q nL h L cells slots q (.int (x.toUInt32 % 65536).toInt32 :: st)) : V Z X Q nL h L cells slots pc (.int x :: st) := by
  subst hq
  exact fun H locs ls a b c => lv_i2c hC.1 hC.2.1 d rfl (k H locs ls a b c)
theorem z_i2b (hC : Cx Z X own cc nL FR MC MS LO) {x : Int32} (d : decode cc pc = .ok (.i2b, 1)) (hq : pc + 1 = q)  (k : V Z X Q nL h L cells slots q (.int x.toInt8.toInt32 :: st)) : V Z X Q nL h L cells slots pc (.int x :: st) := by
  subst hq
  exact fun H locs ls a b c => lv_i2b hC.1 hC.2.1 d rfl (k H locs ls a b c)
theorem z_i2f (hC : Cx Z X own cc nL FR MC MS LO) {x : Int32} (d : decode cc pc = .ok (.i2f, 1)) (hq : pc + 1 = q)  (k : V Z X Q nL h L cells slots q (.float (FP.i2f x) :: st)) : V Z X Q nL h L cells slots pc (.int x :: st) := by
  subst hq
  exact fun H locs ls a b c => lv_i2f hC.1 hC.2.1 d (k H locs ls a b c)
theorem z_i2d (hC : Cx Z X own cc nL FR MC MS LO) {x : Int32} (d : decode cc pc = .ok (.i2d, 1)) (hq : pc + 1 = q)  (k : V Z X Q nL h L cells slots q (.double (FP.i2d x) :: st)) : V Z X Q nL h L cells slots pc (.int x :: st) := by
  subst hq
  exact fun H locs ls a b c => lv_i2d hC.1 hC.2.1 d (k H locs ls a b c)
theorem z_idiv (hC : Cx Z X own cc nL FR MC MS LO) {x y : Int32} (d : decode cc pc = .ok (.idiv, 1)) (hq : pc + 1 = q) {B : Prop} (hf : (¬ y = 0) ∧ B) (k : B → V Z X Q nL h L cells slots q (.int (x / y) :: st)) : V Z X Q nL h L cells slots pc (.int y :: .int x :: st) := by
  subst hq
  exact fun H locs ls a b c => lv_idiv hC.1 hC.2.1 d hf.1 (k hf.2 H locs ls a b c)
theorem z_fdiv (hC : Cx Z X own cc nL FR MC MS LO) {x y : UInt32} (d : decode cc pc = .ok (.fdiv, 1)) (hq : pc + 1 = q) {B : Prop} (hf : vf_n32 (FP.fdiv x y) ∧ B) (k : B → V Z X Q nL h L cells slots q (.float (FP.fdiv x y) :: st)) : V Z X Q nL h L cells slots pc (.float y :: .float x :: st) := by
  subst hq
  exact fun H locs ls a b c => lv_fdiv hC.1 hC.2.1 d hf.1 (k hf.2 H locs ls a b c)
theorem z_ddiv (hC : Cx Z X own cc nL FR MC MS LO) {x y : UInt64} (d : decode cc pc = .ok (.ddiv, 1)) (hq : pc + 1 = q) {B : Prop} (hf : vf_n64 (FP.ddiv x y) ∧ B) (k : B → V Z X Q nL h L cells slots q (.double (FP.ddiv x y) :: st)) : V Z X Q nL h L cells slots pc (.double y :: .double x :: st) := by
  subst hq
  exact fun H locs ls a b c => lv_ddiv hC.1 hC.2.1 d hf.1 (k hf.2 H locs ls a b c)
theorem z_f2d (hC : Cx Z X own cc nL FR MC MS LO) {x : UInt32} (d : decode cc pc = .ok (.f2d, 1)) (hq : pc + 1 = q) {B : Prop} (hf : vf_n64 (FP.f2d x) ∧ B) (k : B → V Z X Q nL h L cells slots q (.double (FP.f2d x) :: st)) : V Z X Q nL h L cells slots pc (.float x :: st) := by
  subst hq
  exact fun H locs ls a b c => lv_f2d hC.1 hC.2.1 d hf.1 (k hf.2 H locs ls a b c)
theorem z_dup (hC : Cx Z X own cc nL FR MC MS LO) {v : Value} (d : decode cc pc = .ok (.dup, 1)) (hq : pc + 1 = q) (hv : v.category = 1) (k : V Z X Q nL h L cells slots q (v :: v :: st)) : V Z X Q nL h L cells slots pc (v :: st) := by
  subst hq
  exact fun H locs ls a b c => lv_dup hC.1 hC.2.1 d hv (k H locs ls a b c)
theorem z_dup_x1 (hC : Cx Z X own cc nL FR MC MS LO) {v w : Value} (d : decode cc pc = .ok (.dup_x1, 1)) (hq : pc + 1 = q) (hv : v.category = 1) (hw : w.category = 1) (k : V Z X Q nL h L cells slots q (v :: w :: v :: st)) : V Z X Q nL h L cells slots pc (v :: w :: st) := by
  subst hq
  exact fun H locs ls a b c => lv_dup_x1 hC.1 hC.2.1 d hv hw (k H locs ls a b c)
theorem z_pop (hC : Cx Z X own cc nL FR MC MS LO) {v : Value} (d : decode cc pc = .ok (.pop, 1)) (hq : pc + 1 = q) (hv : v.category = 1) (k : V Z X Q nL h L cells slots q (st)) : V Z X Q nL h L cells slots pc (v :: st) := by
  subst hq
  exact fun H locs ls a b c => lv_pop hC.1 hC.2.1 d hv (k H locs ls a b c)
theorem z_goto (hC : Cx Z X own cc nL FR MC MS LO) {off : Int} (d : decode cc pc = .ok (.goto off, 3)) (ht : (pc : Int) + off = (tgt : Int)) (k : V Z X Q nL h L cells slots tgt st) : V Z X Q nL h L cells slots pc st := fun H locs ls a b c => lv_goto hC.1 hC.2.1 d ht (k H locs ls a b c)
theorem z_if_eq (hC : Cx Z X own cc nL FR MC MS LO) {x : Int32} {off : Int} (d : decode cc pc = .ok (.ifCond .eq off, 3)) (ht : (pc : Int) + off = (tgt : Int)) (hq : pc + 3 = q) {P N : Prop} (hf : if x = 0 then P else N) (kt : x = 0 → P → V Z X Q nL h L cells slots tgt st) (kf : ¬ x = 0 → N → V Z X Q nL h L cells slots q st) : V Z X Q nL h L cells slots pc (.int x :: st) := by
  subst hq
  exact fun H locs ls a b c => lv_if_eq hC.1 hC.2.1 d ht (fun e => kt e (by rw [if_pos e] at hf; exact hf) H locs ls a b c) (fun e => kf e (by rw [if_neg e] at hf; exact hf) H locs ls a b c)
theorem z_icmp_eq (hC : Cx Z X own cc nL FR MC MS LO) {x y : Int32} {off : Int} (d : decode cc pc = .ok (.if_icmp .eq off, 3)) (ht : (pc : Int) + off = (tgt : Int)) (hq : pc + 3 = q) {P N : Prop} (hf : if x = y then P else N) (kt : x = y → P → V Z X Q nL h L cells slots tgt st) (kf : ¬ x = y → N → V Z X Q nL h L cells slots q st) : V Z X Q nL h L cells slots pc (.int y :: .int x :: st) := by
  subst hq
  exact fun H locs ls a b c => lv_icmp_eq hC.1 hC.2.1 d ht (fun e => kt e (by rw [if_pos e] at hf; exact hf) H locs ls a b c) (fun e => kf e (by rw [if_neg e] at hf; exact hf) H locs ls a b c)
theorem z_if_ne (hC : Cx Z X own cc nL FR MC MS LO) {x : Int32} {off : Int} (d : decode cc pc = .ok (.ifCond .ne off, 3)) (ht : (pc : Int) + off = (tgt : Int)) (hq : pc + 3 = q) {P N : Prop} (hf : if x = 0 then P else N) (kt : ¬ x = 0 → N → V Z X Q nL h L cells slots tgt st) (kf : x = 0 → P → V Z X Q nL h L cells slots q st) : V Z X Q nL h L cells slots pc (.int x :: st) := by
  subst hq
  exact fun H locs ls a b c => lv_if_ne hC.1 hC.2.1 d ht (fun e => kt e (by rw [if_neg e] at hf; exact hf) H locs ls a b c) (fun e => kf e (by rw [if_pos e] at hf; exact hf) H locs ls a b c)
theorem z_icmp_ne (hC : Cx Z X own cc nL FR MC MS LO) {x y : Int32} {off : Int} (d : decode cc pc = .ok (.if_icmp .ne off, 3)) (ht : (pc : Int) + off = (tgt : Int)) (hq : pc + 3 = q) {P N : Prop} (hf : if x = y then P else N) (kt : ¬ x = y → N → V Z X Q nL h L cells slots tgt st) (kf : x = y → P → V Z X Q nL h L cells slots q st) : V Z X Q nL h L cells slots pc (.int y :: .int x :: st) := by
  subst hq
  exact fun H locs ls a b c => lv_icmp_ne hC.1 hC.2.1 d ht (fun e => kt e (by rw [if_neg e] at hf; exact hf) H locs ls a b c) (fun e => kf e (by rw [if_pos e] at hf; exact hf) H locs ls a b c)
theorem z_if_lt (hC : Cx Z X own cc nL FR MC MS LO) {x : Int32} {off : Int} (d : decode cc pc = .ok (.ifCond .lt off, 3)) (ht : (pc : Int) + off = (tgt : Int)) (hq : pc + 3 = q) {P N : Prop} (hf : if x < 0 then P else N) (kt : x < 0 → P → V Z X Q nL h L cells slots tgt st) (kf : ¬ x < 0 → N → V Z X Q nL h L cells slots q st) : V Z X Q nL h L cells slots pc (.int x :: st) := by
  subst hq
  exact fun H locs ls a b c => lv_if_lt hC.1 hC.2.1 d ht (fun e => kt e (by rw [if_pos e] at hf; exact hf) H locs ls a b c) (fun e => kf e (by rw [if_neg e] at hf; exact hf) H locs ls a b c)
theorem z_icmp_lt (hC : Cx Z X own cc nL FR MC MS LO) {x y : Int32} {off : Int} (d : decode cc pc = .ok (.if_icmp .lt off, 3)) (ht : (pc : Int) + off = (tgt : Int)) (hq : pc + 3 = q) {P N : Prop} (hf : if x < y then P else N) (kt : x < y → P → V Z X Q nL h L cells slots tgt st) (kf : ¬ x < y → N → V Z X Q nL h L cells slots q st) : V Z X Q nL h L cells slots pc (.int y :: .int x :: st) := by
  subst hq
  exact fun H locs ls a b c => lv_icmp_lt hC.1 hC.2.1 d ht (fun e => kt e (by rw [if_pos e] at hf; exact hf) H locs ls a b c) (fun e => kf e (by rw [if_neg e] at hf; exact hf) H locs ls a b c)
theorem z_if_ge (hC : Cx Z X own cc nL FR MC MS LO) {x : Int32} {off : Int} (d : decode cc pc = .ok (.ifCond .ge off, 3)) (ht : (pc : Int) + off = (tgt : Int)) (hq : pc + 3 = q) {P N : Prop} (hf : if 0 ≤ x then P else N) (kt : 0 ≤ x → P → V Z X Q nL h L cells slots tgt st) (kf : ¬ 0 ≤ x → N → V Z X Q nL h L cells slots q st) : V Z X Q nL h L cells slots pc (.int x :: st) := by
  subst hq
  exact fun H locs ls a b c => lv_if_ge hC.1 hC.2.1 d ht (fun e => kt e (by rw [if_pos e] at hf; exact hf) H locs ls a b c) (fun e => kf e (by rw [if_neg e] at hf; exact hf) H locs ls a b c)
theorem z_icmp_ge (hC : Cx Z X own cc nL FR MC MS LO) {x y : Int32} {off : Int} (d : decode cc pc = .ok (.if_icmp .ge off, 3)) (ht : (pc : Int) + off = (tgt : Int)) (hq : pc + 3 = q) {P N : Prop} (hf : if y ≤ x then P else N) (kt : y ≤ x → P → V Z X Q nL h L cells slots tgt st) (kf : ¬ y ≤ x → N → V Z X Q nL h L cells slots q st) : V Z X Q nL h L cells slots pc (.int y :: .int x :: st) := by
  subst hq
  exact fun H locs ls a b c => lv_icmp_ge hC.1 hC.2.1 d ht (fun e => kt e (by rw [if_pos e] at hf; exact hf) H locs ls a b c) (fun e => kf e (by rw [if_neg e] at hf; exact hf) H locs ls a b c)
theorem z_if_gt (hC : Cx Z X own cc nL FR MC MS LO) {x : Int32} {off : Int} (d : decode cc pc = .ok (.ifCond .gt off, 3)) (ht : (pc : Int) + off = (tgt : Int)) (hq : pc + 3 = q) {P N : Prop} (hf : if 0 < x then P else N) (kt : 0 < x → P → V Z X Q nL h L cells slots tgt st) (kf : ¬ 0 < x → N → V Z X Q nL h L cells slots q st) : V Z X Q nL h L cells slots pc (.int x :: st) := by
  subst hq
  exact fun H locs ls a b c => lv_if_gt hC.1 hC.2.1 d ht (fun e => kt e (by rw [if_pos e] at hf; exact hf) H locs ls a b c) (fun e => kf e (by rw [if_neg e] at hf; exact hf) H locs ls a b c)
theorem z_icmp_gt (hC : Cx Z X own cc nL FR MC MS LO) {x y : Int32} {off : Int} (d : decode cc pc = .ok (.if_icmp .gt off, 3)) (ht : (pc : Int) + off = (tgt : Int)) (hq : pc + 3 = q) {P N : Prop} (hf : if y < x then P else N) (kt : y < x → P → V Z X Q nL h L cells slots tgt st) (kf : ¬ y < x → N → V Z X Q nL h L cells slots q st) : V Z X Q nL h L cells slots pc (.int y :: .int x :: st) := by
  subst hq
  exact fun H locs ls a b c => lv_icmp_gt hC.1 hC.2.1 d ht (fun e => kt e (by rw [if_pos e] at hf; exact hf) H locs ls a b c) (fun e => kf e (by rw [if_neg e] at hf; exact hf) H locs ls a b c)
theorem z_if_le (hC : Cx Z X own cc nL FR MC MS LO) {x : Int32} {off : Int} (d : decode cc pc = .ok (.ifCond .le off, 3)) (ht : (pc : Int) + off = (tgt : Int)) (hq : pc + 3 = q) {P N : Prop} (hf : if x ≤ 0 then P else N) (kt : x ≤ 0 → P → V Z X Q nL h L cells slots tgt st) (kf : ¬ x ≤ 0 → N → V Z X Q nL h L cells slots q st) : V Z X Q nL h L cells slots pc (.int x :: st) := by
  subst hq
  exact fun H locs ls a b c => lv_if_le hC.1 hC.2.1 d ht (fun e => kt e (by rw [if_pos e] at hf; exact hf) H locs ls a b c) (fun e => kf e (by rw [if_neg e] at hf; exact hf) H locs ls a b c)
theorem z_icmp_le (hC : Cx Z X own cc nL FR MC MS LO) {x y : Int32} {off : Int} (d : decode cc pc = .ok (.if_icmp .le off, 3)) (ht : (pc : Int) + off = (tgt : Int)) (hq : pc + 3 = q) {P N : Prop} (hf : if x ≤ y then P else N) (kt : x ≤ y → P → V Z X Q nL h L cells slots tgt st) (kf : ¬ x ≤ y → N → V Z X Q nL h L cells slots q st) : V Z X Q nL h L cells slots pc (.int y :: .int x :: st) := by
  subst hq
  exact fun H locs ls a b c => lv_icmp_le hC.1 hC.2.1 d ht (fun e => kt e (by rw [if_pos e] at hf; exact hf) H locs ls a b c) (fun e => kf e (by rw [if_neg e] at hf; exact hf) H locs ls a b c)
theorem z_acmp_eq (hC : Cx Z X own cc nL FR MC MS LO) {x y : Option Nat} {off : Int} (d : decode cc pc = .ok (.if_acmp .eq off, 3)) (ht : (pc : Int) + off = (tgt : Int)) (hq : pc + 3 = q) {P N : Prop} (hf : if x = y then P else N) (kt : x = y → P → V Z X Q nL h L cells slots tgt st) (kf : ¬ x = y → N → V Z X Q nL h L cells slots q st) : V Z X Q nL h L cells slots pc (va_rf y :: va_rf x :: st) := by
  subst hq
  exact fun H locs ls a b c => lv_acmp_eq hC.1 hC.2.1 d ht (fun e => kt e (by rw [if_pos e] at hf; exact hf) H locs ls a b c) (fun e => kf e (by rw [if_neg e] at hf; exact hf) H locs ls a b c)
theorem z_acmp_ne (hC : Cx Z X own cc nL FR MC MS LO) {x y : Option Nat} {off : Int} (d : decode cc pc = .ok (.if_acmp .ne off, 3)) (ht : (pc : Int) + off = (tgt : Int)) (hq : pc + 3 = q) {P N : Prop} (hf : if x = y then P else N) (kt : ¬ x = y → N → V Z X Q nL h L cells slots tgt st) (kf : x = y → P → V Z X Q nL h L cells slots q st) : V Z X Q nL h L cells slots pc (va_rf y :: va_rf x :: st) := by
  subst hq
  exact fun H locs ls a b c => lv_acmp_ne hC.1 hC.2.1 d ht (fun e => kt e (by rw [if_neg e] at hf; exact hf) H locs ls a b c) (fun e => kf e (by rw [if_pos e] at hf; exact hf) H locs ls a b c)
theorem z_ifnull (hC : Cx Z X own cc nL FR MC MS LO) {x : Option Nat} {off : Int} (d : decode cc pc = .ok (.ifnull off, 3)) (ht : (pc : Int) + off = (tgt : Int)) (hq : pc + 3 = q) {P N : Prop} (hf : nNull x P N) (kt : x = none → P → V Z X Q nL h L cells slots tgt st) (kf : ∀ y, x = some y → N → V Z X Q nL h L cells slots q st) : V Z X Q nL h L cells slots pc (va_rf x :: st) := by
  subst hq
  intro H locs ls a b c
  cases x with
  | none => exact lv_ifnullN hC.1 hC.2.1 d ht (kt rfl hf H locs ls a b c)
  | some y => exact lv_ifnull hC.1 hC.2.1 d (kf y rfl hf H locs ls a b c)
theorem z_ifnonnull (hC : Cx Z X own cc nL FR MC MS LO) {x : Option Nat} {off : Int} (d : decode cc pc = .ok (.ifnonnull off, 3)) (ht : (pc : Int) + off = (tgt : Int)) (hq : pc + 3 = q) {P N : Prop} (hf : nNull x P N) (kt : ∀ y, x = some y → N → V Z X Q nL h L cells slots tgt st) (kf : x = none → P → V Z X Q nL h L cells slots q st) : V Z X Q nL h L cells slots pc (va_rf x :: st) := by
  subst hq
  intro H locs ls a b c
  cases x with
  | none => exact lv_ifnonnullN hC.1 hC.2.1 d (kf rfl hf H locs ls a b c)
  | some y => exact lv_ifnonnull hC.1 hC.2.1 d ht (kt y rfl hf H locs ls a b c)
/-- a class of ours: its place, name, fields -/
def zCT (ci : Nat) (C : String) (T : u_T) (N : Nat) (ty : Nat → FieldType) : Prop := ci < 15 ∧ zcl[ci]? = some (C, T, N) ∧ znf ci = N ∧ (∀ w ∈ u_ws C T N, zq w) ∧ (∀ k, k < N → parseFieldDescriptor (T k).2.2.1 = some (ty k)) ∧ (∀ a, a < N → ∀ b, b < N → a ≠ b → (T a).2.1 ≠ (T b).2.1) ∧ (∀ k, k < N → defaultValue (ty k) = if zr ci k = true then .null else .int 0) ∧ N ≤ 16
/-- an instruction that names a field -/
def zFL (own : String) (idx : Nat) (f : String × String × String × Bool) : Prop := ∃ ref, (f.1 = ref ∨ zq (.sameField ref f.1 f.2.1 f.2.2.1)) ∧ (zq (.fieldLink own idx ref f.2.1 f.2.2.1) ∨ ∃ host, zq (.fieldLinkNest own idx ref f.2.1 f.2.2.1 host))
theorem zFL.same {idx : Nat} {f : String × String × String × Bool} {ref : String} {s : State} (ht : TB s) (h : f.1 = ref ∨ zq (.sameField ref f.1 f.2.1 f.2.2.1)) : ∀ x, s.fieldFound? f.1 f.2.1 f.2.2.1 = some x → s.fieldFound? ref f.2.1 f.2.2.1 = some x := by
  rcases h with h | h
  · rw [h]; exact fun _ q => q
  · exact fun x q => u_same (zq_at ht h #[]) x q
theorem z_field (hC : Cx Z X own cc nL FR MC MS LO) {idx ci a : Nat} {C : String} {T : u_T} {N : Nat} {ty : Nat → FieldType} (ct : zCT ci C T N ty) (k : Nat) (hk : k < N) (fl : zFL own idx (T k)) {H : Heap} {locs : List Loc} {ls : Array Slot} (ob : zOb Z h ci a H) (d : decode cc pc = .ok (.getfield idx, 3))
    (kk : zW X Q H locs cells slots (F0 (zm X) (pc + 3) ls (fv h ci a k :: st))) : zW X Q H locs cells slots (F0 (zm X) pc ls (.ref a :: st)) := by
  obtain ⟨hx, hb, hml, hown, hT, hK, -⟩ := hC
  obtain ⟨-, hc, hnf, hin, hty, hnm, -⟩ := ct
  obtain ⟨ref, hs, hl⟩ := fl
  obtain ⟨cell, q1, q2, q3, q4⟩ := ob
  obtain ⟨hS, hfc, kC, hkC, hkind⟩ := hK.1.1 ci _ hc
  obtain ⟨cf, kf, fi, f, hi, hsl⟩ := hS k hk
  have hst := (u_facts hfc hkC (u_lays (ws := u_ws C T N) (fun w hw => zq_at hT (hin w hw) X.2.2.2.2.2.2.1) (fun _ h => h) hk) hi).1
  have hi2 := zFL.same (idx := idx) hT hs _ hi
  have hv : cell.slots[f.slot]? = some (fv h ci a k) := by rw [hsl]; exact q4 k (by rw [hnf]; exact hk)
  rcases hl with hl | ⟨host, hl⟩
  · exact W.getf hx hb hown (zq_at hT hl _) hi2 hst q1 (by rw [q3]; exact fun h => by cases h) hv rfl rfl d kk
  · exact va_Wgetf hx hb hown (zq_at hT hl _) hi2 hst q1 (by rw [q3]; exact fun h => by cases h) hv rfl rfl d kk
theorem z_getI (hC : Cx Z X own cc nL FR MC MS LO) {idx ci : Nat} {C : String} {T : u_T} {N : Nat} {ty : Nat → FieldType} (ct : zCT ci C T N ty) (k : Nat) (hk : k < N) (fl : zFL own idx (T k)) (hz : zr ci k = false) {x : Option Nat} (d : decode cc pc = .ok (.getfield idx, 3)) (hq : pc + 3 = q) {B : Int32 → Prop} (hf : gI h x ci (16 * ci + k) B) (kk : ∀ v, B v → V Z X Q nL h L cells slots q (.int v :: st)) : V Z X Q nL h L cells slots pc (va_rf x :: st) := by
  subst hq
  intro H locs ls R b c
  obtain ⟨a, rfl, hka, hB⟩ := hf
  refine z_field hC ct k hk fl (R.2.1 a ci ct.1 hka).2 d ?_
  have e : fv h ci a k = .int (hI h (16 * ci + k) a) := by unfold fv; rw [hz]; rfl
  rw [e]
  exact kk _ hB H locs ls R b c
theorem z_getA (hC : Cx Z X own cc nL FR MC MS LO) {idx ci : Nat} {C : String} {T : u_T} {N : Nat} {ty : Nat → FieldType} (ct : zCT ci C T N ty) (k : Nat) (hk : k < N) (fl : zFL own idx (T k)) (hz : zr ci k = true) {x : Option Nat} (d : decode cc pc = .ok (.getfield idx, 3)) (hq : pc + 3 = q) {B : Option Nat → Prop} (hf : gA h x ci (16 * ci + k) B) (kk : ∀ v, B v → V Z X Q nL h L cells slots q (va_rf v :: st)) : V Z X Q nL h L cells slots pc (va_rf x :: st) := by
  subst hq
  intro H locs ls R b c
  obtain ⟨a, rfl, hka, hB⟩ := hf
  refine z_field hC ct k hk fl (R.2.1 a ci ct.1 hka).2 d ?_
  have e : fv h ci a k = va_rf (hA h (16 * ci + k) a) := by unfold fv; rw [hz]; rfl
  rw [e]
  exact kk _ hB H locs ls R b c
/-- a field is written: where it isn't final, or in its own class's constructor -/
theorem z_fput (hC : Cx Z X own cc nL FR MC MS LO) {idx ci a : Nat} {C : String} {T : u_T} {N : Nat} {ty : Nat → FieldType} (ct : zCT ci C T N ty) (k : Nat) (hk : k < N) (fl : zFL own idx (T k)) (hfin : (T k).2.2.2 = false ∨ ((T k).2.2.2 = true ∧ (T k).1 = own ∧ X.2.2.2.2.2.2.2.2.1.name = "<init>")) {v : Value} (hn : narrow (ty k) v = v) (hfit : fits (ty k) v = true) {H : Heap} {locs : List Loc} {ls : Array Slot} (ob : zOb Z h ci a H) (d : decode cc pc = .ok (.putfield idx, 3))
    (kk : ∀ (H1 : Heap) (j : Nat), t_OB a (Z.1.1 ci) (znf ci) (Z.1.2 ci) H1 (updV (fv h ci a) k v) → H1.size = H.size → (∀ q : Nat, q ≠ a → H1[q]? = H[q]?) → zW X Q H1 (locs ++ [⟨a, j⟩]) cells slots (F0 (zm X) (pc + 3) ls st)) : zW X Q H locs cells slots (F0 (zm X) pc ls (v :: .ref a :: st)) := by
  obtain ⟨hx, hb, hml, hown, hT, hK, -⟩ := hC
  obtain ⟨-, hc, hnf, hin, hty, hnm, -⟩ := ct
  obtain ⟨ref, hs, hl⟩ := fl
  obtain ⟨cell, q1, q2, q3, q4⟩ := ob
  have hap := va_apart (own := own) (args := X.2.2.2.2.2.2.1) (Ts := u_ws C T N) (fun w hw => zq_at hT (hin w hw) X.2.2.2.2.2.2.1) (fun _ h => h) ty hty hnm hK.1 hc
  obtain ⟨hS, hfc, kC, hkC, hkind⟩ := hK.1.1 ci _ hc
  obtain ⟨cf, kf, fi, f, hi, hsl⟩ := hS k hk
  have hts : ∀ w ∈ u_ws C T N, w.before X.2.2.2.2.2.2.1 (zs X) = true := fun w hw => zq_at hT (hin w hw) X.2.2.2.2.2.2.1
  have hst := (u_facts hfc hkC (u_lays hts (fun _ h => h) hk) hi).1
  have hlay := hts _ (u_in_lay hk)
  have hi2 := zFL.same (idx := idx) hT hs _ hi
  have h6 := u_fits hfc hkC hkind (u_lays hts (fun _ h => h) hk) hi (hty k hk) hn hfit
  have hfl : hasFlag f.accessFlags Acc.final = false ∨ ((zm X).cls = cf ∧ X.2.2.2.2.2.2.2.2.1.name = "<init>") := by
    rcases hfin with hfin | ⟨hfin, hdecl, hnm2⟩
    · unfold u_lay at hlay
      rw [if_neg (by rw [hfin]; decide)] at hlay
      exact Or.inl (u_store hfc hkC hkind hlay hi (hty k hk) hn hfit).1
    · refine Or.inr ⟨?_, hnm2⟩
      unfold u_lay at hlay
      rw [if_pos hfin] at hlay
      obtain ⟨_, _, c', _, _, _, -, -, hf', -, -, -, hown2, -⟩ := Cond.laysFinal_spec hlay
      have e1 : c' = cf := by have := hi.symm.trans hf'; simp at this; exact this.1.symm
      rw [hdecl] at hown2
      rw [← e1]; exact Option.some.inj (hown.symm.trans hown2)
  have ha : a < H.size := (Array.getElem?_eq_some_iff.mp q1).1
  have hslot : f.slot < cell.slots.size := by rw [hsl]; exact k2_hasslot (q4 k (by rw [hnf]; exact hk))
  have hgo : zW X Q (H.setIfInBounds a (cell.setSlot f.slot v)) (locs ++ [⟨a, f.slot⟩]) cells slots (F0 (zm X) (pc + 3) ls st) := by
    refine kk _ f.slot ⟨cell.setSlot f.slot v, by simp [Array.getElem?_setIfInBounds, ha], q2, q3, ?_⟩ (by simp) (fun q hq => by simp [Array.getElem?_setIfInBounds, Ne.symm hq])
    rw [hsl, hnf]
    exact t_set (fun j hj => q4 j (by rw [hnf]; exact hj)) hap hk v
  rcases hl with hl | ⟨host, hl⟩
  · exact W.putf hx hb hown (zq_at hT hl _) hi2 hst hfl q1 (by rw [q3]; exact fun h => by cases h) hslot h6.1 (by rw [q2, q3]; exact h6.2) rfl rfl d hgo
  · exact va_Wputf hx hb hown (zq_at hT hl _) hi2 hst hfl q1 (by rw [q3]; exact fun h => by cases h) hslot h6.1 (by rw [q2, q3]; exact h6.2) rfl rfl d hgo
theorem zr_lt {ci k : Nat} (hk : k < 16) {cj j : Nat} (hj : j < 16) (e : 16 * ci + k = 16 * cj + j) : ci = cj ∧ k = j := by omega
theorem znf_le : ∀ ci, ci < 15 → znf ci ≤ 16 := by decide
theorem z_putI (hC : Cx Z X own cc nL FR MC MS LO) {idx ci : Nat} {C : String} {T : u_T} {N : Nat} {ty : Nat → FieldType} (ct : zCT ci C T N ty) (k : Nat) (hk : k < N) (fl : zFL own idx (T k)) (hz : zr ci k = false) (hfin : (T k).2.2.2 = false ∨ ((T k).2.2.2 = true ∧ (T k).1 = own ∧ X.2.2.2.2.2.2.2.2.1.name = "<init>")) {v : Int32} (hn : narrow (ty k) (.int v) = .int v ∧ fits (ty k) (.int v) = true) {x : Option Nat} (d : decode cc pc = .ok (.putfield idx, 3)) (hq : pc + 3 = q) {B : AH → Prop} (hf : pI h x ci (16 * ci + k) v B) (kk : ∀ h', B h' → V Z X Q nL h' L cells slots q st) : V Z X Q nL h L cells slots pc (.int v :: va_rf x :: st) := by
  subst hq
  intro H locs ls R b c
  obtain ⟨a, rfl, hka, hB⟩ := hf
  have hk16 : k < 16 := Nat.lt_of_lt_of_le hk ct.2.2.2.2.2.2.2
  refine z_fput hC ct k hk fl hfin hn.1 hn.2 (R.2.1 a ci ct.1 hka).2 d (fun H1 j hob hsz hoq => ?_)
  refine kk _ hB H1 _ ls ?_ (b.put hsz hoq (R.2.1 a ci ct.1 hka).1) c
  refine R.obj hsz hoq ct.1 hka (t_OB.to hob (fun i hi => ?_)) rfl rfl (fun b cj hb => ?_) rfl (fun t b => rfl) (fun b hb => ?_)
  · have hi16 : i < 16 := Nat.lt_of_lt_of_le hi (znf_le ci ct.1)
    by_cases hik : i = k
    · subst hik
      simp only [updV, if_pos]
      unfold fv
      rw [hz]
      simp [sI, hI, u2]
    · simp only [updV, if_neg hik]
      unfold fv
      by_cases hzi : zr ci i = true
      · rw [if_pos hzi, if_pos hzi]; rfl
      · rw [if_neg hzi, if_neg hzi]
        simp [sI, hI, u2, hik]
  · funext i
    unfold fv
    have hne : ¬ (16 * cj + i = 16 * ci + k ∧ b = a) := fun h => hb h.2
    simp only [sI, hI, hA, u2, if_neg hne]
  · refine ⟨rfl, ?_, ?_⟩ <;> simp [sI, hI, u2, hb]
theorem z_putA (hC : Cx Z X own cc nL FR MC MS LO) {idx ci : Nat} {C : String} {T : u_T} {N : Nat} {ty : Nat → FieldType} (ct : zCT ci C T N ty) (k : Nat) (hk : k < N) (fl : zFL own idx (T k)) (hz : zr ci k = true) (hfin : (T k).2.2.2 = false ∨ ((T k).2.2.2 = true ∧ (T k).1 = own ∧ X.2.2.2.2.2.2.2.2.1.name = "<init>")) {v : Option Nat} (hn : narrow (ty k) (va_rf v) = va_rf v ∧ fits (ty k) (va_rf v) = true) {x : Option Nat} (d : decode cc pc = .ok (.putfield idx, 3)) (hq : pc + 3 = q) {B : AH → Prop} (hf : pA h x ci (16 * ci + k) v B) (kk : ∀ h', B h' → V Z X Q nL h' L cells slots q st) : V Z X Q nL h L cells slots pc (va_rf v :: va_rf x :: st) := by
  subst hq
  intro H locs ls R b c
  obtain ⟨a, rfl, hka, hB⟩ := hf
  have hk16 : k < 16 := Nat.lt_of_lt_of_le hk ct.2.2.2.2.2.2.2
  refine z_fput hC ct k hk fl hfin hn.1 hn.2 (R.2.1 a ci ct.1 hka).2 d (fun H1 j hob hsz hoq => ?_)
  refine kk _ hB H1 _ ls ?_ (b.put hsz hoq (R.2.1 a ci ct.1 hka).1) c
  refine R.obj hsz hoq ct.1 hka (t_OB.to hob (fun i hi => ?_)) rfl rfl (fun b cj hb => ?_) rfl (fun t b => rfl) (fun b hb => ?_)
  · have hi16 : i < 16 := Nat.lt_of_lt_of_le hi (znf_le ci ct.1)
    by_cases hik : i = k
    · subst hik
      simp only [updV, if_pos]
      unfold fv
      rw [hz]
      simp [sA, hA, u2]
    · simp only [updV, if_neg hik]
      unfold fv
      by_cases hzi : zr ci i = true
      · rw [if_pos hzi, if_pos hzi]
        simp [sA, hA, u2, hik]
      · rw [if_neg hzi, if_neg hzi]; rfl
  · funext i
    unfold fv
    have hne : ¬ (16 * cj + i = 16 * ci + k ∧ b = a) := fun h => hb h.2
    simp only [sA, hI, hA, u2, if_neg hne]
  · refine ⟨?_, rfl, rfl⟩
    simp [sA, hA, u2, hb]
theorem fits_rf_o {C : String} {x : Option Nat} : narrow (.object C) (va_rf x) = va_rf x ∧ fits (.object C) (va_rf x) = true := by cases x <;> exact ⟨rfl, rfl⟩
theorem fits_rf_a {t : FieldType} {x : Option Nat} : narrow (.array t) (va_rf x) = va_rf x ∧ fits (.array t) (va_rf x) = true := by cases x <;> exact ⟨rfl, rfl⟩
theorem fits_I {v : Int32} : narrow .int (.int v) = .int v ∧ fits .int (.int v) = true := ⟨rfl, rfl⟩
theorem fits_Z {v : Int32} (h : v = 0 ∨ v = 1) : narrow .boolean (.int v) = .int v ∧ fits .boolean (.int v) = true := by rcases h with rfl | rfl <;> exact ⟨rfl, rfl⟩
/-- an object comes -/
theorem z_new (hC : Cx Z X own cc nL FR MC MS LO) {idx ci : Nat} {C : String} {T : u_T} {N : Nat} {ty : Nat → FieldType} (ct : zCT ci C T N ty) (w1 : zq (.classLink own idx C)) (w2 : zq (.instantiable C N)) (w3 : zq (.initialized C)) (d : decode cc pc = .ok (.new idx, 3)) (hq : pc + 3 = q) (hc : cells + 1 ≤ MC) (hs : slots + N ≤ MS) {B : Option Nat → AH → Prop} (hf : nnew h ci B) (kk : ∀ x h', B x h' → V Z X Q nL h' L (cells + 1) (slots + N) q (va_rf x :: st)) : V Z X Q nL h L cells slots pc st := by
  subst hq
  intro H locs ls R b c
  have hC0 := hC
  obtain ⟨hx, hb, hml, hown, hT, hK, -, -, hb0, -, hRm⟩ := hC
  obtain ⟨hci, hcl, hnf, hin, hty, hnm, hdf, -⟩ := ct
  have hKn := hK.1.1 ci _ hcl
  refine W.newcK hx hb hown (zq_at hT w1 _) (zq_at hT w2 _) (zq_at hT w3 _) rfl d (by rw [hRm]; exact hc) (by rw [hRm]; exact hs) hKn.2.1 rfl fun H1 kC hkC e1 z1 o1 => ?_
  have hN : hN h = H.size := R.1
  have kv := kk _ _ hf H1 locs ls ?_ ⟨Nat.le_trans b.1 (by omega), fun x h1 h2 => (o1 x (Nat.lt_of_lt_of_le h1 b.1)).trans (b.2.1 x h1 h2), b.2.2⟩ c
  · rw [hN] at kv; exact kv
  · have hts : ∀ w ∈ u_ws C T N, w.before X.2.2.2.2.2.2.1 (zs X) = true := fun w hw => zq_at hT (hin w hw) X.2.2.2.2.2.2.1
    have born := u_born ty hts (fun _ h => h) hKn hkC e1 hty
    refine R.new (q := ci + 1) z1 o1 (by omega) (Nat.le_trans hb0 b.1) rfl rfl (fun b cj hb => ?_) (fun b hb => rfl) (fun b t hb => rfl) (fun b hb => ?_) (fun cj hcj e => ?_) (fun t ht e => by omega) (Or.inl (by omega))
    · funext i
      unfold fv
      simp only [nO, hI, hA, if_neg hb]
    · refine ⟨?_, ?_, ?_⟩ <;> simp [nO, hI, hA, hb]
    · have : cj = ci := by omega
      subst this
      unfold zOb
      rw [hnf, hN]
      refine t_OB.to born (fun i hi => ?_)
      rw [hdf i hi]
      unfold fv
      by_cases hzi : zr cj i = true
      · rw [if_pos hzi, if_pos hzi]; simp [nO, hA, hN, va_rf]
      · rw [if_neg hzi, if_neg hzi]; simp [nO, hI, hN]
theorem vp_in_lt {i : Int32} {n : Nat} (h : vp_in i n) : i.toNatClampNeg < n := Nat.not_le.mp fun q => h (Or.inr q)
theorem isR_ar {t a : Nat} (ht : t < 12) {H : Heap} (R : zRep Z (zs X) h H) (hk : isR h a t) : zAR (zs X) t (hL h a) (av h t a) a H := by
  rcases hk with hk | hk
  · exact (R.2.2.1 a t ht hk).2.1
  · exact (R.2.2.2.1 a t ht hk).1
theorem z_iald (hC : Cx Z X own cc nL FR MC MS LO) {x : Option Nat} {i : Int32} (d : decode cc pc = .ok (.iaload, 1)) (hq : pc + 1 = q) {B : Int32 → Prop} (hf : lI h x 0 i B) (kk : ∀ v, B v → V Z X Q nL h L cells slots q (.int v :: st)) : V Z X Q nL h L cells slots pc (.int i :: va_rf x :: st) := by
  subst hq
  intro H locs ls R b c
  obtain ⟨a, rfl, hka, hin, hB⟩ := hf
  obtain ⟨cell, q1, q2, q3, q4, q5⟩ := isR_ar (by decide) R hka
  exact W.iald (v := .int (aI h a i.toNatClampNeg)) hC.1 hC.2.1 q1 q2 q3 (by rw [q4]; exact hin) (q5 _ (vp_in_lt hin)) rfl rfl d (kk _ hB H locs ls R b c)
theorem z_zald (hC : Cx Z X own cc nL FR MC MS LO) {x : Option Nat} {i : Int32} (d : decode cc pc = .ok (.baload, 1)) (hq : pc + 1 = q) {B : Int32 → Prop} (hf : lI h x 1 i B) (kk : ∀ v, B v → V Z X Q nL h L cells slots q (.int v :: st)) : V Z X Q nL h L cells slots pc (.int i :: va_rf x :: st) := by
  subst hq
  intro H locs ls R b c
  obtain ⟨a, rfl, hka, hin, hB⟩ := hf
  obtain ⟨cell, q1, q2, q3, q4, q5⟩ := isR_ar (by decide) R hka
  exact W.zald (v := .int (aI h a i.toNatClampNeg)) hC.1 hC.2.1 q1 q2 q3 (by rw [q4]; exact hin) (q5 _ (vp_in_lt hin)) rfl rfl d (kk _ hB H locs ls R b c)
theorem z_bald (hC : Cx Z X own cc nL FR MC MS LO) {x : Option Nat} {i : Int32} (d : decode cc pc = .ok (.baload, 1)) (hq : pc + 1 = q) {B : Int32 → Prop} (hf : lI h x 4 i B) (kk : ∀ v, B v → V Z X Q nL h L cells slots q (.int v :: st)) : V Z X Q nL h L cells slots pc (.int i :: va_rf x :: st) := by
  subst hq
  intro H locs ls R b c
  obtain ⟨a, rfl, hka, hin, hB⟩ := hf
  obtain ⟨cell, q1, q2, q3, q4, q5⟩ := isR_ar (by decide) R hka
  exact W.bald (v := .int (aI h a i.toNatClampNeg)) hC.1 hC.2.1 q1 q2 q3 (by rw [q4]; exact hin) (q5 _ (vp_in_lt hin)) rfl rfl d (kk _ hB H locs ls R b c)
theorem z_lald (hC : Cx Z X own cc nL FR MC MS LO) {x : Option Nat} {i : Int32} (d : decode cc pc = .ok (.laload, 1)) (hq : pc + 1 = q) {B : Int64 → Prop} (hf : lJ h x i B) (kk : ∀ v, B v → V Z X Q nL h L cells slots q (.long v :: st)) : V Z X Q nL h L cells slots pc (.int i :: va_rf x :: st) := by
  subst hq
  intro H locs ls R b c
  obtain ⟨a, rfl, hka, hin, hB⟩ := hf
  obtain ⟨cell, q1, q2, q3, q4, q5⟩ := isR_ar (t := 2) (by decide) R (Or.inl hka)
  exact W.lald (v := .long (aJ h a i.toNatClampNeg)) hC.1 hC.2.1 q1 q2 q3 (by rw [q4]; exact hin) (q5 _ (vp_in_lt hin)) rfl rfl d (kk _ hB H locs ls R b c)
theorem z_dald (hC : Cx Z X own cc nL FR MC MS LO) {x : Option Nat} {i : Int32} (d : decode cc pc = .ok (.daload, 1)) (hq : pc + 1 = q) {B : UInt64 → Prop} (hf : lD h x i B) (kk : ∀ v, B v → V Z X Q nL h L cells slots q (.double v :: st)) : V Z X Q nL h L cells slots pc (.int i :: va_rf x :: st) := by
  subst hq
  intro H locs ls R b c
  obtain ⟨a, rfl, hka, hin, hB⟩ := hf
  obtain ⟨cell, q1, q2, q3, q4, q5⟩ := isR_ar (t := 3) (by decide) R (Or.inl hka)
  exact W.dald (v := .double (aD h a i.toNatClampNeg)) hC.1 hC.2.1 q1 q2 q3 (by rw [q4]; exact hin) (q5 _ (vp_in_lt hin)) rfl rfl d (kk _ hB H locs ls R b c)
theorem zty_ref : ∀ t, 5 ≤ t → t < 12 → (zty t).isReference = true := by
  intro t h1 h2
  have : t = 5 ∨ t = 6 ∨ t = 7 ∨ t = 8 ∨ t = 9 ∨ t = 10 ∨ t = 11 := by omega
  rcases this with rfl | rfl | rfl | rfl | rfl | rfl | rfl <;> rfl
theorem z_aald (hC : Cx Z X own cc nL FR MC MS LO) (t : Nat) (ht : 5 ≤ t ∧ t < 12) {x : Option Nat} {i : Int32} (d : decode cc pc = .ok (.aaload, 1)) (hq : pc + 1 = q) {B : Option Nat → Prop} (hf : lA h x t i B) (kk : ∀ v, B v → V Z X Q nL h L cells slots q (va_rf v :: st)) : V Z X Q nL h L cells slots pc (.int i :: va_rf x :: st) := by
  subst hq
  intro H locs ls R b c
  obtain ⟨a, rfl, hka, hin, hB⟩ := hf
  obtain ⟨cell, q1, q2, q3, q4, q5⟩ := isR_ar ht.2 R hka
  have e : av h t a i.toNatClampNeg = va_rf (aA h a i.toNatClampNeg) := by
    unfold av
    rw [if_neg (by omega), if_neg (by omega), if_pos ht.1]
  exact W.aald (v := va_rf (aA h a i.toNatClampNeg)) hC.1 hC.2.1 q1 q2 (zty_ref t ht.1 ht.2) q3 (by rw [q4]; exact hin) (by rw [← e]; exact q5 _ (vp_in_lt hin)) rfl rfl d (kk _ hB H locs ls R b c)
theorem z_alen (hC : Cx Z X own cc nL FR MC MS LO) (t : Nat) (ht : t < 12) {x : Option Nat} (d : decode cc pc = .ok (.arraylength, 1)) (hq : pc + 1 = q) {B : Int32 → Prop} (hf : aLen h x t B) (kk : ∀ v, B v → V Z X Q nL h L cells slots q (.int v :: st)) : V Z X Q nL h L cells slots pc (va_rf x :: st) := by
  subst hq
  intro H locs ls R b c
  obtain ⟨a, rfl, hka, hB⟩ := hf
  obtain ⟨cell, q1, q2, q3, q4, q5⟩ := isR_ar ht R hka
  exact W.alen (n := nI (hL h a)) hC.1 hC.2.1 q1 q2 (by rw [q4]; rfl) rfl rfl d (kk _ hB H locs ls R b c)
theorem zAR_set {s : State} {t n a j : Nat} {val val' : Nat → Value} {cell : Cell} {v : Value} {H1 : Heap} (q2 : s.isArrayOf cell (zty t)) (q3 : cell.vm ≠ .unknown) (q4 : cell.slots.size = n) (q5 : ∀ i, i < n → cell.slots[i]? = some (val i)) (hj : j < n) (e : H1[a]? = some (cell.setSlot j v)) (h1 : val' j = v) (h2 : ∀ i, i ≠ j → val' i = val i) : zAR s t n val' a H1 := by
  refine ⟨_, e, q2, q3, ?_, fun i hi => ?_⟩
  · simp [Cell.setSlot, q4]
  · by_cases hij : i = j
    · subst hij
      rw [Cell.slots_setSlot_self _ (by rw [q4]; exact hj), h1]
    · rw [slot_ne _ _ (fun e => hij e.symm), q5 i hi, h2 i hij]
theorem z_iast (hC : Cx Z X own cc nL FR MC MS LO) {x : Option Nat} {i v : Int32} (d : decode cc pc = .ok (.iastore, 1)) (hq : pc + 1 = q) {B : AH → Prop} (hf : stI h x 0 i v B) (kk : ∀ h', B h' → V Z X Q nL h' L cells slots q st) : V Z X Q nL h L cells slots pc (.int v :: .int i :: va_rf x :: st) := by
  subst hq
  intro H locs ls R b c
  obtain ⟨a, rfl, hka, hin, hB⟩ := hf
  obtain ⟨hba, ⟨cell, q1, q2, q3, q4, q5⟩, cell2, w1, w2⟩ := R.2.2.1 a 0 (by decide) hka
  cases q1.symm.trans w1
  refine W.iast hC.1 hC.2.1 q1 q2 q3 (by rw [q4]; exact hin) rfl rfl d fun H1 e z oq => ?_
  refine kk _ hB H1 _ ls (R.arr z oq (t := 0) (by decide) hka (zAR_set q2 q3 q4 q5 (vp_in_lt hin) e ?_ ?_) ⟨_, e, w2⟩ rfl rfl (fun ci b => rfl) rfl (fun b t hb => ?_) ⟨rfl, rfl⟩) (b.put z oq hba) c
  · simp [av, tI, aI, u2]
  · intro j hj; simp [av, tI, aI, u2, hj]
  · funext j; simp [av, tI, aI, aJ, aD, aA, u2, hb]
theorem z_zast (hC : Cx Z X own cc nL FR MC MS LO) {x : Option Nat} {i v : Int32} (d : decode cc pc = .ok (.bastore, 1)) (hq : pc + 1 = q) {B : AH → Prop} (hf : okZ v (stI h x 1 i v B)) (kk : ∀ h', B h' → V Z X Q nL h' L cells slots q st) : V Z X Q nL h L cells slots pc (.int v :: .int i :: va_rf x :: st) := by
  subst hq
  intro H locs ls R b c
  obtain ⟨hv, a, rfl, hka, hin, hB⟩ := hf
  obtain ⟨hba, ⟨cell, q1, q2, q3, q4, q5⟩, cell2, w1, w2⟩ := R.2.2.1 a 1 (by decide) hka
  cases q1.symm.trans w1
  refine W.zast hC.1 hC.2.1 q1 q2 q3 (by rw [q4]; exact hin) rfl rfl d fun H1 e z oq => ?_
  refine kk _ hB H1 _ ls (R.arr z oq (t := 1) (by decide) hka (zAR_set q2 q3 q4 q5 (vp_in_lt hin) e ?_ ?_) ⟨_, e, w2⟩ rfl rfl (fun ci b => rfl) rfl (fun b t hb => ?_) ⟨rfl, rfl⟩) (b.put z oq hba) c
  · rcases hv with rfl | rfl <;> simp [av, tI, aI, u2, narrow]
  · intro j hj; simp [av, tI, aI, u2, hj]
  · funext j; simp [av, tI, aI, aJ, aD, aA, u2, hb]
theorem z_last (hC : Cx Z X own cc nL FR MC MS LO) {x : Option Nat} {i : Int32} {v : Int64} (d : decode cc pc = .ok (.lastore, 1)) (hq : pc + 1 = q) {B : AH → Prop} (hf : stJ h x i v B) (kk : ∀ h', B h' → V Z X Q nL h' L cells slots q st) : V Z X Q nL h L cells slots pc (.long v :: .int i :: va_rf x :: st) := by
  subst hq
  intro H locs ls R b c
  obtain ⟨a, rfl, hka, hin, hB⟩ := hf
  obtain ⟨hba, ⟨cell, q1, q2, q3, q4, q5⟩, cell2, w1, w2⟩ := R.2.2.1 a 2 (by decide) hka
  cases q1.symm.trans w1
  refine W.last hC.1 hC.2.1 q1 q2 q3 (by rw [q4]; exact hin) rfl rfl d fun H1 e z oq => ?_
  refine kk _ hB H1 _ ls (R.arr z oq (t := 2) (by decide) hka (zAR_set q2 q3 q4 q5 (vp_in_lt hin) e ?_ ?_) ⟨_, e, w2⟩ rfl rfl (fun ci b => rfl) rfl (fun b t hb => ?_) ⟨rfl, rfl⟩) (b.put z oq hba) c
  · simp [av, tJ, aJ, u2]
  · intro j hj; simp [av, tJ, aJ, u2, hj]
  · funext j; simp [av, tJ, aI, aJ, aD, aA, u2, hb]
theorem z_dast (hC : Cx Z X own cc nL FR MC MS LO) {x : Option Nat} {i : Int32} {v : UInt64} (d : decode cc pc = .ok (.dastore, 1)) (hq : pc + 1 = q) {B : AH → Prop} (hf : stD h x i v B) (kk : ∀ h', B h' → V Z X Q nL h' L cells slots q st) : V Z X Q nL h L cells slots pc (.double v :: .int i :: va_rf x :: st) := by
  subst hq
  intro H locs ls R b c
  obtain ⟨a, rfl, hka, hin, hB⟩ := hf
  obtain ⟨hba, ⟨cell, q1, q2, q3, q4, q5⟩, cell2, w1, w2⟩ := R.2.2.1 a 3 (by decide) hka
  cases q1.symm.trans w1
  refine W.dast hC.1 hC.2.1 q1 q2 q3 (by rw [q4]; exact hin) rfl rfl d fun H1 e z oq => ?_
  refine kk _ hB H1 _ ls (R.arr z oq (t := 3) (by decide) hka (zAR_set q2 q3 q4 q5 (vp_in_lt hin) e ?_ ?_) ⟨_, e, w2⟩ rfl rfl (fun ci b => rfl) rfl (fun b t hb => ?_) ⟨rfl, rfl⟩) (b.put z oq hba) c
  · simp [av, tD, aD, u2]
  · intro j hj; simp [av, tD, aD, u2, hj]
  · funext j; simp [av, tD, aI, aJ, aD, aA, u2, hb]
/-- an object goes into an array of its class, or of a class above it -/
theorem z_aast (hC : Cx Z X own cc nL FR MC MS LO) {ci t : Nat} {C E : String} {T : u_T} {N : Nat} {ty : Nat → FieldType} (ct : zCT ci C T N ty) (ht : 5 ≤ t ∧ t < 12) (hE : zty t = .object E) (ha : C = E ∨ (E = "java/lang/Object" ∧ zq (.castable C E))) {x y : Option Nat} {i : Int32} (d : decode cc pc = .ok (.aastore, 1)) (hq : pc + 1 = q) {B : AH → Prop} (hf : stA h x t i y ci B) (kk : ∀ h', B h' → V Z X Q nL h' L cells slots q st) : V Z X Q nL h L cells slots pc (va_rf y :: .int i :: va_rf x :: st) := by
  subst hq
  intro H locs ls R b c
  obtain ⟨a, b1, rfl, hka, hin, rfl, hkb, hB⟩ := hf
  obtain ⟨hba, ⟨cell, q1, q2, q3, q4, q5⟩, cell2, w1, w2⟩ := R.2.2.1 a t ht.2 hka
  cases q1.symm.trans w1
  have w0 := w2
  rw [hE] at w2
  obtain ⟨kA, comp, k1, k2, k3, -⟩ := w2
  obtain ⟨cellV, g1, g2, g3, -⟩ := (R.2.1 b1 ci ct.1 hkb).2
  have hcls := (hC.2.2.2.2.2.1.1.1 ci _ ct.2.1).2
  obtain ⟨kC, hkC, -⟩ := hcls.2
  have hasg : (zs X).vm.assignable cellV.cls comp = true := by
    rw [g2]
    rcases ha with ha | ha
    · subst ha
      have hcomp : comp = Z.1.1 ci := Option.some.inj (k3.symm.trans hcls.1)
      rw [hcomp]
      exact va_assign hcls
    · obtain ⟨c0, t0, f1, f2, f3⟩ := Cond.castable_spec (zq_at hC.2.2.2.2.1 ha.2 X.2.2.2.2.2.2.1)
      cases hcls.1.symm.trans f1
      cases k3.symm.trans f2
      exact f3
  have hkc : ∃ kcomp, (zs X).vm.classes[comp]? = some kcomp := by
    rcases ha with ha | ha
    · subst ha
      have hcomp : comp = Z.1.1 ci := Option.some.inj (k3.symm.trans hcls.1)
      rw [hcomp]
      exact ⟨kC, hkC⟩
    · obtain ⟨cO, kO, o1, o2⟩ := hC.2.2.2.2.2.1.2.2.2
      rw [ha.1] at k3
      cases k3.symm.trans o1
      exact ⟨kO, o2⟩
  obtain ⟨kcomp, hkc⟩ := hkc
  have h0 : ¬ i < 0 := fun q => hin (Or.inl q)
  refine W.aast hC.1 hC.2.1 q1 q2.1 q3 k1 k2 rfl hkc ⟨h0, by rw [q4]; exact vp_in_lt hin⟩ g1 (fun q h => by rw [g3] at h; cases h) (by rw [g2]; exact hkC) hasg rfl rfl d fun H1 e z oq => ?_
  refine kk _ hB H1 _ ls (R.arr z oq ht.2 hka (zAR_set q2 q3 q4 q5 (vp_in_lt hin) e ?_ ?_) ⟨_, e, w0⟩ rfl rfl (fun ci b => rfl) rfl (fun b t hb => ?_) ⟨rfl, rfl⟩) (b.put z oq hba) c
  · unfold av
    rw [if_neg (by omega), if_neg (by omega), if_pos ht.1]
    simp [tA, aA, u2, va_rf]
  · intro j hj; simp [av, tA, aA, aI, aJ, aD, u2, hj]
  · funext j; simp [av, tA, aI, aJ, aD, aA, u2, hb]
/-- an array comes -/
theorem zAR_new {s : State} {cA : ClassId} {t n a : Nat} {H1 : Heap} {dv : Value} {val : Nat → Value} (e : H1[a]? = some (arrV cA n (fun _ => dv))) (hA : ArrOfT s cA (zty t)) (hv : ∀ j, val j = dv) : zAR s t n val a H1 := by
  refine ⟨_, e, hA n _, fun h => (by cases h), arrV_size _ _ _, fun j hj => ?_⟩
  rw [arrV_read _ _ hj, hv]
theorem z_newa (hC : Cx Z X own cc nL FR MC MS LO) {atype : ArrayType} (t : Nat) (ht : t < 5) (hty : newarray.typeOf atype = zty t) (w : zq (.arrayClass (newarray.typeOf atype))) {n : Int32} {N : Nat} (hn : ¬ n < 0) (hN2 : n.toNatClampNeg = N) (hbytes : N * componentBytes (newarray.typeOf atype) ≤ 536870912) (d : decode cc pc = .ok (.newarray atype, 2)) (hq : pc + 2 = q) (hc : cells + 1 ≤ MC) (hs : slots + N ≤ MS) {B : Option Nat → AH → Prop} (hf : nrow h t N B) (kk : ∀ x h', B x h' → V Z X Q nL h' L (cells + 1) (slots + N) q (va_rf x :: st)) : V Z X Q nL h L cells slots pc (.int n :: st) := by
  subst hq
  intro H locs ls R b c
  obtain ⟨hx, hb, hml, hown, hT, hK, -, -, hb0, -, hRm⟩ := hC
  refine va_newaK hx hb (zq_at hT w _) rfl d rfl hn hN2 hbytes (by rw [hRm]; exact hc) (by rw [hRm]; exact hs) rfl fun H1 cA e1 z1 o1 hAr hnm => ?_
  have hN : hN h = H.size := R.1
  have kv := kk _ _ hf H1 locs ls ?_ ⟨Nat.le_trans b.1 (by omega), fun x h1 h2 => (o1 x (Nat.lt_of_lt_of_le h1 b.1)).trans (b.2.1 x h1 h2), b.2.2⟩ c
  · rw [hN] at kv; exact kv
  · refine R.new (q := 30 + t) z1 o1 (by omega) (Nat.le_trans hb0 b.1) rfl rfl (fun b cj hb => rfl) (fun b hb => ?_) (fun b t hb => ?_) (fun b hb => ⟨rfl, rfl, rfl⟩) (fun cj hcj e => by omega) (fun t2 ht2 e => ?_) (Or.inr (by omega))
    · simp [nR, hL, u1, hb]
    · funext j; simp [av, nR, aI, aA, aJ, aD, hb]
    · have : t2 = t := by omega
      subst this
      rw [hN, show hL (nR h t2 N) H.size = N by simp [nR, hL, u1, hN]]
      rw [hty] at hAr e1 hnm
      refine ⟨zAR_new e1 hAr (fun j => ?_), _, e1, ?_⟩
      · have h5 : t2 = 0 ∨ t2 = 1 ∨ t2 = 2 ∨ t2 = 3 ∨ t2 = 4 := by omega
        rcases h5 with rfl | rfl | rfl | rfl | rfl <;> simp [av, nR, aI, aJ, aD, hN, zty, zat, defaultValue]
      · have h5 : t2 = 0 ∨ t2 = 1 ∨ t2 = 2 ∨ t2 = 3 ∨ t2 = 4 := by omega
        rcases h5 with rfl | rfl | rfl | rfl | rfl <;> exact hnm
theorem z_newq (hC : Cx Z X own cc nL FR MC MS LO) {idx : Nat} {C : String} (t : Nat) (ht : 5 ≤ t ∧ t < 12) (hty : zty t = .object C) (w1 : zq (.classLink own idx C)) (w2 : zq (.arrayOver (.object C))) {n : Int32} {N : Nat} (hn : ¬ n < 0) (hN2 : n.toNatClampNeg = N) (hbytes : N * 4 ≤ 536870912) (d : decode cc pc = .ok (.anewarray idx, 3)) (hq : pc + 3 = q) (hc : cells + 1 ≤ MC) (hs : slots + N ≤ MS) {B : Option Nat → AH → Prop} (hf : nrow h t N B) (kk : ∀ x h', B x h' → V Z X Q nL h' L (cells + 1) (slots + N) q (va_rf x :: st)) : V Z X Q nL h L cells slots pc (.int n :: st) := by
  subst hq
  subst hN2
  intro H locs ls R b c
  obtain ⟨hx, hb, hml, hown, hT, hK, -, -, hb0, -, hRm⟩ := hC
  refine W.anew hx hb hown (zq_at hT w1 _) (zq_at hT w2 _) rfl d rfl hn hbytes (by rw [hRm]; exact hc) (by rw [hRm]; exact hs) fun cA kA comp f1 f2 f3 f4 => ?_
  have hN : hN h = H.size := R.1
  generalize hH1 : H.push ({ cls := cA, slots := Array.replicate n.toNatClampNeg .null, vm := .none } : Cell) = H1
  have z1 : H1.size = H.size + 1 := by rw [← hH1, Array.size_push]
  have e1 : H1[H.size]? = some (arrV cA n.toNatClampNeg (fun _ => .null)) := by rw [← hH1, Array.getElem?_push_size, ← arrV_new]
  have o1 : ∀ q : Nat, q < H.size → H1[q]? = H[q]? := fun q hq => by rw [← hH1, Array.getElem?_push, if_neg (Nat.ne_of_lt hq)]
  have hAr : ArrOfT (zs X) cA (.object C) := fun N z => ⟨(fun k h => by cases h), kA, f2, comp, f3⟩
  have kv := kk _ _ hf H1 locs ls ?_ ⟨Nat.le_trans b.1 (by omega), fun x h1 h2 => (o1 x (Nat.lt_of_lt_of_le h1 b.1)).trans (b.2.1 x h1 h2), b.2.2⟩ c
  · rw [hN] at kv; exact kv
  · refine R.new (q := 30 + t) z1 o1 (by omega) (Nat.le_trans hb0 b.1) rfl rfl (fun b cj hb => rfl) (fun b hb => ?_) (fun b t hb => ?_) (fun b hb => ⟨rfl, rfl, rfl⟩) (fun cj hcj e => by omega) (fun t2 ht2 e => ?_) (Or.inr (by omega))
    · simp [nR, hL, u1, hb]
    · funext j; simp [av, nR, aI, aA, aJ, aD, hb]
    · have : t2 = t := by omega
      subst this
      rw [hN, show hL (nR h t2 n.toNatClampNeg) H.size = n.toNatClampNeg by simp [nR, hL, u1, hN]]
      refine ⟨zAR_new e1 (by rw [hty]; exact hAr) (fun j => ?_), _, e1, ?_⟩
      · unfold av
        rw [if_neg (by omega), if_neg (by omega), if_pos ht.1]
        simp [nR, aA, hN, va_rf]
      · rw [hty]
        exact ⟨kA, comp, f2, f3, f4, f1⟩
/-- a cast that holds, for what it is -/
theorem z_cast (hC : Cx Z X own cc nL FR MC MS LO) {idx ci : Nat} {C nm : String} {T : u_T} {N : Nat} {ty : Nat → FieldType} (ct : zCT ci C T N ty) (w : zq (.classLink own idx nm)) (hn : C = nm ∨ zq (.castable C nm)) {x : Option Nat} (d : decode cc pc = .ok (.checkcast idx, 3)) (hq : pc + 3 = q) {B : Prop} (hf : cast h x (ci + 1) B) (kk : B → V Z X Q nL h L cells slots q (va_rf x :: st)) : V Z X Q nL h L cells slots pc (va_rf x :: st) := by
  subst hq
  intro H locs ls R b c
  obtain ⟨a, rfl, hka, hB⟩ := hf
  obtain ⟨cell, q1, q2, q3, -⟩ := (R.2.1 a ci ct.1 hka).2
  have hcls := (hC.2.2.2.2.2.1.1.1 ci _ ct.2.1).2
  rcases hn with hn | hn
  · subst hn
    exact va_castS hC.1 hC.2.1 hC.2.2.2.1 (zq_at hC.2.2.2.2.1 w _) hcls ⟨cell, q1, by rw [q3]; rfl, by rw [q2]; exact hcls.1⟩ d (kk hB H locs ls R b c)
  · exact va_castY hC.1 hC.2.1 hC.2.2.2.1 (zq_at hC.2.2.2.2.1 w _) (va_Nw.of rfl (zq_at hC.2.2.2.2.1 hn X.2.2.2.2.2.2.1)) ⟨cell, q1, by rw [q3]; rfl, by rw [q2]; exact hcls.1⟩ d (kk hB H locs ls R b c)
theorem z_castInt (hC : Cx Z X own cc nL FR MC MS LO) {idx : Nat} (w : zq (.classLink own idx "java/lang/Integer")) {x : Option Nat} (d : decode cc pc = .ok (.checkcast idx, 3)) (hq : pc + 3 = q) {B : Prop} (hf : cast h x 21 B) (kk : B → V Z X Q nL h L cells slots q (va_rf x :: st)) : V Z X Q nL h L cells slots pc (va_rf x :: st) := by
  subst hq
  intro H locs ls R b c
  obtain ⟨a, rfl, hka, hB⟩ := hf
  obtain ⟨cell, q1, q2, q3, -⟩ := (R.2.2.2.2.2.1 a hka).1
  obtain ⟨cI, hI⟩ := hC.2.2.2.2.2.1.2.1
  exact va_castS hC.1 hC.2.1 hC.2.2.2.1 (zq_at hC.2.2.2.2.1 w _) hI ⟨cell, q1, q2, q3⟩ d (kk hB H locs ls R b c)
/-- statics that nobody writes -/
theorem z_gets (hC : Cx Z X own cc nL FR MC MS LO) {idx : Nat} {C n dd : String} {v : Value} (hz : va_Z C n dd v (zA Z) (zs X) (zs X).heap) (w : zq (.fieldLink own idx C n dd) ∨ ∃ host, zq (.fieldLinkNest own idx C n dd host)) (d : decode cc pc = .ok (.getstatic idx, 3)) (hq : pc + 3 = q) (kk : V Z X Q nL h L cells slots q (v :: st)) : V Z X Q nL h L cells slots pc st := by
  subst hq
  intro H locs ls R b c
  rcases w with w | ⟨host, w⟩
  · exact va_gets hC.1 hC.2.1 hz b hC.2.2.2.1 (zq_at hC.2.2.2.2.1 w _) (fun _ h => h) d (kk H locs ls R b c)
  · exact va_getsN hC.1 hC.2.1 hz b hC.2.2.2.1 (zq_at hC.2.2.2.2.1 w _) (fun _ h => h) d (kk H locs ls R b c)
theorem z_ldcS (hC : Cx Z X own cc nL FR MC MS LO) {idx a : Nat} {tx : String} (hz : vk_R own idx tx a (zs X)) (d : decode cc pc = .ok (.ldc idx, 2)) (hq : pc + 2 = q) (kk : V Z X Q nL h L cells slots q (va_rf (some a) :: st)) : V Z X Q nL h L cells slots pc st := by
  subst hq
  exact fun H locs ls R b c => va_ldcS hC.1 hC.2.1 hC.2.2.2.1 hz d (kk H locs ls R b c)
/-- fields of the constant objects -/
theorem z_getSv (hC : Cx Z X own cc nL FR MC MS LO) {idx : Nat} (w : zq (.fieldLink own idx "java/lang/String" "value" "[B")) {x : Option Nat} (d : decode cc pc = .ok (.getfield idx, 3)) (hq : pc + 3 = q) {B : Option Nat → Prop} (hf : gAc h x 20 320 B) (kk : ∀ v, B v → V Z X Q nL h L cells slots q (va_rf v :: st)) : V Z X Q nL h L cells slots pc (va_rf x :: st) := by
  subst hq
  intro H locs ls R b c
  obtain ⟨a, rfl, hka, hB⟩ := hf
  have k := kk _ hB H locs ls R b c
  obtain ⟨-, ⟨cf, kf, fi, f, cell, h1, h2, h3, h4, h5, h6⟩, -⟩ := R.2.2.2.2.1 a hka
  exact W.getf hC.1 hC.2.1 hC.2.2.2.1 (zq_at hC.2.2.2.2.1 w _) h1 h2 h3 (by first | exact h4 | (intro e; rw [e] at h4; cases h4)) h5 rfl rfl d k
theorem z_getSc (hC : Cx Z X own cc nL FR MC MS LO) {idx : Nat} (w : zq (.fieldLink own idx "java/lang/String" "coder" "B")) {x : Option Nat} (d : decode cc pc = .ok (.getfield idx, 3)) (hq : pc + 3 = q) {B : Int32 → Prop} (hf : gIc h x 20 321 B) (kk : ∀ v, B v → V Z X Q nL h L cells slots q (.int v :: st)) : V Z X Q nL h L cells slots pc (va_rf x :: st) := by
  subst hq
  intro H locs ls R b c
  obtain ⟨a, rfl, hka, hB⟩ := hf
  have k := kk _ hB H locs ls R b c
  obtain ⟨-, -, cf, kf, fi, f, cell, h1, h2, h3, h4, h5, h6⟩ := R.2.2.2.2.1 a hka
  exact W.getf hC.1 hC.2.1 hC.2.2.2.1 (zq_at hC.2.2.2.2.1 w _) h1 h2 h3 (by first | exact h4 | (intro e; rw [e] at h4; cases h4)) h5 rfl rfl d k
theorem z_getIv (hC : Cx Z X own cc nL FR MC MS LO) {idx : Nat} (w : zq (.fieldLink own idx "java/lang/Integer" "value" "I")) {x : Option Nat} (d : decode cc pc = .ok (.getfield idx, 3)) (hq : pc + 3 = q) {B : Int32 → Prop} (hf : gIc h x 21 336 B) (kk : ∀ v, B v → V Z X Q nL h L cells slots q (.int v :: st)) : V Z X Q nL h L cells slots pc (va_rf x :: st) := by
  subst hq
  intro H locs ls R b c
  obtain ⟨a, rfl, hka, hB⟩ := hf
  have k := kk _ hB H locs ls R b c
  obtain ⟨-, cf, kf, fi, f, cell, h1, h2, h3, h4, h5, h6⟩ := R.2.2.2.2.2.1 a hka
  exact W.getf hC.1 hC.2.1 hC.2.2.2.1 (zq_at hC.2.2.2.2.1 w _) h1 h2 h3 (by first | exact h4 | (intro e; rw [e] at h4; cases h4)) h5 rfl rfl d k
theorem z_newqK (hC : Cx Z X own cc nL FR MC MS LO) {idx : Nat} {C : String} (t : Nat) (ht : 5 ≤ t ∧ t < 12) (hty : zty t = .object C) (w1 : zq (.classLink own idx C)) (w2 : zq (.arrayOver (.object C))) {n : Int32} {N : Nat} (hN : (nI N).toNatClampNeg = N ∧ ¬ nI N < 0) (hbytes : N * 4 ≤ 536870912) (d : decode cc pc = .ok (.anewarray idx, 3)) (hq : pc + 3 = q) (hc : cells + 1 ≤ MC) (hs : slots + N ≤ MS) {B : Option Nat → AH → Prop} (hf : n = nI N ∧ nrow h t N B) (kk : ∀ x h', B x h' → V Z X Q nL h' L (cells + 1) (slots + N) q (va_rf x :: st)) : V Z X Q nL h L cells slots pc (.int n :: st) := by
  obtain ⟨e, hf⟩ := hf
  subst e
  exact z_newq hC t ht hty w1 w2 hN.2 hN.1 hbytes d hq hc hs hf kk
/-- how a method ends: by its kind -/
abbrev zQi (Z : zT) (K : Int32 → AH → Prop) : Array Value → State → Outcome → State → Prop := va_Qi K (fun u t => zRep Z t u t.heap) (zA Z)
abbrev zQl (Z : zT) (K : Int64 → AH → Prop) : Array Value → State → Outcome → State → Prop := va_Ql K (fun u t => zRep Z t u t.heap) (zA Z)
abbrev zQf (Z : zT) (K : UInt32 → AH → Prop) : Array Value → State → Outcome → State → Prop := va_Qf K (fun u t => zRep Z t u t.heap) (zA Z)
abbrev zQd (Z : zT) (K : UInt64 → AH → Prop) : Array Value → State → Outcome → State → Prop := va_Qd K (fun u t => zRep Z t u t.heap) (zA Z)
abbrev zQv (Z : zT) (K : AH → Prop) : Array Value → State → Outcome → State → Prop := va_Qv K (fun u t => zRep Z t u t.heap) (zA Z)
abbrev zQq (Z : zT) (K : Option Nat → AH → Prop) : Array Value → State → Outcome → State → Prop := va_Qq K (fun u t => zRep Z t u t.heap) (zA Z)
abbrev zXC (Z : zT) (Xf : Nat → AH → Prop) : String → State → State → Prop := vx_X (fun u : Nat × AH => Xf u.1 u.2) (fun E u t => E = zex u.1 ∧ zRep Z t u.2 t.heap) (zA Z)
abbrev zE (Z : zT) (X : zX) (Qc : Array Value → State → Outcome → State → Prop) (mc ms : Nat) : State → Prop := MQ X.2.2.2.2.2.2.2.1 Qc X.2.2.2.2.2.2.1 X.2.2.2.2.1 mc ms (zA Z)
abbrev zEx (Z : zT) (X : zX) (Qc : Array Value → State → Outcome → State → Prop) (Xf : Nat → AH → Prop) (mc ms : Nat) : State → Prop := vx_MQ X.2.2.2.2.2.2.2.1 Qc (zXC Z Xf) X.2.2.2.2.2.2.1 X.2.2.2.2.1 mc ms (zA Z)
theorem V.vx {Qc : Array Value → State → Outcome → State → Prop} {Xf : Nat → AH → Prop} {mc ms : Nat} (k : V Z X (zE Z X Qc mc ms) nL h L cells slots pc st) : V Z X (zEx Z X Qc Xf mc ms) nL h L cells slots pc st := fun H locs ls a b c => vx_ret (k H locs ls a b c)
theorem z_iret (hC : Cx Z X own cc nL FR MC MS LO) {ty : FieldType} (hr : X.2.2.2.2.2.2.2.2.1.sig.returnType = some ty) {v : Int32} (hn : narrow ty (.int v) = .int v) {mc ms : Nat} (hc : cells ≤ mc) (hs : slots ≤ ms) (d : decode cc pc = .ok (.ireturn, 1)) {K : Int32 → AH → Prop} (hf : K v h) : V Z X (zE Z X (zQi Z K) mc ms) nL h L cells slots pc [.int v] := by
  intro H locs ls R b c
  refine W.widen hc hs ?_
  exact W.zret hC.1 hC.2.1 hr hn (fun t ht hW => ⟨⟨v, h, rfl, hf, (show zRep Z t h t.heap by rw [ht]; exact R.moved hW.alike)⟩, b.F ht⟩) b.2.2 d (hlocks := hC.2.2.2.2.2.2.2.1)
theorem z_aret (hC : Cx Z X own cc nL FR MC MS LO) {rt : FieldType} (hr : X.2.2.2.2.2.2.2.2.1.sig.returnType = some rt) (hrt : (∃ n, rt = .object n) ∨ ∃ t, rt = .array t) {v : Option Nat} {mc ms : Nat} (hc : cells ≤ mc) (hs : slots ≤ ms) (d : decode cc pc = .ok (.areturn, 1)) {K : Option Nat → AH → Prop} (hf : K v h) : V Z X (zE Z X (zQq Z K) mc ms) nL h L cells slots pc [va_rf v] := by
  intro H locs ls R b c
  refine W.widen hc hs ?_
  exact W.aret hC.1 hC.2.1 hr hrt (by cases v with | none => exact Or.inl rfl | some y => exact Or.inr ⟨y, rfl⟩) (fun t ht hW => ⟨⟨v, h, rfl, hf, (show zRep Z t h t.heap by rw [ht]; exact R.moved hW.alike)⟩, b.F ht⟩) b.2.2 d (hlocks := hC.2.2.2.2.2.2.2.1)
theorem z_vret (hC : Cx Z X own cc nL FR MC MS LO) (hr : X.2.2.2.2.2.2.2.2.1.sig.returnType = none) {mc ms : Nat} (hc : cells ≤ mc) (hs : slots ≤ ms) (d : decode cc pc = .ok (.return_, 1)) {K : AH → Prop} (hf : K h) : V Z X (zE Z X (zQv Z K) mc ms) nL h L cells slots pc [] := by
  intro H locs ls R b c
  refine W.widen hc hs ?_
  exact W.vret hC.1 hC.2.1 hr (fun t ht hW => ⟨⟨h, rfl, hf, (show zRep Z t h t.heap by rw [ht]; exact R.moved hW.alike)⟩, b.F ht⟩) b.2.2 d (hlocks := hC.2.2.2.2.2.2.2.1)
theorem z_lret (hC : Cx Z X own cc nL FR MC MS LO) (hr : X.2.2.2.2.2.2.2.2.1.sig.returnType = some .long) {v : Int64} {mc ms : Nat} (hc : cells ≤ mc) (hs : slots ≤ ms) (d : decode cc pc = .ok (.lreturn, 1)) {K : Int64 → AH → Prop} (hf : K v h) : V Z X (zE Z X (zQl Z K) mc ms) nL h L cells slots pc [.long v] := by
  intro H locs ls R b c
  refine W.widen hc hs ?_
  have hlocks := hC.2.2.2.2.2.2.2.1
  exact W.lret hC.1 hC.2.1 hr (fun t ht hW => ⟨⟨v, h, rfl, hf, (show zRep Z t h t.heap by rw [ht]; exact R.moved hW.alike)⟩, b.F ht⟩) b.2.2 d (hlocks := hlocks)
theorem z_fret (hC : Cx Z X own cc nL FR MC MS LO) (hr : X.2.2.2.2.2.2.2.2.1.sig.returnType = some .float) {v : UInt32} {mc ms : Nat} (hc : cells ≤ mc) (hs : slots ≤ ms) (d : decode cc pc = .ok (.freturn, 1)) {K : UInt32 → AH → Prop} (hf : K v h) : V Z X (zE Z X (zQf Z K) mc ms) nL h L cells slots pc [.float v] := by
  intro H locs ls R b c
  refine W.widen hc hs ?_
  have hlocks := hC.2.2.2.2.2.2.2.1
  exact W.fret hC.1 hC.2.1 hr (fun t ht hW => ⟨⟨v, h, rfl, hf, (show zRep Z t h t.heap by rw [ht]; exact R.moved hW.alike)⟩, b.F ht⟩) b.2.2 d (hlocks := hlocks)
theorem z_dret (hC : Cx Z X own cc nL FR MC MS LO) (hr : X.2.2.2.2.2.2.2.2.1.sig.returnType = some .double) {v : UInt64} {mc ms : Nat} (hc : cells ≤ mc) (hs : slots ≤ ms) (d : decode cc pc = .ok (.dreturn, 1)) {K : UInt64 → AH → Prop} (hf : K v h) : V Z X (zE Z X (zQd Z K) mc ms) nL h L cells slots pc [.double v] := by
  intro H locs ls R b c
  refine W.widen hc hs ?_
  have hlocks := hC.2.2.2.2.2.2.2.1
  exact W.dret hC.1 hC.2.1 hr (fun t ht hW => ⟨⟨v, h, rfl, hf, (show zRep Z t h t.heap by rw [ht]; exact R.moved hW.alike)⟩, b.F ht⟩) b.2.2 d (hlocks := hlocks)
/-- the words of an exception's class in the class that throws it -/
def zEX (own : String) (ik ic e : Nat) : Prop := (zq (.classLink own ik (zex e)) ∧ zq (.initialized (zex e)) ∧ ∀ w ∈ vx_atS own ic (zex e) ["java/lang/RuntimeException", "java/lang/Exception"], zq w) ∧ Bundle.fit (zex e) = true ∧ (∀ n ∈ ["java/lang/RuntimeException", "java/lang/Exception"], Bundle.fit n = true) ∧ ∀ w ∈ Cond.classLink own ik (zex e) :: Cond.initialized (zex e) :: vx_atS own ic (zex e) ["java/lang/RuntimeException", "java/lang/Exception"], vx_ot w = true
theorem z_thr (hC : Cx Z X own cc nL FR MC MS LO) (hno : ∀ x ∈ (zc X).exceptionTable.toList, False) {e ik is ic : Nat} {tx : String} (hw : zEX own ik ic e) (htx : (own, is, tx) ∈ ztx) (d0 : decode cc pc = .ok (.new ik, 3)) (d3 : decode cc (pc + 3) = .ok (.dup, 1)) (d4 : decode cc (pc + 4) = .ok (.ldc is, 2)) (d6 : decode cc (pc + 6) = .ok (.invokespecial ic, 3)) (d9 : decode cc (pc + 9) = .ok (.athrow, 1))
    (hst : (st.map fun v => v.category).sum ≤ 8) (hfr : 5 < FR) (hlo : 90 ≤ LO) (hc : cells + 1 ≤ MC) (hs : slots + 6 ≤ MS) {Qc : Array Value → State → Outcome → State → Prop} {Xf : Nat → AH → Prop} (hf : thr h e Xf) : V Z X (zEx Z X Qc Xf MC MS) nL h L cells slots pc st := by
  intro H locs ls R b c
  obtain ⟨hx, hb, hml, hown, hT, hK, hS, hlk, hb0, htr, hRm⟩ := hC
  obtain ⟨⟨w1, w2, w3⟩, w4, w5, w6⟩ := hw
  obtain ⟨sa, hsa⟩ := hS.2.2.2.2 _ htx
  refine vx_throwS (sa := sa) (text := tx) (names := ["java/lang/RuntimeException", "java/lang/Exception"]) (A := zA Z) hx hb htr hown w4 w5 (zq_at hT w1 _) (zq_at hT w2 _) hsa (fun w hw => zq_at hT (w3 w hw) _) w6 hS.1.1 hS.1.2 b (by rw [c.1, hml]) d0 d3 d4 d6 d9 (fun x hx => (hno x hx).elim) (by rw [hRm]; exact hfr) (by rw [hRm]; show _ ≤ LO; simp only [List.length_cons, List.length_nil]; omega) (by rw [hRm]; exact hc) (by rw [hRm]; exact hs) hlk ?_ b.2.2 hc hs
  intro t hal hsz hkp
  have hN : hN h ≤ t.heap.size := by rw [R.1]; exact hsz
  exact ⟨(e, bump h t.heap.size), hf _ hN, ⟨rfl, (R.bump hsz hkp).moved hal⟩, Nat.le_trans b.1 hsz, fun q h1 h2 => by rw [hkp q (Nat.lt_of_lt_of_le h1 b.1)]; exact b.2.1 q h1 h2⟩
theorem z_thrW (hC : Cx Z X own cc nL FR MC MS LO) (hno : ∀ x ∈ (zc X).exceptionTable.toList, False) {e ik is ic : Nat} {tx : String} (hw : zEX own ik ic e) (htx : (own, is, tx) ∈ ztx) (d0 : decode cc pc = .ok (.new ik, 3)) (d3 : decode cc (pc + 3) = .ok (.dup, 1)) (d4 : decode cc (pc + 4) = .ok (.ldc_w is, 3)) (d6 : decode cc (pc + 7) = .ok (.invokespecial ic, 3)) (d9 : decode cc (pc + 10) = .ok (.athrow, 1))
    (hst : (st.map fun v => v.category).sum ≤ 8) (hfr : 5 < FR) (hlo : 90 ≤ LO) (hc : cells + 1 ≤ MC) (hs : slots + 6 ≤ MS) {Qc : Array Value → State → Outcome → State → Prop} {Xf : Nat → AH → Prop} (hf : thr h e Xf) : V Z X (zEx Z X Qc Xf MC MS) nL h L cells slots pc st := by
  intro H locs ls R b c
  obtain ⟨hx, hb, hml, hown, hT, hK, hS, hlk, hb0, htr, hRm⟩ := hC
  obtain ⟨⟨w1, w2, w3⟩, w4, w5, w6⟩ := hw
  obtain ⟨sa, hsa⟩ := hS.2.2.2.2 _ htx
  refine vx_throwSW (sa := sa) (text := tx) (names := ["java/lang/RuntimeException", "java/lang/Exception"]) (A := zA Z) hx hb htr hown w4 w5 (zq_at hT w1 _) (zq_at hT w2 _) hsa (fun w hw => zq_at hT (w3 w hw) _) w6 hS.1.1 hS.1.2 b (by rw [c.1, hml]) d0 d3 d4 d6 d9 (fun x hx => (hno x hx).elim) (by rw [hRm]; exact hfr) (by rw [hRm]; show _ ≤ LO; simp only [List.length_cons, List.length_nil]; omega) (by rw [hRm]; exact hc) (by rw [hRm]; exact hs) hlk ?_ b.2.2 hc hs
  intro t hal hsz hkp
  have hN : hN h ≤ t.heap.size := by rw [R.1]; exact hsz
  exact ⟨(e, bump h t.heap.size), hf _ hN, ⟨rfl, (R.bump hsz hkp).moved hal⟩, Nat.le_trans b.1 hsz, fun q h1 h2 => by rw [hkp q (Nat.lt_of_lt_of_le h1 b.1)]; exact b.2.1 q h1 h2⟩
/-- thrown in a call, not caught here -/
theorem z_out (hC : Cx Z X own cc nL FR MC MS LO) (hno : ∀ x ∈ (zc X).exceptionTable.toList, False) {e mc ms : Nat} (hc : cells ≤ mc) (hs : slots ≤ ms) {Qc : Array Value → State → Outcome → State → Prop} {Xf : Nat → AH → Prop} (hf : Xf e h) : VX Z X (zEx Z X Qc Xf mc ms) nL h L cells slots pc e := by
  intro H locs ls ce q9 rest R b c hce hv hcl
  refine vx_out (fun x hx => (hno x hx).elim) hC.2.2.2.2.2.2.2.1 hce hv hcl (fun t ht hal => ?_) b.2.2 hc hs
  exact ⟨(e, h), hf, ⟨rfl, by rw [ht]; exact R.moved hal⟩, b.F ht⟩
theorem zWd.of (hC : Cx Z X own cc nL FR MC MS LO) {H : Heap} {locs : List Loc} (R : zRep Z (zs X) h H) (b : va_S (zA Z) (zs X).heap H locs) {U : State} (hU : U.heap = H) (hW : (zs X).WarmedH U.vm) : zWd Z h U := by
  obtain ⟨hx, hb, hml, hown, hT, hK, hS, hlk, hb0, htr, hRm⟩ := hC
  refine ⟨hT.warm hW, hK.moved hW.alike, by rw [hU]; exact R.moved hW.alike, by rw [hU]; exact (hS.kept b.2.1).warm hW, by rw [hU]; exact Nat.le_trans hb0 b.1⟩
/-- what is said of a method whoever calls it -/
def zMI (y : MethodName) (bytes : ByteArray) (maxL : Nat) (ret : Option FieldType) (n : Nat) : Prop := zq (.code y bytes maxL ret) ∧ zq (.initialized y.cls) ∧ goodWord (.code y bytes maxL ret) = true ∧ y.cls ≠ "java/lang/invoke/MethodHandle" ∧ y.cls ≠ "java/lang/invoke/VarHandle" ∧ (parseMethodDescriptor y.desc).map (fun d => d.parameters.length) = some n
theorem zMI.ws {y : MethodName} {bytes : ByteArray} {maxL n : Nat} {ret : Option FieldType} (mi : zMI y bytes maxL ret n) {s : State} (hT : TB s) : ∀ w ∈ [Cond.code y bytes maxL ret], ∀ (a' : Array Value) (U : State), s.WarmedH U.vm → w.before a' U = true := by
  intro w hw a' U hW
  rw [List.mem_singleton] at hw
  subst hw
  exact zq_at (hT.warm hW) mi.1 a'
theorem zMI.len {y : MethodName} {bytes : ByteArray} {maxL n : Nat} {ret : Option FieldType} (mi : zMI y bytes maxL ret n) : ∀ sig, parseMethodDescriptor y.desc = some sig → n = sig.parameters.length := by
  intro sig h
  have h2 := mi.2.2.2.2.2
  rw [h] at h2
  exact (Option.some.inj h2).symm
theorem zWd.blind {vs : List Value} {Fh : Prop} : FrameBlind (va_Pc vs (fun U => zWd Z h U ∧ Fh)) := fun a U g mk q => ⟨q.1, q.2.1.calling, q.2.2⟩
/-- a method that returns: every such kind of end -/
def zMi (Z : zT) (l : Launch) (y : MethodName) (bytes : ByteArray) (maxL : Nat) (ret : Option FieldType) (fr mc ms lo : Nat) (vs : List Value) (F : AH → (Int32 → AH → Prop) → Prop) : Prop := ∀ (h : AH) (K : Int32 → AH → Prop), Met l y [.code y bytes maxL ret] { frames := fr, cells := mc, slots := ms, locals := lo } (va_Pc vs (fun U => zWd Z h U ∧ F h K)) (zQi Z K) mc ms (zA Z)
/-- .. or throws -/
def zTi (Z : zT) (l : Launch) (y : MethodName) (bytes : ByteArray) (maxL : Nat) (ret : Option FieldType) (fr mc ms lo : Nat) (vs : List Value) (F : AH → (Nat → AH → Prop) → (Int32 → AH → Prop) → Prop) : Prop := ∀ (h : AH) (Xf : Nat → AH → Prop) (K : Int32 → AH → Prop), vx_Met l y [.code y bytes maxL ret] { frames := fr, cells := mc, slots := ms, locals := lo } (va_Pc vs (fun U => zWd Z h U ∧ F h Xf K)) (zQi Z K) (zXC Z Xf) mc ms (zA Z)
theorem z_callVi (hC : Cx Z X own cc nL FR MC MS LO) {y : MethodName} {bytes : ByteArray} {maxL n fr mc ms lo idx : Nat} {ret : Option FieldType} {As : List Value} {ci N : Nat} {C : String} {T : u_T} {ty : Nat → FieldType} (mi : zMI y bytes maxL ret n) (iv : zq (.instanceMethod y) ∧ zq (.selects C y y)) (lk : zq (.methodLink own idx y)) (ct : zCT ci C T N ty) {x : Option Nat} {F : AH → (Int32 → AH → Prop) → Prop} (hM : zMi Z X.2.1 y bytes maxL ret fr mc ms lo (va_rf x :: As) F) (rf : fr + 1 ≤ FR) (rl : 8 + (maxL + 11) + lo ≤ LO) (hn : As.length = n) (hst : (st.map fun v => v.category).sum ≤ 8) (hc : cells + mc ≤ MC) (hs : slots + ms ≤ MS) (d : decode cc pc = .ok (.invokevirtual idx, 3)) (hq : pc + 3 = q) {B : Int32 → AH → Prop} (hf : cast h x (ci + 1) (F h B)) {stk : List Value} (hk : stk = As.reverse ++ va_rf x :: st) (kk : ∀ (r : Int32) (h' : AH), B r h' → V Z X Q nL h' L (cells + mc) (slots + ms) q (.int r :: st)) : V Z X Q nL h L cells slots pc stk := by
  subst hq
  subst hk
  intro H locs ls R b c
  obtain ⟨hx, hb, hml, hown, hT, hK, hS, hlk, hb0, htr, hRm⟩ := id hC
  obtain ⟨a, rfl, hka, hB⟩ := hf
  obtain ⟨cell, q1, q2, q3, -⟩ := (R.2.1 a ci ct.1 hka).2
  have hcls := (hK.1.1 ci _ ct.2.1).2
  exact va_calli (va_runV (C := C) ⟨hx, hb, hml, hown, (fun w hw => absurd hw List.not_mem_nil : ∀ w ∈ ([] : List Cond), w.before X.2.2.2.2.2.2.1 (zs X) = true)⟩ (hM h B) ⟨⟨rfl, rfl, by rw [hRm]; exact rf, by rw [hRm]; exact rl, mi.ws hT, List.mem_singleton.mpr rfl, zq_at hT mi.1 _, zq_at hT mi.2.1 _, ⟨mi.2.2.2.1, mi.2.2.2.2.1⟩, mi.len, zq_at hT lk _⟩, zq_at hT iv.1 _, zq_at hT iv.2 _⟩ ⟨zWd.blind, ⟨cell, q1, by rw [q3]; rfl, by rw [q2]; exact hcls.1⟩, fun U hU hW => ⟨rfl, zWd.of hC R b hU hW, hB⟩⟩ rfl hn c.1 rfl (lv_room hst) d ⟨by rw [hRm]; exact hc, by rw [hRm]; exact hs⟩) b (fun q _ hq => hq) (fun q hq => hq) (fun r u t H1 locs1 ht hvm hp hB hz hk hS => kk r u hp H1 locs1 ls (by rw [ht] at hB; exact hB.moved hvm.symm) hS c)
theorem z_callVNi (hC : Cx Z X own cc nL FR MC MS LO) {y : MethodName} {bytes : ByteArray} {maxL n fr mc ms lo idx : Nat} {ret : Option FieldType} {As : List Value} {host : String} {ci N : Nat} {C : String} {T : u_T} {ty : Nat → FieldType} (mi : zMI y bytes maxL ret n) (iv : zq (.instanceMethod y) ∧ zq (.selects C y y)) (lk : zq (.methodLinkNest own idx y host)) (ct : zCT ci C T N ty) {x : Option Nat} {F : AH → (Int32 → AH → Prop) → Prop} (hM : zMi Z X.2.1 y bytes maxL ret fr mc ms lo (va_rf x :: As) F) (rf : fr + 1 ≤ FR) (rl : 8 + (maxL + 11) + lo ≤ LO) (hn : As.length = n) (hst : (st.map fun v => v.category).sum ≤ 8) (hc : cells + mc ≤ MC) (hs : slots + ms ≤ MS) (d : decode cc pc = .ok (.invokevirtual idx, 3)) (hq : pc + 3 = q) {B : Int32 → AH → Prop} (hf : cast h x (ci + 1) (F h B)) {stk : List Value} (hk : stk = As.reverse ++ va_rf x :: st) (kk : ∀ (r : Int32) (h' : AH), B r h' → V Z X Q nL h' L (cells + mc) (slots + ms) q (.int r :: st)) : V Z X Q nL h L cells slots pc stk := by
  subst hq
  subst hk
  intro H locs ls R b c
  obtain ⟨hx, hb, hml, hown, hT, hK, hS, hlk, hb0, htr, hRm⟩ := id hC
  obtain ⟨a, rfl, hka, hB⟩ := hf
  obtain ⟨cell, q1, q2, q3, -⟩ := (R.2.1 a ci ct.1 hka).2
  have hcls := (hK.1.1 ci _ ct.2.1).2
  exact va_calli (va_runVN (C := C) ⟨hx, hb, hml, hown, (fun w hw => absurd hw List.not_mem_nil : ∀ w ∈ ([] : List Cond), w.before X.2.2.2.2.2.2.1 (zs X) = true)⟩ (hM h B) ⟨⟨⟨rfl, rfl, by rw [hRm]; exact rf, by rw [hRm]; exact rl, mi.ws hT, List.mem_singleton.mpr rfl⟩, zq_at hT mi.1 _, zq_at hT mi.2.1 _, ⟨mi.2.2.2.1, mi.2.2.2.2.1⟩, mi.len, zq_at hT lk _⟩, zq_at hT iv.1 _, zq_at hT iv.2 _⟩ ⟨zWd.blind, ⟨cell, q1, by rw [q3]; rfl, by rw [q2]; exact hcls.1⟩, fun U hU hW => ⟨rfl, zWd.of hC R b hU hW, hB⟩⟩ rfl hn c.1 rfl (lv_room hst) d ⟨by rw [hRm]; exact hc, by rw [hRm]; exact hs⟩) b (fun q _ hq => hq) (fun q hq => hq) (fun r u t H1 locs1 ht hvm hp hB hz hk hS => kk r u hp H1 locs1 ls (by rw [ht] at hB; exact hB.moved hvm.symm) hS c)
theorem z_callSi (hC : Cx Z X own cc nL FR MC MS LO) {y : MethodName} {bytes : ByteArray} {maxL n fr mc ms lo idx : Nat} {ret : Option FieldType} {As : List Value} (mi : zMI y bytes maxL ret n) (iv : zq (.static y)) (lk : zq (.methodLink own idx y)) {F : AH → (Int32 → AH → Prop) → Prop} (hM : zMi Z X.2.1 y bytes maxL ret fr mc ms lo As F) (rf : fr + 1 ≤ FR) (rl : 8 + (maxL + 11) + lo ≤ LO) (hn : As.length = n) (hst : (st.map fun v => v.category).sum ≤ 8) (hc : cells + mc ≤ MC) (hs : slots + ms ≤ MS) (d : decode cc pc = .ok (.invokestatic idx, 3)) (hq : pc + 3 = q) {B : Int32 → AH → Prop} (hf : F h B) {stk : List Value} (hk : stk = As.reverse ++ st) (kk : ∀ (r : Int32) (h' : AH), B r h' → V Z X Q nL h' L (cells + mc) (slots + ms) q (.int r :: st)) : V Z X Q nL h L cells slots pc stk := by
  subst hq
  subst hk
  intro H locs ls R b c
  obtain ⟨hx, hb, hml, hown, hT, hK, hS, hlk, hb0, htr, hRm⟩ := id hC
  exact va_calli (va_runS ⟨hx, hb, hml, hown, (fun w hw => absurd hw List.not_mem_nil : ∀ w ∈ ([] : List Cond), w.before X.2.2.2.2.2.2.1 (zs X) = true)⟩ (hM h B) ⟨⟨rfl, rfl, by rw [hRm]; exact rf, by rw [hRm]; exact rl, mi.ws hT, List.mem_singleton.mpr rfl, zq_at hT mi.1 _, zq_at hT mi.2.1 _, ⟨mi.2.2.2.1, mi.2.2.2.2.1⟩, mi.len, zq_at hT lk _⟩, zq_at hT iv _⟩ ⟨zWd.blind, fun U hU hW => ⟨rfl, zWd.of hC R b hU hW, hf⟩⟩ rfl hn c.1 rfl (lv_room hst) d ⟨by rw [hRm]; exact hc, by rw [hRm]; exact hs⟩) b (fun q _ hq => hq) (fun q hq => hq) (fun r u t H1 locs1 ht hvm hp hB hz hk hS => kk r u hp H1 locs1 ls (by rw [ht] at hB; exact hB.moved hvm.symm) hS c)
theorem z_callSNi (hC : Cx Z X own cc nL FR MC MS LO) {y : MethodName} {bytes : ByteArray} {maxL n fr mc ms lo idx : Nat} {ret : Option FieldType} {As : List Value} {host : String} (mi : zMI y bytes maxL ret n) (iv : zq (.static y)) (lk : zq (.methodLinkNest own idx y host)) {F : AH → (Int32 → AH → Prop) → Prop} (hM : zMi Z X.2.1 y bytes maxL ret fr mc ms lo As F) (rf : fr + 1 ≤ FR) (rl : 8 + (maxL + 11) + lo ≤ LO) (hn : As.length = n) (hst : (st.map fun v => v.category).sum ≤ 8) (hc : cells + mc ≤ MC) (hs : slots + ms ≤ MS) (d : decode cc pc = .ok (.invokestatic idx, 3)) (hq : pc + 3 = q) {B : Int32 → AH → Prop} (hf : F h B) {stk : List Value} (hk : stk = As.reverse ++ st) (kk : ∀ (r : Int32) (h' : AH), B r h' → V Z X Q nL h' L (cells + mc) (slots + ms) q (.int r :: st)) : V Z X Q nL h L cells slots pc stk := by
  subst hq
  subst hk
  intro H locs ls R b c
  obtain ⟨hx, hb, hml, hown, hT, hK, hS, hlk, hb0, htr, hRm⟩ := id hC
  exact va_calli (va_runSN ⟨hx, hb, hml, hown, (fun w hw => absurd hw List.not_mem_nil : ∀ w ∈ ([] : List Cond), w.before X.2.2.2.2.2.2.1 (zs X) = true)⟩ (hM h B) ⟨⟨⟨rfl, rfl, by rw [hRm]; exact rf, by rw [hRm]; exact rl, mi.ws hT, List.mem_singleton.mpr rfl⟩, zq_at hT mi.1 _, zq_at hT mi.2.1 _, ⟨mi.2.2.2.1, mi.2.2.2.2.1⟩, mi.len, zq_at hT lk _⟩, zq_at hT iv _, trivial⟩ ⟨zWd.blind, fun U hU hW => ⟨rfl, zWd.of hC R b hU hW, hf⟩⟩ rfl hn c.1 rfl (lv_room hst) d ⟨by rw [hRm]; exact hc, by rw [hRm]; exact hs⟩) b (fun q _ hq => hq) (fun q hq => hq) (fun r u t H1 locs1 ht hvm hp hB hz hk hS => kk r u hp H1 locs1 ls (by rw [ht] at hB; exact hB.moved hvm.symm) hS c)
theorem z_callFi (hC : Cx Z X own cc nL FR MC MS LO) {y : MethodName} {bytes : ByteArray} {maxL n fr mc ms lo idx : Nat} {ret : Option FieldType} {As : List Value} {cnt ci N : Nat} {C : String} {T : u_T} {ty : Nat → FieldType} {x1 : MethodName} (mi : zMI y bytes maxL ret n) (iv : zq (.instanceMethod y) ∧ zq (.selects C x1 y)) (lk : zq (.methodLink own idx x1)) (hfw : (C, x1, y) ∈ zfw) (hd : x1.desc = y.desc) (ct : zCT ci C T N ty) {x : Option Nat} {F : AH → (Int32 → AH → Prop) → Prop} (hM : zMi Z X.2.1 y bytes maxL ret fr mc ms lo (va_rf x :: As) F) (rf : fr + 1 ≤ FR) (rl : 8 + (maxL + 11) + lo ≤ LO) (hn : As.length = n) (hst : (st.map fun v => v.category).sum ≤ 8) (hc : cells + mc ≤ MC) (hs : slots + ms ≤ MS) (d : decode cc pc = .ok (.invokeinterface idx cnt, 5)) (hq : pc + 5 = q) {B : Int32 → AH → Prop} (hf : cast h x (ci + 1) (F h B)) {stk : List Value} (hk : stk = As.reverse ++ va_rf x :: st) (kk : ∀ (r : Int32) (h' : AH), B r h' → V Z X Q nL h' L (cells + mc) (slots + ms) q (.int r :: st)) : V Z X Q nL h L cells slots pc stk := by
  subst hq
  subst hk
  intro H locs ls R b c
  obtain ⟨hx, hb, hml, hown, hT, hK, hS, hlk, hb0, htr, hRm⟩ := id hC
  obtain ⟨a, rfl, hka, hB⟩ := hf
  obtain ⟨cell, q1, q2, q3, -⟩ := (R.2.1 a ci ct.1 hka).2
  have hcls := (hK.1.1 ci _ ct.2.1).2
  obtain ⟨f1, f2, f3, f4, f5⟩ := hT.2 _ hfw
  have cw : va_CI X.2.2.2.1 (zs X) X.2.2.2.2.2.2.1 own C idx x1 y bytes maxL ret [.code y bytes maxL ret] { frames := fr, cells := mc, slots := ms, locals := lo } mc ms n := ⟨⟨rfl, rfl, by rw [hRm]; exact rf, by rw [hRm]; exact rl, mi.ws hT, List.mem_singleton.mpr rfl⟩, zq_at hT lk _, va_any rfl f1, va_any rfl f2, zq_at hT iv.2 _, zq_at hT iv.1 _, va_any rfl f3, va_any rfl f4, va_any rfl f5, zq_at hT mi.2.1 _, zq_at hT mi.1 _, zfw_ok _ hfw, fun sig h => mi.len sig (by rw [← hd]; exact h)⟩
  exact va_callFi (va_runF hcls ⟨hx, hb, hml, hown, (fun w hw => absurd hw List.not_mem_nil : ∀ w ∈ ([] : List Cond), w.before X.2.2.2.2.2.2.1 (zs X) = true)⟩ (hM h B) cw ⟨zWd.blind, ⟨cell, q1, by rw [q3]; rfl, by rw [q2]; exact hcls.1⟩, fun U hU hW => ⟨rfl, zWd.of hC R b hU hW, hB⟩⟩ rfl hn c.1 rfl (lv_room hst) d ⟨by rw [hRm]; exact hc, by rw [hRm]; exact hs⟩) b (fun q _ hq => hq) (fun q hq => hq) (fun r u t H1 locs1 ht hvm hp hB hz hk hS => kk r u hp H1 locs1 ls (by rw [ht] at hB; exact hB.moved hvm.symm) hS c)
theorem z_callTi (hC : Cx Z X own cc nL FR MC MS LO) {y : MethodName} {bytes : ByteArray} {maxL n fr mc ms lo idx : Nat} {ret : Option FieldType} {As : List Value} {ci N : Nat} {C : String} {T : u_T} {ty : Nat → FieldType} (mi : zMI y bytes maxL ret n) (iv : zq (.instanceMethod y) ∧ zq (.selects C y y)) (lk : zq (.methodLink own idx y)) (ct : zCT ci C T N ty) {x : Option Nat} {F : AH → (Nat → AH → Prop) → (Int32 → AH → Prop) → Prop} (hM : zTi Z X.2.1 y bytes maxL ret fr mc ms lo (va_rf x :: As) F) (rf : fr + 1 ≤ FR) (rl : 8 + (maxL + 11) + lo ≤ LO) (hn : As.length = n) (hst : (st.map fun v => v.category).sum ≤ 8) (hc : cells + mc ≤ MC) (hs : slots + ms ≤ MS) (d : decode cc pc = .ok (.invokevirtual idx, 3)) (hq : pc + 3 = q) {BX : Nat → AH → Prop} {B : Int32 → AH → Prop} (hf : cast h x (ci + 1) (F h BX B)) {stk : List Value} (hk : stk = As.reverse ++ va_rf x :: st) (kx : ∀ (e : Nat) (h' : AH), BX e h' → VX Z X Q nL h' L (cells + mc) (slots + ms) pc e) (kk : ∀ (r : Int32) (h' : AH), B r h' → V Z X Q nL h' L (cells + mc) (slots + ms) q (.int r :: st)) : V Z X Q nL h L cells slots pc stk := by
  subst hq
  subst hk
  intro H locs ls R b c
  obtain ⟨hx, hb, hml, hown, hT, hK, hS, hlk, hb0, htr, hRm⟩ := id hC
  obtain ⟨a, rfl, hka, hB⟩ := hf
  obtain ⟨cell, q1, q2, q3, -⟩ := (R.2.1 a ci ct.1 hka).2
  have hcls := (hK.1.1 ci _ ct.2.1).2
  exact vx_calli (vx_runV (C := C) ⟨hx, hb, hml, hown, (fun w hw => absurd hw List.not_mem_nil : ∀ w ∈ ([] : List Cond), w.before X.2.2.2.2.2.2.1 (zs X) = true)⟩ (hM h BX B) ⟨⟨rfl, rfl, by rw [hRm]; exact rf, by rw [hRm]; exact rl, mi.ws hT, List.mem_singleton.mpr rfl, zq_at hT mi.1 _, zq_at hT mi.2.1 _, ⟨mi.2.2.2.1, mi.2.2.2.2.1⟩, mi.len, zq_at hT lk _⟩, zq_at hT iv.1 _, zq_at hT iv.2 _⟩ ⟨zWd.blind, ⟨cell, q1, by rw [q3]; rfl, by rw [q2]; exact hcls.1⟩, fun U hU hW => ⟨rfl, zWd.of hC R b hU hW, hB⟩⟩ rfl hn c.1 rfl (lv_room hst) d ⟨by rw [hRm]; exact hc, by rw [hRm]; exact hs⟩) b (fun q _ hq => hq) (fun q hq => hq) (fun q _ hq => hq) (fun E ce q9 u t H1 locs1 ht hvm hp hB hz hk hS hce hv hcl => kx u.1 u.2 hp H1 locs1 ls ce q9 st (by have h9 := hB.2; rw [ht] at h9; exact h9.moved hvm.symm) hS c hce hv (by rw [← hB.1]; exact hcl)) (fun r u t H1 locs1 ht hvm hp hB hz hk hS => kk r u hp H1 locs1 ls (by rw [ht] at hB; exact hB.moved hvm.symm) hS c)
/-- a method that returns: every such kind of end -/
def zMl (Z : zT) (l : Launch) (y : MethodName) (bytes : ByteArray) (maxL : Nat) (ret : Option FieldType) (fr mc ms lo : Nat) (vs : List Value) (F : AH → (Int64 → AH → Prop) → Prop) : Prop := ∀ (h : AH) (K : Int64 → AH → Prop), Met l y [.code y bytes maxL ret] { frames := fr, cells := mc, slots := ms, locals := lo } (va_Pc vs (fun U => zWd Z h U ∧ F h K)) (zQl Z K) mc ms (zA Z)
/-- .. or throws -/
def zTl (Z : zT) (l : Launch) (y : MethodName) (bytes : ByteArray) (maxL : Nat) (ret : Option FieldType) (fr mc ms lo : Nat) (vs : List Value) (F : AH → (Nat → AH → Prop) → (Int64 → AH → Prop) → Prop) : Prop := ∀ (h : AH) (Xf : Nat → AH → Prop) (K : Int64 → AH → Prop), vx_Met l y [.code y bytes maxL ret] { frames := fr, cells := mc, slots := ms, locals := lo } (va_Pc vs (fun U => zWd Z h U ∧ F h Xf K)) (zQl Z K) (zXC Z Xf) mc ms (zA Z)
theorem z_callVl (hC : Cx Z X own cc nL FR MC MS LO) {y : MethodName} {bytes : ByteArray} {maxL n fr mc ms lo idx : Nat} {ret : Option FieldType} {As : List Value} {ci N : Nat} {C : String} {T : u_T} {ty : Nat → FieldType} (mi : zMI y bytes maxL ret n) (iv : zq (.instanceMethod y) ∧ zq (.selects C y y)) (lk : zq (.methodLink own idx y)) (ct : zCT ci C T N ty) {x : Option Nat} {F : AH → (Int64 → AH → Prop) → Prop} (hM : zMl Z X.2.1 y bytes maxL ret fr mc ms lo (va_rf x :: As) F) (rf : fr + 1 ≤ FR) (rl : 8 + (maxL + 11) + lo ≤ LO) (hn : As.length = n) (hst : (st.map fun v => v.category).sum ≤ 8) (hc : cells + mc ≤ MC) (hs : slots + ms ≤ MS) (d : decode cc pc = .ok (.invokevirtual idx, 3)) (hq : pc + 3 = q) {B : Int64 → AH → Prop} (hf : cast h x (ci + 1) (F h B)) {stk : List Value} (hk : stk = As.reverse ++ va_rf x :: st) (kk : ∀ (r : Int64) (h' : AH), B r h' → V Z X Q nL h' L (cells + mc) (slots + ms) q (.long r :: st)) : V Z X Q nL h L cells slots pc stk := by
  subst hq
  subst hk
  intro H locs ls R b c
  obtain ⟨hx, hb, hml, hown, hT, hK, hS, hlk, hb0, htr, hRm⟩ := id hC
  obtain ⟨a, rfl, hka, hB⟩ := hf
  obtain ⟨cell, q1, q2, q3, -⟩ := (R.2.1 a ci ct.1 hka).2
  have hcls := (hK.1.1 ci _ ct.2.1).2
  exact va_calll (va_runV (C := C) ⟨hx, hb, hml, hown, (fun w hw => absurd hw List.not_mem_nil : ∀ w ∈ ([] : List Cond), w.before X.2.2.2.2.2.2.1 (zs X) = true)⟩ (hM h B) ⟨⟨rfl, rfl, by rw [hRm]; exact rf, by rw [hRm]; exact rl, mi.ws hT, List.mem_singleton.mpr rfl, zq_at hT mi.1 _, zq_at hT mi.2.1 _, ⟨mi.2.2.2.1, mi.2.2.2.2.1⟩, mi.len, zq_at hT lk _⟩, zq_at hT iv.1 _, zq_at hT iv.2 _⟩ ⟨zWd.blind, ⟨cell, q1, by rw [q3]; rfl, by rw [q2]; exact hcls.1⟩, fun U hU hW => ⟨rfl, zWd.of hC R b hU hW, hB⟩⟩ rfl hn c.1 rfl (lv_room hst) d ⟨by rw [hRm]; exact hc, by rw [hRm]; exact hs⟩) b (fun q _ hq => hq) (fun q hq => hq) (fun r u t H1 locs1 ht hvm hp hB hz hk hS => kk r u hp H1 locs1 ls (by rw [ht] at hB; exact hB.moved hvm.symm) hS c)
theorem z_callVNl (hC : Cx Z X own cc nL FR MC MS LO) {y : MethodName} {bytes : ByteArray} {maxL n fr mc ms lo idx : Nat} {ret : Option FieldType} {As : List Value} {host : String} {ci N : Nat} {C : String} {T : u_T} {ty : Nat → FieldType} (mi : zMI y bytes maxL ret n) (iv : zq (.instanceMethod y) ∧ zq (.selects C y y)) (lk : zq (.methodLinkNest own idx y host)) (ct : zCT ci C T N ty) {x : Option Nat} {F : AH → (Int64 → AH → Prop) → Prop} (hM : zMl Z X.2.1 y bytes maxL ret fr mc ms lo (va_rf x :: As) F) (rf : fr + 1 ≤ FR) (rl : 8 + (maxL + 11) + lo ≤ LO) (hn : As.length = n) (hst : (st.map fun v => v.category).sum ≤ 8) (hc : cells + mc ≤ MC) (hs : slots + ms ≤ MS) (d : decode cc pc = .ok (.invokevirtual idx, 3)) (hq : pc + 3 = q) {B : Int64 → AH → Prop} (hf : cast h x (ci + 1) (F h B)) {stk : List Value} (hk : stk = As.reverse ++ va_rf x :: st) (kk : ∀ (r : Int64) (h' : AH), B r h' → V Z X Q nL h' L (cells + mc) (slots + ms) q (.long r :: st)) : V Z X Q nL h L cells slots pc stk := by
  subst hq
  subst hk
  intro H locs ls R b c
  obtain ⟨hx, hb, hml, hown, hT, hK, hS, hlk, hb0, htr, hRm⟩ := id hC
  obtain ⟨a, rfl, hka, hB⟩ := hf
  obtain ⟨cell, q1, q2, q3, -⟩ := (R.2.1 a ci ct.1 hka).2
  have hcls := (hK.1.1 ci _ ct.2.1).2
  exact va_calll (va_runVN (C := C) ⟨hx, hb, hml, hown, (fun w hw => absurd hw List.not_mem_nil : ∀ w ∈ ([] : List Cond), w.before X.2.2.2.2.2.2.1 (zs X) = true)⟩ (hM h B) ⟨⟨⟨rfl, rfl, by rw [hRm]; exact rf, by rw [hRm]; exact rl, mi.ws hT, List.mem_singleton.mpr rfl⟩, zq_at hT mi.1 _, zq_at hT mi.2.1 _, ⟨mi.2.2.2.1, mi.2.2.2.2.1⟩, mi.len, zq_at hT lk _⟩, zq_at hT iv.1 _, zq_at hT iv.2 _⟩ ⟨zWd.blind, ⟨cell, q1, by rw [q3]; rfl, by rw [q2]; exact hcls.1⟩, fun U hU hW => ⟨rfl, zWd.of hC R b hU hW, hB⟩⟩ rfl hn c.1 rfl (lv_room hst) d ⟨by rw [hRm]; exact hc, by rw [hRm]; exact hs⟩) b (fun q _ hq => hq) (fun q hq => hq) (fun r u t H1 locs1 ht hvm hp hB hz hk hS => kk r u hp H1 locs1 ls (by rw [ht] at hB; exact hB.moved hvm.symm) hS c)
theorem z_callSl (hC : Cx Z X own cc nL FR MC MS LO) {y : MethodName} {bytes : ByteArray} {maxL n fr mc ms lo idx : Nat} {ret : Option FieldType} {As : List Value} (mi : zMI y bytes maxL ret n) (iv : zq (.static y)) (lk : zq (.methodLink own idx y)) {F : AH → (Int64 → AH → Prop) → Prop} (hM : zMl Z X.2.1 y bytes maxL ret fr mc ms lo As F) (rf : fr + 1 ≤ FR) (rl : 8 + (maxL + 11) + lo ≤ LO) (hn : As.length = n) (hst : (st.map fun v => v.category).sum ≤ 8) (hc : cells + mc ≤ MC) (hs : slots + ms ≤ MS) (d : decode cc pc = .ok (.invokestatic idx, 3)) (hq : pc + 3 = q) {B : Int64 → AH → Prop} (hf : F h B) {stk : List Value} (hk : stk = As.reverse ++ st) (kk : ∀ (r : Int64) (h' : AH), B r h' → V Z X Q nL h' L (cells + mc) (slots + ms) q (.long r :: st)) : V Z X Q nL h L cells slots pc stk := by
  subst hq
  subst hk
  intro H locs ls R b c
  obtain ⟨hx, hb, hml, hown, hT, hK, hS, hlk, hb0, htr, hRm⟩ := id hC
  exact va_calll (va_runS ⟨hx, hb, hml, hown, (fun w hw => absurd hw List.not_mem_nil : ∀ w ∈ ([] : List Cond), w.before X.2.2.2.2.2.2.1 (zs X) = true)⟩ (hM h B) ⟨⟨rfl, rfl, by rw [hRm]; exact rf, by rw [hRm]; exact rl, mi.ws hT, List.mem_singleton.mpr rfl, zq_at hT mi.1 _, zq_at hT mi.2.1 _, ⟨mi.2.2.2.1, mi.2.2.2.2.1⟩, mi.len, zq_at hT lk _⟩, zq_at hT iv _⟩ ⟨zWd.blind, fun U hU hW => ⟨rfl, zWd.of hC R b hU hW, hf⟩⟩ rfl hn c.1 rfl (lv_room hst) d ⟨by rw [hRm]; exact hc, by rw [hRm]; exact hs⟩) b (fun q _ hq => hq) (fun q hq => hq) (fun r u t H1 locs1 ht hvm hp hB hz hk hS => kk r u hp H1 locs1 ls (by rw [ht] at hB; exact hB.moved hvm.symm) hS c)
theorem z_callSNl (hC : Cx Z X own cc nL FR MC MS LO) {y : MethodName} {bytes : ByteArray} {maxL n fr mc ms lo idx : Nat} {ret : Option FieldType} {As : List Value} {host : String} (mi : zMI y bytes maxL ret n) (iv : zq (.static y)) (lk : zq (.methodLinkNest own idx y host)) {F : AH → (Int64 → AH → Prop) → Prop} (hM : zMl Z X.2.1 y bytes maxL ret fr mc ms lo As F) (rf : fr + 1 ≤ FR) (rl : 8 + (maxL + 11) + lo ≤ LO) (hn : As.length = n) (hst : (st.map fun v => v.category).sum ≤ 8) (hc : cells + mc ≤ MC) (hs : slots + ms ≤ MS) (d : decode cc pc = .ok (.invokestatic idx, 3)) (hq : pc + 3 = q) {B : Int64 → AH → Prop} (hf : F h B) {stk : List Value} (hk : stk = As.reverse ++ st) (kk : ∀ (r : Int64) (h' : AH), B r h' → V Z X Q nL h' L (cells + mc) (slots + ms) q (.long r :: st)) : V Z X Q nL h L cells slots pc stk := by
  subst hq
  subst hk
  intro H locs ls R b c
  obtain ⟨hx, hb, hml, hown, hT, hK, hS, hlk, hb0, htr, hRm⟩ := id hC
  exact va_calll (va_runSN ⟨hx, hb, hml, hown, (fun w hw => absurd hw List.not_mem_nil : ∀ w ∈ ([] : List Cond), w.before X.2.2.2.2.2.2.1 (zs X) = true)⟩ (hM h B) ⟨⟨⟨rfl, rfl, by rw [hRm]; exact rf, by rw [hRm]; exact rl, mi.ws hT, List.mem_singleton.mpr rfl⟩, zq_at hT mi.1 _, zq_at hT mi.2.1 _, ⟨mi.2.2.2.1, mi.2.2.2.2.1⟩, mi.len, zq_at hT lk _⟩, zq_at hT iv _, trivial⟩ ⟨zWd.blind, fun U hU hW => ⟨rfl, zWd.of hC R b hU hW, hf⟩⟩ rfl hn c.1 rfl (lv_room hst) d ⟨by rw [hRm]; exact hc, by rw [hRm]; exact hs⟩) b (fun q _ hq => hq) (fun q hq => hq) (fun r u t H1 locs1 ht hvm hp hB hz hk hS => kk r u hp H1 locs1 ls (by rw [ht] at hB; exact hB.moved hvm.symm) hS c)
theorem z_callFl (hC : Cx Z X own cc nL FR MC MS LO) {y : MethodName} {bytes : ByteArray} {maxL n fr mc ms lo idx : Nat} {ret : Option FieldType} {As : List Value} {cnt ci N : Nat} {C : String} {T : u_T} {ty : Nat → FieldType} {x1 : MethodName} (mi : zMI y bytes maxL ret n) (iv : zq (.instanceMethod y) ∧ zq (.selects C x1 y)) (lk : zq (.methodLink own idx x1)) (hfw : (C, x1, y) ∈ zfw) (hd : x1.desc = y.desc) (ct : zCT ci C T N ty) {x : Option Nat} {F : AH → (Int64 → AH → Prop) → Prop} (hM : zMl Z X.2.1 y bytes maxL ret fr mc ms lo (va_rf x :: As) F) (rf : fr + 1 ≤ FR) (rl : 8 + (maxL + 11) + lo ≤ LO) (hn : As.length = n) (hst : (st.map fun v => v.category).sum ≤ 8) (hc : cells + mc ≤ MC) (hs : slots + ms ≤ MS) (d : decode cc pc = .ok (.invokeinterface idx cnt, 5)) (hq : pc + 5 = q) {B : Int64 → AH → Prop} (hf : cast h x (ci + 1) (F h B)) {stk : List Value} (hk : stk = As.reverse ++ va_rf x :: st) (kk : ∀ (r : Int64) (h' : AH), B r h' → V Z X Q nL h' L (cells + mc) (slots + ms) q (.long r :: st)) : V Z X Q nL h L cells slots pc stk := by
  subst hq
  subst hk
  intro H locs ls R b c
  obtain ⟨hx, hb, hml, hown, hT, hK, hS, hlk, hb0, htr, hRm⟩ := id hC
  obtain ⟨a, rfl, hka, hB⟩ := hf
  obtain ⟨cell, q1, q2, q3, -⟩ := (R.2.1 a ci ct.1 hka).2
  have hcls := (hK.1.1 ci _ ct.2.1).2
  obtain ⟨f1, f2, f3, f4, f5⟩ := hT.2 _ hfw
  have cw : va_CI X.2.2.2.1 (zs X) X.2.2.2.2.2.2.1 own C idx x1 y bytes maxL ret [.code y bytes maxL ret] { frames := fr, cells := mc, slots := ms, locals := lo } mc ms n := ⟨⟨rfl, rfl, by rw [hRm]; exact rf, by rw [hRm]; exact rl, mi.ws hT, List.mem_singleton.mpr rfl⟩, zq_at hT lk _, va_any rfl f1, va_any rfl f2, zq_at hT iv.2 _, zq_at hT iv.1 _, va_any rfl f3, va_any rfl f4, va_any rfl f5, zq_at hT mi.2.1 _, zq_at hT mi.1 _, zfw_ok _ hfw, fun sig h => mi.len sig (by rw [← hd]; exact h)⟩
  exact va_callFl (va_runF hcls ⟨hx, hb, hml, hown, (fun w hw => absurd hw List.not_mem_nil : ∀ w ∈ ([] : List Cond), w.before X.2.2.2.2.2.2.1 (zs X) = true)⟩ (hM h B) cw ⟨zWd.blind, ⟨cell, q1, by rw [q3]; rfl, by rw [q2]; exact hcls.1⟩, fun U hU hW => ⟨rfl, zWd.of hC R b hU hW, hB⟩⟩ rfl hn c.1 rfl (lv_room hst) d ⟨by rw [hRm]; exact hc, by rw [hRm]; exact hs⟩) b (fun q _ hq => hq) (fun q hq => hq) (fun r u t H1 locs1 ht hvm hp hB hz hk hS => kk r u hp H1 locs1 ls (by rw [ht] at hB; exact hB.moved hvm.symm) hS c)
theorem z_callTl (hC : Cx Z X own cc nL FR MC MS LO) {y : MethodName} {bytes : ByteArray} {maxL n fr mc ms lo idx : Nat} {ret : Option FieldType} {As : List Value} {ci N : Nat} {C : String} {T : u_T} {ty : Nat → FieldType} (mi : zMI y bytes maxL ret n) (iv : zq (.instanceMethod y) ∧ zq (.selects C y y)) (lk : zq (.methodLink own idx y)) (ct : zCT ci C T N ty) {x : Option Nat} {F : AH → (Nat → AH → Prop) → (Int64 → AH → Prop) → Prop} (hM : zTl Z X.2.1 y bytes maxL ret fr mc ms lo (va_rf x :: As) F) (rf : fr + 1 ≤ FR) (rl : 8 + (maxL + 11) + lo ≤ LO) (hn : As.length = n) (hst : (st.map fun v => v.category).sum ≤ 8) (hc : cells + mc ≤ MC) (hs : slots + ms ≤ MS) (d : decode cc pc = .ok (.invokevirtual idx, 3)) (hq : pc + 3 = q) {BX : Nat → AH → Prop} {B : Int64 → AH → Prop} (hf : cast h x (ci + 1) (F h BX B)) {stk : List Value} (hk : stk = As.reverse ++ va_rf x :: st) (kx : ∀ (e : Nat) (h' : AH), BX e h' → VX Z X Q nL h' L (cells + mc) (slots + ms) pc e) (kk : ∀ (r : Int64) (h' : AH), B r h' → V Z X Q nL h' L (cells + mc) (slots + ms) q (.long r :: st)) : V Z X Q nL h L cells slots pc stk := by
  subst hq
  subst hk
  intro H locs ls R b c
  obtain ⟨hx, hb, hml, hown, hT, hK, hS, hlk, hb0, htr, hRm⟩ := id hC
  obtain ⟨a, rfl, hka, hB⟩ := hf
  obtain ⟨cell, q1, q2, q3, -⟩ := (R.2.1 a ci ct.1 hka).2
  have hcls := (hK.1.1 ci _ ct.2.1).2
  exact vx_calll (vx_runV (C := C) ⟨hx, hb, hml, hown, (fun w hw => absurd hw List.not_mem_nil : ∀ w ∈ ([] : List Cond), w.before X.2.2.2.2.2.2.1 (zs X) = true)⟩ (hM h BX B) ⟨⟨rfl, rfl, by rw [hRm]; exact rf, by rw [hRm]; exact rl, mi.ws hT, List.mem_singleton.mpr rfl, zq_at hT mi.1 _, zq_at hT mi.2.1 _, ⟨mi.2.2.2.1, mi.2.2.2.2.1⟩, mi.len, zq_at hT lk _⟩, zq_at hT iv.1 _, zq_at hT iv.2 _⟩ ⟨zWd.blind, ⟨cell, q1, by rw [q3]; rfl, by rw [q2]; exact hcls.1⟩, fun U hU hW => ⟨rfl, zWd.of hC R b hU hW, hB⟩⟩ rfl hn c.1 rfl (lv_room hst) d ⟨by rw [hRm]; exact hc, by rw [hRm]; exact hs⟩) b (fun q _ hq => hq) (fun q hq => hq) (fun q _ hq => hq) (fun E ce q9 u t H1 locs1 ht hvm hp hB hz hk hS hce hv hcl => kx u.1 u.2 hp H1 locs1 ls ce q9 st (by have h9 := hB.2; rw [ht] at h9; exact h9.moved hvm.symm) hS c hce hv (by rw [← hB.1]; exact hcl)) (fun r u t H1 locs1 ht hvm hp hB hz hk hS => kk r u hp H1 locs1 ls (by rw [ht] at hB; exact hB.moved hvm.symm) hS c)
/-- a method that returns: every such kind of end -/
def zMf (Z : zT) (l : Launch) (y : MethodName) (bytes : ByteArray) (maxL : Nat) (ret : Option FieldType) (fr mc ms lo : Nat) (vs : List Value) (F : AH → (UInt32 → AH → Prop) → Prop) : Prop := ∀ (h : AH) (K : UInt32 → AH → Prop), Met l y [.code y bytes maxL ret] { frames := fr, cells := mc, slots := ms, locals := lo } (va_Pc vs (fun U => zWd Z h U ∧ F h K)) (zQf Z K) mc ms (zA Z)
/-- .. or throws -/
def zTf (Z : zT) (l : Launch) (y : MethodName) (bytes : ByteArray) (maxL : Nat) (ret : Option FieldType) (fr mc ms lo : Nat) (vs : List Value) (F : AH → (Nat → AH → Prop) → (UInt32 → AH → Prop) → Prop) : Prop := ∀ (h : AH) (Xf : Nat → AH → Prop) (K : UInt32 → AH → Prop), vx_Met l y [.code y bytes maxL ret] { frames := fr, cells := mc, slots := ms, locals := lo } (va_Pc vs (fun U => zWd Z h U ∧ F h Xf K)) (zQf Z K) (zXC Z Xf) mc ms (zA Z)
theorem z_callVf (hC : Cx Z X own cc nL FR MC MS LO) {y : MethodName} {bytes : ByteArray} {maxL n fr mc ms lo idx : Nat} {ret : Option FieldType} {As : List Value} {ci N : Nat} {C : String} {T : u_T} {ty : Nat → FieldType} (mi : zMI y bytes maxL ret n) (iv : zq (.instanceMethod y) ∧ zq (.selects C y y)) (lk : zq (.methodLink own idx y)) (ct : zCT ci C T N ty) {x : Option Nat} {F : AH → (UInt32 → AH → Prop) → Prop} (hM : zMf Z X.2.1 y bytes maxL ret fr mc ms lo (va_rf x :: As) F) (rf : fr + 1 ≤ FR) (rl : 8 + (maxL + 11) + lo ≤ LO) (hn : As.length = n) (hst : (st.map fun v => v.category).sum ≤ 8) (hc : cells + mc ≤ MC) (hs : slots + ms ≤ MS) (d : decode cc pc = .ok (.invokevirtual idx, 3)) (hq : pc + 3 = q) {B : UInt32 → AH → Prop} (hf : cast h x (ci + 1) (F h B)) {stk : List Value} (hk : stk = As.reverse ++ va_rf x :: st) (kk : ∀ (r : UInt32) (h' : AH), B r h' → V Z X Q nL h' L (cells + mc) (slots + ms) q (.float r :: st)) : V Z X Q nL h L cells slots pc stk := by
  subst hq
  subst hk
  intro H locs ls R b c
  obtain ⟨hx, hb, hml, hown, hT, hK, hS, hlk, hb0, htr, hRm⟩ := id hC
  obtain ⟨a, rfl, hka, hB⟩ := hf
  obtain ⟨cell, q1, q2, q3, -⟩ := (R.2.1 a ci ct.1 hka).2
  have hcls := (hK.1.1 ci _ ct.2.1).2
  exact va_callf (va_runV (C := C) ⟨hx, hb, hml, hown, (fun w hw => absurd hw List.not_mem_nil : ∀ w ∈ ([] : List Cond), w.before X.2.2.2.2.2.2.1 (zs X) = true)⟩ (hM h B) ⟨⟨rfl, rfl, by rw [hRm]; exact rf, by rw [hRm]; exact rl, mi.ws hT, List.mem_singleton.mpr rfl, zq_at hT mi.1 _, zq_at hT mi.2.1 _, ⟨mi.2.2.2.1, mi.2.2.2.2.1⟩, mi.len, zq_at hT lk _⟩, zq_at hT iv.1 _, zq_at hT iv.2 _⟩ ⟨zWd.blind, ⟨cell, q1, by rw [q3]; rfl, by rw [q2]; exact hcls.1⟩, fun U hU hW => ⟨rfl, zWd.of hC R b hU hW, hB⟩⟩ rfl hn c.1 rfl (lv_room hst) d ⟨by rw [hRm]; exact hc, by rw [hRm]; exact hs⟩) b (fun q _ hq => hq) (fun q hq => hq) (fun r u t H1 locs1 ht hvm hp hB hz hk hS => kk r u hp H1 locs1 ls (by rw [ht] at hB; exact hB.moved hvm.symm) hS c)
theorem z_callVNf (hC : Cx Z X own cc nL FR MC MS LO) {y : MethodName} {bytes : ByteArray} {maxL n fr mc ms lo idx : Nat} {ret : Option FieldType} {As : List Value} {host : String} {ci N : Nat} {C : String} {T : u_T} {ty : Nat → FieldType} (mi : zMI y bytes maxL ret n) (iv : zq (.instanceMethod y) ∧ zq (.selects C y y)) (lk : zq (.methodLinkNest own idx y host)) (ct : zCT ci C T N ty) {x : Option Nat} {F : AH → (UInt32 → AH → Prop) → Prop} (hM : zMf Z X.2.1 y bytes maxL ret fr mc ms lo (va_rf x :: As) F) (rf : fr + 1 ≤ FR) (rl : 8 + (maxL + 11) + lo ≤ LO) (hn : As.length = n) (hst : (st.map fun v => v.category).sum ≤ 8) (hc : cells + mc ≤ MC) (hs : slots + ms ≤ MS) (d : decode cc pc = .ok (.invokevirtual idx, 3)) (hq : pc + 3 = q) {B : UInt32 → AH → Prop} (hf : cast h x (ci + 1) (F h B)) {stk : List Value} (hk : stk = As.reverse ++ va_rf x :: st) (kk : ∀ (r : UInt32) (h' : AH), B r h' → V Z X Q nL h' L (cells + mc) (slots + ms) q (.float r :: st)) : V Z X Q nL h L cells slots pc stk := by
  subst hq
  subst hk
  intro H locs ls R b c
  obtain ⟨hx, hb, hml, hown, hT, hK, hS, hlk, hb0, htr, hRm⟩ := id hC
  obtain ⟨a, rfl, hka, hB⟩ := hf
  obtain ⟨cell, q1, q2, q3, -⟩ := (R.2.1 a ci ct.1 hka).2
  have hcls := (hK.1.1 ci _ ct.2.1).2
  exact va_callf (va_runVN (C := C) ⟨hx, hb, hml, hown, (fun w hw => absurd hw List.not_mem_nil : ∀ w ∈ ([] : List Cond), w.before X.2.2.2.2.2.2.1 (zs X) = true)⟩ (hM h B) ⟨⟨⟨rfl, rfl, by rw [hRm]; exact rf, by rw [hRm]; exact rl, mi.ws hT, List.mem_singleton.mpr rfl⟩, zq_at hT mi.1 _, zq_at hT mi.2.1 _, ⟨mi.2.2.2.1, mi.2.2.2.2.1⟩, mi.len, zq_at hT lk _⟩, zq_at hT iv.1 _, zq_at hT iv.2 _⟩ ⟨zWd.blind, ⟨cell, q1, by rw [q3]; rfl, by rw [q2]; exact hcls.1⟩, fun U hU hW => ⟨rfl, zWd.of hC R b hU hW, hB⟩⟩ rfl hn c.1 rfl (lv_room hst) d ⟨by rw [hRm]; exact hc, by rw [hRm]; exact hs⟩) b (fun q _ hq => hq) (fun q hq => hq) (fun r u t H1 locs1 ht hvm hp hB hz hk hS => kk r u hp H1 locs1 ls (by rw [ht] at hB; exact hB.moved hvm.symm) hS c)
theorem z_callSf (hC : Cx Z X own cc nL FR MC MS LO) {y : MethodName} {bytes : ByteArray} {maxL n fr mc ms lo idx : Nat} {ret : Option FieldType} {As : List Value} (mi : zMI y bytes maxL ret n) (iv : zq (.static y)) (lk : zq (.methodLink own idx y)) {F : AH → (UInt32 → AH → Prop) → Prop} (hM : zMf Z X.2.1 y bytes maxL ret fr mc ms lo As F) (rf : fr + 1 ≤ FR) (rl : 8 + (maxL + 11) + lo ≤ LO) (hn : As.length = n) (hst : (st.map fun v => v.category).sum ≤ 8) (hc : cells + mc ≤ MC) (hs : slots + ms ≤ MS) (d : decode cc pc = .ok (.invokestatic idx, 3)) (hq : pc + 3 = q) {B : UInt32 → AH → Prop} (hf : F h B) {stk : List Value} (hk : stk = As.reverse ++ st) (kk : ∀ (r : UInt32) (h' : AH), B r h' → V Z X Q nL h' L (cells + mc) (slots + ms) q (.float r :: st)) : V Z X Q nL h L cells slots pc stk := by
  subst hq
  subst hk
  intro H locs ls R b c
  obtain ⟨hx, hb, hml, hown, hT, hK, hS, hlk, hb0, htr, hRm⟩ := id hC
  exact va_callf (va_runS ⟨hx, hb, hml, hown, (fun w hw => absurd hw List.not_mem_nil : ∀ w ∈ ([] : List Cond), w.before X.2.2.2.2.2.2.1 (zs X) = true)⟩ (hM h B) ⟨⟨rfl, rfl, by rw [hRm]; exact rf, by rw [hRm]; exact rl, mi.ws hT, List.mem_singleton.mpr rfl, zq_at hT mi.1 _, zq_at hT mi.2.1 _, ⟨mi.2.2.2.1, mi.2.2.2.2.1⟩, mi.len, zq_at hT lk _⟩, zq_at hT iv _⟩ ⟨zWd.blind, fun U hU hW => ⟨rfl, zWd.of hC R b hU hW, hf⟩⟩ rfl hn c.1 rfl (lv_room hst) d ⟨by rw [hRm]; exact hc, by rw [hRm]; exact hs⟩) b (fun q _ hq => hq) (fun q hq => hq) (fun r u t H1 locs1 ht hvm hp hB hz hk hS => kk r u hp H1 locs1 ls (by rw [ht] at hB; exact hB.moved hvm.symm) hS c)
theorem z_callSNf (hC : Cx Z X own cc nL FR MC MS LO) {y : MethodName} {bytes : ByteArray} {maxL n fr mc ms lo idx : Nat} {ret : Option FieldType} {As : List Value} {host : String} (mi : zMI y bytes maxL ret n) (iv : zq (.static y)) (lk : zq (.methodLinkNest own idx y host)) {F : AH → (UInt32 → AH → Prop) → Prop} (hM : zMf Z X.2.1 y bytes maxL ret fr mc ms lo As F) (rf : fr + 1 ≤ FR) (rl : 8 + (maxL + 11) + lo ≤ LO) (hn : As.length = n) (hst : (st.map fun v => v.category).sum ≤ 8) (hc : cells + mc ≤ MC) (hs : slots + ms ≤ MS) (d : decode cc pc = .ok (.invokestatic idx, 3)) (hq : pc + 3 = q) {B : UInt32 → AH → Prop} (hf : F h B) {stk : List Value} (hk : stk = As.reverse ++ st) (kk : ∀ (r : UInt32) (h' : AH), B r h' → V Z X Q nL h' L (cells + mc) (slots + ms) q (.float r :: st)) : V Z X Q nL h L cells slots pc stk := by
  subst hq
  subst hk
  intro H locs ls R b c
  obtain ⟨hx, hb, hml, hown, hT, hK, hS, hlk, hb0, htr, hRm⟩ := id hC
  exact va_callf (va_runSN ⟨hx, hb, hml, hown, (fun w hw => absurd hw List.not_mem_nil : ∀ w ∈ ([] : List Cond), w.before X.2.2.2.2.2.2.1 (zs X) = true)⟩ (hM h B) ⟨⟨⟨rfl, rfl, by rw [hRm]; exact rf, by rw [hRm]; exact rl, mi.ws hT, List.mem_singleton.mpr rfl⟩, zq_at hT mi.1 _, zq_at hT mi.2.1 _, ⟨mi.2.2.2.1, mi.2.2.2.2.1⟩, mi.len, zq_at hT lk _⟩, zq_at hT iv _, trivial⟩ ⟨zWd.blind, fun U hU hW => ⟨rfl, zWd.of hC R b hU hW, hf⟩⟩ rfl hn c.1 rfl (lv_room hst) d ⟨by rw [hRm]; exact hc, by rw [hRm]; exact hs⟩) b (fun q _ hq => hq) (fun q hq => hq) (fun r u t H1 locs1 ht hvm hp hB hz hk hS => kk r u hp H1 locs1 ls (by rw [ht] at hB; exact hB.moved hvm.symm) hS c)
theorem z_callFf (hC : Cx Z X own cc nL FR MC MS LO) {y : MethodName} {bytes : ByteArray} {maxL n fr mc ms lo idx : Nat} {ret : Option FieldType} {As : List Value} {cnt ci N : Nat} {C : String} {T : u_T} {ty : Nat → FieldType} {x1 : MethodName} (mi : zMI y bytes maxL ret n) (iv : zq (.instanceMethod y) ∧ zq (.selects C x1 y)) (lk : zq (.methodLink own idx x1)) (hfw : (C, x1, y) ∈ zfw) (hd : x1.desc = y.desc) (ct : zCT ci C T N ty) {x : Option Nat} {F : AH → (UInt32 → AH → Prop) → Prop} (hM : zMf Z X.2.1 y bytes maxL ret fr mc ms lo (va_rf x :: As) F) (rf : fr + 1 ≤ FR) (rl : 8 + (maxL + 11) + lo ≤ LO) (hn : As.length = n) (hst : (st.map fun v => v.category).sum ≤ 8) (hc : cells + mc ≤ MC) (hs : slots + ms ≤ MS) (d : decode cc pc = .ok (.invokeinterface idx cnt, 5)) (hq : pc + 5 = q) {B : UInt32 → AH → Prop} (hf : cast h x (ci + 1) (F h B)) {stk : List Value} (hk : stk = As.reverse ++ va_rf x :: st) (kk : ∀ (r : UInt32) (h' : AH), B r h' → V Z X Q nL h' L (cells + mc) (slots + ms) q (.float r :: st)) : V Z X Q nL h L cells slots pc stk := by
  subst hq
  subst hk
  intro H locs ls R b c
  obtain ⟨hx, hb, hml, hown, hT, hK, hS, hlk, hb0, htr, hRm⟩ := id hC
  obtain ⟨a, rfl, hka, hB⟩ := hf
  obtain ⟨cell, q1, q2, q3, -⟩ := (R.2.1 a ci ct.1 hka).2
  have hcls := (hK.1.1 ci _ ct.2.1).2
  obtain ⟨f1, f2, f3, f4, f5⟩ := hT.2 _ hfw
  have cw : va_CI X.2.2.2.1 (zs X) X.2.2.2.2.2.2.1 own C idx x1 y bytes maxL ret [.code y bytes maxL ret] { frames := fr, cells := mc, slots := ms, locals := lo } mc ms n := ⟨⟨rfl, rfl, by rw [hRm]; exact rf, by rw [hRm]; exact rl, mi.ws hT, List.mem_singleton.mpr rfl⟩, zq_at hT lk _, va_any rfl f1, va_any rfl f2, zq_at hT iv.2 _, zq_at hT iv.1 _, va_any rfl f3, va_any rfl f4, va_any rfl f5, zq_at hT mi.2.1 _, zq_at hT mi.1 _, zfw_ok _ hfw, fun sig h => mi.len sig (by rw [← hd]; exact h)⟩
  exact va_callFf (va_runF hcls ⟨hx, hb, hml, hown, (fun w hw => absurd hw List.not_mem_nil : ∀ w ∈ ([] : List Cond), w.before X.2.2.2.2.2.2.1 (zs X) = true)⟩ (hM h B) cw ⟨zWd.blind, ⟨cell, q1, by rw [q3]; rfl, by rw [q2]; exact hcls.1⟩, fun U hU hW => ⟨rfl, zWd.of hC R b hU hW, hB⟩⟩ rfl hn c.1 rfl (lv_room hst) d ⟨by rw [hRm]; exact hc, by rw [hRm]; exact hs⟩) b (fun q _ hq => hq) (fun q hq => hq) (fun r u t H1 locs1 ht hvm hp hB hz hk hS => kk r u hp H1 locs1 ls (by rw [ht] at hB; exact hB.moved hvm.symm) hS c)
theorem z_callTf (hC : Cx Z X own cc nL FR MC MS LO) {y : MethodName} {bytes : ByteArray} {maxL n fr mc ms lo idx : Nat} {ret : Option FieldType} {As : List Value} {ci N : Nat} {C : String} {T : u_T} {ty : Nat → FieldType} (mi : zMI y bytes maxL ret n) (iv : zq (.instanceMethod y) ∧ zq (.selects C y y)) (lk : zq (.methodLink own idx y)) (ct : zCT ci C T N ty) {x : Option Nat} {F : AH → (Nat → AH → Prop) → (UInt32 → AH → Prop) → Prop} (hM : zTf Z X.2.1 y bytes maxL ret fr mc ms lo (va_rf x :: As) F) (rf : fr + 1 ≤ FR) (rl : 8 + (maxL + 11) + lo ≤ LO) (hn : As.length = n) (hst : (st.map fun v => v.category).sum ≤ 8) (hc : cells + mc ≤ MC) (hs : slots + ms ≤ MS) (d : decode cc pc = .ok (.invokevirtual idx, 3)) (hq : pc + 3 = q) {BX : Nat → AH → Prop} {B : UInt32 → AH → Prop} (hf : cast h x (ci + 1) (F h BX B)) {stk : List Value} (hk : stk = As.reverse ++ va_rf x :: st) (kx : ∀ (e : Nat) (h' : AH), BX e h' → VX Z X Q nL h' L (cells + mc) (slots + ms) pc e) (kk : ∀ (r : UInt32) (h' : AH), B r h' → V Z X Q nL h' L (cells + mc) (slots + ms) q (.float r :: st)) : V Z X Q nL h L cells slots pc stk := by
  subst hq
  subst hk
  intro H locs ls R b c
  obtain ⟨hx, hb, hml, hown, hT, hK, hS, hlk, hb0, htr, hRm⟩ := id hC
  obtain ⟨a, rfl, hka, hB⟩ := hf
  obtain ⟨cell, q1, q2, q3, -⟩ := (R.2.1 a ci ct.1 hka).2
  have hcls := (hK.1.1 ci _ ct.2.1).2
  exact vx_callf (vx_runV (C := C) ⟨hx, hb, hml, hown, (fun w hw => absurd hw List.not_mem_nil : ∀ w ∈ ([] : List Cond), w.before X.2.2.2.2.2.2.1 (zs X) = true)⟩ (hM h BX B) ⟨⟨rfl, rfl, by rw [hRm]; exact rf, by rw [hRm]; exact rl, mi.ws hT, List.mem_singleton.mpr rfl, zq_at hT mi.1 _, zq_at hT mi.2.1 _, ⟨mi.2.2.2.1, mi.2.2.2.2.1⟩, mi.len, zq_at hT lk _⟩, zq_at hT iv.1 _, zq_at hT iv.2 _⟩ ⟨zWd.blind, ⟨cell, q1, by rw [q3]; rfl, by rw [q2]; exact hcls.1⟩, fun U hU hW => ⟨rfl, zWd.of hC R b hU hW, hB⟩⟩ rfl hn c.1 rfl (lv_room hst) d ⟨by rw [hRm]; exact hc, by rw [hRm]; exact hs⟩) b (fun q _ hq => hq) (fun q hq => hq) (fun q _ hq => hq) (fun E ce q9 u t H1 locs1 ht hvm hp hB hz hk hS hce hv hcl => kx u.1 u.2 hp H1 locs1 ls ce q9 st (by have h9 := hB.2; rw [ht] at h9; exact h9.moved hvm.symm) hS c hce hv (by rw [← hB.1]; exact hcl)) (fun r u t H1 locs1 ht hvm hp hB hz hk hS => kk r u hp H1 locs1 ls (by rw [ht] at hB; exact hB.moved hvm.symm) hS c)
/-- a method that returns: every such kind of end -/
def zMd (Z : zT) (l : Launch) (y : MethodName) (bytes : ByteArray) (maxL : Nat) (ret : Option FieldType) (fr mc ms lo : Nat) (vs : List Value) (F : AH → (UInt64 → AH → Prop) → Prop) : Prop := ∀ (h : AH) (K : UInt64 → AH → Prop), Met l y [.code y bytes maxL ret] { frames := fr, cells := mc, slots := ms, locals := lo } (va_Pc vs (fun U => zWd Z h U ∧ F h K)) (zQd Z K) mc ms (zA Z)
/-- .. or throws -/
def zTd (Z : zT) (l : Launch) (y : MethodName) (bytes : ByteArray) (maxL : Nat) (ret : Option FieldType) (fr mc ms lo : Nat) (vs : List Value) (F : AH → (Nat → AH → Prop) → (UInt64 → AH → Prop) → Prop) : Prop := ∀ (h : AH) (Xf : Nat → AH → Prop) (K : UInt64 → AH → Prop), vx_Met l y [.code y bytes maxL ret] { frames := fr, cells := mc, slots := ms, locals := lo } (va_Pc vs (fun U => zWd Z h U ∧ F h Xf K)) (zQd Z K) (zXC Z Xf) mc ms (zA Z)
theorem z_callVd (hC : Cx Z X own cc nL FR MC MS LO) {y : MethodName} {bytes : ByteArray} {maxL n fr mc ms lo idx : Nat} {ret : Option FieldType} {As : List Value} {ci N : Nat} {C : String} {T : u_T} {ty : Nat → FieldType} (mi : zMI y bytes maxL ret n) (iv : zq (.instanceMethod y) ∧ zq (.selects C y y)) (lk : zq (.methodLink own idx y)) (ct : zCT ci C T N ty) {x : Option Nat} {F : AH → (UInt64 → AH → Prop) → Prop} (hM : zMd Z X.2.1 y bytes maxL ret fr mc ms lo (va_rf x :: As) F) (rf : fr + 1 ≤ FR) (rl : 8 + (maxL + 11) + lo ≤ LO) (hn : As.length = n) (hst : (st.map fun v => v.category).sum ≤ 8) (hc : cells + mc ≤ MC) (hs : slots + ms ≤ MS) (d : decode cc pc = .ok (.invokevirtual idx, 3)) (hq : pc + 3 = q) {B : UInt64 → AH → Prop} (hf : cast h x (ci + 1) (F h B)) {stk : List Value} (hk : stk = As.reverse ++ va_rf x :: st) (kk : ∀ (r : UInt64) (h' : AH), B r h' → V Z X Q nL h' L (cells + mc) (slots + ms) q (.double r :: st)) : V Z X Q nL h L cells slots pc stk := by
  subst hq
  subst hk
  intro H locs ls R b c
  obtain ⟨hx, hb, hml, hown, hT, hK, hS, hlk, hb0, htr, hRm⟩ := id hC
  obtain ⟨a, rfl, hka, hB⟩ := hf
  obtain ⟨cell, q1, q2, q3, -⟩ := (R.2.1 a ci ct.1 hka).2
  have hcls := (hK.1.1 ci _ ct.2.1).2
  exact va_calld (va_runV (C := C) ⟨hx, hb, hml, hown, (fun w hw => absurd hw List.not_mem_nil : ∀ w ∈ ([] : List Cond), w.before X.2.2.2.2.2.2.1 (zs X) = true)⟩ (hM h B) ⟨⟨rfl, rfl, by rw [hRm]; exact rf, by rw [hRm]; exact rl, mi.ws hT, List.mem_singleton.mpr rfl, zq_at hT mi.1 _, zq_at hT mi.2.1 _, ⟨mi.2.2.2.1, mi.2.2.2.2.1⟩, mi.len, zq_at hT lk _⟩, zq_at hT iv.1 _, zq_at hT iv.2 _⟩ ⟨zWd.blind, ⟨cell, q1, by rw [q3]; rfl, by rw [q2]; exact hcls.1⟩, fun U hU hW => ⟨rfl, zWd.of hC R b hU hW, hB⟩⟩ rfl hn c.1 rfl (lv_room hst) d ⟨by rw [hRm]; exact hc, by rw [hRm]; exact hs⟩) b (fun q _ hq => hq) (fun q hq => hq) (fun r u t H1 locs1 ht hvm hp hB hz hk hS => kk r u hp H1 locs1 ls (by rw [ht] at hB; exact hB.moved hvm.symm) hS c)
theorem z_callVNd (hC : Cx Z X own cc nL FR MC MS LO) {y : MethodName} {bytes : ByteArray} {maxL n fr mc ms lo idx : Nat} {ret : Option FieldType} {As : List Value} {host : String} {ci N : Nat} {C : String} {T : u_T} {ty : Nat → FieldType} (mi : zMI y bytes maxL ret n) (iv : zq (.instanceMethod y) ∧ zq (.selects C y y)) (lk : zq (.methodLinkNest own idx y host)) (ct : zCT ci C T N ty) {x : Option Nat} {F : AH → (UInt64 → AH → Prop) → Prop} (hM : zMd Z X.2.1 y bytes maxL ret fr mc ms lo (va_rf x :: As) F) (rf : fr + 1 ≤ FR) (rl : 8 + (maxL + 11) + lo ≤ LO) (hn : As.length = n) (hst : (st.map fun v => v.category).sum ≤ 8) (hc : cells + mc ≤ MC) (hs : slots + ms ≤ MS) (d : decode cc pc = .ok (.invokevirtual idx, 3)) (hq : pc + 3 = q) {B : UInt64 → AH → Prop} (hf : cast h x (ci + 1) (F h B)) {stk : List Value} (hk : stk = As.reverse ++ va_rf x :: st) (kk : ∀ (r : UInt64) (h' : AH), B r h' → V Z X Q nL h' L (cells + mc) (slots + ms) q (.double r :: st)) : V Z X Q nL h L cells slots pc stk := by
  subst hq
  subst hk
  intro H locs ls R b c
  obtain ⟨hx, hb, hml, hown, hT, hK, hS, hlk, hb0, htr, hRm⟩ := id hC
  obtain ⟨a, rfl, hka, hB⟩ := hf
  obtain ⟨cell, q1, q2, q3, -⟩ := (R.2.1 a ci ct.1 hka).2
  have hcls := (hK.1.1 ci _ ct.2.1).2
  exact va_calld (va_runVN (C := C) ⟨hx, hb, hml, hown, (fun w hw => absurd hw List.not_mem_nil : ∀ w ∈ ([] : List Cond), w.before X.2.2.2.2.2.2.1 (zs X) = true)⟩ (hM h B) ⟨⟨⟨rfl, rfl, by rw [hRm]; exact rf, by rw [hRm]; exact rl, mi.ws hT, List.mem_singleton.mpr rfl⟩, zq_at hT mi.1 _, zq_at hT mi.2.1 _, ⟨mi.2.2.2.1, mi.2.2.2.2.1⟩, mi.len, zq_at hT lk _⟩, zq_at hT iv.1 _, zq_at hT iv.2 _⟩ ⟨zWd.blind, ⟨cell, q1, by rw [q3]; rfl, by rw [q2]; exact hcls.1⟩, fun U hU hW => ⟨rfl, zWd.of hC R b hU hW, hB⟩⟩ rfl hn c.1 rfl (lv_room hst) d ⟨by rw [hRm]; exact hc, by rw [hRm]; exact hs⟩) b (fun q _ hq => hq) (fun q hq => hq) (fun r u t H1 locs1 ht hvm hp hB hz hk hS => kk r u hp H1 locs1 ls (by rw [ht] at hB; exact hB.moved hvm.symm) hS c)
theorem z_callSd (hC : Cx Z X own cc nL FR MC MS LO) {y : MethodName} {bytes : ByteArray} {maxL n fr mc ms lo idx : Nat} {ret : Option FieldType} {As : List Value} (mi : zMI y bytes maxL ret n) (iv : zq (.static y)) (lk : zq (.methodLink own idx y)) {F : AH → (UInt64 → AH → Prop) → Prop} (hM : zMd Z X.2.1 y bytes maxL ret fr mc ms lo As F) (rf : fr + 1 ≤ FR) (rl : 8 + (maxL + 11) + lo ≤ LO) (hn : As.length = n) (hst : (st.map fun v => v.category).sum ≤ 8) (hc : cells + mc ≤ MC) (hs : slots + ms ≤ MS) (d : decode cc pc = .ok (.invokestatic idx, 3)) (hq : pc + 3 = q) {B : UInt64 → AH → Prop} (hf : F h B) {stk : List Value} (hk : stk = As.reverse ++ st) (kk : ∀ (r : UInt64) (h' : AH), B r h' → V Z X Q nL h' L (cells + mc) (slots + ms) q (.double r :: st)) : V Z X Q nL h L cells slots pc stk := by
  subst hq
  subst hk
  intro H locs ls R b c
  obtain ⟨hx, hb, hml, hown, hT, hK, hS, hlk, hb0, htr, hRm⟩ := id hC
  exact va_calld (va_runS ⟨hx, hb, hml, hown, (fun w hw => absurd hw List.not_mem_nil : ∀ w ∈ ([] : List Cond), w.before X.2.2.2.2.2.2.1 (zs X) = true)⟩ (hM h B) ⟨⟨rfl, rfl, by rw [hRm]; exact rf, by rw [hRm]; exact rl, mi.ws hT, List.mem_singleton.mpr rfl, zq_at hT mi.1 _, zq_at hT mi.2.1 _, ⟨mi.2.2.2.1, mi.2.2.2.2.1⟩, mi.len, zq_at hT lk _⟩, zq_at hT iv _⟩ ⟨zWd.blind, fun U hU hW => ⟨rfl, zWd.of hC R b hU hW, hf⟩⟩ rfl hn c.1 rfl (lv_room hst) d ⟨by rw [hRm]; exact hc, by rw [hRm]; exact hs⟩) b (fun q _ hq => hq) (fun q hq => hq) (fun r u t H1 locs1 ht hvm hp hB hz hk hS => kk r u hp H1 locs1 ls (by rw [ht] at hB; exact hB.moved hvm.symm) hS c)
theorem z_callSNd (hC : Cx Z X own cc nL FR MC MS LO) {y : MethodName} {bytes : ByteArray} {maxL n fr mc ms lo idx : Nat} {ret : Option FieldType} {As : List Value} {host : String} (mi : zMI y bytes maxL ret n) (iv : zq (.static y)) (lk : zq (.methodLinkNest own idx y host)) {F : AH → (UInt64 → AH → Prop) → Prop} (hM : zMd Z X.2.1 y bytes maxL ret fr mc ms lo As F) (rf : fr + 1 ≤ FR) (rl : 8 + (maxL + 11) + lo ≤ LO) (hn : As.length = n) (hst : (st.map fun v => v.category).sum ≤ 8) (hc : cells + mc ≤ MC) (hs : slots + ms ≤ MS) (d : decode cc pc = .ok (.invokestatic idx, 3)) (hq : pc + 3 = q) {B : UInt64 → AH → Prop} (hf : F h B) {stk : List Value} (hk : stk = As.reverse ++ st) (kk : ∀ (r : UInt64) (h' : AH), B r h' → V Z X Q nL h' L (cells + mc) (slots + ms) q (.double r :: st)) : V Z X Q nL h L cells slots pc stk := by
  subst hq
  subst hk
  intro H locs ls R b c
  obtain ⟨hx, hb, hml, hown, hT, hK, hS, hlk, hb0, htr, hRm⟩ := id hC
  exact va_calld (va_runSN ⟨hx, hb, hml, hown, (fun w hw => absurd hw List.not_mem_nil : ∀ w ∈ ([] : List Cond), w.before X.2.2.2.2.2.2.1 (zs X) = true)⟩ (hM h B) ⟨⟨⟨rfl, rfl, by rw [hRm]; exact rf, by rw [hRm]; exact rl, mi.ws hT, List.mem_singleton.mpr rfl⟩, zq_at hT mi.1 _, zq_at hT mi.2.1 _, ⟨mi.2.2.2.1, mi.2.2.2.2.1⟩, mi.len, zq_at hT lk _⟩, zq_at hT iv _, trivial⟩ ⟨zWd.blind, fun U hU hW => ⟨rfl, zWd.of hC R b hU hW, hf⟩⟩ rfl hn c.1 rfl (lv_room hst) d ⟨by rw [hRm]; exact hc, by rw [hRm]; exact hs⟩) b (fun q _ hq => hq) (fun q hq => hq) (fun r u t H1 locs1 ht hvm hp hB hz hk hS => kk r u hp H1 locs1 ls (by rw [ht] at hB; exact hB.moved hvm.symm) hS c)
theorem z_callFd (hC : Cx Z X own cc nL FR MC MS LO) {y : MethodName} {bytes : ByteArray} {maxL n fr mc ms lo idx : Nat} {ret : Option FieldType} {As : List Value} {cnt ci N : Nat} {C : String} {T : u_T} {ty : Nat → FieldType} {x1 : MethodName} (mi : zMI y bytes maxL ret n) (iv : zq (.instanceMethod y) ∧ zq (.selects C x1 y)) (lk : zq (.methodLink own idx x1)) (hfw : (C, x1, y) ∈ zfw) (hd : x1.desc = y.desc) (ct : zCT ci C T N ty) {x : Option Nat} {F : AH → (UInt64 → AH → Prop) → Prop} (hM : zMd Z X.2.1 y bytes maxL ret fr mc ms lo (va_rf x :: As) F) (rf : fr + 1 ≤ FR) (rl : 8 + (maxL + 11) + lo ≤ LO) (hn : As.length = n) (hst : (st.map fun v => v.category).sum ≤ 8) (hc : cells + mc ≤ MC) (hs : slots + ms ≤ MS) (d : decode cc pc = .ok (.invokeinterface idx cnt, 5)) (hq : pc + 5 = q) {B : UInt64 → AH → Prop} (hf : cast h x (ci + 1) (F h B)) {stk : List Value} (hk : stk = As.reverse ++ va_rf x :: st) (kk : ∀ (r : UInt64) (h' : AH), B r h' → V Z X Q nL h' L (cells + mc) (slots + ms) q (.double r :: st)) : V Z X Q nL h L cells slots pc stk := by
  subst hq
  subst hk
  intro H locs ls R b c
  obtain ⟨hx, hb, hml, hown, hT, hK, hS, hlk, hb0, htr, hRm⟩ := id hC
  obtain ⟨a, rfl, hka, hB⟩ := hf
  obtain ⟨cell, q1, q2, q3, -⟩ := (R.2.1 a ci ct.1 hka).2
  have hcls := (hK.1.1 ci _ ct.2.1).2
  obtain ⟨f1, f2, f3, f4, f5⟩ := hT.2 _ hfw
  have cw : va_CI X.2.2.2.1 (zs X) X.2.2.2.2.2.2.1 own C idx x1 y bytes maxL ret [.code y bytes maxL ret] { frames := fr, cells := mc, slots := ms, locals := lo } mc ms n := ⟨⟨rfl, rfl, by rw [hRm]; exact rf, by rw [hRm]; exact rl, mi.ws hT, List.mem_singleton.mpr rfl⟩, zq_at hT lk _, va_any rfl f1, va_any rfl f2, zq_at hT iv.2 _, zq_at hT iv.1 _, va_any rfl f3, va_any rfl f4, va_any rfl f5, zq_at hT mi.2.1 _, zq_at hT mi.1 _, zfw_ok _ hfw, fun sig h => mi.len sig (by rw [← hd]; exact h)⟩
  exact va_callFd (va_runF hcls ⟨hx, hb, hml, hown, (fun w hw => absurd hw List.not_mem_nil : ∀ w ∈ ([] : List Cond), w.before X.2.2.2.2.2.2.1 (zs X) = true)⟩ (hM h B) cw ⟨zWd.blind, ⟨cell, q1, by rw [q3]; rfl, by rw [q2]; exact hcls.1⟩, fun U hU hW => ⟨rfl, zWd.of hC R b hU hW, hB⟩⟩ rfl hn c.1 rfl (lv_room hst) d ⟨by rw [hRm]; exact hc, by rw [hRm]; exact hs⟩) b (fun q _ hq => hq) (fun q hq => hq) (fun r u t H1 locs1 ht hvm hp hB hz hk hS => kk r u hp H1 locs1 ls (by rw [ht] at hB; exact hB.moved hvm.symm) hS c)
theorem z_callTd (hC : Cx Z X own cc nL FR MC MS LO) {y : MethodName} {bytes : ByteArray} {maxL n fr mc ms lo idx : Nat} {ret : Option FieldType} {As : List Value} {ci N : Nat} {C : String} {T : u_T} {ty : Nat → FieldType} (mi : zMI y bytes maxL ret n) (iv : zq (.instanceMethod y) ∧ zq (.selects C y y)) (lk : zq (.methodLink own idx y)) (ct : zCT ci C T N ty) {x : Option Nat} {F : AH → (Nat → AH → Prop) → (UInt64 → AH → Prop) → Prop} (hM : zTd Z X.2.1 y bytes maxL ret fr mc ms lo (va_rf x :: As) F) (rf : fr + 1 ≤ FR) (rl : 8 + (maxL + 11) + lo ≤ LO) (hn : As.length = n) (hst : (st.map fun v => v.category).sum ≤ 8) (hc : cells + mc ≤ MC) (hs : slots + ms ≤ MS) (d : decode cc pc = .ok (.invokevirtual idx, 3)) (hq : pc + 3 = q) {BX : Nat → AH → Prop} {B : UInt64 → AH → Prop} (hf : cast h x (ci + 1) (F h BX B)) {stk : List Value} (hk : stk = As.reverse ++ va_rf x :: st) (kx : ∀ (e : Nat) (h' : AH), BX e h' → VX Z X Q nL h' L (cells + mc) (slots + ms) pc e) (kk : ∀ (r : UInt64) (h' : AH), B r h' → V Z X Q nL h' L (cells + mc) (slots + ms) q (.double r :: st)) : V Z X Q nL h L cells slots pc stk := by
  subst hq
  subst hk
  intro H locs ls R b c
  obtain ⟨hx, hb, hml, hown, hT, hK, hS, hlk, hb0, htr, hRm⟩ := id hC
  obtain ⟨a, rfl, hka, hB⟩ := hf
  obtain ⟨cell, q1, q2, q3, -⟩ := (R.2.1 a ci ct.1 hka).2
  have hcls := (hK.1.1 ci _ ct.2.1).2
  exact vx_calld (vx_runV (C := C) ⟨hx, hb, hml, hown, (fun w hw => absurd hw List.not_mem_nil : ∀ w ∈ ([] : List Cond), w.before X.2.2.2.2.2.2.1 (zs X) = true)⟩ (hM h BX B) ⟨⟨rfl, rfl, by rw [hRm]; exact rf, by rw [hRm]; exact rl, mi.ws hT, List.mem_singleton.mpr rfl, zq_at hT mi.1 _, zq_at hT mi.2.1 _, ⟨mi.2.2.2.1, mi.2.2.2.2.1⟩, mi.len, zq_at hT lk _⟩, zq_at hT iv.1 _, zq_at hT iv.2 _⟩ ⟨zWd.blind, ⟨cell, q1, by rw [q3]; rfl, by rw [q2]; exact hcls.1⟩, fun U hU hW => ⟨rfl, zWd.of hC R b hU hW, hB⟩⟩ rfl hn c.1 rfl (lv_room hst) d ⟨by rw [hRm]; exact hc, by rw [hRm]; exact hs⟩) b (fun q _ hq => hq) (fun q hq => hq) (fun q _ hq => hq) (fun E ce q9 u t H1 locs1 ht hvm hp hB hz hk hS hce hv hcl => kx u.1 u.2 hp H1 locs1 ls ce q9 st (by have h9 := hB.2; rw [ht] at h9; exact h9.moved hvm.symm) hS c hce hv (by rw [← hB.1]; exact hcl)) (fun r u t H1 locs1 ht hvm hp hB hz hk hS => kk r u hp H1 locs1 ls (by rw [ht] at hB; exact hB.moved hvm.symm) hS c)
/-- a method that returns: every such kind of end -/
def zMq (Z : zT) (l : Launch) (y : MethodName) (bytes : ByteArray) (maxL : Nat) (ret : Option FieldType) (fr mc ms lo : Nat) (vs : List Value) (F : AH → (Option Nat → AH → Prop) → Prop) : Prop := ∀ (h : AH) (K : Option Nat → AH → Prop), Met l y [.code y bytes maxL ret] { frames := fr, cells := mc, slots := ms, locals := lo } (va_Pc vs (fun U => zWd Z h U ∧ F h K)) (zQq Z K) mc ms (zA Z)
/-- .. or throws -/
def zTq (Z : zT) (l : Launch) (y : MethodName) (bytes : ByteArray) (maxL : Nat) (ret : Option FieldType) (fr mc ms lo : Nat) (vs : List Value) (F : AH → (Nat → AH → Prop) → (Option Nat → AH → Prop) → Prop) : Prop := ∀ (h : AH) (Xf : Nat → AH → Prop) (K : Option Nat → AH → Prop), vx_Met l y [.code y bytes maxL ret] { frames := fr, cells := mc, slots := ms, locals := lo } (va_Pc vs (fun U => zWd Z h U ∧ F h Xf K)) (zQq Z K) (zXC Z Xf) mc ms (zA Z)
theorem z_callVq (hC : Cx Z X own cc nL FR MC MS LO) {y : MethodName} {bytes : ByteArray} {maxL n fr mc ms lo idx : Nat} {ret : Option FieldType} {As : List Value} {ci N : Nat} {C : String} {T : u_T} {ty : Nat → FieldType} (mi : zMI y bytes maxL ret n) (iv : zq (.instanceMethod y) ∧ zq (.selects C y y)) (lk : zq (.methodLink own idx y)) (ct : zCT ci C T N ty) {x : Option Nat} {F : AH → (Option Nat → AH → Prop) → Prop} (hM : zMq Z X.2.1 y bytes maxL ret fr mc ms lo (va_rf x :: As) F) (rf : fr + 1 ≤ FR) (rl : 8 + (maxL + 11) + lo ≤ LO) (hn : As.length = n) (hst : (st.map fun v => v.category).sum ≤ 8) (hc : cells + mc ≤ MC) (hs : slots + ms ≤ MS) (d : decode cc pc = .ok (.invokevirtual idx, 3)) (hq : pc + 3 = q) {B : Option Nat → AH → Prop} (hf : cast h x (ci + 1) (F h B)) {stk : List Value} (hk : stk = As.reverse ++ va_rf x :: st) (kk : ∀ (r : Option Nat) (h' : AH), B r h' → V Z X Q nL h' L (cells + mc) (slots + ms) q (va_rf r :: st)) : V Z X Q nL h L cells slots pc stk := by
  subst hq
  subst hk
  intro H locs ls R b c
  obtain ⟨hx, hb, hml, hown, hT, hK, hS, hlk, hb0, htr, hRm⟩ := id hC
  obtain ⟨a, rfl, hka, hB⟩ := hf
  obtain ⟨cell, q1, q2, q3, -⟩ := (R.2.1 a ci ct.1 hka).2
  have hcls := (hK.1.1 ci _ ct.2.1).2
  exact va_callq (va_runV (C := C) ⟨hx, hb, hml, hown, (fun w hw => absurd hw List.not_mem_nil : ∀ w ∈ ([] : List Cond), w.before X.2.2.2.2.2.2.1 (zs X) = true)⟩ (hM h B) ⟨⟨rfl, rfl, by rw [hRm]; exact rf, by rw [hRm]; exact rl, mi.ws hT, List.mem_singleton.mpr rfl, zq_at hT mi.1 _, zq_at hT mi.2.1 _, ⟨mi.2.2.2.1, mi.2.2.2.2.1⟩, mi.len, zq_at hT lk _⟩, zq_at hT iv.1 _, zq_at hT iv.2 _⟩ ⟨zWd.blind, ⟨cell, q1, by rw [q3]; rfl, by rw [q2]; exact hcls.1⟩, fun U hU hW => ⟨rfl, zWd.of hC R b hU hW, hB⟩⟩ rfl hn c.1 rfl (lv_room hst) d ⟨by rw [hRm]; exact hc, by rw [hRm]; exact hs⟩) b (fun q _ hq => hq) (fun q hq => hq) (fun r u t H1 locs1 ht hvm hp hB hz hk hS => kk r u hp H1 locs1 ls (by rw [ht] at hB; exact hB.moved hvm.symm) hS c)
theorem z_callVNq (hC : Cx Z X own cc nL FR MC MS LO) {y : MethodName} {bytes : ByteArray} {maxL n fr mc ms lo idx : Nat} {ret : Option FieldType} {As : List Value} {host : String} {ci N : Nat} {C : String} {T : u_T} {ty : Nat → FieldType} (mi : zMI y bytes maxL ret n) (iv : zq (.instanceMethod y) ∧ zq (.selects C y y)) (lk : zq (.methodLinkNest own idx y host)) (ct : zCT ci C T N ty) {x : Option Nat} {F : AH → (Option Nat → AH → Prop) → Prop} (hM : zMq Z X.2.1 y bytes maxL ret fr mc ms lo (va_rf x :: As) F) (rf : fr + 1 ≤ FR) (rl : 8 + (maxL + 11) + lo ≤ LO) (hn : As.length = n) (hst : (st.map fun v => v.category).sum ≤ 8) (hc : cells + mc ≤ MC) (hs : slots + ms ≤ MS) (d : decode cc pc = .ok (.invokevirtual idx, 3)) (hq : pc + 3 = q) {B : Option Nat → AH → Prop} (hf : cast h x (ci + 1) (F h B)) {stk : List Value} (hk : stk = As.reverse ++ va_rf x :: st) (kk : ∀ (r : Option Nat) (h' : AH), B r h' → V Z X Q nL h' L (cells + mc) (slots + ms) q (va_rf r :: st)) : V Z X Q nL h L cells slots pc stk := by
  subst hq
  subst hk
  intro H locs ls R b c
  obtain ⟨hx, hb, hml, hown, hT, hK, hS, hlk, hb0, htr, hRm⟩ := id hC
  obtain ⟨a, rfl, hka, hB⟩ := hf
  obtain ⟨cell, q1, q2, q3, -⟩ := (R.2.1 a ci ct.1 hka).2
  have hcls := (hK.1.1 ci _ ct.2.1).2
  exact va_callq (va_runVN (C := C) ⟨hx, hb, hml, hown, (fun w hw => absurd hw List.not_mem_nil : ∀ w ∈ ([] : List Cond), w.before X.2.2.2.2.2.2.1 (zs X) = true)⟩ (hM h B) ⟨⟨⟨rfl, rfl, by rw [hRm]; exact rf, by rw [hRm]; exact rl, mi.ws hT, List.mem_singleton.mpr rfl⟩, zq_at hT mi.1 _, zq_at hT mi.2.1 _, ⟨mi.2.2.2.1, mi.2.2.2.2.1⟩, mi.len, zq_at hT lk _⟩, zq_at hT iv.1 _, zq_at hT iv.2 _⟩ ⟨zWd.blind, ⟨cell, q1, by rw [q3]; rfl, by rw [q2]; exact hcls.1⟩, fun U hU hW => ⟨rfl, zWd.of hC R b hU hW, hB⟩⟩ rfl hn c.1 rfl (lv_room hst) d ⟨by rw [hRm]; exact hc, by rw [hRm]; exact hs⟩) b (fun q _ hq => hq) (fun q hq => hq) (fun r u t H1 locs1 ht hvm hp hB hz hk hS => kk r u hp H1 locs1 ls (by rw [ht] at hB; exact hB.moved hvm.symm) hS c)
theorem z_callSq (hC : Cx Z X own cc nL FR MC MS LO) {y : MethodName} {bytes : ByteArray} {maxL n fr mc ms lo idx : Nat} {ret : Option FieldType} {As : List Value} (mi : zMI y bytes maxL ret n) (iv : zq (.static y)) (lk : zq (.methodLink own idx y)) {F : AH → (Option Nat → AH → Prop) → Prop} (hM : zMq Z X.2.1 y bytes maxL ret fr mc ms lo As F) (rf : fr + 1 ≤ FR) (rl : 8 + (maxL + 11) + lo ≤ LO) (hn : As.length = n) (hst : (st.map fun v => v.category).sum ≤ 8) (hc : cells + mc ≤ MC) (hs : slots + ms ≤ MS) (d : decode cc pc = .ok (.invokestatic idx, 3)) (hq : pc + 3 = q) {B : Option Nat → AH → Prop} (hf : F h B) {stk : List Value} (hk : stk = As.reverse ++ st) (kk : ∀ (r : Option Nat) (h' : AH), B r h' → V Z X Q nL h' L (cells + mc) (slots + ms) q (va_rf r :: st)) : V Z X Q nL h L cells slots pc stk := by
  subst hq
  subst hk
  intro H locs ls R b c
  obtain ⟨hx, hb, hml, hown, hT, hK, hS, hlk, hb0, htr, hRm⟩ := id hC
  exact va_callq (va_runS ⟨hx, hb, hml, hown, (fun w hw => absurd hw List.not_mem_nil : ∀ w ∈ ([] : List Cond), w.before X.2.2.2.2.2.2.1 (zs X) = true)⟩ (hM h B) ⟨⟨rfl, rfl, by rw [hRm]; exact rf, by rw [hRm]; exact rl, mi.ws hT, List.mem_singleton.mpr rfl, zq_at hT mi.1 _, zq_at hT mi.2.1 _, ⟨mi.2.2.2.1, mi.2.2.2.2.1⟩, mi.len, zq_at hT lk _⟩, zq_at hT iv _⟩ ⟨zWd.blind, fun U hU hW => ⟨rfl, zWd.of hC R b hU hW, hf⟩⟩ rfl hn c.1 rfl (lv_room hst) d ⟨by rw [hRm]; exact hc, by rw [hRm]; exact hs⟩) b (fun q _ hq => hq) (fun q hq => hq) (fun r u t H1 locs1 ht hvm hp hB hz hk hS => kk r u hp H1 locs1 ls (by rw [ht] at hB; exact hB.moved hvm.symm) hS c)
theorem z_callSNq (hC : Cx Z X own cc nL FR MC MS LO) {y : MethodName} {bytes : ByteArray} {maxL n fr mc ms lo idx : Nat} {ret : Option FieldType} {As : List Value} {host : String} (mi : zMI y bytes maxL ret n) (iv : zq (.static y)) (lk : zq (.methodLinkNest own idx y host)) {F : AH → (Option Nat → AH → Prop) → Prop} (hM : zMq Z X.2.1 y bytes maxL ret fr mc ms lo As F) (rf : fr + 1 ≤ FR) (rl : 8 + (maxL + 11) + lo ≤ LO) (hn : As.length = n) (hst : (st.map fun v => v.category).sum ≤ 8) (hc : cells + mc ≤ MC) (hs : slots + ms ≤ MS) (d : decode cc pc = .ok (.invokestatic idx, 3)) (hq : pc + 3 = q) {B : Option Nat → AH → Prop} (hf : F h B) {stk : List Value} (hk : stk = As.reverse ++ st) (kk : ∀ (r : Option Nat) (h' : AH), B r h' → V Z X Q nL h' L (cells + mc) (slots + ms) q (va_rf r :: st)) : V Z X Q nL h L cells slots pc stk := by
  subst hq
  subst hk
  intro H locs ls R b c
  obtain ⟨hx, hb, hml, hown, hT, hK, hS, hlk, hb0, htr, hRm⟩ := id hC
  exact va_callq (va_runSN ⟨hx, hb, hml, hown, (fun w hw => absurd hw List.not_mem_nil : ∀ w ∈ ([] : List Cond), w.before X.2.2.2.2.2.2.1 (zs X) = true)⟩ (hM h B) ⟨⟨⟨rfl, rfl, by rw [hRm]; exact rf, by rw [hRm]; exact rl, mi.ws hT, List.mem_singleton.mpr rfl⟩, zq_at hT mi.1 _, zq_at hT mi.2.1 _, ⟨mi.2.2.2.1, mi.2.2.2.2.1⟩, mi.len, zq_at hT lk _⟩, zq_at hT iv _, trivial⟩ ⟨zWd.blind, fun U hU hW => ⟨rfl, zWd.of hC R b hU hW, hf⟩⟩ rfl hn c.1 rfl (lv_room hst) d ⟨by rw [hRm]; exact hc, by rw [hRm]; exact hs⟩) b (fun q _ hq => hq) (fun q hq => hq) (fun r u t H1 locs1 ht hvm hp hB hz hk hS => kk r u hp H1 locs1 ls (by rw [ht] at hB; exact hB.moved hvm.symm) hS c)
theorem z_callFq (hC : Cx Z X own cc nL FR MC MS LO) {y : MethodName} {bytes : ByteArray} {maxL n fr mc ms lo idx : Nat} {ret : Option FieldType} {As : List Value} {cnt ci N : Nat} {C : String} {T : u_T} {ty : Nat → FieldType} {x1 : MethodName} (mi : zMI y bytes maxL ret n) (iv : zq (.instanceMethod y) ∧ zq (.selects C x1 y)) (lk : zq (.methodLink own idx x1)) (hfw : (C, x1, y) ∈ zfw) (hd : x1.desc = y.desc) (ct : zCT ci C T N ty) {x : Option Nat} {F : AH → (Option Nat → AH → Prop) → Prop} (hM : zMq Z X.2.1 y bytes maxL ret fr mc ms lo (va_rf x :: As) F) (rf : fr + 1 ≤ FR) (rl : 8 + (maxL + 11) + lo ≤ LO) (hn : As.length = n) (hst : (st.map fun v => v.category).sum ≤ 8) (hc : cells + mc ≤ MC) (hs : slots + ms ≤ MS) (d : decode cc pc = .ok (.invokeinterface idx cnt, 5)) (hq : pc + 5 = q) {B : Option Nat → AH → Prop} (hf : cast h x (ci + 1) (F h B)) {stk : List Value} (hk : stk = As.reverse ++ va_rf x :: st) (kk : ∀ (r : Option Nat) (h' : AH), B r h' → V Z X Q nL h' L (cells + mc) (slots + ms) q (va_rf r :: st)) : V Z X Q nL h L cells slots pc stk := by
  subst hq
  subst hk
  intro H locs ls R b c
  obtain ⟨hx, hb, hml, hown, hT, hK, hS, hlk, hb0, htr, hRm⟩ := id hC
  obtain ⟨a, rfl, hka, hB⟩ := hf
  obtain ⟨cell, q1, q2, q3, -⟩ := (R.2.1 a ci ct.1 hka).2
  have hcls := (hK.1.1 ci _ ct.2.1).2
  obtain ⟨f1, f2, f3, f4, f5⟩ := hT.2 _ hfw
  have cw : va_CI X.2.2.2.1 (zs X) X.2.2.2.2.2.2.1 own C idx x1 y bytes maxL ret [.code y bytes maxL ret] { frames := fr, cells := mc, slots := ms, locals := lo } mc ms n := ⟨⟨rfl, rfl, by rw [hRm]; exact rf, by rw [hRm]; exact rl, mi.ws hT, List.mem_singleton.mpr rfl⟩, zq_at hT lk _, va_any rfl f1, va_any rfl f2, zq_at hT iv.2 _, zq_at hT iv.1 _, va_any rfl f3, va_any rfl f4, va_any rfl f5, zq_at hT mi.2.1 _, zq_at hT mi.1 _, zfw_ok _ hfw, fun sig h => mi.len sig (by rw [← hd]; exact h)⟩
  exact va_callFq (va_runF hcls ⟨hx, hb, hml, hown, (fun w hw => absurd hw List.not_mem_nil : ∀ w ∈ ([] : List Cond), w.before X.2.2.2.2.2.2.1 (zs X) = true)⟩ (hM h B) cw ⟨zWd.blind, ⟨cell, q1, by rw [q3]; rfl, by rw [q2]; exact hcls.1⟩, fun U hU hW => ⟨rfl, zWd.of hC R b hU hW, hB⟩⟩ rfl hn c.1 rfl (lv_room hst) d ⟨by rw [hRm]; exact hc, by rw [hRm]; exact hs⟩) b (fun q _ hq => hq) (fun q hq => hq) (fun r u t H1 locs1 ht hvm hp hB hz hk hS => kk r u hp H1 locs1 ls (by rw [ht] at hB; exact hB.moved hvm.symm) hS c)
theorem z_callTq (hC : Cx Z X own cc nL FR MC MS LO) {y : MethodName} {bytes : ByteArray} {maxL n fr mc ms lo idx : Nat} {ret : Option FieldType} {As : List Value} {ci N : Nat} {C : String} {T : u_T} {ty : Nat → FieldType} (mi : zMI y bytes maxL ret n) (iv : zq (.instanceMethod y) ∧ zq (.selects C y y)) (lk : zq (.methodLink own idx y)) (ct : zCT ci C T N ty) {x : Option Nat} {F : AH → (Nat → AH → Prop) → (Option Nat → AH → Prop) → Prop} (hM : zTq Z X.2.1 y bytes maxL ret fr mc ms lo (va_rf x :: As) F) (rf : fr + 1 ≤ FR) (rl : 8 + (maxL + 11) + lo ≤ LO) (hn : As.length = n) (hst : (st.map fun v => v.category).sum ≤ 8) (hc : cells + mc ≤ MC) (hs : slots + ms ≤ MS) (d : decode cc pc = .ok (.invokevirtual idx, 3)) (hq : pc + 3 = q) {BX : Nat → AH → Prop} {B : Option Nat → AH → Prop} (hf : cast h x (ci + 1) (F h BX B)) {stk : List Value} (hk : stk = As.reverse ++ va_rf x :: st) (kx : ∀ (e : Nat) (h' : AH), BX e h' → VX Z X Q nL h' L (cells + mc) (slots + ms) pc e) (kk : ∀ (r : Option Nat) (h' : AH), B r h' → V Z X Q nL h' L (cells + mc) (slots + ms) q (va_rf r :: st)) : V Z X Q nL h L cells slots pc stk := by
  subst hq
  subst hk
  intro H locs ls R b c
  obtain ⟨hx, hb, hml, hown, hT, hK, hS, hlk, hb0, htr, hRm⟩ := id hC
  obtain ⟨a, rfl, hka, hB⟩ := hf
  obtain ⟨cell, q1, q2, q3, -⟩ := (R.2.1 a ci ct.1 hka).2
  have hcls := (hK.1.1 ci _ ct.2.1).2
  exact vx_callq (vx_runV (C := C) ⟨hx, hb, hml, hown, (fun w hw => absurd hw List.not_mem_nil : ∀ w ∈ ([] : List Cond), w.before X.2.2.2.2.2.2.1 (zs X) = true)⟩ (hM h BX B) ⟨⟨rfl, rfl, by rw [hRm]; exact rf, by rw [hRm]; exact rl, mi.ws hT, List.mem_singleton.mpr rfl, zq_at hT mi.1 _, zq_at hT mi.2.1 _, ⟨mi.2.2.2.1, mi.2.2.2.2.1⟩, mi.len, zq_at hT lk _⟩, zq_at hT iv.1 _, zq_at hT iv.2 _⟩ ⟨zWd.blind, ⟨cell, q1, by rw [q3]; rfl, by rw [q2]; exact hcls.1⟩, fun U hU hW => ⟨rfl, zWd.of hC R b hU hW, hB⟩⟩ rfl hn c.1 rfl (lv_room hst) d ⟨by rw [hRm]; exact hc, by rw [hRm]; exact hs⟩) b (fun q _ hq => hq) (fun q hq => hq) (fun q _ hq => hq) (fun E ce q9 u t H1 locs1 ht hvm hp hB hz hk hS hce hv hcl => kx u.1 u.2 hp H1 locs1 ls ce q9 st (by have h9 := hB.2; rw [ht] at h9; exact h9.moved hvm.symm) hS c hce hv (by rw [← hB.1]; exact hcl)) (fun r u t H1 locs1 ht hvm hp hB hz hk hS => kk r u hp H1 locs1 ls (by rw [ht] at hB; exact hB.moved hvm.symm) hS c)
/-- a method that returns: every such kind of end -/
def zMv (Z : zT) (l : Launch) (y : MethodName) (bytes : ByteArray) (maxL : Nat) (ret : Option FieldType) (fr mc ms lo : Nat) (vs : List Value) (F : AH → (AH → Prop) → Prop) : Prop := ∀ (h : AH) (K : AH → Prop), Met l y [.code y bytes maxL ret] { frames := fr, cells := mc, slots := ms, locals := lo } (va_Pc vs (fun U => zWd Z h U ∧ F h K)) (zQv Z K) mc ms (zA Z)
/-- .. or throws -/
def zTv (Z : zT) (l : Launch) (y : MethodName) (bytes : ByteArray) (maxL : Nat) (ret : Option FieldType) (fr mc ms lo : Nat) (vs : List Value) (F : AH → (Nat → AH → Prop) → (AH → Prop) → Prop) : Prop := ∀ (h : AH) (Xf : Nat → AH → Prop) (K : AH → Prop), vx_Met l y [.code y bytes maxL ret] { frames := fr, cells := mc, slots := ms, locals := lo } (va_Pc vs (fun U => zWd Z h U ∧ F h Xf K)) (zQv Z K) (zXC Z Xf) mc ms (zA Z)
theorem z_callVv (hC : Cx Z X own cc nL FR MC MS LO) {y : MethodName} {bytes : ByteArray} {maxL n fr mc ms lo idx : Nat} {ret : Option FieldType} {As : List Value} {ci N : Nat} {C : String} {T : u_T} {ty : Nat → FieldType} (mi : zMI y bytes maxL ret n) (iv : zq (.instanceMethod y) ∧ zq (.selects C y y)) (lk : zq (.methodLink own idx y)) (ct : zCT ci C T N ty) {x : Option Nat} {F : AH → (AH → Prop) → Prop} (hM : zMv Z X.2.1 y bytes maxL ret fr mc ms lo (va_rf x :: As) F) (rf : fr + 1 ≤ FR) (rl : 8 + (maxL + 11) + lo ≤ LO) (hn : As.length = n) (hst : (st.map fun v => v.category).sum ≤ 8) (hc : cells + mc ≤ MC) (hs : slots + ms ≤ MS) (d : decode cc pc = .ok (.invokevirtual idx, 3)) (hq : pc + 3 = q) {B : AH → Prop} (hf : cast h x (ci + 1) (F h B)) {stk : List Value} (hk : stk = As.reverse ++ va_rf x :: st) (kk : ∀ (h' : AH), B h' → V Z X Q nL h' L (cells + mc) (slots + ms) q (st)) : V Z X Q nL h L cells slots pc stk := by
  subst hq
  subst hk
  intro H locs ls R b c
  obtain ⟨hx, hb, hml, hown, hT, hK, hS, hlk, hb0, htr, hRm⟩ := id hC
  obtain ⟨a, rfl, hka, hB⟩ := hf
  obtain ⟨cell, q1, q2, q3, -⟩ := (R.2.1 a ci ct.1 hka).2
  have hcls := (hK.1.1 ci _ ct.2.1).2
  exact va_callv (va_runV (C := C) ⟨hx, hb, hml, hown, (fun w hw => absurd hw List.not_mem_nil : ∀ w ∈ ([] : List Cond), w.before X.2.2.2.2.2.2.1 (zs X) = true)⟩ (hM h B) ⟨⟨rfl, rfl, by rw [hRm]; exact rf, by rw [hRm]; exact rl, mi.ws hT, List.mem_singleton.mpr rfl, zq_at hT mi.1 _, zq_at hT mi.2.1 _, ⟨mi.2.2.2.1, mi.2.2.2.2.1⟩, mi.len, zq_at hT lk _⟩, zq_at hT iv.1 _, zq_at hT iv.2 _⟩ ⟨zWd.blind, ⟨cell, q1, by rw [q3]; rfl, by rw [q2]; exact hcls.1⟩, fun U hU hW => ⟨rfl, zWd.of hC R b hU hW, hB⟩⟩ rfl hn c.1 rfl (lv_room hst) d ⟨by rw [hRm]; exact hc, by rw [hRm]; exact hs⟩) b (fun q _ hq => hq) (fun q hq => hq) (fun u t H1 locs1 ht hvm hp hB hz hk hS => kk u hp H1 locs1 ls (by rw [ht] at hB; exact hB.moved hvm.symm) hS c)
theorem z_callVNv (hC : Cx Z X own cc nL FR MC MS LO) {y : MethodName} {bytes : ByteArray} {maxL n fr mc ms lo idx : Nat} {ret : Option FieldType} {As : List Value} {host : String} {ci N : Nat} {C : String} {T : u_T} {ty : Nat → FieldType} (mi : zMI y bytes maxL ret n) (iv : zq (.instanceMethod y) ∧ zq (.selects C y y)) (lk : zq (.methodLinkNest own idx y host)) (ct : zCT ci C T N ty) {x : Option Nat} {F : AH → (AH → Prop) → Prop} (hM : zMv Z X.2.1 y bytes maxL ret fr mc ms lo (va_rf x :: As) F) (rf : fr + 1 ≤ FR) (rl : 8 + (maxL + 11) + lo ≤ LO) (hn : As.length = n) (hst : (st.map fun v => v.category).sum ≤ 8) (hc : cells + mc ≤ MC) (hs : slots + ms ≤ MS) (d : decode cc pc = .ok (.invokevirtual idx, 3)) (hq : pc + 3 = q) {B : AH → Prop} (hf : cast h x (ci + 1) (F h B)) {stk : List Value} (hk : stk = As.reverse ++ va_rf x :: st) (kk : ∀ (h' : AH), B h' → V Z X Q nL h' L (cells + mc) (slots + ms) q (st)) : V Z X Q nL h L cells slots pc stk := by
  subst hq
  subst hk
  intro H locs ls R b c
  obtain ⟨hx, hb, hml, hown, hT, hK, hS, hlk, hb0, htr, hRm⟩ := id hC
  obtain ⟨a, rfl, hka, hB⟩ := hf
  obtain ⟨cell, q1, q2, q3, -⟩ := (R.2.1 a ci ct.1 hka).2
  have hcls := (hK.1.1 ci _ ct.2.1).2
  exact va_callv (va_runVN (C := C) ⟨hx, hb, hml, hown, (fun w hw => absurd hw List.not_mem_nil : ∀ w ∈ ([] : List Cond), w.before X.2.2.2.2.2.2.1 (zs X) = true)⟩ (hM h B) ⟨⟨⟨rfl, rfl, by rw [hRm]; exact rf, by rw [hRm]; exact rl, mi.ws hT, List.mem_singleton.mpr rfl⟩, zq_at hT mi.1 _, zq_at hT mi.2.1 _, ⟨mi.2.2.2.1, mi.2.2.2.2.1⟩, mi.len, zq_at hT lk _⟩, zq_at hT iv.1 _, zq_at hT iv.2 _⟩ ⟨zWd.blind, ⟨cell, q1, by rw [q3]; rfl, by rw [q2]; exact hcls.1⟩, fun U hU hW => ⟨rfl, zWd.of hC R b hU hW, hB⟩⟩ rfl hn c.1 rfl (lv_room hst) d ⟨by rw [hRm]; exact hc, by rw [hRm]; exact hs⟩) b (fun q _ hq => hq) (fun q hq => hq) (fun u t H1 locs1 ht hvm hp hB hz hk hS => kk u hp H1 locs1 ls (by rw [ht] at hB; exact hB.moved hvm.symm) hS c)
theorem z_callIv (hC : Cx Z X own cc nL FR MC MS LO) {y : MethodName} {bytes : ByteArray} {maxL n fr mc ms lo idx : Nat} {As : List Value} (mi : zMI y bytes maxL none n) (hy1 : y.name = "<init>") (iv : zq (.instanceMethod y)) (lk : zq (.methodLink own idx y)) {x : Option Nat} {F : AH → (AH → Prop) → Prop} (hM : zMv Z X.2.1 y bytes maxL none fr mc ms lo (va_rf x :: As) F) (rf : fr + 1 ≤ FR) (rl : 8 + (maxL + 11) + lo ≤ LO) (hn : As.length = n) (hst : (st.map fun v => v.category).sum ≤ 8) (hc : cells + mc ≤ MC) (hs : slots + ms ≤ MS) (d : decode cc pc = .ok (.invokespecial idx, 3)) (hq : pc + 3 = q) {B : AH → Prop} (hf : nn x (F h B)) {stk : List Value} (hk : stk = As.reverse ++ va_rf x :: st) (kk : ∀ (h' : AH), B h' → V Z X Q nL h' L (cells + mc) (slots + ms) q (st)) : V Z X Q nL h L cells slots pc stk := by
  subst hq
  subst hk
  intro H locs ls R b c
  obtain ⟨hx, hb, hml, hown, hT, hK, hS, hlk, hb0, htr, hRm⟩ := id hC
  obtain ⟨a, rfl, hB⟩ := hf
  exact va_callv (va_runI ⟨hx, hb, hml, hown, (fun w hw => absurd hw List.not_mem_nil : ∀ w ∈ ([] : List Cond), w.before X.2.2.2.2.2.2.1 (zs X) = true)⟩ (hM h B) ⟨⟨rfl, rfl, by rw [hRm]; exact rf, by rw [hRm]; exact rl, mi.ws hT, List.mem_singleton.mpr rfl, zq_at hT mi.1 _, zq_at hT mi.2.1 _, ⟨mi.2.2.2.1, mi.2.2.2.2.1⟩, mi.len, zq_at hT lk _⟩, hy1, zq_at hT iv _⟩ ⟨zWd.blind, fun U hU hW => ⟨rfl, zWd.of hC R b hU hW, hB⟩⟩ rfl hn c.1 rfl (lv_room hst) d ⟨by rw [hRm]; exact hc, by rw [hRm]; exact hs⟩) b (fun q _ hq => hq) (fun q hq => hq) (fun u t H1 locs1 ht hvm hp hB hz hk hS => kk u hp H1 locs1 ls (by rw [ht] at hB; exact hB.moved hvm.symm) hS c)
theorem z_callINv (hC : Cx Z X own cc nL FR MC MS LO) {y : MethodName} {bytes : ByteArray} {maxL n fr mc ms lo idx : Nat} {As : List Value} {host : String} (mi : zMI y bytes maxL none n) (hy1 : y.name = "<init>") (iv : zq (.instanceMethod y)) (lk : zq (.methodLinkNest own idx y host)) {x : Option Nat} {F : AH → (AH → Prop) → Prop} (hM : zMv Z X.2.1 y bytes maxL none fr mc ms lo (va_rf x :: As) F) (rf : fr + 1 ≤ FR) (rl : 8 + (maxL + 11) + lo ≤ LO) (hn : As.length = n) (hst : (st.map fun v => v.category).sum ≤ 8) (hc : cells + mc ≤ MC) (hs : slots + ms ≤ MS) (d : decode cc pc = .ok (.invokespecial idx, 3)) (hq : pc + 3 = q) {B : AH → Prop} (hf : nn x (F h B)) {stk : List Value} (hk : stk = As.reverse ++ va_rf x :: st) (kk : ∀ (h' : AH), B h' → V Z X Q nL h' L (cells + mc) (slots + ms) q (st)) : V Z X Q nL h L cells slots pc stk := by
  subst hq
  subst hk
  intro H locs ls R b c
  obtain ⟨hx, hb, hml, hown, hT, hK, hS, hlk, hb0, htr, hRm⟩ := id hC
  obtain ⟨a, rfl, hB⟩ := hf
  exact va_callv (va_runIN ⟨hx, hb, hml, hown, (fun w hw => absurd hw List.not_mem_nil : ∀ w ∈ ([] : List Cond), w.before X.2.2.2.2.2.2.1 (zs X) = true)⟩ (hM h B) ⟨⟨⟨rfl, rfl, by rw [hRm]; exact rf, by rw [hRm]; exact rl, mi.ws hT, List.mem_singleton.mpr rfl⟩, zq_at hT mi.1 _, zq_at hT mi.2.1 _, ⟨mi.2.2.2.1, mi.2.2.2.2.1⟩, mi.len, zq_at hT lk _⟩, hy1, zq_at hT iv _⟩ ⟨zWd.blind, fun U hU hW => ⟨rfl, zWd.of hC R b hU hW, hB⟩⟩ rfl hn c.1 rfl (lv_room hst) d ⟨by rw [hRm]; exact hc, by rw [hRm]; exact hs⟩) b (fun q _ hq => hq) (fun q hq => hq) (fun u t H1 locs1 ht hvm hp hB hz hk hS => kk u hp H1 locs1 ls (by rw [ht] at hB; exact hB.moved hvm.symm) hS c)
theorem z_callSv (hC : Cx Z X own cc nL FR MC MS LO) {y : MethodName} {bytes : ByteArray} {maxL n fr mc ms lo idx : Nat} {ret : Option FieldType} {As : List Value} (mi : zMI y bytes maxL ret n) (iv : zq (.static y)) (lk : zq (.methodLink own idx y)) {F : AH → (AH → Prop) → Prop} (hM : zMv Z X.2.1 y bytes maxL ret fr mc ms lo As F) (rf : fr + 1 ≤ FR) (rl : 8 + (maxL + 11) + lo ≤ LO) (hn : As.length = n) (hst : (st.map fun v => v.category).sum ≤ 8) (hc : cells + mc ≤ MC) (hs : slots + ms ≤ MS) (d : decode cc pc = .ok (.invokestatic idx, 3)) (hq : pc + 3 = q) {B : AH → Prop} (hf : F h B) {stk : List Value} (hk : stk = As.reverse ++ st) (kk : ∀ (h' : AH), B h' → V Z X Q nL h' L (cells + mc) (slots + ms) q (st)) : V Z X Q nL h L cells slots pc stk := by
  subst hq
  subst hk
  intro H locs ls R b c
  obtain ⟨hx, hb, hml, hown, hT, hK, hS, hlk, hb0, htr, hRm⟩ := id hC
  exact va_callv (va_runS ⟨hx, hb, hml, hown, (fun w hw => absurd hw List.not_mem_nil : ∀ w ∈ ([] : List Cond), w.before X.2.2.2.2.2.2.1 (zs X) = true)⟩ (hM h B) ⟨⟨rfl, rfl, by rw [hRm]; exact rf, by rw [hRm]; exact rl, mi.ws hT, List.mem_singleton.mpr rfl, zq_at hT mi.1 _, zq_at hT mi.2.1 _, ⟨mi.2.2.2.1, mi.2.2.2.2.1⟩, mi.len, zq_at hT lk _⟩, zq_at hT iv _⟩ ⟨zWd.blind, fun U hU hW => ⟨rfl, zWd.of hC R b hU hW, hf⟩⟩ rfl hn c.1 rfl (lv_room hst) d ⟨by rw [hRm]; exact hc, by rw [hRm]; exact hs⟩) b (fun q _ hq => hq) (fun q hq => hq) (fun u t H1 locs1 ht hvm hp hB hz hk hS => kk u hp H1 locs1 ls (by rw [ht] at hB; exact hB.moved hvm.symm) hS c)
theorem z_callSNv (hC : Cx Z X own cc nL FR MC MS LO) {y : MethodName} {bytes : ByteArray} {maxL n fr mc ms lo idx : Nat} {ret : Option FieldType} {As : List Value} {host : String} (mi : zMI y bytes maxL ret n) (iv : zq (.static y)) (lk : zq (.methodLinkNest own idx y host)) {F : AH → (AH → Prop) → Prop} (hM : zMv Z X.2.1 y bytes maxL ret fr mc ms lo As F) (rf : fr + 1 ≤ FR) (rl : 8 + (maxL + 11) + lo ≤ LO) (hn : As.length = n) (hst : (st.map fun v => v.category).sum ≤ 8) (hc : cells + mc ≤ MC) (hs : slots + ms ≤ MS) (d : decode cc pc = .ok (.invokestatic idx, 3)) (hq : pc + 3 = q) {B : AH → Prop} (hf : F h B) {stk : List Value} (hk : stk = As.reverse ++ st) (kk : ∀ (h' : AH), B h' → V Z X Q nL h' L (cells + mc) (slots + ms) q (st)) : V Z X Q nL h L cells slots pc stk := by
  subst hq
  subst hk
  intro H locs ls R b c
  obtain ⟨hx, hb, hml, hown, hT, hK, hS, hlk, hb0, htr, hRm⟩ := id hC
  exact va_callv (va_runSN ⟨hx, hb, hml, hown, (fun w hw => absurd hw List.not_mem_nil : ∀ w ∈ ([] : List Cond), w.before X.2.2.2.2.2.2.1 (zs X) = true)⟩ (hM h B) ⟨⟨⟨rfl, rfl, by rw [hRm]; exact rf, by rw [hRm]; exact rl, mi.ws hT, List.mem_singleton.mpr rfl⟩, zq_at hT mi.1 _, zq_at hT mi.2.1 _, ⟨mi.2.2.2.1, mi.2.2.2.2.1⟩, mi.len, zq_at hT lk _⟩, zq_at hT iv _, trivial⟩ ⟨zWd.blind, fun U hU hW => ⟨rfl, zWd.of hC R b hU hW, hf⟩⟩ rfl hn c.1 rfl (lv_room hst) d ⟨by rw [hRm]; exact hc, by rw [hRm]; exact hs⟩) b (fun q _ hq => hq) (fun q hq => hq) (fun u t H1 locs1 ht hvm hp hB hz hk hS => kk u hp H1 locs1 ls (by rw [ht] at hB; exact hB.moved hvm.symm) hS c)
theorem z_callFv (hC : Cx Z X own cc nL FR MC MS LO) {y : MethodName} {bytes : ByteArray} {maxL n fr mc ms lo idx : Nat} {ret : Option FieldType} {As : List Value} {cnt ci N : Nat} {C : String} {T : u_T} {ty : Nat → FieldType} {x1 : MethodName} (mi : zMI y bytes maxL ret n) (iv : zq (.instanceMethod y) ∧ zq (.selects C x1 y)) (lk : zq (.methodLink own idx x1)) (hfw : (C, x1, y) ∈ zfw) (hd : x1.desc = y.desc) (ct : zCT ci C T N ty) {x : Option Nat} {F : AH → (AH → Prop) → Prop} (hM : zMv Z X.2.1 y bytes maxL ret fr mc ms lo (va_rf x :: As) F) (rf : fr + 1 ≤ FR) (rl : 8 + (maxL + 11) + lo ≤ LO) (hn : As.length = n) (hst : (st.map fun v => v.category).sum ≤ 8) (hc : cells + mc ≤ MC) (hs : slots + ms ≤ MS) (d : decode cc pc = .ok (.invokeinterface idx cnt, 5)) (hq : pc + 5 = q) {B : AH → Prop} (hf : cast h x (ci + 1) (F h B)) {stk : List Value} (hk : stk = As.reverse ++ va_rf x :: st) (kk : ∀ (h' : AH), B h' → V Z X Q nL h' L (cells + mc) (slots + ms) q (st)) : V Z X Q nL h L cells slots pc stk := by
  subst hq
  subst hk
  intro H locs ls R b c
  obtain ⟨hx, hb, hml, hown, hT, hK, hS, hlk, hb0, htr, hRm⟩ := id hC
  obtain ⟨a, rfl, hka, hB⟩ := hf
  obtain ⟨cell, q1, q2, q3, -⟩ := (R.2.1 a ci ct.1 hka).2
  have hcls := (hK.1.1 ci _ ct.2.1).2
  obtain ⟨f1, f2, f3, f4, f5⟩ := hT.2 _ hfw
  have cw : va_CI X.2.2.2.1 (zs X) X.2.2.2.2.2.2.1 own C idx x1 y bytes maxL ret [.code y bytes maxL ret] { frames := fr, cells := mc, slots := ms, locals := lo } mc ms n := ⟨⟨rfl, rfl, by rw [hRm]; exact rf, by rw [hRm]; exact rl, mi.ws hT, List.mem_singleton.mpr rfl⟩, zq_at hT lk _, va_any rfl f1, va_any rfl f2, zq_at hT iv.2 _, zq_at hT iv.1 _, va_any rfl f3, va_any rfl f4, va_any rfl f5, zq_at hT mi.2.1 _, zq_at hT mi.1 _, zfw_ok _ hfw, fun sig h => mi.len sig (by rw [← hd]; exact h)⟩
  exact va_callFv (va_runF hcls ⟨hx, hb, hml, hown, (fun w hw => absurd hw List.not_mem_nil : ∀ w ∈ ([] : List Cond), w.before X.2.2.2.2.2.2.1 (zs X) = true)⟩ (hM h B) cw ⟨zWd.blind, ⟨cell, q1, by rw [q3]; rfl, by rw [q2]; exact hcls.1⟩, fun U hU hW => ⟨rfl, zWd.of hC R b hU hW, hB⟩⟩ rfl hn c.1 rfl (lv_room hst) d ⟨by rw [hRm]; exact hc, by rw [hRm]; exact hs⟩) b (fun q _ hq => hq) (fun q hq => hq) (fun u t H1 locs1 ht hvm hp hB hz hk hS => kk u hp H1 locs1 ls (by rw [ht] at hB; exact hB.moved hvm.symm) hS c)
theorem z_callTv (hC : Cx Z X own cc nL FR MC MS LO) {y : MethodName} {bytes : ByteArray} {maxL n fr mc ms lo idx : Nat} {ret : Option FieldType} {As : List Value} {ci N : Nat} {C : String} {T : u_T} {ty : Nat → FieldType} (mi : zMI y bytes maxL ret n) (iv : zq (.instanceMethod y) ∧ zq (.selects C y y)) (lk : zq (.methodLink own idx y)) (ct : zCT ci C T N ty) {x : Option Nat} {F : AH → (Nat → AH → Prop) → (AH → Prop) → Prop} (hM : zTv Z X.2.1 y bytes maxL ret fr mc ms lo (va_rf x :: As) F) (rf : fr + 1 ≤ FR) (rl : 8 + (maxL + 11) + lo ≤ LO) (hn : As.length = n) (hst : (st.map fun v => v.category).sum ≤ 8) (hc : cells + mc ≤ MC) (hs : slots + ms ≤ MS) (d : decode cc pc = .ok (.invokevirtual idx, 3)) (hq : pc + 3 = q) {BX : Nat → AH → Prop} {B : AH → Prop} (hf : cast h x (ci + 1) (F h BX B)) {stk : List Value} (hk : stk = As.reverse ++ va_rf x :: st) (kx : ∀ (e : Nat) (h' : AH), BX e h' → VX Z X Q nL h' L (cells + mc) (slots + ms) pc e) (kk : ∀ (h' : AH), B h' → V Z X Q nL h' L (cells + mc) (slots + ms) q (st)) : V Z X Q nL h L cells slots pc stk := by
  subst hq
  subst hk
  intro H locs ls R b c
  obtain ⟨hx, hb, hml, hown, hT, hK, hS, hlk, hb0, htr, hRm⟩ := id hC
  obtain ⟨a, rfl, hka, hB⟩ := hf
  obtain ⟨cell, q1, q2, q3, -⟩ := (R.2.1 a ci ct.1 hka).2
  have hcls := (hK.1.1 ci _ ct.2.1).2
  exact vx_callv (vx_runV (C := C) ⟨hx, hb, hml, hown, (fun w hw => absurd hw List.not_mem_nil : ∀ w ∈ ([] : List Cond), w.before X.2.2.2.2.2.2.1 (zs X) = true)⟩ (hM h BX B) ⟨⟨rfl, rfl, by rw [hRm]; exact rf, by rw [hRm]; exact rl, mi.ws hT, List.mem_singleton.mpr rfl, zq_at hT mi.1 _, zq_at hT mi.2.1 _, ⟨mi.2.2.2.1, mi.2.2.2.2.1⟩, mi.len, zq_at hT lk _⟩, zq_at hT iv.1 _, zq_at hT iv.2 _⟩ ⟨zWd.blind, ⟨cell, q1, by rw [q3]; rfl, by rw [q2]; exact hcls.1⟩, fun U hU hW => ⟨rfl, zWd.of hC R b hU hW, hB⟩⟩ rfl hn c.1 rfl (lv_room hst) d ⟨by rw [hRm]; exact hc, by rw [hRm]; exact hs⟩) b (fun q _ hq => hq) (fun q hq => hq) (fun q _ hq => hq) (fun E ce q9 u t H1 locs1 ht hvm hp hB hz hk hS hce hv hcl => kx u.1 u.2 hp H1 locs1 ls ce q9 st (by have h9 := hB.2; rw [ht] at h9; exact h9.moved hvm.symm) hS c hce hv (by rw [← hB.1]; exact hcl)) (fun u t H1 locs1 ht hvm hp hB hz hk hS => kk u hp H1 locs1 ls (by rw [ht] at hB; exact hB.moved hvm.symm) hS c)
/-- the fields that instructions name, bundled -/
def zFB (own : String) (idx ci k : Nat) (r : Bool) : Prop := ∃ (C : String) (T : u_T) (N : Nat) (ty : Nat → FieldType), zCT ci C T N ty ∧ k < N ∧ zFL own idx (T k) ∧ zr ci k = r
def zPB (own : String) (idx ci k : Nat) (r : Bool) (tk : FieldType) : Prop := ∃ (C : String) (T : u_T) (N : Nat) (ty : Nat → FieldType), zCT ci C T N ty ∧ k < N ∧ zFL own idx (T k) ∧ zr ci k = r ∧ (T k).2.2.2 = false ∧ ty k = tk
def zPF (own : String) (idx ci k : Nat) (r : Bool) (tk : FieldType) : Prop := ∃ (C : String) (T : u_T) (N : Nat) (ty : Nat → FieldType), zCT ci C T N ty ∧ k < N ∧ zFL own idx (T k) ∧ zr ci k = r ∧ ((T k).2.2.2 = true ∧ (T k).1 = own) ∧ ty k = tk
theorem z_gI (hC : Cx Z X own cc nL FR MC MS LO) {idx ci k f : Nat} (F : zFB own idx ci k false) {x : Option Nat} (d : decode cc pc = .ok (.getfield idx, 3)) (hq : pc + 3 = q) (hff : 16 * ci + k = f) {B : Int32 → Prop} (hf : gI h x ci f B) (kk : ∀ v, B v → V Z X Q nL h L cells slots q (.int v :: st)) : V Z X Q nL h L cells slots pc (va_rf x :: st) := by
  subst hff
  obtain ⟨C, T, N, ty, ct, hk, fl, hz⟩ := F
  exact z_getI hC ct k hk fl hz d hq hf kk
theorem z_gA (hC : Cx Z X own cc nL FR MC MS LO) {idx ci k f : Nat} (F : zFB own idx ci k true) {x : Option Nat} (d : decode cc pc = .ok (.getfield idx, 3)) (hq : pc + 3 = q) (hff : 16 * ci + k = f) {B : Option Nat → Prop} (hf : gA h x ci f B) (kk : ∀ v, B v → V Z X Q nL h L cells slots q (va_rf v :: st)) : V Z X Q nL h L cells slots pc (va_rf x :: st) := by
  subst hff
  obtain ⟨C, T, N, ty, ct, hk, fl, hz⟩ := F
  exact z_getA hC ct k hk fl hz d hq hf kk
theorem z_pI (hC : Cx Z X own cc nL FR MC MS LO) {idx ci k f : Nat} (F : zPB own idx ci k false .int) {v : Int32} {x : Option Nat} (d : decode cc pc = .ok (.putfield idx, 3)) (hq : pc + 3 = q) (hff : 16 * ci + k = f) {B : AH → Prop} (hf : pI h x ci f v B) (kk : ∀ h', B h' → V Z X Q nL h' L cells slots q st) : V Z X Q nL h L cells slots pc (.int v :: va_rf x :: st) := by
  subst hff
  obtain ⟨C, T, N, ty, ct, hk, fl, hz, hfin, hty⟩ := F
  exact z_putI hC ct k hk fl hz (Or.inl hfin) (by rw [hty]; exact fits_I) d hq hf kk
theorem z_fI (hC : Cx Z X own cc nL FR MC MS LO) (hin : X.2.2.2.2.2.2.2.2.1.name = "<init>") {idx ci k f : Nat} (F : zPF own idx ci k false .int) {v : Int32} {x : Option Nat} (d : decode cc pc = .ok (.putfield idx, 3)) (hq : pc + 3 = q) (hff : 16 * ci + k = f) {B : AH → Prop} (hf : pI h x ci f v B) (kk : ∀ h', B h' → V Z X Q nL h' L cells slots q st) : V Z X Q nL h L cells slots pc (.int v :: va_rf x :: st) := by
  subst hff
  obtain ⟨C, T, N, ty, ct, hk, fl, hz, hfin, hty⟩ := F
  exact z_putI hC ct k hk fl hz (Or.inr ⟨hfin.1, hfin.2, hin⟩) (by rw [hty]; exact fits_I) d hq hf kk
theorem z_pZ (hC : Cx Z X own cc nL FR MC MS LO) {idx ci k f : Nat} (F : zPB own idx ci k false .boolean) {v : Int32} {x : Option Nat} (d : decode cc pc = .ok (.putfield idx, 3)) (hq : pc + 3 = q) (hff : 16 * ci + k = f) {B : AH → Prop} (hf : okZ v (pI h x ci f v B)) (kk : ∀ h', B h' → V Z X Q nL h' L cells slots q st) : V Z X Q nL h L cells slots pc (.int v :: va_rf x :: st) := by
  subst hff
  obtain ⟨C, T, N, ty, ct, hk, fl, hz, hfin, hty⟩ := F
  exact z_putI hC ct k hk fl hz (Or.inl hfin) (by rw [hty]; exact (fits_Z hf.1)) d hq hf.2 kk
theorem z_fZ (hC : Cx Z X own cc nL FR MC MS LO) (hin : X.2.2.2.2.2.2.2.2.1.name = "<init>") {idx ci k f : Nat} (F : zPF own idx ci k false .boolean) {v : Int32} {x : Option Nat} (d : decode cc pc = .ok (.putfield idx, 3)) (hq : pc + 3 = q) (hff : 16 * ci + k = f) {B : AH → Prop} (hf : okZ v (pI h x ci f v B)) (kk : ∀ h', B h' → V Z X Q nL h' L cells slots q st) : V Z X Q nL h L cells slots pc (.int v :: va_rf x :: st) := by
  subst hff
  obtain ⟨C, T, N, ty, ct, hk, fl, hz, hfin, hty⟩ := F
  exact z_putI hC ct k hk fl hz (Or.inr ⟨hfin.1, hfin.2, hin⟩) (by rw [hty]; exact (fits_Z hf.1)) d hq hf.2 kk
theorem z_pC (hC : Cx Z X own cc nL FR MC MS LO) {idx ci k f : Nat} (F : zPB own idx ci k false .char) {v : Int32} {x : Option Nat} (d : decode cc pc = .ok (.putfield idx, 3)) (hq : pc + 3 = q) (hff : 16 * ci + k = f) {B : AH → Prop} (hf : okC v (pI h x ci f v B)) (kk : ∀ h', B h' → V Z X Q nL h' L cells slots q st) : V Z X Q nL h L cells slots pc (.int v :: va_rf x :: st) := by
  subst hff
  obtain ⟨C, T, N, ty, ct, hk, fl, hz, hfin, hty⟩ := F
  exact z_putI hC ct k hk fl hz (Or.inl hfin) (by rw [hty]; exact hf.1) d hq hf.2 kk
theorem z_fC (hC : Cx Z X own cc nL FR MC MS LO) (hin : X.2.2.2.2.2.2.2.2.1.name = "<init>") {idx ci k f : Nat} (F : zPF own idx ci k false .char) {v : Int32} {x : Option Nat} (d : decode cc pc = .ok (.putfield idx, 3)) (hq : pc + 3 = q) (hff : 16 * ci + k = f) {B : AH → Prop} (hf : okC v (pI h x ci f v B)) (kk : ∀ h', B h' → V Z X Q nL h' L cells slots q st) : V Z X Q nL h L cells slots pc (.int v :: va_rf x :: st) := by
  subst hff
  obtain ⟨C, T, N, ty, ct, hk, fl, hz, hfin, hty⟩ := F
  exact z_putI hC ct k hk fl hz (Or.inr ⟨hfin.1, hfin.2, hin⟩) (by rw [hty]; exact hf.1) d hq hf.2 kk
theorem z_pA (hC : Cx Z X own cc nL FR MC MS LO) {idx ci k f : Nat} {tk : FieldType} (F : zPB own idx ci k true tk) (htk : (∃ C, tk = .object C) ∨ ∃ t, tk = .array t) {v x : Option Nat} (d : decode cc pc = .ok (.putfield idx, 3)) (hq : pc + 3 = q) (hff : 16 * ci + k = f) {B : AH → Prop} (hf : pA h x ci f v B) (kk : ∀ h', B h' → V Z X Q nL h' L cells slots q st) : V Z X Q nL h L cells slots pc (va_rf v :: va_rf x :: st) := by
  subst hff
  obtain ⟨C, T, N, ty, ct, hk, fl, hz, hfin, hty⟩ := F
  exact z_putA hC ct k hk fl hz (Or.inl hfin) (by rw [hty]; rcases htk with ⟨C, rfl⟩ | ⟨t, rfl⟩; exact fits_rf_o; exact fits_rf_a) d hq hf kk
theorem z_fA (hC : Cx Z X own cc nL FR MC MS LO) (hin : X.2.2.2.2.2.2.2.2.1.name = "<init>") {idx ci k f : Nat} {tk : FieldType} (F : zPF own idx ci k true tk) (htk : (∃ C, tk = .object C) ∨ ∃ t, tk = .array t) {v x : Option Nat} (d : decode cc pc = .ok (.putfield idx, 3)) (hq : pc + 3 = q) (hff : 16 * ci + k = f) {B : AH → Prop} (hf : pA h x ci f v B) (kk : ∀ h', B h' → V Z X Q nL h' L cells slots q st) : V Z X Q nL h L cells slots pc (va_rf v :: va_rf x :: st) := by
  subst hff
  obtain ⟨C, T, N, ty, ct, hk, fl, hz, hfin, hty⟩ := F
  exact z_putA hC ct k hk fl hz (Or.inr ⟨hfin.1, hfin.2, hin⟩) (by rw [hty]; rcases htk with ⟨C, rfl⟩ | ⟨t, rfl⟩; exact fits_rf_o; exact fits_rf_a) d hq hf kk
theorem z_oinit (hC : Cx Z X own cc nL FR MC MS LO) {idx : Nat} (w1 : zq (.methodLink own idx objectInit)) (w2 : zq (.instanceMethod objectInit)) (w3 : zq (.code objectInit ⟨#[0xb1]⟩ 1 none)) {x : Option Nat} (d : decode cc pc = .ok (.invokespecial idx, 3)) (hq : pc + 3 = q) (hst : (st.map fun v => v.category).sum ≤ 8) (hfr : 1 ≤ FR) (hlo : 20 ≤ LO) {B : Prop} (hf : nn x B) (kk : B → V Z X Q nL h L cells slots q st) : V Z X Q nL h L cells slots pc (va_rf x :: st) := by
  subst hq
  intro H locs ls R b c
  obtain ⟨hx, hb, hml, hown, hT, hK, hS, hlk, hb0, htr, hRm⟩ := id hC
  obtain ⟨a, rfl, hB⟩ := hf
  exact W.objInit hx hb hown (zq_at hT w1 _) (zq_at hT w2 _) (zq_at hT w3 _) rfl (by rw [hml]; exact c.1) rfl d (by rw [hRm]; exact hfr) (by rw [hRm]; have h9 := lv_room (m := zm X) (pc := pc) (ls := ls) (rest := [va_rf (some a)]) (st := st) hst; show _ ≤ LO; exact Nat.le_trans (Nat.add_le_add_right h9 12) hlo) (kk hB H locs ls R b c)
/-- any object of the reference's, or a small Integer, goes into an array of Objects -/
theorem z_aastO (hC : Cx Z X own cc nL FR MC MS LO) {x y : Option Nat} {i : Int32} (d : decode cc pc = .ok (.aastore, 1)) (hq : pc + 1 = q) {B : AH → Prop} (hf : stO h x i y B) (kk : ∀ h', B h' → V Z X Q nL h' L cells slots q st) : V Z X Q nL h L cells slots pc (va_rf y :: .int i :: va_rf x :: st) := by
  subst hq
  intro H locs ls R b c
  obtain ⟨a, b1, rfl, hka, hin, rfl, hkb, hB⟩ := hf
  obtain ⟨hba, ⟨cell, q1, q2, q3, q4, q5⟩, cell2, w1, w2⟩ := R.2.2.1 a 5 (by decide) hka
  cases q1.symm.trans w1
  have w0 := w2
  obtain ⟨kA, comp, k1, k2, k3, -⟩ : va_RA (zs X) cell.cls (.object "java/lang/Object") := w2
  have hv : ∃ (cellV : Cell) (kV : Class) (E : String), H[b1]? = some cellV ∧ cellV.vm.isStatics = false ∧ (zs X).vm.findClass E = some cellV.cls ∧ (zs X).vm.classes[cellV.cls]? = some kV ∧ zq (.castable E "java/lang/Object") := by
    have own9 : ∀ (ci : Nat) (C : String) (T : u_T) (N : Nat), ci < 15 → zcl[ci]? = some (C, T, N) → hK h b1 = ci + 1 → zq (.castable C "java/lang/Object") → ∃ (cellV : Cell) (kV : Class) (E : String), H[b1]? = some cellV ∧ cellV.vm.isStatics = false ∧ (zs X).vm.findClass E = some cellV.cls ∧ (zs X).vm.classes[cellV.cls]? = some kV ∧ zq (.castable E "java/lang/Object") := by
      intro ci C T N h1 h2 h3 h4
      obtain ⟨cellV, g1, g2, g3, -⟩ := (R.2.1 b1 ci h1 h3).2
      have hcls := (hC.2.2.2.2.2.1.1.1 ci _ h2).2
      obtain ⟨kC, hkC, -⟩ := hcls.2
      exact ⟨cellV, kC, C, g1, by rw [g3]; rfl, by rw [g2]; exact hcls.1, by rw [g2]; exact hkC, h4⟩
    rcases hkb with h9 | h9 | h9 | h9 | h9 | h9
    · exact own9 7 RX7 TX7 3 (by decide) rfl h9 ⟨List.mem_of_getElem? (i := 1784) (by decide +kernel), rfl⟩
    · exact own9 8 RX8 TX8 3 (by decide) rfl h9 ⟨List.mem_of_getElem? (i := 1780) (by decide +kernel), rfl⟩
    · exact own9 9 RX9 TX9 8 (by decide) rfl h9 ⟨List.mem_of_getElem? (i := 1776) (by decide +kernel), rfl⟩
    · exact own9 10 RX10 TX10 3 (by decide) rfl h9 ⟨List.mem_of_getElem? (i := 1779) (by decide +kernel), rfl⟩
    · exact own9 11 RX11 TX11 2 (by decide) rfl h9 ⟨List.mem_of_getElem? (i := 1785) (by decide +kernel), rfl⟩
    · obtain ⟨cellV, g1, g2, g3, -⟩ := (R.2.2.2.2.2.1 b1 h9).1
      obtain ⟨cI, hI1, kI, hkI, -⟩ := hC.2.2.2.2.2.1.2.1
      have e9 : cI = cellV.cls := Option.some.inj (hI1.symm.trans g3)
      exact ⟨cellV, kI, "java/lang/Integer", g1, g2, g3, by rw [← e9]; exact hkI, ⟨List.mem_of_getElem? (i := 1769) (by decide +kernel), rfl⟩⟩
  obtain ⟨cellV, kV, E, g1, g2, g3, g4, g5⟩ := hv
  obtain ⟨c0, t0, f1, f2, f3⟩ := Cond.castable_spec (zq_at hC.2.2.2.2.1 g5 X.2.2.2.2.2.2.1)
  cases g3.symm.trans f1
  cases k3.symm.trans f2
  obtain ⟨cO, kO, o1, o2⟩ := hC.2.2.2.2.2.1.2.2.2
  cases k3.symm.trans o1
  have h0 : ¬ i < 0 := fun q => hin (Or.inl q)
  refine W.aast hC.1 hC.2.1 q1 q2.1 q3 k1 k2 rfl o2 ⟨h0, by rw [q4]; exact vp_in_lt hin⟩ g1 (fun q h => by rw [h] at g2; cases g2) g4 f3 rfl rfl d fun H1 e z oq => ?_
  refine kk _ hB H1 _ ls (R.arr z oq (t := 5) (by decide) hka (zAR_set q2 q3 q4 q5 (vp_in_lt hin) e ?_ ?_) ⟨_, e, w0⟩ rfl rfl (fun ci b => rfl) rfl (fun b t hb => ?_) ⟨rfl, rfl⟩) (b.put z oq hba) c
  · simp [av, tA, aA, u2, va_rf]
  · intro j hj; simp [av, tA, aA, aI, aJ, aD, u2, hj]
  · funext j; simp [av, tA, aI, aJ, aD, aA, u2, hb]
/-- the world that a method begins with -/
theorem z_cx {l : Launch} {y : MethodName} {cc : ByteArray} {maxL fr mc ms lo : Nat} {ret : Option FieldType} {p : Program} {e : Env} {s s₁ : State} {m : MethodId} {args : Array Value} {below : List Frame} {meth : Method} {c : Code} (B : BodyLoose p l y (headSpec [Cond.code y cc maxL ret] { frames := fr, cells := mc, slots := ms, locals := lo }) cc maxL ret e s m args below meth c s₁) (hml : c.maxLocals = maxL) (htr : l.stackTraces = false) (hw : zWd Z h s) : Cx Z (p, l, e, { frames := fr, cells := mc, slots := ms, locals := lo }, s, m, args, below, meth, c) y.cls cc maxL fr mc ms lo :=
  ⟨B.exec, B.bytes, hml, findClass_of_methodNamed B.named, hw.1, hw.2.1, hw.2.2.2.1, B.notSynchronized, hw.2.2.2.2, htr, rfl⟩
theorem V.entry {vs : List Value} (k : V Z X Q nL h L 0 0 0 []) (hR : zRep Z (zs X) h (zs X).heap) (hL : lv_args 0 vs = L) (hlen : (lg_sl vs).length ≤ nL) : zW X Q (zs X).heap [] 0 0 (entryFrame (zm X) vs.toArray nL) := by
  have hl := lv_entry vs hlen
  rw [lg_entry_eq]
  subst hL
  exact k (zs X).heap [] _ hR va_S.rf hl
theorem z_callCi (hC : Cx Z X own cc nL FR MC MS LO) {y : MethodName} {bytes : ByteArray} {maxL n fr mc ms lo idx : Nat} {ret : Option FieldType} {As : List Value} {qk : Nat} {C : String} (mi : zMI y bytes maxL ret n) (iv : zq (.instanceMethod y) ∧ zq (.selects C y y)) (lk : zq (.methodLink own idx y)) (hqk : (qk = 20 ∧ C = "java/lang/String") ∨ (qk = 21 ∧ C = "java/lang/Integer")) {x : Option Nat} {F : AH → (Int32 → AH → Prop) → Prop} (hM : zMi Z X.2.1 y bytes maxL ret fr mc ms lo (va_rf x :: As) F) (rf : fr + 1 ≤ FR) (rl : 8 + (maxL + 11) + lo ≤ LO) (hn : As.length = n) (hst : (st.map fun v => v.category).sum ≤ 8) (hc : cells + mc ≤ MC) (hs : slots + ms ≤ MS) (d : decode cc pc = .ok (.invokevirtual idx, 3)) (hq : pc + 3 = q) {B : Int32 → AH → Prop} (hf : cast h x qk (F h B)) {stk : List Value} (hk : stk = As.reverse ++ va_rf x :: st) (kk : ∀ (r : Int32) (h' : AH), B r h' → V Z X Q nL h' L (cells + mc) (slots + ms) q (.int r :: st)) : V Z X Q nL h L cells slots pc stk := by
  subst hq
  subst hk
  intro H locs ls R b c
  obtain ⟨hx, hb, hml, hown, hT, hK, hS, hlk, hb0, htr, hRm⟩ := id hC
  obtain ⟨a, rfl, hka, hB⟩ := hf
  have hrc : ∃ cell : Cell, H[a]? = some cell ∧ cell.vm.isStatics = false ∧ (zs X).vm.findClass C = some cell.cls := by
    rcases hqk with ⟨rfl, rfl⟩ | ⟨rfl, rfl⟩
    · obtain ⟨cell, q1, q2, q3, -⟩ := (R.2.2.2.2.1 a hka).1
      exact ⟨cell, q1, q2, q3⟩
    · obtain ⟨cell, q1, q2, q3, -⟩ := (R.2.2.2.2.2.1 a hka).1
      exact ⟨cell, q1, q2, q3⟩
  exact va_calli (va_runV (C := C) ⟨hx, hb, hml, hown, (fun w hw => absurd hw List.not_mem_nil : ∀ w ∈ ([] : List Cond), w.before X.2.2.2.2.2.2.1 (zs X) = true)⟩ (hM h B) ⟨⟨rfl, rfl, by rw [hRm]; exact rf, by rw [hRm]; exact rl, mi.ws hT, List.mem_singleton.mpr rfl, zq_at hT mi.1 _, zq_at hT mi.2.1 _, ⟨mi.2.2.2.1, mi.2.2.2.2.1⟩, mi.len, zq_at hT lk _⟩, zq_at hT iv.1 _, zq_at hT iv.2 _⟩ ⟨zWd.blind, hrc, fun U hU hW => ⟨rfl, zWd.of hC R b hU hW, hB⟩⟩ rfl hn c.1 rfl (lv_room hst) d ⟨by rw [hRm]; exact hc, by rw [hRm]; exact hs⟩) b (fun q _ hq => hq) (fun q hq => hq) (fun r u t H1 locs1 ht hvm hp hB hz hk hS => kk r u hp H1 locs1 ls (by rw [ht] at hB; exact hB.moved hvm.symm) hS c)
theorem z_callCl (hC : Cx Z X own cc nL FR MC MS LO) {y : MethodName} {bytes : ByteArray} {maxL n fr mc ms lo idx : Nat} {ret : Option FieldType} {As : List Value} {qk : Nat} {C : String} (mi : zMI y bytes maxL ret n) (iv : zq (.instanceMethod y) ∧ zq (.selects C y y)) (lk : zq (.methodLink own idx y)) (hqk : (qk = 20 ∧ C = "java/lang/String") ∨ (qk = 21 ∧ C = "java/lang/Integer")) {x : Option Nat} {F : AH → (Int64 → AH → Prop) → Prop} (hM : zMl Z X.2.1 y bytes maxL ret fr mc ms lo (va_rf x :: As) F) (rf : fr + 1 ≤ FR) (rl : 8 + (maxL + 11) + lo ≤ LO) (hn : As.length = n) (hst : (st.map fun v => v.category).sum ≤ 8) (hc : cells + mc ≤ MC) (hs : slots + ms ≤ MS) (d : decode cc pc = .ok (.invokevirtual idx, 3)) (hq : pc + 3 = q) {B : Int64 → AH → Prop} (hf : cast h x qk (F h B)) {stk : List Value} (hk : stk = As.reverse ++ va_rf x :: st) (kk : ∀ (r : Int64) (h' : AH), B r h' → V Z X Q nL h' L (cells + mc) (slots + ms) q (.long r :: st)) : V Z X Q nL h L cells slots pc stk := by
  subst hq
  subst hk
  intro H locs ls R b c
  obtain ⟨hx, hb, hml, hown, hT, hK, hS, hlk, hb0, htr, hRm⟩ := id hC
  obtain ⟨a, rfl, hka, hB⟩ := hf
  have hrc : ∃ cell : Cell, H[a]? = some cell ∧ cell.vm.isStatics = false ∧ (zs X).vm.findClass C = some cell.cls := by
    rcases hqk with ⟨rfl, rfl⟩ | ⟨rfl, rfl⟩
    · obtain ⟨cell, q1, q2, q3, -⟩ := (R.2.2.2.2.1 a hka).1
      exact ⟨cell, q1, q2, q3⟩
    · obtain ⟨cell, q1, q2, q3, -⟩ := (R.2.2.2.2.2.1 a hka).1
      exact ⟨cell, q1, q2, q3⟩
  exact va_calll (va_runV (C := C) ⟨hx, hb, hml, hown, (fun w hw => absurd hw List.not_mem_nil : ∀ w ∈ ([] : List Cond), w.before X.2.2.2.2.2.2.1 (zs X) = true)⟩ (hM h B) ⟨⟨rfl, rfl, by rw [hRm]; exact rf, by rw [hRm]; exact rl, mi.ws hT, List.mem_singleton.mpr rfl, zq_at hT mi.1 _, zq_at hT mi.2.1 _, ⟨mi.2.2.2.1, mi.2.2.2.2.1⟩, mi.len, zq_at hT lk _⟩, zq_at hT iv.1 _, zq_at hT iv.2 _⟩ ⟨zWd.blind, hrc, fun U hU hW => ⟨rfl, zWd.of hC R b hU hW, hB⟩⟩ rfl hn c.1 rfl (lv_room hst) d ⟨by rw [hRm]; exact hc, by rw [hRm]; exact hs⟩) b (fun q _ hq => hq) (fun q hq => hq) (fun r u t H1 locs1 ht hvm hp hB hz hk hS => kk r u hp H1 locs1 ls (by rw [ht] at hB; exact hB.moved hvm.symm) hS c)
theorem z_callCq (hC : Cx Z X own cc nL FR MC MS LO) {y : MethodName} {bytes : ByteArray} {maxL n fr mc ms lo idx : Nat} {ret : Option FieldType} {As : List Value} {qk : Nat} {C : String} (mi : zMI y bytes maxL ret n) (iv : zq (.instanceMethod y) ∧ zq (.selects C y y)) (lk : zq (.methodLink own idx y)) (hqk : (qk = 20 ∧ C = "java/lang/String") ∨ (qk = 21 ∧ C = "java/lang/Integer")) {x : Option Nat} {F : AH → (Option Nat → AH → Prop) → Prop} (hM : zMq Z X.2.1 y bytes maxL ret fr mc ms lo (va_rf x :: As) F) (rf : fr + 1 ≤ FR) (rl : 8 + (maxL + 11) + lo ≤ LO) (hn : As.length = n) (hst : (st.map fun v => v.category).sum ≤ 8) (hc : cells + mc ≤ MC) (hs : slots + ms ≤ MS) (d : decode cc pc = .ok (.invokevirtual idx, 3)) (hq : pc + 3 = q) {B : Option Nat → AH → Prop} (hf : cast h x qk (F h B)) {stk : List Value} (hk : stk = As.reverse ++ va_rf x :: st) (kk : ∀ (r : Option Nat) (h' : AH), B r h' → V Z X Q nL h' L (cells + mc) (slots + ms) q (va_rf r :: st)) : V Z X Q nL h L cells slots pc stk := by
  subst hq
  subst hk
  intro H locs ls R b c
  obtain ⟨hx, hb, hml, hown, hT, hK, hS, hlk, hb0, htr, hRm⟩ := id hC
  obtain ⟨a, rfl, hka, hB⟩ := hf
  have hrc : ∃ cell : Cell, H[a]? = some cell ∧ cell.vm.isStatics = false ∧ (zs X).vm.findClass C = some cell.cls := by
    rcases hqk with ⟨rfl, rfl⟩ | ⟨rfl, rfl⟩
    · obtain ⟨cell, q1, q2, q3, -⟩ := (R.2.2.2.2.1 a hka).1
      exact ⟨cell, q1, q2, q3⟩
    · obtain ⟨cell, q1, q2, q3, -⟩ := (R.2.2.2.2.2.1 a hka).1
      exact ⟨cell, q1, q2, q3⟩
  exact va_callq (va_runV (C := C) ⟨hx, hb, hml, hown, (fun w hw => absurd hw List.not_mem_nil : ∀ w ∈ ([] : List Cond), w.before X.2.2.2.2.2.2.1 (zs X) = true)⟩ (hM h B) ⟨⟨rfl, rfl, by rw [hRm]; exact rf, by rw [hRm]; exact rl, mi.ws hT, List.mem_singleton.mpr rfl, zq_at hT mi.1 _, zq_at hT mi.2.1 _, ⟨mi.2.2.2.1, mi.2.2.2.2.1⟩, mi.len, zq_at hT lk _⟩, zq_at hT iv.1 _, zq_at hT iv.2 _⟩ ⟨zWd.blind, hrc, fun U hU hW => ⟨rfl, zWd.of hC R b hU hW, hB⟩⟩ rfl hn c.1 rfl (lv_room hst) d ⟨by rw [hRm]; exact hc, by rw [hRm]; exact hs⟩) b (fun q _ hq => hq) (fun q hq => hq) (fun r u t H1 locs1 ht hvm hp hB hz hk hS => kk r u hp H1 locs1 ls (by rw [ht] at hB; exact hB.moved hvm.symm) hS c)
theorem z_callCv (hC : Cx Z X own cc nL FR MC MS LO) {y : MethodName} {bytes : ByteArray} {maxL n fr mc ms lo idx : Nat} {ret : Option FieldType} {As : List Value} {qk : Nat} {C : String} (mi : zMI y bytes maxL ret n) (iv : zq (.instanceMethod y) ∧ zq (.selects C y y)) (lk : zq (.methodLink own idx y)) (hqk : (qk = 20 ∧ C = "java/lang/String") ∨ (qk = 21 ∧ C = "java/lang/Integer")) {x : Option Nat} {F : AH → (AH → Prop) → Prop} (hM : zMv Z X.2.1 y bytes maxL ret fr mc ms lo (va_rf x :: As) F) (rf : fr + 1 ≤ FR) (rl : 8 + (maxL + 11) + lo ≤ LO) (hn : As.length = n) (hst : (st.map fun v => v.category).sum ≤ 8) (hc : cells + mc ≤ MC) (hs : slots + ms ≤ MS) (d : decode cc pc = .ok (.invokevirtual idx, 3)) (hq : pc + 3 = q) {B : AH → Prop} (hf : cast h x qk (F h B)) {stk : List Value} (hk : stk = As.reverse ++ va_rf x :: st) (kk : ∀ (h' : AH), B h' → V Z X Q nL h' L (cells + mc) (slots + ms) q (st)) : V Z X Q nL h L cells slots pc stk := by
  subst hq
  subst hk
  intro H locs ls R b c
  obtain ⟨hx, hb, hml, hown, hT, hK, hS, hlk, hb0, htr, hRm⟩ := id hC
  obtain ⟨a, rfl, hka, hB⟩ := hf
  have hrc : ∃ cell : Cell, H[a]? = some cell ∧ cell.vm.isStatics = false ∧ (zs X).vm.findClass C = some cell.cls := by
    rcases hqk with ⟨rfl, rfl⟩ | ⟨rfl, rfl⟩
    · obtain ⟨cell, q1, q2, q3, -⟩ := (R.2.2.2.2.1 a hka).1
      exact ⟨cell, q1, q2, q3⟩
    · obtain ⟨cell, q1, q2, q3, -⟩ := (R.2.2.2.2.2.1 a hka).1
      exact ⟨cell, q1, q2, q3⟩
  exact va_callv (va_runV (C := C) ⟨hx, hb, hml, hown, (fun w hw => absurd hw List.not_mem_nil : ∀ w ∈ ([] : List Cond), w.before X.2.2.2.2.2.2.1 (zs X) = true)⟩ (hM h B) ⟨⟨rfl, rfl, by rw [hRm]; exact rf, by rw [hRm]; exact rl, mi.ws hT, List.mem_singleton.mpr rfl, zq_at hT mi.1 _, zq_at hT mi.2.1 _, ⟨mi.2.2.2.1, mi.2.2.2.2.1⟩, mi.len, zq_at hT lk _⟩, zq_at hT iv.1 _, zq_at hT iv.2 _⟩ ⟨zWd.blind, hrc, fun U hU hW => ⟨rfl, zWd.of hC R b hU hW, hB⟩⟩ rfl hn c.1 rfl (lv_room hst) d ⟨by rw [hRm]; exact hc, by rw [hRm]; exact hs⟩) b (fun q _ hq => hq) (fun q hq => hq) (fun u t H1 locs1 ht hvm hp hB hz hk hS => kk u hp H1 locs1 ls (by rw [ht] at hB; exact hB.moved hvm.symm) hS c)

end VR
