/-! what always holds is kept -/
def zJtX (E : Nat → Nat → Prop) (σ : zS) : Prop := ∀ l j, ¬ E l j → ¬ sV σ 8 l j = 110 → ∃ a b, sR σ 0 l j = some a ∧ sR σ 0 l (j + 1) = some b ∧ sV σ 11 a 0 = sV σ 11 b 0
/-- all, but some joints -/
def InvX (E : Nat → Nat → Prop) (σ : zS) : Prop := zCnt σ ∧ zRef σ ∧ zAlloy σ ∧ zFlag σ ∧ zShare σ ∧ zNew σ ∧ zRep2 σ ∧ zJw σ ∧ zGr σ ∧ zSt σ ∧ zJtX E σ ∧ zMt σ
theorem Inv.X {σ : zS} (I : Inv σ) (E : Nat → Nat → Prop) : InvX E σ :=
  ⟨I.c, I.r, I.al, I.fl, I.sh, I.nw, I.rp, I.jw, I.gr, I.st, fun l j _ q => I.jt l j q, I.mt⟩
theorem InvX.I {E : Nat → Nat → Prop} {σ : zS} (X : InvX E σ) (hE : ∀ l j, ¬ E l j) : Inv σ := by
  obtain ⟨c, r, al, fl, sh, nw, rp, jw, gr, st, jt, mt⟩ := X
  exact ⟨c, r, al, fl, sh, nw, rp, jw, gr, st, fun l j q => jt l j (hE l j) q, mt⟩
theorem rng {a : Int32} {lo hi : Nat} (hb : hi < 2 ^ 31) (hl : lo < 2 ^ 31) (h1 : ¬ a < nI lo) (h2 : a ≤ nI hi) : ∃ k, lo ≤ k ∧ k ≤ hi ∧ a = nI k := by
  have h0 : ¬ a < 0 := fun z => h1 (Int32.lt_of_lt_of_le z (Int32.not_lt.mp (nI_pos hl)))
  obtain ⟨j, hj, rfl⟩ := nI_of h0
  rw [nI_leI hj hb] at h2
  have h3 := Int32.not_lt.mp h1
  rw [nI_leI hl hj] at h3
  exact ⟨j, h3, h2, rfl⟩
section KP
variable {σ τ : zS} {E : Nat → Nat → Prop}
theorem zRef.of (h : zRef σ) (e0 : sN τ = sN σ) (e : sR τ = sR σ) : zRef τ := by unfold zRef at h ⊢; rw [e0, e]; exact h
theorem zAlloy.of (h : zAlloy σ) (e0 : sN τ = sN σ) (e : ∀ q, sV τ 11 q 0 = sV σ 11 q 0) : zAlloy τ := fun q hq => by rw [e0] at hq; rw [e]; exact h q hq
theorem zShare.of (h : zShare σ) (e0 : sN τ = sN σ) (e1 : ∀ l, sV τ 1 l 0 = sV σ 1 l 0) (e2 : ∀ l, sV τ 2 l 0 = sV σ 2 l 0) : zShare τ := fun l hl => by rw [e0] at hl; rw [e1, e2]; exact h l hl
theorem zRep2.of (h : zRep2 σ) (e : ∀ l j, sV τ 9 l j = sV σ 9 l j) : zRep2 τ := fun l j => by rw [e]; exact h l j
theorem zJw.of (h : zJw σ) (e8 : ∀ l j, sV τ 8 l j = sV σ 8 l j) (e : ∀ l j, sR τ 1 l j = sR σ 1 l j) : zJw τ := fun l j => by rw [e8, e]; exact h l j
theorem zJtX.of (h : zJtX E σ) (e8 : ∀ l j, sV τ 8 l j = sV σ 8 l j) (e : ∀ l j, sR τ 0 l j = sR σ 0 l j) (e11 : ∀ q, sV τ 11 q 0 = sV σ 11 q 0) : zJtX E τ := fun l j he q => by
  rw [e8] at q
  obtain ⟨a, b, h1, h2, h3⟩ := h l j he q
  exact ⟨a, b, by rw [e]; exact h1, by rw [e]; exact h2, by rw [e11, e11]; exact h3⟩
theorem zMt.of (h : zMt σ) (e : ∀ l a, sR τ 2 l a = sR σ 2 l a) (e10 : ∀ l a, sV τ 10 l a = sV σ 10 l a) : zMt τ := fun l a k q => by
  rw [e] at q
  obtain ⟨h1, h2, h3, h4⟩ := h l a k q
  exact ⟨by rw [e]; exact h1, h2, by rw [e10]; exact h3, h4⟩
/-- numbers that nothing else hangs on -/
theorem InvX.v (X : InvX E σ) (f i j : Nat) (v : Int32) (hs : f = 0 ∨ f = 3 ∨ f = 4 ∨ f = 6 ∨ f = 14 ∨ f = 15 ∨ f = 16 ∨ f = 17) (hfl : f = 4 ∨ f = 14 → v = 0 ∨ v = 1) (hn : f = 3 ∨ f = 4 → i < sN σ 0 0) (hw : f = 15 ∨ f = 16 → i < sN σ 2 0) : InvX E (wV σ f i j v) := by
  obtain ⟨c, r, al, fl, sh, nw, rp, jw, gr, st, jt, mt⟩ := X
  have ne : ∀ k, ¬ (k = 0 ∨ k = 3 ∨ k = 4 ∨ k = 6 ∨ k = 14 ∨ k = 15 ∨ k = 16 ∨ k = 17) → ∀ a b, sV (wV σ f i j v) k a b = sV σ k a b := fun k hk a b => sV_ne (fun z => hk (by rw [z]; exact hs))
  refine ⟨c, r, al.of rfl fun q => ne 11 (by decide) q 0, fl.wV f i j v (fun z => hfl (by omega)) (fun z => by omega), sh.of rfl (fun l => ne 1 (by decide) l 0) (fun l => ne 2 (by decide) l 0), ⟨?_, ?_, nw.2.2.1, ?_⟩, rp.of (ne 9 (by decide)), jw.of (ne 8 (by decide)) (fun _ _ => rfl), gr.of rfl (fun l => ne 5 (by decide) l 0), st.of rfl (ne 7 (by decide)) (fun _ _ => rfl) (fun q => ne 13 (by decide) q 0) (fun q => ne 12 (by decide) q 0), jt.of (ne 8 (by decide)) (fun _ _ => rfl) (fun q => ne 11 (by decide) q 0), mt.of (fun _ _ => rfl) (ne 10 (by decide))⟩
  · intro w hw2
    obtain ⟨n1, n2⟩ := nw.1 w hw2
    have hw3 : sN σ 2 0 ≤ w := hw2
    refine ⟨?_, fun a => ?_⟩
    · rw [sV_nei (fun z => by have := hw (Or.inr z.1.symm); omega)]; exact n1
    · rw [sV_nei (fun z => by have := hw (Or.inl z.1.symm); omega)]; exact n2 a
  · intro l hl
    obtain ⟨n0, n1, n2, n3, n4, n5⟩ := nw.2.1 l hl
    have hl3 : sN σ 0 0 ≤ l := hl
    refine ⟨n0, ?_, ?_, ?_, ?_, n5⟩
    · rw [sV_nei (fun z => by have := hn (Or.inl z.1.symm); omega)]; exact n1
    · rw [sV_nei (fun z => by have := hn (Or.inr z.1.symm); omega)]; exact n2
    · rw [ne 5 (by decide)]; exact n3
    · intro a; rw [ne 10 (by decide)]; exact n4 a
  · intro l j2 hj
    obtain ⟨n1, n2, n3⟩ := nw.2.2.2 l j2 hj
    exact ⟨by rw [ne 8 (by decide)]; exact n1, by rw [ne 9 (by decide)]; exact n2, n3⟩
theorem Inv.v (I : Inv σ) (f i j : Nat) (v : Int32) (hs : f = 0 ∨ f = 3 ∨ f = 4 ∨ f = 6 ∨ f = 14 ∨ f = 15 ∨ f = 16 ∨ f = 17) (hfl : f = 4 ∨ f = 14 → v = 0 ∨ v = 1) (hn : f = 3 ∨ f = 4 → i < sN σ 0 0) (hw : f = 15 ∨ f = 16 → i < sN σ 2 0) : Inv (wV σ f i j v) :=
  ((I.X fun _ _ => False).v f i j v hs hfl hn hw).I (fun _ _ z => z)
/-- a line's test forgotten or done -/
theorem InvX.t (X : InvX E σ) {i : Nat} {v : Int32} (hv : v = 0 ∨ v = 1) (hi : i < sN σ 0 0) : InvX E (wV σ 4 i 0 v) := X.v 4 i 0 v (by decide) (fun _ => hv) (fun _ => hi) (fun z => by omega)
theorem Inv.t (I : Inv σ) {i : Nat} {v : Int32} (hv : v = 0 ∨ v = 1) (hi : i < sN σ 0 0) : Inv (wV σ 4 i 0 v) := I.v 4 i 0 v (by decide) (fun _ => hv) (fun _ => hi) (fun z => by omega)
theorem Inv.blind (I : Inv σ) {i a : Nat} {v : Int32} (hv : v = 0 ∨ v = 1) (hi : i < sN σ 0 0) (hb : v = 0 ∨ sR σ 2 i a = none) : Inv (wV σ 10 i a v) := by
  obtain ⟨c, r, al, fl, sh, nw, rp, jw, gr, st, jt, mt⟩ := I
  have ne : ∀ k, k ≠ 10 → ∀ x y, sV (wV σ 10 i a v) k x y = sV σ k x y := fun k hk x y => sV_ne hk
  refine ⟨c, r, al.of rfl fun q => ne 11 (by decide) q 0, fl.wV 10 i a v (fun _ => hv) (fun z => by omega), sh.of rfl (fun l => ne 1 (by decide) l 0) (fun l => ne 2 (by decide) l 0), ⟨?_, ?_, nw.2.2.1, ?_⟩, rp.of (ne 9 (by decide)), jw.of (ne 8 (by decide)) (fun _ _ => rfl), gr.of rfl (fun l => ne 5 (by decide) l 0), st.of rfl (ne 7 (by decide)) (fun _ _ => rfl) (fun q => ne 13 (by decide) q 0) (fun q => ne 12 (by decide) q 0), ?_, ?_⟩
  · intro w hw2
    obtain ⟨n1, n2⟩ := nw.1 w hw2
    exact ⟨by rw [ne 16 (by decide)]; exact n1, fun x => by rw [ne 15 (by decide)]; exact n2 x⟩
  · intro l hl
    obtain ⟨n0, n1, n2, n3, n4, n5⟩ := nw.2.1 l hl
    have hl3 : sN σ 0 0 ≤ l := hl
    exact ⟨n0, by rw [ne 3 (by decide)]; exact n1, by rw [ne 4 (by decide)]; exact n2, by rw [ne 5 (by decide)]; exact n3, fun x => by rw [sV_nei (fun z => by omega)]; exact n4 x, n5⟩
  · intro l j2 hj
    obtain ⟨n1, n2, n3⟩ := nw.2.2.2 l j2 hj
    exact ⟨by rw [ne 8 (by decide)]; exact n1, by rw [ne 9 (by decide)]; exact n2, n3⟩
  · intro l j q
    rw [ne 8 (by decide)] at q
    obtain ⟨x, y, h1, h2, h3⟩ := jt l j q
    exact ⟨x, y, h1, h2, by rw [ne 11 (by decide), ne 11 (by decide)]; exact h3⟩
  · intro l x k q
    have q' : sR σ 2 l x = some k := q
    obtain ⟨h1, h2, h3, h4⟩ := mt l x k q'
    refine ⟨h1, h2, ?_, h4⟩
    rw [sV_wV]
    by_cases z : 10 = 10 ∧ l = i ∧ x = a
    · rw [if_pos z]
      rcases hb with e | e
      · exact e
      · rw [z.2.1, z.2.2, e] at q'; cases q'
    · rw [if_neg z]; exact h3
/-- one joint changes -/
theorem InvX.jnt {E' : Nat → Nat → Prop} (X : InvX E σ) {i j : Nat} (hj : j < sN σ 4 i - 1) (e0 : sN τ = sN σ) (eV : ∀ f a b, ¬ (f = 8 ∧ a = i ∧ b = j) → ¬ (f = 9 ∧ a = i ∧ b = j) → sV τ f a b = sV σ f a b) (eR : ∀ f a b, ¬ (f = 1 ∧ a = i ∧ b = j) → sR τ f a b = sR σ f a b) (h8 : sV τ 8 i j = 110 ∨ sV τ 8 i j = 119 ∨ sV τ 8 i j = 103 ∨ sV τ 8 i j = 98) (h9 : sV τ 9 i j = 0 ∨ sV τ 9 i j = 1 ∨ sV τ 9 i j = 2) (hw : sV τ 8 i j = 110 ↔ sR τ 1 i j = none) (hq : ∀ k, sR τ 1 i j = some k → k < sN σ 2 0) (hs : ∀ l b, ¬ E' l b → ¬ (l = i ∧ b = j) → ¬ E l b) (hj2 : ¬ E' i j → ¬ sV τ 8 i j = 110 → ∃ a b, sR σ 0 i j = some a ∧ sR σ 0 i (j + 1) = some b ∧ sV σ 11 a 0 = sV σ 11 b 0) : InvX E' τ := by
  obtain ⟨c, r, al, fl, sh, nw, rp, jw, gr, st, jt, mt⟩ := X
  have ne : ∀ f a b, f ≠ 8 → f ≠ 9 → sV τ f a b = sV σ f a b := fun f a b n8 n9 => eV f a b (fun z => n8 z.1) (fun z => n9 z.1)
  have nr : ∀ f a b, f ≠ 1 → sR τ f a b = sR σ f a b := fun f a b n1 => eR f a b (fun z => n1 z.1)
  have e8 : ∀ a b, ¬ (a = i ∧ b = j) → sV τ 8 a b = sV σ 8 a b := fun a b z => eV 8 a b (fun y => z y.2) (fun y => absurd y.1 (by decide))
  have e9 : ∀ a b, ¬ (a = i ∧ b = j) → sV τ 9 a b = sV σ 9 a b := fun a b z => eV 9 a b (fun y => absurd y.1 (by decide)) (fun y => z y.2)
  have e1 : ∀ a b, ¬ (a = i ∧ b = j) → sR τ 1 a b = sR σ 1 a b := fun a b z => eR 1 a b (fun y => z y.2)
  refine ⟨c.of e0, ⟨?_, ?_, ?_⟩, al.of e0 fun q => ne 11 q 0 (by decide) (by decide), ⟨?_, ?_, ?_, ?_⟩, sh.of e0 (fun l => ne 1 l 0 (by decide) (by decide)) (fun l => ne 2 l 0 (by decide) (by decide)), ⟨?_, ?_, ?_, ?_⟩, ?_, ?_, gr.of (by rw [e0]) (fun l => ne 5 l 0 (by decide) (by decide)), st.of e0 (fun l p => ne 7 l p (by decide) (by decide)) (fun l p => nr 0 l p (by decide)) (fun q => ne 13 q 0 (by decide) (by decide)) (fun q => ne 12 q 0 (by decide) (by decide)), ?_, mt.of (fun l a => nr 2 l a (by decide)) (fun l a => ne 10 l a (by decide) (by decide))⟩
  · intro l p q z; rw [nr 0 l p (by decide)] at z; rw [e0]; exact r.1 l p q z
  · intro l b q z
    rw [e0]
    by_cases y : l = i ∧ b = j
    · rw [y.1, y.2] at z; exact hq q z
    · rw [e1 l b y] at z; exact r.2.1 l b q z
  · intro l a q z; rw [nr 2 l a (by decide)] at z; rw [e0]; exact r.2.2 l a q z
  · intro l; rw [ne 4 l 0 (by decide) (by decide)]; exact fl.1 l
  · intro l a; rw [ne 10 l a (by decide) (by decide)]; exact fl.2.1 l a
  · intro q; rw [ne 14 q 0 (by decide) (by decide)]; exact fl.2.2.1 q
  · intro l b
    by_cases y : l = i ∧ b = j
    · rw [y.1, y.2]; exact h8
    · rw [e8 l b y]; exact fl.2.2.2 l b
  · intro w h
    rw [e0] at h
    obtain ⟨n1, n2⟩ := nw.1 w h
    exact ⟨by rw [ne 16 w 0 (by decide) (by decide)]; exact n1, fun a => by rw [ne 15 w a (by decide) (by decide)]; exact n2 a⟩
  · intro l h
    rw [e0] at h
    obtain ⟨n0, n1, n2, n3, n4, n5⟩ := nw.2.1 l h
    exact ⟨by rw [e0]; exact n0, by rw [ne 3 l 0 (by decide) (by decide)]; exact n1, by rw [ne 4 l 0 (by decide) (by decide)]; exact n2, by rw [ne 5 l 0 (by decide) (by decide)]; exact n3, fun a => by rw [ne 10 l a (by decide) (by decide)]; exact n4 a, fun a => by rw [nr 2 l a (by decide)]; exact n5 a⟩
  · intro l p h
    rw [e0] at h
    rw [nr 0 l p (by decide)]
    exact nw.2.2.1 l p h
  · intro l b h
    rw [e0] at h
    have y : ¬ (l = i ∧ b = j) := fun y => by rw [y.1, y.2] at h; omega
    rw [e8 l b y, e9 l b y, e1 l b y]
    exact nw.2.2.2 l b h
  · intro l b
    by_cases y : l = i ∧ b = j
    · rw [y.1, y.2]; exact h9
    · rw [e9 l b y]; exact rp l b
  · intro l b
    by_cases y : l = i ∧ b = j
    · rw [y.1, y.2]; exact hw
    · rw [e8 l b y, e1 l b y]; exact jw l b
  · intro l b he z
    have fin : ∀ {x y : Nat}, sR σ 0 l b = some x ∧ sR σ 0 l (b + 1) = some y ∧ sV σ 11 x 0 = sV σ 11 y 0 → sR τ 0 l b = some x ∧ sR τ 0 l (b + 1) = some y ∧ sV τ 11 x 0 = sV τ 11 y 0 := fun {x y} h => by
      rw [nr 0 l b (by decide), nr 0 l (b + 1) (by decide), ne 11 x 0 (by decide) (by decide), ne 11 y 0 (by decide) (by decide)]; exact h
    by_cases y : l = i ∧ b = j
    · obtain ⟨rfl, rfl⟩ := y
      obtain ⟨x, y2, h⟩ := hj2 he z
      exact ⟨x, y2, fin h⟩
    · rw [e8 l b y] at z
      obtain ⟨x, y2, h⟩ := jt l b (hs l b he y) z
      exact ⟨x, y2, fin h⟩
/-- a part's steel changes -/
theorem InvX.stl {E' : Nat → Nat → Prop} (X : InvX E σ) {i j : Nat} (hj : j < sN σ 4 i) (e0 : sN τ = sN σ) (eV : ∀ f a b, f ≠ 7 → f ≠ 13 → sV τ f a b = sV σ f a b) (eR : ∀ f a b, ¬ (f = 0 ∧ a = i ∧ b = j) → sR τ f a b = sR σ f a b) (hq : ∀ k, sR τ 0 i j = some k → k < sN σ 1 0) (st' : zSt τ) (hs : ∀ l b, ¬ E' l b → ¬ E l b ∧ ¬ (l = i ∧ (b = j ∨ b + 1 = j))) : InvX E' τ := by
  obtain ⟨c, r, al, fl, sh, nw, rp, jw, gr, st, jt, mt⟩ := X
  have nr : ∀ f a b, f ≠ 0 → sR τ f a b = sR σ f a b := fun f a b n1 => eR f a b (fun z => n1 z.1)
  have e1 : ∀ a b, ¬ (a = i ∧ b = j) → sR τ 0 a b = sR σ 0 a b := fun a b z => eR 0 a b (fun y => z y.2)
  refine ⟨c.of e0, ⟨?_, ?_, ?_⟩, al.of e0 fun q => eV 11 q 0 (by decide) (by decide), ⟨?_, ?_, ?_, ?_⟩, sh.of e0 (fun l => eV 1 l 0 (by decide) (by decide)) (fun l => eV 2 l 0 (by decide) (by decide)), ⟨?_, ?_, ?_, ?_⟩, rp.of (fun l b => eV 9 l b (by decide) (by decide)), jw.of (fun l b => eV 8 l b (by decide) (by decide)) (fun l b => nr 1 l b (by decide)), gr.of (by rw [e0]) (fun l => eV 5 l 0 (by decide) (by decide)), st', ?_, mt.of (fun l a => nr 2 l a (by decide)) (fun l a => eV 10 l a (by decide) (by decide))⟩
  · intro l b q z
    rw [e0]
    by_cases y : l = i ∧ b = j
    · rw [y.1, y.2] at z; exact hq q z
    · rw [e1 l b y] at z; exact r.1 l b q z
  · intro l p q z; rw [nr 1 l p (by decide)] at z; rw [e0]; exact r.2.1 l p q z
  · intro l a q z; rw [nr 2 l a (by decide)] at z; rw [e0]; exact r.2.2 l a q z
  · intro l; rw [eV 4 l 0 (by decide) (by decide)]; exact fl.1 l
  · intro l a; rw [eV 10 l a (by decide) (by decide)]; exact fl.2.1 l a
  · intro q; rw [eV 14 q 0 (by decide) (by decide)]; exact fl.2.2.1 q
  · intro l b; rw [eV 8 l b (by decide) (by decide)]; exact fl.2.2.2 l b
  · intro w h
    rw [e0] at h
    obtain ⟨n1, n2⟩ := nw.1 w h
    exact ⟨by rw [eV 16 w 0 (by decide) (by decide)]; exact n1, fun a => by rw [eV 15 w a (by decide) (by decide)]; exact n2 a⟩
  · intro l h
    rw [e0] at h
    obtain ⟨n0, n1, n2, n3, n4, n5⟩ := nw.2.1 l h
    exact ⟨by rw [e0]; exact n0, by rw [eV 3 l 0 (by decide) (by decide)]; exact n1, by rw [eV 4 l 0 (by decide) (by decide)]; exact n2, by rw [eV 5 l 0 (by decide) (by decide)]; exact n3, fun a => by rw [eV 10 l a (by decide) (by decide)]; exact n4 a, fun a => by rw [nr 2 l a (by decide)]; exact n5 a⟩
  · intro l p h
    rw [e0] at h
    have y : ¬ (l = i ∧ p = j) := fun y => by rw [y.1, y.2] at h; omega
    rw [e1 l p y]
    exact nw.2.2.1 l p h
  · intro l b h
    rw [e0] at h
    rw [eV 8 l b (by decide) (by decide), eV 9 l b (by decide) (by decide), nr 1 l b (by decide)]
    exact nw.2.2.2 l b h
  · intro l b he z
    rw [eV 8 l b (by decide) (by decide)] at z
    obtain ⟨he1, he2⟩ := hs l b he
    obtain ⟨x, y2, h1, h2, h3⟩ := jt l b he1 z
    exact ⟨x, y2, by rw [e1 l b (fun y => he2 ⟨y.1, Or.inl y.2⟩)]; exact h1, by rw [e1 l (b + 1) (fun y => he2 ⟨y.1, Or.inr y.2⟩)]; exact h2, by rw [eV 11 x 0 (by decide) (by decide), eV 11 y2 0 (by decide) (by decide)]; exact h3⟩
theorem InvX.renew {E' : Nat → Nat → Prop} (X : InvX E σ) {i j : Nat} (hs : ∀ l b, ¬ E' l b → ¬ (l = i ∧ b = j) → ¬ E l b) : InvX E' (mUndo1 σ i j) := by
  unfold mUndo1
  by_cases q : j < sN σ 4 i - 1 ∧ ¬ sV σ 8 i j = 110
  · rw [if_pos q]
    refine InvX.v (InvX.jnt X (τ := wRenew σ i j) (i := i) (j := j) q.1 rfl (fun f a b n8 n9 => sV_wRenew n8 n9) (fun f a b n1 => by unfold wRenew; rw [sR_nei n1]; rfl) ?_ ?_ ?_ ?_ hs ?_) 0 1 0 _ (Or.inl rfl) (fun z => by omega) (fun z => by omega) (fun z => by omega)
    all_goals unfold wRenew
    · left; simp [sV_wR, sV_wV]
    · left; simp [sV_wR, sV_wV]
    · simp [sV_wR, sV_wV, sR_wR]
    · intro k z; simp [sR_wR] at z
    · intro _ z; exact absurd (by simp [sV_wR, sV_wV]) z
  · rw [if_neg q]
    have e : sV σ 8 i j = 110 := by
      by_cases q2 : j < sN σ 4 i - 1
      · exact Classical.byContradiction fun z => q ⟨q2, z⟩
      · exact (X.2.2.2.2.2.1.2.2.2 i j (by omega)).1
    obtain ⟨c, r, al, fl, sh, nw, rp, jw, gr, st, jt, mt⟩ := X
    refine ⟨c, r, al, fl, sh, nw, rp, jw, gr, st, fun l b he z => ?_, mt⟩
    by_cases y : l = i ∧ b = j
    · rw [y.1, y.2] at z; exact absurd e z
    · exact jt l b (hs l b he y) z
/-- what a change of a part undoes makes all well again -/
theorem InvX.undo {i p : Nat} (X : InvX (fun l b => l = i ∧ (b = p ∨ b + 1 = p)) σ) (hi : i < sN σ 0 0) : Inv (wUndo σ i p) := by
  rw [undo_eq]
  unfold mUndo
  by_cases hp : p = 0
  · rw [if_pos hp]
    refine (InvX.t (InvX.renew X (E' := fun _ _ => False) (j := 0) (fun l b _ z y => z ⟨y.1, by omega⟩)) (Or.inl rfl) ?_).I (fun _ _ z => z)
    rw [mUndo1_N]; exact hi
  · rw [if_neg hp]
    refine (InvX.t (InvX.renew (InvX.renew X (E' := fun l b => l = i ∧ b = p) (j := p - 1) (fun l b h1 z y => ?_)) (E' := fun _ _ => False) (j := p) (fun l b _ z y => z y)) (Or.inl rfl) ?_).I (fun _ _ z => z)
    · rcases y.2 with w | w
      · exact h1 ⟨y.1, w⟩
      · exact z ⟨y.1, by omega⟩
    · rw [mUndo1_N, mUndo1_N]; exact hi
theorem Inv.back (I : Inv σ) {i j : Nat} (hi : i < sN σ 0 0) (hj : j < sN σ 4 i) : InvX (fun l b => l = i ∧ (b = j ∨ b + 1 = j)) (wBack σ i j) := by
  refine (I.X fun _ _ => False).stl (i := i) (j := j) hj (wBack_N σ i j) (fun f a b h7 h13 => ?_) (fun f a b h => ?_) (fun k z => ?_) (zSt.back I hi hj).1 (fun l b h => ⟨fun z => z, h⟩)
  · unfold wBack
    cases sR σ 0 i j with
    | none => rfl
    | some q => dsimp only; rw [sV_wR, sV_ne h13]
  · unfold wBack
    cases sR σ 0 i j with
    | none => rfl
    | some q => dsimp only; rw [sR_nei h]; rfl
  · rw [(zSt.back I hi hj).2] at z; cases z
end KP
