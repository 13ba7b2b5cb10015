/-! what always holds is kept: what comes new, what is joined -/
section KR
variable {σ : zS}
theorem share3 {k : Nat} (h1 : 1 ≤ k) (h3 : k ≤ 3) : spShare (nI k) = if k = 1 then 5 else if k = 2 then 20 else 100 := by
  have : k = 1 ∨ k = 2 ∨ k = 3 := by omega
  rcases this with rfl | rfl | rfl <;> decide
theorem Inv.line (I : Inv σ) (h4 : sN σ 0 0 < 4) {k : Nat} (k1 : 1 ≤ k) (k3 : k ≤ 3) : Inv (wLine σ (nI k)) := by
  obtain ⟨c, r, al, fl, sh, nw, rp, jw, gr, st, jt, mt⟩ := I.X fun _ _ => False
  have eV : ∀ f a b, f ≠ 1 → f ≠ 2 → sV (wLine σ (nI k)) f a b = sV σ f a b := fun f a b n1 n2 => by unfold wLine; rw [sV_wN, sV_ne n2, sV_ne n1]
  have e0 : sN (wLine σ (nI k)) 0 0 = sN σ 0 0 + 1 := rfl
  have eN : ∀ q a, q ≠ 0 → sN (wLine σ (nI k)) q a = sN σ q a := fun q a n => by unfold wLine; rw [sN_wN, if_neg (fun z => n z.1)]; rfl
  have eR : sR (wLine σ (nI k)) = sR σ := rfl
  refine InvX.I (E := fun _ _ => False) ⟨⟨?_, ?_, ?_, ?_, ?_⟩, ⟨?_, ?_, ?_⟩, ?_, ?_, ?_, ⟨?_, ?_, ?_, ?_⟩, rp.of fun l j => eV 9 l j (by decide) (by decide), jw.of (fun l j => eV 8 l j (by decide) (by decide)) (fun _ _ => rfl), gr.line nw e0 fun l => eV 5 l 0 (by decide) (by decide), st.line nw e0 (eN 1 0 (by decide)) (fun l => eN 4 l (by decide)) (fun l p => eV 7 l p (by decide) (by decide)) (fun _ _ => rfl) (fun q => eV 13 q 0 (by decide) (by decide)) (fun q => eV 12 q 0 (by decide) (by decide)), jt.of (fun l j => eV 8 l j (by decide) (by decide)) (fun _ _ => rfl) (fun q => eV 11 q 0 (by decide) (by decide)), mt.of (fun _ _ => rfl) (fun l a => eV 10 l a (by decide) (by decide))⟩ (fun _ _ z => z)
  · rw [e0]; omega
  · rw [eN 1 0 (by decide)]; exact c.2.1
  · rw [eN 2 0 (by decide)]; exact c.2.2.1
  · rw [eN 3 0 (by decide)]; exact c.2.2.2.1
  · intro i; rw [eN 4 i (by decide)]; exact c.2.2.2.2 i
  · intro l p q z; rw [eN 1 0 (by decide)]; exact r.1 l p q z
  · intro l p q z; rw [eN 2 0 (by decide)]; exact r.2.1 l p q z
  · intro l a q z
    have := r.2.2 l a q z
    rw [e0]; omega
  · intro q hq
    rw [eN 1 0 (by decide)] at hq
    rw [eV 11 q 0 (by decide) (by decide)]
    exact al q hq
  · exact ((fl.wV 1 _ _ _ (fun z => by omega) (fun z => by omega)).wV 2 _ _ _ (fun z => by omega) (fun z => by omega)).wN 0 0 _
  · intro l hl
    rw [e0] at hl
    by_cases z : l = sN σ 0 0
    · subst z
      refine ⟨k, k1, k3, ?_, ?_⟩
      · unfold wLine
        rw [sV_wN, sV_ne (by decide), sV_wV, if_pos ⟨rfl, rfl, rfl⟩]
      · unfold wLine
        rw [sV_wN, sV_wV, if_pos ⟨rfl, rfl, rfl⟩]
        exact share3 k1 k3
    · have e1 : sV (wLine σ (nI k)) 1 l 0 = sV σ 1 l 0 := by unfold wLine; rw [sV_wN, sV_ne (by decide), sV_nei (fun y => z y.2.1)]
      have e2 : sV (wLine σ (nI k)) 2 l 0 = sV σ 2 l 0 := by unfold wLine; rw [sV_wN, sV_nei (fun y => z y.2.1), sV_ne (by decide)]
      rw [e1, e2]
      exact sh l (by omega)
  · intro w hw
    rw [eN 2 0 (by decide)] at hw
    obtain ⟨n1, n2⟩ := nw.1 w hw
    exact ⟨by rw [eV 16 w 0 (by decide) (by decide)]; exact n1, fun a => by rw [eV 15 w a (by decide) (by decide)]; exact n2 a⟩
  · intro l hl
    rw [e0] at hl
    obtain ⟨n0, n1, n2, n3, n4, n5⟩ := nw.2.1 l (by omega)
    exact ⟨by rw [eN 4 l (by decide)]; exact n0, by rw [eV 3 l 0 (by decide) (by decide)]; exact n1, by rw [eV 4 l 0 (by decide) (by decide)]; exact n2, by rw [eV 5 l 0 (by decide) (by decide)]; exact n3, fun a => by rw [eV 10 l a (by decide) (by decide)]; exact n4 a, n5⟩
  · intro l p hp
    rw [eN 4 l (by decide)] at hp
    exact nw.2.2.1 l p hp
  · intro l j hj
    rw [eN 4 l (by decide)] at hj
    rw [eV 8 l j (by decide) (by decide), eV 9 l j (by decide) (by decide)]
    exact nw.2.2.2 l j hj
theorem Inv.addLine (I : Inv σ) {n : Int32} : Inv (spAddLine σ n).2.2 := by
  unfold spAddLine
  by_cases q1 : n < 1
  · rw [if_pos q1]; exact I
  rw [if_neg q1]
  by_cases q2 : n ≤ 3
  · rw [if_pos q2]
    by_cases q3 : sN σ 0 0 < 4
    · rw [if_pos q3]
      obtain ⟨k, k1, k3, rfl⟩ := rng (lo := 1) (hi := 3) (by decide) (by decide) q1 q2
      exact I.line q3 k1 k3
    · rw [if_neg q3]; exact I
  · rw [if_neg q2]; exact I
theorem Inv.welder (I : Inv σ) (h5 : sN σ 2 0 < 5) : Inv (wN σ 2 0 (sN σ 2 0 + 1)) := by
  obtain ⟨c, r, al, fl, sh, nw, rp, jw, gr, st, jt, mt⟩ := I
  have e2 : sN (wN σ 2 0 (sN σ 2 0 + 1)) 2 0 = sN σ 2 0 + 1 := rfl
  refine ⟨⟨c.1, c.2.1, h5, c.2.2.2.1, c.2.2.2.2⟩, ⟨r.1, fun l j q z => ?_, r.2.2⟩, al, fl, sh, ⟨fun w hw => ?_, nw.2⟩, rp, jw, gr, st, jt, mt⟩
  · have := r.2.1 l j q z
    rw [e2]; omega
  · rw [e2] at hw
    exact nw.1 w (by omega)
theorem Inv.addWelder (I : Inv σ) : Inv (spAddWelder σ).2.2 := by
  unfold spAddWelder
  by_cases q : sN σ 2 0 < 5
  · rw [if_pos q]; exact I.welder q
  · rw [if_neg q]; exact I
theorem Inv.circ (I : Inv σ) {x : Int32} (h6 : sN σ 3 0 < 6) : Inv (wN (wV σ 17 (sN σ 3 0) 0 x) 3 0 (sN σ 3 0 + 1)) := by
  have J : Inv (wV σ 17 (sN σ 3 0) 0 x) := I.v 17 (sN σ 3 0) 0 x (by decide) (fun z => by omega) (fun z => by omega) (fun z => by omega)
  obtain ⟨c, r, al, fl, sh, nw, rp, jw, gr, st, jt, mt⟩ := J
  exact ⟨⟨c.1, c.2.1, c.2.2.1, h6, c.2.2.2.2⟩, r, al, fl, sh, nw, rp, jw, gr, st, jt, mt⟩
theorem Inv.addCircuit (I : Inv σ) {x : Int32} : Inv (spAddCircuit σ x).2.2 := by
  unfold spAddCircuit
  by_cases q1 : x < 1
  · rw [if_pos q1]; exact I
  rw [if_neg q1]
  by_cases q2 : 15 < x
  · rw [if_pos q2]; exact I
  rw [if_neg q2]
  by_cases q3 : (x >>> (nI (sN σ 0 0) &&& 31)) = 0
  · rw [if_pos q3]
    by_cases q4 : sN σ 3 0 < 6
    · rw [if_pos q4]; exact I.circ q4
    · rw [if_neg q4]; exact I
  · rw [if_neg q3]; exact I
theorem Inv.heat (I : Inv σ) {a v : Int32} {len : Nat} (h8 : sN σ 1 0 < 8) (ha : isAlloy a = true) (hl : len ≤ 20000) (hv : v = 0 ∨ v = 1) : Inv (wHeat σ a (nI len) v) := by
  have st' := zSt.heat I (a := a) (v := v) hl
  obtain ⟨c, r, al, fl, sh, nw, rp, jw, gr, st, jt, mt⟩ := I.X fun _ _ => False
  have eV : ∀ f x b, f ≠ 11 → f ≠ 12 → f ≠ 13 → f ≠ 14 → sV (wHeat σ a (nI len) v) f x b = sV σ f x b := fun f x b n1 n2 n3 n4 => by unfold wHeat; rw [sV_wN, sV_ne n4, sV_ne n3, sV_ne n2, sV_ne n1]
  have e11 : ∀ q, q < sN σ 1 0 → sV (wHeat σ a (nI len) v) 11 q 0 = sV σ 11 q 0 := fun q hq => by unfold wHeat; rw [sV_wN, sV_ne (by decide), sV_ne (by decide), sV_ne (by decide), sV_nei (fun z => by omega)]
  have e1 : sN (wHeat σ a (nI len) v) 1 0 = sN σ 1 0 + 1 := rfl
  have eN : ∀ q x, q ≠ 1 → sN (wHeat σ a (nI len) v) q x = sN σ q x := fun q x n => by unfold wHeat; rw [sN_wN, if_neg (fun z => n z.1)]; rfl
  refine InvX.I (E := fun _ _ => False) ⟨⟨?_, ?_, ?_, ?_, ?_⟩, ⟨?_, ?_, ?_⟩, ?_, ?_, ?_, ⟨?_, ?_, ?_, ?_⟩, rp.of fun l j => eV 9 l j (by decide) (by decide) (by decide) (by decide), jw.of (fun l j => eV 8 l j (by decide) (by decide) (by decide) (by decide)) (fun _ _ => rfl), gr.of (eN 0 0 (by decide)) (fun l => eV 5 l 0 (by decide) (by decide) (by decide) (by decide)), st', ?_, mt.of (fun _ _ => rfl) (fun l x => eV 10 l x (by decide) (by decide) (by decide) (by decide))⟩ (fun _ _ z => z)
  · rw [eN 0 0 (by decide)]; exact c.1
  · rw [e1]; omega
  · rw [eN 2 0 (by decide)]; exact c.2.2.1
  · rw [eN 3 0 (by decide)]; exact c.2.2.2.1
  · intro i; rw [eN 4 i (by decide)]; exact c.2.2.2.2 i
  · intro l p q z
    have := r.1 l p q z
    rw [e1]; omega
  · intro l p q z; rw [eN 2 0 (by decide)]; exact r.2.1 l p q z
  · intro l p q z; rw [eN 0 0 (by decide)]; exact r.2.2 l p q z
  · intro q hq
    rw [e1] at hq
    by_cases z : q = sN σ 1 0
    · subst z
      obtain ⟨k, k4, e⟩ := isAlloy_ix ha
      refine ⟨k, k4, ?_⟩
      unfold wHeat
      rw [sV_wN, sV_ne (by decide), sV_ne (by decide), sV_ne (by decide), sV_wV, if_pos ⟨rfl, rfl, rfl⟩]
      exact e
    · rw [e11 q (by omega)]
      exact al q (by omega)
  · exact ((((fl.wV 11 _ _ _ (fun z => by omega) (fun z => by omega)).wV 12 _ _ _ (fun z => by omega) (fun z => by omega)).wV 13 _ _ _ (fun z => by omega) (fun z => by omega)).wV 14 _ _ _ (fun _ => hv) (fun z => by omega)).wN 1 0 _
  · intro l hl2
    rw [eN 0 0 (by decide)] at hl2
    rw [eV 1 l 0 (by decide) (by decide) (by decide) (by decide), eV 2 l 0 (by decide) (by decide) (by decide) (by decide)]
    exact sh l hl2
  · intro w hw
    rw [eN 2 0 (by decide)] at hw
    obtain ⟨n1, n2⟩ := nw.1 w hw
    exact ⟨by rw [eV 16 w 0 (by decide) (by decide) (by decide) (by decide)]; exact n1, fun x => by rw [eV 15 w x (by decide) (by decide) (by decide) (by decide)]; exact n2 x⟩
  · intro l hl2
    rw [eN 0 0 (by decide)] at hl2
    obtain ⟨n0, n1, n2, n3, n4, n5⟩ := nw.2.1 l hl2
    exact ⟨by rw [eN 4 l (by decide)]; exact n0, by rw [eV 3 l 0 (by decide) (by decide) (by decide) (by decide)]; exact n1, by rw [eV 4 l 0 (by decide) (by decide) (by decide) (by decide)]; exact n2, by rw [eV 5 l 0 (by decide) (by decide) (by decide) (by decide)]; exact n3, fun x => by rw [eV 10 l x (by decide) (by decide) (by decide) (by decide)]; exact n4 x, n5⟩
  · intro l p hp
    rw [eN 4 l (by decide)] at hp
    exact nw.2.2.1 l p hp
  · intro l j hj
    rw [eN 4 l (by decide)] at hj
    rw [eV 8 l j (by decide) (by decide) (by decide) (by decide), eV 9 l j (by decide) (by decide) (by decide) (by decide)]
    exact nw.2.2.2 l j hj
  · intro l j he z
    rw [eV 8 l j (by decide) (by decide) (by decide) (by decide)] at z
    obtain ⟨x, y, h1, h2, h3⟩ := jt l j he z
    exact ⟨x, y, h1, h2, by rw [e11 x (r.1 _ _ _ h1), e11 y (r.1 _ _ _ h2)]; exact h3⟩
theorem Inv.addHeat (I : Inv σ) {a len v : Int32} (hv : v = 0 ∨ v = 1) : Inv (spAddHeat σ a len v).2.2 := by
  unfold spAddHeat
  by_cases q0 : isAlloy a = true
  · rw [if_pos q0]
    by_cases q1 : len < 100
    · rw [if_pos q1]; exact I
    rw [if_neg q1]
    by_cases q2 : len ≤ 20000
    · rw [if_pos q2]
      by_cases q3 : sN σ 1 0 < 8
      · rw [if_pos q3]
        obtain ⟨k, k1, k3, rfl⟩ := rng (lo := 100) (hi := 20000) (by decide) (by decide) q1 q2
        exact I.heat q3 q0 k3 hv
      · rw [if_neg q3]; exact I
    · rw [if_neg q2]; exact I
  · rw [if_neg q0]; exact I
theorem Inv.part (I : Inv σ) {i s : Nat} {k : Int32} (hi : i < sN σ 0 0) (h10 : sN σ 4 i < 10) (hs : s ≤ 6000) : Inv (wV (wPart σ i k (nI s)) 4 i 0 0) := by
  have st' := zSt.part I (i := i) (k := k) hs
  obtain ⟨c, r, al, fl, sh, nw, rp, jw, gr, st, jt, mt⟩ := I.X fun _ _ => False
  have eV : ∀ f x b, f ≠ 4 → f ≠ 6 → f ≠ 7 → sV (wV (wPart σ i k (nI s)) 4 i 0 0) f x b = sV σ f x b := fun f x b n1 n2 n3 => by rw [sV_ne n1]; unfold wPart; rw [sV_wN, sV_ne n3, sV_ne n2]
  have e4 : sN (wV (wPart σ i k (nI s)) 4 i 0 0) 4 i = sN σ 4 i + 1 := by rw [sN_wV]; unfold wPart; rw [sN_wN, if_pos ⟨rfl, rfl⟩]
  have eN : ∀ q x, ¬ (q = 4 ∧ x = i) → sN (wV (wPart σ i k (nI s)) 4 i 0 0) q x = sN σ q x := fun q x n => by rw [sN_wV]; unfold wPart; rw [sN_wN, if_neg n]; rfl
  have e0 : sN (wV (wPart σ i k (nI s)) 4 i 0 0) 0 0 = sN σ 0 0 := eN 0 0 (fun z => absurd z.1 (by decide))
  have e1 : sN (wV (wPart σ i k (nI s)) 4 i 0 0) 1 0 = sN σ 1 0 := eN 1 0 (fun z => absurd z.1 (by decide))
  have e2 : sN (wV (wPart σ i k (nI s)) 4 i 0 0) 2 0 = sN σ 2 0 := eN 2 0 (fun z => absurd z.1 (by decide))
  have e3 : sN (wV (wPart σ i k (nI s)) 4 i 0 0) 3 0 = sN σ 3 0 := eN 3 0 (fun z => absurd z.1 (by decide))
  have le4 : ∀ l, sN σ 4 l ≤ sN (wV (wPart σ i k (nI s)) 4 i 0 0) 4 l := fun l => by
    by_cases z : l = i
    · rw [z, e4]; omega
    · rw [eN 4 l (fun y => z y.2)]; exact Nat.le_refl _
  refine InvX.I (E := fun _ _ => False) ⟨⟨?_, ?_, ?_, ?_, ?_⟩, ⟨?_, ?_, ?_⟩, ?_, ?_, ?_, ⟨?_, ?_, ?_, ?_⟩, rp.of fun l j => eV 9 l j (by decide) (by decide) (by decide), jw.of (fun l j => eV 8 l j (by decide) (by decide) (by decide)) (fun _ _ => rfl), gr.of e0 (fun l => eV 5 l 0 (by decide) (by decide) (by decide)), st', jt.of (fun l j => eV 8 l j (by decide) (by decide) (by decide)) (fun _ _ => rfl) (fun q => eV 11 q 0 (by decide) (by decide) (by decide)), mt.of (fun _ _ => rfl) (fun l x => eV 10 l x (by decide) (by decide) (by decide))⟩ (fun _ _ z => z)
  · rw [e0]; exact c.1
  · rw [e1]; exact c.2.1
  · rw [e2]; exact c.2.2.1
  · rw [e3]; exact c.2.2.2.1
  · intro x
    by_cases z : x = i
    · rw [z, e4]; omega
    · rw [eN 4 x (fun y => z y.2)]; exact c.2.2.2.2 x
  · intro l p q z; rw [e1]; exact r.1 l p q z
  · intro l p q z; rw [e2]; exact r.2.1 l p q z
  · intro l p q z; rw [e0]; exact r.2.2 l p q z
  · intro q hq
    rw [e1] at hq
    rw [eV 11 q 0 (by decide) (by decide) (by decide)]
    exact al q hq
  · exact ((((fl.wV 6 _ _ _ (fun z => by omega) (fun z => by omega)).wV 7 _ _ _ (fun z => by omega) (fun z => by omega)).wN 4 i _).wV 4 i 0 0 (fun _ => Or.inl rfl) (fun z => by omega))
  · intro l hl2
    rw [e0] at hl2
    rw [eV 1 l 0 (by decide) (by decide) (by decide), eV 2 l 0 (by decide) (by decide) (by decide)]
    exact sh l hl2
  · intro w hw
    rw [e2] at hw
    obtain ⟨n1, n2⟩ := nw.1 w hw
    exact ⟨by rw [eV 16 w 0 (by decide) (by decide) (by decide)]; exact n1, fun x => by rw [eV 15 w x (by decide) (by decide) (by decide)]; exact n2 x⟩
  · intro l hl2
    rw [e0] at hl2
    have ne : ¬ l = i := by omega
    obtain ⟨n0, n1, n2, n3, n4, n5⟩ := nw.2.1 l hl2
    have v4 : sV (wV (wPart σ i k (nI s)) 4 i 0 0) 4 l 0 = sV σ 4 l 0 := by rw [sV_nei (fun z => ne z.2.1)]; unfold wPart; rw [sV_wN, sV_ne (by decide), sV_ne (by decide)]
    exact ⟨by rw [eN 4 l (fun y => ne y.2)]; exact n0, by rw [eV 3 l 0 (by decide) (by decide) (by decide)]; exact n1, by rw [v4]; exact n2, by rw [eV 5 l 0 (by decide) (by decide) (by decide)]; exact n3, fun x => by rw [eV 10 l x (by decide) (by decide) (by decide)]; exact n4 x, n5⟩
  · intro l p hp
    exact nw.2.2.1 l p (Nat.le_trans (le4 l) hp)
  · intro l j hj
    rw [eV 8 l j (by decide) (by decide) (by decide), eV 9 l j (by decide) (by decide) (by decide)]
    exact nw.2.2.2 l j (by have := le4 l; omega)
theorem Inv.put (I : Inv σ) {i s : Nat} {k : Int32} (hi : i < sN σ 0 0) (hs : s ≤ 6000) : Inv (spPut σ i k (nI s)).2.2 := by
  unfold spPut
  by_cases q : sN σ 4 i < 10
  · rw [if_pos q]; exact I.part hi q hs
  · rw [if_neg q]; exact I
theorem Inv.addPart (I : Inv σ) {l k len : Int32} : Inv (spAddPart σ l k len).2.2 := by
  unfold spAddPart
  refine oRow_k I (by have := I.c.1; omega) fun i hi => ?_
  by_cases q : k = 115
  · rw [if_pos q]
    by_cases q2 : isLen len = true
    · rw [if_pos q2]
      have q4 : ¬ len < 100 ∧ ¬ 6000 < len := by
        unfold isLen at q2
        simpa using q2
      obtain ⟨s, -, hs, rfl⟩ := rng (lo := 100) (hi := 6000) (by decide) (by decide) q4.1 (Int32.not_lt.mp q4.2)
      exact I.put hi hs
    · rw [if_neg q2]; exact I
  · rw [if_neg q]
    by_cases q2 : k = 101 ∨ k = 118
    · rw [if_pos q2]; exact I.put (s := 300) hi (by decide)
    · rw [if_neg q2]; exact I
/-- ends are joined, or parted, both at once -/
theorem Inv.joinW (I : Inv σ) {i a j b : Nat} {x y : Option Nat} (hi : i < sN σ 0 0) (hj : j < sN σ 0 0) (ha : a < 2) (hb2 : b < 2) (ne : ¬ i = j) (h : (x = none ∧ y = none ∧ sR σ 2 i a = some (2 * j + b)) ∨ (x = some (2 * j + b) ∧ y = some (2 * i + a) ∧ endFree σ i a = true ∧ endFree σ j b = true)) : Inv (wJoin σ i a j b x y) := by
  have J : Inv (wR (wR σ 2 i a x) 2 j b y) := by
    have rj : ∀ l e k, sR (wR (wR σ 2 i a x) 2 j b y) 2 l e = some k → k < 2 * sN σ 0 0 := by
      intro l e k z
      rw [sR_wR] at z
      by_cases w : 2 = 2 ∧ l = j ∧ e = b
      · rw [if_pos w] at z
        rcases h with ⟨-, e2, -⟩ | ⟨-, e2, -⟩
        · rw [e2] at z; cases z
        · rw [e2] at z; have := Option.some.inj z; omega
      · rw [if_neg w, sR_wR] at z
        by_cases w2 : 2 = 2 ∧ l = i ∧ e = a
        · rw [if_pos w2] at z
          rcases h with ⟨e2, -⟩ | ⟨e2, -⟩
          · rw [e2] at z; cases z
          · rw [e2] at z; have := Option.some.inj z; omega
        · rw [if_neg w2] at z; exact I.r.2.2 l e k z
    have nR : ∀ f p q, ¬ f = 2 → sR (wR (wR σ 2 i a x) 2 j b y) f p q = sR σ f p q := fun f p q n => by rw [sR_ne n, sR_ne n]
    have nR2 : ∀ p q, ¬ (p = i ∧ q = a) → ¬ (p = j ∧ q = b) → sR (wR (wR σ 2 i a x) 2 j b y) 2 p q = sR σ 2 p q := fun p q n1 n2 => by rw [sR_nei (fun z => n2 z.2), sR_nei (fun z => n1 z.2)]
    have atj : sR (wR (wR σ 2 i a x) 2 j b y) 2 j b = y := by rw [sR_wR, if_pos ⟨rfl, rfl, rfl⟩]
    have ati : sR (wR (wR σ 2 i a x) 2 j b y) 2 i a = x := by rw [sR_nei (fun z => ne z.2.1), sR_wR, if_pos ⟨rfl, rfl, rfl⟩]
    obtain ⟨c, r, al, fl, sh, nw, rp, jw, gr, st, jt, mt⟩ := I.X fun _ _ => False
    refine InvX.I (E := fun _ _ => False) ⟨c, ⟨?_, ?_, rj⟩, al, fl, sh, ⟨nw.1, ?_, ?_, ?_⟩, rp, jw.of (fun _ _ => rfl) (fun l p => nR 1 l p (by decide)), gr.of rfl (fun _ => rfl), st.of rfl (fun _ _ => rfl) (fun l p => nR 0 l p (by decide)) (fun _ => rfl) (fun _ => rfl), jt.of (fun _ _ => rfl) (fun l p => nR 0 l p (by decide)) (fun _ => rfl), ?_⟩ (fun _ _ z => z)
    · intro l p q z; rw [nR 0 l p (by decide)] at z; exact r.1 l p q z
    · intro l p q z; rw [nR 1 l p (by decide)] at z; exact r.2.1 l p q z
    · intro l hl
      have hl3 : sN σ 0 0 ≤ l := hl
      obtain ⟨n0, n1, n2, n3, n4, n5⟩ := nw.2.1 l hl
      exact ⟨n0, n1, n2, n3, n4, fun e => by rw [nR2 l e (fun z => by omega) (fun z => by omega)]; exact n5 e⟩
    · intro l p hp; rw [nR 0 l p (by decide)]; exact nw.2.2.1 l p hp
    · intro l p hp; rw [nR 1 l p (by decide)]; exact nw.2.2.2 l p hp
    · intro l e k z
      have d1 : ∀ {u v : Nat}, v < 2 → (2 * u + v) / 2 = u ∧ (2 * u + v) % 2 = v := fun {u v} hv => ⟨by omega, by omega⟩
      by_cases w : l = i ∧ e = a
      · rw [w.1, w.2, ati] at z
        rcases h with ⟨e2, -⟩ | ⟨e2, e3, f1, f2⟩
        · rw [e2] at z; cases z
        · rw [e2] at z
          have e4 := Option.some.inj z
          subst e4
          rw [(d1 hb2).1, (d1 hb2).2, atj, e3, w.1, w.2]
          unfold endFree at f1
          rw [Bool.and_eq_true, decide_eq_true_eq, decide_eq_true_eq] at f1
          exact ⟨rfl, fun q => ne q.symm, f1.2, ha⟩
      by_cases w2 : l = j ∧ e = b
      · rw [w2.1, w2.2, atj] at z
        rcases h with ⟨-, e2, -⟩ | ⟨e3, e2, f1, f2⟩
        · rw [e2] at z; cases z
        · rw [e2] at z
          have e4 := Option.some.inj z
          subst e4
          rw [(d1 ha).1, (d1 ha).2, ati, e3, w2.1, w2.2]
          unfold endFree at f2
          rw [Bool.and_eq_true, decide_eq_true_eq, decide_eq_true_eq] at f2
          exact ⟨rfl, ne, f2.2, hb2⟩
      rw [nR2 l e w w2] at z
      obtain ⟨h1, h2, h3, h4⟩ := mt l e k z
      have far : ∀ {p q : Nat}, sR σ 2 p q = some (2 * l + e) → ¬ ((p = i ∧ q = a) ∨ (p = j ∧ q = b)) := by
        intro p q hpq t
        rcases h with ⟨-, -, e3⟩ | ⟨-, -, f1, f2⟩
        · rcases t with t | t
          · rw [t.1, t.2, e3] at hpq
            have := Option.some.inj hpq
            exact w2 ⟨by omega, by omega⟩
          · have m2 := (mt i a _ e3).1
            rw [(d1 hb2).1, (d1 hb2).2] at m2
            rw [t.1, t.2, m2] at hpq
            have := Option.some.inj hpq
            exact w ⟨by omega, by omega⟩
        · unfold endFree at f1 f2
          rw [Bool.and_eq_true, decide_eq_true_eq, decide_eq_true_eq] at f1 f2
          rcases t with t | t
          · rw [t.1, t.2, f1.1] at hpq; cases hpq
          · rw [t.1, t.2, f2.1] at hpq; cases hpq
      have fr := far h1
      rw [nR2 _ _ (fun t => fr (Or.inl t)) (fun t => fr (Or.inr t))]
      exact ⟨h1, h2, h3, h4⟩
  unfold wJoin
  exact Inv.t (Inv.t J (Or.inl rfl) hi) (Or.inl rfl) hj
theorem Inv.join (I : Inv σ) {l la o lo : Int32} : Inv (spJoin σ l la o lo).2.2 := by
  unfold spJoin
  refine oRow_k I (by have := I.c.1; omega) fun i hi => oRow_k I (by have := I.c.1; omega) fun j hj => ?_
  by_cases q : i = j
  · rw [if_pos q]; exact I
  rw [if_neg q]
  by_cases q2 : sR σ 2 i (eN la) = some (2 * j + eN lo)
  · rw [if_pos q2]; exact I.joinW hi hj eN_lt eN_lt q (Or.inl ⟨rfl, rfl, q2⟩)
  rw [if_neg q2]
  by_cases q3 : (endFree σ i (eN la) && endFree σ j (eN lo)) = true
  · rw [if_pos q3]
    rw [Bool.and_eq_true] at q3
    exact I.joinW hi hj eN_lt eN_lt q (Or.inr ⟨rfl, rfl, q3.1, q3.2⟩)
  · rw [if_neg q3]; exact I
/-- the empty yard -/
def z0 : zS := (fun _ _ => 0, fun f _ _ => if f = 8 then 110 else if f = 15 then -1 else 0, fun _ _ _ => none)
theorem Inv.zero : Inv z0 := by
  have n : ∀ k i, sN z0 k i = 0 := fun _ _ => rfl
  have r0 : ∀ f i j, sR z0 f i j = none := fun _ _ _ => rfl
  have v8 : ∀ l j, sV z0 8 l j = 110 := fun _ _ => rfl
  have v0 : ∀ f i j, f ≠ 8 → f ≠ 15 → sV z0 f i j = 0 := fun f i j h1 h2 => by
    show (if f = 8 then (110 : Int32) else if f = 15 then -1 else 0) = 0
    rw [if_neg h1, if_neg h2]
  refine ⟨⟨by rw [n]; omega, by rw [n]; omega, by rw [n]; omega, by rw [n]; omega, fun i => by rw [n]; omega⟩, ⟨?_, ?_, ?_⟩, ?_, ⟨?_, ?_, ?_, ?_⟩, ?_, ⟨?_, ?_, ?_, ?_⟩, ?_, ?_, ?_, ⟨?_, ?_⟩, ?_, ?_⟩
  · intro l p q z; rw [r0] at z; cases z
  · intro l p q z; rw [r0] at z; cases z
  · intro l p q z; rw [r0] at z; cases z
  · intro q hq; rw [n] at hq; omega
  · intro l; exact Or.inl (v0 _ _ _ (by decide) (by decide))
  · intro l a; exact Or.inl (v0 _ _ _ (by decide) (by decide))
  · intro l; exact Or.inl (v0 _ _ _ (by decide) (by decide))
  · intro l j; exact Or.inl (v8 l j)
  · intro l hl; rw [n] at hl; omega
  · intro w _; exact ⟨v0 _ _ _ (by decide) (by decide), fun a => rfl⟩
  · intro l _; exact ⟨rfl, v0 _ _ _ (by decide) (by decide), v0 _ _ _ (by decide) (by decide), v0 _ _ _ (by decide) (by decide), fun a => v0 _ _ _ (by decide) (by decide), fun a => rfl⟩
  · intro l p _; rfl
  · intro l j _; exact ⟨v8 l j, v0 _ _ _ (by decide) (by decide), rfl⟩
  · intro l j; exact Or.inl (v0 _ _ _ (by decide) (by decide))
  · intro l j; exact ⟨fun _ => rfl, fun _ => v8 l j⟩
  · exact ⟨fun _ => 0, fun _ => 0, fun l hl => by rw [n] at hl; omega⟩
  · intro l p hl; rw [n] at hl; omega
  · intro q hq; rw [n] at hq; omega
  · intro l j z; exact absurd (v8 l j) z
  · intro l a k z; rw [r0] at z; cases z
end KR
