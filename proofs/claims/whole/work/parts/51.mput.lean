/-! values written in the model -/
theorem frS.refl {B : Nat} {h : AH} : frS B h h := ⟨fun _ _ => ⟨rfl, rfl, fun _ _ => rfl, fun _ => rfl, rfl⟩, fun _ _ => ⟨fun _ _ => rfl, fun _ => rfl⟩, Nat.le_refl _⟩
theorem M.same {g : Nat → Nat} {B : Nat} {mu : zM} {σ σ' : zS} {h : AH} (p : M g B mu σ h) (e1 : sN σ' = sN σ) (e2 : ∀ f i j, vOk (sN σ) (mT f) i j → mV σ' f i j = mV σ f i j) (e3 : ∀ k i a, mW σ' k i a = mW σ k i a) (e4 : ∀ i, sV σ' 0 i 0 = sV σ 0 i 0) (e5 : ∀ c, sV σ' 17 c 0 = sV σ 17 c 0) : M g B mu σ' h := by
  obtain ⟨p0, p1, p2, ⟨p3, p4, p5⟩, p6⟩ := p
  unfold M M1
  rw [e1]
  refine ⟨p0, fun f i j ok => ?_, fun k i a h6 ok h9 ha => ?_, ?_, fun c hc => ?_⟩
  · rw [e2 f i j ok]; exact p1 f i j ok
  · rw [e3]; exact p2 k i a h6 ok h9 ha
  · rw [e4, e4, e4]; exact ⟨p3, p4, p5⟩
  · rw [e5]; exact p6 c hc
theorem sV_ne {σ : zS} {f i j f' a b : Nat} {v : Int32} (hf : f' ≠ f) : sV (wV σ f i j v) f' a b = sV σ f' a b := by rw [sV_wV, if_neg (fun z => hf z.1)]
theorem sR_ne {σ : zS} {f i j f' a b : Nat} {v : Option Nat} (hf : f' ≠ f) : sR (wR σ f i j v) f' a b = sR σ f' a b := by rw [sR_wR, if_neg (fun z => hf z.1)]
theorem mW_wV {σ : zS} {f i j k l a : Nat} {v : Int32} (h10 : f ≠ 10) (h15 : f ≠ 15) : mW (wV σ f i j v) k l a = mW σ k l a := by
  unfold mW
  rw [sR_wV, sV_ne h10.symm, sV_ne h15.symm]
theorem mW_wR {σ : zS} {f i j k l a : Nat} {v : Option Nat} (h2 : f ≠ 2) : mW (wR σ f i j v) k l a = mW σ k l a := by
  unfold mW
  rw [sR_ne h2.symm]
  rfl
theorem mV_ne {σ : zS} {f i j f' a b : Nat} {v : Int32} (hf : f' ≠ f) : mV (wV σ f i j v) f' a b = mV σ f' a b := by
  unfold mV
  rw [sR_wV, sV_ne hf]
theorem mV_neR {σ : zS} {i j f' a b : Nat} {v : Option Nat} : mV (wR σ 2 i j v) f' a b = mV σ f' a b := by
  unfold mV
  rw [sR_ne (by decide), sR_ne (by decide)]
  rfl
theorem vOk_ne {n : zC} {f i j F : Nat} (ok : vOk n (mT f) i j) (hF : mT F = 99) : f ≠ F := fun q => by
  subst q
  rw [hF] at ok
  exact ok
theorem M.upd {g : Nat → Nat} {B : Nat} {mu : zM} {σ σ' : zS} {h : AH} (p : M g B mu σ h) {f i j : Nat} (ok : vOk (sN σ) (mT f) i j) {v : Int32} (e1 : sN σ' = sN σ) (e2 : ∀ f' i' j', vOk (sN σ) (mT f') i' j' → mV σ' f' i' j' = if f' = f ∧ i' = i ∧ j' = j then v else mV σ f' i' j') (e3 : ∀ k i a, mW σ' k i a = mW σ k i a) (e4 : ∀ i, sV σ' 0 i 0 = sV σ 0 i 0) (e5 : ∀ c, sV σ' 17 c 0 = sV σ 17 c 0) : frK B h (sI h (mF f) (mu (mT f) i j) v) ∧ M g B mu σ' (sI h (mF f) (mu (mT f) i j) v) := by
  obtain ⟨p0, p1, p2, ⟨p3, p4, p5⟩, p6⟩ := p
  obtain ⟨f1, f2, f3, f4⟩ := mF_ok ok
  obtain ⟨z1, z2, z3⟩ := p0.1 _ i j ok
  have ne : ∀ {F : Nat} (a : Nat), F ≠ mF f → hI (sI h (mF f) (mu (mT f) i j) v) F a = hI h F a := fun a hF => by rw [hI_sI, if_neg (fun q => hF q.1)]
  have na : ∀ {a : Nat} (F : Nat), a ≤ B + 119 → hI (sI h (mF f) (mu (mT f) i j) v) F a = hI h F a := fun F ha => by rw [hI_sI, if_neg (fun q => by have := q.2; omega)]
  have S : frS B h (sI h (mF f) (mu (mT f) i j) v) := ⟨fun a _ => ⟨rfl, rfl, fun _ _ => rfl, fun _ => rfl, ne a (by omega)⟩, fun a ha => ⟨fun F _ => na F (by omega), fun _ => rfl⟩, Nat.le_refl _⟩
  refine ⟨⟨⟨fun a ha => ⟨fun F hF => ⟨?_, rfl⟩, rfl, rfl, fun _ => ⟨rfl, rfl⟩⟩, fun _ _ _ => ⟨rfl, rfl⟩, Nat.le_refl _⟩, ne _ (by omega)⟩, ?_⟩
  · rcases hF with q | q
    · exact ne a (by omega)
    · exact na F (by omega)
  unfold M M1
  rw [e1]
  refine ⟨p0.keep S, fun f' i' j' ok' => ?_, fun k i' a h6 ok' h9 ha => ?_, ?_, fun c hc => ?_⟩
  · rw [e2 f' i' j' ok', hI_sI]
    by_cases q : f' = f ∧ i' = i ∧ j' = j
    · obtain ⟨rfl, rfl, rfl⟩ := q
      simp
    · rw [if_neg q, if_neg]
      · exact p1 f' i' j' ok'
      · intro z
        have ef : f' = f := by rw [← (mF_ok ok').1, ← f1, z.1]
        obtain ⟨-, x1, x2⟩ := p0.2.1 _ _ _ _ _ _ ok' ok z.2
        exact q ⟨ef, x1, x2⟩
  · rw [e3]; exact p2 k i' a h6 ok' h9 ha
  · rw [e4, e4, e4, ne _ (by omega), ne _ (by omega), ne _ (by omega)]; exact ⟨p3, p4, p5⟩
  · rw [e5, ne _ (by omega)]; exact p6 c hc
theorem vC_K {k : Nat} (h : k < 5) : vK k = vC k + 1 := by
  match k, h with
  | 0, _ => rfl
  | 1, _ => rfl
  | 2, _ => rfl
  | 3, _ => rfl
  | 4, _ => rfl
theorem M.putI {g : Nat → Nat} {B : Nat} {mu : zM} {σ : zS} {h : AH} (p : M g B mu σ h) (f i j : Nat) (ok : vOk (sN σ) (mT f) i j) (hf : f ≠ 18 ∧ f ≠ 19) {v : Int32} {kk : AH → Prop} (k : ∀ h', frK B h h' → M g B mu (wV σ f i j v) h' → kk h') : pI h (some (mu (mT f) i j)) (vC (mT f)) (mF f) v kk := by
  have h0 : f ≠ 0 := fun q => by subst q; exact ok
  have h10 : f ≠ 10 := fun q => by subst q; exact ok
  have h15 : f ≠ 15 := fun q => by subst q; exact ok
  have h17 : f ≠ 17 := fun q => by subst q; exact ok
  have r := p.upd (σ' := wV σ f i j v) (v := v) ok rfl (fun f' i' j' _ => by
    unfold mV
    by_cases q1 : f' = 18
    · rw [if_pos q1, if_pos q1, if_neg (fun z => hf.1 (z.1.symm.trans q1)), sR_wV]
    · by_cases q2 : f' = 19
      · rw [if_neg q1, if_neg q1, if_pos q2, if_pos q2, if_neg (fun z => hf.2 (z.1.symm.trans q2)), sR_wV]
      · rw [if_neg q1, if_neg q1, if_neg q2, if_neg q2, sV_wV]) (fun k i a => mW_wV h10 h15) (fun i => sV_ne h0.symm) (fun c => sV_ne h17.symm)
  exact ⟨_, rfl, by rw [(p.1.1 _ i j ok).2.2, vC_K (mF_ok ok).2.2.2], k _ r.1 r.2⟩
theorem M.putR {g : Nat → Nat} {B : Nat} {mu : zM} {σ : zS} {h : AH} (p : M g B mu σ h) (f i j : Nat) (hf : f < 2) (ok : vOk (sN σ) (mT (18 + f)) i j) (x : Option Nat) {v : Int32} (hv : v = enc x) {kk : AH → Prop} (k : ∀ h', frK B h h' → M g B mu (wR σ f i j x) h' → kk h') : pI h (some (mu (mT (18 + f)) i j)) (vC (mT (18 + f))) (mF (18 + f)) v kk := by
  subst hv
  have r := p.upd (σ' := wR σ f i j x) (v := enc x) ok rfl (fun f' i' j' _ => by
    unfold mV
    by_cases q1 : f' = 18
    · rw [if_pos q1, if_pos q1, sR_wR]
      by_cases q : 0 = f ∧ i' = i ∧ j' = j
      · rw [if_pos q, if_pos ⟨by omega, q.2⟩]
      · rw [if_neg q, if_neg (fun z => q ⟨by have := z.1; omega, z.2⟩)]
    · by_cases q2 : f' = 19
      · rw [if_neg q1, if_neg q1, if_pos q2, if_pos q2, sR_wR]
        by_cases q : 1 = f ∧ i' = i ∧ j' = j
        · rw [if_pos q, if_pos ⟨by omega, q.2⟩]
        · rw [if_neg q, if_neg (fun z => q ⟨by have := z.1; omega, z.2⟩)]
      · rw [if_neg q1, if_neg q1, if_neg q2, if_neg q2, if_neg (fun z => by have := z.1; omega)]
        rfl) (fun k i a => mW_wR (by omega)) (fun i => rfl) (fun c => rfl)
  exact ⟨_, rfl, by rw [(p.1.1 _ i j ok).2.2, vC_K (mF_ok ok).2.2.2], k _ r.1 r.2⟩
/-- the model's own numbers -/
theorem M.own {g : Nat → Nat} {B : Nat} {mu : zM} {σ σ' : zS} {h : AH} (p : M g B mu σ h) {F : Nat} (h1 : 196 ≤ F) (h2 : F < 200) {v : Int32} (e1 : sN σ' = sN σ) (e2 : ∀ f i j, vOk (sN σ) (mT f) i j → mV σ' f i j = mV σ f i j) (e3 : ∀ k i a, mW σ' k i a = mW σ k i a) (e4 : ∀ i, i < 3 → sV σ' 0 i 0 = if 196 + i = F then v else sV σ 0 i 0) (e5 : ∀ c, sV σ' 17 c 0 = sV σ 17 c 0) : frM B h (sI h F (B + 119) v) ∧ M g B mu σ' (sI h F (B + 119) v) := by
  obtain ⟨p0, p1, p2, ⟨p3, p4, p5⟩, p6⟩ := p
  have ne : ∀ {G : Nat} (a : Nat), G ≠ F → hI (sI h F (B + 119) v) G a = hI h G a := fun a hF => by rw [hI_sI, if_neg (fun q => hF q.1)]
  have na : ∀ {a : Nat} (G : Nat), a ≠ B + 119 → hI (sI h F (B + 119) v) G a = hI h G a := fun G ha => by rw [hI_sI, if_neg (fun q => ha q.2)]
  have S : frS B h (sI h F (B + 119) v) := ⟨fun a _ => ⟨rfl, rfl, fun _ _ => rfl, fun _ => rfl, ne a (by omega)⟩, fun a ha => ⟨fun G _ => na G (by omega), fun _ => rfl⟩, Nat.le_refl _⟩
  refine ⟨⟨fun a ha => ⟨fun G hG => ⟨?_, rfl⟩, rfl, rfl, fun _ => ⟨rfl, rfl⟩⟩, fun _ _ _ => ⟨rfl, rfl⟩, Nat.le_refl _⟩, ?_⟩
  · rcases hG with q | q
    · exact ne a (by omega)
    · exact na G (by omega)
  unfold M M1
  rw [e1]
  have own : ∀ i, i < 3 → hI h (196 + i) (B + 119) = sV σ 0 i 0 → hI (sI h F (B + 119) v) (196 + i) (B + 119) = sV σ' 0 i 0 := by
    intro i hi e
    rw [e4 i hi, hI_sI]
    by_cases q : 196 + i = F
    · rw [if_pos q, if_pos ⟨q, rfl⟩]
    · rw [if_neg q, if_neg (fun z => q z.1)]; exact e
  refine ⟨p0.keep S, fun f' i' j' ok' => ?_, fun k i' a h6 ok' h9 ha => ?_, ⟨own 0 (by decide) p3, own 1 (by decide) p4, own 2 (by decide) p5⟩, fun c hc => ?_⟩
  · rw [e2 f' i' j' ok', ne _ (by have := (mF_ok ok').2.2.1; omega)]
    exact p1 f' i' j' ok'
  · rw [e3]; exact p2 k i' a h6 ok' h9 ha
  · rw [e5, ne _ (by omega)]; exact p6 c hc
theorem M.putO {g : Nat → Nat} {B : Nat} {mu : zM} {σ : zS} {h : AH} (p : M g B mu σ h) (i : Nat) (hi : i < 3) {v : Int32} {kk : AH → Prop} (k : ∀ h', frK B h h' → M g B mu (wV σ 0 i 0 v) h' → kk h') : pI h (some (B + 119)) 12 (196 + i) v kk := by
  have r := p.own (F := 196 + i) (v := v) (σ' := wV σ 0 i 0 v) (by omega) (by omega) rfl (fun f' i' j' ok => mV_ne (vOk_ne ok rfl)) (fun k i' a => mW_wV (by decide) (by decide)) (fun j hj => by
    rw [sV_wV]
    by_cases q : j = i
    · subst q; simp
    · rw [if_neg (fun z => q z.2.1), if_neg (by omega)]) (fun c => sV_ne (by decide))
  exact ⟨_, rfl, p.1.2.2.2.2.2.1.1, k _ ⟨r.1, by rw [hI_sI, if_neg (fun z => by have := z.1; omega)]⟩ r.2⟩
theorem M.code {g : Nat → Nat} {B : Nat} {mu : zM} {σ : zS} {h : AH} (p : M g B mu σ h) {v : Int32} {kk : AH → Prop} (k : ∀ h', frM B h h' → hI h' 199 (B + 119) = v → M g B mu σ h' → kk h') : pI h (some (B + 119)) 12 199 v kk := by
  have r := p.own (F := 199) (v := v) (σ' := σ) (by omega) (by omega) rfl (fun _ _ _ _ => rfl) (fun _ _ _ => rfl) (fun j hj => by rw [if_neg (by omega)]) (fun _ => rfl)
  exact ⟨_, rfl, p.1.2.2.2.2.2.1.1, k _ r.1 (by rw [hI_sI]; simp) r.2⟩
/-- the rows of ints and flags -/
theorem M.row {g : Nat → Nat} {B : Nat} {mu : zM} {σ σ' : zS} {h : AH} (p : M g B mu σ h) {k i a : Nat} (h6 : 6 ≤ k) (h9 : k < 9) (ok : vOk (sN σ) k i 0) {v : Int32} (e1 : sN σ' = sN σ) (e2 : ∀ f i j, vOk (sN σ) (mT f) i j → mV σ' f i j = mV σ f i j) (e3 : ∀ k' i' a', 6 ≤ k' → k' < 9 → mW σ' k' i' a' = if k' = k ∧ i' = i ∧ a' = a then v else mW σ k' i' a') (e4 : ∀ i, sV σ' 0 i 0 = sV σ 0 i 0) (e5 : ∀ c, sV σ' 17 c 0 = sV σ 17 c 0) : frK B h (tI h (mu k i 0) a v) ∧ M g B mu σ' (tI h (mu k i 0) a v) := by
  obtain ⟨p0, p1, p2, ⟨p3, p4, p5⟩, p6⟩ := p
  obtain ⟨z1, z2, z3⟩ := p0.1 _ i 0 ok
  have na : ∀ {b : Nat} (j : Nat), b ≤ B + 119 → aI (tI h (mu k i 0) a v) b j = aI h b j := fun j hb => by rw [aI_tI, if_neg (fun q => by have := q.1; omega)]
  have S : frS B h (tI h (mu k i 0) a v) := ⟨fun a _ => ⟨rfl, rfl, fun _ _ => rfl, fun _ => rfl, rfl⟩, fun a ha => ⟨fun F _ => rfl, fun j => na j (by omega)⟩, Nat.le_refl _⟩
  refine ⟨⟨⟨fun b hb => ⟨fun F hF => ⟨rfl, rfl⟩, rfl, rfl, fun _ => ⟨rfl, rfl⟩⟩, fun b hb j => ⟨na j hb, rfl⟩, Nat.le_refl _⟩, rfl⟩, ?_⟩
  unfold M M1
  rw [e1]
  refine ⟨p0.keep S, fun f' i' j' ok' => ?_, fun k' i' a' h6' ok' h9' ha => ?_, ?_, fun c hc => ?_⟩
  · rw [e2 f' i' j' ok']; exact p1 f' i' j' ok'
  · rw [e3 k' i' a' h6' h9', aI_tI]
    by_cases q : k' = k ∧ i' = i ∧ a' = a
    · obtain ⟨rfl, rfl, rfl⟩ := q
      simp
    · rw [if_neg q, if_neg]
      · exact p2 k' i' a' h6' ok' h9' ha
      · intro z
        obtain ⟨x0, x1, x2⟩ := p0.2.1 _ _ _ _ _ _ ok' ok z.1
        exact q ⟨x0, x1, z.2⟩
  · rw [e4, e4, e4]; exact ⟨p3, p4, p5⟩
  · rw [e5]; exact p6 c hc
theorem M.stJn {g : Nat → Nat} {B : Nat} {mu : zM} {σ : zS} {h : AH} (p : M g B mu σ h) {l a : Nat} (hl : l < sN σ 0 0) (ha : a < 2) (x : Option Nat) {v : Int32} (hv : v = enc x) {kk : AH → Prop} (k : ∀ h', frK B h h' → M g B mu (wR σ 2 l a x) h' → kk h') : stI h (some (mu 6 l 0)) 0 (nI a) v kk := by
  subst hv
  have r := p.row (k := 6) (i := l) (a := a) (v := enc x) (σ' := wR σ 2 l a x) (by decide) (by decide) ⟨hl, rfl⟩ rfl (fun f' i' j' ok => mV_neR) (fun k' i' a' h6 h9 => by
    by_cases q : k' = 6
    · subst q
      simp [mW, sV_wV, sR_wR]
      split <;> rfl
    · rw [if_neg (fun z => q z.1)]
      have q2 : k' = 7 ∨ k' = 8 := by omega
      rcases q2 with rfl | rfl <;> simp [mW, sV_wV, sR_wV, sR_wR, sV, sR, wV, wR]) (fun _ => rfl) (fun _ => rfl)
  have e9 : (nI a).toNatClampNeg = a := nI_clamp (by omega)
  refine ⟨_, rfl, (p.1.1 6 l 0 ⟨hl, rfl⟩).2.2, by rw [p.1.2.2.1 6 l 0 ⟨hl, rfl⟩ (by decide)]; exact vp_in_nI ha (by decide), ?_⟩
  rw [e9]
  exact k _ r.1 r.2
theorem M.stBl {g : Nat → Nat} {B : Nat} {mu : zM} {σ : zS} {h : AH} (p : M g B mu σ h) {l a : Nat} (hl : l < sN σ 0 0) (ha : a < 2) {v : Int32} {kk : AH → Prop} (k : ∀ h', frK B h h' → M g B mu (wV σ 10 l a v) h' → kk h') : stI h (some (mu 7 l 0)) 1 (nI a) v kk := by
  have r := p.row (k := 7) (i := l) (a := a) (v := v) (σ' := wV σ 10 l a v) (by decide) (by decide) ⟨hl, rfl⟩ rfl (fun f' i' j' ok => mV_ne (vOk_ne ok rfl)) (fun k' i' a' h6 h9 => by
    by_cases q : k' = 7
    · subst q
      simp [mW, sV_wV, sR_wR]
    · rw [if_neg (fun z => q z.1)]
      have q2 : k' = 6 ∨ k' = 8 := by omega
      rcases q2 with rfl | rfl <;> simp [mW, sV_wV, sR_wV, sR_wR, sV, sR, wV, wR]) (fun _ => sV_ne (by decide)) (fun _ => sV_ne (by decide))
  have e9 : (nI a).toNatClampNeg = a := nI_clamp (by omega)
  refine ⟨_, rfl, (p.1.1 7 l 0 ⟨hl, rfl⟩).2.2, by rw [p.1.2.2.1 7 l 0 ⟨hl, rfl⟩ (by decide)]; exact vp_in_nI ha (by decide), ?_⟩
  rw [e9]
  exact k _ r.1 r.2
theorem M.stTk {g : Nat → Nat} {B : Nat} {mu : zM} {σ : zS} {h : AH} (p : M g B mu σ h) {l a : Nat} (hl : l < sN σ 2 0) (ha : a < 4) {v : Int32} {kk : AH → Prop} (k : ∀ h', frK B h h' → M g B mu (wV σ 15 l a v) h' → kk h') : stI h (some (mu 8 l 0)) 0 (nI a) v kk := by
  have r := p.row (k := 8) (i := l) (a := a) (v := v) (σ' := wV σ 15 l a v) (by decide) (by decide) ⟨hl, rfl⟩ rfl (fun f' i' j' ok => mV_ne (vOk_ne ok rfl)) (fun k' i' a' h6 h9 => by
    by_cases q : k' = 8
    · subst q
      simp [mW, sV_wV, sR_wR]
    · rw [if_neg (fun z => q z.1)]
      have q2 : k' = 6 ∨ k' = 7 := by omega
      rcases q2 with rfl | rfl <;> simp [mW, sV_wV, sR_wV, sR_wR, sV, sR, wV, wR]) (fun _ => sV_ne (by decide)) (fun _ => sV_ne (by decide))
  have e9 : (nI a).toNatClampNeg = a := nI_clamp (by omega)
  refine ⟨_, rfl, (p.1.1 8 l 0 ⟨hl, rfl⟩).2.2, by rw [p.1.2.2.1 8 l 0 ⟨hl, rfl⟩ (by decide)]; exact vp_in_nI ha (by decide), ?_⟩
  rw [e9]
  exact k _ r.1 r.2
/-- numbers that only the class keeps -/
theorem M.wc {g : Nat → Nat} {B : Nat} {mu : zM} {σ : zS} {h : AH} (p : M g B mu σ h) (f i j : Nat) (hf : f = 2 ∨ f = 12) (v : Int32) : M g B mu (wV σ f i j v) h := by
  refine p.same rfl (fun f' i' j' ok => mV_ne ?_) (fun k i a => mW_wV (by omega) (by omega)) (fun _ => sV_ne (by omega)) (fun _ => sV_ne (by omega))
  rcases hf with rfl | rfl
  · exact vOk_ne ok rfl
  · exact vOk_ne ok rfl
