/-! steel adds up -/
theorem sV_nei {σ : zS} {f i j f' a b : Nat} {v : Int32} (hf : ¬ (f' = f ∧ a = i ∧ b = j)) : sV (wV σ f i j v) f' a b = sV σ f' a b := by rw [sV_wV, if_neg hf]
theorem sR_nei {σ : zS} {f i j f' a b : Nat} {v : Option Nat} (hf : ¬ (f' = f ∧ a = i ∧ b = j)) : sR (wR σ f i j v) f' a b = sR σ f' a b := by rw [sR_wR, if_neg hf]
theorem sR_at {σ : zS} {f i j : Nat} {v : Option Nat} : sR (wR σ f i j v) f i j = v := by rw [sR_wR, if_pos ⟨rfl, rfl, rfl⟩]
theorem sV_at {σ : zS} {f i j : Nat} {v : Int32} : sV (wV σ f i j v) f i j = v := by rw [sV_wV, if_pos ⟨rfl, rfl, rfl⟩]
theorem sm_congr {f f' : Nat → Nat} : ∀ {n : Nat}, (∀ x, x < n → f x = f' x) → sm f n = sm f' n := by
  intro n
  induction n with
  | zero => intro _; rfl
  | succ n ih =>
    intro h
    show sm f n + f n = sm f' n + f' n
    rw [ih (fun x hx => h x (by omega)), h n (by omega)]
theorem sm_upd {f f' : Nat → Nat} {i : Nat} (h : ∀ x, x ≠ i → f' x = f x) : ∀ {n : Nat}, i < n → sm f' n + f i = sm f n + f' i := by
  intro n
  induction n with
  | zero => intro hi; omega
  | succ n ih =>
    intro hi
    show sm f' n + f' n + f i = sm f n + f n + f' i
    by_cases q : i = n
    · subst q
      rw [sm_congr (fun x hx => h x (by omega))]
      omega
    · have := ih (by omega)
      rw [h n (fun z => q z.symm)]
      omega
theorem zG_upd {σ σ' : zS} {q i j : Nat} (e0 : sN σ' = sN σ) (hc : ∀ l p, ¬ (l = i ∧ p = j) → zc1 σ' q l p = zc1 σ q l p) (hi : i < sN σ 0 0) (hj : j < sN σ 4 i) : zG σ' q + zc1 σ q i j = zG σ q + zc1 σ' q i j := by
  unfold zG
  rw [e0]
  have h1 := sm_upd (f := fun l => sm (zc1 σ q l) (sN σ 4 l)) (f' := fun l => sm (zc1 σ' q l) (sN σ 4 l)) (i := i) (fun x hx => sm_congr fun p _ => hc x p (fun z => hx z.1)) hi
  have h2 := sm_upd (f := zc1 σ q i) (f' := zc1 σ' q i) (i := j) (fun x hx => hc i x (fun z => hx z.2)) hj
  omega
theorem zG_same {σ σ' : zS} {q : Nat} (e0 : sN σ' = sN σ) (hc : ∀ l p, zc1 σ' q l p = zc1 σ q l p) : zG σ' q = zG σ q := by
  unfold zG
  rw [e0]
  exact sm_congr fun l _ => sm_congr fun p _ => hc l p
theorem zfo_sum {g : Nat → Int32} {f : Nat → Nat} (a : Nat) : ∀ n, (∀ p, p < n → g p = nI (f p)) → zfo (fun p acc => acc + g p) n 0 (nI a) = nI (a + sm f n) := by
  intro n
  induction n with
  | zero => intro _; rfl
  | succ n ih =>
    intro h
    rw [zfo_snoc, ih (fun p hp => h p (by omega)), Nat.zero_add, h n (by omega), nI_add]
    show nI (a + sm f n + f n) = nI (a + (sm f n + f n))
    rw [Nat.add_assoc]
theorem zz_of {σ : zS} {l p s : Nat} (e : sV σ 7 l p = nI s) (hs : s ≤ 6000) : zz σ l p = s := by
  unfold zz
  rw [e]
  exact nI_clamp (by omega)
theorem given_eq {σ : zS} (st : zSt σ) (q : Nat) : spGiven σ q = nI (zG σ q) := by
  have inner : ∀ l, l < sN σ 0 0 → ∀ a, spGivenL σ q l (sN σ 4 l) 0 (nI a) = nI (a + sm (zc1 σ q l) (sN σ 4 l)) := by
    intro l hl a
    refine zfo_sum a _ fun p hp => ?_
    obtain ⟨s, e, hs⟩ := st.1 l p hl hp
    unfold zc1
    by_cases z : sR σ 0 l p = some q
    · rw [if_pos z, if_pos z, zz_of e hs]; exact e
    · rw [if_neg z, if_neg z]; rfl
  have outer : ∀ n, n ≤ sN σ 0 0 → zfo (fun l a => spGivenL σ q l (sN σ 4 l) 0 a) n 0 0 = nI (sm (fun l => sm (zc1 σ q l) (sN σ 4 l)) n) := by
    intro n
    induction n with
    | zero => intro _; rfl
    | succ n ih =>
      intro hn
      rw [zfo_snoc, ih (by omega), Nat.zero_add, inner n (by omega)]
      rfl
  exact outer _ (Nat.le_refl _)
theorem nI_subI {r s : Nat} (h : s ≤ r) : nI r - nI s = nI (r - s) := by
  have e : nI r = nI (r - s) + nI s := by rw [nI_add]; rw [Nat.sub_add_cancel h]
  rw [e]
  exact Int32.add_sub_cancel _ _
theorem spSound_ok {σ : zS} (I : Inv σ) : spSound σ = true := by
  unfold spSound
  rw [Bool.and_eq_true, zal_iff, zal_iff]
  refine ⟨fun q _ hq => ?_, fun l _ hl => ?_⟩
  · obtain ⟨r, f, e1, e2, e3, e4⟩ := I.st.2 q (by omega)
    unfold qOk
    rw [e1, e2, given_eq I.st, nI_add, e4]
    simp [nI_pos (n := r) (by omega)]
  · unfold lOk
    have hl' : l < sN σ 0 0 := by omega
    have ends : ∀ a, eOk σ l a = true := by
      intro a
      unfold eOk
      cases e : sR σ 2 l a with
      | none => rfl
      | some k =>
        obtain ⟨m1, m2, m3, m4⟩ := I.mt l a k e
        simp [m1, m2, m3]
    rw [ends 0, ends 1, I.acyc hl', Bool.and_eq_true, zal_iff]
    refine ⟨fun j _ hj => ?_, rfl⟩
    unfold jOk jOkA
    by_cases z : sV σ 8 l j = 110
    · simp [z]
    · obtain ⟨a, b, e1, e2, e3⟩ := I.jt l j z
      have w : ¬ sR σ 1 l j = none := fun y => z ((I.jw l j).mpr y)
      cases ew : sR σ 1 l j with
      | none => exact absurd ew w
      | some k => simp [e1, e2, e3]
theorem zSt.of {σ σ' : zS} (st : zSt σ) (e0 : sN σ' = sN σ) (e7 : ∀ l p, sV σ' 7 l p = sV σ 7 l p) (eR : ∀ l p, sR σ' 0 l p = sR σ 0 l p) (e13 : ∀ q, sV σ' 13 q 0 = sV σ 13 q 0) (e12 : ∀ q, sV σ' 12 q 0 = sV σ 12 q 0) : zSt σ' := by
  have hz : ∀ q l p, zc1 σ' q l p = zc1 σ q l p := fun q l p => by unfold zc1 zz; rw [eR, e7]
  refine ⟨fun l p hl hp => ?_, fun q hq => ?_⟩
  · rw [e0] at hl hp
    rw [e7]
    exact st.1 l p hl hp
  · rw [e0] at hq
    rw [e13, e12, zG_same e0 (hz q)]
    exact st.2 q hq
/-- a part's steel goes back -/
theorem zSt.back {σ : zS} (I : Inv σ) {i j : Nat} (hi : i < sN σ 0 0) (hj : j < sN σ 4 i) : zSt (wBack σ i j) ∧ sR (wBack σ i j) 0 i j = none := by
  unfold wBack
  cases e : sR σ 0 i j with
  | none => exact ⟨I.st, e⟩
  | some q =>
    dsimp only
    have hq := I.r.1 i j q e
    obtain ⟨s, es, hs⟩ := I.st.1 i j hi hj
    have ez : zz σ i j = s := zz_of es hs
    refine ⟨⟨fun l p hl hp => ?_, fun x hx => ?_⟩, ?_⟩
    · rw [sV_wR, sV_ne (by decide)]
      exact I.st.1 l p hl hp
    · obtain ⟨r, f, e1, e2, e3, e4⟩ := I.st.2 x hx
      have up := zG_upd (σ := σ) (σ' := wR (wV σ 13 q 0 (sV σ 13 q 0 + sV σ 7 i j)) 0 i j none) (q := x) (i := i) (j := j) rfl (fun l p z => by
        unfold zc1 zz
        rw [sR_nei (fun y => z y.2), sV_wR, sV_ne (by decide)]
        rfl) hi hj
      generalize zG (wR (wV σ 13 q 0 (sV σ 13 q 0 + sV σ 7 i j)) 0 i j none) x = G at up ⊢
      have n1 : zc1 (wR (wV σ 13 q 0 (sV σ 13 q 0 + sV σ 7 i j)) 0 i j none) x i j = 0 := by
        unfold zc1
        rw [sR_at, if_neg (by simp)]
      rw [n1] at up
      have v12 : sV (wR (wV σ 13 q 0 (sV σ 13 q 0 + sV σ 7 i j)) 0 i j none) 12 x 0 = sV σ 12 x 0 := by rw [sV_wR, sV_ne (by decide)]
      rw [v12, sV_wR, sV_wV]
      by_cases z : x = q
      · subst z
        have n2 : zc1 σ x i j = s := by unfold zc1; rw [if_pos e, ez]
        rw [n2] at up
        rw [if_pos ⟨rfl, rfl, rfl⟩, e1, es, nI_add]
        exact ⟨r + s, f, rfl, e2, e3, by omega⟩
      · have n2 : zc1 σ x i j = 0 := by
          unfold zc1
          rw [e, if_neg (fun y => z (Option.some.inj y).symm)]
        rw [n2] at up
        rw [if_neg (fun y => z y.2.1)]
        exact ⟨r, f, e1, e2, e3, by omega⟩
    · rw [sR_wR, if_pos ⟨rfl, rfl, rfl⟩]
theorem zSt.size {τ : zS} (st : zSt τ) {i j s : Nat} (hs : s ≤ 6000) (e : sR τ 0 i j = none) : zSt (wV τ 7 i j (nI s)) := by
  refine ⟨fun l p hl hp => ?_, fun x hx => ?_⟩
  · rw [sV_wV]
    by_cases z : 7 = 7 ∧ l = i ∧ p = j
    · rw [if_pos z]; exact ⟨s, rfl, hs⟩
    · rw [if_neg z]; exact st.1 l p hl hp
  · rw [sV_ne (by decide), sV_ne (by decide), zG_same (σ := τ) (σ' := wV τ 7 i j (nI s)) rfl (fun l p => by
      unfold zc1 zz
      rw [sR_wV, sV_wV]
      by_cases z : 7 = 7 ∧ l = i ∧ p = j
      · obtain ⟨-, rfl, rfl⟩ := z
        rw [e, if_neg (by simp), if_neg (by simp)]
      · rw [if_neg z])]
    exact st.2 x hx
theorem zSt.take {τ : zS} (st : zSt τ) {i j k : Nat} (hi : i < sN τ 0 0) (hj : j < sN τ 4 i) (hk : k < sN τ 1 0) (e : sR τ 0 i j = none) (h : sV τ 7 i j ≤ sV τ 13 k 0) : zSt (wTake τ i j k) := by
  obtain ⟨s, es, hs⟩ := st.1 i j hi hj
  have ez : zz τ i j = s := zz_of es hs
  unfold wTake
  refine ⟨fun l p hl hp => ?_, fun x hx => ?_⟩
  · rw [sV_wR, sV_ne (by decide)]
    exact st.1 l p hl hp
  · obtain ⟨r, f, e1, e2, e3, e4⟩ := st.2 x hx
    have up := zG_upd (σ := τ) (σ' := wR (wV τ 13 k 0 (sV τ 13 k 0 - sV τ 7 i j)) 0 i j (some k)) (q := x) (i := i) (j := j) rfl (fun l p z => by
      unfold zc1 zz
      rw [sR_nei (fun y => z y.2), sV_wR, sV_ne (by decide)]
      rfl) hi hj
    have n2 : zc1 τ x i j = 0 := by
      unfold zc1
      rw [e, if_neg (by simp)]
    rw [n2] at up
    generalize zG (wR (wV τ 13 k 0 (sV τ 13 k 0 - sV τ 7 i j)) 0 i j (some k)) x = G at up ⊢
    have v12 : sV (wR (wV τ 13 k 0 (sV τ 13 k 0 - sV τ 7 i j)) 0 i j (some k)) 12 x 0 = sV τ 12 x 0 := by rw [sV_wR, sV_ne (by decide)]
    rw [v12, sV_wR, sV_wV]
    by_cases z : x = k
    · subst z
      have n1 : zc1 (wR (wV τ 13 x 0 (sV τ 13 x 0 - sV τ 7 i j)) 0 i j (some x)) x i j = s := by
        unfold zc1 zz
        rw [sR_at, if_pos rfl, sV_wR, sV_ne (by decide)]
        exact ez
      rw [n1] at up
      rw [e1, es, nI_leI (by omega) (by omega)] at h
      rw [if_pos ⟨rfl, rfl, rfl⟩, e1, es, nI_subI h]
      exact ⟨r - s, f, rfl, e2, e3, by omega⟩
    · have n1 : zc1 (wR (wV τ 13 k 0 (sV τ 13 k 0 - sV τ 7 i j)) 0 i j (some k)) x i j = 0 := by
        unfold zc1
        rw [sR_at, if_neg (fun y => z (Option.some.inj y).symm)]
      rw [n1] at up
      rw [if_neg (fun y => z y.2.1)]
      exact ⟨r, f, e1, e2, e3, by omega⟩
theorem zSt.line {σ σ' : zS} (st : zSt σ) (nw : zNew σ) (e0 : sN σ' 0 0 = sN σ 0 0 + 1) (e1 : sN σ' 1 0 = sN σ 1 0) (e4 : ∀ l, sN σ' 4 l = sN σ 4 l) (e7 : ∀ l p, sV σ' 7 l p = sV σ 7 l p) (eR : ∀ l p, sR σ' 0 l p = sR σ 0 l p) (e13 : ∀ q, sV σ' 13 q 0 = sV σ 13 q 0) (e12 : ∀ q, sV σ' 12 q 0 = sV σ 12 q 0) : zSt σ' := by
  have n0 := (nw.2.1 (sN σ 0 0) (Nat.le_refl _)).1
  refine ⟨fun l p hl hp => ?_, fun q hq => ?_⟩
  · rw [e0] at hl
    rw [e4] at hp
    rw [e7]
    by_cases z : l = sN σ 0 0
    · rw [z, n0] at hp; omega
    · exact st.1 l p (by omega) hp
  · rw [e1] at hq
    rw [e13, e12]
    have : zG σ' q = zG σ q := by
      unfold zG
      rw [e0]
      show sm _ (sN σ 0 0) + sm (zc1 σ' q (sN σ 0 0)) (sN σ' 4 (sN σ 0 0)) = _
      rw [e4, n0]
      show sm _ (sN σ 0 0) + 0 = _
      rw [Nat.add_zero]
      refine sm_congr fun l _ => ?_
      rw [e4]
      refine sm_congr fun p _ => ?_
      unfold zc1 zz
      rw [eR, e7]
    rw [this]
    exact st.2 q hq
theorem zSt.heat {σ : zS} (I : Inv σ) {a v : Int32} {len : Nat} (hl : len ≤ 20000) : zSt (wHeat σ a (nI len) v) := by
  have z0 : ∀ q l p, zc1 (wHeat σ a (nI len) v) q l p = zc1 σ q l p := fun q l p => by
    unfold zc1 zz wHeat
    rw [sV_wN, sV_ne (by decide), sV_ne (by decide), sV_ne (by decide), sV_ne (by decide)]
    rfl
  have g0 : ∀ q, zG (wHeat σ a (nI len) v) q = zG σ q := fun q => by
    unfold zG
    show sm (fun l => sm (zc1 (wHeat σ a (nI len) v) q l) (sN σ 4 l)) (sN σ 0 0) = _
    exact sm_congr fun l _ => sm_congr fun p _ => z0 q l p
  refine ⟨fun l p hl hp => ?_, fun q hq => ?_⟩
  · have e7 : sV (wHeat σ a (nI len) v) 7 l p = sV σ 7 l p := by
      unfold wHeat
      rw [sV_wN, sV_ne (by decide), sV_ne (by decide), sV_ne (by decide), sV_ne (by decide)]
    rw [e7]
    exact I.st.1 l p hl hp
  · have hq' : q < sN σ 1 0 + 1 := hq
    rw [g0]
    by_cases z : q = sN σ 1 0
    · subst z
      refine ⟨len, len, ?_, ?_, hl, ?_⟩
      · simp [wHeat, sV_wN, sV_wV]
      · simp [wHeat, sV_wN, sV_wV]
      · have : zG σ (sN σ 1 0) = 0 := by
          unfold zG
          have zero : ∀ n, sm (fun _ => 0) n = 0 := by
            intro n
            induction n with
            | zero => rfl
            | succ n ih => show sm (fun _ => 0) n + 0 = 0; rw [ih]
          rw [sm_congr (f' := fun _ => 0) (fun l _ => ?_)]
          · exact zero _
          · rw [sm_congr (f' := fun _ => 0) (fun p _ => ?_)]
            · exact zero _
            · unfold zc1
              rw [if_neg (fun y => Nat.lt_irrefl _ (I.r.1 l p _ y))]
        omega
    · have e13 : sV (wHeat σ a (nI len) v) 13 q 0 = sV σ 13 q 0 := by simp [wHeat, sV_wN, sV_wV, z]
      have e12 : sV (wHeat σ a (nI len) v) 12 q 0 = sV σ 12 q 0 := by simp [wHeat, sV_wN, sV_wV, z]
      rw [e13, e12]
      exact I.st.2 q (by omega)
theorem zSt.part {σ : zS} (I : Inv σ) {i s : Nat} {k : Int32} (hs : s ≤ 6000) : zSt (wV (wPart σ i k (nI s)) 4 i 0 0) := by
  have v7 : ∀ l p, sV (wV (wPart σ i k (nI s)) 4 i 0 0) 7 l p = if l = i ∧ p = sN σ 4 i then nI s else sV σ 7 l p := fun l p => by
    rw [sV_ne (by decide)]
    unfold wPart
    rw [sV_wN, sV_wV]
    by_cases z : l = i ∧ p = sN σ 4 i
    · rw [if_pos ⟨rfl, z⟩, if_pos z]
    · rw [if_neg (fun y => z y.2), if_neg z, sV_ne (by decide)]
  have n4 : ∀ l, sN (wV (wPart σ i k (nI s)) 4 i 0 0) 4 l = if l = i then sN σ 4 i + 1 else sN σ 4 l := fun l => by
    rw [sN_wV]
    unfold wPart
    rw [sN_wN]
    by_cases z : l = i
    · rw [if_pos ⟨rfl, z⟩, if_pos z]
    · rw [if_neg (fun y => z y.2), if_neg z]; rfl
  have hz : ∀ q l p, ¬ (l = i ∧ p = sN σ 4 i) → zc1 (wV (wPart σ i k (nI s)) 4 i 0 0) q l p = zc1 σ q l p := fun q l p z => by
    unfold zc1 zz
    rw [v7, if_neg z]
    rfl
  have hz2 : ∀ q, zc1 (wV (wPart σ i k (nI s)) 4 i 0 0) q i (sN σ 4 i) = 0 := fun q => by
    unfold zc1
    have e : sR (wV (wPart σ i k (nI s)) 4 i 0 0) 0 i (sN σ 4 i) = none := I.nw.2.2.1 i _ (Nat.le_refl _)
    rw [e, if_neg (by simp)]
  have g0 : ∀ q, zG (wV (wPart σ i k (nI s)) 4 i 0 0) q = zG σ q := fun q => by
    unfold zG
    show sm (fun l => sm (zc1 (wV (wPart σ i k (nI s)) 4 i 0 0) q l) (sN (wV (wPart σ i k (nI s)) 4 i 0 0) 4 l)) (sN σ 0 0) = _
    refine sm_congr fun l _ => ?_
    rw [n4]
    by_cases z : l = i
    · subst z
      rw [if_pos rfl]
      show sm _ (sN σ 4 l) + zc1 (wV (wPart σ l k (nI s)) 4 l 0 0) q l (sN σ 4 l) = _
      rw [hz2, Nat.add_zero]
      exact sm_congr fun p hp => hz q l p (fun y => by omega)
    · rw [if_neg z]
      exact sm_congr fun p hp => hz q l p (fun y => z y.1)
  refine ⟨fun l p hl hp => ?_, fun q hq => ?_⟩
  · rw [v7]
    by_cases z : l = i ∧ p = sN σ 4 i
    · rw [if_pos z]; exact ⟨s, rfl, hs⟩
    · rw [if_neg z]
      refine I.st.1 l p hl ?_
      rw [n4] at hp
      by_cases y : l = i
      · rw [if_pos y] at hp
        subst y
        have : p ≠ sN σ 4 l := fun w => z ⟨rfl, w⟩
        omega
      · rw [if_neg y] at hp; exact hp
  · rw [g0]
    have e13 : sV (wV (wPart σ i k (nI s)) 4 i 0 0) 13 q 0 = sV σ 13 q 0 := by simp [wPart, sV_wN, sV_wV]
    have e12 : sV (wV (wPart σ i k (nI s)) 4 i 0 0) 12 q 0 = sV σ 12 q 0 := by simp [wPart, sV_wN, sV_wV]
    rw [e13, e12]
    exact I.st.2 q hq
