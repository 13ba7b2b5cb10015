/-! the law's world: both sides, the script, the two rows for answers -/
def LZ (B b L : Nat) (xs : Nat → Int32) (h : AH) : Prop := b < B ∧ (hK h b = 50 ∧ hL h b = L ∧ ∀ j, j < L → aI h b j = xs j) ∧ (hK h (B + 124) = 32 ∧ hL h (B + 124) = 1) ∧ (hK h (B + 125) = 33 ∧ hL h (B + 125) = 1) ∧ B + 125 < hN h ∧ L < 2 ^ 31
theorem LZ.keepY {B b L : Nat} {xs : Nat → Int32} {h h' : AH} (s : LZ B b L xs h) (q : frY B h h') : LZ B b L xs h' := by
  obtain ⟨s1, ⟨s2, s3, s4⟩, s5, s6, s7, s8⟩ := s
  obtain ⟨p1, p2, p3, p4, p5, p6, p7, p8⟩ := q
  refine ⟨s1, ⟨by rw [p6]; exact s2, by rw [p7]; exact s3, fun j hj => (p2 b (Or.inl s1) j).trans (s4 j hj)⟩, by rw [p6, p7]; exact s5, by rw [p6, p7]; exact s6, by omega, s8⟩
theorem LZ.keepM {B b L : Nat} {xs : Nat → Int32} {h h' : AH} (s : LZ B b L xs h) (q : frM B h h') : LZ B b L xs h' := by
  obtain ⟨s1, ⟨s2, s3, s4⟩, ⟨s5, s5'⟩, ⟨s6, s6'⟩, s7, s8⟩ := s
  obtain ⟨p1, p2, p3⟩ := q
  have a1 := p1 b (by omega)
  have a2 := p1 (B + 124) (by omega)
  have a3 := p1 (B + 125) s7
  exact ⟨s1, ⟨a1.2.1.trans s2, a1.2.2.1.trans s3, fun j hj => (p2 b (by omega) j).1.trans (s4 j hj)⟩, ⟨a2.2.1.trans s5, a2.2.2.1.trans s5'⟩, ⟨a3.2.1.trans s6, a3.2.2.1.trans s6'⟩, by omega, s8⟩
theorem LZ.rd {B b L : Nat} {xs : Nat → Int32} {h : AH} (s : LZ B b L xs h) {i : Nat} (hi : i < L) {kk : Int32 → Prop} : lI h (some b) 0 (nI i) kk = kk (xs i) := by
  have r : isR h b 0 := Or.inr s.2.1.1
  exact lI_eq r s.2.1.2.1 hi s.2.2.2.2.2 (s.2.1.2.2 i hi)
def LW (g : Nat → Nat) (B b L : Nat) (xs : Nat → Int32) (σc σm : zS) (h : AH) : Prop := Y B σc h ∧ (∃ mu, M g B mu σm h) ∧ LZ B b L xs h
section LWS
variable {g : Nat → Nat} {B b L : Nat} {xs : Nat → Int32} {σ σc σm : zS} {h : AH}
theorem LW.rd1 (w : LW g B b L xs σc σm h) {i : Nat} (hi : i + 4 < L) {kk : Int32 → Prop} : lI h (some b) 0 (nI i + 1) kk = kk (xs (i + 1)) := by
  rw [show nI i + 1 = nI (i + 1) from nI_add i 1]; exact w.2.2.rd (by omega)
theorem LW.rd2 (w : LW g B b L xs σc σm h) {i : Nat} (hi : i + 4 < L) {kk : Int32 → Prop} : lI h (some b) 0 (nI i + 2) kk = kk (xs (i + 2)) := by
  rw [show nI i + 2 = nI (i + 2) from nI_add i 2]; exact w.2.2.rd (by omega)
theorem LW.rd3 (w : LW g B b L xs σc σm h) {i : Nat} (hi : i + 4 < L) {kk : Int32 → Prop} : lI h (some b) 0 (nI i + 3) kk = kk (xs (i + 3)) := by
  rw [show nI i + 3 = nI (i + 3) from nI_add i 3]; exact w.2.2.rd (by omega)
theorem LW.rd4 (w : LW g B b L xs σc σm h) {i : Nat} (hi : i + 4 < L) {kk : Int32 → Prop} : lI h (some b) 0 (nI i + 4) kk = kk (xs (i + 4)) := by
  rw [show nI i + 4 = nI (i + 4) from nI_add i 4]; exact w.2.2.rd (by omega)
theorem LW.cB (w : LW g B b L xs σc σm h) {P : Prop} : cast h (some B) 7 P = P := w.1.cB
theorem LW.cO (w : LW g B b L xs σc σm h) {P : Prop} : cast h (some (B + 119)) 13 P = P := by
  obtain ⟨mu, m⟩ := w.2.1
  exact m.cO
theorem LW.keepY {h' : AH} {σ' : zS} (w : LW g B b L xs σc σm h) (fr : frY B h h') (y : Y B σ' h') : LW g B b L xs σ' σm h' := by
  obtain ⟨mu, m⟩ := w.2.1
  exact ⟨y, ⟨mu, m.keep fr.T⟩, w.2.2.keepY fr⟩
theorem LW.keepM {h' : AH} {mu : zM} {σ' : zS} (w : LW g B b L xs σc σm h) (fr : frM B h h') (m : M g B mu σ' h') : LW g B b L xs σc σ' h' := by
  have hB : B + 119 ≤ hN h := by have := w.2.2.2.2.2.2.1; omega
  exact ⟨w.1.keepM fr hB, ⟨mu, m⟩, w.2.2.keepM fr⟩
theorem LW.putJ (w : LW g B b L xs σc σm h) {v : Int64} {kk : AH → Prop} (k : ∀ h', LW g B b L xs σc σm h' → aJ h' (B + 124) 0 = v → kk h') : stJ h (some (B + 124)) 0 v kk := by
  obtain ⟨y, ⟨mu, m⟩, s⟩ := w
  refine ⟨_, rfl, s.2.2.1.1, by rw [s.2.2.1.2]; exact vp_in_nI (n := 0) (N := 1) (by decide) (by decide), ?_⟩
  refine k _ ⟨y, ⟨mu, m⟩, s⟩ ?_
  show (if B + 124 = B + 124 ∧ 0 = (0 : Int32).toNatClampNeg then v else _) = v
  rw [if_pos ⟨rfl, by decide⟩]
theorem LW.putD (w : LW g B b L xs σc σm h) {v : UInt64} {kk : AH → Prop} (k : ∀ h', LW g B b L xs σc σm h' → aD h' (B + 125) 0 = v → kk h') : stD h (some (B + 125)) 0 v kk := by
  obtain ⟨y, ⟨mu, m⟩, s⟩ := w
  refine ⟨_, rfl, s.2.2.2.1.1, by rw [s.2.2.2.1.2]; exact vp_in_nI (n := 0) (N := 1) (by decide) (by decide), ?_⟩
  refine k _ ⟨y, ⟨mu, m⟩, s⟩ ?_
  show (if B + 125 = B + 125 ∧ 0 = (0 : Int32).toNatClampNeg then v else _) = v
  rw [if_pos ⟨rfl, by decide⟩]
/-- an operation's outcome: none, or one of these and nothing changed -/
def exOk (σ : zS) (a b c : Nat) (o : zO) : Prop := o.1 = 0 ∨ (o.1 ≠ 0 ∧ o.2.2 = σ ∧ (o.1 = a ∨ o.1 = b ∨ o.1 = c) ∧ o.1 < 9)
theorem LW.ex (w : LW g B b L xs σ σ h) {o : zO} {x y z : Nat} (ho : exOk σ x y z o) {KK : Int32 → AH → Prop} (k : ∀ h3, LW g B b L xs o.2.2 σ h3 → (o.1 = 0 → aJ h3 (B + 124) 0 = o.2.1.toInt64) → KK (cd3 x y z o.1) h3) {h' : AH} (fr : frY B h h') (h0 : o.1 ≠ 0) (y' : Y B σ h') : if o.1 = x then KK 1 h' else if o.1 = y then KK 2 h' else if o.1 = z then KK 3 h' else False := by
  rcases ho with e | ⟨-, e, e2, -⟩
  · exact absurd e h0
  have t := k h' (w.keepY fr (by rw [e]; exact y')) (fun q => absurd q h0)
  unfold cd3 at t
  rw [if_neg h0] at t
  by_cases z1 : o.1 = x
  · rw [if_pos z1] at t ⊢; exact t
  rw [if_neg z1] at t ⊢
  by_cases z2 : o.1 = y
  · rw [if_pos z2] at t ⊢; exact t
  rw [if_neg z2] at t ⊢
  by_cases z3 : o.1 = z
  · rw [if_pos z3] at t ⊢; exact t
  · rcases e2 with q | q | q
    · exact absurd q z1
    · exact absurd q z2
    · exact absurd q z3
theorem LW.yP (w : LW g B b L xs σ σ h) {o : zO} {x y z : Nat} (ho : exOk σ x y z o) {KK : Int32 → AH → Prop} {S : Int32 → AH → Prop} (hS : o.1 = 0 → ∀ h2, LW g B b L xs o.2.2 σ h2 → (∀ h3, LW g B b L xs o.2.2 σ h3 → aJ h3 (B + 124) 0 = o.2.1.toInt64 → KK 0 h3) → S o.2.1 h2) (k : ∀ h3, LW g B b L xs o.2.2 σ h3 → (o.1 = 0 → aJ h3 (B + 124) 0 = o.2.1.toInt64) → KK (cd3 x y z o.1) h3) {Xf : Nat → AH → Prop} (hX : ∀ e h', e < 9 → (if e = x then KK 1 h' else if e = y then KK 2 h' else if e = z then KK 3 h' else False) → Xf e h') : yPost B σ h o Xf S := by
  refine ⟨fun h' fr h0 y' => ?_, fun h' fr h0 y' => hX _ _ (ho.elim (fun z => absurd z h0) (fun z => z.2.2.2)) (w.ex ho k fr h0 y')⟩
  refine hS h0 h' (w.keepY fr y') fun h3 w3 e => ?_
  have t := k h3 w3 (fun _ => e)
  rw [h0] at t
  exact t
theorem LW.sI (w : LW g B b L xs σc σm h) {v : Int32} {K0 : AH → Prop} (k : ∀ h3, LW g B b L xs σc σm h3 → aJ h3 (B + 124) 0 = v.toInt64 → K0 h3) : stJ h (some (B + 124)) 0 (v.toInt64) K0 := w.putJ k
theorem LW.sB (w : LW g B b L xs σc σm h) {v : Int32} (hv : v = 0 ∨ v = 1) {K0 : AH → Prop} (k : ∀ h3, LW g B b L xs σc σm h3 → aJ h3 (B + 124) 0 = v.toInt64 → K0 h3) : if v = 0 then stJ h (some (B + 124)) 0 (0 : Int64) K0 else stJ h (some (B + 124)) 0 (1 : Int64) K0 := by
  rcases hv with rfl | rfl
  · rw [if_pos rfl]
    exact w.putJ fun h3 w3 e => k h3 w3 (e.trans (by decide))
  · rw [if_neg (by decide)]
    exact w.putJ fun h3 w3 e => k h3 w3 (e.trans (by decide))
theorem cd3_ne {x y z e : Nat} (h : e ≠ 0) : ¬ cd3 x y z e = 0 := by
  unfold cd3
  rw [if_neg h]
  split
  · decide
  · split
    · decide
    · split <;> decide
theorem L_end {o : zO} {x y z : Nat} {h3 : AH} (w2 : LW g B b L xs o.2.2 σ h3) (hj : o.1 = 0 → aJ h3 (B + 124) 0 = o.2.1.toInt64) {F12 : (Int32 → AH → Prop) → Prop} (hM : ∀ mu K, M g B mu σ h3 → mPost g B σ h3 x y z o K → F12 K) {R K0 : AH → Prop} {Cm : Int32 → Int64 → AH → Prop} (hC : o.1 = 0 → ∀ h', R h' → Cm o.2.1 (o.2.1.toInt64) h') (k : ∀ h', LW g B b L xs o.2.2 o.2.2 h' → R h') : F12 (fun v5 h6 => cast h6 (some (B + 119)) 13 (f_X12_thrown g (some (B + 119)) h6 (fun v7 h8 => if v7 = cd3 x y z o.1 then (if cd3 x y z o.1 = 0 then (lJ h8 (some (B + 124)) 0 fun v9 => Cm v5 v9 h8) else R h8) else K0 h8))) := by
  obtain ⟨mu, m⟩ := w2.2.1
  refine hM mu _ m fun h' mu' v fr e m' hv => ?_
  have w' := w2.keepM fr m'
  rw [m'.cO, m'.thrown, e, if_pos rfl]
  by_cases q : o.1 = 0
  · have e0 : cd3 x y z o.1 = 0 := by rw [q]; rfl
    rw [if_pos e0]
    have hr : B + 124 < hN h3 := by have := w2.2.2.2.2.2.2.1; omega
    refine ⟨_, rfl, w'.2.2.2.2.1.1, by rw [w'.2.2.2.2.1.2]; exact vp_in_nI (n := 0) (N := 1) (by decide) (by decide), ?_⟩
    rw [show (0 : Int32).toNatClampNeg = 0 by decide, ((fr.1 _ hr).2.2.2 0).1, hj q, hv q]
    exact hC q h' (k h' w')
  · rw [if_neg (cd3_ne q)]
    exact k h' w'
theorem cInt {v : Int32} {R K0 : AH → Prop} {h' : AH} (r : R h') : if lg_cmp (v.toInt64) (v.toInt64) = 0 then R h' else K0 h' := by
  rw [if_pos (lg_self _)]; exact r
theorem cBool {v : Int32} (hv : v = 0 ∨ v = 1) {R K0 : AH → Prop} {h' : AH} (r : R h') : if v = 0 then (if lg_cmp (v.toInt64) (0 : Int64) = 0 then R h' else K0 h') else (if lg_cmp (v.toInt64) (1 : Int64) = 0 then R h' else K0 h') := by
  rcases hv with rfl | rfl
  · rw [if_pos rfl, show (0 : Int32).toInt64 = 0 by decide, if_pos (lg_self _)]; exact r
  · rw [if_neg (by decide), show (1 : Int32).toInt64 = 1 by decide, if_pos (lg_self _)]; exact r
end LWS
