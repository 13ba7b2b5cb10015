/-! the law's world at its start -/
theorem ztx_w : ∀ q ∈ ztx, Cond.stringRef q.1 q.2.1 q.2.2 ∈ lw_tbl ∧ Cond.exactly (.string q.1 q.2.1) "java/lang/String" ∈ flatC (Jvm.Cond.and given_1 narrow_1) := by decide +kernel
def txW (own : String) (k N : Nat) (xs : List Int32) : Prop := Cond.exactly (.string own k) "java/lang/String" ∈ flatC (Jvm.Cond.and given_1 narrow_1) ∧ Cond.eq (.field (.string own k) "java/lang/String" "coder" "B") (.int 0) ∈ flatC (Jvm.Cond.and given_1 narrow_1) ∧ Cond.arrayOf (.field (.string own k) "java/lang/String" "value" "[B") .byte ∈ flatC (Jvm.Cond.and given_1 narrow_1) ∧ Cond.eq (.length (.field (.string own k) "java/lang/String" "value" "[B")) (.int (nI N)) ∈ flatC (Jvm.Cond.and given_1 narrow_1) ∧ ∀ j, j < N → Cond.eq (.elem (.field (.string own k) "java/lang/String" "value" "[B") (.int (nI j))) (.int (xs.getD j 0)) ∈ flatC (Jvm.Cond.and given_1 narrow_1)
theorem tx3 : txW "SpoolwrightYardModel" 177 3 [119, 103, 98] := ⟨by decide +kernel, by decide +kernel, by decide +kernel, by decide +kernel, by decide +kernel⟩
theorem tx4 : txW "SpoolwrightYardModel$Line" 95 2 [103, 98] := ⟨by decide +kernel, by decide +kernel, by decide +kernel, by decide +kernel, by decide +kernel⟩
theorem tx5 : txW "SpoolwrightYardModel" 223 2 [110, 98] := ⟨by decide +kernel, by decide +kernel, by decide +kernel, by decide +kernel, by decide +kernel⟩
theorem tx6 : txW "SpoolwrightYardModel" 236 7 [115, 112, 119, 98, 108, 116, 105] := ⟨by decide +kernel, by decide +kernel, by decide +kernel, by decide +kernel, by decide +kernel⟩
def tS : Term := .static "SpoolwrightYardModel" "SHARES" "[I"
def tD0 : Term := .static "java/util/ArrayList" "DEFAULTCAPACITY_EMPTY_ELEMENTDATA" "[Ljava/lang/Object;"
theorem sh_w : Cond.arrayOf tS .int ∈ flatC (Jvm.Cond.and given_1 narrow_1) ∧ Cond.eq (.length tS) (.int (nI 4)) ∈ flatC (Jvm.Cond.and given_1 narrow_1) ∧ ∀ j, j < 4 → Cond.eq (.elem tS (.int (nI j))) (.int (([0, 5, 20, 100] : List Int32).getD j 0)) ∈ flatC (Jvm.Cond.and given_1 narrow_1) := ⟨by decide +kernel, by decide +kernel, by decide +kernel⟩
theorem em_w : Cond.arrayOf tD0 tyO ∈ flatC (Jvm.Cond.and given_1 narrow_1) ∧ Cond.eq (.length tD0) (.int (nI 0)) ∈ flatC (Jvm.Cond.and given_1 narrow_1) := ⟨by decide +kernel, by decide +kernel⟩
theorem ca_w : Cond.arrayOf tC tyJ ∈ flatC (Jvm.Cond.and given_1 narrow_1) ∧ Cond.eq (.length tC) (.int (nI 256)) ∈ flatC (Jvm.Cond.and given_1 narrow_1) ∧ Cond.all tC (.and (.exactly tE "java/lang/Integer") (.eq (.field tE "java/lang/Integer" "value" "I") (.sub (.index 0) (.int 128)))) ∈ flatC (Jvm.Cond.and given_1 narrow_1) := ⟨by decide +kernel, by decide +kernel, by decide +kernel⟩
section WL
variable {args : Array Value} {s : State}
theorem txt_of (hs : ∀ w ∈ flatC (Jvm.Cond.and given_1 narrow_1), w.before args s = true) {own : String} {k N : Nat} {xs : List Int32} (hN : N < 2 ^ 31) (w : txW own k N xs) : ∃ a v : Nat, (Term.string own k).eval args s none [] s = some (.ref a) ∧ kS s a ∧ va_OF "java/lang/String" "coder" "B" (.int 0) a (nA s) s s.heap ∧ va_OF "java/lang/String" "value" "[B" (.ref v) a (nA s) s s.heap ∧ kAr s .byte false v ∧ rdL s v = N ∧ ∀ j, j < N → rdI s v j = xs.getD j 0 :=
  txt xs hN (hs _ w.1) (hs _ w.2.1) (hs _ w.2.2.1) (hs _ w.2.2.2.1) (fun j hj => hs _ (w.2.2.2.2 j hj))
theorem kS.lt {a : Nat} (h : kS s a) : a < s.heap.size := by
  obtain ⟨⟨c, c1, -⟩, -⟩ := h
  exact (Array.getElem?_eq_some_iff.mp c1).1
theorem kQ.lt {a : Nat} (h : kQ s a) : a < s.heap.size := by
  obtain ⟨⟨c, c1, -⟩, -⟩ := h
  exact (Array.getElem?_eq_some_iff.mp c1).1
theorem world {b L : Nat} {xs : Nat → Int32} (hts : ∀ w ∈ lw_tbl, w.before args s = true) (hgv : (Jvm.Cond.and given_1 narrow_1).before args s = true) (hX : va_X b L xs s s.heap) : ∃ (Z : zT) (h : AH), zRep Z s h s.heap ∧ zST Z s s.heap ∧ zKn Z s ∧ Z.2.1 = s.heap.size ∧ MC Z.2.2 (hN h) h ∧ b < hN h ∧ hK h b = 50 ∧ hL h b = L ∧ ∀ j, j < L → aI h b j = xs j := by
  have hs := flat_of_before _ hgv
  have hA : ∀ a : Nat, a < s.heap.size → ¬ nA s a := fun a h => by unfold nA; omega
  have cQ : ∃ c, ClassAt s "java/lang/Integer" c := zC_of (hts (.instantiable "java/lang/Integer" 1) (by decide +kernel))
  have cS : ∃ c, ClassAt s "java/lang/String" c := zC_of (hts (.instantiable "java/lang/String" 4) (by decide +kernel))
  obtain ⟨D, hD⟩ := zK_of hts
  obtain ⟨g0, e0, k0, l0⟩ := empty_of (hs _ em_w.1) (hs _ em_w.2)
  obtain ⟨g1, e1, k1, l1, v1⟩ := arrI [0, 5, 20, 100] (by decide) (hs _ sh_w.1) (hs _ sh_w.2.1) (fun j hj => hs _ (sh_w.2.2 j hj))
  obtain ⟨g2, e2, k2, l2, v2⟩ := cache_of (hs _ ca_w.1) (hs _ ca_w.2.1) (hs _ ca_w.2.2)
  obtain ⟨g3, w3, e3, k3, c3, x3, b3, l3, v3⟩ := txt_of hs (by decide) tx3
  obtain ⟨g4, w4, e4, k4, c4, x4, b4, l4, v4⟩ := txt_of hs (by decide) tx4
  obtain ⟨g5, w5, e5, k5, c5, x5, b5, l5, v5⟩ := txt_of hs (by decide) tx5
  obtain ⟨g6, w6, e6, k6, c6, x6, b6, l6, v6⟩ := txt_of hs (by decide) tx6
  obtain ⟨gg, G0, G1, G2, G3, G4, G5, G6⟩ : ∃ gg : Nat → Nat, gg 0 = g0 ∧ gg 1 = g1 ∧ gg 2 = g2 ∧ gg 3 = g3 ∧ gg 4 = g4 ∧ gg 5 = g5 ∧ gg 6 = g6 := ⟨fun i => ([g0, g1, g2, g3, g4, g5, g6] : List Nat).getD i 0, rfl, rfl, rfl, rfl, rfl, rfl, rfl⟩
  obtain ⟨Z, Z1, Z2, Z3⟩ : ∃ Z : zT, Z.1 = D ∧ Z.2.1 = s.heap.size ∧ Z.2.2 = gg := ⟨(D, s.heap.size, gg), rfl, rfl, rfl⟩
  have hZA : zA Z = nA s := by funext q; unfold zA nA; rw [Z2]
  obtain ⟨h, hR, hn, hk, hl, ha, hq, hc, hx⟩ := heap0 Z2 cQ cS
  obtain ⟨scr, r1, r2, r3, r4, r5⟩ := hX
  have kb : kAr s .int false b := ⟨scr, r1, r2, r3, fun j hj => by rw [if_neg (by decide)]; rw [r4] at hj; exact ⟨_, r5 j hj⟩⟩
  refine ⟨Z, h, hR, ?_, ?_, Z2, ?_, by rw [hn]; exact kb.lt, (hk b).1 kb, by rw [hl, rdL_eq r1]; exact r4, fun j hj => by rw [(ha b j).1]; exact rdI_eq r1 (r5 j hj)⟩
  · unfold zST
    rw [hZA, Z3, G0, G1, G2, G3, G4, G5, G6]
    refine ⟨⟨?_, ?_⟩, ⟨?_, ?_, ?_⟩, ⟨?_, ?_⟩, ⟨?_, ?_, ?_, ?_⟩, fun q hq => ?_⟩
    · exact vx_Zqof (hts _ (by decide +kernel)) (hts _ (by decide +kernel)) (hs _ (by decide +kernel)) hA
    · exact vx_Zqof (hts _ (by decide +kernel)) (hts _ (by decide +kernel)) (hs _ (by decide +kernel)) hA
    · exact va_Zref (hts _ (by decide +kernel)) (hts _ (by decide +kernel)) e0 hA
    · exact va_Zref (hts _ (by decide +kernel)) (hts _ (by decide +kernel)) e1 hA
    · exact va_Zref (hts _ (by decide +kernel)) (hts _ (by decide +kernel)) e2 hA
    · exact va_Zof (hts _ (by decide +kernel)) (hts _ (by decide +kernel)) (va_eqt (hs _ (by decide +kernel))) hA
    · exact va_Zof (hts _ (by decide +kernel)) (hts _ (by decide +kernel)) (va_eqt (hs _ (by decide +kernel))) hA
    · exact vk_R.of (hts _ (by decide +kernel)) e3
    · exact vk_R.of (hts _ (by decide +kernel)) e4
    · exact vk_R.of (hts _ (by decide +kernel)) e5
    · exact vk_R.of (hts _ (by decide +kernel)) e6
    · obtain ⟨t1, t2⟩ := ztx_w q hq
      obtain ⟨a, -, -, -, q1, -⟩ := Cond.exactly_spec (hs _ t2)
      exact ⟨a, vk_R.of (hts _ t1) q1⟩
  · refine ⟨by rw [Z1]; exact hD, cQ, cS, ?_⟩
    obtain ⟨c, t, y1, y2, -⟩ := Cond.castable_spec (hts (.castable "java/lang/Integer" "java/lang/Object") (by decide +kernel))
    obtain ⟨k, y3, -⟩ := Vm.findClass_spec y2
    exact ⟨t, k, y2, y3⟩
  · rw [Z3, hn]
    unfold MC
    rw [G0, G1, G2, G3, G4, G5, G6]
    refine ⟨⟨(hk g0).2.2.1 k0, by rw [hl]; exact l0, k0.lt⟩, ⟨(hk g1).1 k1, by rw [hl]; exact l1, k1.lt, ?_, ?_, ?_, ?_⟩, ⟨(hk g2).2.2.2.1 k2, by rw [hl]; exact l2, k2.lt, fun x hx16 => ?_⟩, ?_, ?_, ?_, ?_⟩
    · rw [(ha g1 0).1]; exact v1 0 (by decide)
    · rw [(ha g1 1).1]; exact v1 1 (by decide)
    · rw [(ha g1 2).1]; exact v1 2 (by decide)
    · rw [(ha g1 3).1]; exact v1 3 (by decide)
    · obtain ⟨c, p1, p2, p3⟩ := v2 (128 + x) (by omega)
      rw [nI_128 x hx16] at p3
      exact ⟨c, by rw [(ha g2 _).2]; exact p1, (hk c).2.2.2.2.1 p2, hq c _ p2 p3, p2.lt⟩
    · exact MS_of rfl rfl k3 c3 x3 b3 l3 v3 ((hk g3).2.2.2.2.2 k3) ((hk w3).2.1 b3) (hc g3 _ k3 c3) (hx g3 (some w3) k3 x3) (hl w3) (fun j => (ha w3 j).1)
    · exact MS_of rfl rfl k4 c4 x4 b4 l4 v4 ((hk g4).2.2.2.2.2 k4) ((hk w4).2.1 b4) (hc g4 _ k4 c4) (hx g4 (some w4) k4 x4) (hl w4) (fun j => (ha w4 j).1)
    · exact MS_of rfl rfl k5 c5 x5 b5 l5 v5 ((hk g5).2.2.2.2.2 k5) ((hk w5).2.1 b5) (hc g5 _ k5 c5) (hx g5 (some w5) k5 x5) (hl w5) (fun j => (ha w5 j).1)
    · exact MS_of rfl rfl k6 c6 x6 b6 l6 v6 ((hk g6).2.2.2.2.2 k6) ((hk w6).2.1 b6) (hc g6 _ k6 c6) (hx g6 (some w6) k6 x6) (hl w6) (fun j => (ha w6 j).1)
end WL
