/-! what the Statement gives of the start: words, classes, handlers -/
theorem zfw_w : ∀ q ∈ zfw, Cond.declares q.2.1 ∈ lw_tbl ∧ Cond.interfaceMethod q.2.1.cls q.2.1.cls q.2.1.name q.2.1.desc ∈ lw_tbl ∧ Cond.publicMethod q.2.2 ∈ lw_tbl ∧ Cond.unhidden q.1 q.2.1.name q.2.1.desc ∈ lw_tbl ∧ Cond.castable q.1 q.2.1.cls ∈ lw_tbl := by decide +kernel
theorem TB_of {args : Array Value} {s : State} (hts : ∀ w ∈ lw_tbl, w.before args s = true) : TB s := by
  refine ⟨fun w hw a => ?_, fun q hq => ?_⟩
  · have h0 := hts w hw.1
    have ht := hw.2
    by_cases hg : goodWord w = true
    · exact word_at (State.WarmedH.refl s) (good_of_word hg) h0
    · have hx : tbx w = true := by
        simp only [tbw, Bool.or_eq_true] at ht
        exact ht.resolve_left hg
      unfold tbx at hx
      split at hx
      · exact va_Nw.use rfl (va_Nw.of rfl h0)
      · exact va_Nw.use rfl (va_Nw.of rfl h0)
      · exact va_Nw.use rfl (va_Nw.of rfl h0)
      · exact va_Nw.use rfl (va_Nw.of rfl h0)
      · exact va_AO.use (va_AO.of h0)
      · cases hx
  · obtain ⟨a1, a2, a3, a4, a5⟩ := zfw_w q hq
    exact va_Fw.of (hts _ a1) (hts _ a2) (hts _ a3) (hts _ a4) (hts _ a5)
theorem znc_w : ∀ q ∈ znc, Cond.not (.castable (zex q.1) (zex q.2)) ∈ flatC (Jvm.Cond.and given_1 narrow_1) := by decide +kernel
theorem zNc_of {args : Array Value} {s : State} (hgv : (Jvm.Cond.and given_1 narrow_1).before args s = true) : zNc s := fun q hq => va_Nc.of (flat_of_before _ hgv _ (znc_w q hq))
theorem zin_i : ∀ q ∈ zcl, Cond.instantiable q.1 q.2.2 ∈ lw_tbl := by decide +kernel
theorem zin_u : ∀ (k : Nat) (q : vw_C), zcl[k]? = some q → ∀ w ∈ u_ws q.1 q.2.1 q.2.2, w ∈ lw_tbl := by
  intro k q h
  match k, h with
  | 0, h => cases h; exact fun w hw => (zct_0.2.2.2.1 w hw).1
  | 1, h => cases h; exact fun w hw => (zct_1.2.2.2.1 w hw).1
  | 2, h => cases h; exact fun w hw => (zct_2.2.2.2.1 w hw).1
  | 3, h => cases h; exact fun w hw => (zct_3.2.2.2.1 w hw).1
  | 4, h => cases h; exact fun w hw => (zct_4.2.2.2.1 w hw).1
  | 5, h => cases h; exact fun w hw => (zct_5.2.2.2.1 w hw).1
  | 6, h => cases h; exact fun w hw => (zct_6.2.2.2.1 w hw).1
  | 7, h => cases h; exact fun w hw => (zct_7.2.2.2.1 w hw).1
  | 8, h => cases h; exact fun w hw => (zct_8.2.2.2.1 w hw).1
  | 9, h => cases h; exact fun w hw => (zct_9.2.2.2.1 w hw).1
  | 10, h => cases h; exact fun w hw => (zct_10.2.2.2.1 w hw).1
  | 11, h => cases h; exact fun w hw => (zct_11.2.2.2.1 w hw).1
  | 12, h => cases h; exact fun w hw => (zct_12.2.2.2.1 w hw).1
  | 13, h => cases h; exact fun w hw => (zct_13.2.2.2.1 w hw).1
  | 14, h => cases h; exact fun w hw => (zct_14.2.2.2.1 w hw).1
theorem zK_of {args : Array Value} {s : State} (hts : ∀ w ∈ lw_tbl, w.before args s = true) : ∃ D : va_G, va_K D zcl [] s := by
  have h1 : ∀ k : Nat, ∃ D : ClassId × (Nat → Nat), ∀ q : vw_C, zcl[k]? = some q → u_Kn s q.1 q.2.1 q.2.2 D.1 D.2 := by
    intro k
    cases e : zcl[k]? with
    | none => exact ⟨(0, fun _ => 0), fun q h => by cases h⟩
    | some q =>
      obtain ⟨c, i, h⟩ := u_known (s := s) (args := args) hts (zin_u k q e) (hts _ (zin_i q (List.mem_of_getElem? e)))
      exact ⟨(c, i), fun q2 h2 => by cases h2; exact h⟩
  exact ⟨(fun k => (Classical.choose (h1 k)).1, fun k => (Classical.choose (h1 k)).2), fun k q h => Classical.choose_spec (h1 k) q h, fun k q h => by simp at h⟩
theorem zC_of {args : Array Value} {s : State} {C : String} {n : Nat} (h : (Cond.instantiable C n).before args s = true) : ∃ c, ClassAt s C c := by
  obtain ⟨cC, kC, hfc, hk, hkind, -⟩ := Cond.instantiable_spec h
  exact ⟨cC, hfc, kC, hk, hkind⟩
