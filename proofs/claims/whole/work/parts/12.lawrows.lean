/-! handlers: which class is no subclass of which -/
def znc : List (Nat × Nat) := [(1, 2), (1, 3), (1, 4), (1, 5), (1, 6), (2, 1), (2, 3), (2, 4), (2, 5), (2, 6), (3, 1), (3, 2), (3, 4), (3, 5), (3, 6), (4, 1), (4, 2), (4, 3), (4, 5), (4, 6), (5, 1), (5, 2), (5, 3), (5, 4), (5, 6), (6, 1), (6, 2), (6, 3), (6, 4), (6, 5)]
def zNc (s : State) : Prop := ∀ q ∈ znc, va_Nc (zex q.1) (zex q.2) s
theorem zNc.moved {u U : State} (hvm : u.vm.Alike U.vm) (h : zNc u) : zNc U := fun q hq => (h q hq).moved hvm
theorem z_ite {c : Prop} [Decidable c] {A B P : Prop} (hf : if c then A else B) (kt : c → A → P) (kf : ¬c → B → P) : P := by
  by_cases hc : c
  · rw [if_pos hc] at hf; exact kt hc hf
  · rw [if_neg hc] at hf; exact kf hc hf
def zPass (own : String) (e0 : Nat) : List (Nat × Nat × Nat × Nat) → Prop
  | [] => True
  | q :: r => (q.2.2.2 ≠ 0 ∧ ∃ e2, zq (.classLink own q.2.2.2 (zex e2)) ∧ (e0, e2) ∈ znc) ∧ zPass own e0 r
theorem zPass.all {own : String} {e0 : Nat} : ∀ {pre : List (Nat × Nat × Nat × Nat)}, zPass own e0 pre → ∀ q ∈ pre, q.2.2.2 ≠ 0 ∧ ∃ e2, zq (.classLink own q.2.2.2 (zex e2)) ∧ (e0, e2) ∈ znc
  | [], _, q, hq => absurd hq List.not_mem_nil
  | _ :: _, h, q, hq => by
    rcases List.mem_cons.mp hq with rfl | hq
    · exact h.1
    · exact zPass.all h.2 q hq
/-- a helper of the law: it catches all -/
def zHi (Z : zT) (l : Launch) (y : MethodName) (bytes : ByteArray) (maxL : Nat) (hh : List (Nat × Nat × Nat × Nat)) (fr mc ms lo : Nat) (vs : List Value) (F : AH → (Nat → AH → Prop) → (Int32 → AH → Prop) → Prop) : Prop := ∀ (h : AH) (K : Int32 → AH → Prop), vx_Met l y [.codeWith y bytes maxL (some .int) hh] { frames := fr, cells := mc, slots := ms, locals := lo } (va_Pc vs (fun U => zWd Z h U ∧ zNc U ∧ F h (fun _ _ => False) K)) (zQi Z K) (zXC Z (fun _ _ => False)) mc ms (zA Z)
def zHI (y : MethodName) (bytes : ByteArray) (maxL : Nat) (hh : List (Nat × Nat × Nat × Nat)) (n : Nat) : Prop := zq (.codeWith y bytes maxL (some .int) hh) ∧ zq (.initialized y.cls) ∧ zq (.static y) ∧ y.cls ≠ "java/lang/invoke/MethodHandle" ∧ y.cls ≠ "java/lang/invoke/VarHandle" ∧ (parseMethodDescriptor y.desc).map (fun d => d.parameters.length) = some n
theorem zHI.ws {y : MethodName} {bytes : ByteArray} {maxL n : Nat} {hh : List (Nat × Nat × Nat × Nat)} (mi : zHI y bytes maxL hh n) {s : State} (hT : TB s) : ∀ w ∈ [Cond.codeWith y bytes maxL (some .int) hh], ∀ (a' : Array Value) (U : State), s.WarmedH U.vm → w.before a' U = true := by
  intro w hw a' U hW
  rw [List.mem_singleton] at hw
  subst hw
  exact zq_at (hT.warm hW) mi.1 a'
theorem zHI.len {y : MethodName} {bytes : ByteArray} {maxL n : Nat} {hh : List (Nat × Nat × Nat × Nat)} (mi : zHI y bytes maxL hh n) : ∀ sig, parseMethodDescriptor y.desc = some sig → n = sig.parameters.length := by
  intro sig h
  have h2 := mi.2.2.2.2.2
  rw [h] at h2
  exact (Option.some.inj h2).symm
theorem zWd.blindN {Z : zT} {h : AH} {vs : List Value} {Fh : Prop} : FrameBlind (va_Pc vs (fun U => zWd Z h U ∧ zNc U ∧ Fh)) := fun a U g mk q => ⟨q.1, q.2.1.calling, zNc.moved (Vm.Alike.refl U.vm) q.2.2.1, q.2.2.2⟩
/-- a switch's cases in their order -/
def zsw (x : Int32) (D : Prop) : Nat → List Prop → Prop
  | _, [] => D
  | k, P :: r => if x = Int32.ofNat k then P else zsw x D (k + 1) r
section VRL
variable {Z : zT} {X : zX} {Q : State → Prop} {own : String} {cc : ByteArray} {nL : Nat} {h : AH} {L L' : List (Nat × Value)} {cells slots pc q tgt FR MC MS LO : Nat} {st : List Value}
def zKK (Z : zT) (X : zX) (Q : State → Prop) (nL : Nat) (h : AH) (L : List (Nat × Value)) (cells slots pc : Nat) (st : List Value) (offs : Array Int) : Nat → List Prop → Prop
  | _, [] => True
  | k, P :: r => (∃ tgt : Nat, offs[k]? = some ((tgt : Int) - pc) ∧ (P → V Z X Q nL h L cells slots tgt st)) ∧ zKK Z X Q nL h L cells slots pc st offs (k + 1) r
theorem z_swG (hC : Cx Z X own cc nL FR MC MS LO) {x : Int32} {dflt : Int} {offs : Array Int} {len n : Nat} (hn : offs.size = n) (hn2 : n < 1000) (d : decode cc pc = .ok (.tableswitch dflt 0 ((n : Int) - 1) offs, len)) (ht : (pc : Int) + dflt = (tgt : Int)) {D : Prop} (kd : D → V Z X Q nL h L cells slots tgt st) :
    ∀ (Ps : List Prop) (k : Nat), k + Ps.length = n → (∀ j, j < k → x ≠ Int32.ofNat j) → zsw x D k Ps → zKK Z X Q nL h L cells slots pc st offs k Ps → V Z X Q nL h L cells slots pc (.int x :: st) := by
  intro Ps
  induction Ps with
  | nil =>
    intro k hk hx hf _ H locs ls a b c
    simp only [List.length_nil, Nat.add_zero] at hk
    subst hk
    refine lv_tableOut hC.1 hC.2.1 d ?_ ht (kd hf H locs ls a b c)
    by_cases h0 : x.toInt < 0
    · exact Or.inl h0
    · right
      by_cases h1 : (k : Int) - 1 < x.toInt
      · exact h1
      · exfalso
        refine hx x.toInt.toNat (by omega) ?_
        apply Int32.toInt_inj.mp
        rw [Int32.toInt_ofNat_of_lt (by omega)]
        omega
  | cons P r ih =>
    intro k hk hx hf hkk
    simp only [List.length_cons] at hk
    obtain ⟨⟨t9, ho, kt⟩, hr⟩ := hkk
    simp only [zsw] at hf
    by_cases hq : x = Int32.ofNat k
    · rw [if_pos hq] at hf
      intro H locs ls a b c
      have hi : x.toInt = (k : Int) := by rw [hq]; exact Int32.toInt_ofNat_of_lt (by omega)
      refine lv_tableIn hC.1 hC.2.1 d (by omega) (by omega) (off := (t9 : Int) - pc) ?_ (tgt := t9) (by omega) (kt hf H locs ls a b c)
      rw [show (x.toInt - 0).toNat = k by omega]
      exact ho
    · rw [if_neg hq] at hf
      refine ih (k + 1) (by omega) ?_ hf hr
      intro j hj
      by_cases hjk : j = k
      · rw [hjk]; exact hq
      · exact hx j (by omega)
theorem z_catch (hC : Cx Z X own cc nL FR MC MS LO) (hNc : zNc (zs X)) {hh : List (Nat × Nat × Nat × Nat)} (htb : (zc X).exceptionTable.toList = tableOf hh) {e e0 : Nat} (he : e = e0) (pre : List (Nat × Nat × Nat × Nat)) (x : Nat × Nat × Nat × Nat) (suf : List (Nat × Nat × Nat × Nat)) (hsplit : hh = pre ++ x :: suf) (hpass : zPass own e0 pre) (hx : covers ⟨x.1, x.2.1, x.2.2.1, x.2.2.2⟩ pc = true) (h0 : x.2.2.2 ≠ 0) (hl : zq (.classLink own x.2.2.2 (zex e0))) (hca : zq (.castable (zex e0) (zex e0))) (hq : x.2.2.1 = q) (kk : ∀ q9 : Nat, V Z X Q nL h L cells slots q [va_rf (some q9)]) : VX Z X Q nL h L cells slots pc e := by
  subst he
  subst hq
  intro H locs ls ce q9 rest R b c hce hv hcl
  obtain ⟨hx9, hb, hml, hown, hT, hK, hS, hlk, hb0, htr, hRm⟩ := hC
  refine vx_catch hown (tableOf pre) ⟨x.1, x.2.1, x.2.2.1, x.2.2.2⟩ (tableOf suf) (by rw [htb, hsplit]; simp [tableOf]) (fun z hz => Or.inr ?_) hx h0 (zq_at hT hl _) (zq_at hT hca _) hce hv hcl (kk q9 H locs ls R b c)
  obtain ⟨z0, hz0, rfl⟩ := List.mem_map.mp hz
  obtain ⟨h1, e2, h2, h3⟩ := hpass.all z0 hz0
  exact ⟨h1, zex e2, zq_at hT h2 _, hNc _ h3⟩
theorem z_callH (hC : Cx Z X own cc nL FR MC MS LO) (hNc : zNc (zs X)) {y : MethodName} {bytes : ByteArray} {maxL n fr mc ms lo idx : Nat} {hh : List (Nat × Nat × Nat × Nat)} {As : List Value} (mi : zHI y bytes maxL hh n) (lk : zq (.methodLink own idx y)) {F : AH → (Nat → AH → Prop) → (Int32 → AH → Prop) → Prop} (hM : zHi Z X.2.1 y bytes maxL hh fr mc ms lo As F) (rf : fr + 1 ≤ FR) (rl : 8 + (maxL + 11) + lo ≤ LO) (hn : As.length = n) (hst : (st.map fun v => v.category).sum ≤ 8) (hc : cells + mc ≤ MC) (hs : slots + ms ≤ MS) (d : decode cc pc = .ok (.invokestatic idx, 3)) (hq : pc + 3 = q) {B : Int32 → AH → Prop} (hf : F h (fun _ _ => False) B) {stk : List Value} (hk : stk = As.reverse ++ st) (kk : ∀ (r : Int32) (h' : AH), B r h' → V Z X Q nL h' L (cells + mc) (slots + ms) q (.int r :: st)) : V Z X Q nL h L cells slots pc stk := by
  subst hq
  subst hk
  intro H locs ls R b c
  obtain ⟨hx, hb, hml, hown, hT, hK, hS, hlk, hb0, htr, hRm⟩ := id hC
  exact vx_calli (vx_runSX (hh := hh) ⟨hx, hb, hml, hown, (fun w hw => absurd hw List.not_mem_nil : ∀ w ∈ ([] : List Cond), w.before X.2.2.2.2.2.2.1 (zs X) = true)⟩ (hM h B) ⟨⟨rfl, rfl, by rw [hRm]; exact rf, by rw [hRm]; exact rl, mi.ws hT, List.mem_singleton.mpr rfl⟩, zq_at hT mi.1 _, zq_at hT mi.2.1 _, ⟨mi.2.2.2.1, mi.2.2.2.2.1⟩, mi.len, zq_at hT lk _, zq_at hT mi.2.2.1 _⟩ ⟨zWd.blindN, fun U hU hW => ⟨rfl, zWd.of hC R b hU hW, hNc.moved hW.alike, hf⟩⟩ rfl hn c.1 rfl (lv_room hst) d ⟨by rw [hRm]; exact hc, by rw [hRm]; exact hs⟩) b (fun q _ hq => hq) (fun q hq => hq) (fun q _ hq => hq) (fun E ce q9 u t H1 locs1 ht hvm hp hB hz hk hS hce hv hcl => hp.elim) (fun r u t H1 locs1 ht hvm hp hB hz hk hS => kk r u hp H1 locs1 ls (by rw [ht] at hB; exact hB.moved hvm.symm) hS c)
theorem z_cxH {l : Launch} {y : MethodName} {cc : ByteArray} {maxL fr mc ms lo : Nat} {hh : List (Nat × Nat × Nat × Nat)} {p : Program} {e : Env} {s s₁ : State} {m : MethodId} {args : Array Value} {below : List Frame} {meth : Method} {c : Code} (B : BodyLoose p l y (headSpec [Cond.codeWith y cc maxL (some .int) hh] { frames := fr, cells := mc, slots := ms, locals := lo }) cc maxL (some .int) e s m args below meth c s₁) (hml : c.maxLocals = maxL) (htr : l.stackTraces = false) (hw : zWd Z h s) : Cx Z (p, l, e, { frames := fr, cells := mc, slots := ms, locals := lo }, s, m, args, below, meth, c) y.cls cc maxL fr mc ms lo :=
  ⟨B.exec, B.bytes, hml, findClass_of_methodNamed B.named, hw.1, hw.2.1, hw.2.2.2.1, B.notSynchronized, hw.2.2.2.2, htr, rfl⟩
end VRL
theorem zca_1 : zq (.castable (zex 1) (zex 1)) := ⟨List.mem_of_getElem? (i := 338) (by decide +kernel), rfl⟩
theorem zcl_1 : zq (.classLink RL 13 (zex 1)) := ⟨List.mem_of_getElem? (i := 330) (by decide +kernel), rfl⟩
theorem zca_2 : zq (.castable (zex 2) (zex 2)) := ⟨List.mem_of_getElem? (i := 410) (by decide +kernel), rfl⟩
theorem zcl_2 : zq (.classLink RL 15 (zex 2)) := ⟨List.mem_of_getElem? (i := 331) (by decide +kernel), rfl⟩
theorem zca_3 : zq (.castable (zex 3) (zex 3)) := ⟨List.mem_of_getElem? (i := 472) (by decide +kernel), rfl⟩
theorem zcl_3 : zq (.classLink RL 21 (zex 3)) := ⟨List.mem_of_getElem? (i := 430) (by decide +kernel), rfl⟩
theorem zca_4 : zq (.castable (zex 4) (zex 4)) := ⟨List.mem_of_getElem? (i := 512) (by decide +kernel), rfl⟩
theorem zcl_4 : zq (.classLink RL 27 (zex 4)) := ⟨List.mem_of_getElem? (i := 496) (by decide +kernel), rfl⟩
theorem zca_5 : zq (.castable (zex 5) (zex 5)) := ⟨List.mem_of_getElem? (i := 648) (by decide +kernel), rfl⟩
theorem zcl_5 : zq (.classLink RL 63 (zex 5)) := ⟨List.mem_of_getElem? (i := 641) (by decide +kernel), rfl⟩
theorem zca_6 : zq (.castable (zex 6) (zex 6)) := ⟨List.mem_of_getElem? (i := 966) (by decide +kernel), rfl⟩
theorem zcl_6 : zq (.classLink RL 151 (zex 6)) := ⟨List.mem_of_getElem? (i := 954) (by decide +kernel), rfl⟩
