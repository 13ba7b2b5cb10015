/-! reads as equations -/
theorem gI_eq {h : AH} {a ci f : Nat} {v : Int32} {kk : Int32 → Prop} (hk : hK h a = ci + 1) (hv : hI h f a = v) : gI h (some a) ci f kk = kk v := by
  subst hv
  exact propext ⟨fun ⟨_, e, _, q⟩ => by cases e; exact q, fun q => ⟨a, rfl, hk, q⟩⟩
theorem gA_eq {h : AH} {a ci f : Nat} {v : Option Nat} {kk : Option Nat → Prop} (hk : hK h a = ci + 1) (hv : hA h f a = v) : gA h (some a) ci f kk = kk v := by
  subst hv
  exact propext ⟨fun ⟨_, e, _, q⟩ => by cases e; exact q, fun q => ⟨a, rfl, hk, q⟩⟩
theorem cast_eq {h : AH} {a q : Nat} {P : Prop} (hk : hK h a = q) : cast h (some a) q P = P := propext ⟨fun ⟨_, e, _, p⟩ => p, fun p => ⟨a, rfl, hk, p⟩⟩
theorem lA_eq {h : AH} {a t n i : Nat} {v : Option Nat} {kk : Option Nat → Prop} (hk : isR h a t) (hn : hL h a = n) (hi : i < n) (hn2 : n < 2 ^ 31) (hv : aA h a i = v) : lA h (some a) t (nI i) kk = kk v := by
  subst hv
  subst hn
  have e9 : (nI i).toNatClampNeg = i := nI_clamp (Nat.lt_trans hi hn2)
  refine propext ⟨fun ⟨_, e, _, _, q⟩ => ?_, fun q => ⟨a, rfl, hk, vp_in_nI hi hn2, by rw [e9]; exact q⟩⟩
  cases e
  rw [e9] at q
  exact q
theorem lI_eq {h : AH} {a t n i : Nat} {v : Int32} {kk : Int32 → Prop} (hk : isR h a t) (hn : hL h a = n) (hi : i < n) (hn2 : n < 2 ^ 31) (hv : aI h a i = v) : lI h (some a) t (nI i) kk = kk v := by
  subst hv
  subst hn
  have e9 : (nI i).toNatClampNeg = i := nI_clamp (Nat.lt_trans hi hn2)
  refine propext ⟨fun ⟨_, e, _, _, q⟩ => ?_, fun q => ⟨a, rfl, hk, vp_in_nI hi hn2, by rw [e9]; exact q⟩⟩
  cases e
  rw [e9] at q
  exact q
theorem aLen_eq {h : AH} {a t n : Nat} {kk : Int32 → Prop} (hk : isR h a t) (hn : hL h a = n) : aLen h (some a) t kk = kk (nI n) := by
  subst hn
  exact propext ⟨fun ⟨_, e, _, q⟩ => by cases e; exact q, fun q => ⟨a, rfl, hk, q⟩⟩
theorem nn_eq {a : Nat} {P : Prop} : nn (some a) P = P := propext ⟨fun ⟨_, _, p⟩ => p, fun p => ⟨a, rfl, p⟩⟩
theorem nNull_some {α : Type} (a : Nat) (t e : α) : nNull (some a) t e = e := rfl
theorem nNull_none {α : Type} (t e : α) : nNull none t e = t := rfl
theorem okZ_0 {P : Prop} : okZ 0 P = P := propext ⟨fun q => q.2, fun p => ⟨Or.inl rfl, p⟩⟩
theorem okZ_1 {P : Prop} : okZ 1 P = P := propext ⟨fun q => q.2, fun p => ⟨Or.inr rfl, p⟩⟩
section YR
variable {B : Nat} {σ : zS} {h : AH}
theorem Y.r53 (y : Y B σ h) {i : Nat} (hi : i < 4) {kk : Int32 → Prop} : gI h (some (yL B i)) 3 53 kk = kk (sV σ 2 i 0) := gI_eq (y.kind (f := 2) (j := 0) ⟨hi, rfl⟩) (y.2.1 2 i 0 ⟨hi, rfl⟩)
theorem Y.r54 (y : Y B σ h) {i : Nat} (hi : i < 4) {kk : Int32 → Prop} : gI h (some (yL B i)) 3 54 kk = kk (sV σ 3 i 0) := gI_eq (y.kind (f := 3) (j := 0) ⟨hi, rfl⟩) (y.2.1 3 i 0 ⟨hi, rfl⟩)
theorem Y.r55 (y : Y B σ h) {i : Nat} (hi : i < 4) {kk : Int32 → Prop} : gI h (some (yL B i)) 3 55 kk = kk (sV σ 4 i 0) := gI_eq (y.kind (f := 4) (j := 0) ⟨hi, rfl⟩) (y.2.1 4 i 0 ⟨hi, rfl⟩)
theorem Y.r56 (y : Y B σ h) {i : Nat} (hi : i < 4) {kk : Int32 → Prop} : gI h (some (yL B i)) 3 56 kk = kk (sV σ 5 i 0) := gI_eq (y.kind (f := 5) (j := 0) ⟨hi, rfl⟩) (y.2.1 5 i 0 ⟨hi, rfl⟩)
theorem Y.r64 (y : Y B σ h) {i j : Nat} (hi : i < 4) (hj : j < 10) {kk : Int32 → Prop} : gI h (some (yP B i j)) 4 64 kk = kk (sV σ 6 i j) := gI_eq (y.kind (f := 6) ⟨hi, hj⟩) (y.2.1 6 i j ⟨hi, hj⟩)
theorem Y.r65 (y : Y B σ h) {i j : Nat} (hi : i < 4) (hj : j < 10) {kk : Int32 → Prop} : gI h (some (yP B i j)) 4 65 kk = kk (sV σ 7 i j) := gI_eq (y.kind (f := 7) ⟨hi, hj⟩) (y.2.1 7 i j ⟨hi, hj⟩)
theorem Y.r32 (y : Y B σ h) {i j : Nat} (hi : i < 4) (hj : j < 9) {kk : Int32 → Prop} : gI h (some (yJ B i j)) 2 32 kk = kk (sV σ 8 i j) := gI_eq (y.kind (f := 8) ⟨hi, hj⟩) (y.2.1 8 i j ⟨hi, hj⟩)
theorem Y.r33 (y : Y B σ h) {i j : Nat} (hi : i < 4) (hj : j < 9) {kk : Int32 → Prop} : gI h (some (yJ B i j)) 2 33 kk = kk (sV σ 9 i j) := gI_eq (y.kind (f := 9) ⟨hi, hj⟩) (y.2.1 9 i j ⟨hi, hj⟩)
theorem Y.r2 (y : Y B σ h) {i j : Nat} (hi : i < 4) (hj : j < 2) {kk : Int32 → Prop} : gI h (some (yE B i j)) 0 2 kk = kk (sV σ 10 i j) := gI_eq (y.kind (f := 10) ⟨hi, hj⟩) (y.2.1 10 i j ⟨hi, hj⟩)
theorem Y.r17 (y : Y B σ h) {i : Nat} (hi : i < 8) {kk : Int32 → Prop} : gI h (some (yH B i)) 1 17 kk = kk (sV σ 11 i 0) := gI_eq (y.kind (f := 11) (j := 0) ⟨hi, rfl⟩) (y.2.1 11 i 0 ⟨hi, rfl⟩)
theorem Y.r18 (y : Y B σ h) {i : Nat} (hi : i < 8) {kk : Int32 → Prop} : gI h (some (yH B i)) 1 18 kk = kk (sV σ 12 i 0) := gI_eq (y.kind (f := 12) (j := 0) ⟨hi, rfl⟩) (y.2.1 12 i 0 ⟨hi, rfl⟩)
theorem Y.r19 (y : Y B σ h) {i : Nat} (hi : i < 8) {kk : Int32 → Prop} : gI h (some (yH B i)) 1 19 kk = kk (sV σ 13 i 0) := gI_eq (y.kind (f := 13) (j := 0) ⟨hi, rfl⟩) (y.2.1 13 i 0 ⟨hi, rfl⟩)
theorem Y.r20 (y : Y B σ h) {i : Nat} (hi : i < 8) {kk : Int32 → Prop} : gI h (some (yH B i)) 1 20 kk = kk (sV σ 14 i 0) := gI_eq (y.kind (f := 14) (j := 0) ⟨hi, rfl⟩) (y.2.1 14 i 0 ⟨hi, rfl⟩)
theorem Y.r82 (y : Y B σ h) {i : Nat} (hi : i < 5) {kk : Int32 → Prop} : gI h (some (yW B i)) 5 82 kk = kk (sV σ 16 i 0) := gI_eq (y.kind (f := 16) (j := 0) ⟨hi, rfl⟩) (y.2.1 16 i 0 ⟨hi, rfl⟩)
theorem Y.r104 (y : Y B σ h) {kk : Int32 → Prop} : gI h (some B) 6 104 kk = kk (sV σ 0 0 0) := gI_eq y.1.1.1 (y.2.1 0 0 0 ⟨by decide, rfl⟩)
theorem Y.r105 (y : Y B σ h) {kk : Int32 → Prop} : gI h (some B) 6 105 kk = kk (sV σ 0 1 0) := gI_eq y.1.1.1 (y.2.1 0 1 0 ⟨by decide, rfl⟩)
theorem Y.r106 (y : Y B σ h) {kk : Int32 → Prop} : gI h (some B) 6 106 kk = kk (sV σ 0 2 0) := gI_eq y.1.1.1 (y.2.1 0 2 0 ⟨by decide, rfl⟩)
theorem Y.r100 (y : Y B σ h) {kk : Int32 → Prop} : gI h (some B) 6 100 kk = kk (nI (sN σ 0 0)) := gI_eq y.1.1.1 (y.2.2.2.1 0 0 rfl)
theorem Y.r101 (y : Y B σ h) {kk : Int32 → Prop} : gI h (some B) 6 101 kk = kk (nI (sN σ 1 0)) := gI_eq y.1.1.1 (y.2.2.2.1 1 0 rfl)
theorem Y.r102 (y : Y B σ h) {kk : Int32 → Prop} : gI h (some B) 6 102 kk = kk (nI (sN σ 2 0)) := gI_eq y.1.1.1 (y.2.2.2.1 2 0 rfl)
theorem Y.r103 (y : Y B σ h) {kk : Int32 → Prop} : gI h (some B) 6 103 kk = kk (nI (sN σ 3 0)) := gI_eq y.1.1.1 (y.2.2.2.1 3 0 rfl)
theorem Y.r52 (y : Y B σ h) {i : Nat} (hi : i < 4) {kk : Int32 → Prop} : gI h (some (yL B i)) 3 52 kk = kk (nI (sN σ 4 i)) := gI_eq (y.kindN (k := 4) hi) (y.2.2.2.1 4 i hi)
theorem Y.r0 (y : Y B σ h) {i j : Nat} (hi : i < 4) (hj : j < 2) {kk : Int32 → Prop} : gI h (some (yE B i j)) 0 0 kk = kk (nI i) := gI_eq (y.1.2.2.2.2.2.1 i j hi hj).1 (y.1.2.2.2.2.2.1 i j hi hj).2
theorem Y.r16 (y : Y B σ h) {i : Nat} (hi : i < 8) {kk : Int32 → Prop} : gI h (some (yH B i)) 1 16 kk = kk (nI i) := gI_eq (y.1.2.2.2.2.2.2.1 i hi).1 (y.1.2.2.2.2.2.2.1 i hi).2.2
theorem Y.r80 (y : Y B σ h) {i : Nat} (hi : i < 5) {kk : Int32 → Prop} : gI h (some (yW B i)) 5 80 kk = kk (nI i) := gI_eq (y.1.2.2.2.2.2.2.2 i hi).1 (y.1.2.2.2.2.2.2.2 i hi).2.2.2.2
theorem Y.a66 (y : Y B σ h) {i j : Nat} (hi : i < 4) (hj : j < 10) {kk : Option Nat → Prop} : gA h (some (yP B i j)) 4 66 kk = kk ((sR σ 0 i j).map (yRT B 0)) := gA_eq (y.kindR (f := 0) ⟨hi, hj⟩) (y.2.2.1 0 i j ⟨hi, hj⟩)
theorem Y.a34 (y : Y B σ h) {i j : Nat} (hi : i < 4) (hj : j < 9) {kk : Option Nat → Prop} : gA h (some (yJ B i j)) 2 34 kk = kk ((sR σ 1 i j).map (yRT B 1)) := gA_eq (y.kindR (f := 1) ⟨hi, hj⟩) (y.2.2.1 1 i j ⟨hi, hj⟩)
theorem Y.a1 (y : Y B σ h) {i j : Nat} (hi : i < 4) (hj : j < 2) {kk : Option Nat → Prop} : gA h (some (yE B i j)) 0 1 kk = kk ((sR σ 2 i j).map (yRT B 2)) := gA_eq (y.kindR (f := 2) ⟨hi, hj⟩) (y.2.2.1 2 i j ⟨hi, hj⟩)
theorem Y.a96 (y : Y B σ h) {kk : Option Nat → Prop} : gA h (some B) 6 96 kk = kk (some (B + 1)) := gA_eq y.1.1.1 y.1.2.1.1
theorem Y.a97 (y : Y B σ h) {kk : Option Nat → Prop} : gA h (some B) 6 97 kk = kk (some (B + 2)) := gA_eq y.1.1.1 y.1.2.1.2.1
theorem Y.a98 (y : Y B σ h) {kk : Option Nat → Prop} : gA h (some B) 6 98 kk = kk (some (B + 3)) := gA_eq y.1.1.1 y.1.2.1.2.2.1
theorem Y.a99 (y : Y B σ h) {kk : Option Nat → Prop} : gA h (some B) 6 99 kk = kk (some (B + 4)) := gA_eq y.1.1.1 y.1.2.1.2.2.2
theorem Y.a48 (y : Y B σ h) {i : Nat} (hi : i < 4) {kk : Option Nat → Prop} : gA h (some (yL B i)) 3 48 kk = kk (some (yL B i + 1)) := gA_eq (y.1.2.2.1 i hi).1 (y.1.2.2.1 i hi).2.2.2.1
theorem Y.a49 (y : Y B σ h) {i : Nat} (hi : i < 4) {kk : Option Nat → Prop} : gA h (some (yL B i)) 3 49 kk = kk (some (yL B i + 2)) := gA_eq (y.1.2.2.1 i hi).1 (y.1.2.2.1 i hi).2.2.2.2.1
theorem Y.a50 (y : Y B σ h) {i : Nat} (hi : i < 4) {kk : Option Nat → Prop} : gA h (some (yL B i)) 3 50 kk = kk (some (yE B i 0)) := gA_eq (y.1.2.2.1 i hi).1 (y.1.2.2.1 i hi).2.2.2.2.2.1
theorem Y.a51 (y : Y B σ h) {i : Nat} (hi : i < 4) {kk : Option Nat → Prop} : gA h (some (yL B i)) 3 51 kk = kk (some (yE B i 1)) := gA_eq (y.1.2.2.1 i hi).1 (y.1.2.2.1 i hi).2.2.2.2.2.2.1
theorem Y.a81 (y : Y B σ h) {i : Nat} (hi : i < 5) {kk : Option Nat → Prop} : gA h (some (yW B i)) 5 81 kk = kk (some (yW B i + 1)) := gA_eq (y.1.2.2.2.2.2.2.2 i hi).1 (y.1.2.2.2.2.2.2.2 i hi).2.2.1
theorem Y.lL (y : Y B σ h) {i : Nat} (hi : i < 4) {kk : Option Nat → Prop} : lA h (some (B + 1)) 6 (nI i) kk = kk (some (yL B i)) := lA_eq (Or.inl y.1.1.2.1.1) y.1.1.2.1.2 hi (by decide) (y.1.2.2.1 i hi).2.2.2.2.2.2.2
theorem Y.lH (y : Y B σ h) {i : Nat} (hi : i < 8) {kk : Option Nat → Prop} : lA h (some (B + 2)) 7 (nI i) kk = kk (some (yH B i)) := lA_eq (Or.inl y.1.1.2.2.1.1) y.1.1.2.2.1.2 hi (by decide) (y.1.2.2.2.2.2.2.1 i hi).2.1
theorem Y.lW (y : Y B σ h) {i : Nat} (hi : i < 5) {kk : Option Nat → Prop} : lA h (some (B + 3)) 8 (nI i) kk = kk (some (yW B i)) := lA_eq (Or.inl y.1.1.2.2.2.1.1) y.1.1.2.2.2.1.2 hi (by decide) (y.1.2.2.2.2.2.2.2 i hi).2.2.2.1
theorem Y.lP (y : Y B σ h) {i j : Nat} (hi : i < 4) (hj : j < 10) {kk : Option Nat → Prop} : lA h (some (yL B i + 1)) 9 (nI j) kk = kk (some (yP B i j)) := lA_eq (Or.inl (y.1.2.2.1 i hi).2.1.1) (y.1.2.2.1 i hi).2.1.2 hj (by decide) (y.1.2.2.2.1 i j hi hj).2
theorem Y.lJ (y : Y B σ h) {i j : Nat} (hi : i < 4) (hj : j < 9) {kk : Option Nat → Prop} : lA h (some (yL B i + 2)) 10 (nI j) kk = kk (some (yJ B i j)) := lA_eq (Or.inl (y.1.2.2.1 i hi).2.2.1.1) (y.1.2.2.1 i hi).2.2.1.2 hj (by decide) (y.1.2.2.2.2.1 i j hi hj).2
theorem Y.lT (y : Y B σ h) {i j : Nat} (hi : i < 5) (hj : j < 4) {kk : Int32 → Prop} : lI h (some (yW B i + 1)) 0 (nI j) kk = kk (sV σ 15 i j) := lI_eq (Or.inl (y.1.2.2.2.2.2.2.2 i hi).2.1.1) (y.1.2.2.2.2.2.2.2 i hi).2.1.2 hj (by decide) (y.2.2.2.2.1 i j hi hj)
theorem Y.lC (y : Y B σ h) {i : Nat} (hi : i < 6) {kk : Int32 → Prop} : lI h (some (B + 4)) 0 (nI i) kk = kk (sV σ 17 i 0) := lI_eq (Or.inl y.1.1.2.2.2.2.1) y.1.1.2.2.2.2.2 hi (by decide) (y.2.2.2.2.2 i hi)
theorem Y.cB (y : Y B σ h)  {P : Prop} : cast h (some (B)) 7 P = P := cast_eq y.1.1.1
theorem Y.cL (y : Y B σ h) {i : Nat} (hi : i < 4) {P : Prop} : cast h (some (yL B i)) 4 P = P := cast_eq (y.1.2.2.1 i hi).1
theorem Y.cP (y : Y B σ h) {i j : Nat} (hi : i < 4) (hj : j < 10) {P : Prop} : cast h (some (yP B i j)) 5 P = P := cast_eq (y.1.2.2.2.1 i j hi hj).1
theorem Y.cJ (y : Y B σ h) {i j : Nat} (hi : i < 4) (hj : j < 9) {P : Prop} : cast h (some (yJ B i j)) 3 P = P := cast_eq (y.1.2.2.2.2.1 i j hi hj).1
theorem Y.cE (y : Y B σ h) {i j : Nat} (hi : i < 4) (hj : j < 2) {P : Prop} : cast h (some (yE B i j)) 1 P = P := cast_eq (y.1.2.2.2.2.2.1 i j hi hj).1
theorem Y.cH (y : Y B σ h) {i : Nat} (hi : i < 8) {P : Prop} : cast h (some (yH B i)) 2 P = P := cast_eq (y.1.2.2.2.2.2.2.1 i hi).1
theorem Y.cW (y : Y B σ h) {i : Nat} (hi : i < 5) {P : Prop} : cast h (some (yW B i)) 6 P = P := cast_eq (y.1.2.2.2.2.2.2.2 i hi).1
end YR
