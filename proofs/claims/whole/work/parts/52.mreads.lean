/-! reads of the model's objects as equations -/
section MR
variable {g : Nat → Nat} {B : Nat} {mu : zM} {σ : zS} {h : AH}
theorem M.a192 (m : M g B mu σ h) {kk : Option Nat → Prop} : gA h (some (B + 119)) 12 192 kk = kk (some (mu 5 0 0)) := gA_eq m.1.2.2.2.2.2.1.1 (m.1.2.2.2.2.2.1.2.2 0 (by decide))
theorem M.a193 (m : M g B mu σ h) {kk : Option Nat → Prop} : gA h (some (B + 119)) 12 193 kk = kk (some (mu 5 0 1)) := gA_eq m.1.2.2.2.2.2.1.1 (m.1.2.2.2.2.2.1.2.2 1 (by decide))
theorem M.a194 (m : M g B mu σ h) {kk : Option Nat → Prop} : gA h (some (B + 119)) 12 194 kk = kk (some (mu 5 0 2)) := gA_eq m.1.2.2.2.2.2.1.1 (m.1.2.2.2.2.2.1.2.2 2 (by decide))
theorem M.a195 (m : M g B mu σ h) {kk : Option Nat → Prop} : gA h (some (B + 119)) 12 195 kk = kk (some (mu 5 0 3)) := gA_eq m.1.2.2.2.2.2.1.1 (m.1.2.2.2.2.2.1.2.2 3 (by decide))
theorem M.cO (m : M g B mu σ h) {P : Prop} : cast h (some (B + 119)) 13 P = P := cast_eq m.1.2.2.2.2.2.1.1
theorem M.r196 (m : M g B mu σ h) {kk : Int32 → Prop} : gI h (some (B + 119)) 12 196 kk = kk (sV σ 0 0 0) := gI_eq m.1.2.2.2.2.2.1.1 m.2.2.2.1.1
theorem M.r197 (m : M g B mu σ h) {kk : Int32 → Prop} : gI h (some (B + 119)) 12 197 kk = kk (sV σ 0 1 0) := gI_eq m.1.2.2.2.2.2.1.1 m.2.2.2.1.2.1
theorem M.r198 (m : M g B mu σ h) {kk : Int32 → Prop} : gI h (some (B + 119)) 12 198 kk = kk (sV σ 0 2 0) := gI_eq m.1.2.2.2.2.2.1.1 m.2.2.2.1.2.2
theorem M.r144 (m : M g B mu σ h) {i : Nat} (hi : i < sN σ 0 0) {kk : Int32 → Prop} : gI h (some (mu 0 i 0)) 9 144 kk = kk (sV σ 1 i 0) := gI_eq (m.1.1 0 i 0 ⟨hi, rfl⟩).2.2 (m.2.1 1 i 0 ⟨hi, rfl⟩)
theorem M.r149 (m : M g B mu σ h) {i : Nat} (hi : i < sN σ 0 0) {kk : Int32 → Prop} : gI h (some (mu 0 i 0)) 9 149 kk = kk (sV σ 3 i 0) := gI_eq (m.1.1 0 i 0 ⟨hi, rfl⟩).2.2 (m.2.1 3 i 0 ⟨hi, rfl⟩)
theorem M.r151 (m : M g B mu σ h) {i : Nat} (hi : i < sN σ 0 0) {kk : Int32 → Prop} : gI h (some (mu 0 i 0)) 9 151 kk = kk (sV σ 4 i 0) := gI_eq (m.1.1 0 i 0 ⟨hi, rfl⟩).2.2 (m.2.1 4 i 0 ⟨hi, rfl⟩)
theorem M.r150 (m : M g B mu σ h) {i : Nat} (hi : i < sN σ 0 0) {kk : Int32 → Prop} : gI h (some (mu 0 i 0)) 9 150 kk = kk (sV σ 5 i 0) := gI_eq (m.1.1 0 i 0 ⟨hi, rfl⟩).2.2 (m.2.1 5 i 0 ⟨hi, rfl⟩)
theorem M.r160 (m : M g B mu σ h) {i j : Nat} (hi : i < sN σ 0 0) (hj : j < sN σ 4 i) {kk : Int32 → Prop} : gI h (some (mu 1 i j)) 10 160 kk = kk (sV σ 6 i j) := gI_eq (m.1.1 1 i j ⟨hi, hj⟩).2.2 (m.2.1 6 i j ⟨hi, hj⟩)
theorem M.r161 (m : M g B mu σ h) {i j : Nat} (hi : i < sN σ 0 0) (hj : j < sN σ 4 i) {kk : Int32 → Prop} : gI h (some (mu 1 i j)) 10 161 kk = kk (sV σ 7 i j) := gI_eq (m.1.1 1 i j ⟨hi, hj⟩).2.2 (m.2.1 7 i j ⟨hi, hj⟩)
theorem M.r128 (m : M g B mu σ h) {i j : Nat} (hi : i < sN σ 0 0) (hj : j < sN σ 4 i - 1) {kk : Int32 → Prop} : gI h (some (mu 2 i j)) 8 128 kk = kk (sV σ 8 i j) := gI_eq (m.1.1 2 i j ⟨hi, hj⟩).2.2 (m.2.1 8 i j ⟨hi, hj⟩)
theorem M.r129 (m : M g B mu σ h) {i j : Nat} (hi : i < sN σ 0 0) (hj : j < sN σ 4 i - 1) {kk : Int32 → Prop} : gI h (some (mu 2 i j)) 8 129 kk = kk (sV σ 9 i j) := gI_eq (m.1.1 2 i j ⟨hi, hj⟩).2.2 (m.2.1 9 i j ⟨hi, hj⟩)
theorem M.r112 (m : M g B mu σ h) {i : Nat} (hi : i < sN σ 1 0) {kk : Int32 → Prop} : gI h (some (mu 3 i 0)) 7 112 kk = kk (sV σ 11 i 0) := gI_eq (m.1.1 3 i 0 ⟨hi, rfl⟩).2.2 (m.2.1 11 i 0 ⟨hi, rfl⟩)
theorem M.r113 (m : M g B mu σ h) {i : Nat} (hi : i < sN σ 1 0) {kk : Int32 → Prop} : gI h (some (mu 3 i 0)) 7 113 kk = kk (sV σ 13 i 0) := gI_eq (m.1.1 3 i 0 ⟨hi, rfl⟩).2.2 (m.2.1 13 i 0 ⟨hi, rfl⟩)
theorem M.r114 (m : M g B mu σ h) {i : Nat} (hi : i < sN σ 1 0) {kk : Int32 → Prop} : gI h (some (mu 3 i 0)) 7 114 kk = kk (sV σ 14 i 0) := gI_eq (m.1.1 3 i 0 ⟨hi, rfl⟩).2.2 (m.2.1 14 i 0 ⟨hi, rfl⟩)
theorem M.r177 (m : M g B mu σ h) {i : Nat} (hi : i < sN σ 2 0) {kk : Int32 → Prop} : gI h (some (mu 4 i 0)) 11 177 kk = kk (sV σ 16 i 0) := gI_eq (m.1.1 4 i 0 ⟨hi, rfl⟩).2.2 (m.2.1 16 i 0 ⟨hi, rfl⟩)
theorem M.r162 (m : M g B mu σ h) {i j : Nat} (hi : i < sN σ 0 0) (hj : j < sN σ 4 i) {kk : Int32 → Prop} : gI h (some (mu 1 i j)) 10 162 kk = kk (enc (sR σ 0 i j)) := gI_eq (m.1.1 1 i j ⟨hi, hj⟩).2.2 (m.2.1 18 i j ⟨hi, hj⟩)
theorem M.r130 (m : M g B mu σ h) {i j : Nat} (hi : i < sN σ 0 0) (hj : j < sN σ 4 i - 1) {kk : Int32 → Prop} : gI h (some (mu 2 i j)) 8 130 kk = kk (enc (sR σ 1 i j)) := gI_eq (m.1.1 2 i j ⟨hi, hj⟩).2.2 (m.2.1 19 i j ⟨hi, hj⟩)
theorem M.a145 (m : M g B mu σ h) {i : Nat} (hi : i < sN σ 0 0) {kk : Option Nat → Prop} : gA h (some (mu 0 i 0)) 9 145 kk = kk (some (mu 5 1 i)) := gA_eq (m.1.1 0 i 0 ⟨hi, rfl⟩).2.2 (m.1.2.2.2.1 i hi).1
theorem M.a146 (m : M g B mu σ h) {i : Nat} (hi : i < sN σ 0 0) {kk : Option Nat → Prop} : gA h (some (mu 0 i 0)) 9 146 kk = kk (some (mu 5 2 i)) := gA_eq (m.1.1 0 i 0 ⟨hi, rfl⟩).2.2 (m.1.2.2.2.1 i hi).2.1
theorem M.a147 (m : M g B mu σ h) {i : Nat} (hi : i < sN σ 0 0) {kk : Option Nat → Prop} : gA h (some (mu 0 i 0)) 9 147 kk = kk (some (mu 6 i 0)) := gA_eq (m.1.1 0 i 0 ⟨hi, rfl⟩).2.2 (m.1.2.2.2.1 i hi).2.2.1
theorem M.a148 (m : M g B mu σ h) {i : Nat} (hi : i < sN σ 0 0) {kk : Option Nat → Prop} : gA h (some (mu 0 i 0)) 9 148 kk = kk (some (mu 7 i 0)) := gA_eq (m.1.1 0 i 0 ⟨hi, rfl⟩).2.2 (m.1.2.2.2.1 i hi).2.2.2
theorem M.a176 (m : M g B mu σ h) {i : Nat} (hi : i < sN σ 2 0) {kk : Option Nat → Prop} : gA h (some (mu 4 i 0)) 11 176 kk = kk (some (mu 8 i 0)) := gA_eq (m.1.1 4 i 0 ⟨hi, rfl⟩).2.2 (m.1.2.2.2.2.1 i hi)
theorem M.lJn (m : M g B mu σ h) {i a : Nat} (hi : i < sN σ 0 0) (ha : a < 2) {kk : Int32 → Prop} : lI h (some (mu 6 i 0)) 0 (nI a) kk = kk (enc (sR σ 2 i a)) := lI_eq (n := 2) (Or.inl (m.1.1 6 i 0 ⟨hi, rfl⟩).2.2) (m.1.2.2.1 6 i 0 ⟨hi, rfl⟩ (by decide)) ha (by decide) (m.2.2.1 6 i a (by decide) ⟨hi, rfl⟩ (by decide) ha)
theorem M.lBl (m : M g B mu σ h) {i a : Nat} (hi : i < sN σ 0 0) (ha : a < 2) {kk : Int32 → Prop} : lI h (some (mu 7 i 0)) 1 (nI a) kk = kk (sV σ 10 i a) := lI_eq (n := 2) (Or.inl (m.1.1 7 i 0 ⟨hi, rfl⟩).2.2) (m.1.2.2.1 7 i 0 ⟨hi, rfl⟩ (by decide)) ha (by decide) (m.2.2.1 7 i a (by decide) ⟨hi, rfl⟩ (by decide) ha)
theorem M.lTk (m : M g B mu σ h) {i a : Nat} (hi : i < sN σ 2 0) (ha : a < 4) {kk : Int32 → Prop} : lI h (some (mu 8 i 0)) 0 (nI a) kk = kk (sV σ 15 i a) := lI_eq (n := 4) (Or.inl (m.1.1 8 i 0 ⟨hi, rfl⟩).2.2) (m.1.2.2.1 8 i 0 ⟨hi, rfl⟩ (by decide)) ha (by decide) (m.2.2.1 8 i a (by decide) ⟨hi, rfl⟩ (by decide) ha)
theorem M.lBl0 (m : M g B mu σ h) {i : Nat} (hi : i < sN σ 0 0) {kk : Int32 → Prop} : lI h (some (mu 7 i 0)) 1 0 kk = kk (sV σ 10 i 0) := m.lBl hi (a := 0) (by decide)
theorem M.lBl1 (m : M g B mu σ h) {i : Nat} (hi : i < sN σ 0 0) {kk : Int32 → Prop} : lI h (some (mu 7 i 0)) 1 1 kk = kk (sV σ 10 i 1) := m.lBl hi (a := 1) (by decide)
theorem M.lSh (m : M g B mu σ h) {k : Nat} (hk : k < 4) {kk : Int32 → Prop} : lI h (some (g 1)) 0 (nI k) kk = kk (aI h (g 1) k) := lI_eq (n := 4) (Or.inr m.1.2.2.2.2.2.2.2.2.1.1) m.1.2.2.2.2.2.2.2.2.1.2.1 hk (by decide) rfl
theorem qN_le (c : zCnt σ) {a b : Nat} (ok : lsOk (sN σ) a b) : qN (sN σ) a b ≤ 10 := by
  obtain ⟨c1, c2, c3, c4, c5⟩ := c
  rcases qE_ok ok with ⟨rfl, hb⟩ | ⟨rfl, hb⟩ | ⟨rfl, hb⟩
  · match b, hb with
    | 0, _ => simp only [qN]; omega
    | 1, _ => simp only [qN]; omega
    | 2, _ => simp only [qN]; omega
    | 3, _ => simp only [qN]; omega
  · exact c5 b
  · have := c5 b
    simp only [qN]; omega
theorem M.al (m : M g B mu σ h) (c : zCnt σ) {a b : Nat} (ok : lsOk (sN σ) a b) : AL (g 0) h (mu 5 a b) (if qN (sN σ) a b = 0 then g 0 else mu 9 a b) (qN (sN σ) a b) (qE mu a b) := by
  obtain ⟨l1, l2, l3⟩ := m.1.2.2.2.2.2.2.1 a b ok
  refine ⟨(m.1.1 5 a b ok).2.2, l1, l2, ?_, qN_le c ok, ?_⟩
  · by_cases q : qN (sN σ) a b = 0
    · rw [if_pos q]
      exact Or.inl ⟨q, rfl, m.1.2.2.2.2.2.2.2.1.1, m.1.2.2.2.2.2.2.2.1.2.1⟩
    · rw [if_neg q]
      have ok9 : vOk (sN σ) 9 a b := ⟨ok, by omega⟩
      exact Or.inr ⟨(m.1.1 9 a b ok9).2.2, m.1.2.2.1 9 a b ok9 (by decide)⟩
  · intro i hi
    rw [if_neg (by omega)]
    exact l3 i hi
theorem M.s0 (m : M g B mu σ h) (c : zCnt σ)  {K : Int32 → AH → Prop} : f_Jx4a65c_size_8abf5 g (some (mu 5 0 0)) h K = K (nI (sN σ 0 0)) h := (m.al c (a := 0) (b := 0) (show 0 < 4 by decide)).size
theorem M.cs0 (m : M g B mu σ h)  {P : Prop} : cast h (some (mu 5 0 0)) 14 P = P := cast_eq (m.1.1 5 0 0 (show 0 < 4 by decide)).2.2
theorem M.s1 (m : M g B mu σ h) (c : zCnt σ)  {K : Int32 → AH → Prop} : f_Jx4a65c_size_8abf5 g (some (mu 5 0 1)) h K = K (nI (sN σ 1 0)) h := (m.al c (a := 0) (b := 1) (show 1 < 4 by decide)).size
theorem M.cs1 (m : M g B mu σ h)  {P : Prop} : cast h (some (mu 5 0 1)) 14 P = P := cast_eq (m.1.1 5 0 1 (show 1 < 4 by decide)).2.2
theorem M.s2 (m : M g B mu σ h) (c : zCnt σ)  {K : Int32 → AH → Prop} : f_Jx4a65c_size_8abf5 g (some (mu 5 0 2)) h K = K (nI (sN σ 2 0)) h := (m.al c (a := 0) (b := 2) (show 2 < 4 by decide)).size
theorem M.cs2 (m : M g B mu σ h)  {P : Prop} : cast h (some (mu 5 0 2)) 14 P = P := cast_eq (m.1.1 5 0 2 (show 2 < 4 by decide)).2.2
theorem M.s3 (m : M g B mu σ h) (c : zCnt σ)  {K : Int32 → AH → Prop} : f_Jx4a65c_size_8abf5 g (some (mu 5 0 3)) h K = K (nI (sN σ 3 0)) h := (m.al c (a := 0) (b := 3) (show 3 < 4 by decide)).size
theorem M.cs3 (m : M g B mu σ h)  {P : Prop} : cast h (some (mu 5 0 3)) 14 P = P := cast_eq (m.1.1 5 0 3 (show 3 < 4 by decide)).2.2
theorem M.sP (m : M g B mu σ h) (c : zCnt σ) {i : Nat} (hi : i < sN σ 0 0) {K : Int32 → AH → Prop} : f_Jx4a65c_size_8abf5 g (some (mu 5 1 i)) h K = K (nI (sN σ 4 i)) h := (m.al c (a := 1) (b := i) hi).size
theorem M.csP (m : M g B mu σ h) {i : Nat} (hi : i < sN σ 0 0) {P : Prop} : cast h (some (mu 5 1 i)) 14 P = P := cast_eq (m.1.1 5 1 i hi).2.2
theorem M.sJ (m : M g B mu σ h) (c : zCnt σ) {i : Nat} (hi : i < sN σ 0 0) {K : Int32 → AH → Prop} : f_Jx4a65c_size_8abf5 g (some (mu 5 2 i)) h K = K (nI (sN σ 4 i - 1)) h := (m.al c (a := 2) (b := i) hi).size
theorem M.csJ (m : M g B mu σ h) {i : Nat} (hi : i < sN σ 0 0) {P : Prop} : cast h (some (mu 5 2 i)) 14 P = P := cast_eq (m.1.1 5 2 i hi).2.2
theorem M.gL (m : M g B mu σ h) (c : zCnt σ) {i : Nat} (hi : i < sN σ 0 0) {K : Option Nat → AH → Prop} : f_Jx4a65c_get_915e3 g (some (mu 5 0 0)) (nI i) h K = K (some (mu 0 i 0)) h := (m.al c (a := 0) (b := 0) (show 0 < 4 by decide)).get hi
theorem M.gH (m : M g B mu σ h) (c : zCnt σ) {i : Nat} (hi : i < sN σ 1 0) {K : Option Nat → AH → Prop} : f_Jx4a65c_get_915e3 g (some (mu 5 0 1)) (nI i) h K = K (some (mu 3 i 0)) h := (m.al c (a := 0) (b := 1) (show 1 < 4 by decide)).get hi
theorem M.gW (m : M g B mu σ h) (c : zCnt σ) {i : Nat} (hi : i < sN σ 2 0) {K : Option Nat → AH → Prop} : f_Jx4a65c_get_915e3 g (some (mu 5 0 2)) (nI i) h K = K (some (mu 4 i 0)) h := (m.al c (a := 0) (b := 2) (show 2 < 4 by decide)).get hi
theorem M.gC (m : M g B mu σ h) (c : zCnt σ) {i : Nat} (hi : i < sN σ 3 0) {K : Option Nat → AH → Prop} : f_Jx4a65c_get_915e3 g (some (mu 5 0 3)) (nI i) h K = K (some (mu 10 i 0)) h := (m.al c (a := 0) (b := 3) (show 3 < 4 by decide)).get hi
theorem M.gP (m : M g B mu σ h) (c : zCnt σ) {i j : Nat} (hi : i < sN σ 0 0) (hj : j < sN σ 4 i) {K : Option Nat → AH → Prop} : f_Jx4a65c_get_915e3 g (some (mu 5 1 i)) (nI j) h K = K (some (mu 1 i j)) h := (m.al c (a := 1) (b := i) hi).get hj
theorem M.gJ (m : M g B mu σ h) (c : zCnt σ) {i j : Nat} (hi : i < sN σ 0 0) (hj : j < sN σ 4 i - 1) {K : Option Nat → AH → Prop} : f_Jx4a65c_get_915e3 g (some (mu 5 2 i)) (nI j) h K = K (some (mu 2 i j)) h := (m.al c (a := 2) (b := i) hi).get hj
theorem M.cL (m : M g B mu σ h) {i : Nat} (hi : i < sN σ 0 0) {P : Prop} : cast h (some (mu 0 i 0)) 10 P = P := cast_eq (m.1.1 0 i 0 ⟨hi, rfl⟩).2.2
theorem M.cP (m : M g B mu σ h) {i j : Nat} (hi : i < sN σ 0 0) (hj : j < sN σ 4 i) {P : Prop} : cast h (some (mu 1 i j)) 11 P = P := cast_eq (m.1.1 1 i j ⟨hi, hj⟩).2.2
theorem M.cJ (m : M g B mu σ h) {i j : Nat} (hi : i < sN σ 0 0) (hj : j < sN σ 4 i - 1) {P : Prop} : cast h (some (mu 2 i j)) 9 P = P := cast_eq (m.1.1 2 i j ⟨hi, hj⟩).2.2
theorem M.cH (m : M g B mu σ h) {i : Nat} (hi : i < sN σ 1 0) {P : Prop} : cast h (some (mu 3 i 0)) 8 P = P := cast_eq (m.1.1 3 i 0 ⟨hi, rfl⟩).2.2
theorem M.cW (m : M g B mu σ h) {i : Nat} (hi : i < sN σ 2 0) {P : Prop} : cast h (some (mu 4 i 0)) 12 P = P := cast_eq (m.1.1 4 i 0 ⟨hi, rfl⟩).2.2
theorem M.cC (m : M g B mu σ h) {i : Nat} (hi : i < sN σ 3 0) {P : Prop} : cast h (some (mu 10 i 0)) 21 P = P := cast_eq (m.2.2.2.2 i hi).1
theorem M.r336 (m : M g B mu σ h) {i : Nat} (hi : i < sN σ 3 0) {kk : Int32 → Prop} : gIc h (some (mu 10 i 0)) 21 336 kk = kk (sV σ 17 i 0) := by
  rw [← (m.2.2.2.2 i hi).2.1]
  exact propext ⟨fun ⟨_, e, _, q⟩ => by cases e; exact q, fun q => ⟨_, rfl, (m.2.2.2.2 i hi).1, q⟩⟩
theorem M.eP (m : M g B mu σ h) (c : zCnt σ) {i : Nat} (hi : i < sN σ 0 0) {K : Int32 → AH → Prop} : f_Jx4a65c_isEmpty_aae02 g (some (mu 5 1 i)) h K = K (if sN σ 4 i = 0 then 1 else 0) h := (m.al c (a := 1) (b := i) hi).isEmpty
end MR
/-! the model's small questions -/
theorem f_in {g : Nat → Nat} {x lo hi : Int32} {h : AH} {K : Int32 → AH → Prop} : f_X12_in g x lo hi h K = K (if x < lo then 0 else if hi < x then 0 else 1) h := by
  unfold f_X12_in
  by_cases q1 : x < lo
  · rw [if_pos q1, if_pos q1, okZ_0]
  · rw [if_neg q1, if_neg q1]
    by_cases q2 : hi < x
    · rw [if_pos q2, if_pos q2, okZ_0]
    · rw [if_neg q2, if_neg q2, okZ_1]
theorem e10 : ((1 : Int32) = 0) = False := by decide +kernel
theorem e01 : ((0 : Int32) = 1) = False := by decide +kernel
theorem in_ix {n : Nat} (hn : n < 2 ^ 31) {x : Int32} : (if x < 0 then (0 : Int32) else if nI n - 1 < x then 0 else 1) = if (ix x n).isSome then 1 else 0 := by
  unfold ix
  by_cases q1 : x < 0
  · rw [if_pos q1, if_pos q1]; rfl
  · rw [if_neg q1, if_neg q1]
    obtain ⟨j, hj, rfl⟩ := nI_of q1
    cases n with
    | zero =>
      rw [if_pos (show nI 0 - 1 < nI j from Int32.lt_of_lt_of_le (show nI 0 - 1 < 0 by decide) (nI_pos' hj)), if_pos (nI_le (Nat.zero_le _) hj)]
      rfl
    | succ n =>
      rw [nI_pred]
      by_cases q2 : j < n + 1
      · rw [if_neg (nI_nlt (by omega) (by omega)), if_neg (nI_ge q2 hn)]; rfl
      · rw [if_pos (nI_lt (by omega) hj), if_pos (nI_le (by omega) hj)]; rfl
theorem okZ_if {b : Bool} {P : Prop} : okZ (if b = true then 1 else 0) P = P := by cases b <;> simp [okZ_0, okZ_1]

section MQ
variable {g : Nat → Nat} {B : Nat} {mu : zM} {σ : zS} {h : AH}

theorem M.isLine (m : M g B mu σ h) (c : zCnt σ) {x : Int32} {K : Int32 → AH → Prop} : f_X12_isLine g (some (B + 119)) x h K = (match ix x (sN σ 0 0) with | none => K 0 h | some _ => K 1 h) := by
  have c1 := c.1
  simp only [f_X12_isLine, m.a192, m.cs0, m.s0 c, f_in]
  rw [in_ix (by omega), okZ_if]
  cases ix x (sN σ 0 0) <;> rfl
theorem M.isHeat (m : M g B mu σ h) (c : zCnt σ) {x : Int32} {K : Int32 → AH → Prop} : f_X12_isHeat g (some (B + 119)) x h K = (match ix x (sN σ 1 0) with | none => K 0 h | some _ => K 1 h) := by
  have c1 := c.2.1
  simp only [f_X12_isHeat, m.a193, m.cs1, m.s1 c, f_in]
  rw [in_ix (by omega), okZ_if]
  cases ix x (sN σ 1 0) <;> rfl
theorem M.isWelder (m : M g B mu σ h) (c : zCnt σ) {x : Int32} {K : Int32 → AH → Prop} : f_X12_isWelder g (some (B + 119)) x h K = (match ix x (sN σ 2 0) with | none => K 0 h | some _ => K 1 h) := by
  have c1 := c.2.2.1
  simp only [f_X12_isWelder, m.a194, m.cs2, m.s2 c, f_in]
  rw [in_ix (by omega), okZ_if]
  cases ix x (sN σ 2 0) <;> rfl
theorem M.isCircuit (m : M g B mu σ h) (c : zCnt σ) {x : Int32} {K : Int32 → AH → Prop} : f_X12_isCircuit g (some (B + 119)) x h K = (match ix x (sN σ 3 0) with | none => K 0 h | some _ => K 1 h) := by
  have c1 := c.2.2.2.1
  simp only [f_X12_isCircuit, m.a195, m.cs3, m.s3 c, f_in]
  rw [in_ix (by omega), okZ_if]
  cases ix x (sN σ 3 0) <;> rfl
theorem M.isPart (m : M g B mu σ h) (c : zCnt σ) {x y : Int32} {K : Int32 → AH → Prop} : f_X12_isPart g (some (B + 119)) x y h K = (match ix x (sN σ 0 0) with | none => K 0 h | some i => match ix y (sN σ 4 i) with | none => K 0 h | some _ => K 1 h) := by
  have c1 := c.1
  simp only [f_X12_isPart, m.cO, m.isLine c, okZ_0, okZ_1, if_true, e10, if_false]
  cases e : ix x (sN σ 0 0) with
  | none => rfl
  | some i =>
    obtain ⟨hi, rfl⟩ := ix_some (by omega) e
    have c2 := c.2.2.2.2 i
    simp only [m.a192, m.cs0, m.gL c hi, m.cL hi, m.a145 hi, m.csP hi, m.sP c hi, f_in]
    rw [in_ix (by omega)]
    cases ix y (sN σ 4 i) with
    | none => rfl
    | some j => rfl
theorem M.isJoint (m : M g B mu σ h) (c : zCnt σ) {x y : Int32} {K : Int32 → AH → Prop} : f_X12_isJoint g (some (B + 119)) x y h K = (match ix x (sN σ 0 0) with | none => K 0 h | some i => match ix y (sN σ 4 i - 1) with | none => K 0 h | some _ => K 1 h) := by
  have c1 := c.1
  simp only [f_X12_isJoint, m.cO, m.isLine c, okZ_0, okZ_1, if_true, e10, if_false]
  cases e : ix x (sN σ 0 0) with
  | none => rfl
  | some i =>
    obtain ⟨hi, rfl⟩ := ix_some (by omega) e
    have c2 := c.2.2.2.2 i
    simp only [m.a192, m.cs0, m.gL c hi, m.cL hi, m.a146 hi, m.csJ hi, m.sJ c hi, f_in]
    rw [in_ix (by omega)]
    cases ix y (sN σ 4 i - 1) with
    | none => rfl
    | some j => rfl
theorem M.part (m : M g B mu σ h) (c : zCnt σ) {i j : Nat} (hi : i < sN σ 0 0) (hj : j < sN σ 4 i) {K : Option Nat → AH → Prop} : f_X12_part g (some (B + 119)) (nI i) (nI j) h K = K (some (mu 1 i j)) h := by
  simp only [f_X12_part, m.a192, m.cs0, m.gL c hi, m.cL hi, m.a145 hi, m.csP hi, m.gP c hi hj, m.cP hi hj]
theorem M.at (m : M g B mu σ h) (c : zCnt σ) {i j : Nat} (hi : i < sN σ 0 0) (hj : j < sN σ 4 i - 1) {K : Option Nat → AH → Prop} : f_X12_at g (some (B + 119)) (nI i) (nI j) h K = K (some (mu 2 i j)) h := by
  simp only [f_X12_at, m.a192, m.cs0, m.gL c hi, m.cL hi, m.a146 hi, m.csJ hi, m.gJ c hi hj, m.cJ hi hj]
end MQ
theorem and1 (x : Int32) : x &&& 1 = 0 ∨ x &&& 1 = 1 := by
  have e : x.toBitVec &&& 1#32 = 0#32 ∨ x.toBitVec &&& 1#32 = 1#32 := by
    rw [BitVec.and_one_eq_setWidth_ofBool_getLsbD]
    cases x.toBitVec.getLsbD 0
    · exact Or.inl (by decide)
    · exact Or.inr (by decide)
  rcases e with e | e
  · exact Or.inl (Int32.toBitVec_inj.mp (by rw [Int32.toBitVec_and]; exact e))
  · exact Or.inr (Int32.toBitVec_inj.mp (by rw [Int32.toBitVec_and]; exact e))
theorem and1_hb {b l : Int32} : (((b >>> (l &&& 31)) &&& 1) = 1) = (hb b l = true) := by
  unfold hb
  rcases and1 (b >>> (l &&& 31)) with e | e
  · rw [e]; simp
  · rw [e]; simp
theorem and0_hb {b l : Int32} : (((b >>> (l &&& 31)) &&& 1) = 0) = (hb b l = false) := by
  unfold hb
  simp
theorem M.isOf {g : Nat → Nat} {B : Nat} {mu : zM} {σ : zS} {h : AH} (m : M g B mu σ h) (c : zCnt σ) {i : Nat} (hi : i < sN σ 3 0) {l : Int32} {K : Int32 → AH → Prop} : f_X12_isOf g (some (B + 119)) (nI i) l h K = K (if hb (sV σ 17 i 0) l then 1 else 0) h := by
  simp only [f_X12_isOf, m.a195, m.cs3, m.gC c hi, m.cC hi, f_J6_intValue_8abf5, m.r336 hi, and1_hb, okZ_0, okZ_1]
  cases hb (sV σ 17 i 0) l <;> simp
