/-! shares and means are numbers -/
theorem vf64_no (x : UInt64) : vf_n64 x ↔ FP.Core.dIsNaN x = false := by
  unfold vf_n64
  rw [UInt64.le_iff_toNat_le, UInt64.toNat_and]
  have h1 : (0x7fffffffffffffff : UInt64).toNat = 2 ^ 63 - 1 := by decide
  have h2 : (0x7ff0000000000000 : UInt64).toNat = 9218868437227405312 := by decide
  rw [h1, h2, Nat.and_two_pow_sub_one_eq_mod, ← Bool.not_eq_true, FP.Core.isNaN_bits]
  omega
theorem vf32_no (x : UInt32) : vf_n32 x ↔ FP.Core.fIsNaN x = false := by
  unfold vf_n32
  rw [UInt32.le_iff_toNat_le, UInt32.toNat_and]
  have h1 : (0x7fffffff : UInt32).toNat = 2 ^ 31 - 1 := by decide
  have h2 : (0x7f800000 : UInt32).toNat = 2139095040 := by decide
  rw [h1, h2, Nat.and_two_pow_sub_one_eq_mod, ← Bool.not_eq_true, FP.Core.isNaN_bits32]
  omega
theorem mean_ok {t n : Int32} (h : ¬ n = 0) : vf_n64 (FP.ddiv (FP.i2d t) (FP.i2d n)) := by
  refine (vf64_no _).mpr (FP.Core.ddiv_out ?_ (FP.Core.i2d_fin n) ?_)
  · have z := (FP.Core.fin_bits (FP.i2d t)).mp (FP.Core.i2d_fin t)
    rw [← Bool.not_eq_true, FP.Core.isNaN_bits]
    omega
  · rw [FP.Core.zero_bits2]
    exact FP.Core.i2d_ne_zero h
theorem share_ok {t n : Int32} (h : ¬ n = 0) : vf_n32 (FP.fdiv (FP.i2f t) (FP.i2f n)) := by
  refine (vf32_no _).mpr (FP.Core.fdiv_out ?_ (FP.Core.i2f_fin n) ?_)
  · have z := (FP.Core.fin_bits32 (FP.i2f t)).mp (FP.Core.i2f_fin t)
    rw [← Bool.not_eq_true, FP.Core.isNaN_bits32]
    omega
  · rw [FP.Core.zero_bits232]
    exact FP.Core.i2f_ne_zero h
theorem wide_ok {v : UInt32} (h : vf_n32 v) : vf_n64 (FP.f2d v) := by
  rw [vf64_no]
  exact (FP.f2d_nan v).trans ((vf32_no v).mp h)
theorem cmp_self {x : UInt64} (h : vf_n64 x) : Op.cmpValue (FP.dcmp x x) .l = 0 := by
  have z : FP.Core.val64 x ≠ .nan := fun e => by
    have := (FP.Core.dIsNaN_iff x).mpr e
    rw [(vf64_no x).mp h] at this
    cases this
  rw [show FP.dcmp x x = some .eq from FP.Core.dcmp_self z]
  rfl
theorem lg_self (x : Int64) : lg_cmp x x = 0 := by
  unfold lg_cmp
  rw [if_neg (by exact Int64.lt_irrefl), if_pos rfl]
