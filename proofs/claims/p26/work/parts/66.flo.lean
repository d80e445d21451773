/-! floats: the law's ratio -/
theorem fl_ok {a b : Int32} (h : ¬ b = 0) : vf_n32 (FP.fdiv (FP.i2f a) (FP.i2f b)) := by
  have e := FP.Core.fdiv_out (a := FP.Core.i2f a) (b := FP.Core.i2f b) (by
    have := FP.Core.i2f_mag a
    cases hx : FP.Core.fIsNaN (FP.Core.i2f a) with
    | false => rfl
    | true => rw [FP.Core.isNaN_bits32] at hx; omega) (FP.Core.i2f_fin b) (fun hz => FP.Core.i2f_ne_zero h ((FP.Core.zero_bits232 _).mp hz))
  show FP.Core.fdiv (FP.Core.i2f a) (FP.Core.i2f b) &&& 0x7fffffff ≤ 0x7f800000
  have e2 : ¬ (2139095040 < (FP.Core.fdiv (FP.Core.i2f a) (FP.Core.i2f b)).toNat % 2 ^ 31) := fun hh => by
    rw [(FP.Core.isNaN_bits32 _).mpr hh] at e; exact absurd e (by decide)
  rw [UInt32.le_iff_toNat_le, UInt32.toNat_and]
  have : (0x7fffffff : UInt32).toNat = 2 ^ 31 - 1 := rfl
  rw [this, Nat.and_two_pow_sub_one_eq_mod]
  have : (0x7f800000 : UInt32).toNat = 2139095040 := rfl
  omega
/-- a float that is a number, as a double -/
theorem n32_no {v : UInt32} (h : vf_n32 v) : FP.Core.fIsNaN v = false := by
  cases hx : FP.Core.fIsNaN v with
  | false => rfl
  | true =>
    rw [FP.Core.isNaN_bits32] at hx
    unfold vf_n32 at h
    rw [UInt32.le_iff_toNat_le, UInt32.toNat_and] at h
    have e1 : (0x7fffffff : UInt32).toNat = 2 ^ 31 - 1 := rfl
    have e2 : (0x7f800000 : UInt32).toNat = 2139095040 := rfl
    rw [e1, Nat.and_two_pow_sub_one_eq_mod, e2] at h
    omega
theorem fcmp_own {v : UInt32} (h : vf_n32 v) : (Op.cmpValue (FP.fcmp v v) CmpOp.l) = 0 := by
  have e : FP.fcmp v v = some .eq := FP.Core.fcmp_refl (n32_no h)
  rw [e]; rfl
