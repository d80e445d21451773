/-! PURE: a run of touches, its guards -/
def RunOk (x y u : Int32) : Prop := (-63 ≤ y.toInt ∧ y.toInt ≤ 63) ∧ (1 ≤ u.toInt ∧ u.toInt ≤ 64) ∧ (0 ≤ x.toInt ∧ x.toInt < 64) ∧ 0 ≤ x.toInt + y.toInt * (u.toInt - 1) ∧ x.toInt + y.toInt * (u.toInt - 1) < 64
theorem prod_b {d i : Int} (h1 : -63 ≤ d) (h2 : d ≤ 63) (h3 : 0 ≤ i) (h4 : i ≤ 63) : -3969 ≤ d * i ∧ d * i ≤ 3969 := by
  have a := Int.mul_le_mul_of_nonneg_right h1 h3
  have b := Int.mul_le_mul_of_nonneg_right h2 h3
  omega
theorem run_L {x y u : Int32} (h1 : -63 ≤ y.toInt ∧ y.toInt ≤ 63) (h2 : 1 ≤ u.toInt ∧ u.toInt ≤ 64) (h3 : 0 ≤ x.toInt ∧ x.toInt < 64) : (x.toInt64 + (u.toInt64 - 1) * y.toInt64).toInt = x.toInt + y.toInt * (u.toInt - 1) := by
  have e : x.toInt64 + (u.toInt64 - 1) * y.toInt64 = Int64.ofInt (x.toInt + (u.toInt - 1) * y.toInt) := by
    rw [Int64.ofInt_add, Int64.ofInt_mul, Int64.ofInt_sub, Int64.ofInt_int32ToInt, Int64.ofInt_int32ToInt, Int64.ofInt_int32ToInt]; rfl
  have b := prod_b h1.1 h1.2 (i := u.toInt - 1) (by omega) (by omega)
  rw [e, Int.mul_comm (u.toInt - 1) y.toInt, Int64.toInt_ofInt_of_le (by omega) (by omega)]
theorem n63 {y : Int32} : y < -63 ↔ y.toInt < -63 := by rw [Int32.lt_iff_toInt_lt]; exact Iff.rfl
theorem p63 {y : Int32} : 63 < y ↔ 63 < y.toInt := by rw [Int32.lt_iff_toInt_lt]; exact Iff.rfl
theorem run_ok {x y u : Int32} (h : RunOk x y u) : ∃ f k, x = nI f ∧ u = nI k ∧ f < 64 ∧ 1 ≤ k ∧ k ≤ 64 ∧ (∀ i, i < k → 0 ≤ (f : Int) + y.toInt * i ∧ (f : Int) + y.toInt * i < 64) ∧ nI f + y * (nI k - 1) = nI (pgAt f y (k - 1)) ∧ pgAt f y (k - 1) < 64 := by
  obtain ⟨h1, h2, h3, h4⟩ := h
  have ex : x = nI x.toInt.toNat := Int32.toInt_inj.mp (by rw [nI_toInt (by omega)]; omega)
  have eu : u = nI u.toInt.toNat := Int32.toInt_inj.mp (by rw [nI_toInt (by omega)]; omega)
  have l : (((u.toInt.toNat - 1 : Nat)) : Int) = u.toInt - 1 := by omega
  have ef : ((x.toInt.toNat : Nat) : Int) = x.toInt := by omega
  have ins : ∀ i, i < u.toInt.toNat → 0 ≤ ((x.toInt.toNat : Nat) : Int) + y.toInt * i ∧ ((x.toInt.toNat : Nat) : Int) + y.toInt * i < 64 := fun i hi => run_in (k := u.toInt.toNat - 1) (by omega) (by omega) (by omega) (by rw [l, ef]; exact h4.1) (by rw [l, ef]; exact h4.2)
  have hl := ins (u.toInt.toNat - 1) (by omega)
  refine ⟨_, _, ex, eu, by omega, by omega, by omega, ins, ?_, ?_⟩
  · rw [show (1 : Int32) = nI 1 from rfl, nI_sub (by omega)]
    exact run_pg hl.1
  · unfold pgAt; omega
/-- which pages are asked when the step and the count are in range -/
theorem kx_run {x y u : Int32} (h : ¬ RunOk x y u) (h1 : -63 ≤ y.toInt ∧ y.toInt ≤ 63) (h2 : 1 ≤ u.toInt ∧ u.toInt ≤ 64) {A : Prop} : wX_X9_checkPage x "java/lang/IllegalArgumentException" ∨ wR_X9_checkPage x ((wX_X9_checkPage (x + (y * (u - 1))) "java/lang/IllegalArgumentException") ∨ A) := by
  rcases pg_cases x with ⟨p, hp, rfl⟩ | hx
  · refine Or.inr (k_ckPage hp ?_)
    rcases pg_cases (nI p + y * (u - 1)) with ⟨q, hq, hx⟩ | hx
    · exfalso
      apply h
      have e0 : (nI p).toInt = (p : Int) := nI_toInt (by omega)
      have b := prod_b h1.1 h1.2 (i := u.toInt - 1) (by omega) (by omega)
      have e : nI p + y * (u - 1) = Int32.ofInt ((p : Int) + y.toInt * (u.toInt - 1)) := by
        rw [Int32.ofInt_add, Int32.ofInt_mul, Int32.ofInt_sub, Int32.ofInt_toInt, Int32.ofInt_toInt, Int32.ofInt_eq_ofNat]; rfl
      have e2 : (p : Int) + y.toInt * (u.toInt - 1) = (q : Int) := by
        have := congrArg Int32.toInt (e.symm.trans hx)
        rw [Int32.toInt_ofInt_of_le (by omega) (by omega), nI_toInt (by omega)] at this
        exact this
      refine ⟨h1, h2, ?_, ?_⟩
      · rw [e0]; omega
      · rw [e0]; omega
    · exact Or.inl (kx_ckPage hx)
  · exact Or.inl (kx_ckPage hx)
