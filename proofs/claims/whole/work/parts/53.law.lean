/-! PURE: the law's loop -/
theorem law_step {L : Nat} {xs : Nat → Int32} {I : Int32 → Int32 → Int32 → Int32 → Int32 → Int32 → (Nat → Int32) → (Nat → Int32) → (Nat → Int32) → (Nat → Int32) → Int32 → Int32 → Int32 → Int32 → (Nat → Int32) → (Nat → Int32) → Int32 → Int32 → Int32 → Int32 → (Nat → Int32) → Int32 → (Nat → Int32) → Int32 → (Nat → Int32) → Int32 → (Nat → Int32) → Int32 → Int32 → Int32 → Int32 → Int32 → Int32 → Int32 → Int32 → Int32 → (Nat → Int32) → (Nat → Int32) → Int32 → Int32 → Int32 → (Nat → Int32) → (Nat → Int32) → (Nat → Int32) → (Nat → Int32) → (Nat → Int32) → (Nat → Int32) → (Nat → Int32) → Int32 → Int32 → Int32 → Int32 → Int32 → Int32 → Int32 → Int32 → Int32 → Int32 → (Nat → Int32) → (Nat → Int32) → (Nat → Int32) → (Nat → Int32) → (Nat → Int32) → (Nat → Int32) → (Nat → Int32) → (Nat → Int32) → (Nat → Int32) → (Nat → Int32) → (Nat → Int32) → (Nat → Int32) → (Nat → Int32) → (Nat → Int64) → (Nat → UInt64) → Prop} {x5 : Int32} {fr r0 r1 r2 r3 : Int32} {r4 r5 r6 r7 : Nat → Int32} {c0 c1 c2 c3 : Int32} {c4 c5 : Nat → Int32} {a0 a1 a2 a3 : Int32} {a4 : Nat → Int32} {a5 : Int32} {a6 : Nat → Int32} {a7 : Int32} {a8 : Nat → Int32} {a9 : Int32} {a10 : Nat → Int32} {s0 s1 s2 s3 s4 s5 s6 s7 s8 : Int32} {s9 s10 : Nat → Int32} {h0 h1 h2 : Int32} {h3 h4 h5 h6 b1 b2 b3 : Nat → Int32} {th mm ww nn sp pm um ev hd tg : Int32} {tf fm rc sd ia ea di dm pf bf ls ss ti : Nat → Int32} {o : Nat → Int64} {od : Nat → UInt64} {m w : Nat} {z : ASt} (hx : ¬ (Int32.ofNat L - 4) < x5 → NextI I (x5 + 4) ∧ vp_in x5 L ∧ vp_in (x5 + 1) L ∧ vp_in (x5 + 2) L ∧ vp_in (x5 + 3) L) (hi : AInvZ m w z) (hc : RelC m w z fr r0 r1 r2 r3 r4 r5 r6 r7 c0 c1 c2 c3 c4 c5 a0 a1 a2 a3 a4 a5 a6 a7 a8 a9 a10 s0 s1 s2 s3 s4 s5 s6 s7 s8 s9 s10 h0 h1 h2 h3 h4 h5 h6) (hm : RelM m w z mm ww nn sp pm um ev hd tg tf fm rc sd ia ea di dm pf bf ls ss) : wR_L_law_28B L xs I x5 fr r0 r1 r2 r3 r4 r5 r6 r7 c0 c1 c2 c3 c4 c5 a0 a1 a2 a3 a4 a5 a6 a7 a8 a9 a10 s0 s1 s2 s3 s4 s5 s6 s7 s8 s9 s10 h0 h1 h2 h3 h4 h5 h6 b1 b2 b3 th mm ww nn sp pm um ev hd tg tf fm rc sd ia ea di dm pf bf ls ss ti o od := by
  refine ⟨fun _ => trivial, fun hge => ?_⟩
  obtain ⟨N, v0, v1, v2, v3⟩ := hx hge
  exact ⟨v0, fun _ => L_152 N v1 v2 v3 hi hc hm,
    fun _ => L_200 N v1 v2 v3 hi hc hm,
    fun _ => L_256 N v1 v2 v3 hi hc hm,
    fun _ => L_336 N v1 v2 v3 hi hc hm,
    fun _ => L_349 N v1 v2 v3 hi hc hm,
    fun _ => L_405 N v1 v2 v3 hi hc hm,
    fun _ => L_461 N v1 v2 v3 hi hc hm,
    fun _ => L_536 N v1 v2 v3 hi hc hm,
    fun _ => L_592 N v1 v2 v3 hi hc hm,
    fun _ => L_648 N v1 v2 v3 hi hc hm,
    fun _ => L_661 N v1 v2 v3 hi hc hm,
    fun _ => L_724 N v1 v2 v3 hi hc hm,
    fun _ => L_780 N v1 v2 v3 hi hc hm,
    fun _ => L_836 N v1 v2 v3 hi hc hm,
    fun _ => L_849 N v1 v2 v3 hi hc hm,
    fun _ => L_862 N v1 v2 v3 hi hc hm,
    fun _ => L_875 N v1 v2 v3 hi hc hm,
    fun _ => L_931 N v1 v2 v3 hi hc hm,
    fun _ => L_987 N v1 v2 v3 hi hc hm,
    fun _ => L_1043 N v1 v2 v3 hi hc hm,
    fun _ => L_1109 N v1 v2 v3 hi hc hm,
    fun _ => L_1165 N v1 v2 v3 hi hc hm,
    fun _ => L_1221 N v1 v2 v3 hi hc hm,
    fun _ => N _ _ _ _ _ _ _ _ _ _ _ _ _ _ _ _ _ _ _ _ _ _ _ _ _ _ _ _ _ _ _ _ _ _ _ _ _ _ _ _ _ _ _ _ _ _ _ _ _ _ _ _ _ _ _ _ _ _ _ _ _ _ _ _ _ _ _ _ _ _ _ _ _ _ _ hi hc hm⟩
theorem law_loop {L : Nat} (hL : L ≤ 2048) {xs : Nat → Int32} {fr r0 r1 r2 r3 : Int32} {r4 r5 r6 r7 : Nat → Int32} {c0 c1 c2 c3 : Int32} {c4 c5 : Nat → Int32} {a0 a1 a2 a3 : Int32} {a4 : Nat → Int32} {a5 : Int32} {a6 : Nat → Int32} {a7 : Int32} {a8 : Nat → Int32} {a9 : Int32} {a10 : Nat → Int32} {s0 s1 s2 s3 s4 s5 s6 s7 s8 : Int32} {s9 s10 : Nat → Int32} {h0 h1 h2 : Int32} {h3 h4 h5 h6 b1 b2 b3 : Nat → Int32} {th mm ww nn sp pm um ev hd tg : Int32} {tf fm rc sd ia ea di dm pf bf ls ss ti : Nat → Int32} {o : Nat → Int64} {od : Nat → UInt64} {m w : Nat} {z : ASt} (hi : AInvZ m w z) (hc : RelC m w z fr r0 r1 r2 r3 r4 r5 r6 r7 c0 c1 c2 c3 c4 c5 a0 a1 a2 a3 a4 a5 a6 a7 a8 a9 a10 s0 s1 s2 s3 s4 s5 s6 s7 s8 s9 s10 h0 h1 h2 h3 h4 h5 h6) (hm : RelM m w z mm ww nn sp pm um ev hd tg tf fm rc sd ia ea di dm pf bf ls ss) : wR_L_law_28 L xs 513 0 fr r0 r1 r2 r3 r4 r5 r6 r7 c0 c1 c2 c3 c4 c5 a0 a1 a2 a3 a4 a5 a6 a7 a8 a9 a10 s0 s1 s2 s3 s4 s5 s6 s7 s8 s9 s10 h0 h1 h2 h3 h4 h5 h6 b1 b2 b3 th mm ww nn sp pm um ev hd tg tf fm rc sd ia ea di dm pf bf ls ss ti o od := by
  intro I hI
  have key : ∀ g j, j + g = 513 → 4 * j ≤ L → NextI (I g) (nI (4 * j)) := by
    intro g
    induction g with
    | zero => intro j h1 h2; omega
    | succ g ih =>
      intro j h1 h2 m w z fr r0 r1 r2 r3 r4 r5 r6 r7 c0 c1 c2 c3 c4 c5 a0 a1 a2 a3 a4 a5 a6 a7 a8 a9 a10 s0 s1 s2 s3 s4 s5 s6 s7 s8 s9 s10 h0 h1 h2 h3 h4 h5 h6 b1 b2 b3 th mm ww nn sp pm um ev hd tg tf fm rc sd ia ea di dm pf bf ls ss ti o od hi hc hm
      apply hI
      refine law_step (fun hge => ?_) hi hc hm
      have e4 : (Int32.ofNat L - 4).toInt = (L : Int) - 4 := pk_sub_toInt (a := L) (b := 4) (by omega) (by omega)
      have h4 : 4 * j + 4 ≤ L := by
        rw [Int32.lt_iff_toInt_lt, e4, nI_toInt (by omega)] at hge
        omega
      have f1 : nI (4 * j) + 1 = nI (4 * j + 1) := nI_add _ 1
      have f2 : nI (4 * j) + 2 = nI (4 * j + 2) := nI_add _ 2
      have f3 : nI (4 * j) + 3 = nI (4 * j + 3) := nI_add _ 3
      have f4 : nI (4 * j) + 4 = nI (4 * (j + 1)) := nI_add _ 4
      rw [f1, f2, f3, f4]
      exact ⟨ih (j + 1) (by omega) (by omega), vp_in_nI (by omega) (by omega), vp_in_nI (by omega) (by omega), vp_in_nI (by omega) (by omega), vp_in_nI (by omega) (by omega)⟩
  exact key 513 0 rfl (by omega) m w z fr r0 r1 r2 r3 r4 r5 r6 r7 c0 c1 c2 c3 c4 c5 a0 a1 a2 a3 a4 a5 a6 a7 a8 a9 a10 s0 s1 s2 s3 s4 s5 s6 s7 s8 s9 s10 h0 h1 h2 h3 h4 h5 h6 b1 b2 b3 th mm ww nn sp pm um ev hd tg tf fm rc sd ia ea di dm pf bf ls ss ti o od hi hc hm
theorem law_pure {L : Nat} (hL : L ≤ 2048) (xs : Nat → Int32) : wR_L_law L xs := by
  refine c_restart (m := 4) (w := 8) (fun _ _ _ _ _ _ _ _ _ _ _ _ _ _ _ _ _ _ _ _ _ _ _ _ _ _ _ _ _ _ _ hc => ?_)
  refine m_empty (m := 4) (by omega) (fun _ _ _ _ _ _ _ _ _ _ _ _ _ _ _ _ _ _ hm => ?_)
  exact law_loop hL (m := 4) (w := 8) (z := z0) (z0_inv (by omega) (by omega) (by omega) (by omega)) (hc _ _ _ _ _ _ _ _ _ _ _ _ _) ⟨rfl, rfl, hm _⟩
