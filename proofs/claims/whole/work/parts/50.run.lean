/-! PURE: a run of touches, its guards -/
def RunOk (x y u : Int32) : Prop := (-63 ≤ y.toInt ∧ y.toInt ≤ 63) ∧ (1 ≤ u.toInt ∧ u.toInt ≤ 64) ∧ (0 ≤ x.toInt ∧ x.toInt < 64) ∧ 0 ≤ x.toInt + y.toInt * (u.toInt - 1) ∧ x.toInt + y.toInt * (u.toInt - 1) < 64
theorem prod_b {d i : Int} (h1 : -63 ≤ d) (h2 : d ≤ 63) (h3 : 0 ≤ i) (h4 : i ≤ 63) : -3969 ≤ d * i ∧ d * i ≤ 3969 := by
  have a := Int.mul_le_mul_of_nonneg_right h1 h3
  have b := Int.mul_le_mul_of_nonneg_right h2 h3
  omega
theorem m_inG {X A B : Int64} {Q : Int32 → Prop} (h1 : A.toInt ≤ X.toInt ∧ X.toInt ≤ B.toInt → Q 1) (h0 : ¬ (A.toInt ≤ X.toInt ∧ X.toInt ≤ B.toInt) → Q 0) : wR_X10_in X A B Q := by
  unfold wR_X10_in
  rw [lg_cmp_lt, lg_cmp_gt, Int64.lt_iff_toInt_lt, Int64.lt_iff_toInt_lt]
  exact ⟨fun c => ⟨Or.inl rfl, h0 (by omega)⟩, fun c => ⟨fun c2 => ⟨Or.inl rfl, h0 (by omega)⟩, fun c2 => ⟨Or.inr rfl, h1 (by omega)⟩⟩⟩
theorem run_L {x y u : Int32} (h1 : -63 ≤ y.toInt ∧ y.toInt ≤ 63) (h2 : 1 ≤ u.toInt ∧ u.toInt ≤ 64) (h3 : 0 ≤ x.toInt ∧ x.toInt < 64) : (x.toInt64 + (u.toInt64 - 1) * y.toInt64).toInt = x.toInt + y.toInt * (u.toInt - 1) := by
  have e : x.toInt64 + (u.toInt64 - 1) * y.toInt64 = Int64.ofInt (x.toInt + (u.toInt - 1) * y.toInt) := by
    rw [Int64.ofInt_add, Int64.ofInt_mul, Int64.ofInt_sub, Int64.ofInt_int32ToInt, Int64.ofInt_int32ToInt, Int64.ofInt_int32ToInt]; rfl
  have b := prod_b h1.1 h1.2 (i := u.toInt - 1) (by omega) (by omega)
  rw [e, Int.mul_comm (u.toInt - 1) y.toInt, Int64.toInt_ofInt_of_le (by omega) (by omega)]
theorem m_isRun {x y u : Int32} {Q : Int32 → Prop} (h1 : RunOk x y u → Q 1) (h0 : ¬ RunOk x y u → Q 0) : wR_X10_isRun x y u Q := by
  have bad : ¬ RunOk x y u → wR_X10_isRun_57 x y u Q := fun hn => ⟨Or.inl rfl, h0 hn⟩
  have c1 : (-63 : Int64).toInt = -63 := by decide
  have c2 : (63 : Int64).toInt = 63 := by decide
  have c3 : (1 : Int64).toInt = 1 := by decide
  have c4 : (64 : Int64).toInt = 64 := by decide
  have c5 : (0 : Int64).toInt = 0 := by decide
  refine m_inG (fun g1 => iq (by decide) (m_inG (fun g2 => iq (by decide) ?_) (fun g2 => ip rfl (bad (fun hv => ?_))))) (fun g1 => ip rfl (bad (fun hv => ?_)))
  · rw [Int32.toInt_toInt64, c1, c2] at g1
    rw [Int32.toInt_toInt64, c3, c4] at g2
    rcases pg_cases x with ⟨p, hp, rfl⟩ | hx
    · have g3 : 0 ≤ (nI p).toInt ∧ (nI p).toInt < 64 := by rw [nI_toInt (by omega)]; omega
      have e := run_L g1 g2 g3
      refine m_isPage hp (iq (by decide) (m_inG (fun g4 => iq (by decide) ⟨Or.inr rfl, h1 ⟨g1, g2, g3, ?_⟩⟩) (fun g4 => ip rfl (bad (fun hv => g4 ?_)))))
      · rw [e, c5, c2] at g4; omega
      · rw [e, c5, c2]; have := hv.2.2.2; omega
    · refine m_notPg hx (ip rfl (bad (fun hv => ?_)))
      have := notPg_int hx
      have := hv.2.2.1
      omega
  · rw [Int32.toInt_toInt64, c3, c4] at g2; exact g2 hv.2.1
  · rw [Int32.toInt_toInt64, c1, c2] at g1; exact g1 hv.1
theorem n63 {y : Int32} : y < -63 ↔ y.toInt < -63 := by rw [Int32.lt_iff_toInt_lt]; exact Iff.rfl
theorem p63 {y : Int32} : 63 < y ↔ 63 < y.toInt := by rw [Int32.lt_iff_toInt_lt]; exact Iff.rfl
theorem run_ok {x y u : Int32} (h : RunOk x y u) : ∃ f k, x = nI f ∧ u = nI k ∧ f < 64 ∧ 1 ≤ k ∧ k ≤ 64 ∧ (∀ i, i < k → 0 ≤ (f : Int) + y.toInt * i ∧ (f : Int) + y.toInt * i < 64) ∧ nI f + y * (nI k - 1) = nI (pgAt f y (k - 1)) ∧ pgAt f y (k - 1) < 64 := by
  obtain ⟨h1, h2, h3, h4⟩ := h
  have ex : x = nI x.toInt.toNat := Int32.toInt_inj.mp (by rw [nI_toInt (by omega)]; omega)
  have eu : u = nI u.toInt.toNat := Int32.toInt_inj.mp (by rw [nI_toInt (by omega)]; omega)
  have l : (((u.toInt.toNat - 1 : Nat)) : Int) = u.toInt - 1 := by omega
  have ef : ((x.toInt.toNat : Nat) : Int) = x.toInt := by omega
  have ins : ∀ i, i < u.toInt.toNat → 0 ≤ ((x.toInt.toNat : Nat) : Int) + y.toInt * i ∧ ((x.toInt.toNat : Nat) : Int) + y.toInt * i < 64 := fun i hi => run_in (k := u.toInt.toNat - 1) (by omega) (by omega) (by omega) (by rw [l, ef]; exact h4.1) (by rw [l, ef]; exact h4.2)
  have hl := ins (u.toInt.toNat - 1) (by omega)
  refine ⟨_, _, ex, eu, by omega, by omega, by omega, ins, ?_, ?_⟩
  · rw [show (1 : Int32) = nI 1 from rfl, nI_sub (by omega)]
    exact run_pg hl.1
  · unfold pgAt; omega
/-- which pages are asked when the step and the count are in range -/
theorem kx_run {x y u : Int32} (h : ¬ RunOk x y u) (h1 : -63 ≤ y.toInt ∧ y.toInt ≤ 63) (h2 : 1 ≤ u.toInt ∧ u.toInt ≤ 64) {A : Prop} : wX_X9_checkPage x "java/lang/IllegalArgumentException" ∨ wR_X9_checkPage x ((wX_X9_checkPage (x + (y * (u - 1))) "java/lang/IllegalArgumentException") ∨ A) := by
  rcases pg_cases x with ⟨p, hp, rfl⟩ | hx
  · refine Or.inr (k_ckPage hp ?_)
    rcases pg_cases (nI p + y * (u - 1)) with ⟨q, hq, hx⟩ | hx
    · exfalso
      apply h
      have e0 : (nI p).toInt = (p : Int) := nI_toInt (by omega)
      have b := prod_b h1.1 h1.2 (i := u.toInt - 1) (by omega) (by omega)
      have e : nI p + y * (u - 1) = Int32.ofInt ((p : Int) + y.toInt * (u.toInt - 1)) := by
        rw [Int32.ofInt_add, Int32.ofInt_mul, Int32.ofInt_sub, Int32.ofInt_toInt, Int32.ofInt_toInt, Int32.ofInt_eq_ofNat]; rfl
      have e2 : (p : Int) + y.toInt * (u.toInt - 1) = (q : Int) := by
        have := congrArg Int32.toInt (e.symm.trans hx)
        rw [Int32.toInt_ofInt_of_le (by omega) (by omega), nI_toInt (by omega)] at this
        exact this
      refine ⟨h1, h2, ?_, ?_⟩
      · rw [e0]; omega
      · rw [e0]; omega
    · exact Or.inl (kx_ckPage hx)
  · exact Or.inl (kx_ckPage hx)
theorem q_run {m w : Nat} {z : ASt} {r1 r2 r3 : Int32} {r4 r5 r6 r7 : Nat → Int32} {c1 c2 c3 : Int32} {c4 c5 : Nat → Int32} {a1 a2 a3 : Int32} {a4 : Nat → Int32} {a5 : Int32} {a6 : Nat → Int32} {a7 : Int32} {a8 : Nat → Int32} {a9 : Int32} {a10 : Nat → Int32} {s1 s2 s3 s4 s5 s6 s7 s8 : Int32} {s9 s10 : Nat → Int32} {h1 h2 : Int32} {h3 h4 h5 h6 : Nat → Int32} {nn sp pm um ev hd tg : Int32} {tf fm rc sd ia ea di dm pf bf ls ss : Nat → Int32} (hi : AInvZ m w z) (hc : SeeZ m w z r1 r2 r3 r4 r5 r6 r7 c1 c2 c3 c4 c5 a1 a2 a3 a4 a5 a6 a7 a8 a9 a10 s1 s2 s3 s4 s5 s6 s7 s8 s9 s10 h1 h2 h3 h4 h5 h6) (hm : TchZ m z nn sp pm um ev hd tg tf fm rc sd ia ea di dm pf bf ls ss) (x y u : Int32) : ∃ (code v : Int32) (z' : ASt), AInvZ m w z' ∧ (∀ o (Q : Int32 → Int32 → Int32 → Int32 → (Nat → Int32) → (Nat → Int32) → (Nat → Int32) → (Nat → Int32) → Int32 → Int32 → Int32 → (Nat → Int32) → (Nat → Int32) → Int32 → Int32 → Int32 → (Nat → Int32) → Int32 → (Nat → Int32) → Int32 → (Nat → Int32) → Int32 → (Nat → Int32) → Int32 → Int32 → Int32 → Int32 → Int32 → Int32 → Int32 → Int32 → (Nat → Int32) → (Nat → Int32) → Int32 → Int32 → (Nat → Int32) → (Nat → Int32) → (Nat → Int32) → (Nat → Int32) → (Nat → Int64) → Prop), (∀ r1 r2 r3 r4 r5 r6 r7 c1 c2 c3 c4 c5 a1 a2 a3 a4 a5 a6 a7 a8 a9 a10 s1 s2 s3 s4 s5 s6 s7 s8 s9 s10 h1 h2 h3 h4 h5 h6 o', SeeZ m w z' r1 r2 r3 r4 r5 r6 r7 c1 c2 c3 c4 c5 a1 a2 a3 a4 a5 a6 a7 a8 a9 a10 s1 s2 s3 s4 s5 s6 s7 s8 s9 s10 h1 h2 h3 h4 h5 h6 → (code = 0 → o' 0 = v.toInt64) → Q code r1 r2 r3 r4 r5 r6 r7 c1 c2 c3 c4 c5 a1 a2 a3 a4 a5 a6 a7 a8 a9 a10 s1 s2 s3 s4 s5 s6 s7 s8 s9 s10 h1 h2 h3 h4 h5 h6 o') → wR_L_touchRun (nI m) (nI m) (nI m) (nI m) (nI w) x y u r1 r2 r3 r4 r5 r6 r7 c1 c2 c3 c4 c5 a1 a2 a3 a4 a5 a6 a7 a8 a9 a10 s1 s2 s3 s4 s5 s6 s7 s8 s9 s10 h1 h2 h3 h4 h5 h6 o Q) ∧ (∀ th (Q : Int32 → Int32 → Int32 → Int32 → Int32 → Int32 → Int32 → Int32 → Int32 → (Nat → Int32) → (Nat → Int32) → (Nat → Int32) → (Nat → Int32) → (Nat → Int32) → (Nat → Int32) → (Nat → Int32) → (Nat → Int32) → (Nat → Int32) → (Nat → Int32) → (Nat → Int32) → (Nat → Int32) → Prop), (∀ v' nn sp pm um ev hd tg tf fm rc sd ia ea di dm pf bf ls ss, TchZ m z' nn sp pm um ev hd tg tf fm rc sd ia ea di dm pf bf ls ss → (code = 0 → v' = v) → Q v' code nn sp pm um ev hd tg tf fm rc sd ia ea di dm pf bf ls ss) → wR_X10_touchRun (nI m) x y u th nn sp pm um ev hd tg tf fm rc sd ia ea di dm pf bf ls ss Q) := by
  have n400 := hi.2.2.2.2.1
  have m16 := hi.2.1
  have hh1 : h1 = nI z.1 := hc.2.2.2.2.1
  have hnn : nn = nI z.1 := hm.1
  by_cases hv : RunOk x y u
  · obtain ⟨f, k, rfl, rfl, hf, hk1, hk, hpg, hl, hl2⟩ := run_ok hv
    have g1 : ¬ y < -63 := fun hh => by have := n63.mp hh; have := hv.1; omega
    have g2 : ¬ 63 < y := fun hh => by have := p63.mp hh; have := hv.1; omega
    have g3 : ¬ nI k < 1 := nI_nlt (b := 1) hk1 (by omega)
    have g4 : nI k ≤ 64 := nI_le (b := 64) hk (by omega)
    by_cases full : z.1 + k ≤ 400
    · have hpg' : ∀ i, i < k → pgAt f y i < 64 := fun i hi => by have := hpg i hi; unfold pgAt; omega
      refine ⟨0, nI (aRun m (pgAt f y) z k).2.2.1.2.2.2.2.2 - nI z.2.2.1.2.2.2.2.2, aRun m (pgAt f y) z k, aRun_inv hi full hpg' k (Nat.le_refl k), fun o Q h => Or.inr (Or.inr (iq g1 (iq g2 (iq g3 (ip g4 (k_ckPage hf ?_)))))), fun th Q h => m_isRun (fun _ => jp (by decide) ?_) (fun hn => absurd hv hn)⟩
      · rw [hl]
        refine k_ckPage hl2 ?_
        have := ck_room (n := z.1) (k := k) n400 hk full (c_run hi full hpg hc (Q := fun v r1 r2 r3 r4 r5 r6 r7 c1 c2 c3 c4 c5 a1 a2 a3 a4 a5 a6 a7 a8 a9 a10 s1 s2 s3 s4 s5 s6 s7 s8 s9 s10 h1 h2 h3 h4 h5 h6 => vp_in (0 : Int32) 1 ∧ Q 0 r1 r2 r3 r4 r5 r6 r7 c1 c2 c3 c4 c5 a1 a2 a3 a4 a5 a6 a7 a8 a9 a10 s1 s2 s3 s4 s5 s6 s7 s8 s9 s10 h1 h2 h3 h4 h5 h6 (vp_updL o (0 : Int32).toNatClampNeg v.toInt64)) (fun _ _ _ _ _ _ _ _ _ _ _ _ _ _ _ _ _ _ _ _ _ _ _ _ _ _ _ _ _ _ _ _ _ _ _ _ _ _ hc => ⟨vp00, h _ _ _ _ _ _ _ _ _ _ _ _ _ _ _ _ _ _ _ _ _ _ _ _ _ _ _ _ _ _ _ _ _ _ _ _ _ _ _ hc (fun _ => outv)⟩))
        rw [← hh1] at this
        exact this
      · rw [hnn, nI_add]
        rw [hnn] at hm
        exact ip (nI_le (b := 400) full (by omega)) (gw0 (jp (by decide) ⟨vp_in_nI (n := 0) (by omega) (by omega), m_run hi full hpg hm (fun _ _ _ _ _ _ _ _ _ _ _ _ _ _ _ _ _ _ _ hm => h _ _ _ _ _ _ _ _ _ _ _ _ _ _ _ _ _ _ _ _ hm (fun _ => rfl))⟩))
    · refine ⟨2, 0, z, hi, fun o Q h => Or.inr (Or.inl ⟨iq g1 (iq g2 (iq g3 (ip g4 (Or.inr (k_ckPage hf ?_))))), h _ _ _ _ _ _ _ _ _ _ _ _ _ _ _ _ _ _ _ _ _ _ _ _ _ _ _ _ _ _ _ _ _ _ _ _ _ _ o hc (fun e => absurd e n20)⟩), fun th Q h => m_isRun (fun _ => jp (by decide) ?_) (fun hn => absurd hv hn)⟩
      · rw [hl]
        refine Or.inr (k_ckPage hl2 ?_)
        rw [hh1]; exact ckx_room n400 hk full
      · rw [hnn, nI_add]
        rw [hnn] at hm
        exact iq (fun hh => by have := (nI_leI (b := 400) (by omega) (by omega)).mp hh; omega) (gwE n20 (jq rfl (h _ _ _ _ _ _ _ _ _ _ _ _ _ _ _ _ _ _ _ _ hm (fun e => absurd e n20))))
  · refine ⟨1, 0, z, hi, fun o Q h => Or.inl ⟨⟨fun _ => rfl, fun g1 => ⟨fun _ => rfl, fun g2 => ⟨fun _ => rfl, fun g3 => ⟨fun g4 => ?_, fun _ => rfl⟩⟩⟩⟩, h _ _ _ _ _ _ _ _ _ _ _ _ _ _ _ _ _ _ _ _ _ _ _ _ _ _ _ _ _ _ _ _ _ _ _ _ _ _ o hc (fun e => absurd e n10)⟩, fun th Q h => m_isRun (fun hn => absurd hn hv) (fun _ => jq rfl (gwE n10 (jq rfl (h _ _ _ _ _ _ _ _ _ _ _ _ _ _ _ _ _ _ _ _ hm (fun e => absurd e n10)))))⟩
    rw [n63] at g1
    rw [p63] at g2
    rw [show (1 : Int32) = nI 1 from rfl, lt_int (by omega)] at g3
    rw [show (64 : Int32) = nI 64 from rfl, le_int (by omega)] at g4
    exact kx_run hv (by omega) (by omega)
