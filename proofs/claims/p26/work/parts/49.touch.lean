/-! PURE: a touch and a run of touches -/
abbrev ASt : Type := Nat × (Nat → Nat) × ARec × AClk × AAda × AStr
abbrev AInvZ (m w : Nat) (z : ASt) : Prop := AInv m w z.1 z.2.1 z.2.2.1 z.2.2.2.1 z.2.2.2.2.1 z.2.2.2.2.2
abbrev SeeZ (m w : Nat) (z : ASt) (r1 r2 r3 : Int32) (r4 r5 r6 r7 : Nat → Int32) (c1 c2 c3 : Int32) (c4 c5 : Nat → Int32) (a1 a2 a3 : Int32) (a4 : Nat → Int32) (a5 : Int32) (a6 : Nat → Int32) (a7 : Int32) (a8 : Nat → Int32) (a9 : Int32) (a10 : Nat → Int32) (s1 s2 s3 s4 s5 s6 s7 s8 : Int32) (s9 s10 : Nat → Int32) (h1 h2 : Int32) (h3 h4 h5 h6 : Nat → Int32) : Prop := SeeC m w z.1 z.2.1 z.2.2.1 z.2.2.2.1 z.2.2.2.2.1 z.2.2.2.2.2 r1 r2 r3 r4 r5 r6 r7 c1 c2 c3 c4 c5 a1 a2 a3 a4 a5 a6 a7 a8 a9 a10 s1 s2 s3 s4 s5 s6 s7 s8 s9 s10 h1 h2 h3 h4 h5 h6
abbrev TchZ (m : Nat) (z : ASt) (nn sp pm um ev hd tg : Int32) (tf fm rc sd ia ea di dm pf bf ls ss : Nat → Int32) : Prop := TchM m z.1 z.2.1 z.2.2.1 z.2.2.2.1 z.2.2.2.2.1 z.2.2.2.2.2 nn sp pm um ev hd tg tf fm rc sd ia ea di dm pf bf ls ss
abbrev aStep (m p : Nat) (z : ASt) : ASt := (z.1 + 1, fset z.2.1 z.1 p, recStep m p z.2.2.1, clkStep m p z.2.2.2.1, adaStep m p z.2.2.2.2.1, strStep m z.1 z.2.1 p z.2.2.2.2.2)
abbrev aAns (p : Nat) (z : ASt) : Int32 := fv (recFault p z.2.2.1) (clkFault p z.2.2.2.1) (adaFault p z.2.2.2.2.1) (strFault p z.2.2.2.2.2)
def aRun (m : Nat) (pg : Nat → Nat) (z : ASt) : Nat → ASt
  | 0 => z
  | i + 1 => aStep m (pg i) (aRun m pg z i)
theorem aRun_n {m : Nat} {pg : Nat → Nat} {z : ASt} : ∀ i, (aRun m pg z i).1 = z.1 + i := by
  intro i
  induction i with
  | zero => rfl
  | succ i ih => show (aRun m pg z i).1 + 1 = _; rw [ih]; omega
theorem aRun_inv {m w k : Nat} {pg : Nat → Nat} {z : ASt} (hi : AInvZ m w z) (hk : z.1 + k ≤ 400) (hpg : ∀ i, i < k → pg i < 64) : ∀ i, i ≤ k → AInvZ m w (aRun m pg z i) := by
  intro i
  induction i with
  | zero => intro _; exact hi
  | succ i ih =>
    intro h
    have := aRun_n (m := m) (pg := pg) (z := z) i
    exact (ih (by omega)).step (by omega) (hpg i (by omega))
theorem notPg_of {x : Int32} (h : x.toInt < 0 ∨ 64 ≤ x.toInt) : notPg x := by
  rcases h with h | h
  · exact Or.inl (Int32.lt_iff_toInt_lt.mpr h)
  · exact Or.inr (Int32.le_iff_toInt_le.mpr h)
theorem ck_room {n k : Nat} (hn : n ≤ 400) (hk : k ≤ 64) (h : n + k ≤ 400) {Q : Prop} (q : Q) : wR_X9_checkRoomFor (nI n) (nI k) Q := by
  unfold wR_X9_checkRoomFor
  rw [nI_add]
  exact ip (nI_le (b := 400) h (by omega)) q
theorem ckx_room {n k : Nat} (hn : n ≤ 400) (hk : k ≤ 64) (h : ¬ n + k ≤ 400) : wX_X9_checkRoomFor (nI n) (nI k) "java/lang/IllegalStateException" := by
  unfold wX_X9_checkRoomFor
  rw [nI_add]
  exact iq (fun hc => by have := (nI_leI (b := 400) (by omega) (by omega)).mp hc; omega) rfl
theorem run_in {f d : Int} {i k : Nat} (h0 : 0 ≤ f) (h1 : f < 64) (hk : i ≤ k) (hl : 0 ≤ f + d * k) (hl2 : f + d * k < 64) : 0 ≤ f + d * i ∧ f + d * i < 64 := by
  have hik : (i : Int) ≤ (k : Int) := by omega
  have hi0 : (0 : Int) ≤ (i : Int) := by omega
  by_cases hd : 0 ≤ d
  · have a := Int.mul_le_mul_of_nonneg_left hik hd
    have b := Int.mul_nonneg hd hi0
    omega
  · have a := Int.mul_le_mul_of_nonneg_left hik (show 0 ≤ -d by omega)
    have b := Int.mul_nonneg (show 0 ≤ -d by omega) hi0
    rw [Int.neg_mul, Int.neg_mul] at a
    rw [Int.neg_mul] at b
    omega
theorem run_I (f i : Nat) (x : Int32) : nI f + x * nI i = Int32.ofInt ((f : Int) + x.toInt * i) := by
  rw [Int32.ofInt_add, Int32.ofInt_mul, Int32.ofInt_toInt, Int32.ofInt_eq_ofNat, Int32.ofInt_eq_ofNat]; rfl
theorem run_pg {f i : Nat} {x : Int32} (h : 0 ≤ (f : Int) + x.toInt * i) : nI f + x * nI i = nI ((f : Int) + x.toInt * i).toNat := by
  rw [run_I]
  have e : ((((f : Int) + x.toInt * i).toNat : Nat) : Int) = (f : Int) + x.toInt * i := by omega
  rw [← e, Int32.ofInt_eq_ofNat, e]; rfl
def pgAt (f : Nat) (x : Int32) (i : Nat) : Nat := ((f : Int) + x.toInt * i).toNat
theorem c_run {m w k f : Nat} {x : Int32} {z : ASt} {r1 r2 r3 : Int32} {r4 r5 r6 r7 : Nat → Int32} {c1 c2 c3 : Int32} {c4 c5 : Nat → Int32} {a1 a2 a3 : Int32} {a4 : Nat → Int32} {a5 : Int32} {a6 : Nat → Int32} {a7 : Int32} {a8 : Nat → Int32} {a9 : Int32} {a10 : Nat → Int32} {s1 s2 s3 s4 s5 s6 s7 s8 : Int32} {s9 s10 : Nat → Int32} {h1 h2 : Int32} {h3 h4 h5 h6 : Nat → Int32} (hi : AInvZ m w z) (hk : z.1 + k ≤ 400) (hpg : ∀ i, i < k → 0 ≤ (f : Int) + x.toInt * i ∧ (f : Int) + x.toInt * i < 64) (hc : SeeZ m w z r1 r2 r3 r4 r5 r6 r7 c1 c2 c3 c4 c5 a1 a2 a3 a4 a5 a6 a7 a8 a9 a10 s1 s2 s3 s4 s5 s6 s7 s8 s9 s10 h1 h2 h3 h4 h5 h6) {Q : Int32 → Int32 → Int32 → Int32 → (Nat → Int32) → (Nat → Int32) → (Nat → Int32) → (Nat → Int32) → Int32 → Int32 → Int32 → (Nat → Int32) → (Nat → Int32) → Int32 → Int32 → Int32 → (Nat → Int32) → Int32 → (Nat → Int32) → Int32 → (Nat → Int32) → Int32 → (Nat → Int32) → Int32 → Int32 → Int32 → Int32 → Int32 → Int32 → Int32 → Int32 → (Nat → Int32) → (Nat → Int32) → Int32 → Int32 → (Nat → Int32) → (Nat → Int32) → (Nat → Int32) → (Nat → Int32) → Prop} (h : ∀ r1 r2 r3 r4 r5 r6 r7 c1 c2 c3 c4 c5 a1 a2 a3 a4 a5 a6 a7 a8 a9 a10 s1 s2 s3 s4 s5 s6 s7 s8 s9 s10 h1 h2 h3 h4 h5 h6, SeeZ m w (aRun m (pgAt f x) z k) r1 r2 r3 r4 r5 r6 r7 c1 c2 c3 c4 c5 a1 a2 a3 a4 a5 a6 a7 a8 a9 a10 s1 s2 s3 s4 s5 s6 s7 s8 s9 s10 h1 h2 h3 h4 h5 h6 → Q (nI (aRun m (pgAt f x) z k).2.2.1.2.2.2.2.2 - nI z.2.2.1.2.2.2.2.2) r1 r2 r3 r4 r5 r6 r7 c1 c2 c3 c4 c5 a1 a2 a3 a4 a5 a6 a7 a8 a9 a10 s1 s2 s3 s4 s5 s6 s7 s8 s9 s10 h1 h2 h3 h4 h5 h6) : wR_X9_touchRun_64 (nI m) (nI m) (nI m) (nI m) (nI w) (nI f) x (nI k) Q r1 0 r1 r2 r3 r4 r5 r6 r7 c1 c2 c3 c4 c5 a1 a2 a3 a4 a5 a6 a7 a8 a9 a10 s1 s2 s3 s4 s5 s6 s7 s8 s9 s10 h1 h2 h3 h4 h5 h6 := by
  have hr1 : r1 = nI z.2.2.1.2.2.2.2.2 := hc.1.1
  rw [hr1]
  rw [hr1] at hc
  intro I hI
  have hpg' : ∀ i, i < k → pgAt f x i < 64 := fun i hi => by have := hpg i hi; unfold pgAt; omega
  have key : ∀ d i r1 r2 r3 r4 r5 r6 r7 c1 c2 c3 c4 c5 a1 a2 a3 a4 a5 a6 a7 a8 a9 a10 s1 s2 s3 s4 s5 s6 s7 s8 s9 s10 h1 h2 h3 h4 h5 h6, i + d = k → SeeZ m w (aRun m (pgAt f x) z i) r1 r2 r3 r4 r5 r6 r7 c1 c2 c3 c4 c5 a1 a2 a3 a4 a5 a6 a7 a8 a9 a10 s1 s2 s3 s4 s5 s6 s7 s8 s9 s10 h1 h2 h3 h4 h5 h6 → I (nI z.2.2.1.2.2.2.2.2) (nI i) r1 r2 r3 r4 r5 r6 r7 c1 c2 c3 c4 c5 a1 a2 a3 a4 a5 a6 a7 a8 a9 a10 s1 s2 s3 s4 s5 s6 s7 s8 s9 s10 h1 h2 h3 h4 h5 h6 := by
    intro d
    induction d with
    | zero =>
      intro i r1 r2 r3 r4 r5 r6 r7 c1 c2 c3 c4 c5 a1 a2 a3 a4 a5 a6 a7 a8 a9 a10 s1 s2 s3 s4 s5 s6 s7 s8 s9 s10 h1 h2 h3 h4 h5 h6 hd hc
      apply hI
      have e : i = k := by omega
      subst e
      have hr1 : r1 = nI (aRun m (pgAt f x) z i).2.2.1.2.2.2.2.2 := hc.1.1
      have hq := h r1 r2 r3 r4 r5 r6 r7 c1 c2 c3 c4 c5 a1 a2 a3 a4 a5 a6 a7 a8 a9 a10 s1 s2 s3 s4 s5 s6 s7 s8 s9 s10 h1 h2 h3 h4 h5 h6 hc
      rw [← hr1] at hq
      exact ip (nI_le (Nat.le_refl _) (by omega)) hq
    | succ d ih =>
      intro i r1 r2 r3 r4 r5 r6 r7 c1 c2 c3 c4 c5 a1 a2 a3 a4 a5 a6 a7 a8 a9 a10 s1 s2 s3 s4 s5 s6 s7 s8 s9 s10 h1 h2 h3 h4 h5 h6 hd hc
      apply hI
      have hn := aRun_n (m := m) (pg := pgAt f x) (z := z) i
      refine iq (fun hh => absurd ((nI_leI (by omega) (by omega)).mp hh) (by omega)) ?_
      rw [run_pg (hpg i (by omega)).1, nI_1]
      exact c_all (aRun_inv hi hk hpg' i (by omega)) (by omega) (hpg' i (by omega)) hc (fun r1 r2 r3 r4 r5 r6 r7 c1 c2 c3 c4 c5 a1 a2 a3 a4 a5 a6 a7 a8 a9 a10 s1 s2 s3 s4 s5 s6 s7 s8 s9 s10 h1 h2 h3 h4 h5 h6 hc => ih (i + 1) r1 r2 r3 r4 r5 r6 r7 c1 c2 c3 c4 c5 a1 a2 a3 a4 a5 a6 a7 a8 a9 a10 s1 s2 s3 s4 s5 s6 s7 s8 s9 s10 h1 h2 h3 h4 h5 h6 (by omega) hc)
  exact key k 0 _ r2 r3 r4 r5 r6 r7 c1 c2 c3 c4 c5 a1 a2 a3 a4 a5 a6 a7 a8 a9 a10 s1 s2 s3 s4 s5 s6 s7 s8 s9 s10 h1 h2 h3 h4 h5 h6 (by omega) hc
