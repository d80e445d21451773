/-! PURE: what a turn of the law does -/
def aTouch (m : Nat) (x : Int32) (z : ASt) : Option (ASt × Int32) := if 0 ≤ x.toInt ∧ x.toInt < 64 ∧ z.1 < 400 then some (aStep m x.toInt.toNat z, aAns x.toInt.toNat z) else none
def runB (x y u : Int32) : Bool := decide ((-63 ≤ y.toInt ∧ y.toInt ≤ 63) ∧ (1 ≤ u.toInt ∧ u.toInt ≤ 64) ∧ (0 ≤ x.toInt ∧ x.toInt < 64) ∧ 0 ≤ x.toInt + y.toInt * (u.toInt - 1) ∧ x.toInt + y.toInt * (u.toInt - 1) < 64)
theorem runB_iff {x y u : Int32} : runB x y u = true ↔ RunOk x y u := decide_eq_true_iff
def aRunT (m : Nat) (x y u : Int32) (z : ASt) : Option (ASt × Int32) := if runB x y u = true ∧ z.1 + u.toInt.toNat ≤ 400 then some (aRun m (pgAt x.toInt.toNat y) z u.toInt.toNat, nI (aRun m (pgAt x.toInt.toNat y) z u.toInt.toNat).2.2.1.2.2.2.2.2 - nI z.2.2.1.2.2.2.2.2) else none
def odd (x : Int32) : Bool := decide (lw (x >>> (24 &&& 31)) 10 = 0)
def aAct (m : Nat) (x : Int32) (z : ASt) : Option (ASt × Int32) :=
  if lw x 14 < 4 then aRunT m (nI (lw (x >>> (4 &&& 31)) (if odd x = true then 64 else 20))) (nI (lw (x >>> (10 &&& 31)) 7) - 3) (if odd x = true then nI (lw (x >>> (13 &&& 31)) 70) else (1 : Int32) + nI (lw (x >>> (13 &&& 31)) 9)) z
  else aTouch m (if odd x = true then nI (lw (x >>> (6 &&& 31)) 70) - 3 else nI (lw (x >>> (6 &&& 31)) (3 + lw (x >>> (16 &&& 31)) 12))) z
/-- what stays: the policies' own order, and the prefetches' book -/
def AInvX (m w : Nat) (z : ASt) : Prop := AInvZ m w z ∧ UI z.2.2.2.2.2
theorem AInvX.step {m w p : Nat} {z : ASt} (h : AInvX m w z) (hn : z.1 < 400) (hp : p < 64) : AInvX m w (aStep m p z) := ⟨AInv.step h.1 hn hp, h.2.step hp⟩
theorem AInvX.run {m w k : Nat} {pg : Nat → Nat} {z : ASt} (h : AInvX m w z) (hk : z.1 + k ≤ 400) (hpg : ∀ i, i < k → pg i < 64) : ∀ i, i ≤ k → AInvX m w (aRun m pg z i) := by
  intro i
  induction i with
  | zero => intro _; exact h
  | succ i ih =>
    intro hi
    have e := aRun_n (m := m) (pg := pg) (z := z) i
    exact (ih (by omega)).step (by omega) (hpg i (by omega))
theorem fc_up {m : Nat} {pg : Nat → Nat} {z : ASt} : ∀ i, z.2.2.1.2.2.2.2.2 ≤ (aRun m pg z i).2.2.1.2.2.2.2.2 := by
  intro i
  induction i with
  | zero => exact Nat.le_refl _
  | succ i ih =>
    refine Nat.le_trans ih ?_
    show _ ≤ (recStep m (pg i) (aRun m pg z i).2.2.1).2.2.2.2.2
    simp only [recStep]
    split <;> omega
theorem nI_neg {k : Nat} (h : k < 2 ^ 31) : ¬ nI k = -99999 := fun e => by
  have h1 := nI_toInt h
  rw [e] at h1
  have h2 : (-99999 : Int32).toInt = -99999 := by decide
  omega
theorem aAns_ok {p : Nat} {z : ASt} : ¬ aAns p z = -99999 := by
  have fb : ∀ k, k < 4 → bf p z.2.2.1 z.2.2.2.1 z.2.2.2.2.1 z.2.2.2.2.2 k = 0 ∨ bf p z.2.2.1 z.2.2.2.1 z.2.2.2.2.1 z.2.2.2.2.2 k = 1 := fun k hk => by
    rw [bf_hB hk]
    split
    · exact Or.inl rfl
    · exact Or.inr rfl
  have e : aAns p z = fv (bf p z.2.2.1 z.2.2.2.1 z.2.2.2.2.1 z.2.2.2.2.2 0) (bf p z.2.2.1 z.2.2.2.1 z.2.2.2.2.1 z.2.2.2.2.2 1) (bf p z.2.2.1 z.2.2.2.1 z.2.2.2.2.1 z.2.2.2.2.2 2) (bf p z.2.2.1 z.2.2.2.1 z.2.2.2.2.1 z.2.2.2.2.2 3) := rfl
  rw [e]
  rcases fb 0 (by omega) with h0 | h0 <;> rcases fb 1 (by omega) with h1 | h1 <;> rcases fb 2 (by omega) with h2 | h2 <;> rcases fb 3 (by omega) with h3 | h3 <;> rw [h0, h1, h2, h3] <;> decide
theorem touch_ok {m w : Nat} {x : Int32} {z z' : ASt} {v : Int32} (h : AInvX m w z) (e : aTouch m x z = some (z', v)) : AInvX m w z' ∧ ¬ v = -99999 := by
  unfold aTouch at e
  split at e
  · rename_i hc
    have e2 := Option.some.inj e
    rw [← (Prod.mk.inj e2).1, ← (Prod.mk.inj e2).2]
    exact ⟨h.step hc.2.2 (by omega), aAns_ok⟩
  · exact absurd e (by simp)
theorem run_T {m w : Nat} {x y u : Int32} {z z' : ASt} {v : Int32} (h : AInvX m w z) (e : aRunT m x y u z = some (z', v)) : AInvX m w z' ∧ ¬ v = -99999 := by
  unfold aRunT at e
  split at e
  · rename_i hc
    have e2 := Option.some.inj e
    rw [← (Prod.mk.inj e2).1, ← (Prod.mk.inj e2).2]
    have hv := runB_iff.mp hc.1
    obtain ⟨f, k, rfl, rfl, hf, hk1, hk, hpg, hl, hl2⟩ := run_ok hv
    have ef : (nI f).toInt.toNat = f := by rw [nI_toInt (by omega)]; omega
    have ek : (nI k).toInt.toNat = k := by rw [nI_toInt (by omega)]; omega
    rw [ek] at hc ⊢
    rw [ef]
    have hpg' : ∀ i, i < k → pgAt f y i < 64 := fun i hi => by have := hpg i hi; unfold pgAt; omega
    have hr := h.run hc.2 hpg' k (Nat.le_refl k)
    have h1 := fc_up (m := m) (pg := pgAt f y) (z := z) k
    have h2 : (aRun m (pgAt f y) z k).2.2.1.2.2.2.2.2 ≤ (aRun m (pgAt f y) z k).1 := hr.1.2.2.2.2.2.2.1.2.2.2
    have h3 : (aRun m (pgAt f y) z k).1 ≤ 400 := hr.1.2.2.2.2.1
    exact ⟨hr, by rw [nI_sub h1]; exact nI_neg (by omega)⟩
  · exact absurd e (by simp)
theorem act_ok {m w : Nat} {x : Int32} {z z' : ASt} {v : Int32} (h : AInvX m w z) (e : aAct m x z = some (z', v)) : AInvX m w z' ∧ ¬ v = -99999 := by
  unfold aAct at e
  split at e
  · exact run_T h e
  · exact touch_ok h e
theorem lq_touch {m w : Nat} {z : ASt} {r1 r2 r3 : Int32} {r4 r5 r6 r7 : Nat → Int32} {c1 c2 c3 : Int32} {c4 c5 : Nat → Int32} {a1 a2 a3 : Int32} {a4 : Nat → Int32} {a5 : Int32} {a6 : Nat → Int32} {a7 : Int32} {a8 : Nat → Int32} {a9 : Int32} {a10 : Nat → Int32} {s1 s2 s3 s4 s5 s6 s7 s8 : Int32} {s9 s10 : Nat → Int32} {h1 h2 : Int32} {h3 h4 h5 h6 : Nat → Int32} (hi : AInvZ m w z) (hc : SeeZ m w z r1 r2 r3 r4 r5 r6 r7 c1 c2 c3 c4 c5 a1 a2 a3 a4 a5 a6 a7 a8 a9 a10 s1 s2 s3 s4 s5 s6 s7 s8 s9 s10 h1 h2 h3 h4 h5 h6) (x : Int32) {Q : Int32 → Int32 → Int32 → Int32 → (Nat → Int32) → (Nat → Int32) → (Nat → Int32) → (Nat → Int32) → Int32 → Int32 → Int32 → (Nat → Int32) → (Nat → Int32) → Int32 → Int32 → Int32 → (Nat → Int32) → Int32 → (Nat → Int32) → Int32 → (Nat → Int32) → Int32 → (Nat → Int32) → Int32 → Int32 → Int32 → Int32 → Int32 → Int32 → Int32 → Int32 → (Nat → Int32) → (Nat → Int32) → Int32 → Int32 → (Nat → Int32) → (Nat → Int32) → (Nat → Int32) → (Nat → Int32) → Nat → Prop} (h0 : aTouch m x z = none → Q (-99999) r1 r2 r3 r4 r5 r6 r7 c1 c2 c3 c4 c5 a1 a2 a3 a4 a5 a6 a7 a8 a9 a10 s1 s2 s3 s4 s5 s6 s7 s8 s9 s10 h1 h2 h3 h4 h5 h6 1) (h1' : ∀ z' v, aTouch m x z = some (z', v) → ∀ r1'' r2'' r3'' r4'' r5'' r6'' r7'' c1'' c2'' c3'' c4'' c5'' a1'' a2'' a3'' a4'' a5'' a6'' a7'' a8'' a9'' a10'' s1'' s2'' s3'' s4'' s5'' s6'' s7'' s8'' s9'' s10'' h1'' h2'' h3'' h4'' h5'' h6'', SeeZ m w z' r1'' r2'' r3'' r4'' r5'' r6'' r7'' c1'' c2'' c3'' c4'' c5'' a1'' a2'' a3'' a4'' a5'' a6'' a7'' a8'' a9'' a10'' s1'' s2'' s3'' s4'' s5'' s6'' s7'' s8'' s9'' s10'' h1'' h2'' h3'' h4'' h5'' h6'' → Q v r1'' r2'' r3'' r4'' r5'' r6'' r7'' c1'' c2'' c3'' c4'' c5'' a1'' a2'' a3'' a4'' a5'' a6'' a7'' a8'' a9'' a10'' s1'' s2'' s3'' s4'' s5'' s6'' s7'' s8'' s9'' s10'' h1'' h2'' h3'' h4'' h5'' h6'' 0) : wR_L_touch (nI m) (nI m) (nI m) (nI m) (nI w) x r1 r2 r3 r4 r5 r6 r7 c1 c2 c3 c4 c5 a1 a2 a3 a4 a5 a6 a7 a8 a9 a10 s1 s2 s3 s4 s5 s6 s7 s8 s9 s10 h1 h2 h3 h4 h5 h6 Q := by
  have n400 := hi.2.2.2.2.1
  have hh1 : h1 = nI z.1 := hc.2.2.2.2.1
  rcases pg_cases x with ⟨p, hp, rfl⟩ | hx
  · have ep : (nI p).toInt.toNat = p := by rw [nI_toInt (by omega)]; omega
    have ep2 : (nI p).toInt = (p : Int) := nI_toInt (by omega)
    by_cases full : z.1 = 400
    · refine Or.inr (Or.inl ⟨Or.inr (k_ckPage hp ?_), h0 (if_neg (by omega))⟩)
      rw [hh1]; exact ckx_room (k := 1) n400 (by omega) (by omega)
    · refine Or.inr (Or.inr ?_)
      have e : aTouch m (nI p) z = some (aStep m p z, aAns p z) := by
        unfold aTouch
        rw [if_pos (by omega), ep]
      exact cq_touch hi (by omega) hp hc (Q := fun v r1 r2 r3 r4 r5 r6 r7 c1 c2 c3 c4 c5 a1 a2 a3 a4 a5 a6 a7 a8 a9 a10 s1 s2 s3 s4 s5 s6 s7 s8 s9 s10 h1 h2 h3 h4 h5 h6 => Q v r1 r2 r3 r4 r5 r6 r7 c1 c2 c3 c4 c5 a1 a2 a3 a4 a5 a6 a7 a8 a9 a10 s1 s2 s3 s4 s5 s6 s7 s8 s9 s10 h1 h2 h3 h4 h5 h6 0) (fun r1'' r2'' r3'' r4'' r5'' r6'' r7'' c1'' c2'' c3'' c4'' c5'' a1'' a2'' a3'' a4'' a5'' a6'' a7'' a8'' a9'' a10'' s1'' s2'' s3'' s4'' s5'' s6'' s7'' s8'' s9'' s10'' h1'' h2'' h3'' h4'' h5'' h6'' hc2 => h1' _ _ e r1'' r2'' r3'' r4'' r5'' r6'' r7'' c1'' c2'' c3'' c4'' c5'' a1'' a2'' a3'' a4'' a5'' a6'' a7'' a8'' a9'' a10'' s1'' s2'' s3'' s4'' s5'' s6'' s7'' s8'' s9'' s10'' h1'' h2'' h3'' h4'' h5'' h6'' hc2)
  · refine Or.inl ⟨Or.inl (kx_ckPage hx), h0 (if_neg (fun hh => ?_))⟩
    rcases hx with hx | hx
    · rw [Int32.lt_iff_toInt_lt] at hx
      have e0 : (0 : Int32).toInt = 0 := rfl
      omega
    · rw [Int32.le_iff_toInt_le] at hx
      have e0 : (64 : Int32).toInt = 64 := rfl
      omega
theorem lq_run {m w : Nat} {z : ASt} {r1 r2 r3 : Int32} {r4 r5 r6 r7 : Nat → Int32} {c1 c2 c3 : Int32} {c4 c5 : Nat → Int32} {a1 a2 a3 : Int32} {a4 : Nat → Int32} {a5 : Int32} {a6 : Nat → Int32} {a7 : Int32} {a8 : Nat → Int32} {a9 : Int32} {a10 : Nat → Int32} {s1 s2 s3 s4 s5 s6 s7 s8 : Int32} {s9 s10 : Nat → Int32} {h1 h2 : Int32} {h3 h4 h5 h6 : Nat → Int32} (hi : AInvZ m w z) (hc : SeeZ m w z r1 r2 r3 r4 r5 r6 r7 c1 c2 c3 c4 c5 a1 a2 a3 a4 a5 a6 a7 a8 a9 a10 s1 s2 s3 s4 s5 s6 s7 s8 s9 s10 h1 h2 h3 h4 h5 h6) (x y u : Int32) {Q : Int32 → Int32 → Int32 → Int32 → (Nat → Int32) → (Nat → Int32) → (Nat → Int32) → (Nat → Int32) → Int32 → Int32 → Int32 → (Nat → Int32) → (Nat → Int32) → Int32 → Int32 → Int32 → (Nat → Int32) → Int32 → (Nat → Int32) → Int32 → (Nat → Int32) → Int32 → (Nat → Int32) → Int32 → Int32 → Int32 → Int32 → Int32 → Int32 → Int32 → Int32 → (Nat → Int32) → (Nat → Int32) → Int32 → Int32 → (Nat → Int32) → (Nat → Int32) → (Nat → Int32) → (Nat → Int32) → Nat → Prop} (h0 : aRunT m x y u z = none → Q (-99999) r1 r2 r3 r4 r5 r6 r7 c1 c2 c3 c4 c5 a1 a2 a3 a4 a5 a6 a7 a8 a9 a10 s1 s2 s3 s4 s5 s6 s7 s8 s9 s10 h1 h2 h3 h4 h5 h6 1) (h1' : ∀ z' v, aRunT m x y u z = some (z', v) → ∀ r1'' r2'' r3'' r4'' r5'' r6'' r7'' c1'' c2'' c3'' c4'' c5'' a1'' a2'' a3'' a4'' a5'' a6'' a7'' a8'' a9'' a10'' s1'' s2'' s3'' s4'' s5'' s6'' s7'' s8'' s9'' s10'' h1'' h2'' h3'' h4'' h5'' h6'', SeeZ m w z' r1'' r2'' r3'' r4'' r5'' r6'' r7'' c1'' c2'' c3'' c4'' c5'' a1'' a2'' a3'' a4'' a5'' a6'' a7'' a8'' a9'' a10'' s1'' s2'' s3'' s4'' s5'' s6'' s7'' s8'' s9'' s10'' h1'' h2'' h3'' h4'' h5'' h6'' → Q v r1'' r2'' r3'' r4'' r5'' r6'' r7'' c1'' c2'' c3'' c4'' c5'' a1'' a2'' a3'' a4'' a5'' a6'' a7'' a8'' a9'' a10'' s1'' s2'' s3'' s4'' s5'' s6'' s7'' s8'' s9'' s10'' h1'' h2'' h3'' h4'' h5'' h6'' 0) : wR_L_touchRun (nI m) (nI m) (nI m) (nI m) (nI w) x y u r1 r2 r3 r4 r5 r6 r7 c1 c2 c3 c4 c5 a1 a2 a3 a4 a5 a6 a7 a8 a9 a10 s1 s2 s3 s4 s5 s6 s7 s8 s9 s10 h1 h2 h3 h4 h5 h6 Q := by
  have n400 := hi.2.2.2.2.1
  have hh1 : h1 = nI z.1 := hc.2.2.2.2.1
  by_cases hv : RunOk x y u
  · have hb := runB_iff.mpr hv
    obtain ⟨f, k, rfl, rfl, hf, hk1, hk, hpg, hl, hl2⟩ := run_ok hv
    have ef : (nI f).toInt.toNat = f := by rw [nI_toInt (by omega)]; omega
    have ek : (nI k).toInt.toNat = k := by rw [nI_toInt (by omega)]; omega
    have g1 : ¬ y < -63 := fun hh => by have := n63.mp hh; have := hv.1; omega
    have g2 : ¬ 63 < y := fun hh => by have := p63.mp hh; have := hv.1; omega
    have g3 : ¬ nI k < 1 := nI_nlt (b := 1) hk1 (by omega)
    have g4 : nI k ≤ 64 := nI_le (b := 64) hk (by omega)
    by_cases full : z.1 + k ≤ 400
    · have e : aRunT m (nI f) y (nI k) z = some (aRun m (pgAt f y) z k, nI (aRun m (pgAt f y) z k).2.2.1.2.2.2.2.2 - nI z.2.2.1.2.2.2.2.2) := by
        unfold aRunT
        rw [ef, ek, if_pos ⟨hb, full⟩]
      refine Or.inr (Or.inr (iq g1 (iq g2 (iq g3 (ip g4 (k_ckPage hf ?_))))))
      rw [hl]
      refine k_ckPage hl2 ?_
      have := ck_room (n := z.1) (k := k) n400 hk full (c_run hi full hpg hc (Q := fun v r1 r2 r3 r4 r5 r6 r7 c1 c2 c3 c4 c5 a1 a2 a3 a4 a5 a6 a7 a8 a9 a10 s1 s2 s3 s4 s5 s6 s7 s8 s9 s10 h1 h2 h3 h4 h5 h6 => Q v r1 r2 r3 r4 r5 r6 r7 c1 c2 c3 c4 c5 a1 a2 a3 a4 a5 a6 a7 a8 a9 a10 s1 s2 s3 s4 s5 s6 s7 s8 s9 s10 h1 h2 h3 h4 h5 h6 0) (fun r1'' r2'' r3'' r4'' r5'' r6'' r7'' c1'' c2'' c3'' c4'' c5'' a1'' a2'' a3'' a4'' a5'' a6'' a7'' a8'' a9'' a10'' s1'' s2'' s3'' s4'' s5'' s6'' s7'' s8'' s9'' s10'' h1'' h2'' h3'' h4'' h5'' h6'' hc2 => h1' _ _ e r1'' r2'' r3'' r4'' r5'' r6'' r7'' c1'' c2'' c3'' c4'' c5'' a1'' a2'' a3'' a4'' a5'' a6'' a7'' a8'' a9'' a10'' s1'' s2'' s3'' s4'' s5'' s6'' s7'' s8'' s9'' s10'' h1'' h2'' h3'' h4'' h5'' h6'' hc2))
      rw [← hh1] at this
      exact this
    · refine Or.inr (Or.inl ⟨iq g1 (iq g2 (iq g3 (ip g4 (Or.inr (k_ckPage hf ?_))))), h0 (if_neg (fun hh => full (by rw [ek] at hh; exact hh.2)))⟩)
      rw [hl]
      refine Or.inr (k_ckPage hl2 ?_)
      rw [hh1]; exact ckx_room n400 hk full
  · refine Or.inl ⟨⟨fun _ => rfl, fun g1 => ⟨fun _ => rfl, fun g2 => ⟨fun _ => rfl, fun g3 => ⟨fun g4 => ?_, fun _ => rfl⟩⟩⟩⟩, h0 (if_neg (fun hh => hv (runB_iff.mp hh.1)))⟩
    rw [n63] at g1
    rw [p63] at g2
    rw [show (1 : Int32) = nI 1 from rfl, lt_int (by omega)] at g3
    rw [show (64 : Int32) = nI 64 from rfl, le_int (by omega)] at g4
    exact kx_run hv (by omega) (by omega)
theorem lq_act {m w : Nat} {z : ASt} {r1 r2 r3 : Int32} {r4 r5 r6 r7 : Nat → Int32} {c1 c2 c3 : Int32} {c4 c5 : Nat → Int32} {a1 a2 a3 : Int32} {a4 : Nat → Int32} {a5 : Int32} {a6 : Nat → Int32} {a7 : Int32} {a8 : Nat → Int32} {a9 : Int32} {a10 : Nat → Int32} {s1 s2 s3 s4 s5 s6 s7 s8 : Int32} {s9 s10 : Nat → Int32} {h1 h2 : Int32} {h3 h4 h5 h6 : Nat → Int32} (hi : AInvZ m w z) (hc : SeeZ m w z r1 r2 r3 r4 r5 r6 r7 c1 c2 c3 c4 c5 a1 a2 a3 a4 a5 a6 a7 a8 a9 a10 s1 s2 s3 s4 s5 s6 s7 s8 s9 s10 h1 h2 h3 h4 h5 h6) (x : Int32) {Q : Int32 → Int32 → Int32 → Int32 → (Nat → Int32) → (Nat → Int32) → (Nat → Int32) → (Nat → Int32) → Int32 → Int32 → Int32 → (Nat → Int32) → (Nat → Int32) → Int32 → Int32 → Int32 → (Nat → Int32) → Int32 → (Nat → Int32) → Int32 → (Nat → Int32) → Int32 → (Nat → Int32) → Int32 → Int32 → Int32 → Int32 → Int32 → Int32 → Int32 → Int32 → (Nat → Int32) → (Nat → Int32) → Int32 → Int32 → (Nat → Int32) → (Nat → Int32) → (Nat → Int32) → (Nat → Int32) → Nat → Prop} (h0 : aAct m x z = none → Q (-99999) r1 r2 r3 r4 r5 r6 r7 c1 c2 c3 c4 c5 a1 a2 a3 a4 a5 a6 a7 a8 a9 a10 s1 s2 s3 s4 s5 s6 s7 s8 s9 s10 h1 h2 h3 h4 h5 h6 1) (h1' : ∀ z' v, aAct m x z = some (z', v) → ∀ r1'' r2'' r3'' r4'' r5'' r6'' r7'' c1'' c2'' c3'' c4'' c5'' a1'' a2'' a3'' a4'' a5'' a6'' a7'' a8'' a9'' a10'' s1'' s2'' s3'' s4'' s5'' s6'' s7'' s8'' s9'' s10'' h1'' h2'' h3'' h4'' h5'' h6'', SeeZ m w z' r1'' r2'' r3'' r4'' r5'' r6'' r7'' c1'' c2'' c3'' c4'' c5'' a1'' a2'' a3'' a4'' a5'' a6'' a7'' a8'' a9'' a10'' s1'' s2'' s3'' s4'' s5'' s6'' s7'' s8'' s9'' s10'' h1'' h2'' h3'' h4'' h5'' h6'' → Q v r1'' r2'' r3'' r4'' r5'' r6'' r7'' c1'' c2'' c3'' c4'' c5'' a1'' a2'' a3'' a4'' a5'' a6'' a7'' a8'' a9'' a10'' s1'' s2'' s3'' s4'' s5'' s6'' s7'' s8'' s9'' s10'' h1'' h2'' h3'' h4'' h5'' h6'' 0) : wR_L_act (nI m) (nI m) (nI m) (nI m) (nI w) x r1 r2 r3 r4 r5 r6 r7 c1 c2 c3 c4 c5 a1 a2 a3 a4 a5 a6 a7 a8 a9 a10 s1 s2 s3 s4 s5 s6 s7 s8 s9 s10 h1 h2 h3 h4 h5 h6 Q := by
  have tch : ∀ y, (¬ lw x 14 < 4 → aAct m x z = aTouch m y z) → ¬ lw x 14 < 4 → wR_L_act_153 (nI m) (nI m) (nI m) (nI m) (nI w) x Q y r1 r2 r3 r4 r5 r6 r7 c1 c2 c3 c4 c5 a1 a2 a3 a4 a5 a6 a7 a8 a9 a10 s1 s2 s3 s4 s5 s6 s7 s8 s9 s10 h1 h2 h3 h4 h5 h6 0 := fun y hy hn => lq_touch hi hc y (fun e => h0 ((hy hn).trans e)) (fun z' v e r1'' r2'' r3'' r4'' r5'' r6'' r7'' c1'' c2'' c3'' c4'' c5'' a1'' a2'' a3'' a4'' a5'' a6'' a7'' a8'' a9'' a10'' s1'' s2'' s3'' s4'' s5'' s6'' s7'' s8'' s9'' s10'' h1'' h2'' h3'' h4'' h5'' h6'' hc2 => h1' z' v ((hy hn).trans e) r1'' r2'' r3'' r4'' r5'' r6'' r7'' c1'' c2'' c3'' c4'' c5'' a1'' a2'' a3'' a4'' a5'' a6'' a7'' a8'' a9'' a10'' s1'' s2'' s3'' s4'' s5'' s6'' s7'' s8'' s9'' s10'' h1'' h2'' h3'' h4'' h5'' h6'' hc2)
  have rn : ∀ y u v, (lw x 14 < 4 → aAct m x z = aRunT m y u v z) → lw x 14 < 4 → wR_L_act_112 (nI m) (nI m) (nI m) (nI m) (nI w) x Q y u v r1 r2 r3 r4 r5 r6 r7 c1 c2 c3 c4 c5 a1 a2 a3 a4 a5 a6 a7 a8 a9 a10 s1 s2 s3 s4 s5 s6 s7 s8 s9 s10 h1 h2 h3 h4 h5 h6 0 := fun y u v hy hn => lq_run hi hc y u v (fun e => h0 ((hy hn).trans e)) (fun z' v e r1'' r2'' r3'' r4'' r5'' r6'' r7'' c1'' c2'' c3'' c4'' c5'' a1'' a2'' a3'' a4'' a5'' a6'' a7'' a8'' a9'' a10'' s1'' s2'' s3'' s4'' s5'' s6'' s7'' s8'' s9'' s10'' h1'' h2'' h3'' h4'' h5'' h6'' hc2 => h1' z' v ((hy hn).trans e) r1'' r2'' r3'' r4'' r5'' r6'' r7'' c1'' c2'' c3'' c4'' c5'' a1'' a2'' a3'' a4'' a5'' a6'' a7'' a8'' a9'' a10'' s1'' s2'' s3'' s4'' s5'' s6'' s7'' s8'' s9'' s10'' h1'' h2'' h3'' h4'' h5'' h6'' hc2)
  have mid : ∀ b : Bool, b = odd x → wR_L_act_17 (nI m) (nI m) (nI m) (nI m) (nI w) x Q (bI b) r1 r2 r3 r4 r5 r6 r7 c1 c2 c3 c4 c5 a1 a2 a3 a4 a5 a6 a7 a8 a9 a10 s1 s2 s3 s4 s5 s6 s7 s8 s9 s10 h1 h2 h3 h4 h5 h6 0 := by
    intro b hb
    refine lq_low (k := 14) (by omega) (by omega) ?_
    have l14 := lw_lt (x := x) (k := 14) (by omega)
    have run : lw x 14 < 4 → ((bI b = 0 → wR_L_act_71 (nI m) (nI m) (nI m) (nI m) (nI w) x Q (bI b) (x >>> (4 &&& 31)) 20 r1 r2 r3 r4 r5 r6 r7 c1 c2 c3 c4 c5 a1 a2 a3 a4 a5 a6 a7 a8 a9 a10 s1 s2 s3 s4 s5 s6 s7 s8 s9 s10 h1 h2 h3 h4 h5 h6 0) ∧ (¬ bI b = 0 → wR_L_act_71 (nI m) (nI m) (nI m) (nI m) (nI w) x Q (bI b) (x >>> (4 &&& 31)) 64 r1 r2 r3 r4 r5 r6 r7 c1 c2 c3 c4 c5 a1 a2 a3 a4 a5 a6 a7 a8 a9 a10 s1 s2 s3 s4 s5 s6 s7 s8 s9 s10 h1 h2 h3 h4 h5 h6 0)) := by
      intro h4
      refine selb (fun e => ?_) (fun e => ?_)
      · subst e
        refine lq_low (k := 20) (by omega) (by omega) (lq_low (k := 7) (by omega) (by omega) (ip rfl (lq_low (k := 9) (by omega) (by omega) (rn _ _ _ (fun _ => ?_) h4))))
        unfold aAct
        rw [if_pos h4, ← hb]; rfl
      · subst e
        refine lq_low (k := 64) (by omega) (by omega) (lq_low (k := 7) (by omega) (by omega) (iq (by decide) (lq_low (k := 70) (by omega) (by omega) (rn _ _ _ (fun _ => ?_) h4))))
        unfold aAct
        rw [if_pos h4, ← hb]; rfl
    have z0' : ∀ j, lw x 14 = j → j < 4 → lw x 14 < 4 := fun j e h => by omega
    refine ⟨fun e => run (by have := (nI_eq (b := 0) (by omega) (by omega)).mp e; omega), fun e => run (by have := (nI_eq (b := 1) (by omega) (by omega)).mp e; omega), fun e => run (by have := (nI_eq (b := 2) (by omega) (by omega)).mp e; omega), fun e => run (by have := (nI_eq (b := 3) (by omega) (by omega)).mp e; omega), fun e => ?_⟩
    rw [nI_toInt (by omega)] at e
    have h4 : ¬ lw x 14 < 4 := by omega
    refine selb (fun e => ?_) (fun e => ?_)
    · subst e
      have l12 := lw_lt (x := x >>> (16 &&& 31)) (k := 12) (by omega)
      refine lq_low (k := 12) (by omega) (by omega) ?_
      show wR_L_low (x >>> (6 &&& 31)) (nI 3 + nI _) _
      rw [nI_add]
      refine lq_low (by omega) (by omega) (tch _ (fun _ => ?_) h4)
      unfold aAct
      rw [if_neg h4, ← hb]; rfl
    · subst e
      refine lq_low (k := 70) (by omega) (by omega) (tch _ (fun _ => ?_) h4)
      unfold aAct
      rw [if_neg h4, ← hb]; rfl
  refine lq_low (k := 10) (by omega) (by omega) ?_
  have l10 := lw_lt (x := x >>> (24 &&& 31)) (k := 10) (by omega)
  have hz : nI (lw (x >>> (24 &&& 31)) 10) = 0 ↔ lw (x >>> (24 &&& 31)) 10 = 0 := nI_z (by omega)
  refine ⟨fun e => mid false ?_, fun e => mid true ?_⟩
  · exact (decide_eq_false (fun hh => e (hz.mpr hh))).symm
  · exact (decide_eq_true (hz.mp e)).symm
