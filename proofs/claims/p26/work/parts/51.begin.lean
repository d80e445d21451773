/-! PURE: the start -/
def RelC (m w : Nat) (z : ASt) (fr r0 r1 r2 r3 : Int32) (r4 r5 r6 r7 : Nat → Int32) (c0 c1 c2 c3 : Int32) (c4 c5 : Nat → Int32) (a0 a1 a2 a3 : Int32) (a4 : Nat → Int32) (a5 : Int32) (a6 : Nat → Int32) (a7 : Int32) (a8 : Nat → Int32) (a9 : Int32) (a10 : Nat → Int32) (s0 s1 s2 s3 s4 s5 s6 s7 s8 : Int32) (s9 s10 : Nat → Int32) (h0 h1 h2 : Int32) (h3 h4 h5 h6 : Nat → Int32) : Prop := fr = nI m ∧ r0 = nI m ∧ c0 = nI m ∧ a0 = nI m ∧ s0 = nI m ∧ h0 = nI w ∧ SeeZ m w z r1 r2 r3 r4 r5 r6 r7 c1 c2 c3 c4 c5 a1 a2 a3 a4 a5 a6 a7 a8 a9 a10 s1 s2 s3 s4 s5 s6 s7 s8 s9 s10 h1 h2 h3 h4 h5 h6
def RelM (m w : Nat) (z : ASt) (mm ww nn sp pm um ev hd tg : Int32) (tf fm rc sd ia ea di dm pf bf ls ss : Nat → Int32) : Prop := mm = nI m ∧ ww = nI w ∧ TchZ m z nn sp pm um ev hd tg tf fm rc sd ia ea di dm pf bf ls ss
def z0 : ASt := (0, fun _ => 0, ([], 0, fun _ => 0, fun _ => -1, fun _ => 0, 0), (0, fun _ => 0, fun _ => false, 0, 0), (fun _ => [], 0, 0), ([], fun _ => false, 0, 0, 0))
theorem z0_inv {m w : Nat} (h1 : 1 ≤ m) (h2 : m ≤ 16) (h3 : 1 ≤ w) (h4 : w ≤ 100) : AInvZ m w z0 := by
  refine ⟨h1, h2, h3, h4, Nat.zero_le _, fun i hi => absurd hi (Nat.not_lt_zero i), ⟨LInv.nil m, fun _ => Nat.le_refl 0, Nat.le_refl 0, Nat.le_refl 0⟩, ⟨Nat.zero_le m, h1, fun i hi => absurd hi (Nat.not_lt_zero i), fun i j hi => absurd hi (Nat.not_lt_zero i), Nat.le_refl 0⟩, ⟨⟨fun i _ _ => ⟨List.nodup_nil, fun x hx => absurd hx List.not_mem_nil⟩, fun i j x _ _ _ _ hx => absurd hx List.not_mem_nil⟩, Nat.zero_le _, Nat.zero_le _, Nat.zero_le _, fun hh => absurd hh (Nat.lt_irrefl 0), Nat.zero_le _, Nat.le_refl 0⟩, ⟨LInv.nil m, fun i hi => absurd hi Bool.false_ne_true, Nat.le_refl 0, Nat.le_refl 0, Nat.le_refl 0⟩⟩
theorem z0_see {m w : Nat} {r4 c4 c5 a4 a6 a8 a10 : Nat → Int32} {s5 s6 s7 : Int32} {s9 h3 h4 : Nat → Int32} {r5 r6 r7 s10 h5 h6 : Nat → Int32} (e5 : ∀ i, i < 64 → r5 i = -1) (e6 : ∀ i, i < 64 → r6 i = -1) (e7 : ∀ i, i < 401 → r7 i = 0) (e10 : ∀ i, i < 64 → s10 i = 0) (g5 : ∀ i, i < 64 → h5 i = -1) (g6 : ∀ i, i < 64 → h6 i = 0) : SeeZ m w z0 0 0 0 r4 r5 r6 r7 0 0 0 c4 c5 0 0 0 a4 0 a6 0 a8 0 a10 0 0 0 0 s5 s6 s7 0 s9 s10 0 0 h3 h4 h5 h6 := by
  refine ⟨⟨rfl, rfl, PLr.nil, fun i hi => ?_, e6, e7⟩, ⟨rfl, rfl, rfl, fun i hi => absurd hi (Nat.not_lt_zero i), fun i hi => absurd hi (Nat.not_lt_zero i)⟩, ⟨rfl, rfl, PLr.nil, PLr.nil, PLr.nil, PLr.nil⟩, ⟨rfl, rfl, rfl, rfl, fun hh => absurd hh (Nat.not_lt_zero 0), fun hh => absurd hh (Nat.not_lt_zero 1), PLr.nil, e10⟩, ⟨rfl, rfl, fun i hi => absurd hi (Nat.not_lt_zero i), fun i hi => absurd hi (Nat.not_lt_zero i), fun p hp => ?_, g6⟩⟩
  · rw [e5 i hi]; rfl
  · rw [g5 p hp]; rfl
theorem z0_tch {m : Nat} (hm : m ≤ 16) {tf fm rc sd ia ea di dm pf bf ls ss : Nat → Int32} (e1 : ∀ i, i < 4 → fm i = 0) (e2 : ∀ i, i < 64 → rc i = 0) (e3 : ∀ i, i < 64 → sd i = 0) (e4 : ∀ i, i < 64 → ia i = 0) (e5 : ∀ i, i < 64 → ea i = -1) (e6 : ∀ i, i < 64 → di i = -1) (e7 : ∀ i, i < 401 → dm i = 0) (e8 : ∀ i, i < 16 → pf i = -1) (e9 : ∀ i, i < 64 → ls i = 0) (e10 : ∀ i, i < 64 → ss i = 0) : TchZ m z0 0 0 0 0 0 0 0 tf fm rc sd ia ea di dm pf bf ls ss := by
  refine ⟨rfl, fun i hi => absurd hi (Nat.not_lt_zero i), ⟨e1 0 (by omega), e1 1 (by omega), e1 2 (by omega), e1 3 (by omega)⟩, 0, rfl, Nat.le_refl 0, ⟨rfl, RS.zero e2 0, fun i hi => ?_, e6, e7⟩, ⟨rfl, fun i hi => ?_, fun i hi => absurd hi (Nat.not_lt_zero i)⟩, ⟨rfl, fun _ => 0, fun _ => 0, fun p hp => ⟨e9 p hp, Nat.zero_le 4, e10 p hp, Nat.le_refl 0⟩, fun i h1 h2 => ⟨fun x => ⟨fun hx => absurd hx List.not_mem_nil, fun hx => ?_⟩, List.Pairwise.nil⟩⟩, ⟨rfl, rfl, RS.zero e3 0, e4⟩⟩
  · rw [e5 i hi]; rfl
  · rw [e8 i (by omega)]; rfl
  · have : 0 = i := hx.2
    omega
theorem c_restart {m w : Nat} {fr r0 r1 r2 r3 : Int32} {r5 r6 r7 : Nat → Int32} {c0 c1 c2 c3 a0 a1 a2 a3 a5 a7 a9 s0 s1 s2 s3 s4 s8 : Int32} {s10 : Nat → Int32} {h0 h1 h2 : Int32} {h5 h6 : Nat → Int32} {Q : Int32 → Int32 → Int32 → Int32 → Int32 → (Nat → Int32) → (Nat → Int32) → (Nat → Int32) → Int32 → Int32 → Int32 → Int32 → Int32 → Int32 → Int32 → Int32 → Int32 → Int32 → Int32 → Int32 → Int32 → Int32 → Int32 → Int32 → Int32 → (Nat → Int32) → Int32 → Int32 → Int32 → (Nat → Int32) → (Nat → Int32) → Prop} (h : ∀ fr r0 r1 r2 r3 r5 r6 r7 c0 c1 c2 c3 a0 a1 a2 a3 a5 a7 a9 s0 s1 s2 s3 s4 s8 s10 h0 h1 h2 h5 h6, (∀ r4 c4 c5 a4 a6 a8 a10 s5 s6 s7 s9 h3 h4, RelC m w z0 fr r0 r1 r2 r3 r4 r5 r6 r7 c0 c1 c2 c3 c4 c5 a0 a1 a2 a3 a4 a5 a6 a7 a8 a9 a10 s0 s1 s2 s3 s4 s5 s6 s7 s8 s9 s10 h0 h1 h2 h3 h4 h5 h6) → Q fr r0 r1 r2 r3 r5 r6 r7 c0 c1 c2 c3 a0 a1 a2 a3 a5 a7 a9 s0 s1 s2 s3 s4 s8 s10 h0 h1 h2 h5 h6) : wR_X9_restart (nI m) (nI w) fr r0 r1 r2 r3 r5 r6 r7 c0 c1 c2 c3 a0 a1 a2 a3 a5 a7 a9 s0 s1 s2 s3 s4 s8 s10 h0 h1 h2 h5 h6 Q := by
  refine k_fill (by omega) (fun r5 e5 => k_fill (by omega) (fun r6 e6 => k_fill (by omega) (fun r7 e7 => ?_)))
  have loop : ∀ (K : Int32 → Int32 → Int32 → Int32 → (Nat → Int32) → Prop) (x y u v : Int32) (s10 : Nat → Int32), (∀ s10, (∀ i, i < 64 → s10 i = 0) → K 0 0 0 v s10) → wR_X8_forgetAll_9 K 0 x y u v s10 := by
    intro K x y u v s10 hK I hI
    have key : ∀ d i (g : Nat → Int32), i + d = 64 → (∀ j, j < i → g j = 0) → I (nI i) x y u v g := by
      intro d
      induction d with
      | zero =>
        intro i g hi hg
        apply hI
        have e : i = 64 := by omega
        subst e
        exact ip (nI_le (a := 64) (Nat.le_refl _) (by omega)) (hK g hg)
      | succ d ih =>
        intro i g hi hg
        apply hI
        refine iq (fun hc => absurd ((nI_leI (a := 64) (by omega) (by omega)).mp hc) (by omega)) ⟨vp_in_nI (by omega) (by omega), ?_⟩
        rw [nI_clamp (by omega), nI_1, nar0]
        refine ih (i + 1) _ (by omega) (fun j hj => ?_)
        by_cases e : j = i
        · rw [e, pk_us]
        · rw [pk_un e]; exact hg j (by omega)
    exact key 64 0 s10 rfl (fun j hj => absurd hj (Nat.not_lt_zero j))
  refine loop _ _ _ _ _ _ (fun s10 e10 => ?_)
  refine k_fill (by omega) (fun h5 g5 => k_fill (by omega) (fun h6 g6 => ?_))
  exact h _ _ _ _ _ _ _ _ _ _ _ _ _ _ _ _ _ _ _ _ _ _ _ _ _ _ _ _ _ _ _ (fun _ _ _ _ _ _ _ _ _ _ _ _ _ => ⟨rfl, rfl, rfl, rfl, rfl, rfl, z0_see e5 e6 e7 e10 g5 g6⟩)
