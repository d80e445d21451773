/-! PURE: policy 1 -/
theorem nar0 : vp_nar .boolean 0 = 0 := by decide
theorem nar1 : vp_nar .boolean 1 = 1 := by decide
def bI (b : Bool) : Int32 := if b then 1 else 0
theorem bI_z {b : Bool} : bI b = 0 ↔ b = false := by cases b <;> decide
def nxt (m h : Nat) : Nat := if h + 1 < m then h + 1 else 0
theorem nxt_mod {m h : Nat} (h0 : h < m) : (h + 1) % m = nxt m h := by
  unfold nxt
  split
  · exact Nat.mod_eq_of_lt (by assumption)
  · have : h + 1 = m := by omega
    rw [this, Nat.mod_self]
theorem nxt_lt {m h : Nat} (h0 : h < m) : nxt m h < m := by unfold nxt; split <;> omega
def clr (m : Nat) : Nat → (Nat → Bool) → Nat → (Nat → Bool) × Nat
  | 0, b, h => (b, h)
  | k + 1, b, h => if b h = true then clr m k (fset b h false) (nxt m h) else (b, h)
theorem clr_lt {m : Nat} : ∀ (k : Nat) (b : Nat → Bool) (h : Nat), h < m → (clr m k b h).2 < m := by
  intro k
  induction k with
  | zero => intro b h hh; exact hh
  | succ k ih =>
    intro b h hh
    unfold clr
    split
    · exact ih _ _ (nxt_lt hh)
    · exact hh
def vic (m : Nat) (b : Nat → Bool) : Nat → Nat → Nat
  | 0, h => h
  | k + 1, h => if b h = true then vic m b k (nxt m h) else h
theorem vic_lt {m : Nat} {b : Nat → Bool} : ∀ (k h : Nat), h < m → vic m b k h < m := by
  intro k
  induction k with
  | zero => intro h hh; exact hh
  | succ k ih =>
    intro h hh
    unfold vic
    split
    · exact ih _ (nxt_lt hh)
    · exact hh
def ixf (pg : Nat → Nat) (p : Nat) : Nat → Option Nat
  | 0 => none
  | k + 1 => if pg k = p then some k else ixf pg p k
theorem ixf_some {pg : Nat → Nat} {p : Nat} : ∀ {u i : Nat}, ixf pg p u = some i → i < u ∧ pg i = p := by
  intro u
  induction u with
  | zero => intro i h; exact absurd h (by simp [ixf])
  | succ k ih =>
    intro i h
    unfold ixf at h
    split at h
    · rename_i e
      have := Option.some.inj h
      subst this
      exact ⟨by omega, e⟩
    · have := ih h
      exact ⟨by omega, this.2⟩
theorem ixf_none {pg : Nat → Nat} {p : Nat} : ∀ {u : Nat}, ixf pg p u = none ↔ ∀ i, i < u → pg i ≠ p := by
  intro u
  induction u with
  | zero => exact ⟨fun _ i h => absurd h (Nat.not_lt_zero i), fun _ => rfl⟩
  | succ k ih =>
    unfold ixf
    split
    · rename_i e
      exact ⟨fun h => absurd h (by simp), fun h => absurd e (h k (by omega))⟩
    · rename_i e
      rw [ih]
      refine ⟨fun h i hi => ?_, fun h i hi => h i (by omega)⟩
      rcases Nat.lt_succ_iff_lt_or_eq.mp hi with h1 | h1
      · exact h i h1
      · rw [h1]; exact e
def Inj (pg : Nat → Nat) (u : Nat) : Prop := ∀ i j, i < u → j < u → pg i = pg j → i = j
theorem ixf_inj {pg : Nat → Nat} {p u i : Nat} (hj : Inj pg u) (hi : i < u) (he : pg i = p) : ixf pg p u = some i := by
  cases hx : ixf pg p u with
  | none => exact absurd he (ixf_none.mp hx i hi)
  | some k =>
    have := ixf_some hx
    rw [hj i k hi this.1 (by rw [he, this.2])]
abbrev AClk : Type := Nat × (Nat → Nat) × (Nat → Bool) × Nat × Nat
def clkStep (m p : Nat) (a : AClk) : AClk :=
  match ixf a.2.1 p a.1 with
  | some i => (a.1, a.2.1, fset a.2.2.1 i true, a.2.2.2.1, a.2.2.2.2)
  | none => if a.1 < m then (a.1 + 1, fset a.2.1 a.1 p, fset a.2.2.1 a.1 true, a.2.2.2.1, a.2.2.2.2 + 1)
    else (a.1, fset a.2.1 (clr m m a.2.2.1 a.2.2.2.1).2 p, fset (clr m m a.2.2.1 a.2.2.2.1).1 (clr m m a.2.2.1 a.2.2.2.1).2 true, nxt m (clr m m a.2.2.1 a.2.2.2.1).2, a.2.2.2.2 + 1)
def clkFault (p : Nat) (a : AClk) : Int32 := if ixf a.2.1 p a.1 = none then 1 else 0
def ClkInv (m n : Nat) (a : AClk) : Prop := a.1 ≤ m ∧ a.2.2.2.1 < m ∧ (∀ i, i < a.1 → a.2.1 i < 64) ∧ Inj a.2.1 a.1 ∧ a.2.2.2.2 ≤ n
theorem inj_set {pg : Nat → Nat} {u p k : Nat} (hj : Inj pg u) (hn : ∀ i, i < u → pg i ≠ p) : Inj (fset pg k p) u := by
  intro i j hi hj2 he
  unfold fset at he
  split at he <;> split at he
  · omega
  · exact absurd he.symm (hn j hj2)
  · exact absurd he (hn i hi)
  · exact hj i j hi hj2 he
theorem ClkInv.step {m n p : Nat} {a : AClk} (h : ClkInv m n a) (hm : 1 ≤ m) (hp : p < 64) : ClkInv m (n + 1) (clkStep m p a) := by
  obtain ⟨u, pg, bt, h0, F⟩ := a
  obtain ⟨h1, h2, h3, h4, h5⟩ := h
  simp only at h1 h2 h3 h4 h5
  unfold clkStep
  simp only
  split
  · exact ⟨h1, h2, h3, h4, by simp only; omega⟩
  · rename_i hx
    have hne := ixf_none.mp hx
    split
    · refine ⟨by simp only; omega, h2, fun i hi => ?_, ?_, by simp only; omega⟩
      · simp only at hi ⊢
        by_cases e : i = u
        · rw [e, fs_s]; exact hp
        · rw [fs_n e]; exact h3 i (by omega)
      · simp only
        intro i j hi hj he
        by_cases ei : i = u
        · by_cases ej : j = u
          · omega
          · rw [ei, fs_s, fs_n ej] at he
            exact absurd he.symm (hne j (by omega))
        · by_cases ej : j = u
          · rw [ej, fs_s, fs_n ei] at he
            exact absurd he (hne i (by omega))
          · rw [fs_n ei, fs_n ej] at he
            exact h4 i j (by omega) (by omega) he
    · refine ⟨h1, nxt_lt (clr_lt _ _ _ h2), fun i hi => ?_, inj_set h4 hne, by simp only; omega⟩
      simp only at hi ⊢
      unfold fset
      split
      · exact hp
      · exact h3 i hi
def ClkC (a : AClk) (fc us hd : Int32) (pg bt : Nat → Int32) : Prop := fc = nI a.2.2.2.2 ∧ us = nI a.1 ∧ hd = nI a.2.2.2.1 ∧ (∀ i, i < a.1 → pg i = nI (a.2.1 i)) ∧ ∀ i, i < a.1 → bt i = bI (a.2.2.1 i)
theorem k_frameOf {u p : Nat} {f : Nat → Int32} {pg : Nat → Nat} (hu : u ≤ 16) (hp : p < 64) (hf : ∀ i, i < u → f i = nI (pg i)) (hpg : ∀ i, i < u → pg i < 64) {Q : Int32 → Prop} (h0 : (∀ i, i < u → pg i ≠ p) → Q (-1)) (h1 : ∀ i, i < u → pg i = p → Q (nI i)) : wR_X2_frameOf (nI u) f (nI p) Q := by
  intro I hI
  have key : ∀ d i, i + d = u → (∀ j, j < i → pg j ≠ p) → I (nI i) := by
    intro d
    induction d with
    | zero =>
      intro i hi hn
      apply hI
      exact ip (nI_le (by omega) (by omega)) (h0 (fun j hj => hn j (by omega)))
    | succ d ih =>
      intro i hi hn
      apply hI
      refine iq (fun hc => absurd ((nI_leI (by omega) (by omega)).mp hc) (by omega)) ⟨vp_in_nI (by omega) (by omega), ?_⟩
      have := hpg i (by omega)
      rw [nI_clamp (by omega), hf i (by omega), nI_eq (by omega) (by omega)]
      refine ⟨fun hne => ?_, fun he => h1 i (by omega) he⟩
      rw [nI_1]
      refine ih (i + 1) (by omega) (fun j hj => ?_)
      rcases Nat.lt_succ_iff_lt_or_eq.mp hj with h | h
      · exact hn j h
      · rw [h]; exact hne
  exact key u 0 (by omega) (fun j hj => absurd hj (Nat.not_lt_zero j))
theorem k_after {m h : Nat} (hm : m ≤ 16) (hh : h < m) {Q : Int32 → Prop} (hq : Q (nI (nxt m h))) : wR_X2_frameAfter (nI m) (nI h) Q := by
  unfold wR_X2_frameAfter
  rw [nI_1, nI_leI (by omega) (by omega)]
  unfold nxt at hq
  split at hq
  · exact iq (by omega) hq
  · exact ip (by omega) hq
theorem k_clr {m : Nat} (hm2 : m ≤ 16) {Q : Int32 → (Nat → Int32) → Prop} {b : Nat → Bool} {h : Nat} (hh : h < m) {f : Nat → Int32} (hf : ∀ i, i < m → f i = bI (b i)) (hq : ∀ f, (∀ i, i < m → f i = bI ((clr m m b h).1 i)) → Q (nI (clr m m b h).2) f) : wR_X2_clearBitsAtHand (nI m) (nI h) f Q := by
  intro I hI
  have key : ∀ k i b h f, i + k = m → h < m → (∀ i, i < m → f i = bI (b i)) → (∀ f, (∀ i, i < m → f i = bI ((clr m k b h).1 i)) → Q (nI (clr m k b h).2) f) → I (nI i) (nI h) f := by
    intro k
    induction k with
    | zero =>
      intro i b h f hi hh hf hq
      apply hI
      exact ip (nI_le (by omega) (by omega)) (hq f hf)
    | succ k ih =>
      intro i b h f hi hh hf hq
      apply hI
      refine iq (fun hc => absurd ((nI_leI (by omega) (by omega)).mp hc) (by omega)) ⟨vp_in_nI (by omega) (by omega), ?_⟩
      rw [nI_clamp (by omega), hf h hh, bI_z]
      cases hb : b h with
      | false =>
        refine ip rfl ?_
        unfold clr at hq
        rw [if_neg (by simp [hb])] at hq
        exact hq f hf
      | true =>
        refine iq (by decide) ⟨vp_in_nI (by omega) (by omega), k_after hm2 hh ?_⟩
        unfold clr at hq
        rw [if_pos hb] at hq
        rw [nI_1]
        refine ih (i + 1) (fset b h false) (nxt m h) _ (by omega) (nxt_lt hh) (fun j hj => ?_) hq
        by_cases e : j = h
        · rw [e, pk_us, fs_s, nar0]; rfl
        · rw [pk_un e, fs_n e, hf j hj]
  exact key m 0 b h f (by omega) hh hf hq
theorem c_clk {m n p : Nat} {a : AClk} {fc us hd : Int32} {pf bf : Nat → Int32} (hi : ClkInv m n a) (hn : n ≤ 400) (hm : 1 ≤ m) (hm2 : m ≤ 16) (hp : p < 64) (hr : ClkC a fc us hd pf bf) {Q : Int32 → Int32 → Int32 → Int32 → (Nat → Int32) → (Nat → Int32) → Prop} (h : ∀ fc us hd pf bf, ClkC (clkStep m p a) fc us hd pf bf → Q (clkFault p a) fc us hd pf bf) : wR_X6_see_on_X2 (nI m) (nI p) fc us hd pf bf Q := by
  obtain ⟨u, pg, bt, h0, F⟩ := a
  obtain ⟨h1, h2, h3, h4, h5⟩ := hi
  obtain ⟨g1, g2, g3, g4, g5⟩ := hr
  simp only at h1 h2 h3 h4 h5 g1 g2 g3 g4 g5
  subst g1 g2 g3
  refine k_frameOf (by omega) hp g4 h3 (fun hne => ?_) (fun i hi he => ?_)
  · have hx := ixf_none.mpr hne
    have hfa : clkFault p (u, pg, bt, h0, F) = 1 := by simp only [clkFault, hx, if_true]
    rw [hfa] at h
    have hst : clkStep m p (u, pg, bt, h0, F) = if u < m then (u + 1, fset pg u p, fset bt u true, h0, F + 1) else (u, fset pg (clr m m bt h0).2 p, fset (clr m m bt h0).1 (clr m m bt h0).2 true, nxt m (clr m m bt h0).2, F + 1) := by
      simp only [clkStep, hx]
    rw [hst] at h
    refine ip rfl ⟨Or.inl rfl, jq rfl (iq (by decide) ?_)⟩
    by_cases hlt : u < m
    · rw [if_pos hlt] at h
      refine iq ?_ ⟨vp_in_nI (by omega) (by omega), vp_in_nI (by omega) (by omega), Or.inr rfl, ?_⟩
      · rw [nI_leI (by omega) (by omega)]; omega
      · rw [nI_clamp (by omega), nI_1, nI_1, nar1]
        refine h _ _ _ _ _ ⟨rfl, rfl, rfl, fun i hi => ?_, fun i hi => ?_⟩
        · simp only at hi ⊢
          by_cases e : i = u
          · rw [e, pk_us, fs_s]
          · rw [pk_un e, fs_n e, g4 i (by omega)]
        · simp only at hi ⊢
          by_cases e : i = u
          · rw [e, pk_us, fs_s]; rfl
          · rw [pk_un e, fs_n e, g5 i (by omega)]
    · rw [if_neg hlt] at h
      have hum : u = m := by omega
      subst hum
      refine ip (nI_le (by omega) (by omega)) (k_clr hm2 h2 g5 (fun f hf => ?_))
      have hc := clr_lt u bt h0 h2
      refine ⟨vp_in_nI (by omega) (by omega), vp_in_nI (by omega) (by omega), k_after hm2 hc ⟨Or.inr rfl, ?_⟩⟩
      rw [nI_clamp (by omega), nI_1, nar1]
      refine h _ _ _ _ _ ⟨rfl, rfl, rfl, fun i hi => ?_, fun i hi => ?_⟩
      · simp only at hi ⊢
        by_cases e : i = (clr u u bt h0).2
        · rw [e, pk_us, fs_s]
        · rw [pk_un e, fs_n e, g4 i (by omega)]
      · simp only at hi ⊢
        by_cases e : i = (clr u u bt h0).2
        · rw [e, pk_us, fs_s]; rfl
        · rw [pk_un e, fs_n e, hf i (by omega)]
  · have hx := ixf_inj h4 hi he
    have hfa : clkFault p (u, pg, bt, h0, F) = 0 := by simp only [clkFault, hx]; rfl
    rw [hfa] at h
    have hst : clkStep m p (u, pg, bt, h0, F) = (u, pg, fset bt i true, h0, F) := by
      simp only [clkStep, hx]
    rw [hst] at h
    refine iq (nI_m1 (by omega)) ⟨Or.inr rfl, jp (by decide) (ip rfl ?_)⟩
    refine k_frameOf (by omega) hp g4 h3 (fun hne => absurd he (hne i hi)) (fun j hj hje => ?_)
    have : j = i := h4 j i hj hi (by rw [he, hje])
    subst this
    refine iq (nI_m1 (by omega)) ⟨vp_in_nI (by omega) (by omega), Or.inl rfl, ?_⟩
    rw [nI_clamp (by omega), nar1]
    refine h _ _ _ _ _ ⟨rfl, rfl, rfl, g4, fun i hi => ?_⟩
    simp only at hi ⊢
    by_cases e : i = j
    · rw [e, pk_us, fs_s]; rfl
    · rw [pk_un e, fs_n e, g5 i hi]
