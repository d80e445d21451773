/-! PURE: policy 1 of the reference -/
def ClkM (m : Nat) (a : AClk) (hd : Int32) (pg bt : Nat → Int32) : Prop := hd = nI a.2.2.2.1 ∧ (∀ i, i < m → pg i = if i < a.1 then nI (a.2.1 i) else -1) ∧ ∀ i, i < a.1 → bt i = bI (a.2.2.1 i)
theorem m_frameOf {m u p : Nat} {f : Nat → Int32} {pg : Nat → Nat} (hm : m ≤ 16) (hu : u ≤ m) (hp : p < 64) (hf : ∀ i, i < m → f i = if i < u then nI (pg i) else -1) (hpg : ∀ i, i < u → pg i < 64) {Q : Int32 → Prop} (h0 : (∀ i, i < u → pg i ≠ p) → Q (-1)) (h1 : ∀ i, i < u → pg i = p → Q (nI i)) : wR_X10_frameOf (nI m) f (nI p) Q := by
  intro I hI
  have key : ∀ d i x, i + d = m → ((x = -1 ∧ ∀ j, j < i → j < u → pg j ≠ p) ∨ ∃ j, j < u ∧ pg j = p ∧ x = nI j) → I x (nI i) := by
    intro d
    induction d with
    | zero =>
      intro i x hi hn
      apply hI
      refine ip (nI_le (by omega) (by omega)) ?_
      rcases hn with ⟨rfl, h2⟩ | ⟨j, hj, he, rfl⟩
      · exact h0 (fun j hj => h2 j (by omega) hj)
      · exact h1 j hj he
    | succ d ih =>
      intro i x hi hn
      apply hI
      refine iq (fun hc => absurd ((nI_leI (by omega) (by omega)).mp hc) (by omega)) ⟨vp_in_nI (by omega) (by omega), ?_⟩
      rw [nI_clamp (by omega), hf i (by omega)]
      by_cases hiu : i < u
      · rw [if_pos hiu]
        have := hpg i hiu
        rw [nI_eq (by omega) (by omega)]
        refine ⟨fun hne => ?_, fun he => ?_⟩
        · show I x (nI i + 1)
          rw [nI_1]
          refine ih (i + 1) x (by omega) ?_
          rcases hn with ⟨h3, h2⟩ | h3
          · refine Or.inl ⟨h3, fun j hj hju => ?_⟩
            rcases Nat.lt_succ_iff_lt_or_eq.mp hj with h | h
            · exact h2 j h hju
            · rw [h]; exact hne
          · exact Or.inr h3
        · show I (nI i) (nI i + 1)
          rw [nI_1]
          exact ih (i + 1) _ (by omega) (Or.inr ⟨i, hiu, he, rfl⟩)
      · rw [if_neg hiu]
        refine jp (fun e => nI_m1 (n := p) (by omega) e.symm) ?_
        show I x (nI i + 1)
        rw [nI_1]
        refine ih (i + 1) x (by omega) ?_
        rcases hn with ⟨h3, h2⟩ | h3
        · exact Or.inl ⟨h3, fun j hj hju => h2 j (by omega) hju⟩
        · exact Or.inr h3
  exact key m 0 (-1) (by omega) (Or.inl ⟨rfl, fun j hj => absurd hj (Nat.not_lt_zero j)⟩)
theorem m_nxt {m h : Nat} (hm : m ≤ 16) (hh : h < m) : (nI h + 1) - (nI h + 1) / nI m * nI m = nI (nxt m h) := by
  rw [nI_1, pk_rem (by omega) (by omega) (by omega), nxt_mod hh]
theorem m_clr {m p : Nat} (hm2 : m ≤ 16) {Q : Int32 → Int32 → (Nat → Int32) → (Nat → Int32) → Prop} {f : Nat → Int32} {b : Nat → Bool} {h : Nat} {g : Nat → Int32} (hh : h < m) (hg : ∀ i, i < m → g i = bI (b i)) (hq : ∀ g, (∀ i, i < m → g i = bI ((clr m m b h).1 i)) → Q 1 (nI (nxt m (clr m m b h).2)) (upd f (clr m m b h).2 (nI p)) (upd g (clr m m b h).2 1)) : wR_X10_touchClock_70 (nI m) (nI p) Q (nI h) f g := by
  intro I hI
  have key : ∀ k b h g, cntB b m ≤ k → h < m → (∀ i, i < m → g i = bI (b i)) → (∀ g, (∀ i, i < m → g i = bI ((clr m k b h).1 i)) → Q 1 (nI (nxt m (clr m k b h).2)) (upd f (clr m k b h).2 (nI p)) (upd g (clr m k b h).2 1)) → I (nI h) f g := by
    intro k
    induction k with
    | zero =>
      intro b h g hk hh hg hq
      apply hI
      have hb : b h = false := by
        cases hb : b h with
        | false => rfl
        | true =>
          have := cntB_set (P := fset b h false) (R := b) (k := m) hh fs_s hb (fun i _ hne => fs_n hne)
          omega
      refine ⟨vp_in_nI (by omega) (by omega), ?_⟩
      rw [nI_clamp (by omega), hg h hh, bI_z]
      refine ip hb ⟨vp_in_nI (by omega) (by omega), vp_in_nI (by omega) (by omega), fun e => ?_, ?_⟩
      · have := (nI_z (by omega)).mp e; omega
      · rw [m_nxt hm2 hh, nar1]
        exact hq g hg
    | succ k ih =>
      intro b h g hk hh hg hq
      apply hI
      refine ⟨vp_in_nI (by omega) (by omega), ?_⟩
      rw [nI_clamp (by omega), hg h hh, bI_z]
      have hm0 : ¬ nI m = 0 := fun e => by have := (nI_z (by omega)).mp e; omega
      cases hb : b h with
      | false =>
        refine ip rfl ⟨vp_in_nI (by omega) (by omega), vp_in_nI (by omega) (by omega), hm0, ?_⟩
        unfold clr at hq
        rw [if_neg (by simp [hb])] at hq
        rw [m_nxt hm2 hh, nar1]
        exact hq g hg
      | true =>
        refine iq (by decide) ⟨vp_in_nI (by omega) (by omega), hm0, ?_⟩
        unfold clr at hq
        rw [if_pos hb] at hq
        rw [m_nxt hm2 hh, nar0]
        have := cntB_set (P := fset b h false) (R := b) (k := m) hh fs_s hb (fun i _ hne => fs_n hne)
        refine ih (fset b h false) (nxt m h) _ (by omega) (nxt_lt hh) (fun j hj => ?_) hq
        by_cases e : j = h
        · rw [e, pk_us, fs_s]; rfl
        · rw [pk_un e, fs_n e, hg j hj]
  exact key m b h g (cntB_le b m) hh hg hq
theorem m_clk {m n p : Nat} {a : AClk} {hd : Int32} {pf bf : Nat → Int32} (hi : ClkInv m n a) (hn : n ≤ 400) (hm : 1 ≤ m) (hm2 : m ≤ 16) (hp : p < 64) (hr : ClkM m a hd pf bf) {Q : Int32 → Int32 → (Nat → Int32) → (Nat → Int32) → Prop} (h : ∀ hd pf bf, ClkM m (clkStep m p a) hd pf bf → Q (clkFault p a) hd pf bf) : wR_X10_touchClock (nI m) (nI p) hd pf bf Q := by
  obtain ⟨u, pg, bt, h0, F⟩ := a
  obtain ⟨h1, h2, h3, h4, h5⟩ := hi
  obtain ⟨g3, g4, g5⟩ := hr
  simp only at h1 h2 h3 h4 h5 g3 g4 g5
  subst g3
  refine m_frameOf hm2 h1 hp g4 h3 (fun hne => ?_) (fun i hi he => ?_)
  · have hx := ixf_none.mpr hne
    have hfa : clkFault p (u, pg, bt, h0, F) = 1 := by simp only [clkFault, hx, if_true]
    rw [hfa] at h
    have hst : clkStep m p (u, pg, bt, h0, F) = if u < m then (u + 1, fset pg u p, fset bt u true, h0, F + 1) else (u, fset pg (clr m m bt h0).2 p, fset (clr m m bt h0).1 (clr m m bt h0).2 true, nxt m (clr m m bt h0).2, F + 1) := by
      simp only [clkStep, hx]
    rw [hst] at h
    refine ip rfl ?_
    -- the free frame
    have exit : wR_X10_touchClock_46 (nI m) (nI p) Q (nI u) (nI h0) pf bf := by
      by_cases hlt : u < m
      · rw [if_pos hlt] at h
        refine iq ?_ ⟨vp_in_nI (by omega) (by omega), vp_in_nI (by omega) (by omega), ?_⟩
        · rw [nI_leI (by omega) (by omega)]; omega
        · rw [nI_clamp (by omega), nar1]
          refine h _ _ _ ⟨rfl, fun i hi => ?_, fun i hi => ?_⟩
          · simp only
            by_cases e : i = u
            · rw [e, pk_us, fs_s, if_pos (by omega)]
            · rw [pk_un e, fs_n e, g4 i hi]
              by_cases e2 : i < u
              · rw [if_pos e2, if_pos (by omega)]
              · rw [if_neg e2, if_neg (by omega)]
          · simp only at hi ⊢
            by_cases e : i = u
            · rw [e, pk_us, fs_s]; rfl
            · rw [pk_un e, fs_n e, g5 i (by omega)]
      · rw [if_neg hlt] at h
        have hum : u = m := by omega
        subst hum
        refine ip (nI_le (by omega) (by omega)) (m_clr hm2 h2 g5 (fun g hg => ?_))
        have hc := clr_lt u bt h0 h2
        refine h _ _ _ ⟨rfl, fun i hi => ?_, fun i hi => ?_⟩
        · simp only
          by_cases e : i = (clr u u bt h0).2
          · rw [e, pk_us, fs_s, if_pos hc]
          · rw [pk_un e, fs_n e, g4 i hi]
        · simp only at hi ⊢
          by_cases e : i = (clr u u bt h0).2
          · rw [e, pk_us, fs_s]; rfl
          · rw [pk_un e, fs_n e, hg i (by omega)]
    intro I hI
    have key : ∀ d i, i + d = u → I (nI i) (nI h0) pf bf := by
      intro d
      induction d with
      | zero =>
        intro i hi
        have : i = u := by omega
        subst this
        apply hI
        by_cases hlt : i < m
        · refine iq ?_ ⟨vp_in_nI (by omega) (by omega), ?_⟩
          · rw [nI_leI (by omega) (by omega)]; omega
          · rw [nI_clamp (by omega), g4 i hlt, if_neg (by omega)]
            exact ip rfl exit
        · exact ip (nI_le (by omega) (by omega)) exit
      | succ d ih =>
        intro i hi
        apply hI
        refine iq ?_ ⟨vp_in_nI (by omega) (by omega), ?_⟩
        · rw [nI_leI (by omega) (by omega)]; omega
        · have := h3 i (by omega)
          rw [nI_clamp (by omega), g4 i (by omega), if_pos (by omega)]
          refine iq (nI_m1 (by omega)) ?_
          rw [nI_1]
          exact ih (i + 1) (by omega)
    exact key u 0 (by omega)
  · have hx := ixf_inj h4 hi he
    have hfa : clkFault p (u, pg, bt, h0, F) = 0 := by simp only [clkFault, hx]; rfl
    rw [hfa] at h
    have hst : clkStep m p (u, pg, bt, h0, F) = (u, pg, fset bt i true, h0, F) := by
      simp only [clkStep, hx]
    rw [hst] at h
    refine iq (nI_m1 (by omega)) ⟨vp_in_nI (by omega) (by omega), ?_⟩
    rw [nI_clamp (by omega), nar1]
    refine h _ _ _ ⟨rfl, g4, fun j hj => ?_⟩
    simp only at hj ⊢
    by_cases e : j = i
    · rw [e, pk_us, fs_s]; rfl
    · rw [pk_un e, fs_n e, g5 j hj]
/-- the victim -/
theorem k_vic {m u h : Nat} {b : Nat → Bool} {g : Nat → Int32} {f : Nat → Int32} {us : Int32} (hm2 : m ≤ 16) (hh : h < m) (hg : ∀ i, i < m → g i = bI (b i)) {Q : Int32 → Prop} (hq : Q (f (vic m b m h))) : wR_X2_nextVictim_20 (nI m) us (nI h) f g Q (nI h) 0 := by
  intro I hI
  have key : ∀ k i x, i + k = m → x < m → Q (f (vic m b k x)) → I (nI x) (nI i) := by
    intro k
    induction k with
    | zero =>
      intro i x hi hx hq
      apply hI
      refine ip (nI_le (by omega) (by omega)) ⟨vp_in_nI (by omega) (by omega), ?_⟩
      rw [nI_clamp (by omega)]; exact hq
    | succ k ih =>
      intro i x hi hx hq
      apply hI
      unfold vic at hq
      refine iq (fun hc => absurd ((nI_leI (by omega) (by omega)).mp hc) (by omega)) ⟨vp_in_nI (by omega) (by omega), ?_⟩
      rw [nI_clamp (by omega), hg x hx, bI_z]
      cases hb : b x with
      | false =>
        rw [if_neg (by simp [hb])] at hq
        refine ip rfl ⟨vp_in_nI (by omega) (by omega), ?_⟩
        rw [nI_clamp (by omega)]; exact hq
      | true =>
        rw [if_pos hb] at hq
        refine iq (by decide) (k_after hm2 hx ?_)
        rw [nI_1]
        exact ih (i + 1) (nxt m x) (by omega) (nxt_lt hx) hq
  exact key m 0 h (by omega) hh hq
theorem m_vic {m h : Nat} {b : Nat → Bool} {g : Nat → Int32} (hm2 : m ≤ 16) (hh : h < m) (hg : ∀ i, i < m → g i = bI (b i)) {Q : Int32 → Prop} (hq : Q (nI (vic m b m h))) : wR_X10_frameNext (nI m) (nI h) g Q := by
  intro I hI
  have key : ∀ k s, s + k = m → Q (nI (vic m b k ((h + s) % m))) → I (nI s) := by
    intro k
    induction k with
    | zero =>
      intro s hs hq
      apply hI
      refine ip (nI_le (by omega) (by omega)) ?_
      have e : (h + s) % m = h := by
        have : s = m := by omega
        rw [this, Nat.add_mod_right, Nat.mod_eq_of_lt hh]
      rw [e] at hq
      exact hq
    | succ k ih =>
      intro s hs hq
      apply hI
      have hl : (h + s) % m < m := Nat.mod_lt _ (by omega)
      have hm0 : ¬ nI m = 0 := fun e => by have := (nI_z (by omega)).mp e; omega
      have hx : (nI h + nI s) - (nI h + nI s) / nI m * nI m = nI ((h + s) % m) := by
        rw [nI_add, pk_rem (by omega) (by omega) (by omega)]
      refine iq (fun hc => absurd ((nI_leI (by omega) (by omega)).mp hc) (by omega)) ⟨hm0, ?_⟩
      rw [hx]
      refine ⟨vp_in_nI (by omega) (by omega), ?_⟩
      rw [nI_clamp (by omega), hg _ hl, bI_z]
      unfold vic at hq
      cases hb : b ((h + s) % m) with
      | false =>
        rw [if_neg (by simp [hb])] at hq
        exact jq rfl ⟨hm0, hq⟩
      | true =>
        rw [if_pos hb] at hq
        refine jp (by decide) ?_
        rw [nI_1]
        refine ih (s + 1) (by omega) ?_
        have : (h + (s + 1)) % m = nxt m ((h + s) % m) := by
          rw [← nxt_mod hl, ← Nat.add_assoc, Nat.mod_add_mod]
        rw [this]
        exact hq
  refine key m 0 (by omega) ?_
  rw [Nat.add_zero, Nat.mod_eq_of_lt hh]
  exact hq
