/-! PURE: the best replacement, the class -/
theorem k_fill {N : Nat} {v : Int32} {f : Nat → Int32} (hN : N < 2 ^ 30) {Q : (Nat → Int32) → Prop} (h : ∀ g, (∀ i, i < N → g i = v) → Q g) : wR_J7_fill_53178 N v f Q := by
  intro I hI
  have key : ∀ d i (g : Nat → Int32), i + d = N → (∀ j, j < i → g j = v) → I (nI i) (nI N) g := by
    intro d
    induction d with
    | zero =>
      intro i g hi hg
      apply hI
      have e : i = N := by omega
      subst e
      exact ip (nI_le (Nat.le_refl _) (by omega)) (h g hg)
    | succ d ih =>
      intro i g hi hg
      apply hI
      refine iq (fun hc => absurd ((nI_leI (by omega) (by omega)).mp hc) (by omega)) ⟨vp_in_nI (by omega) (by omega), ?_⟩
      rw [nI_clamp (by omega), nI_1]
      refine ih (i + 1) _ (by omega) (fun j hj => ?_)
      by_cases e : j = i
      · rw [e, pk_us]
      · rw [pk_un e]; exact hg j (by omega)
  exact key N 0 f (by omega) (fun j hj => absurd hj (Nat.not_lt_zero j))
theorem k_next {n : Nat} {t : Nat → Nat} {pg nt np : Nat → Int32} (hn : n ≤ 400) (ht : ∀ i, i < n → t i < 64) (hpg : ∀ i, i < n → pg i = nI (t i)) {Q : (Nat → Int32) → (Nat → Int32) → Prop} (h : ∀ nt np, (∀ k, k < n → nt k = nI (nx t n (t k) (k + 1))) → Q nt np) : wR_X3_findNextTouches (nI n) pg nt np Q := by
  refine k_fill (by omega) (fun np hnp => ?_)
  intro I hI
  have key : ∀ k, k ≤ n → ∀ nt np : Nat → Int32, (∀ j, k ≤ j → j < n → nt j = nI (nx t n (t j) (j + 1))) → (∀ p, p < 64 → np p = nI (nx t n p k)) → I (nI k - 1) nt np := by
    intro k
    induction k with
    | zero =>
      intro hk nt np hnt hnp
      apply hI
      exact ip (by decide) (h nt np (fun j hj => hnt j (Nat.zero_le _) hj))
    | succ k ih =>
      intro hk nt np hnt hnp
      have hkt := ht k (by omega)
      have hc := nI_pos (n := k) (by omega)
      apply hI
      rw [nI_sub1]
      refine iq hc ?_
      rw [nI_clamp (by omega), hpg k (by omega), nI_clamp (by omega)]
      refine ⟨vp_in_nI (by omega) (by omega), vp_in_nI hkt (by omega), vp_in_nI (by omega) (by omega), vp_in_nI hkt (by omega), ?_⟩
      have hm1 : nI k + -1 = nI k - 1 := by grind
      rw [hm1]
      refine ih (by omega) _ _ (fun j hj hj2 => ?_) (fun p hp => ?_)
      · by_cases e : j = k
        · rw [e, pk_us, hnp _ hkt]
        · rw [pk_un e]; exact hnt j (by omega) hj2
      · rw [nx_step (by omega)]
        by_cases e : p = t k
        · rw [e, pk_us, if_pos rfl]
        · rw [pk_un e, if_neg (fun hh => e hh.symm)]; exact hnp p hp
  exact key n (Nat.le_refl n) nt np (fun j h1 h2 => by omega) (fun p hp => by rw [hnp p hp, nx_end (Nat.le_refl n)]; rfl)
theorem k_wait {u k : Nat} {V : Nat → Nat} {nf : Nat → Int32} (hu : u ≤ 16) (hk : k < 400) (hV : ∀ i, i < u → V i ≤ 400) (hnf : ∀ i, i < u → nf i = nI (V i)) {Q : Int32 → Prop} (h0 : fwt V k u 0 = none → Q (-1)) (h1 : ∀ f, fwt V k u 0 = some f → Q (nI f)) : wR_X3_frameWaitingFor nf (nI k) (nI u) Q := by
  intro I hI
  have key : ∀ d i, i + d = u → fwt V k u 0 = fwt V k d i → I (nI i) := by
    intro d
    induction d with
    | zero =>
      intro i hi he
      apply hI
      exact ip (nI_le (by omega) (by omega)) (h0 he)
    | succ d ih =>
      intro i hi he
      apply hI
      have := hV i (by omega)
      refine iq (fun hc => absurd ((nI_leI (by omega) (by omega)).mp hc) (by omega)) ⟨vp_in_nI (by omega) (by omega), ?_⟩
      rw [nI_clamp (by omega), hnf i (by omega), nI_eq (by omega) (by omega), nI_1]
      rw [show fwt V k (d + 1) i = if V i = k then some i else fwt V k d (i + 1) from rfl] at he
      refine ⟨fun hne => ?_, fun hh => ?_⟩
      · rw [if_neg hne] at he
        exact ih (i + 1) (by omega) he
      · rw [if_pos hh] at he
        exact h1 i he
  exact key u 0 (by omega) rfl
theorem k_far {u : Nat} {V : Nat → Nat} {nf : Nat → Int32} (hu1 : 1 ≤ u) (hu : u ≤ 16) (hV : ∀ i, i < u → V i ≤ 400) (hnf : ∀ i, i < u → nf i = nI (V i)) {Q : Int32 → Prop} (h : Q (nI (far V (u - 1) 1 0))) : wR_X3_farthest nf (nI u) Q := by
  intro I hI
  have key : ∀ d i b, i + d = u → b < i → far V (u - 1) 1 0 = far V d i b → I (nI b) (nI i) := by
    intro d
    induction d with
    | zero =>
      intro i b hi hb he
      apply hI
      rw [he] at h
      exact ip (nI_le (by omega) (by omega)) h
    | succ d ih =>
      intro i b hi hb he
      apply hI
      have a1 := hV i (by omega)
      have a2 := hV b (by omega)
      refine iq (fun hc => absurd ((nI_leI (by omega) (by omega)).mp hc) (by omega)) ⟨vp_in_nI (by omega) (by omega), vp_in_nI (by omega) (by omega), ?_⟩
      rw [nI_clamp (by omega), nI_clamp (by omega), hnf i (by omega), hnf b (by omega), nI_leI (by omega) (by omega)]
      rw [show far V (d + 1) i b = far V d (i + 1) (if V b < V i then i else b) from rfl] at he
      refine ⟨fun c => ?_, fun c => ?_⟩
      · rw [if_neg (by omega)] at he
        show I (nI b) (nI i + 1)
        rw [nI_1]
        exact ih (i + 1) b (by omega) (by omega) he
      · rw [if_pos (by omega)] at he
        show I (nI i) (nI i + 1)
        rw [nI_1]
        exact ih (i + 1) i (by omega) (by omega) he
  exact key (u - 1) 1 0 (by omega) (by omega) rfl
theorem c_bel {n m : Nat} {t : Nat → Nat} {pg nt np nf : Nat → Int32} (hn : n ≤ 400) (hm : 1 ≤ m) (hm2 : m ≤ 16) (ht : ∀ i, i < n → t i < 64) (hpg : ∀ i, i < n → pg i = nI (t i)) {Q : Int32 → (Nat → Int32) → (Nat → Int32) → (Nat → Int32) → Prop} (h : ∀ nt np nf, Q (nI (bel t n m n).2.2) nt np nf) : wR_X3_fewestFaults (nI n) pg (nI m) nt np nf Q := by
  refine k_next hn ht hpg (fun nt np hnt => ?_)
  intro I hI
  have key : ∀ d k (nf : Nat → Int32), k + d = n → (∀ i, i < (bel t n m k).1 → nf i = nI ((bel t n m k).2.1 i)) → I (nI (bel t n m k).1) (nI (bel t n m k).2.2) (nI k) nt np nf := by
    intro d
    induction d with
    | zero =>
      intro k nf hk hnf
      apply hI
      have e : k = n := by omega
      subst e
      exact ip (nI_le (by omega) (by omega)) (h _ _ _)
    | succ d ih =>
      intro k nf hk hnf
      apply hI
      have hinv := bel_inv (t := t) (n := n) (m := m) hn hm k
      have ih' := ih (k + 1)
      have hb : bel t n m (k + 1) = bst m k (nx t n (t k) (k + 1)) (bel t n m k) := rfl
      rw [hb] at ih'
      have hx := hnt k (by omega)
      have hxl := nx_le (t := t) (p := t k) (k := k + 1) hn
      generalize bel t n m k = a at *
      generalize nx t n (t k) (k + 1) = x at *
      obtain ⟨u, V, c⟩ := a
      obtain ⟨i1, i2, i3, i4, i5⟩ := hinv
      simp only at i1 i2 i3 i4 i5 hnf ⊢
      refine iq (fun hc => absurd ((nI_leI (by omega) (by omega)).mp hc) (by omega)) (k_wait (by omega) (by omega) i5 hnf (fun h0 => ?_) (fun f hf => ?_))
      · refine jq rfl ?_
        unfold bst at ih'
        simp only [h0] at ih'
        by_cases hlt : u < m
        · rw [if_pos hlt] at ih'
          refine iq (fun hc => absurd ((nI_leI (by omega) (by omega)).mp hc) (by omega)) ?_
          unfold wR_X3_fewestFaults_54
          rw [nI_1, nI_1, if_pos (nI_lt (by omega) (by omega))]
          refine ⟨vp_in_nI (by omega) (by omega), vp_in_nI (by omega) (by omega), ?_⟩
          rw [nI_clamp (by omega), nI_clamp (by omega), hx, nI_1]
          refine ih' _ (by omega) (fun i hi => ?_)
          simp only at hi ⊢
          by_cases e : i = u
          · rw [e, pk_us, fs_s]
          · rw [pk_un e, fs_n e]; exact hnf i (by omega)
        · rw [if_neg hlt] at ih'
          have hfar := (far_spec (V := V) (d := u - 1) (i := 1) (b := 0) (by omega) (fun j hj => by rw [show j = 0 by omega]; exact Nat.le_refl _)).1
          refine ip (nI_le (by omega) (by omega)) (k_far (by omega) (by omega) i5 hnf ?_)
          generalize far V (u - 1) 1 0 = f at *
          unfold wR_X3_fewestFaults_54
          rw [nI_1, nI_1, if_neg (nI_nlt (by omega) (by omega))]
          refine ⟨vp_in_nI (by omega) (by omega), vp_in_nI (by omega) (by omega), ?_⟩
          rw [nI_clamp (by omega), nI_clamp (by omega), hx, nI_1]
          refine ih' _ (by omega) (fun i hi => ?_)
          simp only at hi ⊢
          by_cases e : i = f
          · rw [e, pk_us, fs_s]
          · rw [pk_un e, fs_n e]; exact hnf i hi
      · have hs := fwt_some hf
        unfold bst at ih'
        simp only [hf] at ih'
        refine jp (nI_m1 (by omega)) ⟨vp_in_nI (by omega) (by omega), vp_in_nI (by omega) (by omega), ?_⟩
        rw [nI_clamp (by omega), nI_clamp (by omega), hx, nI_1]
        refine ih' _ (by omega) (fun i hi => ?_)
        by_cases e : i = f
        · rw [e, pk_us, fs_s]
        · rw [pk_un e, fs_n e]; exact hnf i hi
  exact key n 0 nf (by omega) (fun i hi => absurd hi (Nat.not_lt_zero i))
