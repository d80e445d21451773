/-! PURE: the best replacement, the reference -/
def GI (t : Nat → Nat) (n k u : Nat) (V pg : Nat → Nat) (H : Nat → Bool) : Prop := (∀ i, i < u → V i = nx t n (pg i) k ∧ pg i < 64) ∧ Inj pg u ∧ ∀ p, H p = true ↔ ∃ i, i < u ∧ pg i = p
theorem nx_else {t : Nat → Nat} {n q k : Nat} (hk : k < n) (h : q ≠ t k) : nx t n q k = nx t n q (k + 1) := by rw [nx_step hk, if_neg (fun e => h e.symm)]
theorem GI.hit {t : Nat → Nat} {n k u f : Nat} {V pg : Nat → Nat} {H : Nat → Bool} (h : GI t n k u V pg H) (hn : n ≤ 400) (hk : k < n) (hf : fwt V k u 0 = some f) : H (t k) = true ∧ GI t n (k + 1) u (fset V f (nx t n (t k) (k + 1))) pg H := by
  obtain ⟨h1, h2, h3⟩ := h
  obtain ⟨_, f1, f2⟩ := fwt_some hf
  have e : pg f = t k := by
    have := (h1 f (by omega)).1
    rw [f2] at this
    exact ((nx_here hn hk).mp this.symm).symm
  refine ⟨(h3 _).mpr ⟨f, by omega, e⟩, fun i hi => ⟨?_, (h1 i hi).2⟩, h2, h3⟩
  by_cases c : i = f
  · rw [c, fs_s, e]
  · rw [fs_n c, (h1 i hi).1]
    refine nx_else hk (fun hh => c (h2 i f hi (by omega) (by rw [hh, e])))
theorem GI.nohit {t : Nat → Nat} {n k u : Nat} {V pg : Nat → Nat} {H : Nat → Bool} (h : GI t n k u V pg H) (hn : n ≤ 400) (hk : k < n) (hf : fwt V k u 0 = none) : ∀ i, i < u → pg i ≠ t k := by
  obtain ⟨h1, h2, h3⟩ := h
  intro i hi e
  refine fwt_none hf i (Nat.zero_le _) (by omega) ?_
  rw [(h1 i hi).1, e]
  exact (nx_here hn hk).mpr rfl
theorem GI.new {t : Nat → Nat} {n k u : Nat} {V pg : Nat → Nat} {H : Nat → Bool} (h : GI t n k u V pg H) (hn : n ≤ 400) (hk : k < n) (ht : t k < 64) (hf : fwt V k u 0 = none) : GI t n (k + 1) (u + 1) (fset V u (nx t n (t k) (k + 1))) (fset pg u (t k)) (fset H (t k) true) := by
  have hne := h.nohit hn hk hf
  obtain ⟨h1, h2, h3⟩ := h
  refine ⟨fun i hi => ?_, fun i j hi hj he => ?_, fun p => ?_⟩
  · by_cases c : i = u
    · rw [c, fs_s, fs_s]; exact ⟨rfl, ht⟩
    · rw [fs_n c, fs_n c, (h1 i (by omega)).1]
      exact ⟨nx_else hk (hne i (by omega)), (h1 i (by omega)).2⟩
  · by_cases ci : i = u
    · by_cases cj : j = u
      · omega
      · rw [ci, fs_s, fs_n cj] at he
        exact absurd he.symm (hne j (by omega))
    · by_cases cj : j = u
      · rw [cj, fs_s, fs_n ci] at he
        exact absurd he (hne i (by omega))
      · rw [fs_n ci, fs_n cj] at he
        exact h2 i j (by omega) (by omega) he
  · by_cases c : p = t k
    · rw [c, fs_s]
      exact ⟨fun _ => ⟨u, by omega, fs_s⟩, fun _ => rfl⟩
    · rw [fs_n c, h3]
      refine ⟨fun ⟨i, h4, h5⟩ => ⟨i, by omega, by rw [fs_n (by omega)]; exact h5⟩, fun ⟨i, h4, h5⟩ => ?_⟩
      by_cases ci : i = u
      · rw [ci, fs_s] at h5; exact absurd h5.symm c
      · rw [fs_n ci] at h5; exact ⟨i, by omega, h5⟩
theorem GI.full {t : Nat → Nat} {n k u f r : Nat} {V pg : Nat → Nat} {H : Nat → Bool} (h : GI t n k u V pg H) (hn : n ≤ 400) (hk : k < n) (ht : t k < 64) (hf : fwt V k u 0 = none) (hfu : f < u) (hmax : ∀ j, j < u → V j ≤ V f) (hr : H r = true) (hrm : ∀ q, q < 64 → H q = true → nx t n q k ≤ nx t n r k) : GI t n (k + 1) u (fset V f (nx t n (t k) (k + 1))) (fun i => if i = f then t k else if pg i = r then pg f else pg i) (fset (fset H r false) (t k) true) := by
  have hne := h.nohit hn hk hf
  obtain ⟨h1, h2, h3⟩ := h
  obtain ⟨f', hf', er⟩ := (h3 r).mp hr
  have hgm : nx t n (pg f) k = nx t n r k := by
    have a1 := hrm (pg f) (h1 f hfu).2 ((h3 _).mpr ⟨f, hfu, rfl⟩)
    have a2 := hmax f' hf'
    rw [(h1 f' hf').1, (h1 f hfu).1, er] at a2
    omega
  refine ⟨fun i hi => ?_, fun i j hi hj he => ?_, fun p => ?_⟩
  · simp only
    by_cases c : i = f
    · rw [c, fs_s, if_pos rfl]; exact ⟨rfl, ht⟩
    · rw [fs_n c, if_neg c, (h1 i hi).1]
      by_cases c2 : pg i = r
      · rw [if_pos c2, c2, ← hgm]
        exact ⟨nx_else hk (hne f hfu), (h1 f hfu).2⟩
      · rw [if_neg c2]
        exact ⟨nx_else hk (hne i hi), (h1 i hi).2⟩
  · simp only at he
    have no : ∀ i, i < u → (if pg i = r then pg f else pg i) ≠ t k := fun i hi => by
      split
      · exact hne f hfu
      · exact hne i hi
    by_cases ci : i = f
    · by_cases cj : j = f
      · omega
      · rw [if_pos ci, if_neg cj] at he
        exact absurd he.symm (no j hj)
    · by_cases cj : j = f
      · rw [if_neg ci, if_pos cj] at he
        exact absurd he (no i hi)
      · rw [if_neg ci, if_neg cj] at he
        by_cases di : pg i = r
        · by_cases dj : pg j = r
          · exact h2 i j hi hj (by rw [di, dj])
          · rw [if_pos di, if_neg dj] at he
            exact absurd (h2 f j hfu hj he).symm cj
        · by_cases dj : pg j = r
          · rw [if_neg di, if_pos dj] at he
            exact absurd (h2 i f hi hfu he) ci
          · rw [if_neg di, if_neg dj] at he
            exact h2 i j hi hj he
  · simp only
    by_cases c : p = t k
    · rw [c, fs_s]
      exact ⟨fun _ => ⟨f, hfu, if_pos rfl⟩, fun _ => rfl⟩
    · rw [fs_n c]
      constructor
      · intro hp
        by_cases d : p = r
        · rw [d, fs_s] at hp; exact absurd hp (by decide)
        · rw [fs_n d] at hp
          obtain ⟨i, hi, e⟩ := (h3 p).mp hp
          by_cases ci : i = f
          · refine ⟨f', hf', ?_⟩
            have : f' ≠ f := fun hh => d (by rw [← e, ci, ← hh, er])
            rw [if_neg this, if_pos er, ← e, ci]
          · exact ⟨i, hi, by rw [if_neg ci, if_neg (by rw [e]; exact d)]; exact e⟩
      · rintro ⟨i, hi, e⟩
        by_cases ci : i = f
        · rw [if_pos ci] at e; exact absurd e.symm c
        · rw [if_neg ci] at e
          by_cases di : pg i = r
          · rw [if_pos di] at e
            have : p ≠ r := fun hh => ci (h2 i f hi hfu (by rw [di, e, hh]))
            rw [fs_n this]
            exact (h3 p).mpr ⟨f, hfu, e⟩
          · rw [if_neg di] at e
            rw [fs_n (by rw [← e]; exact di)]
            exact (h3 p).mpr ⟨i, hi, e⟩
theorem m_next {n q k : Nat} {t : Nat → Nat} {tf : Nat → Int32} (hn : n ≤ 400) (hk : k ≤ n) (hq : q < 64) (ht : ∀ i, i < n → t i < 64) (htf : ∀ i, i < n → tf i = nI (t i)) {Q : Int32 → Prop} (h : Q (nI (min n (nx t n q k)))) : wR_X10_nextOf (nI n) tf (nI q) (nI k) Q := by
  intro I hI
  have key : ∀ d i, i + d = n → nx t n q k = nx t n q i → I (nI i) := by
    intro d
    induction d with
    | zero =>
      intro i hi he
      apply hI
      rw [he, nx_end (by omega), show min n 400 = i by omega] at h
      exact ip (nI_le (by omega) (by omega)) h
    | succ d ih =>
      intro i hi he
      apply hI
      have := ht i (by omega)
      refine iq (fun hc => absurd ((nI_leI (by omega) (by omega)).mp hc) (by omega)) ⟨vp_in_nI (by omega) (by omega), ?_⟩
      rw [nI_clamp (by omega), htf i (by omega), nI_eq (by omega) (by omega)]
      rw [nx_step (k := i) (by omega)] at he
      refine ⟨fun c => ?_, fun c => ?_⟩
      · rw [if_pos c] at he
        rw [he, show min n i = i by omega] at h
        exact h
      · rw [if_neg c] at he
        rw [nI_1]
        exact ih (i + 1) (by omega) he
  exact key (n - k) k (by omega) rfl
theorem nx_min {t : Nat → Nat} {n p q k : Nat} (hn : n ≤ 400) : nI (min n (nx t n p k)) ≤ nI (min n (nx t n q k)) ↔ nx t n p k ≤ nx t n q k := by
  have a1 := nx_cases (t := t) (n := n) (p := p) (k := k) rfl
  have a2 := nx_cases (t := t) (n := n) (p := q) (k := k) rfl
  rw [nI_leI (by omega) (by omega)]
  omega
theorem m_far {n k u m : Nat} {t : Nat → Nat} {tf ti : Nat → Int32} {H : Nat → Bool} {x2 : Int32} (hn : n ≤ 400) (hk : k < n) (hm2 : m ≤ 16) (hum : m < u + 1) (hu : u ≤ 64) (ht : ∀ i, i < n → t i < 64) (htf : ∀ i, i < n → tf i = nI (t i)) (hti : ∀ p, p < 64 → ti p = bI (H p)) {Q : Int32 → (Nat → Int32) → Prop} {I : Int32 → Int32 → Int32 → (Nat → Int32) → Prop} (h : ∀ x, OldI H (fun p => 400 - nx t n p k) 64 x → wR_X10_bestOf_129 (nI n) tf (nI m) Q I x2 (nI (u + 1)) (nI k) x ti) : wR_X10_bestOf_67 (nI n) tf (nI m) Q I x2 (nI (u + 1)) (nI k) (-1) 0 ti := by
  intro J hJ
  have key : ∀ d i x, i + d = 64 → OldI H (fun p => 400 - nx t n p k) i x → J x2 (nI (u + 1)) (nI k) x (nI i) ti := by
    intro d
    induction d with
    | zero =>
      intro i x hi ho
      apply hJ
      have e : i = 64 := by omega
      subst e
      exact ip (nI_le (a := 64) (Nat.le_refl _) (by omega)) (h x ho)
    | succ d ih =>
      intro i x hi ho
      apply hJ
      refine iq (fun hc => absurd ((nI_leI (a := 64) (by omega) (by omega)).mp hc) (by omega)) (iq (fun hc => absurd ((nI_leI (by omega) (by omega)).mp hc) (by omega)) ⟨vp_in_nI (by omega) (by omega), ?_⟩)
      rw [nI_clamp (by omega), hti i (by omega)]
      cases hH : H i with
      | false =>
        refine ip (by decide) ?_
        show J x2 (nI (u + 1)) (nI k) x (nI i + 1) ti
        rw [nI_1]
        exact ih (i + 1) _ (by omega) (ho.keep hH)
      | true =>
        refine iq (by decide) ⟨fun he => ?_, fun hne => ?_⟩
        · show J x2 (nI (u + 1)) (nI k) (nI i) (nI i + 1) ti
          rw [nI_1]
          exact ih (i + 1) _ (by omega) (ho.first (by omega) hH he)
        · rcases ho.cases with he | ⟨q, hq, he⟩
          · exact absurd he hne
          · subst he
            refine m_next hn (by omega) (by omega) ht htf (m_next hn (by omega) (by omega) ht htf ?_)
            rw [nx_min hn]
            have l1 := nx_le (t := t) (p := i) (k := k) hn
            have l2 := nx_le (t := t) (p := q) (k := k) hn
            refine ⟨fun c => ?_, fun c => ?_⟩
            · show J x2 (nI (u + 1)) (nI k) (nI q) (nI i + 1) ti
              rw [nI_1]
              exact ih (i + 1) _ (by omega) (ho.stay (by omega) hq (by omega))
            · show J x2 (nI (u + 1)) (nI k) (nI i) (nI i + 1) ti
              rw [nI_1]
              exact ih (i + 1) _ (by omega) (ho.turn (by omega) hq hH (by omega))
  exact key 64 0 _ rfl OldI.start
theorem m_bel {n m : Nat} {t : Nat → Nat} {tf ti : Nat → Int32} (hn : n ≤ 400) (hm : 1 ≤ m) (hm2 : m ≤ 16) (ht : ∀ i, i < n → t i < 64) (htf : ∀ i, i < n → tf i = nI (t i)) {Q : Int32 → (Nat → Int32) → Prop} (h : ∀ ti, Q (nI (bel t n m n).2.2) ti) : wR_X10_bestOf (nI n) tf (nI m) ti Q := by
  have main : ∀ ti : Nat → Int32, (∀ p, p < 64 → ti p = 0) → wR_X10_bestOf_31 (nI n) tf (nI m) Q 0 0 0 ti := by
    intro ti hti I hI
    have key : ∀ d k (ti : Nat → Int32) pg H, k + d = n → GI t n k (bel t n m k).1 (bel t n m k).2.1 pg H → (∀ p, p < 64 → ti p = bI (H p)) → I (nI (bel t n m k).2.2) (nI (bel t n m k).1) (nI k) ti := by
      intro d
      induction d with
      | zero =>
        intro k ti pg H hk hG hti
        apply hI
        have e : k = n := by omega
        subst e
        exact ip (nI_le (by omega) (by omega)) (h ti)
      | succ d ih =>
        intro k ti pg H hk hG hti
        apply hI
        have hkt := ht k (by omega)
        have hinv := bel_inv (t := t) (n := n) (m := m) hn hm k
        have ih' := ih (k + 1)
        have hb : bel t n m (k + 1) = bst m k (nx t n (t k) (k + 1)) (bel t n m k) := rfl
        rw [hb] at ih'
        generalize bel t n m k = a at *
        obtain ⟨u, V, c⟩ := a
        obtain ⟨i1, i2, i3, i4, i5⟩ := hinv
        simp only at i1 i2 i3 i4 i5 hG ⊢
        refine iq (fun hc => absurd ((nI_leI (by omega) (by omega)).mp hc) (by omega)) ?_
        rw [nI_clamp (by omega), htf k (by omega), nI_clamp (by omega)]
        refine ⟨vp_in_nI (by omega) (by omega), vp_in_nI hkt (by omega), ?_⟩
        rw [hti _ hkt, bI_z]
        have end' : ∀ x2 x3 ti, I x2 x3 (nI (k + 1)) (upd ti (t k) 1) → wR_X10_bestOf_146 (nI n) tf (nI m) Q I x2 x3 (nI k) ti := by
          intro x2 x3 ti hh
          unfold wR_X10_bestOf_146 wR_X10_bestOf_159
          rw [nI_clamp (by omega), htf k (by omega), nI_clamp (by omega), nI_1]
          exact ⟨vp_in_nI (by omega) (by omega), vp_in_nI hkt (by omega), hh⟩
        cases hf : fwt V k u 0 with
        | some f =>
          obtain ⟨g1, g2⟩ := hG.hit hn (by omega) hf
          unfold bst at ih'
          simp only [hf] at ih'
          refine jp (by rw [g1]; decide) ?_
          show I _ _ (nI k + 1) ti
          rw [nI_1]
          exact ih' ti pg H (by omega) g2 hti
        | none =>
          have hne := hG.nohit hn (by omega) hf
          have hHk : H (t k) = false := by
            cases hx : H (t k) with
            | false => rfl
            | true =>
              obtain ⟨i, hi, e⟩ := (hG.2.2 _).mp hx
              exact absurd e (hne i hi)
          unfold bst at ih'
          simp only [hf] at ih'
          refine jq hHk ?_
          rw [nI_1, nI_1]
          by_cases hlt : u < m
          · rw [if_pos hlt] at ih'
            intro J hJ
            apply hJ
            refine iq (by decide) (ip (nI_le (by omega) (by omega)) (ip rfl (end' _ _ _ ?_)))
            refine ih' _ _ _ (by omega) (hG.new hn (by omega) hkt hf) (fun p hp => ?_)
            by_cases e : p = t k
            · rw [e, pk_us, fs_s]; rfl
            · rw [pk_un e, fs_n e]; exact hti p hp
          · rw [if_neg hlt] at ih'
            have hfar := far_spec (V := V) (d := u - 1) (i := 1) (b := 0) (by omega) (fun j hj => by rw [show j = 0 by omega]; exact Nat.le_refl _)
            rw [show 1 + (u - 1) = u by omega] at hfar
            refine m_far hn (by omega) hm2 (by omega) (by omega) ht htf hti (fun x ho => ?_)
            rcases ho with ⟨_, h2⟩ | ⟨r, hr64, rfl, hr, hrm⟩
            · have := (hG.2.2 (pg 0)).mpr ⟨0, by omega, rfl⟩
              rw [h2 _ (hG.1 0 (by omega)).2] at this
              exact absurd this (by decide)
            · refine iq (nI_m1 (by omega)) ⟨vp_in_nI hr64 (by omega), ?_⟩
              rw [pk_m1, nI_clamp (by omega)]
              refine end' _ _ _ ?_
              have hG' := hG.full (f := far V (u - 1) 1 0) (r := r) hn (by omega) hkt hf hfar.1 hfar.2 hr (fun q hq hH => by
                have := hrm q hq hH
                have l1 := nx_le (t := t) (p := q) (k := k) hn
                have l2 := nx_le (t := t) (p := r) (k := k) hn
                simp only at this
                omega)
              refine ih' _ _ _ (by omega) hG' (fun p hp => ?_)
              by_cases e : p = t k
              · rw [e, pk_us, fs_s]; rfl
              · rw [pk_un e, fs_n e]
                by_cases e2 : p = r
                · rw [e2, pk_us, fs_s]; rfl
                · rw [pk_un e2, fs_n e2]; exact hti p hp
    exact key n 0 ti (fun _ => 0) (fun _ => false) (by omega) ⟨fun i hi => absurd hi (Nat.not_lt_zero i), fun i j hi => absurd hi (Nat.not_lt_zero i), fun p => ⟨fun hh => absurd hh Bool.false_ne_true, fun ⟨i, hi, _⟩ => absurd hi (Nat.not_lt_zero i)⟩⟩ hti
  intro I hI
  have key : ∀ d i (ti : Nat → Int32), i + d = 64 → (∀ p, p < i → ti p = 0) → I 0 0 (nI i) ti := by
    intro d
    induction d with
    | zero =>
      intro i ti hi hti
      apply hI
      have e : i = 64 := by omega
      subst e
      exact ip (nI_le (a := 64) (Nat.le_refl _) (by omega)) (main ti hti)
    | succ d ih =>
      intro i ti hi hti
      apply hI
      refine iq (fun hc => absurd ((nI_leI (a := 64) (by omega) (by omega)).mp hc) (by omega)) ⟨vp_in_nI (by omega) (by omega), ?_⟩
      rw [nI_clamp (by omega), nI_1]
      refine ih (i + 1) _ (by omega) (fun p hp => ?_)
      by_cases e : p = i
      · rw [e, pk_us]
      · rw [pk_un e]; exact hti p (by omega)
  exact key 64 0 ti rfl (fun p hp => absurd hp (Nat.not_lt_zero p))
