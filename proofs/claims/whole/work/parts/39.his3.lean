/-! PURE: the history of the reference -/
theorem m_set {n w k : Nat} {t : Nat → Nat} {tf : Nat → Int32} (hn : n ≤ 400) (hk : k < n) (hw1 : 1 ≤ w) (hw : w ≤ 100) (ht : ∀ i, i < n → t i < 64) (htf : ∀ i, i < n → tf i = nI (t i)) {Q : Int32 → Prop} (h : Q (nI (wsz w t k))) : wR_X10_setOf (nI w) tf (nI k) Q := by
  have go : ∀ b, b = k + 1 - w → wR_X10_setOf_23 (nI w) tf (nI k) Q (nI b) := by
    intro b hb
    intro I hI
    have inner : ∀ x j, b ≤ j → j ≤ k → ∀ d i, i + d = j → b ≤ i → ∀ fl : Bool, (fl = true ↔ ∀ q, b ≤ q → q < i → t q ≠ t j) → I (nI b) (nI (x + (if b < lst t j (t j) then 0 else 1))) (nI (j + 1)) → wR_X10_setOf_41 (nI w) tf (nI k) Q I (nI b) (nI x) (nI j) (bI fl) (nI i) := by
      intro x j hj hjk d i hi hbi fl hfl hq
      intro J hJ
      have key : ∀ d i, i + d = j → b ≤ i → ∀ fl : Bool, (fl = true ↔ ∀ q, b ≤ q → q < i → t q ≠ t j) → J (nI b) (nI x) (nI j) (bI fl) (nI i) := by
        intro d
        induction d with
        | zero =>
          intro i hi hbi fl hfl
          have e : i = j := by omega
          subst e
          apply hJ
          refine ip (nI_le (Nat.le_refl _) (by omega)) ?_
          rw [bI_z]
          have hl : b < lst t i (t i) ↔ ¬ fl = true := by
            rw [lst_spec, hfl]
            refine ⟨fun ⟨q, h1, h2, h3⟩ hh => hh q h1 h2 h3, fun hh => ?_⟩
            apply Classical.byContradiction
            intro hc
            exact hh (fun q h1 h2 h3 => hc ⟨q, h1, h2, h3⟩)
          cases fl with
          | false =>
            rw [if_pos (hl.mpr (by decide))] at hq
            refine ip rfl ?_
            show I (nI b) (nI x + nI 0) (nI i + 1)
            rw [nI_add, nI_1]; exact hq
          | true =>
            rw [if_neg (fun hh => hl.mp hh rfl)] at hq
            refine iq (by decide) ?_
            show I (nI b) (nI x + nI 1) (nI i + 1)
            rw [nI_add, nI_1]; exact hq
        | succ d ih =>
          intro i hi hbi fl hfl
          apply hJ
          refine iq (fun hc => absurd ((nI_leI (by omega) (by omega)).mp hc) (by omega)) ?_
          rw [bI_z]
          cases fl with
          | false =>
            refine ip rfl ?_
            show J (nI b) (nI x) (nI j) (bI false) (nI i + 1)
            rw [nI_1]
            refine ih (i + 1) (by omega) (by omega) false ⟨fun hh => absurd hh (by decide), fun hh => hfl.mpr (fun q h1 h2 => hh q h1 (by omega))⟩
          | true =>
            refine iq (by decide) ⟨vp_in_nI (by omega) (by omega), vp_in_nI (by omega) (by omega), ?_⟩
            have a1 := ht i (by omega)
            have a2 := ht j (by omega)
            rw [nI_clamp (by omega), nI_clamp (by omega), htf i (by omega), htf j (by omega), nI_eq (by omega) (by omega)]
            refine ⟨fun he => ?_, fun hne => ?_⟩
            · show J (nI b) (nI x) (nI j) (bI false) (nI i + 1)
              rw [nI_1]
              exact ih (i + 1) (by omega) (by omega) false ⟨fun hh => absurd hh (by decide), fun hh => absurd he (hh i hbi (by omega))⟩
            · show J (nI b) (nI x) (nI j) (bI true) (nI i + 1)
              rw [nI_1]
              refine ih (i + 1) (by omega) (by omega) true ⟨fun _ q h1 h2 => ?_, fun _ => rfl⟩
              rcases Nat.lt_succ_iff_lt_or_eq.mp h2 with h3 | h3
              · exact hfl.mp rfl q h1 h3
              · rw [h3]; exact hne
      exact key d i hi hbi fl hfl
    have key : ∀ d j, j + d = k + 1 → b ≤ j → I (nI b) (nI (psz t j b)) (nI j) := by
      intro d
      induction d with
      | zero =>
        intro j hj hbj
        have e : j = k + 1 := by omega
        subst e
        apply hI
        refine ip (nI_lt (by omega) (by omega)) ?_
        rw [hb]
        exact h
      | succ d ih =>
        intro j hj hbj
        apply hI
        refine iq (nI_nlt (by omega) (by omega)) ?_
        refine inner _ j hbj (by omega) (j - b) b (by omega) (Nat.le_refl _) true ⟨fun _ q h1 h2 => by omega, fun _ => rfl⟩ ?_
        rw [← psz_succ hbj (ht j (by omega))]
        exact ih (j + 1) (by omega) (by omega)
    have := key (k + 1 - b) b (by omega) (Nat.le_refl _)
    rw [psz_all (Nat.le_refl b)] at this
    exact this
  have hx : nI k - nI w + 1 = nI (k + 1) - nI w := by rw [← nI_1]; grind
  have hI := pk_sub_toInt (a := k + 1) (b := w) (by omega) (by omega)
  unfold wR_X10_setOf
  rw [hx]
  by_cases c : w ≤ k + 1
  · rw [pk_sub c]
    exact ip (nI_pos' (by omega)) (go _ rfl)
  · refine iq (fun hc => ?_) (go 0 (by omega))
    have := Int32.le_iff_toInt_le.mp hc
    rw [hI] at this
    have h0 : (0 : Int32).toInt = 0 := rfl
    omega
theorem m_dep {n k : Nat} {t : Nat → Nat} {tf ti : Nat → Int32} (hn : n ≤ 400) (hk : k < n) (ht : ∀ i, i < n → t i < 64) (htf : ∀ i, i < n → tf i = nI (t i)) {Q : Int32 → (Nat → Int32) → Prop} (h : ∀ ti, Q (nI (dpt t k + 1)) ti) : wR_X10_depthOf tf (nI k) ti Q := by
  have hkk := ht k hk
  have main : ∀ ti : Nat → Int32, (∀ p, p < 64 → ti p = 0) → wR_X10_depthOf_27 tf (nI k) Q 1 (nI k - 1) ti := by
    intro ti hti I hI
    have key : ∀ b, b ≤ k → ¬ b < lst t k (t k) → ∀ ti : Nat → Int32, (∀ p, p < 64 → ti p = if b < lst t k p then 1 else 0) → I (nI (psz t k b + 1)) (nI b - 1) ti := by
      intro b
      induction b with
      | zero =>
        intro hb hno ti hti
        apply hI
        refine ip (by decide) (iq (by decide) ?_)
        have hd : dpt t k = 64 := by unfold dpt; rw [if_pos (by omega)]
        have := h ti
        rw [hd] at this
        exact this
      | succ b ih =>
        intro hb hno ti hti
        have hbt := ht b (by omega)
        have hc := nI_pos (n := b) (by omega)
        apply hI
        rw [nI_sub1]
        refine iq hc ⟨vp_in_nI (by omega) (by omega), vp_in_nI (by omega) (by omega), ?_⟩
        rw [nI_clamp (by omega), nI_clamp (by omega), htf b (by omega), htf k (by omega), nI_eq (by omega) (by omega)]
        refine ⟨fun he => ip (nI_pos' (by omega)) ?_, fun hne => ⟨vp_in_nI (by omega) (by omega), vp_in_nI hbt (by omega), ?_⟩⟩
        · have hl : lst t k (t k) = b + 1 := by
            have : b < lst t k (t k) := lst_spec.mpr ⟨b, Nat.le_refl b, by omega, he⟩
            omega
          have hd : dpt t k = psz t k (b + 1) := by unfold dpt; rw [hl, if_neg (by omega)]
          have := h ti
          rw [hd] at this
          exact this
        · rw [nI_clamp (by omega), hti _ hbt]
          have hm1 : nI b + -1 = nI b - 1 := by grind
          have hback := psz_back (t := t) (n := k) (b := b) (by omega) hbt
          have hno2 : ¬ b < lst t k (t k) := by
            intro hh
            obtain ⟨i, h1, h2, h3⟩ := lst_spec.mp hh
            by_cases e : i = b
            · rw [e] at h3; exact hne h3
            · exact hno (lst_spec.mpr ⟨i, by omega, h2, h3⟩)
          have hup : ∀ p, p < 64 → upd ti (t b) 1 p = if b < lst t k p then 1 else 0 := by
            intro p hp
            by_cases e : p = t b
            · rw [e, pk_us, if_pos (lst_spec.mpr ⟨b, Nat.le_refl b, by omega, rfl⟩)]
            · rw [pk_un e, hti p hp]
              by_cases c : b + 1 < lst t k p
              · rw [if_pos c, if_pos (by omega)]
              · rw [if_neg c, if_neg (fun hh => ?_)]
                obtain ⟨i, h1, h2, h3⟩ := lst_spec.mp hh
                by_cases e2 : i = b
                · rw [e2] at h3; exact e h3.symm
                · exact c (lst_spec.mpr ⟨i, by omega, h2, h3⟩)
          have fin : ∀ s, nI (psz t k (b + 1) + 1) + s = nI (psz t k b + 1) → wR_X10_depthOf_66 tf (nI k) Q I (nI b) (nI (psz t k (b + 1) + 1)) s ti := by
            intro s hs
            unfold wR_X10_depthOf_66
            rw [nI_clamp (by omega), htf b (by omega), nI_clamp (by omega), hm1, hs]
            exact ⟨vp_in_nI (by omega) (by omega), vp_in_nI hbt (by omega), ih (by omega) hno2 _ hup⟩
          by_cases c : b + 1 < lst t k (t b)
          · rw [if_pos c]
            rw [if_pos c] at hback
            refine jp (by decide) (fin _ ?_)
            rw [hback]; exact nI_add _ 0
          · rw [if_neg c]
            rw [if_neg c] at hback
            refine jq rfl (fin _ ?_)
            rw [hback]; exact nI_1 _
    have := key k (Nat.le_refl k) (by have := lst_le t k (t k); omega) ti (fun p hp => by rw [hti p hp, if_neg (by have := lst_le t k p; omega)])
    rw [psz_all (Nat.le_refl k)] at this
    exact this
  intro I hI
  have key : ∀ d i (ti : Nat → Int32), i + d = 64 → (∀ p, p < i → ti p = 0) → I (nI i) ti := by
    intro d
    induction d with
    | zero =>
      intro i ti hi hti
      apply hI
      have e : i = 64 := by omega
      subst e
      exact ip (nI_le (a := 64) (Nat.le_refl _) (by omega)) (main ti hti)
    | succ d ih =>
      intro i ti hi hti
      apply hI
      refine iq (fun hc => absurd ((nI_leI (a := 64) (by omega) (by omega)).mp hc) (by omega)) ⟨vp_in_nI (by omega) (by omega), ?_⟩
      rw [nI_clamp (by omega), nI_1]
      refine ih (i + 1) _ (by omega) (fun p hp => ?_)
      by_cases e : p = i
      · rw [e, pk_us]
      · rw [pk_un e]; exact hti p (by omega)
  exact key 64 0 ti rfl (fun p hp => absurd hp (Nat.not_lt_zero p))
theorem m_fwith {n m : Nat} {t : Nat → Nat} {tf ti : Nat → Int32} {th : Int32} (hn : n ≤ 400) (hm : m ≤ 16) (ht : ∀ i, i < n → t i < 64) (htf : ∀ i, i < n → tf i = nI (t i)) {Q : Int32 → Int32 → (Nat → Int32) → Prop} (h : ∀ ti, Q (nI (cntB (fun k => decide (m ≤ dpt t k)) n)) th ti) : wR_X10_faultsWith_30 (nI n) tf (nI m) Q 0 0 th ti := by
  intro I hI
  have key : ∀ d i ti, i + d = n → I (nI (cntB (fun k => decide (m ≤ dpt t k)) i)) (nI i) th ti := by
    intro d
    induction d with
    | zero =>
      intro i ti hi
      apply hI
      have e : i = n := by omega
      subst e
      exact ip (nI_le (Nat.le_refl _) (by omega)) (h ti)
    | succ d ih =>
      intro i ti hi
      apply hI
      refine iq (fun hc => absurd ((nI_leI (by omega) (by omega)).mp hc) (by omega)) (m_dep hn (by omega) ht htf (fun ti => ?_))
      have hd : dpt t i ≤ 64 := by unfold dpt; split <;> first | exact Nat.le_refl _ | exact psz_le _ _ _
      rw [nI_leI (by omega) (by omega)]
      have := ih (i + 1) ti (by omega)
      have e : cntB (fun k => decide (m ≤ dpt t k)) (i + 1) = cntB (fun k => decide (m ≤ dpt t k)) i + (if m ≤ dpt t i then 1 else 0) := by
        show _ + (if decide (m ≤ dpt t i) = true then 1 else 0) = _
        simp only [decide_eq_true_eq]
      rw [e] at this
      refine ⟨fun c => ?_, fun c => ?_⟩
      · rw [if_neg (by omega)] at this
        show I (nI _ + nI 0) (nI i + 1) th ti
        rw [nI_add, nI_1]; exact this
      · rw [if_pos (by omega)] at this
        show I (nI _ + nI 1) (nI i + 1) th ti
        rw [nI_add, nI_1]; exact this
  exact key n 0 ti (by omega)
theorem m_avg {n w : Nat} {t : Nat → Nat} {tf : Nat → Int32} {th : Int32} (hn : n ≤ 400) (hw1 : 1 ≤ w) (hw : w ≤ 100) (ht : ∀ i, i < n → t i < 64) (htf : ∀ i, i < n → tf i = nI (t i)) {Q : UInt32 → Int32 → Prop} (h1 : vf_n32 (FP.fdiv (FP.i2f (nI (sumN (wsz w t) n))) (FP.i2f (nI n)))) (h : Q (FP.fdiv (FP.i2f (nI (sumN (wsz w t) n))) (FP.i2f (nI n))) th) : wR_X10_averageWorkingSet_25 (nI w) (nI n) tf Q 0 0 th := by
  intro I hI
  have key : ∀ d i, i + d = n → I (nI (sumN (wsz w t) i)) (nI i) th := by
    intro d
    induction d with
    | zero =>
      intro i hi
      apply hI
      have e : i = n := by omega
      subst e
      exact ip (nI_le (Nat.le_refl _) (by omega)) ⟨h1, h⟩
    | succ d ih =>
      intro i hi
      apply hI
      refine iq (fun hc => absurd ((nI_leI (by omega) (by omega)).mp hc) (by omega)) (m_set hn (by omega) hw1 hw ht htf ?_)
      rw [nI_add, nI_1]
      exact ih (i + 1) (by omega)
  exact key n 0 (by omega)
