/-! PURE: policy 2 of the reference -/
def AS (ls ss : Nat → Int32) (Ls : ALs) (b : Nat) : Prop := ∃ ℓ T : Nat → Nat, (∀ p, p < 64 → ls p = nI (ℓ p) ∧ ℓ p ≤ 4 ∧ ss p = nI (T p) ∧ T p ≤ b) ∧ ∀ i, 1 ≤ i → i ≤ 4 → (∀ x, x ∈ Ls i ↔ x < 64 ∧ ℓ x = i) ∧ (Ls i).Pairwise (fun x y => T x < T y)
theorem AS.mono {ls ss : Nat → Int32} {Ls : ALs} {b b' : Nat} (h : AS ls ss Ls b) (hb : b ≤ b') : AS ls ss Ls b' := by
  obtain ⟨ℓ, T, h1, h2⟩ := h
  exact ⟨ℓ, T, fun p hp => ⟨(h1 p hp).1, (h1 p hp).2.1, (h1 p hp).2.2.1, Nat.le_trans (h1 p hp).2.2.2 hb⟩, h2⟩
theorem AS.put {ls ss : Nat → Int32} {Ls : ALs} {b : Nat} (h : AS ls ss Ls b) {p j s : Nat} (hp : p < 64) (hj : j ≤ 4) (hs : b < s) : AS (upd ls p (nI j)) (upd ss p (nI s)) (mv p j Ls) s := by
  obtain ⟨ℓ, T, h1, h2⟩ := h
  refine ⟨fset ℓ p j, fset T p s, fun q hq => ?_, fun i hi hi2 => ⟨fun x => ?_, ?_⟩⟩
  · by_cases e : q = p
    · rw [e, pk_us, pk_us, fs_s, fs_s]; exact ⟨rfl, hj, rfl, Nat.le_refl _⟩
    · rw [pk_un e, pk_un e, fs_n e, fs_n e]
      have := h1 q hq
      exact ⟨this.1, this.2.1, this.2.2.1, by omega⟩
  · rw [mem_mv, (h2 i hi hi2).1]
    by_cases e : x = p
    · rw [e, fs_s]; omega
    · rw [fs_n e]; omega
  · have hd := (pw_del (p := p) (h2 i hi hi2).2).imp_of_mem (S := fun x y => fset T p s x < fset T p s y) (fun {x y} hx hy hlt => by rw [fs_n (mem_del.mp hx).2, fs_n (mem_del.mp hy).2]; exact hlt)
    unfold mv
    split
    · rw [List.pairwise_append]
      refine ⟨hd, List.pairwise_singleton _ _, fun x hx y hy => ?_⟩
      rw [List.mem_singleton.mp hy, fs_s, fs_n (mem_del.mp hx).2]
      have := ((h2 i hi hi2).1 x).mp (mem_del.mp hx).1
      have := (h1 x this.1).2.2.2
      omega
    · exact hd
theorem AS.forget {ls ss : Nat → Int32} {Ls : ALs} {b : Nat} (h : AS ls ss Ls b) {p : Nat} (hp : p < 64) : AS (upd ls p 0) ss (mv p 0 Ls) b := by
  obtain ⟨ℓ, T, h1, h2⟩ := h
  refine ⟨fset ℓ p 0, T, fun q hq => ?_, fun i hi hi2 => ⟨fun x => ?_, ?_⟩⟩
  · have := h1 q hq
    by_cases e : q = p
    · rw [e, pk_us, fs_s]; rw [e] at this; exact ⟨rfl, by omega, this.2.2⟩
    · rw [pk_un e, fs_n e]; exact this
  · rw [mem_mv, (h2 i hi hi2).1]
    by_cases e : x = p
    · rw [e, fs_s]; omega
    · rw [fs_n e]; omega
  · rw [mv_del (by omega)]
    exact pw_del (h2 i hi hi2).2
theorem AS.inIff {ls ss : Nat → Int32} {Ls : ALs} {b : Nat} (h : AS ls ss Ls b) {p i : Nat} (hp : p < 64) (hi : 1 ≤ i) (hi2 : i ≤ 4) : ls p = nI i ↔ p ∈ Ls i := by
  obtain ⟨ℓ, T, h1, h2⟩ := h
  have := h1 p hp
  rw [this.1, nI_eq (by omega) (by omega), (h2 i hi hi2).1]
  omega
theorem AS.zIff {ls ss : Nat → Int32} {Ls : ALs} {b : Nat} (h : AS ls ss Ls b) {p : Nat} (hp : p < 64) : ls p = 0 ↔ ∀ i, 1 ≤ i → i ≤ 4 → p ∉ Ls i := by
  obtain ⟨ℓ, T, h1, h2⟩ := h
  have := h1 p hp
  rw [this.1, nI_z (by omega)]
  refine ⟨fun h i hi hi2 hm => ?_, fun h => ?_⟩
  · have := ((h2 i hi hi2).1 p).mp hm; omega
  · by_cases e : ℓ p = 0
    · exact e
    · exact absurd (((h2 (ℓ p) (by omega) (by omega)).1 p).mpr ⟨hp, rfl⟩) (h (ℓ p) (by omega) (by omega))
theorem m_sizeOf {ls ss : Nat → Int32} {Ls : ALs} {b i : Nat} (hr : AS ls ss Ls b) (hi : 1 ≤ i) (hi2 : i ≤ 4) {Q : Int32 → Prop} (h : Q (nI (Ls i).length)) : wR_X10_sizeOf ls (nI i) Q := by
  have hin : ∀ p, p < 64 → (ls p = nI i ↔ p ∈ Ls i) := fun p hp => hr.inIff hp hi hi2
  obtain ⟨ℓ, T, h1, h2⟩ := hr
  intro I hI
  have hc := cntB_list 64 (pw_nodup (h2 i hi hi2).2) (P := fun x => decide (x ∈ Ls i)) (fun x => by simp only [decide_eq_true_eq]; exact ⟨fun hx => ⟨(((h2 i hi hi2).1 x).mp hx).1, hx⟩, fun hx => hx.2⟩)
  rw [← hc] at h
  have key : ∀ d k, k + d = 64 → I (nI (cntB (fun x => decide (x ∈ Ls i)) k)) (nI k) := by
    intro d
    induction d with
    | zero =>
      intro k hk
      apply hI
      have e : k = 64 := by omega
      subst e
      exact ip (nI_le (a := 64) (Nat.le_refl _) (by omega)) h
    | succ d ih =>
      intro k hk
      apply hI
      refine iq (fun hc => absurd ((nI_leI (a := 64) (by omega) (by omega)).mp hc) (by omega)) ⟨vp_in_nI (by omega) (by omega), ?_⟩
      rw [nI_clamp (by omega), hin k (by omega)]
      have := ih (k + 1) (by omega)
      unfold cntB at this
      by_cases hm : k ∈ Ls i
      · refine jq hm ?_
        show I (nI _ + 1) (nI k + 1)
        rw [nI_1, nI_1]
        rw [if_pos (by simp [hm])] at this
        exact this
      · refine jp hm ?_
        show I (nI _ + nI 0) (nI k + 1)
        rw [nI_add, nI_1]
        rw [if_neg (by simp [hm])] at this
        exact this
  exact key 64 0 rfl
theorem m_oldestOf {ls ss : Nat → Int32} {Ls : ALs} {b i : Nat} (hr : AS ls ss Ls b) (hb : b < 2 ^ 31) (hi : 1 ≤ i) (hi2 : i ≤ 4) (h0 : 0 < (Ls i).length) {Q : Int32 → Prop} (h1 : Q (nI ((Ls i).headD 0))) : wR_X10_oldestOf ls ss (nI i) Q := by
  have hin : ∀ p, p < 64 → (ls p = nI i ↔ p ∈ Ls i) := fun p hp => hr.inIff hp hi hi2
  obtain ⟨ℓ, T, g1, g2⟩ := hr
  intro I hI
  have hm : ∀ x, x ∈ Ls i ↔ x < 64 ∧ (fun x => decide (x ∈ Ls i)) x = true := fun x => by simp only [decide_eq_true_eq]; exact ⟨fun hx => ⟨(((g2 i hi hi2).1 x).mp hx).1, hx⟩, fun hx => hx.2⟩
  have key : ∀ d k x, k + d = 64 → OldI (fun x => decide (x ∈ Ls i)) T k x → I x (nI k) := by
    intro d
    induction d with
    | zero =>
      intro k x hk ho
      apply hI
      have e : k = 64 := by omega
      subst e
      refine ip (nI_le (a := 64) (Nat.le_refl _) (by omega)) ?_
      cases hL : Ls i with
      | nil => rw [hL] at h0; simp at h0
      | cons a t => rw [ho.head hm (g2 i hi hi2).2 hL]; rw [hL] at h1; exact h1
    | succ d ih =>
      intro k x hk ho
      apply hI
      have gk := g1 k (by omega)
      refine iq (fun hc => absurd ((nI_leI (a := 64) (by omega) (by omega)).mp hc) (by omega)) ⟨vp_in_nI (by omega) (by omega), ?_⟩
      rw [nI_clamp (by omega), hin k (by omega)]
      by_cases hm : k ∈ Ls i
      · refine jq hm ?_
        refine ⟨fun he => ?_, fun hne => ⟨vp_in_nI (by omega) (by omega), ?_⟩⟩
        · show I (nI k) (nI k + 1)
          rw [nI_1]
          exact ih (k + 1) _ (by omega) (ho.first (by omega) (by simp [hm]) he)
        · rcases ho.cases with he | ⟨q, hq, he⟩
          · exact absurd he hne
          · subst he
            refine ⟨vp_in_nI (by omega) (by omega), ?_⟩
            rw [nI_clamp (by omega)]
            have gq := g1 q (by omega)
            rw [gk.2.2.1, gq.2.2.1, nI_leI (by omega) (by omega)]
            refine ⟨fun hle => ?_, fun hnl => ?_⟩
            · show I (nI q) (nI k + 1)
              rw [nI_1]
              exact ih (k + 1) _ (by omega) (ho.stay (by omega) hq hle)
            · show I (nI k) (nI k + 1)
              rw [nI_1]
              exact ih (k + 1) _ (by omega) (ho.turn (by omega) hq (by simp [hm]) (by omega))
      · refine jp hm ?_
        show I x (nI k + 1)
        rw [nI_1]
        exact ih (k + 1) _ (by omega) (ho.keep (by simp [hm]))
  exact key 64 0 _ rfl OldI.start
