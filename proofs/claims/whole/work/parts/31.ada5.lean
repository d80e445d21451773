/-! PURE: policy 2 of the reference, replacing -/
theorem m_replaced {b : Bool} {aim st : Nat} {ls ss : Nat → Int32} {Ls : ALs} (hr : AS ls ss Ls st) (hl : (Ls 1).length ≤ 64) (ha : aim ≤ 16) {Q : Int32 → Prop} (h : Q (nI (if from1 b aim Ls then 1 else 2))) : wR_X10_replaced (nI aim) ls (bI b) Q := by
  refine m_sizeOf (i := 1) hr (by omega) (by omega) ?_
  have no : ¬ from1 b aim Ls → Q (nI 2) := fun hn => by rw [if_neg hn] at h; exact h
  have ye : from1 b aim Ls → Q (nI 1) := fun hn => by rw [if_pos hn] at h; exact h
  rw [nI_np (by omega), nI_ltI (by omega) (by omega), nI_eq (by omega) (by omega), bI_z]
  by_cases z : (Ls 1).length = 0
  · exact ip z (no (fun hf => by have := hf.1; omega))
  · refine iq z ?_
    by_cases c1 : aim < (Ls 1).length
    · exact ip c1 (ye ⟨by omega, Or.inl c1⟩)
    · refine iq c1 ?_
      by_cases c2 : (Ls 1).length = aim
      · refine jq c2 ?_
        cases b with
        | false => exact ip rfl (no (fun hf => by rcases hf.2 with h | h; exact c1 h; exact absurd h.2 (by decide)))
        | true => exact iq (by decide) (ye ⟨by omega, Or.inr ⟨c2, rfl⟩⟩)
      · exact jp c2 (no (fun hf => by rcases hf.2 with h | h; exact c1 h; exact c2 h.1))
theorem m_replace {b : Bool} {aim st : Nat} {ls ss : Nat → Int32} {Ls : ALs} (hB : Bas Ls) (hr : AS ls ss Ls st) (hst : st + 1 < 2 ^ 31) (hl : (Ls 1).length ≤ 64) (ha : aim ≤ 16) (hok : ¬ from1 b aim Ls → 0 < (Ls 2).length) {Q : Int32 → (Nat → Int32) → (Nat → Int32) → Prop} (h : ∀ ls ss, AS ls ss (rep b aim Ls) (st + 1) → Q (nI (st + 1)) ls ss) : wR_X10_replace (nI aim) (bI b) (nI st) ls ss Q := by
  refine m_replaced hr hl ha ?_
  unfold rep at h
  by_cases hf : from1 b aim Ls
  · rw [if_pos hf] at h ⊢
    have hm := hd_mem hf.1
    have hq := (hB.1 1 (by omega) (by omega)).2 _ hm
    refine m_oldestOf hr (by omega) (by omega) (by omega) hf.1 ⟨vp_in_nI hq (by omega), vp_in_nI hq (by omega), ?_⟩
    rw [nI_clamp (by omega), nI_1]
    exact h _ _ (hr.put (j := 3) hq (by omega) (by omega))
  · rw [if_neg hf] at h ⊢
    have hm := hd_mem (hok hf)
    have hq := (hB.1 2 (by omega) (by omega)).2 _ hm
    refine m_oldestOf hr (by omega) (by omega) (by omega) (hok hf) ⟨vp_in_nI hq (by omega), vp_in_nI hq (by omega), ?_⟩
    rw [nI_clamp (by omega), nI_1]
    exact h _ _ (hr.put (j := 4) hq (by omega) (by omega))
