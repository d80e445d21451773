/-! PURE: policy 1 of the reference -/
def ClkM (m : Nat) (a : AClk) (hd : Int32) (pg bt : Nat → Int32) : Prop := hd = nI a.2.2.2.1 ∧ (∀ i, i < m → pg i = if i < a.1 then nI (a.2.1 i) else -1) ∧ ∀ i, i < a.1 → bt i = bI (a.2.2.1 i)
theorem m_nxt {m h : Nat} (hm : m ≤ 16) (hh : h < m) : (nI h + 1) - (nI h + 1) / nI m * nI m = nI (nxt m h) := by
  rw [nI_1, pk_rem (by omega) (by omega) (by omega), nxt_mod hh]
/-- the victim -/
theorem k_vic {m u h : Nat} {b : Nat → Bool} {g : Nat → Int32} {f : Nat → Int32} {us : Int32} (hm2 : m ≤ 16) (hh : h < m) (hg : ∀ i, i < m → g i = bI (b i)) {Q : Int32 → Prop} (hq : Q (f (vic m b m h))) : wR_X2_nextVictim_20 (nI m) us (nI h) f g Q (nI h) 0 := by
  intro I hI
  have key : ∀ k i x, i + k = m → x < m → Q (f (vic m b k x)) → I (nI x) (nI i) := by
    intro k
    induction k with
    | zero =>
      intro i x hi hx hq
      apply hI
      refine ip (nI_le (by omega) (by omega)) ⟨vp_in_nI (by omega) (by omega), ?_⟩
      rw [nI_clamp (by omega)]; exact hq
    | succ k ih =>
      intro i x hi hx hq
      apply hI
      unfold vic at hq
      refine iq (fun hc => absurd ((nI_leI (by omega) (by omega)).mp hc) (by omega)) ⟨vp_in_nI (by omega) (by omega), ?_⟩
      rw [nI_clamp (by omega), hg x hx, bI_z]
      cases hb : b x with
      | false =>
        rw [if_neg (by simp [hb])] at hq
        refine ip rfl ⟨vp_in_nI (by omega) (by omega), ?_⟩
        rw [nI_clamp (by omega)]; exact hq
      | true =>
        rw [if_pos hb] at hq
        refine iq (by decide) (k_after hm2 hx ?_)
        rw [nI_1]
        exact ih (i + 1) (nxt m x) (by omega) (nxt_lt hx) hq
  exact key m 0 h (by omega) hh hq
