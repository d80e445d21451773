/-! PURE: policy 0 of the reference -/
def RecM (a : ARec) (b : Nat) (ev : Int32) (rc ea di dm : Nat → Int32) : Prop := ev = nI a.2.1 ∧ RS rc a.1 b ∧ (∀ i, i < 64 → ea i = if a.2.2.1 i = 0 then -1 else nI (a.2.2.1 i)) ∧ (∀ i, i < 64 → di i = a.2.2.2.1 i) ∧ ∀ i, i < 401 → dm i = a.2.2.2.2.1 i
theorem m_rec {m n p b s : Nat} {a : ARec} {ev : Int32} {rc ea di dm : Nat → Int32} (hi : RecInv m n a) (hn : n ≤ 400) (hm : 1 ≤ m) (hm2 : m ≤ 16) (hp : p < 64) (hb : b < s) (hs : s < 2 ^ 31) (hr : RecM a b ev rc ea di dm) {Q : Int32 → Int32 → (Nat → Int32) → (Nat → Int32) → (Nat → Int32) → (Nat → Int32) → Prop} (h : ∀ ev rc ea di dm, RecM (recStep m p a) s ev rc ea di dm → Q (recFault p a) ev rc ea di dm) : wR_X10_touchRecent (nI m) (nI s) (nI p) ev rc ea di dm Q := by
  obtain ⟨L, E, e, D, K, F⟩ := a
  obtain ⟨h1, h2, h3, h4⟩ := hi
  obtain ⟨g1, g2, g3, g4, g5⟩ := hr
  simp only at h1 h2 h3 h4 g1 g2 g3 g4 g5
  subst g1
  have hcl : (nI p).toNatClampNeg = p := nI_clamp (by omega)
  have hz := g2.zeroIff (by omega) hp
  refine ⟨vp_in_nI hp (by omega), ?_⟩
  rw [hcl]
  by_cases hin : p ∈ L
  · refine jp (fun hc => (hz.mp hc) hin) (ip rfl (ip rfl ⟨vp_in_nI hp (by omega), Or.inl rfl, ?_⟩))
    rw [hcl]
    have := h (nI E) (upd rc p (nI s)) ea di dm (by
      simp only [recStep, RecM, rL, if_pos hin, hin, true_or, if_true]
      exact ⟨trivial, g2.put hp hb, g3, g4, g5⟩)
    simp only [recFault, if_pos hin] at this
    exact this
  · have hfa : recFault p (L, E, e, D, K, F) = 1 := by simp only [recFault, if_neg hin]
    rw [hfa] at h
    refine jq (hz.mpr hin) (iq (by decide) ⟨vp_in_nI hp (by omega), ?_⟩)
    rw [hcl, g3 p hp]
    have main : ∀ di dm, (∀ i, i < 64 → di i = (if p ∈ L ∨ e p = 0 then D else upd D p (nI (E - e p))) i) → (∀ i, i < 401 → dm i = (if p ∈ L ∨ e p = 0 then K else upd K (E - e p) (K (E - e p) + 1)) i) → wR_X10_touchRecent_61 (nI m) (nI s) (nI p) Q 1 (nI E) rc ea di dm := by
      intro di dm hdi hdm
      refine iq (by decide) (k_heldRecent g2 (by omega) ?_)
      have hl := h1.2.2
      by_cases hlt : L.length < m
      · refine jp (fun hc => ?_) ⟨vp_in_nI hp (by omega), Or.inr rfl, ?_⟩
        · have := (nI_eq (by omega) (by omega)).mp hc; omega
        · rw [hcl]
          refine h _ _ _ _ _ ?_
          simp only [recStep, RecM, rL, if_neg hin, hlt, or_true, if_true]
          refine ⟨trivial, ?_, g3, hdi, hdm⟩
          have := g2.put hp hb
          rw [del_self hin] at this
          exact this
      · refine jq ?_ (k_oldestRecent g2 (by omega) (fun he => ?_) (fun v t ht => ?_))
        · rw [nI_eq (by omega) (by omega)]; omega
        · rw [he] at hlt; simp at hlt; omega
        · have hv : v < 64 := h1.2.1 v (by rw [ht]; exact List.mem_cons_self)
          have hh : L.headD 0 = v := by rw [ht]; rfl
          refine ⟨vp_in_nI hv (by omega), vp_in_nI hv (by omega), vp_in_nI hp (by omega), Or.inr rfl, ?_⟩
          rw [hcl, nI_clamp (by omega), nI_1]
          refine h _ _ _ _ _ ?_
          simp only [recStep, RecM, rL, if_neg hin, hlt, hin, or_self, if_false, hh]
          refine ⟨trivial, ?_, fun i hi => ?_, ?_, ?_⟩
          · have := (g2.del0 hv).put hp hb
            rw [del_self (fun hx => hin (mem_del.mp hx).1)] at this
            exact this
          · by_cases hiv : i = v
            · rw [hiv, pk_us, fs_s, if_neg (by omega)]
            · rw [pk_un hiv, fs_n hiv, g3 i hi]
          · simpa only [hin, false_or] using hdi
          · simpa only [hin, false_or] using hdm
    by_cases he : e p = 0
    · rw [if_pos he]
      refine ip rfl (main di dm ?_ ?_)
      · rw [if_pos (Or.inr he)]; exact g4
      · rw [if_pos (Or.inr he)]; exact g5
    · rw [if_neg he]
      have hno : ¬ (p ∈ L ∨ e p = 0) := fun h => h.elim hin he
      have hle := h2 p
      refine iq (nI_m1 (by omega)) ⟨vp_in_nI hp (by omega), vp_in_nI hp (by omega), vp_in_nI hp (by omega), ?_⟩
      rw [nI_sub hle, pk_us, nI_clamp (by omega)]
      refine ⟨vp_in_nI (by omega) (by omega), vp_in_nI (by omega) (by omega), main _ _ (fun i hi => ?_) (fun i hi => ?_)⟩
      · rw [if_neg hno]
        by_cases hip : i = p
        · rw [hip, pk_us, pk_us]
        · rw [pk_un hip, pk_un hip, g4 i hi]
      · rw [if_neg hno]
        by_cases hip : i = E - e p
        · rw [hip, pk_us, pk_us, g5 _ (by omega)]
        · rw [pk_un hip, pk_un hip, g5 i hi]
