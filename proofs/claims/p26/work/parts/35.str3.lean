/-! PURE: policy 3 of the class -/
theorem k_exch8 {m p : Nat} {kc : Int32} {kp : Nat → Int32} {L : List Nat} (hr : PLr kc kp L) (hm : 1 ≤ m) (hm2 : m ≤ 16) (hL : LInv m L) (hp : p < 64) {Q : Int32 → Int32 → (Nat → Int32) → Prop} (h0 : L.length < m → ∀ c' f', PLr c' f' (L ++ [p]) → Q (-1) c' f') (h1 : ∀ a, ¬ L.length < m → a < 64 → L.headD 0 = a → ∀ c' f', PLr c' f' (del a L ++ [p]) → Q (nI a) c' f') : wR_X1_exchange_on_X8 (nI m) (nI p) kc kp Q := by
  have hl := hL.2.2
  have hkc : kc = nI L.length := hr.1
  unfold wR_X1_exchange_on_X8 wR_X1_nextVictim_on_X8
  by_cases hf : L.length < m
  · refine iq (fun hc => ?_) ?_
    · rw [hkc, nI_leI (by omega) (by omega)] at hc; omega
    · exact k_del1 hr (fun c f hr => k_add hr hp (by omega) (fun c f hr => h0 hf c f hr))
  · refine ip ?_ ?_
    · rw [hkc, nI_leI (by omega) (by omega)]; omega
    · refine k_least hr (fun he => ?_) (fun a t ht => ?_)
      · rw [he] at hf; simp at hf; omega
      · have ha : a < 64 := hL.2.1 a (by rw [ht]; exact List.mem_cons_self)
        have hh : L.headD 0 = a := by rw [ht]; rfl
        refine k_del hr ha (fun c f hr => k_add hr hp ?_ (fun c f hr => h1 a hf ha hh c f hr))
        have := del_len_le a L
        omega
theorem k_bring8 {m p : Nat} {kc : Int32} {kp af : Nat → Int32} {L : List Nat} {aw : Nat → Bool} (hr : PLr kc kp L) (hm : 1 ≤ m) (hm2 : m ≤ 16) (hL : LInv m L) (hp : p < 64) (hin : p ∉ L) (ha : ∀ i, i < 64 → af i = bI (aw i)) {Q : Int32 → (Nat → Int32) → (Nat → Int32) → Prop} (h : ∀ c' f' af', PLr c' f' (rL m p L) → (∀ i, i < 64 → af' i = bI (hAw m p L aw i)) → Q c' f' af') : wR_X8_bringIn (nI m) (nI p) kc kp af Q := by
  refine k_exch8 hr hm hm2 hL hp (fun hlt c f hr => ?_) (fun v hge hv hh c f hr => ?_)
  · refine k_isPage1 (ip rfl (h _ _ _ ?_ (fun i hi => ?_)))
    · unfold rL; rw [if_neg hin, if_pos hlt]; exact hr
    · unfold hAw; rw [if_pos (Or.inr hlt)]; exact ha i hi
  · refine k_isPage hv (iq (by decide) ⟨vp_in_nI hv (by omega), h _ _ _ ?_ (fun i hi => ?_)⟩)
    · unfold rL; rw [if_neg hin, if_neg hge, hh]; exact hr
    · unfold hAw; rw [if_neg (by simp [hin, hge]), hh, nI_clamp (by omega), nar0]
      by_cases e : i = v
      · rw [e, pk_us, fs_s]; rfl
      · rw [pk_un e, fs_n e, ha i hi]
def StrC (n : Nat) (t : Nat → Nat) (a : AStr) (fc pf us sn la se : Int32) (kc : Int32) (kp af : Nat → Int32) : Prop := fc = nI a.2.2.2.2 ∧ pf = nI a.2.2.1 ∧ us = nI a.2.2.2.1 ∧ sn = nI n ∧ (1 ≤ n → la = nI (t (n - 1))) ∧ (2 ≤ n → se = nI (t (n - 2))) ∧ PLr kc kp a.1 ∧ ∀ i, i < 64 → af i = bI (a.2.1 i)
/-- after the touch -/
theorem k_afterTouch {m n p : Nat} {t : Nat → Nat} {a : AStr} {pf la se th kc : Int32} {kp af : Nat → Int32} (hL : LInv m a.1) (hn : n ≤ 400) (hm : 1 ≤ m) (hm2 : m ≤ 16) (hp : p < 64) (ht : ∀ i, i < n → t i < 64) (hpf : pf = nI a.2.2.1) (hla : 1 ≤ n → la = nI (t (n - 1))) (hse : 2 ≤ n → se = nI (t (n - 2))) (hr : PLr kc kp a.1) (ha : ∀ i, i < 64 → af i = bI (a.2.1 i)) {Q : Int32 → Int32 → Int32 → Int32 → Int32 → Int32 → (Nat → Int32) → (Nat → Int32) → Prop} (h : ∀ pf kc kp af, pf = nI (strPost m (ahead n t p) a).2.2.1 → PLr kc kp (strPost m (ahead n t p) a).1 → (∀ i, i < 64 → af i = bI ((strPost m (ahead n t p) a).2.1 i)) → Q pf (nI (n + 1)) (nI p) la se kc kp af) : wR_X8_afterTouch (nI m) (nI p) pf (nI n) la se th kc kp af Q := by
  subst hpf
  unfold wR_X8_afterTouch wR_X8_pageAhead
  rw [nI_1]
  have none' : ahead n t p = none → wR_X8_afterTouch_81 (nI m) (nI p) Q (nI a.2.2.1) (nI (n + 1)) (nI p) la se kc kp af := by
    intro he
    rw [he] at h
    exact h _ _ _ _ rfl hr ha
  rw [show (3 : Int32) = nI 3 from rfl, nI_ltI (by omega) (by omega)]
  by_cases hn2 : n < 2
  · refine ip (by omega) (ip rfl ?_)
    refine k_isPage1 (ip rfl (none' ?_))
    unfold ahead
    rw [if_neg (by omega)]
  · refine iq (by omega) ?_
    have h1 := ht (n - 1) (by omega)
    have h2 := ht (n - 2) (by omega)
    have hla' := hla (by omega)
    have hse' := hse (by omega)
    subst hla' hse'
    by_cases e : nI p - nI (t (n - 1)) = nI (t (n - 1)) - nI (t (n - 2))
    · refine jq e (iq (by decide) ?_)
      by_cases z : nI p - nI (t (n - 1)) = 0
      · exact ip z (k_isPage1 (ip rfl (none' (ahead_no h1 h2 hp (Or.inr (Or.inr z))))))
      · refine iq z ?_
        rcases ahead_val hp h1 h2 (by omega) e z with ⟨q, hq, hx⟩ | ⟨hq, hx⟩
        · show wR_X9_isPage _ _
          rw [hx]
          have hq64 := ahead_lt hq
          rw [hq] at h
          refine k_isPage hq64 (iq (by decide) (k_contains hr hq64 ?_))
          by_cases hin : q ∈ a.1
          · rw [if_pos hin]
            refine ⟨Or.inr rfl, jp (by decide) ?_⟩
            unfold strPost at h
            simp only [hin, not_true, false_and, if_false] at h
            exact h _ _ _ _ rfl hr ha
          · rw [if_neg hin]
            refine ⟨Or.inl rfl, jq rfl ?_⟩
            rw [show (2 : Int32) = nI 2 from rfl, nI_ltI (by omega) (by omega)]
            unfold strPost at h
            by_cases h22 : m < 2
            · simp only [hin, not_false_eq_true, true_and, show ¬ 2 ≤ m by omega, if_false] at h
              exact ip h22 (h _ _ _ _ rfl hr ha)
            · simp only [hin, not_false_eq_true, true_and, show 2 ≤ m by omega, if_true] at h
              refine iq h22 (k_bring8 hr hm hm2 hL hq64 hin ha (fun c f af hr ha => ⟨vp_in_nI hq64 (by omega), ?_⟩))
              rw [nI_clamp (by omega), nI_1, nar1]
              refine h _ _ _ _ rfl hr (fun i hi => ?_)
              by_cases e : i = q
              · rw [e, pk_us, fs_s]; rfl
              · rw [pk_un e, fs_n e, ha i hi]
        · show wR_X9_isPage _ _
          exact k_notPg hx (ip rfl (none' hq))
    · refine jp e (ip rfl ?_)
      exact k_isPage1 (ip rfl (none' (ahead_no h1 h2 hp (Or.inr (Or.inl e)))))
