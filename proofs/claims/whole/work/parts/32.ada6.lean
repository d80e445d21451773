/-! PURE: policy 2 of the reference, a touch -/
def AdaM (a : AAda) (b : Nat) (tg : Int32) (ls ss : Nat → Int32) : Prop := tg = nI a.2.1 ∧ AS ls ss a.1 b
theorem m_put {m p j st : Nat} {ls ss : Nat → Int32} {Ls : ALs} (hr : AS ls ss Ls st) (hp : p < 64) (hj : j ≤ 4) {Q : Int32 → (Nat → Int32) → (Nat → Int32) → Prop} (h : ∀ ls ss, AS ls ss (mv p j Ls) (st + 1) → Q (nI (st + 1)) ls ss) : wR_X10_put (nI p) (nI j) (nI st) ls ss Q := by
  refine ⟨vp_in_nI hp (by omega), vp_in_nI hp (by omega), ?_⟩
  rw [nI_clamp (by omega), nI_1]
  exact h _ _ (hr.put hp hj (by omega))
/-- the end of the touch: the list x2 that it was in -/
theorem m_end {m p x st F tg : Nat} {ls ss : Nat → Int32} {Ls : ALs} (hr : AS ls ss Ls st) (hp : p < 64) (hx : x ≤ 4) {Q : Int32 → Int32 → Int32 → (Nat → Int32) → (Nat → Int32) → Prop} (h : ∀ ls ss, AS ls ss (mv p (if x = 0 then 1 else 2) Ls) (st + 1) → Q (if x = 0 ∨ 2 < x then 1 else 0) (nI (st + 1)) (nI tg) ls ss) : wR_X10_touchAdaptive_277 (nI m) (nI p) Q (nI x) (nI st) (nI tg) ls ss := by
  unfold wR_X10_touchAdaptive_277
  rw [nI_z (by omega)]
  by_cases e : x = 0
  · rw [if_pos e, if_pos (Or.inl e)] at h
    subst e
    refine jq rfl (m_put (m := m) (j := 1) hr hp (by omega) (fun ls ss hr => ip rfl ⟨Or.inr rfl, h ls ss hr⟩))
  · rw [if_neg e] at h
    refine jp e (m_put (m := m) (j := 2) hr hp (by omega) (fun ls ss hr => iq (fun hc => e ((nI_z (by omega)).mp hc)) ?_))
    have h2 := h ls ss hr
    rw [show (2 : Int32) = nI 2 from rfl, nI_leI (by omega) (by omega)]
    by_cases c : x ≤ 2
    · rw [if_neg (by omega)] at h2
      exact ip c ⟨Or.inl rfl, h2⟩
    · rw [if_pos (by omega)] at h2
      exact iq c ⟨Or.inr rfl, h2⟩
theorem m_ada {m n p st : Nat} {a : AAda} {tg : Int32} {ls ss : Nat → Int32} (hi : AdaInv m n a) (hn : n ≤ 400) (hm : 1 ≤ m) (hm2 : m ≤ 16) (hp : p < 64) (hst : st < 2 ^ 30) (hr : AdaM a st tg ls ss) {Q : Int32 → Int32 → Int32 → (Nat → Int32) → (Nat → Int32) → Prop} (h : ∀ s' tg ls ss, st ≤ s' → s' ≤ st + 2 → AdaM (adaStep m p a) s' tg ls ss → Q (adaFault p a) (nI s') tg ls ss) : wR_X10_touchAdaptive (nI m) (nI p) (nI st) tg ls ss Q := by
  have hi0 := hi
  have hlens := hi.lens hm2
  obtain ⟨Ls, aim, F⟩ := a
  obtain ⟨hb, h1, h2, h3, h4, h5, h6⟩ := hi
  simp only at hb h1 h2 h3 h4 h5 h6 hlens
  obtain ⟨l1, l2, l3, l4⟩ := hlens
  obtain ⟨g1, g2⟩ := hr
  simp only at g1 g2
  subst g1
  have hcl : (nI p).toNatClampNeg = p := nI_clamp (by omega)
  refine ⟨vp_in_nI hp (by omega), ?_⟩
  refine m_sizeOf (i := 1) g2 (by omega) (by omega) (m_sizeOf (i := 3) g2 (by omega) (by omega) (m_sizeOf (i := 2) g2 (by omega) (by omega) (m_sizeOf (i := 4) g2 (by omega) (by omega) ?_)))
  rw [hcl]
  have i1 := g2.inIff hp (i := 1) (by omega) (by omega)
  have i2 := g2.inIff hp (i := 2) (by omega) (by omega)
  have i3 := g2.inIff hp (i := 3) (by omega) (by omega)
  have i4 := g2.inIff hp (i := 4) (by omega) (by omega)
  have i0 := g2.zIff hp
  have ne : ∀ {i j : Nat}, i ≤ 4 → j ≤ 4 → ls p = nI i → i ≠ j → ¬ ls p = nI j := fun hi hj he hne hc => hne ((nI_eq (by omega) (by omega)).mp (he.symm.trans hc))
  by_cases c3 : p ∈ Ls 3
  · have e := i3.mpr c3
    have hno : ¬ (p ∈ Ls 1 ∨ p ∈ Ls 2) := fun h => h.elim (hb.not (by omega) (by omega) (by omega) (by omega) c3 (by omega)) (hb.not (by omega) (by omega) (by omega) (by omega) c3 (by omega))
    have hfa : adaFault p (Ls, aim, F) = 1 := by simp only [adaFault, if_neg hno]
    have hs : adaStep m p (Ls, aim, F) = (mv p 2 (rep false (min m (aim + max 1 ((Ls 4).length / (Ls 3).length))) Ls), min m (aim + max 1 ((Ls 4).length / (Ls 3).length)), F + 1) := by simp only [adaStep, if_neg hno, if_pos c3]
    rw [hfa, hs] at h
    have p3 := mem_pos c3
    have hd : (Ls 4).length / (Ls 3).length ≤ 32 := Nat.le_trans (Nat.div_le_self _ _) l4
    have hok : 0 < (Ls 2).length := rep_ok3 hi0 c3 0
    refine jq e (m_sizeOf (i := 4) g2 (by omega) (by omega) (m_sizeOf (i := 3) g2 (by omega) (by omega) ?_))
    rw [nI_z (by omega), pk_div (by omega) p3 (by omega), show (1 : Int32) = nI 1 from rfl, nI_leI (by omega) (by omega), e]
    have main : wR_X10_touchAdaptive_69 (nI m) (nI p) Q (nI 3) (nI aim) (nI (max 1 ((Ls 4).length / (Ls 3).length))) (nI st) (nI aim) ls ss := by
      unfold wR_X10_touchAdaptive_69
      generalize hA : max 1 ((Ls 4).length / (Ls 3).length) = A at h ⊢
      have hA3 : A ≤ 33 := by omega
      rw [nI_add, nI_leI (by omega) (by omega)]
      have fin : ∀ B, B = min m (aim + A) → ∀ z : Int32, wR_X10_touchAdaptive_96 (nI m) (nI p) Q (nI 3) (nI B) (nI st) z ls ss := by
        intro B hB z
        rw [← hB] at h
        refine m_replace (b := false) hb g2 (by omega) (by omega) (by omega) (fun _ => hok) (fun ls ss hr => ?_)
        refine m_end (F := 0) hr hp (by omega) (fun ls ss hr => ?_)
        exact h _ _ _ _ (by omega) (by omega) ⟨rfl, hr⟩
      by_cases c : aim + A ≤ m
      · exact ip c (fin _ (by omega) _)
      · exact iq c (fin _ (by omega) _)
    refine ⟨by omega, ?_⟩
    by_cases c : 1 ≤ (Ls 4).length / (Ls 3).length
    · rw [Nat.max_eq_right c] at main
      exact ip c main
    · rw [Nat.max_eq_left (by omega)] at main
      exact iq c main
  · refine jp (fun hc => c3 (i3.mp hc)) ?_
    by_cases c4 : p ∈ Ls 4
    · have e := i4.mpr c4
      have hno : ¬ (p ∈ Ls 1 ∨ p ∈ Ls 2) := fun h => h.elim (hb.not (by omega) (by omega) (by omega) (by omega) c4 (by omega)) (hb.not (by omega) (by omega) (by omega) (by omega) c4 (by omega))
      have hfa : adaFault p (Ls, aim, F) = 1 := by simp only [adaFault, if_neg hno]
      have hs : adaStep m p (Ls, aim, F) = (mv p 2 (rep true (aim - max 1 ((Ls 3).length / (Ls 4).length)) Ls), aim - max 1 ((Ls 3).length / (Ls 4).length), F + 1) := by simp only [adaStep, if_neg hno, if_neg c3, if_pos c4]
      rw [hfa, hs] at h
      have p4 := mem_pos c4
      have hd : (Ls 3).length / (Ls 4).length ≤ 32 := Nat.le_trans (Nat.div_le_self _ _) l3
      have hok := rep_ok4 hi0 hm c4 (aim := aim - max 1 ((Ls 3).length / (Ls 4).length)) (by omega)
      simp only at hok
      refine jq e (m_sizeOf (i := 3) g2 (by omega) (by omega) (m_sizeOf (i := 4) g2 (by omega) (by omega) ?_))
      rw [nI_z (by omega), pk_div (by omega) p4 (by omega), show (1 : Int32) = nI 1 from rfl, nI_leI (by omega) (by omega), e]
      have main : wR_X10_touchAdaptive_142 (nI m) (nI p) Q (nI 4) (nI aim) (nI (max 1 ((Ls 3).length / (Ls 4).length))) (nI st) (nI aim) ls ss := by
        unfold wR_X10_touchAdaptive_142
        generalize hA : max 1 ((Ls 3).length / (Ls 4).length) = A at h hok ⊢
        have hA3 : A ≤ 33 := by omega
        have fin : ∀ z : Int32, wR_X10_touchAdaptive_162 (nI m) (nI p) Q (nI 4) (nI (aim - A)) (nI st) z ls ss := by
          intro z
          refine m_replace (b := true) hb g2 (by omega) (by omega) (by omega) hok (fun ls ss hr => ?_)
          refine m_end (F := 0) hr hp (by omega) (fun ls ss hr => ?_)
          exact h _ _ _ _ (by omega) (by omega) ⟨rfl, hr⟩
        have hmi := nI_minus (a := aim) (b := A) (by omega) (by omega)
        by_cases c : (0 : Int32) ≤ nI aim - nI A
        · refine ip c ?_
          by_cases c' : (0 : Int32) < nI aim - nI A
          · rw [if_pos c'] at hmi
            have := fin (nI aim - nI A)
            rw [← hmi] at this
            exact this
          · rw [if_neg c'] at hmi
            have h0 : nI aim - nI A = 0 := by
              have q1 := Int32.le_iff_toInt_le.mp c
              have q2 : ¬ ((0 : Int32).toInt < (nI aim - nI A).toInt) := fun hh => c' (Int32.lt_iff_toInt_lt.mpr hh)
              have : (nI aim - nI A).toInt = (0 : Int32).toInt := by omega
              exact Int32.toInt_inj.mp this
            have := fin 0
            rw [← hmi] at this
            rw [h0]
            exact this
        · refine iq c ?_
          have c' : ¬ (0 : Int32) < nI aim - nI A := fun hh => c (by
            have := Int32.lt_iff_toInt_lt.mp hh
            exact Int32.le_iff_toInt_le.mpr (by omega))
          rw [if_neg c'] at hmi
          have := fin (nI aim - nI A)
          rw [← hmi] at this
          exact this
      refine ⟨by omega, ?_⟩
      by_cases c : 1 ≤ (Ls 3).length / (Ls 4).length
      · rw [Nat.max_eq_right c] at main
        exact ip c main
      · rw [Nat.max_eq_left (by omega)] at main
        exact iq c main
    · refine jp (fun hc => c4 (i4.mp hc)) ?_
      by_cases c1 : p ∈ Ls 1 ∨ p ∈ Ls 2
      · have hfa : adaFault p (Ls, aim, F) = 0 := by simp only [adaFault, if_pos c1]
        have hs : adaStep m p (Ls, aim, F) = (mv p 2 Ls, aim, F) := by simp only [adaStep, if_pos c1]
        rw [hfa, hs] at h
        have hx : ∃ x, 1 ≤ x ∧ x ≤ 2 ∧ ls p = nI x := c1.elim (fun c => ⟨1, by omega, by omega, i1.mpr c⟩) (fun c => ⟨2, by omega, by omega, i2.mpr c⟩)
        obtain ⟨x, hx1, hx2, hx⟩ := hx
        have hnz : ¬ ls p = 0 := ne (j := 0) (by omega) (by omega) hx (by omega)
        refine jp hnz (jp hnz ?_)
        rw [hx]
        refine m_end (F := 0) g2 hp (by omega) (fun ls ss hr => ?_)
        rw [if_neg (by omega)] at hr
        rw [if_neg (by omega)]
        exact h _ _ _ _ (by omega) (by omega) ⟨rfl, hr⟩
      · have hz : ls p = 0 := i0.mpr (fun i hi hi2 => by
          have : i = 1 ∨ i = 2 ∨ i = 3 ∨ i = 4 := by omega
          rcases this with rfl | rfl | rfl | rfl
          · exact fun h => c1 (Or.inl h)
          · exact fun h => c1 (Or.inr h)
          · exact c3
          · exact c4)
        have hfa : adaFault p (Ls, aim, F) = 1 := by simp only [adaFault, if_neg c1]
        have hs : adaStep m p (Ls, aim, F) = (mv p 1 (room m aim Ls), aim, F + 1) := by simp only [adaStep, if_neg c1, if_neg c3, if_neg c4]
        rw [hfa, hs] at h
        unfold room at h
        refine jq hz ?_
        rw [hz, nI_add, nI_add, nI_add, nI_eq (by omega) (by omega)]
        have fin : ∀ Ls' st' ls ss, st ≤ st' → st' ≤ st + 1 → AS ls ss Ls' st' → (∀ s' tg ls ss, st ≤ s' → s' ≤ st + 2 → AdaM (mv p 1 Ls', aim, F + 1) s' tg ls ss → Q 1 (nI s') tg ls ss) → wR_X10_touchAdaptive_277 (nI m) (nI p) Q 0 (nI st') (nI aim) ls ss := by
          intro Ls' st' ls ss hs1 hs2 hr hq
          refine m_end (F := 0) (x := 0) hr hp (by omega) (fun ls ss hr => ?_)
          exact hq _ _ _ _ (by omega) (by omega) ⟨rfl, hr⟩
        have repl : ∀ Ls' ls ss, Bas Ls' → (Ls' 1).length ≤ 64 → 0 < (Ls' 2).length → AS ls ss Ls' st → (∀ s' tg ls ss, st ≤ s' → s' ≤ st + 2 → AdaM (mv p 1 (rep false aim Ls'), aim, F + 1) s' tg ls ss → Q 1 (nI s') tg ls ss) → wR_X10_replace (nI aim) 0 (nI st) ls ss (fun y6_0 y6_1 y6_2 => (wR_X10_touchAdaptive_277 (nI m) (nI p) Q 0 y6_0 (nI aim) y6_1 y6_2)) := by
          intro Ls' ls ss hB hl1 h2' hr hq
          exact m_replace (b := false) hB hr (by omega) hl1 (by omega) (fun _ => h2') (fun ls ss hr => fin _ _ _ _ (by omega) (by omega) hr hq)
        have gone : ∀ i, 1 ≤ i → i ≤ 4 → 0 < (Ls i).length → (Ls i).headD 0 < 64 ∧ Bas (mv ((Ls i).headD 0) 0 Ls) ∧ ∀ k, 1 ≤ k → k ≤ 4 → k ≠ i → mv ((Ls i).headD 0) 0 Ls k = Ls k := by
          intro i hi hi2 h0
          have hm := hd_mem h0
          have hq := (hb.1 i hi hi2).2 _ hm
          exact ⟨hq, hb.mv hq, fun k hk hk2 hne => mv_self (hb.not hi hi2 hk hk2 hm (fun e => hne e.symm)) (by omega)⟩
        by_cases t : (Ls 1).length + (Ls 3).length = m
        · refine jq t (m_sizeOf (i := 1) g2 (by omega) (by omega) ?_)
          rw [nI_eq (by omega) (by omega)]
          by_cases t1 : (Ls 1).length = m
          · rw [if_pos t1] at h
            obtain ⟨q1, q2, q3⟩ := gone 1 (by omega) (by omega) (by omega)
            refine jq t1 (iq (by decide) (m_oldestOf (i := 1) g2 (by omega) (by omega) (by omega) (by omega) ⟨vp_in_nI q1 (by omega), jp (by decide) ?_⟩))
            rw [nI_clamp (by omega)]
            exact fin _ _ _ _ (by omega) (by omega) (g2.forget q1) h
          · rw [if_neg t1, if_pos t] at h
            have h12 := h4 (by omega)
            obtain ⟨q1, q2, q3⟩ := gone 3 (by omega) (by omega) (by omega)
            refine jp t1 (ip rfl (m_oldestOf (i := 3) g2 (by omega) (by omega) (by omega) (by omega) ⟨vp_in_nI q1 (by omega), jq rfl ?_⟩))
            rw [nI_clamp (by omega)]
            exact repl _ _ _ q2 (by rw [q3 1 (by omega) (by omega) (by omega)]; omega) (by rw [q3 2 (by omega) (by omega) (by omega)]; omega) (g2.forget q1) h
        · refine jp t (jq rfl ?_)
          rw [if_neg (by omega), if_neg t] at h
          rw [nI_two, nI_ltI (by omega) (by omega), nI_eq (by omega) (by omega)]
          by_cases t3 : m ≤ (Ls 1).length + (Ls 2).length + (Ls 3).length + (Ls 4).length
          · rw [if_pos t3] at h
            refine iq (by omega) ?_
            by_cases t4 : (Ls 1).length + (Ls 2).length + (Ls 3).length + (Ls 4).length = 2 * m
            · rw [if_pos t4] at h
              have h12 := h4 (by omega)
              obtain ⟨q1, q2, q3⟩ := gone 4 (by omega) (by omega) (by omega)
              refine jq (by omega) (m_oldestOf (i := 4) g2 (by omega) (by omega) (by omega) (by omega) ⟨vp_in_nI q1 (by omega), ?_⟩)
              rw [nI_clamp (by omega)]
              exact repl _ _ _ q2 (by rw [q3 1 (by omega) (by omega) (by omega)]; omega) (by rw [q3 2 (by omega) (by omega) (by omega)]; omega) (g2.forget q1) h
            · rw [if_neg t4] at h
              have h12 : (Ls 1).length + (Ls 2).length = m := by
                by_cases e : 0 < (Ls 3).length + (Ls 4).length
                · exact h4 e
                · omega
              exact jp (by omega) (repl _ _ _ hb (by omega) (by omega) g2 h)
          · rw [if_neg t3] at h
            exact ip (by omega) (fin _ _ _ _ (by omega) (by omega) g2 h)
