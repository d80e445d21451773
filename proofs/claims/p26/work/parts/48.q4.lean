/-! PURE: the victim -/
theorem hd_cons {L : List Nat} (h : 0 < L.length) : ∃ x l, L = x :: l ∧ L.headD 0 = x := by
  cases L with
  | nil => simp at h
  | cons x l => exact ⟨x, l, rfl, rfl⟩
theorem k_head {c : Int32} {f : Nat → Int32} {L : List Nat} (hr : PLr c f L) (h0 : 0 < L.length) {Q : Int32 → Prop} (h : Q (nI (L.headD 0))) : wR_X5_leastRecent c f Q := k_least hr (fun e => by rw [e] at h0; simp at h0) (fun x l e => by rw [e] at h; exact h)
theorem k_vict7 {m : Nat} {kc : Int32} {kp : Nat → Int32} {L : List Nat} (hr : PLr kc kp L) (hm : 1 ≤ m) (hm2 : m ≤ 16) {Q : Int32 → Prop} (h0 : L.length < m → Q (-1)) (h1 : ¬ L.length < m → Q (nI (L.headD 0))) : wR_X1_nextVictim_on_X7 (nI m) kc kp Q := by
  have hl := hr.2.1
  by_cases hf : L.length < m
  · exact iq (fun hc => by rw [hr.1, nI_leI (by omega) (by omega)] at hc; omega) (h0 hf)
  · exact ip (by rw [hr.1, nI_leI (by omega) (by omega)]; omega) (k_head hr (by omega) (h1 hf))
theorem k_vict8 {m : Nat} {kc : Int32} {kp : Nat → Int32} {L : List Nat} (hr : PLr kc kp L) (hm : 1 ≤ m) (hm2 : m ≤ 16) {Q : Int32 → Prop} (h0 : L.length < m → Q (-1)) (h1 : ¬ L.length < m → Q (nI (L.headD 0))) : wR_X1_nextVictim_on_X8 (nI m) kc kp Q := by
  have hl := hr.2.1
  by_cases hf : L.length < m
  · exact iq (fun hc => by rw [hr.1, nI_leI (by omega) (by omega)] at hc; omega) (h0 hf)
  · exact ip (by rw [hr.1, nI_leI (by omega) (by omega)]; omega) (k_head hr (by omega) (h1 hf))
def adaV (m : Nat) (a : AAda) : Nat := if (a.1 1).length = m then (a.1 1).headD 0 else if from1 false a.2.1 a.1 then (a.1 1).headD 0 else (a.1 2).headD 0
theorem k_vict0 {m n : Nat} {a : AAda} {fc am c1 c2 c3 c4 : Int32} {f1 f2 f3 f4 : Nat → Int32} (hi : AdaInv m n a) (hm : 1 ≤ m) (hm2 : m ≤ 16) (hr : AdaC a fc am c1 f1 c2 f2 c3 f3 c4 f4) {Q : Int32 → Prop} (h0 : (a.1 1).length + (a.1 2).length < m → Q (-1)) (h1 : ¬ (a.1 1).length + (a.1 2).length < m → Q (nI (adaV m a))) : wR_X0_nextVictim (nI m) am c1 f1 c2 f2 c3 c4 Q := by
  obtain ⟨b1, b2, b3, b4, b5, b6, b7⟩ := hi
  obtain ⟨z1, z2, y1, y2, y3, y4⟩ := hr
  subst z2
  unfold adaV at h1
  have e1 := y1.1
  have e2 := y2.1
  have e3 := y3.1
  have e4 := y4.1
  by_cases c1 : (a.1 1).length = m
  · rw [if_pos c1] at h1
    refine iq (fun hc => ?_) (k_head y1 (by omega) (h1 (by omega)))
    rw [e1, nI_ltI (by omega) (by omega)] at hc; omega
  · rw [if_neg c1] at h1
    refine ip (by rw [e1, nI_ltI (by omega) (by omega)]; omega) ?_
    unfold wR_X0_sizeOfAll
    rw [e1, e2, e3, e4, nI_add, nI_add, nI_add]
    simp only []
    rw [nI_leI (by omega) (by omega)]
    by_cases c2 : m ≤ (a.1 1).length + (a.1 2).length + (a.1 3).length + (a.1 4).length
    · have h12 : ¬ (a.1 1).length + (a.1 2).length < m := by
        by_cases z : 0 < (a.1 3).length + (a.1 4).length
        · have := b5 z; omega
        · omega
      have h1' := h1 h12
      refine ip c2 (k_from1 (b := false) rfl (by omega) (by omega) ?_)
      rw [e1] at y1
      rw [e2] at y2
      by_cases c3 : from1 false a.2.1 a.1
      · rw [if_pos c3] at h1'
        rw [decide_eq_true c3]
        exact iq (by decide) (k_head y1 c3.1 h1')
      · rw [if_neg c3] at h1'
        rw [decide_eq_false c3]
        exact ip rfl (k_head y2 (by omega) h1')
    · exact iq c2 (h0 (by omega))
theorem hd_lt {L : List Nat} (h : ∀ x ∈ L, x < 64) : L.headD 0 < 64 := by
  cases L with
  | nil => simp
  | cons x l => exact h x List.mem_cons_self
def vOf (m : Nat) (r : ARec) (c : AClk) (a : AAda) (s : AStr) (k : Nat) : Nat := if k = 0 then r.1.headD 0 else if k = 1 then c.2.1 (vic m c.2.2.1 m c.2.2.2.1) else if k = 2 then adaV m a else s.1.headD 0
theorem vOf_lt {m w n : Nat} {t : Nat → Nat} {r : ARec} {c : AClk} {a : AAda} {s : AStr} (hi : AInv m w n t r c a s) {k : Nat} (h : ¬ hN r c a s k < m) : vOf m r c a s k < 64 := by
  obtain ⟨i1, i2, i3, i4, i5, i6, i7, i8, i9, i10⟩ := hi
  unfold vOf
  unfold hN at h
  split
  · exact hd_lt i7.1.2.1
  · rename_i k0
    rw [if_neg k0] at h
    split
    · rename_i k1
      rw [if_pos k1] at h
      exact i8.2.2.1 _ (by have := vic_lt (b := c.2.2.1) m _ i8.2.1; have := i8.1; omega)
    · split
      · unfold adaV
        have b1 := (i9.1.1 1 (by omega) (by omega)).2
        have b2 := (i9.1.1 2 (by omega) (by omega)).2
        split
        · exact hd_lt b1
        · split
          · exact hd_lt b1
          · exact hd_lt b2
      · exact hd_lt i10.1.2.1
theorem k_vict {m w n : Nat} {t : Nat → Nat} {r : ARec} {c : AClk} {a : AAda} {s : AStr} {r1 r2 r3 : Int32} {r4 r5 r6 r7 : Nat → Int32} {c1 c2 c3 : Int32} {c4 c5 : Nat → Int32} {a1 a2 a3 : Int32} {a4 : Nat → Int32} {a5 : Int32} {a6 : Nat → Int32} {a7 : Int32} {a8 : Nat → Int32} {a9 : Int32} {a10 : Nat → Int32} {s1 s2 s3 s4 s5 s6 s7 s8 : Int32} {s9 s10 : Nat → Int32} {h1 h2 : Int32} {h3 h4 h5 h6 : Nat → Int32} (hi : AInv m w n t r c a s) (hc : SeeC m w n t r c a s r1 r2 r3 r4 r5 r6 r7 c1 c2 c3 c4 c5 a1 a2 a3 a4 a5 a6 a7 a8 a9 a10 s1 s2 s3 s4 s5 s6 s7 s8 s9 s10 h1 h2 h3 h4 h5 h6) {k : Nat} (hk : k < 4) {Q : Int32 → Prop} (h0 : hN r c a s k < m → Q (-1)) (h1 : ¬ hN r c a s k < m → Q (nI (vOf m r c a s k))) : (k = 0 ∧ (wR_X1_nextVictim_on_X7 (nI m) r3 r4 Q)) ∨ (k = 1 ∧ (wR_X2_nextVictim (nI m) c2 c3 c4 c5 Q)) ∨ (k = 2 ∧ (wR_X0_nextVictim (nI m) a2 a3 a4 a5 a6 a7 a9 Q)) ∨ (k = 3 ∧ (wR_X1_nextVictim_on_X8 (nI m) s8 s9 Q)) := by
  obtain ⟨g1, g2, g3, g4, g5⟩ := hc
  obtain ⟨i1, i2, i3, i4, i5, i6, i7, i8, i9, i10⟩ := hi
  refine four hk (fun e => ?_) (fun e => ?_) (fun e => ?_) (fun e => ?_)
  · subst e
    exact k_vict7 g1.2.2.1 i1 i2 h0 h1
  · subst e
    obtain ⟨z1, z2, z3, z4, z5⟩ := g2
    obtain ⟨u1, u2, u3, u4, u5⟩ := i8
    subst z2 z3
    by_cases hf : c.1 < m
    · exact iq (fun hh => by rw [nI_leI (by omega) (by omega)] at hh; omega) (h0 hf)
    · refine ip (nI_le (by omega) (by omega)) (k_vic (u := c.1) i2 u2 (fun i hi => z5 i (by omega)) ?_)
      rw [z4 _ (by have := vic_lt (b := c.2.2.1) m _ u2; omega)]
      exact h1 hf
  · subst e
    exact k_vict0 i9 i1 i2 g3 h0 h1
  · subst e
    exact k_vict8 g4.2.2.2.2.2.2.1 i1 i2 h0 h1
