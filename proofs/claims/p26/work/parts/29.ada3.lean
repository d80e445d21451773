/-! PURE: policy 2 of the class, a touch -/
theorem c_ada {m n p : Nat} {a : AAda} {fc am c1 c2 c3 c4 : Int32} {f1 f2 f3 f4 : Nat → Int32} (hi : AdaInv m n a) (hn : n ≤ 400) (hm : 1 ≤ m) (hm2 : m ≤ 16) (hp : p < 64) (hr : AdaC a fc am c1 f1 c2 f2 c3 f3 c4 f4) {Q : Int32 → Int32 → Int32 → Int32 → (Nat → Int32) → Int32 → (Nat → Int32) → Int32 → (Nat → Int32) → Int32 → (Nat → Int32) → Prop} (h : ∀ fc am c1 f1 c2 f2 c3 f3 c4 f4, AdaC (adaStep m p a) fc am c1 f1 c2 f2 c3 f3 c4 f4 → Q (adaFault p a) fc am c1 f1 c2 f2 c3 f3 c4 f4) : wR_X6_see_on_X0 (nI m) (nI p) fc am c1 f1 c2 f2 c3 f3 c4 f4 Q := by
  have hi0 := hi
  have hlens := hi.lens hm2
  obtain ⟨Ls, aim, F⟩ := a
  obtain ⟨hb, h1, h2, h3, h4, h5, h6⟩ := hi
  simp only at hb h1 h2 h3 h4 h5 h6 hlens
  obtain ⟨l1, l2, l3, l4⟩ := hlens
  obtain ⟨g1, g2, hL⟩ := hr
  obtain ⟨r1, r2, r3, r4⟩ := id hL
  simp only at g1 g2 hL r1 r2 r3 r4
  subst g1 g2
  -- kept
  have kept : p ∈ Ls 1 ∨ p ∈ Ls 2 → wR_X6_see_on_X0_13 (nI m) (nI p) Q 0 (nI F) (nI aim) c1 f1 c2 f2 c3 f3 c4 f4 := by
    intro hin
    have hst : adaStep m p (Ls, aim, F) = (mv p 2 Ls, aim, F) := by simp only [adaStep, if_pos hin]
    have hfa : adaFault p (Ls, aim, F) = 0 := by simp only [adaFault, if_pos hin]
    rw [hst, hfa] at h
    refine ip rfl (k_del r1 hp (fun c1 f1 r1 => k_del r2 hp (fun c2 f2 r2 => k_add r2 hp ?_ (fun c2 f2 r2 => ⟨Or.inl rfl, ?_⟩))))
    · have := del_len_le p (Ls 2); omega
    · have no : ∀ k, 3 ≤ k → k ≤ 4 → p ∉ Ls k := by
        intro k hk hk2
        rcases hin with hin | hin
        · exact hb.not (by omega) (by omega) (by omega) (by omega) hin (by omega)
        · exact hb.not (by omega) (by omega) (by omega) (by omega) hin (by omega)
      refine h _ _ _ _ _ _ _ _ _ _ ⟨rfl, rfl, ?_, ?_, ?_, ?_⟩
      · simp only; rw [mv_del (by omega)]; exact r1
      · simp only; unfold mv; rw [if_pos rfl]; exact r2
      · simp only; rw [mv_self (no 3 (by omega) (by omega)) (by omega)]; exact r3
      · simp only; rw [mv_self (no 4 (by omega) (by omega)) (by omega)]; exact r4
  refine k_contains r1 hp ?_
  by_cases i1 : p ∈ Ls 1
  · rw [if_pos i1]
    exact jp (by decide) ⟨Or.inr rfl, jp (by decide) (kept (Or.inl i1))⟩
  · rw [if_neg i1]
    refine jq rfl (k_contains r2 hp ?_)
    by_cases i2 : p ∈ Ls 2
    · rw [if_pos i2]
      exact iq (by decide) ⟨Or.inr rfl, jp (by decide) (kept (Or.inr i2))⟩
    · rw [if_neg i2]
      refine ip rfl ⟨Or.inl rfl, jq rfl (iq (by decide) ?_)⟩
      have hno : ¬ (p ∈ Ls 1 ∨ p ∈ Ls 2) := fun h => h.elim i1 i2
      have hfa : adaFault p (Ls, aim, F) = 1 := by simp only [adaFault, if_neg hno]
      rw [hfa] at h
      refine k_contains r3 hp ?_
      by_cases i3 : p ∈ Ls 3
      · have hst : adaStep m p (Ls, aim, F) = (mv p 2 (rep false (min m (aim + max 1 ((Ls 4).length / (Ls 3).length))) Ls), min m (aim + max 1 ((Ls 4).length / (Ls 3).length)), F + 1) := by simp only [adaStep, if_neg hno, if_pos i3]
        rw [hst] at h
        rw [if_pos i3]
        have p3 := mem_pos i3
        have hd : (Ls 4).length / (Ls 3).length ≤ 32 := Nat.le_trans (Nat.div_le_self _ _) l4
        have e4 := r4.1
        have e3 := r3.1
        subst e4 e3
        refine iq (by decide) (k_shift (by omega) (by omega) p3 ?_)
        rw [nI_add, nI_min (by omega) (by omega)]
        have hok : 0 < (Ls 2).length := rep_ok3 hi0 i3 0
        generalize hA : min m (aim + max 1 ((Ls 4).length / (Ls 3).length)) = A at h ⊢
        obtain ⟨s1, s2, s3, s4, s5, s6⟩ := rep_spec (b := false) (aim := A) hb (fun _ => hok)
        refine k_rep (b := false) hb ⟨l1, l2, l3, l4⟩ (by omega) hL (fun _ => hok) (fun c1 f1 c2 f2 c3 f3 c4 f4 hR => ?_)
        obtain ⟨r1, r2, r3, r4⟩ := hR
        have m3 := s2 p 3 (by omega) (by omega) i3
        refine k_del r3 hp (fun c3 f3 r3 => k_add r2 hp (by omega) (fun c2 f2 r2 => ⟨Or.inr rfl, ?_⟩))
        rw [nI_1]
        refine h _ _ _ _ _ _ _ _ _ _ ⟨rfl, rfl, ?_, ?_, ?_, ?_⟩
        · simp only; rw [mv_self (s1.not (by omega) (by omega) (by omega) (by omega) m3 (by omega)) (by omega)]; exact r1
        · simp only; rw [mv_add (s1.not (by omega) (by omega) (by omega) (by omega) m3 (by omega))]; exact r2
        · simp only; rw [mv_del (by omega)]; exact r3
        · simp only; rw [mv_self (s1.not (by omega) (by omega) (by omega) (by omega) m3 (by omega)) (by omega)]; exact r4
      · rw [if_neg i3]
        refine ip rfl (k_contains r4 hp ?_)
        by_cases i4 : p ∈ Ls 4
        · have hst : adaStep m p (Ls, aim, F) = (mv p 2 (rep true (aim - max 1 ((Ls 3).length / (Ls 4).length)) Ls), aim - max 1 ((Ls 3).length / (Ls 4).length), F + 1) := by simp only [adaStep, if_neg hno, if_neg i3, if_pos i4]
          rw [hst] at h
          rw [if_pos i4]
          have p4 := mem_pos i4
          have hd : (Ls 3).length / (Ls 4).length ≤ 32 := Nat.le_trans (Nat.div_le_self _ _) l3
          have e4 := r4.1
          have e3 := r3.1
          subst e4 e3
          refine iq (by decide) (k_shift (by omega) (by omega) p4 ?_)
          rw [nI_minus (by omega) (by omega)]
          have hok := rep_ok4 hi0 hm i4 (aim := aim - max 1 ((Ls 3).length / (Ls 4).length)) (by omega)
          simp only at hok
          have hA2 : aim - max 1 ((Ls 3).length / (Ls 4).length) ≤ aim := Nat.sub_le _ _
          generalize hA : aim - max 1 ((Ls 3).length / (Ls 4).length) = A at h hok hA2 ⊢
          obtain ⟨s1, s2, s3, s4, s5, s6⟩ := rep_spec (b := true) (aim := A) hb hok
          refine k_rep (b := true) hb ⟨l1, l2, l3, l4⟩ (by omega) hL hok (fun c1 f1 c2 f2 c3 f3 c4 f4 hR => ?_)
          obtain ⟨r1, r2, r3, r4⟩ := hR
          have m4 := s2 p 4 (by omega) (by omega) i4
          refine k_del r4 hp (fun c4 f4 r4 => k_add r2 hp (by omega) (fun c2 f2 r2 => ⟨Or.inr rfl, ?_⟩))
          rw [nI_1]
          refine h _ _ _ _ _ _ _ _ _ _ ⟨rfl, rfl, ?_, ?_, ?_, ?_⟩
          · simp only; rw [mv_self (s1.not (by omega) (by omega) (by omega) (by omega) m4 (by omega)) (by omega)]; exact r1
          · simp only; rw [mv_add (s1.not (by omega) (by omega) (by omega) (by omega) m4 (by omega))]; exact r2
          · simp only; rw [mv_self (s1.not (by omega) (by omega) (by omega) (by omega) m4 (by omega)) (by omega)]; exact r3
          · simp only; rw [mv_del (by omega)]; exact r4
        · rw [if_neg i4]
          have hst : adaStep m p (Ls, aim, F) = (mv p 1 (room m aim Ls), aim, F + 1) := by simp only [adaStep, if_neg hno, if_neg i3, if_neg i4]
          rw [hst] at h
          have hout : ∀ i, 1 ≤ i → i ≤ 4 → p ∉ Ls i := by
            intro i hi hi2
            have : i = 1 ∨ i = 2 ∨ i = 3 ∨ i = 4 := by omega
            rcases this with rfl | rfl | rfl | rfl
            · exact i1
            · exact i2
            · exact i3
            · exact i4
          obtain ⟨s1, s2, s3, s4, s5, s6⟩ := room_spec hi0 hm hout
          simp only at s1 s2 s3 s4 s5 s6
          refine ip rfl (k_room hi0 hm hm2 hL (fun c1 f1 c2 f2 c3 f3 c4 f4 hR => ?_))
          obtain ⟨r1, r2, r3, r4⟩ := hR
          refine k_add r1 hp (by omega) (fun c1 f1 r1 => ⟨Or.inr rfl, ?_⟩)
          rw [nI_1]
          refine h _ _ _ _ _ _ _ _ _ _ ⟨rfl, rfl, ?_, ?_, ?_, ?_⟩
          · simp only; rw [mv_add (s2 1 (by omega) (by omega))]; exact r1
          · simp only; rw [mv_self (s2 2 (by omega) (by omega)) (by omega)]; exact r2
          · simp only; rw [mv_self (s2 3 (by omega) (by omega)) (by omega)]; exact r3
          · simp only; rw [mv_self (s2 4 (by omega) (by omega)) (by omega)]; exact r4
