/-! PURE: policy 2 of the class -/
theorem k_dropLeast {c : Int32} {f : Nat → Int32} {L : List Nat} (hr : PLr c f L) (h0 : 0 < L.length) {Q : Int32 → Int32 → (Nat → Int32) → Prop} (h : ∀ c' f', PLr c' f' (del (L.headD 0) L) → Q (nI (L.headD 0)) c' f') : wR_X5_dropLeastRecent c f Q := by
  refine k_least hr (fun he => ?_) (fun a t ht => ?_)
  · rw [he] at h0; simp at h0
  · have hh : L.headD 0 = a := by rw [ht]; rfl
    rw [hh] at h
    exact k_del hr (hr.2.2.1 a (by rw [ht]; exact List.mem_cons_self)) (fun c f hr => h c f hr)
theorem k_from1 {b : Bool} {aim : Nat} {Ls : ALs} {c1 : Int32} (hc : c1 = nI (Ls 1).length) (hl : (Ls 1).length ≤ 64) (ha : aim ≤ 16) {Q : Int32 → Prop} (h : Q (bI (decide (from1 b aim Ls)))) : wR_X0_replacesFromT1 (nI aim) c1 (bI b) Q := by
  subst hc
  unfold wR_X0_replacesFromT1
  have no : ∀ {P : Prop}, ¬ from1 b aim Ls → (Q 0 → P) → P := fun hn hp => hp (by rw [decide_eq_false hn] at h; exact h)
  have ye : ∀ {P : Prop}, from1 b aim Ls → (Q 1 → P) → P := fun hn hp => hp (by rw [decide_eq_true hn] at h; exact h)
  by_cases z : (Ls 1).length = 0
  · refine jq ((nI_z (by omega)).mpr z) ?_
    exact no (fun hf => by have := hf.1; omega) id
  · refine jp (fun e => z ((nI_z (by omega)).mp e)) ?_
    have hlt : nI aim < nI (Ls 1).length ↔ aim < (Ls 1).length := by
      rw [Int32.lt_iff_toInt_lt, nI_toInt (by omega), nI_toInt (by omega)]; omega
    rw [hlt, nI_eq (by omega) (by omega)]
    by_cases c1 : aim < (Ls 1).length
    · exact ip c1 (ye ⟨by omega, Or.inl c1⟩ (fun h => ⟨Or.inr rfl, h⟩))
    · refine iq c1 ?_
      by_cases c2 : (Ls 1).length = aim
      · refine jq c2 ?_
        rw [bI_z]
        cases b with
        | false => exact ip rfl (no (fun hf => by rcases hf.2 with h | h; exact c1 h; exact absurd h.2 (by decide)) (fun h => ⟨Or.inl rfl, h⟩))
        | true => exact iq (by decide) (ye ⟨by omega, Or.inr ⟨c2, rfl⟩⟩ (fun h => ⟨Or.inr rfl, h⟩))
      · exact jp c2 (no (fun hf => by rcases hf.2 with h | h; exact c1 h; exact c2 h.1) (fun h => ⟨Or.inl rfl, h⟩))
def AdaL (Ls : ALs) (c1 : Int32) (f1 : Nat → Int32) (c2 : Int32) (f2 : Nat → Int32) (c3 : Int32) (f3 : Nat → Int32) (c4 : Int32) (f4 : Nat → Int32) : Prop := PLr c1 f1 (Ls 1) ∧ PLr c2 f2 (Ls 2) ∧ PLr c3 f3 (Ls 3) ∧ PLr c4 f4 (Ls 4)
theorem mv_self {p j i : Nat} {Ls : ALs} (h : p ∉ Ls i) (hij : i ≠ j) : mv p j Ls i = Ls i := by
  unfold mv; rw [if_neg hij, del_self h]
theorem mv_add {p j : Nat} {Ls : ALs} (h : p ∉ Ls j) : mv p j Ls j = Ls j ++ [p] := by
  unfold mv; rw [if_pos rfl, del_self h]
theorem mv_del {p j i : Nat} {Ls : ALs} (hij : i ≠ j) : mv p j Ls i = del p (Ls i) := by
  unfold mv; rw [if_neg hij]
theorem k_rep {b : Bool} {aim : Nat} {Ls : ALs} {c1 c2 c3 c4 : Int32} {f1 f2 f3 f4 : Nat → Int32} (hB : Bas Ls) (hl : (Ls 1).length ≤ 32 ∧ (Ls 2).length ≤ 32 ∧ (Ls 3).length ≤ 32 ∧ (Ls 4).length ≤ 32) (ha : aim ≤ 16) (hr : AdaL Ls c1 f1 c2 f2 c3 f3 c4 f4) (hok : ¬ from1 b aim Ls → 0 < (Ls 2).length) {Q : Int32 → (Nat → Int32) → Int32 → (Nat → Int32) → Int32 → (Nat → Int32) → Int32 → (Nat → Int32) → Prop} (h : ∀ c1 f1 c2 f2 c3 f3 c4 f4, AdaL (rep b aim Ls) c1 f1 c2 f2 c3 f3 c4 f4 → Q c1 f1 c2 f2 c3 f3 c4 f4) : wR_X0_replace (nI aim) (bI b) c1 f1 c2 f2 c3 f3 c4 f4 Q := by
  obtain ⟨r1, r2, r3, r4⟩ := hr
  obtain ⟨l1, l2, l3, l4⟩ := hl
  refine k_from1 r1.1 (by omega) ha ?_
  unfold rep at h
  by_cases hf : from1 b aim Ls
  · rw [if_pos hf] at h
    rw [decide_eq_true hf]
    refine iq (by decide) (k_dropLeast r1 hf.1 (fun c f hd => ?_))
    have hm := hd_mem hf.1
    have hq := (hB.1 1 (by omega) (by omega)).2 _ hm
    generalize (Ls 1).headD 0 = q at *
    refine k_add r3 hq (by omega) (fun c' f' ha => ?_)
    refine h _ _ _ _ _ _ _ _ ⟨?_, ?_, ?_, ?_⟩
    · rw [mv_del (by omega)]; exact hd
    · rw [mv_self (hB.not (by omega) (by omega) (by omega) (by omega) hm (by omega)) (by omega)]; exact r2
    · rw [mv_add (hB.not (by omega) (by omega) (by omega) (by omega) hm (by omega))]; exact ha
    · rw [mv_self (hB.not (by omega) (by omega) (by omega) (by omega) hm (by omega)) (by omega)]; exact r4
  · rw [if_neg hf] at h
    rw [decide_eq_false hf]
    have h2 := hok hf
    have hz : ¬ c2 ≤ 0 := by rw [r2.1, nI_np (by omega)]; omega
    refine ip rfl (iq hz (k_dropLeast r2 h2 (fun c f hd => ?_)))
    have hm := hd_mem h2
    have hq := (hB.1 2 (by omega) (by omega)).2 _ hm
    generalize (Ls 2).headD 0 = q at *
    refine k_add r4 hq (by omega) (fun c' f' ha => ?_)
    refine h _ _ _ _ _ _ _ _ ⟨?_, ?_, ?_, ?_⟩
    · rw [mv_self (hB.not (by omega) (by omega) (by omega) (by omega) hm (by omega)) (by omega)]; exact r1
    · rw [mv_del (by omega)]; exact hd
    · rw [mv_self (hB.not (by omega) (by omega) (by omega) (by omega) hm (by omega)) (by omega)]; exact r3
    · rw [mv_add (hB.not (by omega) (by omega) (by omega) (by omega) hm (by omega))]; exact ha
theorem nI_two (m : Nat) : (2 : Int32) * nI m = nI (2 * m) := by
  have : nI (2 * m) = nI m + nI m := by rw [nI_add]; congr 1; omega
  rw [this]; grind
theorem AdaInv.lens {m n : Nat} {a : AAda} (h : AdaInv m n a) (hm2 : m ≤ 16) : (a.1 1).length ≤ 32 ∧ (a.1 2).length ≤ 32 ∧ (a.1 3).length ≤ 32 ∧ (a.1 4).length ≤ 32 := by
  obtain ⟨hb, h1, h2, h3, h4, h5, h6⟩ := h
  omega
theorem k_room {m n : Nat} {Ls : ALs} {aim F : Nat} {c1 c2 c3 c4 : Int32} {f1 f2 f3 f4 : Nat → Int32} (hi : AdaInv m n (Ls, aim, F)) (hm : 1 ≤ m) (hm2 : m ≤ 16) (hr : AdaL Ls c1 f1 c2 f2 c3 f3 c4 f4) {Q : Int32 → (Nat → Int32) → Int32 → (Nat → Int32) → Int32 → (Nat → Int32) → Int32 → (Nat → Int32) → Prop} (h : ∀ c1 f1 c2 f2 c3 f3 c4 f4, AdaL (room m aim Ls) c1 f1 c2 f2 c3 f3 c4 f4 → Q c1 f1 c2 f2 c3 f3 c4 f4) : wR_X0_makeRoomForUnknown (nI m) (nI aim) c1 f1 c2 f2 c3 f3 c4 f4 Q := by
  have hlens := hi.lens hm2
  obtain ⟨hb, h1, h2, h3, h4, h5, h6⟩ := hi
  simp only at hb h1 h2 h3 h4 h5 h6 hlens
  obtain ⟨l1, l2, l3, l4⟩ := hlens
  obtain ⟨r1, r2, r3, r4⟩ := id hr
  have e1 := r1.1
  have e2 := r2.1
  have e3 := r3.1
  have e4 := r4.1
  subst e1 e2 e3 e4
  -- what is left when the least recent of list i goes
  have gone : ∀ i, 1 ≤ i → i ≤ 4 → 0 < (Ls i).length → Bas (mv ((Ls i).headD 0) 0 Ls) ∧ (∀ k, 1 ≤ k → k ≤ 4 → k ≠ i → mv ((Ls i).headD 0) 0 Ls k = Ls k) ∧ mv ((Ls i).headD 0) 0 Ls i = del ((Ls i).headD 0) (Ls i) := by
    intro i hi hi2 h0
    have hm := hd_mem h0
    exact ⟨hb.mv ((hb.1 i hi hi2).2 _ hm), fun k hk hk2 hne => mv_self (hb.not hi hi2 hk hk2 hm (fun e => hne e.symm)) (by omega), mv_del (by omega)⟩
  unfold room at h
  unfold wR_X0_makeRoomForUnknown
  rw [nI_ltI (by omega) (by omega), nI_add, nI_ltI (by omega) (by omega)]
  by_cases t1 : (Ls 1).length = m
  · rw [if_pos t1] at h
    refine iq (by omega) (k_dropLeast r1 (by omega) (fun c f hd => ?_))
    obtain ⟨g1, g2, g3⟩ := gone 1 (by omega) (by omega) (by omega)
    refine h _ _ _ _ _ _ _ _ ⟨?_, ?_, ?_, ?_⟩
    · rw [g3]; exact hd
    · rw [g2 2 (by omega) (by omega) (by omega)]; exact r2
    · rw [g2 3 (by omega) (by omega) (by omega)]; exact r3
    · rw [g2 4 (by omega) (by omega) (by omega)]; exact r4
  · rw [if_neg t1] at h
    refine ip (by omega) ?_
    by_cases t2 : (Ls 1).length + (Ls 3).length = m
    · rw [if_pos t2] at h
      refine iq (by omega) (k_dropLeast r3 (by omega) (fun c f hd => ?_))
      obtain ⟨g1, g2, g3⟩ := gone 3 (by omega) (by omega) (by omega)
      have h12 := h4 (by omega)
      refine k_rep (b := false) g1 ⟨?_, ?_, ?_, ?_⟩ (by omega) ⟨?_, ?_, ?_, ?_⟩ (fun _ => ?_) h
      · rw [g2 1 (by omega) (by omega) (by omega)]; omega
      · rw [g2 2 (by omega) (by omega) (by omega)]; omega
      · rw [g3]; have := del_len_le ((Ls 3).headD 0) (Ls 3); omega
      · rw [g2 4 (by omega) (by omega) (by omega)]; omega
      · rw [g2 1 (by omega) (by omega) (by omega)]; exact r1
      · rw [g2 2 (by omega) (by omega) (by omega)]; exact r2
      · rw [g3]; exact hd
      · rw [g2 4 (by omega) (by omega) (by omega)]; exact r4
      · rw [g2 2 (by omega) (by omega) (by omega)]; omega
    · rw [if_neg t2] at h
      refine ip (by omega) ?_
      unfold wR_X0_sizeOfAll
      rw [nI_add, nI_add, nI_add, nI_two]
      dsimp only
      rw [nI_ltI (by omega) (by omega), nI_ltI (by omega) (by omega)]
      by_cases t3 : m ≤ (Ls 1).length + (Ls 2).length + (Ls 3).length + (Ls 4).length
      · rw [if_pos t3] at h
        refine iq (by omega) ?_
        by_cases t4 : (Ls 1).length + (Ls 2).length + (Ls 3).length + (Ls 4).length = 2 * m
        · rw [if_pos t4] at h
          refine iq (by omega) (k_dropLeast r4 (by omega) (fun c f hd => ?_))
          obtain ⟨g1, g2, g3⟩ := gone 4 (by omega) (by omega) (by omega)
          have h12 := h4 (by omega)
          refine k_rep (b := false) g1 ⟨?_, ?_, ?_, ?_⟩ (by omega) ⟨?_, ?_, ?_, ?_⟩ (fun _ => ?_) h
          · rw [g2 1 (by omega) (by omega) (by omega)]; omega
          · rw [g2 2 (by omega) (by omega) (by omega)]; omega
          · rw [g2 3 (by omega) (by omega) (by omega)]; omega
          · rw [g3]; have := del_len_le ((Ls 4).headD 0) (Ls 4); omega
          · rw [g2 1 (by omega) (by omega) (by omega)]; exact r1
          · rw [g2 2 (by omega) (by omega) (by omega)]; exact r2
          · rw [g2 3 (by omega) (by omega) (by omega)]; exact r3
          · rw [g3]; exact hd
          · rw [g2 2 (by omega) (by omega) (by omega)]; omega
        · rw [if_neg t4] at h
          have h12 : (Ls 1).length + (Ls 2).length = m := by
            by_cases e : 0 < (Ls 3).length + (Ls 4).length
            · exact h4 e
            · omega
          refine ip (by omega) (k_rep (b := false) hb ⟨l1, l2, l3, l4⟩ (by omega) hr (fun _ => by omega) h)
      · rw [if_neg t3] at h
        exact ip (by omega) (h _ _ _ _ _ _ _ _ hr)

theorem k_shift {a b : Nat} (ha : a ≤ 64) (hb : b ≤ 64) (h0 : 0 < b) {Q : Int32 → Prop} (h : Q (nI (max 1 (a / b)))) : wR_X0_shift (nI a) (nI b) Q := by
  unfold wR_X0_shift
  rw [nI_np (by omega), nI_z (by omega), pk_div (by omega) h0 (by omega)]
  have hd : a / b ≤ 64 := Nat.le_trans (Nat.div_le_self _ _) ha
  refine iq (by omega) ⟨by omega, ?_⟩
  have : (if (1 : Int32) < nI (a / b) then nI (a / b) else 1) = nI (max 1 (a / b)) := by
    have h1 : (1 : Int32) < nI (a / b) ↔ 1 < a / b := nI_ltI (a := 1) (by omega) (by omega)
    by_cases e : 1 < a / b
    · rw [if_pos (h1.mpr e), Nat.max_eq_right (by omega)]
    · rw [if_neg (fun h => e (h1.mp h)), Nat.max_eq_left (by omega)]; rfl
  show Q _
  rw [this]; exact h
def AdaC (a : AAda) (fc am c1 : Int32) (f1 : Nat → Int32) (c2 : Int32) (f2 : Nat → Int32) (c3 : Int32) (f3 : Nat → Int32) (c4 : Int32) (f4 : Nat → Int32) : Prop := fc = nI a.2.2 ∧ am = nI a.2.1 ∧ AdaL a.1 c1 f1 c2 f2 c3 f3 c4 f4
theorem nI_minus {a b : Nat} (ha : a ≤ 1000) (hb : b ≤ 1000) : (if (0 : Int32) < nI a - nI b then nI a - nI b else 0) = nI (a - b) := by
  by_cases h : b ≤ a
  · rw [nI_sub h]
    by_cases e : a - b = 0
    · rw [e]; rfl
    · rw [if_pos]
      exact (nI_ltI (a := 0) (by omega) (by omega)).mpr (by omega)
  · rw [if_neg]
    · rw [show a - b = 0 by omega]; rfl
    · intro hc
      have h1 : nI a - nI b = - nI (b - a) := by rw [← nI_sub (by omega)]; grind
      rw [h1] at hc
      have h2 := Int32.lt_iff_toInt_lt.mp hc
      have h3 : (nI (b - a)).toInt = ((b - a : Nat) : Int) := nI_toInt (by omega)
      have h4 : (- nI (b - a)).toInt = - ((b - a : Nat) : Int) := by
        rw [Int32.toInt_neg, h3]
        have : ((b - a : Nat) : Int) ≤ 1000 := by omega
        have h0 : 0 ≤ ((b - a : Nat) : Int) := by omega
        clear h2 hc h1 h3
        generalize ((b - a : Nat) : Int) = z at *
        simp [Int.bmod]
        omega
      rw [h4] at h2
      have : (0 : Int32).toInt = 0 := rfl
      omega
theorem nI_min {a b : Nat} (ha : a ≤ 1000) (hb : b ≤ 1000) : (if nI a < nI b then nI a else nI b) = nI (min b a) := by
  have h1 := nI_ltI (a := a) (b := b) (by omega) (by omega)
  by_cases e : a < b
  · rw [if_pos (h1.mpr e), Nat.min_eq_right (by omega)]
  · rw [if_neg (fun h => e (h1.mp h)), Nat.min_eq_left (by omega)]
