/-! PURE: what the class answers, out of its abstract state -/
def fN (r : ARec) (c : AClk) (a : AAda) (s : AStr) (k : Nat) : Nat := if k = 0 then r.2.2.2.2.2 else if k = 1 then c.2.2.2.2 else if k = 2 then a.2.2 else s.2.2.2.2
def lOf (a : AAda) (p : Nat) : Nat := if p ∈ a.1 1 then 1 else if p ∈ a.1 2 then 2 else if p ∈ a.1 3 then 3 else if p ∈ a.1 4 then 4 else 0
def rB (c : AClk) (p : Nat) : Bool := match ixf c.2.1 p c.1 with
  | some i => c.2.2.1 i
  | none => false
theorem cq_faults {m w n : Nat} {t : Nat → Nat} {r : ARec} {c : AClk} {a : AAda} {s : AStr} {r1 r2 r3 : Int32} {r4 r5 r6 r7 : Nat → Int32} {c1 c2 c3 : Int32} {c4 c5 : Nat → Int32} {a1 a2 a3 : Int32} {a4 : Nat → Int32} {a5 : Int32} {a6 : Nat → Int32} {a7 : Int32} {a8 : Nat → Int32} {a9 : Int32} {a10 : Nat → Int32} {s1 s2 s3 s4 s5 s6 s7 s8 : Int32} {s9 s10 : Nat → Int32} {h1 h2 : Int32} {h3 h4 h5 h6 : Nat → Int32} (hc : SeeC m w n t r c a s r1 r2 r3 r4 r5 r6 r7 c1 c2 c3 c4 c5 a1 a2 a3 a4 a5 a6 a7 a8 a9 a10 s1 s2 s3 s4 s5 s6 s7 s8 s9 s10 h1 h2 h3 h4 h5 h6) {k : Nat} (hk : k < 4) {Q : Int32 → Prop} (h : Q (nI (fN r c a s k))) : wR_X9_faults r1 c1 a1 s1 (nI k) Q := by
  obtain ⟨g1, g2, g3, g4, g5⟩ := hc
  refine k_pol hk (four hk (fun e => ?_) (fun e => ?_) (fun e => ?_) (fun e => ?_))
  · subst e; rw [g1.1]; exact h
  · subst e; rw [g2.1]; exact h
  · subst e; rw [g3.1]; exact h
  · subst e; rw [g4.1]; exact h
theorem cq_held {m w n : Nat} {t : Nat → Nat} {r : ARec} {c : AClk} {a : AAda} {s : AStr} {r1 r2 r3 : Int32} {r4 r5 r6 r7 : Nat → Int32} {c1 c2 c3 : Int32} {c4 c5 : Nat → Int32} {a1 a2 a3 : Int32} {a4 : Nat → Int32} {a5 : Int32} {a6 : Nat → Int32} {a7 : Int32} {a8 : Nat → Int32} {a9 : Int32} {a10 : Nat → Int32} {s1 s2 s3 s4 s5 s6 s7 s8 : Int32} {s9 s10 : Nat → Int32} {h1 h2 : Int32} {h3 h4 h5 h6 : Nat → Int32} (hc : SeeC m w n t r c a s r1 r2 r3 r4 r5 r6 r7 c1 c2 c3 c4 c5 a1 a2 a3 a4 a5 a6 a7 a8 a9 a10 s1 s2 s3 s4 s5 s6 s7 s8 s9 s10 h1 h2 h3 h4 h5 h6) {k : Nat} (hk : k < 4) {Q : Int32 → Prop} (h : Q (nI (hN r c a s k))) : wR_X9_held r3 c2 a3 a5 s8 (nI k) Q := by
  obtain ⟨g1, g2, g3, g4, g5⟩ := hc
  refine k_pol hk (four hk (fun e => ?_) (fun e => ?_) (fun e => ?_) (fun e => ?_))
  · subst e
    have e := g1.2.2.1.1
    show Q r3
    rw [e]; exact h
  · subst e
    have e := g2.2.1
    show Q c2
    rw [e]; exact h
  · subst e
    have e1 := g3.2.2.1.1
    have e2 := g3.2.2.2.1.1
    show Q (a3 + a5)
    rw [e1, e2, nI_add]; exact h
  · subst e
    have e := g4.2.2.2.2.2.2.1.1
    show Q s8
    rw [e]; exact h
theorem cq_holds {m w n : Nat} {t : Nat → Nat} {r : ARec} {c : AClk} {a : AAda} {s : AStr} {r1 r2 r3 : Int32} {r4 r5 r6 r7 : Nat → Int32} {c1 c2 c3 : Int32} {c4 c5 : Nat → Int32} {a1 a2 a3 : Int32} {a4 : Nat → Int32} {a5 : Int32} {a6 : Nat → Int32} {a7 : Int32} {a8 : Nat → Int32} {a9 : Int32} {a10 : Nat → Int32} {s1 s2 s3 s4 s5 s6 s7 s8 : Int32} {s9 s10 : Nat → Int32} {h1 h2 : Int32} {h3 h4 h5 h6 : Nat → Int32} (hi : AInv m w n t r c a s) (hc : SeeC m w n t r c a s r1 r2 r3 r4 r5 r6 r7 c1 c2 c3 c4 c5 a1 a2 a3 a4 a5 a6 a7 a8 a9 a10 s1 s2 s3 s4 s5 s6 s7 s8 s9 s10 h1 h2 h3 h4 h5 h6) {k q : Nat} (hk : k < 4) (hq : q < 64) {Q : Int32 → Prop} (h : Q (bI (hB r c a s k q))) : wR_X9_holds r3 r4 c2 c4 a3 a4 a5 a6 s8 s9 (nI k) (nI q) Q := by
  obtain ⟨g1, g2, g3, g4, g5⟩ := hc
  obtain ⟨i1, i2, i3, i4, i5, i6, i7, i8, i9, i10⟩ := id hi
  have fin : ∀ b, b = hB r c a s k q → Q (bI b) := fun b hb => by rw [hb]; exact h
  refine k_ckPage hq (k_pol hk (four hk (fun e => ?_) (fun e => ?_) (fun e => ?_) (fun e => ?_)))
  · subst e
    refine k_contains g1.2.2.1 hq ?_
    rw [if_bI]
    exact ⟨bI01 _, bI01 _, fin _ rfl⟩
  · subst e
    obtain ⟨z1, z2, z3, z4, z5⟩ := g2
    rw [z2]
    refine k_frameOf (by have := i8.1; omega) hq z4 i8.2.2.1 (fun hne => ip rfl ⟨Or.inl rfl, Or.inl rfl, ?_⟩) (fun i hi' he => iq (nI_m1 (by have := i8.1; omega)) ⟨Or.inr rfl, Or.inr rfl, ?_⟩)
    · exact fin false (by show false = decide (¬ ixf c.2.1 q c.1 = none); rw [decide_eq_false (fun hh => hh (ixf_none.mpr hne))])
    · exact fin true (by show true = decide (¬ ixf c.2.1 q c.1 = none); rw [decide_eq_true (show ¬ ixf c.2.1 q c.1 = none from fun hh => ixf_none.mp hh i hi' he)])
  · subst e
    refine k_contains g3.2.2.1 hq ?_
    by_cases d1 : q ∈ a.1 1
    · rw [if_pos d1]
      exact jp (by decide) ⟨Or.inr rfl, Or.inr rfl, fin true (by show true = decide (q ∈ a.1 1 ∨ q ∈ a.1 2); rw [decide_eq_true (Or.inl d1)])⟩
    · rw [if_neg d1]
      refine jq rfl (k_contains g3.2.2.2.1 hq ?_)
      by_cases d2 : q ∈ a.1 2
      · rw [if_pos d2]
        exact iq (by decide) ⟨Or.inr rfl, Or.inr rfl, fin true (by show true = decide (q ∈ a.1 1 ∨ q ∈ a.1 2); rw [decide_eq_true (Or.inr d2)])⟩
      · rw [if_neg d2]
        exact ip rfl ⟨Or.inl rfl, Or.inl rfl, fin false (by show false = decide (q ∈ a.1 1 ∨ q ∈ a.1 2); rw [decide_eq_false (fun hh => hh.elim d1 d2)])⟩
  · subst e
    refine k_contains g4.2.2.2.2.2.2.1 hq ?_
    rw [if_bI]
    exact ⟨bI01 _, bI01 _, fin _ rfl⟩
theorem cq_isRef {m w n : Nat} {t : Nat → Nat} {r : ARec} {c : AClk} {a : AAda} {s : AStr} {r1 r2 r3 : Int32} {r4 r5 r6 r7 : Nat → Int32} {c1 c2 c3 : Int32} {c4 c5 : Nat → Int32} {a1 a2 a3 : Int32} {a4 : Nat → Int32} {a5 : Int32} {a6 : Nat → Int32} {a7 : Int32} {a8 : Nat → Int32} {a9 : Int32} {a10 : Nat → Int32} {s1 s2 s3 s4 s5 s6 s7 s8 : Int32} {s9 s10 : Nat → Int32} {h1 h2 : Int32} {h3 h4 h5 h6 : Nat → Int32} (hi : AInv m w n t r c a s) (hc : SeeC m w n t r c a s r1 r2 r3 r4 r5 r6 r7 c1 c2 c3 c4 c5 a1 a2 a3 a4 a5 a6 a7 a8 a9 a10 s1 s2 s3 s4 s5 s6 s7 s8 s9 s10 h1 h2 h3 h4 h5 h6) {p : Nat} (hp : p < 64) {Q : Int32 → Prop} (h : Q (bI (rB c p))) : wR_X9_isReferenced c2 c4 c5 (nI p) Q := by
  obtain ⟨g1, ⟨z1, z2, z3, z4, z5⟩, g3, g4, g5⟩ := hc
  obtain ⟨i1, i2, i3, i4, i5, i6, i7, i8, i9, i10⟩ := id hi
  subst z2
  obtain ⟨u1, u2, u3, u4, u5⟩ := i8
  unfold rB at h
  cases hx : ixf c.2.1 p c.1 with
  | none =>
    rw [hx] at h
    have hne := ixf_none.mp hx
    exact k_ckPage hp (k_frameOf (by omega) hp z4 u3 (fun _ => ip rfl ⟨Or.inl rfl, Or.inl rfl, h⟩) (fun j hj hh => absurd hh (hne j hj)))
  | some i =>
    rw [hx] at h
    have h : Q (bI (c.2.2.1 i)) := h
    have hs := ixf_some hx
    have same : ∀ j, j < c.1 → c.2.1 j = p → j = i := fun j hj hh => u4 j i hj hs.1 (by rw [hh, hs.2])
    refine k_ckPage hp (k_frameOf (by omega) hp z4 u3 (fun hne => absurd hs.2 (hne i hs.1)) (fun j hj hh => iq (nI_m1 (by omega)) ⟨vp_in_nI (by omega) (by omega), ?_⟩))
    rw [nI_clamp (by omega), z5 j hj, same j hj hh]
    exact selb (fun e => ⟨Or.inl rfl, Or.inl rfl, by rw [e] at h; exact h⟩) (fun e => ⟨Or.inr rfl, Or.inr rfl, by rw [e] at h; exact h⟩)
theorem cq_listOf {m w n : Nat} {t : Nat → Nat} {r : ARec} {c : AClk} {a : AAda} {s : AStr} {r1 r2 r3 : Int32} {r4 r5 r6 r7 : Nat → Int32} {c1 c2 c3 : Int32} {c4 c5 : Nat → Int32} {a1 a2 a3 : Int32} {a4 : Nat → Int32} {a5 : Int32} {a6 : Nat → Int32} {a7 : Int32} {a8 : Nat → Int32} {a9 : Int32} {a10 : Nat → Int32} {s1 s2 s3 s4 s5 s6 s7 s8 : Int32} {s9 s10 : Nat → Int32} {h1 h2 : Int32} {h3 h4 h5 h6 : Nat → Int32} (hc : SeeC m w n t r c a s r1 r2 r3 r4 r5 r6 r7 c1 c2 c3 c4 c5 a1 a2 a3 a4 a5 a6 a7 a8 a9 a10 s1 s2 s3 s4 s5 s6 s7 s8 s9 s10 h1 h2 h3 h4 h5 h6) {p : Nat} (hp : p < 64) {Q : Int32 → Prop} (h : Q (nI (lOf a p))) : wR_X9_listOf a3 a4 a5 a6 a7 a8 a9 a10 (nI p) Q := by
  obtain ⟨g1, g2, g3, g4, g5⟩ := hc
  obtain ⟨_, _, r1', r2', r3', r4'⟩ := g3
  unfold lOf at h
  refine k_ckPage hp (k_contains r1' hp ?_)
  by_cases e1 : p ∈ a.1 1
  · rw [if_pos e1] at h ⊢
    exact iq (by decide) h
  · rw [if_neg e1] at h ⊢
    refine ip rfl (k_contains r2' hp ?_)
    by_cases e2 : p ∈ a.1 2
    · rw [if_pos e2] at h ⊢
      exact iq (by decide) h
    · rw [if_neg e2] at h ⊢
      refine ip rfl (k_contains r3' hp ?_)
      by_cases e3 : p ∈ a.1 3
      · rw [if_pos e3] at h ⊢
        exact iq (by decide) h
      · rw [if_neg e3] at h ⊢
        refine ip rfl (k_contains r4' hp ?_)
        by_cases e4 : p ∈ a.1 4
        · rw [if_pos e4] at h ⊢
          exact iq (by decide) h
        · rw [if_neg e4] at h ⊢
          exact ip rfl h
theorem cq_ls1 {a3 a5 a7 a9 : Int32} {Q : Int32 → Prop} (h : Q a3) : wR_X9_listSize a3 a5 a7 a9 1 Q := ⟨fun _ => Or.inl ⟨rfl, h⟩, fun e => absurd e (by decide), fun e => absurd e (by decide), fun e => absurd e (by decide), fun e => absurd e (by decide)⟩
theorem cq_ls2 {a3 a5 a7 a9 : Int32} {Q : Int32 → Prop} (h : Q a5) : wR_X9_listSize a3 a5 a7 a9 2 Q := ⟨fun e => absurd e (by decide), fun _ => Or.inr (Or.inl ⟨rfl, h⟩), fun e => absurd e (by decide), fun e => absurd e (by decide), fun e => absurd e (by decide)⟩
theorem cq_ls3 {a3 a5 a7 a9 : Int32} {Q : Int32 → Prop} (h : Q a7) : wR_X9_listSize a3 a5 a7 a9 3 Q := ⟨fun e => absurd e (by decide), fun e => absurd e (by decide), fun _ => Or.inr (Or.inr (Or.inl ⟨rfl, h⟩)), fun e => absurd e (by decide), fun e => absurd e (by decide)⟩
theorem cq_ls4 {a3 a5 a7 a9 : Int32} {Q : Int32 → Prop} (h : Q a9) : wR_X9_listSize a3 a5 a7 a9 4 Q := ⟨fun e => absurd e (by decide), fun e => absurd e (by decide), fun e => absurd e (by decide), fun _ => Or.inr (Or.inr (Or.inr ⟨rfl, h⟩)), fun e => absurd e (by decide)⟩
theorem cq_pageOf {n j : Nat} {t : Nat → Nat} {pg : Nat → Int32} (hn : n ≤ 400) (hpg : ∀ i, i < n → pg i = nI (t i)) (hj : j < n) {Q : Int32 → Prop} (h : Q (nI (t j))) : wR_X9_pageOf (nI n) pg (nI j) Q := k_ckTouch hj hn ⟨vp_in_nI (by omega) (by omega), by rw [nI_clamp (by omega), hpg j hj]; exact h⟩
theorem lq_victim {m w n : Nat} {t : Nat → Nat} {r : ARec} {c : AClk} {a : AAda} {s : AStr} {r1 r2 r3 : Int32} {r4 r5 r6 r7 : Nat → Int32} {c1 c2 c3 : Int32} {c4 c5 : Nat → Int32} {a1 a2 a3 : Int32} {a4 : Nat → Int32} {a5 : Int32} {a6 : Nat → Int32} {a7 : Int32} {a8 : Nat → Int32} {a9 : Int32} {a10 : Nat → Int32} {s1 s2 s3 s4 s5 s6 s7 s8 : Int32} {s9 s10 : Nat → Int32} {h1 h2 : Int32} {h3 h4 h5 h6 : Nat → Int32} (hi : AInv m w n t r c a s) (hc : SeeC m w n t r c a s r1 r2 r3 r4 r5 r6 r7 c1 c2 c3 c4 c5 a1 a2 a3 a4 a5 a6 a7 a8 a9 a10 s1 s2 s3 s4 s5 s6 s7 s8 s9 s10 h1 h2 h3 h4 h5 h6) {k : Nat} (hk : k < 4) {Q : Int32 → Nat → Prop} (h0 : hN r c a s k < m → Q (-1) 1) (h1 : ¬ hN r c a s k < m → Q (nI (vOf m r c a s k)) 0) : wR_L_victim (nI m) r3 r4 (nI m) c2 c3 c4 c5 (nI m) a2 a3 a4 a5 a6 a7 a9 (nI m) s8 s9 (nI k) Q := by
  by_cases hf : hN r c a s k < m
  · exact Or.inr (Or.inl ⟨Or.inr (k_pol (by omega) (k_vict hi hc (by omega) (fun _ => jq rfl rfl) (fun hh => absurd hf hh))), h0 hf⟩)
  · have hv := vOf_lt hi hf
    exact Or.inr (Or.inr (k_pol (by omega) (k_vict hi hc (by omega) (fun hh => absurd hh hf) (fun _ => jp (nI_m1 (by omega)) (h1 hf)))))
def lw (x : Int32) (k : Nat) : Nat := x.toBitVec.toNat % 2 ^ 31 % k
theorem lw_lt {x : Int32} {k : Nat} (h : 0 < k) : lw x k < k := Nat.mod_lt _ h
theorem lq_low {x : Int32} {k : Nat} (h0 : 0 < k) (hk : k < 2 ^ 31) {Q : Int32 → Prop} (h : Q (nI (lw x k))) : wR_L_low x (nI k) Q := by
  refine ⟨nI_ne0 h0 hk, ?_⟩
  have e : x &&& 2147483647 = nI (x.toBitVec.toNat % 2 ^ 31) := pk_and x 31 rfl
  rw [e, pk_rem (Nat.mod_lt _ (by omega)) h0 hk]
  exact h
