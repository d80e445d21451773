/-! PURE: questions of the policies -/
theorem selb {b : Bool} {A B : Prop} (h0 : b = false → A) (h1 : b = true → B) : (bI b = 0 → A) ∧ (¬ bI b = 0 → B) := by
  cases b with
  | false => exact ip rfl (h0 rfl)
  | true => exact iq (by decide) (h1 rfl)
theorem selc {b : Bool} {A B : Prop} (h0 : b = false → A) (h1 : b = true → B) : (¬ bI b = 0 → B) ∧ (bI b = 0 → A) := ⟨(selb h0 h1).2, (selb h0 h1).1⟩
theorem bI01 (b : Bool) : bI b = 0 ∨ bI b = 1 := by cases b with
  | false => exact Or.inl rfl
  | true => exact Or.inr rfl
theorem outb0 {o : Nat → Int64} : vp_updL o (0 : Int32).toNatClampNeg (0 : Int64) 0 = (bI false).toInt64 := pk_uLs.trans (by decide)
theorem outb1 {o : Nat → Int64} : vp_updL o (0 : Int32).toNatClampNeg (1 : Int64) 0 = (bI true).toInt64 := pk_uLs.trans (by decide)
theorem if_bI {p : Prop} [Decidable p] : (if p then 1 else 0 : Int32) = bI (decide p) := by by_cases h : p <;> simp [h, bI]
def hB (r : ARec) (c : AClk) (a : AAda) (s : AStr) (k q : Nat) : Bool := if k = 0 then decide (q ∈ r.1) else if k = 1 then decide (¬ ixf c.2.1 q c.1 = none) else if k = 2 then decide (q ∈ a.1 1 ∨ q ∈ a.1 2) else decide (q ∈ s.1)
def SameB (F : (Nat → Int64) → (Int32 → (Nat → Int64) → Prop) → Prop) (G : Int32 → (Int32 → Int32 → Prop) → Prop) : Prop := ∃ code b, ClQ F code (bI b) ∧ MdQ G code (bI b)
def hN (r : ARec) (c : AClk) (a : AAda) (s : AStr) (k : Nat) : Nat := if k = 0 then r.1.length else if k = 1 then c.1 else if k = 2 then (a.1 1).length + (a.1 2).length else s.1.length
theorem hB_cnt {m w n : Nat} {t : Nat → Nat} {r : ARec} {c : AClk} {a : AAda} {s : AStr} (hi : AInv m w n t r c a s) {k : Nat} : cntB (hB r c a s k) 64 = hN r c a s k := by
  obtain ⟨i1, i2, i3, i4, i5, i6, i7, i8, i9, i10⟩ := hi
  have mem : ∀ (L : List Nat), (∀ x ∈ L, x < 64) → ∀ x, x ∈ L ↔ x < 64 ∧ (fun q => decide (q ∈ L)) x = true := fun L h x => by
    simp only [decide_eq_true_eq]; exact ⟨fun hx => ⟨h x hx, hx⟩, fun hx => hx.2⟩
  unfold hN
  by_cases k0 : k = 0
  · rw [if_pos k0]
    have e : hB r c a s k = fun q => decide (q ∈ r.1) := by funext q; unfold hB; rw [if_pos k0]
    rw [e]
    exact cntB_list 64 i7.1.1 (mem _ i7.1.2.1)
  · rw [if_neg k0]
    by_cases k1 : k = 1
    · rw [if_pos k1]
      have e : hB r c a s k = fun q => decide (¬ ixf c.2.1 q c.1 = none) := by funext q; unfold hB; rw [if_neg k0, if_pos k1]
      rw [e]
      have hn : ((List.range c.1).map c.2.1).Nodup := by
        unfold List.Nodup
        rw [List.pairwise_map]
        exact List.Pairwise.imp_of_mem (fun {x y} hx hy hlt he => by
          have := i8.2.2.2.1 x y (List.mem_range.mp hx) (List.mem_range.mp hy) he
          omega) List.pairwise_lt_range
      have := cntB_list (L := (List.range c.1).map c.2.1) 64 hn (P := fun q => decide (¬ ixf c.2.1 q c.1 = none)) (fun x => by
        rw [List.mem_map]
        simp only [decide_eq_true_eq]
        constructor
        · rintro ⟨i, hi, rfl⟩
          have hi := List.mem_range.mp hi
          exact ⟨i8.2.2.1 i hi, fun hh => ixf_none.mp hh i hi rfl⟩
        · rintro ⟨h1, h2⟩
          cases hx : ixf c.2.1 x c.1 with
          | none => exact absurd hx h2
          | some i => exact ⟨i, List.mem_range.mpr (ixf_some hx).1, (ixf_some hx).2⟩)
      rw [this, List.length_map, List.length_range]
    · rw [if_neg k1]
      by_cases k2 : k = 2
      · rw [if_pos k2]
        have e : hB r c a s k = fun q => decide (q ∈ a.1 1 ∨ q ∈ a.1 2) := by funext q; unfold hB; rw [if_neg k0, if_neg k1, if_pos k2]
        rw [e]
        have b1 := i9.1.1 1 (by omega) (by omega)
        have b2 := i9.1.1 2 (by omega) (by omega)
        have := cntB_list (L := a.1 1 ++ a.1 2) 64 (by
          rw [List.nodup_append]
          refine ⟨b1.1, b2.1, fun x hx y hy e => ?_⟩
          rw [← e] at hy
          have := i9.1.2 1 2 x (by omega) (by omega) (by omega) (by omega) hx hy
          omega) (P := fun q => decide (q ∈ a.1 1 ∨ q ∈ a.1 2)) (fun x => by
          rw [List.mem_append]
          simp only [decide_eq_true_eq]
          exact ⟨fun hx => ⟨hx.elim (b1.2 x) (b2.2 x), hx⟩, fun hx => hx.2⟩)
        rw [this, List.length_append]
      · rw [if_neg k2]
        have e : hB r c a s k = fun q => decide (q ∈ s.1) := by funext q; unfold hB; rw [if_neg k0, if_neg k1, if_neg k2]
        rw [e]
        exact cntB_list 64 i10.1.1 (mem _ i10.1.2.1)
theorem m_does {m w n : Nat} {t : Nat → Nat} {r : ARec} {c : AClk} {a : AAda} {s : AStr} {nn sp pm um ev hd tg : Int32} {tf fm rc sd ia ea di dm pf bf ls ss : Nat → Int32} (hi : AInv m w n t r c a s) (hm : TchM m n t r c a s nn sp pm um ev hd tg tf fm rc sd ia ea di dm pf bf ls ss) {k q : Nat} (hk : k < 4) (hq : q < 64) {Q : Int32 → Prop} (h : Q (bI (hB r c a s k q))) : wR_X10_doesHold (nI m) rc sd pf ls (nI k) (nI q) Q := by
  obtain ⟨i1, i2, i3, i4, i5, i6, i7, i8, i9, i10⟩ := hi
  obtain ⟨rfl, htf, _, st, rfl, hst, e1, e2, e3, e4⟩ := hm
  have hcl : (nI q).toNatClampNeg = q := nI_clamp (by omega)
  have hkk : k = 0 ∨ k = 1 ∨ k = 2 ∨ k = 3 := by omega
  rcases hkk with rfl | rfl | rfl | rfl
  · have e : hB r c a s 0 q = decide (q ∈ r.1) := rfl
    rw [e] at h
    refine jq rfl ⟨vp_in_nI hq (by omega), ?_⟩
    rw [hcl, e1.2.1.posIff (by omega) hq]
    by_cases c : q ∈ r.1
    · rw [decide_eq_true c] at h; exact iq (fun hh => hh c) ⟨Or.inr rfl, h⟩
    · rw [decide_eq_false c] at h; exact ip c ⟨Or.inl rfl, h⟩
  · have e : hB r c a s 1 q = decide (¬ ixf c.2.1 q c.1 = none) := rfl
    rw [e] at h
    refine jp (by decide) (jq rfl (m_frameOf i2 i8.1 hq e2.2.1 i8.2.2.1 (fun hne => ip rfl ⟨Or.inl rfl, ?_⟩) (fun i hi he => iq (nI_m1 (by have := i8.1; omega)) ⟨Or.inr rfl, ?_⟩)))
    · rw [decide_eq_false (fun hh => hh (ixf_none.mpr hne))] at h; exact h
    · rw [decide_eq_true (show ¬ ixf c.2.1 q c.1 = none from fun hh => ixf_none.mp hh i hi he)] at h; exact h
  · have e : hB r c a s 2 q = decide (q ∈ a.1 1 ∨ q ∈ a.1 2) := rfl
    rw [e] at h
    have m1 := e3.2.inIff hq (i := 1) (by omega) (by omega)
    have m2 := e3.2.inIff hq (i := 2) (by omega) (by omega)
    refine jp (by decide) (jp (by decide) (jq rfl ⟨vp_in_nI hq (by omega), ?_⟩))
    rw [hcl]
    by_cases c1 : q ∈ a.1 1
    · rw [decide_eq_true (Or.inl c1)] at h; exact ip (m1.mpr c1) ⟨Or.inr rfl, h⟩
    · refine iq (fun hh => c1 (m1.mp hh)) ⟨vp_in_nI hq (by omega), ?_⟩
      by_cases c2 : q ∈ a.1 2
      · rw [decide_eq_true (Or.inr c2)] at h; exact jq (m2.mpr c2) ⟨Or.inr rfl, h⟩
      · rw [decide_eq_false (fun hh => hh.elim c1 c2)] at h; exact jp (fun hh => c2 (m2.mp hh)) ⟨Or.inl rfl, h⟩
  · have e : hB r c a s 3 q = decide (q ∈ s.1) := rfl
    rw [e] at h
    refine jp (by decide) (jp (by decide) (jp (by decide) ⟨vp_in_nI hq (by omega), ?_⟩))
    rw [hcl, e4.2.2.1.posIff (by omega) hq]
    by_cases c : q ∈ s.1
    · rw [decide_eq_true c] at h; exact iq (fun hh => hh c) ⟨Or.inr rfl, h⟩
    · rw [decide_eq_false c] at h; exact ip c ⟨Or.inl rfl, h⟩
theorem m_heldBy {m w n : Nat} {t : Nat → Nat} {r : ARec} {c : AClk} {a : AAda} {s : AStr} {nn sp pm um ev hd tg : Int32} {tf fm rc sd ia ea di dm pf bf ls ss : Nat → Int32} (hi : AInv m w n t r c a s) (hm : TchM m n t r c a s nn sp pm um ev hd tg tf fm rc sd ia ea di dm pf bf ls ss) {k : Nat} (hk : k < 4) {Q : Int32 → Prop} (h : Q (nI (hN r c a s k))) : wR_X10_heldBy (nI m) rc sd pf ls (nI k) Q := by
  intro I hI
  rw [← hB_cnt hi] at h
  have key : ∀ d i, i + d = 64 → I (nI (cntB (hB r c a s k) i)) (nI i) := by
    intro d
    induction d with
    | zero =>
      intro i hi'
      apply hI
      have e : i = 64 := by omega
      subst e
      exact ip (nI_le (a := 64) (Nat.le_refl _) (by omega)) h
    | succ d ih =>
      intro i hi'
      apply hI
      refine iq (fun hc => absurd ((nI_leI (a := 64) (by omega) (by omega)).mp hc) (by omega)) (m_does hi hm hk (by omega) ?_)
      have := ih (i + 1) (by omega)
      have e : cntB (hB r c a s k) (i + 1) = cntB (hB r c a s k) i + (if hB r c a s k i = true then 1 else 0) := rfl
      rw [e] at this
      refine selb (fun hb => ?_) (fun hb => ?_)
      · rw [if_neg (by rw [hb]; decide)] at this
        show I (nI _ + nI 0) (nI i + 1)
        rw [nI_add, nI_1]; exact this
      · rw [if_pos hb] at this
        show I (nI _ + nI 1) (nI i + 1)
        rw [nI_add, nI_1]; exact this
  exact key 64 0 rfl
theorem q_held {m w n : Nat} {t : Nat → Nat} {r : ARec} {c : AClk} {a : AAda} {s : AStr} {r1 r2 r3 : Int32} {r4 r5 r6 r7 : Nat → Int32} {c1 c2 c3 : Int32} {c4 c5 : Nat → Int32} {a1 a2 a3 : Int32} {a4 : Nat → Int32} {a5 : Int32} {a6 : Nat → Int32} {a7 : Int32} {a8 : Nat → Int32} {a9 : Int32} {a10 : Nat → Int32} {s1 s2 s3 s4 s5 s6 s7 s8 : Int32} {s9 s10 : Nat → Int32} {h1 h2 : Int32} {h3 h4 h5 h6 : Nat → Int32} {nn sp pm um ev hd tg : Int32} {tf fm rc sd ia ea di dm pf bf ls ss : Nat → Int32} (hi : AInv m w n t r c a s) (hc : SeeC m w n t r c a s r1 r2 r3 r4 r5 r6 r7 c1 c2 c3 c4 c5 a1 a2 a3 a4 a5 a6 a7 a8 a9 a10 s1 s2 s3 s4 s5 s6 s7 s8 s9 s10 h1 h2 h3 h4 h5 h6) (hm : TchM m n t r c a s nn sp pm um ev hd tg tf fm rc sd ia ea di dm pf bf ls ss) (x : Int32) : Same (fun o Q => wR_L_held r3 c2 a3 a5 s8 x o Q) (fun th Q => wR_X10_held (nI m) rc sd pf ls x th Q) := by
  have g := hc
  obtain ⟨g1, g2, g3, g4, g5⟩ := g
  rcases in_cases x 0 3 (by omega) with ⟨k, _, hk, rfl⟩ | hx
  · refine ⟨0, nI (hN r c a s k), fun o Q h => Or.inr (k_pol (by omega) (four (by omega) (fun e => ⟨vp00, h _ (fun _ => ?_)⟩) (fun e => ⟨vp00, h _ (fun _ => ?_)⟩) (fun e => ⟨vp00, h _ (fun _ => ?_)⟩) (fun e => ⟨vp00, h _ (fun _ => ?_)⟩))), fun th Q h => m_polY (by omega) (iq (by decide) (gw0 (iq (by decide) (m_heldBy hi hm (by omega) (h _ (fun _ => rfl))))))⟩
    · rw [e, g1.2.2.1.1]; exact outv
    · rw [e, g2.2.1]; exact outv
    · rw [e, g3.2.2.1.1, g3.2.2.2.1.1, nI_add]; exact outv
    · rw [e, g4.2.2.2.2.2.2.1.1]; exact outv
  · exact ⟨1, 0, fun o Q h => Or.inl ⟨kx_pol hx, h _ (fun e => absurd e n10)⟩, fun th Q h => m_polN hx (ip rfl (gwE (th := th) n10 (ip rfl (h _ (fun e => absurd e n10)))))⟩
theorem q_holds {m w n : Nat} {t : Nat → Nat} {r : ARec} {c : AClk} {a : AAda} {s : AStr} {r1 r2 r3 : Int32} {r4 r5 r6 r7 : Nat → Int32} {c1 c2 c3 : Int32} {c4 c5 : Nat → Int32} {a1 a2 a3 : Int32} {a4 : Nat → Int32} {a5 : Int32} {a6 : Nat → Int32} {a7 : Int32} {a8 : Nat → Int32} {a9 : Int32} {a10 : Nat → Int32} {s1 s2 s3 s4 s5 s6 s7 s8 : Int32} {s9 s10 : Nat → Int32} {h1 h2 : Int32} {h3 h4 h5 h6 : Nat → Int32} {nn sp pm um ev hd tg : Int32} {tf fm rc sd ia ea di dm pf bf ls ss : Nat → Int32} (hi : AInv m w n t r c a s) (hc : SeeC m w n t r c a s r1 r2 r3 r4 r5 r6 r7 c1 c2 c3 c4 c5 a1 a2 a3 a4 a5 a6 a7 a8 a9 a10 s1 s2 s3 s4 s5 s6 s7 s8 s9 s10 h1 h2 h3 h4 h5 h6) (hm : TchM m n t r c a s nn sp pm um ev hd tg tf fm rc sd ia ea di dm pf bf ls ss) (x y : Int32) : SameB (fun o Q => wR_L_holds r3 r4 c2 c4 a3 a4 a5 a6 s8 s9 x y o Q) (fun th Q => wR_X10_holds (nI m) rc sd pf ls x y th Q) := by
  have g := hc
  obtain ⟨g1, g2, g3, g4, g5⟩ := g
  obtain ⟨i1, i2, i3, i4, i5, i6, i7, i8, i9, i10⟩ := id hi
  rcases in_cases x 0 3 (by omega) with ⟨k, _, hk, rfl⟩ | hx
  · rcases pg_cases y with ⟨q, hq, rfl⟩ | hy
    · refine ⟨0, hB r c a s k q, fun o Q h => Or.inr (k_ckPage hq ?_), fun th Q h => m_polY (by omega) (iq (by decide) (m_isPage hq (iq (by decide) (gw0 (iq (by decide) (m_does hi hm (by omega) hq (selb (fun hb => ⟨Or.inl rfl, h _ (fun _ => by rw [hb]; rfl)⟩) (fun hb => ⟨Or.inr rfl, h _ (fun _ => by rw [hb]; rfl)⟩))))))))⟩
      have fin : ∀ b, b = hB r c a s k q → ((bI b = 0 → (wR_L_holds_16 r3 r4 c2 c4 a3 a4 a5 a6 s8 s9 (nI k) (nI q) Q 0 0 o)) ∧ (¬ bI b = 0 → (wR_L_holds_16 r3 r4 c2 c4 a3 a4 a5 a6 s8 s9 (nI k) (nI q) Q 0 1 o))) := fun b hb => selb (fun e => ⟨vp00, h _ (fun _ => by rw [← hb, e]; exact outb0)⟩) (fun e => ⟨vp00, h _ (fun _ => by rw [← hb, e]; exact outb1)⟩)
      refine k_pol (by omega) (four (by omega) (fun e => ?_) (fun e => ?_) (fun e => ?_) (fun e => ?_))
      · subst e
        refine k_contains g1.2.2.1 hq ?_
        rw [if_bI]
        exact ⟨bI01 _, bI01 _, fin _ rfl⟩
      · subst e
        obtain ⟨z1, z2, z3, z4, z5⟩ := g2
        rw [z2]
        refine k_frameOf (by have := i8.1; omega) hq z4 i8.2.2.1 (fun hne => ip rfl ⟨Or.inl rfl, Or.inl rfl, ?_⟩) (fun i hi' he => iq (nI_m1 (by have := i8.1; omega)) ⟨Or.inr rfl, Or.inr rfl, ?_⟩)
        · have := fin false (by show false = decide (¬ ixf c.2.1 q c.1 = none); rw [decide_eq_false (fun hh => hh (ixf_none.mpr hne))])
          rw [z2] at this
          exact this
        · have := fin true (by show true = decide (¬ ixf c.2.1 q c.1 = none); rw [decide_eq_true (show ¬ ixf c.2.1 q c.1 = none from fun hh => ixf_none.mp hh i hi' he)])
          rw [z2] at this
          exact this
      · subst e
        refine k_contains g3.2.2.1 hq ?_
        by_cases d1 : q ∈ a.1 1
        · rw [if_pos d1]
          exact jp (by decide) ⟨Or.inr rfl, Or.inr rfl, fin true (by show true = decide (q ∈ a.1 1 ∨ q ∈ a.1 2); rw [decide_eq_true (Or.inl d1)])⟩
        · rw [if_neg d1]
          refine jq rfl (k_contains g3.2.2.2.1 hq ?_)
          by_cases d2 : q ∈ a.1 2
          · rw [if_pos d2]
            exact iq (by decide) ⟨Or.inr rfl, Or.inr rfl, fin true (by show true = decide (q ∈ a.1 1 ∨ q ∈ a.1 2); rw [decide_eq_true (Or.inr d2)])⟩
          · rw [if_neg d2]
            exact ip rfl ⟨Or.inl rfl, Or.inl rfl, fin false (by show false = decide (q ∈ a.1 1 ∨ q ∈ a.1 2); rw [decide_eq_false (fun hh => hh.elim d1 d2)])⟩
      · subst e
        refine k_contains g4.2.2.2.2.2.2.1 hq ?_
        rw [if_bI]
        exact ⟨bI01 _, bI01 _, fin _ rfl⟩
    · exact ⟨1, false, fun o Q h => Or.inl ⟨Or.inl (kx_ckPage hy), h _ (fun e => absurd e n10)⟩, fun th Q h => m_polY (by omega) (iq (by decide) (m_notPg hy (ip rfl (gwE (th := th) n10 (ip rfl ⟨Or.inl rfl, h _ (fun e => absurd e n10)⟩)))))⟩
  · refine ⟨1, false, fun o Q h => Or.inl ⟨?_, h _ (fun e => absurd e n10)⟩, fun th Q h => m_polN hx (ip rfl (gwE (th := th) n10 (ip rfl ⟨Or.inl rfl, h _ (fun e => absurd e n10)⟩)))⟩
    rcases pg_cases y with ⟨q, hq, rfl⟩ | hy
    · exact Or.inr (k_ckPage hq (kx_pol hx))
    · exact Or.inl (kx_ckPage hy)
theorem q_isRef {m w n : Nat} {t : Nat → Nat} {r : ARec} {c : AClk} {a : AAda} {s : AStr} {r1 r2 r3 : Int32} {r4 r5 r6 r7 : Nat → Int32} {c1 c2 c3 : Int32} {c4 c5 : Nat → Int32} {a1 a2 a3 : Int32} {a4 : Nat → Int32} {a5 : Int32} {a6 : Nat → Int32} {a7 : Int32} {a8 : Nat → Int32} {a9 : Int32} {a10 : Nat → Int32} {s1 s2 s3 s4 s5 s6 s7 s8 : Int32} {s9 s10 : Nat → Int32} {h1 h2 : Int32} {h3 h4 h5 h6 : Nat → Int32} {nn sp pm um ev hd tg : Int32} {tf fm rc sd ia ea di dm pf bf ls ss : Nat → Int32} (hi : AInv m w n t r c a s) (hc : SeeC m w n t r c a s r1 r2 r3 r4 r5 r6 r7 c1 c2 c3 c4 c5 a1 a2 a3 a4 a5 a6 a7 a8 a9 a10 s1 s2 s3 s4 s5 s6 s7 s8 s9 s10 h1 h2 h3 h4 h5 h6) (hm : TchM m n t r c a s nn sp pm um ev hd tg tf fm rc sd ia ea di dm pf bf ls ss) (x : Int32) : SameB (fun o Q => wR_L_isReferenced c2 c4 c5 x o Q) (fun th Q => wR_X10_isReferenced (nI m) pf bf x th Q) := by
  obtain ⟨g1, ⟨z1, z2, z3, z4, z5⟩, g3, g4, g5⟩ := hc
  obtain ⟨i1, i2, i3, i4, i5, i6, i7, i8, i9, i10⟩ := hi
  obtain ⟨_, htf, _, st, _, hst, e1, ⟨y1, y2, y3⟩, e3, e4⟩ := hm
  subst z2
  obtain ⟨u1, u2, u3, u4, u5⟩ := i8
  rcases pg_cases x with ⟨p, hp, rfl⟩ | hx
  · by_cases hin : ∃ i, i < c.1 ∧ c.2.1 i = p
    · obtain ⟨i, hi, he⟩ := hin
      have same : ∀ j, j < c.1 → c.2.1 j = p → j = i := fun j hj hh => u4 j i hj hi (by rw [hh, he])
      refine ⟨0, c.2.2.1 i, fun o Q h => Or.inr (k_ckPage hp (k_frameOf (by omega) hp z4 u3 (fun hne => absurd he (hne i hi)) (fun j hj hh => iq (nI_m1 (by omega)) ⟨vp_in_nI (by omega) (by omega), ?_⟩))), fun th Q h => m_isPage hp (iq (by decide) (gw0 (iq (by decide) (m_frameOf i2 u1 hp y2 u3 (fun hne => absurd he (hne i hi)) (fun j hj hh => iq (nI_m1 (by omega)) (m_frameOf i2 u1 hp y2 u3 (fun hne => absurd he (hne i hi)) (fun j hj hh => ⟨vp_in_nI (by omega) (by omega), ?_⟩)))))))⟩
      · rw [nI_clamp (by omega), z5 j hj, same j hj hh]
        exact selb (fun e => ⟨Or.inl rfl, Or.inl rfl, ip rfl ⟨vp00, h _ (fun _ => by rw [e]; exact outb0)⟩⟩) (fun e => ⟨Or.inr rfl, Or.inr rfl, iq (by decide) ⟨vp00, h _ (fun _ => by rw [e]; exact outb1)⟩⟩)
      · rw [nI_clamp (by omega), y3 j hj, same j hj hh]
        exact selb (fun e => ⟨Or.inl rfl, h _ (fun _ => by rw [e]; rfl)⟩) (fun e => ⟨Or.inr rfl, h _ (fun _ => by rw [e]; rfl)⟩)
    · refine ⟨0, false, fun o Q h => Or.inr (k_ckPage hp (k_frameOf (by omega) hp z4 u3 (fun hne => ip rfl ⟨Or.inl rfl, Or.inl rfl, ip rfl ⟨vp00, h _ (fun _ => outb0)⟩⟩) (fun j hj hh => absurd ⟨j, hj, hh⟩ hin))), fun th Q h => m_isPage hp (iq (by decide) (gw0 (iq (by decide) (m_frameOf i2 u1 hp y2 u3 (fun hne => ip rfl ⟨Or.inl rfl, h _ (fun _ => rfl)⟩) (fun j hj hh => absurd ⟨j, hj, hh⟩ hin)))))⟩
  · exact ⟨1, false, fun o Q h => Or.inl ⟨kx_ckPage hx, h _ (fun e => absurd e n10)⟩, fun th Q h => m_notPg hx (ip rfl (gwE (th := th) n10 (ip rfl ⟨Or.inl rfl, h _ (fun e => absurd e n10)⟩)))⟩
