/-! PURE: what holds of the policies, touch by touch -/
theorem hN_le {m w n : Nat} {t : Nat → Nat} {r : ARec} {c : AClk} {a : AAda} {s : AStr} (hi : AInv m w n t r c a s) {k : Nat} : hN r c a s k ≤ m := by
  obtain ⟨i1, i2, i3, i4, i5, i6, i7, i8, i9, i10⟩ := hi
  unfold hN
  split
  · exact i7.1.2.2
  · split
    · exact i8.1
    · split
      · exact i9.2.1
      · exact i10.1.2.2
theorem vOf_in {m w n : Nat} {t : Nat → Nat} {r : ARec} {c : AClk} {a : AAda} {s : AStr} (hi : AInv m w n t r c a s) {k : Nat} (hk : k < 4) (h : ¬ hN r c a s k < m) : hB r c a s k (vOf m r c a s k) = true := by
  obtain ⟨i1, i2, i3, i4, i5, i6, i7, i8, i9, i10⟩ := hi
  have hkk : k = 0 ∨ k = 1 ∨ k = 2 ∨ k = 3 := by omega
  rcases hkk with rfl | rfl | rfl | rfl
  · have hl : ¬ r.1.length < m := h
    show decide (r.1.headD 0 ∈ r.1) = true
    exact decide_eq_true (hd_mem (by omega))
  · have hl : ¬ c.1 < m := h
    have hv := vic_lt (b := c.2.2.1) m _ i8.2.1
    show decide (¬ ixf c.2.1 (c.2.1 (vic m c.2.2.1 m c.2.2.2.1)) c.1 = none) = true
    exact decide_eq_true (fun hh => ixf_none.mp hh _ (by omega) rfl)
  · have hl : ¬ (a.1 1).length + (a.1 2).length < m := h
    have b2 := i9.2.1
    show decide (adaV m a ∈ a.1 1 ∨ adaV m a ∈ a.1 2) = true
    refine decide_eq_true ?_
    unfold adaV
    split
    · exact Or.inl (hd_mem (by omega))
    · split
      · rename_i hf
        exact Or.inl (hd_mem hf.1)
      · exact Or.inr (hd_mem (by omega))
  · have hl : ¬ s.1.length < m := h
    show decide (s.1.headD 0 ∈ s.1) = true
    exact decide_eq_true (hd_mem (by omega))
theorem rL_last (m p : Nat) (L : List Nat) : ∃ X, rL m p L = X ++ [p] := by
  unfold rL
  split
  · exact ⟨_, rfl⟩
  · split
    · exact ⟨_, rfl⟩
    · exact ⟨_, rfl⟩
theorem in_rL {m p q : Nat} {L : List Nat} (hl : LInv m L) (h2 : 2 ≤ m) (hx : ∃ X, L = X ++ [p]) (hq : q ∉ L) : p ∈ rL m q L := by
  obtain ⟨X, rfl⟩ := hx
  unfold rL
  rw [if_neg hq]
  split
  · exact List.mem_append_left _ (List.mem_append_right _ (List.mem_singleton.mpr rfl))
  · rename_i hf
    refine List.mem_append_left _ (mem_del.mpr ⟨List.mem_append_right _ (List.mem_singleton.mpr rfl), fun e => ?_⟩)
    cases X with
    | nil => simp at hf; omega
    | cons y t =>
      have hn := (List.nodup_append.mp hl.1).2.2
      exact hn y List.mem_cons_self p (List.mem_singleton.mpr rfl) e.symm
theorem clk_at {m n p : Nat} {c : AClk} (h : ClkInv m n c) : ∃ i, i < (clkStep m p c).1 ∧ (clkStep m p c).2.1 i = p ∧ (clkStep m p c).2.2.1 i = true := by
  unfold clkStep
  cases hx : ixf c.2.1 p c.1 with
  | some i => exact ⟨i, (ixf_some hx).1, (ixf_some hx).2, fs_s⟩
  | none =>
    simp only
    split
    · exact ⟨c.1, by simp only; omega, fs_s, fs_s⟩
    · have := clr_lt (m := m) m c.2.2.1 c.2.2.2.1 h.2.1
      exact ⟨_, by simp only; omega, fs_s, fs_s⟩
theorem p_mv (p j : Nat) (Ls : ALs) : p ∈ mv p j Ls j := mem_mv.mpr (Or.inr ⟨rfl, rfl⟩)
theorem in_step {m w n : Nat} {t : Nat → Nat} {r : ARec} {c : AClk} {a : AAda} {s : AStr} (hi : AInv m w n t r c a s) {p k : Nat} (hp : p < 64) (hk : k < 4) : hB (recStep m p r) (clkStep m p c) (adaStep m p a) (strStep m n t p s) k p = true := by
  obtain ⟨i1, i2, i3, i4, i5, i6, i7, i8, i9, i10⟩ := hi
  have hkk : k = 0 ∨ k = 1 ∨ k = 2 ∨ k = 3 := by omega
  rcases hkk with rfl | rfl | rfl | rfl
  · show decide (p ∈ rL m p r.1) = true
    exact decide_eq_true p_rL
  · show decide (¬ ixf (clkStep m p c).2.1 p (clkStep m p c).1 = none) = true
    obtain ⟨i, h1, h2, _⟩ := clk_at (p := p) i8
    exact decide_eq_true (fun hh => ixf_none.mp hh i h1 h2)
  · show decide (p ∈ (adaStep m p a).1 1 ∨ p ∈ (adaStep m p a).1 2) = true
    refine decide_eq_true ?_
    unfold adaStep
    split
    · exact Or.inr (p_mv p 2 _)
    · split
      · exact Or.inr (p_mv p 2 _)
      · split
        · exact Or.inr (p_mv p 2 _)
        · exact Or.inl (p_mv p 1 _)
  · show decide (p ∈ (strStep m n t p s).1) = true
    refine decide_eq_true ?_
    unfold strStep strPost
    cases ahead n t p with
    | none => exact p_rL
    | some q =>
      simp only
      split
      · rename_i hc
        exact in_rL (i10.pre i1 hp).1 hc.2 (rL_last m p s.1) hc.1
      · exact p_rL
theorem rB_step {m n p : Nat} {c : AClk} (h : ClkInv m n c) (hm : 1 ≤ m) (hp : p < 64) : rB (clkStep m p c) p = true := by
  obtain ⟨i, h1, h2, h3⟩ := clk_at (p := p) h
  unfold rB
  rw [ixf_inj (h.step hm hp).2.2.2.1 h1 h2]
  exact h3
theorem rB_hB {r : ARec} {c : AClk} {a : AAda} {s : AStr} {p : Nat} (h : rB c p = true) : hB r c a s 1 p = true := by
  show decide (¬ ixf c.2.1 p c.1 = none) = true
  refine decide_eq_true (fun hh => ?_)
  unfold rB at h
  rw [hh] at h
  exact absurd (show false = true from h) Bool.false_ne_true
def bf (p : Nat) (r : ARec) (c : AClk) (a : AAda) (s : AStr) (k : Nat) : Int32 := if k = 0 then recFault p r else if k = 1 then clkFault p c else if k = 2 then adaFault p a else strFault p s
theorem fN_step {m n p : Nat} {t : Nat → Nat} {r : ARec} {c : AClk} {a : AAda} {s : AStr} {k : Nat} (hk : k < 4) : nI (fN (recStep m p r) (clkStep m p c) (adaStep m p a) (strStep m n t p s) k) = nI (fN r c a s k) + bf p r c a s k := by
  have hkk : k = 0 ∨ k = 1 ∨ k = 2 ∨ k = 3 := by omega
  rcases hkk with rfl | rfl | rfl | rfl
  · exact (rec_F (m := m)).2.symm
  · exact (clk_F (m := m)).2.symm
  · exact (ada_F (m := m)).2.symm
  · exact (str_F (m := m) (n := n) (t := t)).2.symm
theorem bf_hB {r : ARec} {c : AClk} {a : AAda} {s : AStr} {p k : Nat} (hk : k < 4) : bf p r c a s k = if hB r c a s k p = true then 0 else 1 := by
  have hkk : k = 0 ∨ k = 1 ∨ k = 2 ∨ k = 3 := by omega
  rcases hkk with rfl | rfl | rfl | rfl
  · show recFault p r = if decide (p ∈ r.1) = true then 0 else 1
    unfold recFault
    by_cases h : p ∈ r.1 <;> simp [h]
  · show clkFault p c = if decide (¬ ixf c.2.1 p c.1 = none) = true then 0 else 1
    unfold clkFault
    by_cases h : ixf c.2.1 p c.1 = none <;> simp [h]
  · show adaFault p a = if decide (p ∈ a.1 1 ∨ p ∈ a.1 2) = true then 0 else 1
    unfold adaFault
    by_cases h : p ∈ a.1 1 ∨ p ∈ a.1 2 <;> simp [h]
  · show strFault p s = if decide (p ∈ s.1) = true then 0 else 1
    unfold strFault
    by_cases h : p ∈ s.1 <;> simp [h]
def du (b : Nat → Bool) : Nat → Int32
  | 0 => 0
  | k + 1 => du b k + (if b k = true then 0 else (1 : Int32) <<< (nI k &&& 31))
theorem du_fv (b : Nat → Bool) : du b 4 = fv (if b 0 = true then 0 else 1) (if b 1 = true then 0 else 1) (if b 2 = true then 0 else 1) (if b 3 = true then 0 else 1) := by
  simp only [du]
  generalize b 0 = b0
  generalize b 1 = b1
  generalize b 2 = b2
  generalize b 3 = b3
  revert b0 b1 b2 b3
  decide
/-- faults added up -/
def fsum (f : Nat → Int32) : Nat → Int32
  | 0 => 0
  | k + 1 => fsum f k + f k
def fdif (x : Int32) (d f : Nat → Int32) : Nat → Int32
  | 0 => x
  | k + 1 => (fdif x d f k + d k) - f k
theorem fdif_z (f g d : Nat → Int32) (h : ∀ k, k < 4 → g k = f k + d k) : fdif (fsum f 4) d g 4 = 0 := by
  simp only [fdif, fsum]
  rw [h 0 (by omega), h 1 (by omega), h 2 (by omega), h 3 (by omega)]
  generalize f 0 = f0
  generalize f 1 = f1
  generalize f 2 = f2
  generalize f 3 = f3
  generalize d 0 = d0
  generalize d 1 = d1
  generalize d 2 = d2
  generalize d 3 = d3
  grind
/-! useful prefetches are prefetches -/
def UI (s : AStr) : Prop := s.2.2.2.1 + cntB s.2.1 64 ≤ s.2.2.1
theorem cntB_mono {P R : Nat → Bool} {k : Nat} (h : ∀ i, i < k → P i = true → R i = true) : cntB P k ≤ cntB R k := by
  induction k with
  | zero => exact Nat.le_refl 0
  | succ k ih =>
    have := ih (fun i hi => h i (by omega))
    unfold cntB
    by_cases e : P k = true
    · rw [if_pos e, if_pos (h k (by omega) e)]; omega
    · rw [if_neg e]; omega
theorem cntB_on {P : Nat → Bool} {q k : Nat} (hq : q < k) : cntB (fset P q true) k ≤ cntB P k + 1 := by
  by_cases e : P q = true
  · rw [cntB_congr (R := P) (fun i _ => by
      by_cases h : i = q
      · rw [h, fs_s, e]
      · rw [fs_n h])]
    omega
  · rw [cntB_set (P := P) (R := fset P q true) hq (by simpa using e) fs_s (fun i _ h => (fs_n h).symm)]
    omega
theorem cntB_off {P : Nat → Bool} {q k : Nat} (hq : q < k) : cntB (fset P q false) k + (if P q = true then 1 else 0) = cntB P k := by
  by_cases e : P q = true
  · rw [if_pos e, cntB_set (P := fset P q false) (R := P) hq fs_s e (fun i _ h => fs_n h)]
  · rw [if_neg e, cntB_congr (R := P) (fun i _ => by
      by_cases h : i = q
      · rw [h, fs_s]; simpa using e
      · rw [fs_n h])]
    rfl
theorem hAw_le {m p : Nat} {L : List Nat} {aw : Nat → Bool} {k : Nat} : cntB (hAw m p L aw) k ≤ cntB aw k := by
  refine cntB_mono (fun i _ h => ?_)
  unfold hAw at h
  split at h
  · exact h
  · unfold fset at h
    split at h
    · exact absurd h (by decide)
    · exact h
theorem UI.step {m n p : Nat} {t : Nat → Nat} {s : AStr} (h : UI s) (hp : p < 64) : UI (strStep m n t p s) := by
  have h1 : UI (strPre m p s) := by
    have e1 := cntB_off (P := s.2.1) hp
    have e2 := hAw_le (m := m) (p := p) (L := s.1) (aw := fset s.2.1 p false) (k := 64)
    unfold UI at h ⊢
    show s.2.2.2.1 + (if s.2.1 p = true then 1 else 0) + cntB (hAw m p s.1 (fset s.2.1 p false)) 64 ≤ s.2.2.1
    omega
  unfold strStep
  generalize strPre m p s = b at h1
  unfold strPost
  cases ho : ahead n t p with
  | none => exact h1
  | some q =>
    simp only
    split
    · have e1 := cntB_on (P := hAw m q b.1 b.2.1) (ahead_lt ho)
      have e2 := hAw_le (m := m) (p := q) (L := b.1) (aw := b.2.1) (k := 64)
      unfold UI at h1 ⊢
      show b.2.2.2.1 + cntB (fset (hAw m q b.1 b.2.1) q true) 64 ≤ b.2.2.1 + 1
      omega
    · exact h1
