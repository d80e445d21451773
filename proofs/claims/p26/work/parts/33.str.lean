/-! PURE: policy 3 -/
abbrev AStr : Type := List Nat × (Nat → Bool) × Nat × Nat × Nat
def hAw (m p : Nat) (L : List Nat) (aw : Nat → Bool) : Nat → Bool := if p ∈ L ∨ L.length < m then aw else fset aw (L.headD 0) false
def ahead (n : Nat) (t : Nat → Nat) (p : Nat) : Option Nat := if 2 ≤ n ∧ p + t (n - 2) = t (n - 1) + t (n - 1) ∧ p ≠ t (n - 1) ∧ t (n - 1) ≤ 2 * p ∧ 2 * p - t (n - 1) < 64 then some (2 * p - t (n - 1)) else none
def strPre (m p : Nat) (a : AStr) : AStr := (rL m p a.1, hAw m p a.1 (fset a.2.1 p false), a.2.2.1, a.2.2.2.1 + (if a.2.1 p = true then 1 else 0), a.2.2.2.2 + (if p ∈ a.1 then 0 else 1))
def strPost (m : Nat) (o : Option Nat) (a : AStr) : AStr :=
  match o with
  | none => a
  | some q => if q ∉ a.1 ∧ 2 ≤ m then (rL m q a.1, fset (hAw m q a.1 a.2.1) q true, a.2.2.1 + 1, a.2.2.2.1, a.2.2.2.2) else a
def strStep (m n : Nat) (t : Nat → Nat) (p : Nat) (a : AStr) : AStr := strPost m (ahead n t p) (strPre m p a)
def strFault (p : Nat) (a : AStr) : Int32 := if p ∈ a.1 then 0 else 1
def StrInv (m n : Nat) (a : AStr) : Prop := LInv m a.1 ∧ (∀ i, a.2.1 i = true → i ∈ a.1) ∧ a.2.2.1 ≤ n ∧ a.2.2.2.1 ≤ n ∧ a.2.2.2.2 ≤ n
theorem mem_rL {m p x : Nat} {L : List Nat} (h : x ∈ rL m p L) : x ∈ L ∨ x = p := by
  unfold rL at h
  split at h
  · rcases List.mem_append.mp h with h | h
    · exact Or.inl (mem_del.mp h).1
    · exact Or.inr (List.mem_singleton.mp h)
  · split at h
    · rcases List.mem_append.mp h with h | h
      · exact Or.inl h
      · exact Or.inr (List.mem_singleton.mp h)
    · rcases List.mem_append.mp h with h | h
      · exact Or.inl (mem_del.mp h).1
      · exact Or.inr (List.mem_singleton.mp h)
theorem p_rL {m p : Nat} {L : List Nat} : p ∈ rL m p L := by
  unfold rL
  split
  · exact List.mem_append_right _ (List.mem_singleton.mpr rfl)
  · split
    · exact List.mem_append_right _ (List.mem_singleton.mpr rfl)
    · exact List.mem_append_right _ (List.mem_singleton.mpr rfl)
theorem hAw_in {m p : Nat} {L : List Nat} {aw : Nat → Bool} (h : ∀ i, aw i = true → i ∈ L) {i : Nat} (hi : hAw m p L aw i = true) : i ∈ rL m p L := by
  unfold hAw at hi
  unfold rL
  by_cases c : p ∈ L
  · rw [if_pos (Or.inl c)] at hi
    rw [if_pos c]
    by_cases e : i = p
    · exact List.mem_append_right _ (List.mem_singleton.mpr e)
    · exact List.mem_append_left _ (mem_del.mpr ⟨h i hi, e⟩)
  · rw [if_neg c]
    by_cases c2 : L.length < m
    · rw [if_pos (Or.inr c2)] at hi
      rw [if_pos c2]
      exact List.mem_append_left _ (h i hi)
    · rw [if_neg (by simp [c, c2])] at hi
      rw [if_neg c2]
      unfold fset at hi
      split at hi
      · exact absurd hi (by decide)
      · rename_i e
        exact List.mem_append_left _ (mem_del.mpr ⟨h i hi, e⟩)
theorem StrInv.pre {m n p : Nat} {a : AStr} (h : StrInv m n a) (hm : 1 ≤ m) (hp : p < 64) : LInv m (strPre m p a).1 ∧ (∀ i, (strPre m p a).2.1 i = true → i ∈ (strPre m p a).1) := by
  obtain ⟨h1, h2, h3, h4, h5⟩ := h
  refine ⟨h1.step hm hp, fun i hi => hAw_in (aw := fset a.2.1 p false) (fun i hi => ?_) hi⟩
  unfold fset at hi
  split at hi
  · exact absurd hi (by decide)
  · exact h2 i hi
theorem ahead_lt {n : Nat} {t : Nat → Nat} {p q : Nat} (h : ahead n t p = some q) : q < 64 := by
  unfold ahead at h
  split at h
  · have := Option.some.inj h; omega
  · exact absurd h (by simp)
theorem StrInv.step {m n p : Nat} {t : Nat → Nat} {a : AStr} (h : StrInv m n a) (hm : 1 ≤ m) (hp : p < 64) : StrInv m (n + 1) (strStep m n t p a) := by
  have hpre := h.pre hm hp
  obtain ⟨h1, h2, h3, h4, h5⟩ := h
  have e1 : (strPre m p a).2.2.1 ≤ n := h3
  have e2 : (strPre m p a).2.2.2.1 ≤ n + 1 := by simp only [strPre]; split <;> omega
  have e3 : (strPre m p a).2.2.2.2 ≤ n + 1 := by simp only [strPre]; split <;> omega
  unfold strStep
  generalize strPre m p a = b at *
  unfold strPost
  cases ho : ahead n t p with
  | none => exact ⟨hpre.1, hpre.2, Nat.le_succ_of_le e1, e2, e3⟩
  | some q =>
    simp only
    have hq := ahead_lt ho
    split
    · refine ⟨hpre.1.step hm hq, fun i hi => ?_, by simp only; omega, e2, e3⟩
      simp only at hi ⊢
      by_cases e : i = q
      · rw [e]; exact p_rL
      · rw [fs_n e] at hi
        exact hAw_in hpre.2 hi
    · exact ⟨hpre.1, hpre.2, Nat.le_succ_of_le e1, e2, e3⟩
