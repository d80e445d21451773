/-! PURE: the best replacement -/
def nxd (t : Nat → Nat) (p : Nat) : Nat → Nat → Nat
  | 0, _ => 400
  | d + 1, k => if t k = p then k else nxd t p d (k + 1)
/-- the next touch of a page, from k on -/
def nx (t : Nat → Nat) (n p k : Nat) : Nat := nxd t p (n - k) k
theorem nx_end {t : Nat → Nat} {n p k : Nat} (h : n ≤ k) : nx t n p k = 400 := by
  unfold nx
  rw [show n - k = 0 by omega]; rfl
theorem nx_step {t : Nat → Nat} {n p k : Nat} (h : k < n) : nx t n p k = if t k = p then k else nx t n p (k + 1) := by
  unfold nx
  rw [show n - k = (n - (k + 1)) + 1 by omega]; rfl
theorem nx_cases {t : Nat → Nat} {n p : Nat} : ∀ {d k : Nat}, d = n - k → nx t n p k = 400 ∨ (k ≤ nx t n p k ∧ nx t n p k < n ∧ t (nx t n p k) = p) := by
  intro d
  induction d with
  | zero => intro k h; exact Or.inl (nx_end (by omega))
  | succ d ih =>
    intro k h
    rw [nx_step (by omega)]
    split
    · exact Or.inr ⟨Nat.le_refl _, by omega, by assumption⟩
    · rcases ih (k := k + 1) (by omega) with h2 | ⟨h2, h3, h4⟩
      · exact Or.inl h2
      · exact Or.inr ⟨by omega, h3, h4⟩
theorem nx_le {t : Nat → Nat} {n p k : Nat} (hn : n ≤ 400) : nx t n p k ≤ 400 := by
  rcases nx_cases (t := t) (n := n) (p := p) (k := k) rfl with h | h <;> omega
theorem nx_here {t : Nat → Nat} {n p k : Nat} (hn : n ≤ 400) (hk : k < n) : nx t n p k = k ↔ t k = p := by
  rw [nx_step hk]
  by_cases e : t k = p
  · rw [if_pos e]; exact ⟨fun _ => e, fun _ => rfl⟩
  · rw [if_neg e]
    refine ⟨fun h => ?_, fun h => absurd h e⟩
    rcases nx_cases (t := t) (n := n) (p := p) (k := k + 1) rfl with h2 | h2 <;> omega
theorem nx_same {t : Nat → Nat} {n p q k : Nat} (he : nx t n p k = nx t n q k) (hne : p ≠ q) : nx t n p k = 400 := by
  rcases nx_cases (t := t) (n := n) (p := p) (k := k) rfl with h | ⟨_, _, h⟩
  · exact h
  · rcases nx_cases (t := t) (n := n) (p := q) (k := k) rfl with h2 | ⟨_, _, h2⟩
    · rw [he]; exact h2
    · rw [he, h2] at h; exact absurd h.symm hne
def fwt (V : Nat → Nat) (k : Nat) : Nat → Nat → Option Nat
  | 0, _ => none
  | d + 1, i => if V i = k then some i else fwt V k d (i + 1)
theorem fwt_some {V : Nat → Nat} {k : Nat} : ∀ {d i f : Nat}, fwt V k d i = some f → i ≤ f ∧ f < i + d ∧ V f = k := by
  intro d
  induction d with
  | zero => intro i f h; exact absurd h (by simp [fwt])
  | succ d ih =>
    intro i f h
    unfold fwt at h
    split at h
    · have := Option.some.inj h
      subst this
      exact ⟨Nat.le_refl _, by omega, by assumption⟩
    · have := ih h
      exact ⟨by omega, by omega, this.2.2⟩
theorem fwt_none {V : Nat → Nat} {k : Nat} : ∀ {d i : Nat}, fwt V k d i = none → ∀ f, i ≤ f → f < i + d → V f ≠ k := by
  intro d
  induction d with
  | zero => intro i h f h1 h2; omega
  | succ d ih =>
    intro i h f h1 h2
    unfold fwt at h
    split at h
    · exact absurd h (by simp)
    · rename_i hne
      by_cases e : f = i
      · rw [e]; exact hne
      · exact ih h f (by omega) (by omega)
def far (V : Nat → Nat) : Nat → Nat → Nat → Nat
  | 0, _, b => b
  | d + 1, i, b => far V d (i + 1) (if V b < V i then i else b)
theorem far_spec {V : Nat → Nat} : ∀ {d i b : Nat}, b < i → (∀ j, j < i → V j ≤ V b) → far V d i b < i + d ∧ ∀ j, j < i + d → V j ≤ V (far V d i b) := by
  intro d
  induction d with
  | zero => intro i b hb h; exact ⟨hb, h⟩
  | succ d ih =>
    intro i b hb h
    unfold far
    have := ih (i := i + 1) (b := if V b < V i then i else b) (by split <;> omega) (fun j hj => by
      rcases Nat.lt_succ_iff_lt_or_eq.mp hj with h1 | h1
      · have := h j h1
        split <;> omega
      · rw [h1]; split <;> omega)
    rw [show i + (d + 1) = i + 1 + d by omega]
    exact this
abbrev ABel : Type := Nat × (Nat → Nat) × Nat
def bst (m k x : Nat) (a : ABel) : ABel :=
  match fwt a.2.1 k a.1 0 with
  | some f => (a.1, fset a.2.1 f x, a.2.2)
  | none => if a.1 < m then (a.1 + 1, fset a.2.1 a.1 x, a.2.2 + 1) else (a.1, fset a.2.1 (far a.2.1 (a.1 - 1) 1 0) x, a.2.2 + 1)
def bel (t : Nat → Nat) (n m : Nat) : Nat → ABel
  | 0 => (0, fun _ => 0, 0)
  | k + 1 => bst m k (nx t n (t k) (k + 1)) (bel t n m k)
theorem bel_inv {t : Nat → Nat} {n m : Nat} (hn : n ≤ 400) (hm : 1 ≤ m) : ∀ k, (bel t n m k).1 ≤ m ∧ (bel t n m k).2.2 ≤ k ∧ (1 ≤ k → 1 ≤ (bel t n m k).2.2) ∧ ((bel t n m k).1 = 0 ∨ 1 ≤ (bel t n m k).2.2) ∧ ∀ i, i < (bel t n m k).1 → (bel t n m k).2.1 i ≤ 400 := by
  intro k
  induction k with
  | zero => exact ⟨Nat.zero_le _, Nat.zero_le _, fun h => h, Or.inl rfl, fun i h => absurd h (Nat.not_lt_zero i)⟩
  | succ k ih =>
    obtain ⟨h1, h2, h3, h4, h5⟩ := ih
    have hx := nx_le (t := t) (p := t k) (k := k + 1) hn
    show (bst m k _ (bel t n m k)).1 ≤ m ∧ (bst m k _ (bel t n m k)).2.2 ≤ k + 1 ∧ (1 ≤ k + 1 → 1 ≤ (bst m k _ (bel t n m k)).2.2) ∧ ((bst m k _ (bel t n m k)).1 = 0 ∨ 1 ≤ (bst m k _ (bel t n m k)).2.2) ∧ ∀ i, i < (bst m k _ (bel t n m k)).1 → (bst m k _ (bel t n m k)).2.1 i ≤ 400
    generalize bel t n m k = a at *
    generalize nx t n (t k) (k + 1) = x at *
    unfold bst
    cases hf : fwt a.2.1 k a.1 0 with
    | some f =>
      have hs := fwt_some hf
      have hc : 1 ≤ a.2.2 := by omega
      refine ⟨h1, by simp only; omega, fun _ => hc, Or.inr hc, fun i hi => ?_⟩
      · simp only at hi ⊢
        unfold fset
        split
        · exact hx
        · exact h5 i hi
    | none =>
      simp only
      split
      · refine ⟨by simp only; omega, by simp only; omega, fun _ => by simp only; omega, Or.inr (by simp only; omega), fun i hi => ?_⟩
        simp only at hi ⊢
        unfold fset
        split
        · exact hx
        · exact h5 i (by omega)
      · refine ⟨h1, by simp only; omega, fun _ => by simp only; omega, Or.inr (by simp only; omega), fun i hi => ?_⟩
        simp only at hi ⊢
        unfold fset
        split
        · exact hx
        · exact h5 i hi
