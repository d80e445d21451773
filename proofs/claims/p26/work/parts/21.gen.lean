/-! PURE: counting and the oldest -/
def cntB (P : Nat → Bool) : Nat → Nat
  | 0 => 0
  | k + 1 => cntB P k + (if P k then 1 else 0)
theorem cntB_le (P : Nat → Bool) (k : Nat) : cntB P k ≤ k := by
  induction k with
  | zero => exact Nat.le_refl 0
  | succ k ih => unfold cntB; split <;> omega
theorem cntB_congr {P R : Nat → Bool} {k : Nat} (h : ∀ i, i < k → P i = R i) : cntB P k = cntB R k := by
  induction k with
  | zero => rfl
  | succ k ih => unfold cntB; rw [ih (fun i hi => h i (by omega)), h k (by omega)]
theorem cntB_set {P R : Nat → Bool} {k q : Nat} (hq : q < k) (hP : P q = false) (hR : R q = true) (h : ∀ i, i < k → i ≠ q → P i = R i) : cntB R k = cntB P k + 1 := by
  induction k with
  | zero => omega
  | succ k ih =>
    unfold cntB
    by_cases e : q = k
    · subst e
      rw [cntB_congr (fun i hi => h i (by omega) (by omega)), hP, hR]
      simp
    · rw [ih (by omega) (fun i hi => h i (by omega)), h k (by omega) (by omega)]
      omega
theorem cntB_zero {P : Nat → Bool} {k : Nat} (h : ∀ i, i < k → P i = false) : cntB P k = 0 := by
  induction k with
  | zero => rfl
  | succ k ih => unfold cntB; rw [ih (fun i hi => h i (by omega)), h k (by omega)]; rfl
theorem cntB_list {L : List Nat} (k : Nat) (hn : L.Nodup) {P : Nat → Bool} (h : ∀ x, x ∈ L ↔ x < k ∧ P x = true) : cntB P k = L.length := by
  induction L generalizing P with
  | nil =>
    refine cntB_zero (fun i hi => ?_)
    have := h i
    simp [hi] at this
    exact this
  | cons a t ih =>
    have ha := (h a).mp List.mem_cons_self
    have hn2 := List.nodup_cons.mp hn
    have := ih (P := fun x => P x && decide (x ≠ a)) hn2.2 (fun x => by
      have := h x
      simp only [List.mem_cons] at this
      constructor
      · intro hx
        have hxa : x ≠ a := fun e => hn2.1 (e ▸ hx)
        have h2 := this.mp (Or.inr hx)
        exact ⟨h2.1, by simp [h2.2, hxa]⟩
      · rintro ⟨h1, h2⟩
        simp at h2
        rcases this.mpr ⟨h1, h2.1⟩ with h3 | h3
        · exact absurd h3 h2.2
        · exact h3)
    rw [List.length_cons, ← this]
    exact cntB_set ha.1 (by simp) ha.2 (fun i _ hne => by simp [hne])
def OldI (P : Nat → Bool) (T : Nat → Nat) (i : Nat) (x : Int32) : Prop := (x = -1 ∧ ∀ p, p < i → P p = false) ∨ ∃ q, q < i ∧ x = nI q ∧ P q = true ∧ ∀ p, p < i → P p = true → T q ≤ T p
theorem OldI.start {P : Nat → Bool} {T : Nat → Nat} : OldI P T 0 (-1) := Or.inl ⟨rfl, fun p h => absurd h (Nat.not_lt_zero p)⟩
theorem OldI.keep {P : Nat → Bool} {T : Nat → Nat} {i : Nat} {x : Int32} (h : OldI P T i x) (hp : P i = false) : OldI P T (i + 1) x := by
  rcases h with ⟨h1, h2⟩ | ⟨q, h1, h2, h3, h4⟩
  · refine Or.inl ⟨h1, fun p hp2 => ?_⟩
    rcases Nat.lt_succ_iff_lt_or_eq.mp hp2 with h | h
    · exact h2 p h
    · rw [h]; exact hp
  · refine Or.inr ⟨q, by omega, h2, h3, fun p hp2 hp3 => ?_⟩
    rcases Nat.lt_succ_iff_lt_or_eq.mp hp2 with h | h
    · exact h4 p h hp3
    · rw [h, hp] at hp3; exact absurd hp3 (by decide)
theorem OldI.first {P : Nat → Bool} {T : Nat → Nat} {i : Nat} {x : Int32} (h : OldI P T i x) (hi : i < 2 ^ 31) (hp : P i = true) (hx : x = -1) : OldI P T (i + 1) (nI i) := by
  rcases h with ⟨h1, h2⟩ | ⟨q, h1, h2, h3, h4⟩
  · refine Or.inr ⟨i, by omega, rfl, hp, fun p hp2 hp3 => ?_⟩
    rcases Nat.lt_succ_iff_lt_or_eq.mp hp2 with h | h
    · rw [h2 p h] at hp3; exact absurd hp3 (by decide)
    · rw [h]; exact Nat.le_refl _
  · rw [h2] at hx; exact absurd hx (nI_m1 (by omega))
theorem OldI.stay {P : Nat → Bool} {T : Nat → Nat} {i q : Nat} (h : OldI P T i (nI q)) (hi : i < 2 ^ 31) (hq : q < i) (ht : T q ≤ T i) : OldI P T (i + 1) (nI q) := by
  rcases h with ⟨h1, h2⟩ | ⟨q', h1, h2, h3, h4⟩
  · exact absurd h1 (nI_m1 (by omega))
  · have e := (nI_eq (by omega) (by omega)).mp h2
    subst e
    refine Or.inr ⟨q, by omega, rfl, h3, fun p hp2 hp3 => ?_⟩
    rcases Nat.lt_succ_iff_lt_or_eq.mp hp2 with h | h
    · exact h4 p h hp3
    · rw [h]; exact ht
theorem OldI.turn {P : Nat → Bool} {T : Nat → Nat} {i q : Nat} (h : OldI P T i (nI q)) (hi : i < 2 ^ 31) (hq : q < i) (hp : P i = true) (ht : T i < T q) : OldI P T (i + 1) (nI i) := by
  rcases h with ⟨h1, h2⟩ | ⟨q', h1, h2, h3, h4⟩
  · exact absurd h1 (nI_m1 (by omega))
  · have e := (nI_eq (by omega) (by omega)).mp h2
    subst e
    refine Or.inr ⟨i, by omega, rfl, hp, fun p hp2 hp3 => ?_⟩
    rcases Nat.lt_succ_iff_lt_or_eq.mp hp2 with h | h
    · have := h4 p h hp3; omega
    · rw [h]; exact Nat.le_refl _
theorem OldI.cases {P : Nat → Bool} {T : Nat → Nat} {i : Nat} {x : Int32} (h : OldI P T i x) : x = -1 ∨ ∃ q, q < i ∧ x = nI q := by
  rcases h with ⟨h1, _⟩ | ⟨q, h1, h2, _⟩
  · exact Or.inl h1
  · exact Or.inr ⟨q, h1, h2⟩
theorem OldI.nil {P : Nat → Bool} {T : Nat → Nat} {k : Nat} {x : Int32} (h : OldI P T k x) {L : List Nat} (hm : ∀ x, x ∈ L ↔ x < k ∧ P x = true) (hL : L = []) : x = -1 := by
  rcases h with ⟨h1, _⟩ | ⟨q, h1, _, h3, _⟩
  · exact h1
  · have := (hm q).mpr ⟨h1, h3⟩
    rw [hL] at this
    exact absurd this List.not_mem_nil
theorem OldI.head {P : Nat → Bool} {T : Nat → Nat} {k : Nat} {x : Int32} (h : OldI P T k x) {L : List Nat} (hm : ∀ x, x ∈ L ↔ x < k ∧ P x = true) (hs : L.Pairwise (fun x y => T x < T y)) {a : Nat} {t : List Nat} (hL : L = a :: t) : x = nI a := by
  subst hL
  have ha := (hm a).mp List.mem_cons_self
  rcases h with ⟨_, h2⟩ | ⟨q, h1, h2, h3, h4⟩
  · rw [h2 a ha.1] at ha; exact absurd ha.2 (by decide)
  · have hq := (hm q).mpr ⟨h1, h3⟩
    rcases List.mem_cons.mp hq with e | e
    · rw [h2, e]
    · have := (List.pairwise_cons.mp hs).1 q e
      have := h4 a ha.1 ha.2
      omega
theorem pw_nodup {L : List Nat} {T : Nat → Nat} (h : L.Pairwise (fun x y => T x < T y)) : L.Nodup :=
  h.imp (fun h e => by rw [e] at h; exact Nat.lt_irrefl _ h)
/-- a list without one page -/
def del (p : Nat) (L : List Nat) : List Nat := L.filter (fun x => decide (x ≠ p))
theorem mem_del {p x : Nat} {L : List Nat} : x ∈ del p L ↔ x ∈ L ∧ x ≠ p := by unfold del; rw [List.mem_filter]; simp
theorem del_self {p : Nat} {L : List Nat} (h : p ∉ L) : del p L = L := by
  unfold del
  rw [List.filter_eq_self]
  intro a ha
  have : a ≠ p := fun e => h (e ▸ ha)
  simp [this]
theorem del_head {a : Nat} {t : List Nat} (h : (a :: t).Nodup) : del a (a :: t) = t := by
  have := List.nodup_cons.mp h
  unfold del
  rw [List.filter_cons]
  simp
  intro x hx e
  exact this.1 (e ▸ hx)
theorem del_nodup {p : Nat} {L : List Nat} (h : L.Nodup) : (del p L).Nodup := h.filter _
theorem del_len_le (p : Nat) (L : List Nat) : (del p L).length ≤ L.length := List.length_filter_le _ _
theorem del_len {p : Nat} {L : List Nat} (h : L.Nodup) (hp : p ∈ L) : (del p L).length + 1 = L.length := by
  induction L with
  | nil => exact absurd hp List.not_mem_nil
  | cons a t ih =>
    have hn := List.nodup_cons.mp h
    by_cases e : a = p
    · subst e
      rw [del_head h]; rfl
    · have hp2 : p ∈ t := by
        rcases List.mem_cons.mp hp with h | h
        · exact absurd h.symm e
        · exact h
      have := ih hn.2 hp2
      have h2 : del p (a :: t) = a :: del p t := by
        unfold del
        rw [List.filter_cons]
        simp [e]
      rw [h2, List.length_cons, List.length_cons, this]
theorem add_nodup {p : Nat} {L : List Nat} (h : L.Nodup) (hp : p ∉ L) : (L ++ [p]).Nodup := by
  rw [List.nodup_append]
  refine ⟨h, by simp, fun a ha b hb e => ?_⟩
  rw [List.mem_singleton.mp hb] at e
  exact hp (e ▸ ha)
