/-! PURE: hindsight, recency -/
/-- the pages touched so far, the latest first -/
def mr (t : Nat → Nat) : Nat → List Nat
  | 0 => []
  | n + 1 => t n :: del (t n) (mr t n)
theorem mr_congr {t t' : Nat → Nat} : ∀ {n : Nat}, (∀ i, i < n → t' i = t i) → mr t' n = mr t n := by
  intro n
  induction n with
  | zero => intro _; rfl
  | succ n ih => intro h; rw [mr, mr, ih (fun i hi => h i (by omega)), h n (by omega)]
theorem mr_mem {t : Nat → Nat} : ∀ {n q : Nat}, (∀ i, i < n → t i < 64) → (q ∈ mr t n ↔ q < 64 ∧ 0 < lst t n q) := by
  intro n
  induction n with
  | zero => intro q _; exact ⟨fun h => absurd h List.not_mem_nil, fun h => absurd h.2 (Nat.lt_irrefl 0)⟩
  | succ n ih =>
    intro q ht
    rw [mr, lst_s, List.mem_cons, mem_del, ih (fun i hi => ht i (by omega))]
    by_cases e : t n = q
    · rw [if_pos e]
      exact ⟨fun _ => ⟨e ▸ ht n (by omega), by omega⟩, fun _ => Or.inl e.symm⟩
    · rw [if_neg e]
      exact ⟨fun h => h.elim (fun h => absurd h.symm e) (fun h => h.1), fun h => Or.inr ⟨h, fun h2 => e h2.symm⟩⟩
theorem mr_sorted {t : Nat → Nat} : ∀ {n : Nat}, (mr t n).Pairwise (fun x y => lst t n y < lst t n x) := by
  intro n
  induction n with
  | zero => exact List.Pairwise.nil
  | succ n ih =>
    rw [mr, List.pairwise_cons]
    have ne : ∀ x ∈ del (t n) (mr t n), lst t (n + 1) x = lst t n x := fun x hx => by
      rw [lst_s, if_neg (fun e => (mem_del.mp hx).2 e.symm)]
    refine ⟨fun y hy => ?_, ?_⟩
    · rw [ne y hy, lst_s, if_pos rfl]
      have := lst_le t n y
      omega
    · have h2 : (del (t n) (mr t n)).Pairwise (fun x y => lst t n y < lst t n x) := List.Pairwise.filter _ ih
      exact h2.imp_of_mem (fun hx hy h => by rw [ne _ hx, ne _ hy]; exact h)
theorem mr_nodup {t : Nat → Nat} {n : Nat} : (mr t n).Nodup := mr_sorted.imp (fun h e => by rw [e] at h; exact Nat.lt_irrefl _ h)
theorem mr_idx {t : Nat → Nat} {n i : Nat} (ht : ∀ i, i < n → t i < 64) (hi : i < (mr t n).length) : psz t n (lst t n ((mr t n)[i])) = i := by
  have hp := List.pairwise_iff_getElem.mp (mr_sorted (t := t) (n := n))
  have h := cntB_list (L := (mr t n).take i) 64 (mr_nodup.sublist (List.take_sublist _ _)) (P := fun p => decide (lst t n ((mr t n)[i]) < lst t n p)) (fun x => by
    rw [List.mem_take_iff_getElem]
    constructor
    · rintro ⟨j, hj, rfl⟩
      have hj1 : j < i := by omega
      have hj2 : j < (mr t n).length := by omega
      exact ⟨((mr_mem ht).mp (List.getElem_mem hj2)).1, decide_eq_true (hp j i hj2 hi hj1)⟩
    · rintro ⟨h1, h2⟩
      have h3 := of_decide_eq_true h2
      obtain ⟨j, hj, e⟩ := List.mem_iff_getElem.mp ((mr_mem ht).mpr ⟨h1, by omega⟩)
      refine ⟨j, ?_, e⟩
      rcases Nat.lt_trichotomy j i with h | h | h
      · omega
      · subst h
        rw [e] at h3
        omega
      · have := hp i j hi hj h
        rw [e] at this
        omega)
  rw [psz, h, List.length_take]
  omega
theorem mem_take_mr {t : Nat → Nat} {n k q : Nat} (ht : ∀ i, i < n → t i < 64) : q ∈ (mr t n).take k ↔ q < 64 ∧ 0 < lst t n q ∧ psz t n (lst t n q) < k := by
  rw [List.mem_take_iff_getElem]
  constructor
  · rintro ⟨j, hj, rfl⟩
    have hj2 : j < (mr t n).length := by omega
    have := (mr_mem ht).mp (List.getElem_mem hj2)
    exact ⟨this.1, this.2, by rw [mr_idx ht hj2]; omega⟩
  · rintro ⟨h1, h2, h3⟩
    obtain ⟨j, hj, e⟩ := List.mem_iff_getElem.mp ((mr_mem ht).mpr ⟨h1, h2⟩)
    rw [← e, mr_idx ht hj] at h3
    exact ⟨j, by omega, e⟩
theorem del_take {p : Nat} : ∀ {M : List Nat} {m : Nat}, M.Nodup → p ∈ M.take m → del p (M.take m) = (del p M).take (m - 1) := by
  intro M
  induction M with
  | nil => intro m _ h; rw [List.take_nil] at h; exact absurd h List.not_mem_nil
  | cons a M ih =>
    intro m hn h
    have hn2 := List.nodup_cons.mp hn
    cases m with
    | zero => rw [List.take_zero] at h; exact absurd h List.not_mem_nil
    | succ m =>
      rw [List.take_succ_cons] at h ⊢
      by_cases e : a = p
      · subst e
        rw [del_head (List.nodup_cons.mpr ⟨fun hh => hn2.1 (List.mem_of_mem_take hh), hn2.2.sublist (List.take_sublist _ _)⟩), del_head hn]
        rfl
      · have h2 : p ∈ M.take m := (List.mem_cons.mp h).resolve_left (fun hh => e hh.symm)
        have hm : m ≠ 0 := fun hh => by rw [hh, List.take_zero] at h2; exact absurd h2 List.not_mem_nil
        have d1 : ∀ X : List Nat, del p (a :: X) = a :: del p X := fun X => by
          unfold del
          rw [List.filter_cons, if_pos (by simp [e])]
        rw [d1, d1, ih hn2.2 h2]
        obtain ⟨j, rfl⟩ : ∃ j, m = j + 1 := ⟨m - 1, by omega⟩
        rfl
theorem del_out {p : Nat} : ∀ {j : Nat} {M : List Nat}, p ∉ M.take j → (del p M).take j = M.take j := by
  intro j
  induction j with
  | zero => intro M _; rfl
  | succ j ih =>
    intro M h
    cases M with
    | nil => rfl
    | cons a M =>
      rw [List.take_succ_cons, List.mem_cons] at h
      have e : a ≠ p := fun e => h (Or.inl e.symm)
      have d1 : del p (a :: M) = a :: del p M := by
        unfold del
        rw [List.filter_cons, if_pos (by simp [e])]
      rw [d1, List.take_succ_cons, List.take_succ_cons, ih (fun hh => h (Or.inr hh))]
theorem take_del_sub {p q : Nat} : ∀ {M : List Nat} {j : Nat}, M.Nodup → q ∈ (del p M).take j → q ∈ M.take (j + 1) := by
  intro M
  induction M with
  | nil => intro j _ h; unfold del at h; rw [List.filter_nil, List.take_nil] at h; exact absurd h List.not_mem_nil
  | cons a M ih =>
    intro j hn h
    rw [List.take_succ_cons]
    by_cases e : a = p
    · subst e
      rw [del_head hn] at h
      exact List.mem_cons_of_mem _ h
    · have d1 : del p (a :: M) = a :: del p M := by
        unfold del
        rw [List.filter_cons, if_pos (by simp [e])]
      rw [d1] at h
      cases j with
      | zero => rw [List.take_zero] at h; exact absurd h List.not_mem_nil
      | succ j =>
        rw [List.take_succ_cons] at h
        rcases List.mem_cons.mp h with h | h
        · rw [h]; exact List.mem_cons_self
        · exact List.mem_cons_of_mem _ (ih (List.nodup_cons.mp hn).2 h)
theorem del_rev (p : Nat) (L : List Nat) : (del p L).reverse = del p L.reverse := by
  unfold del; rw [List.filter_reverse]
/-- policy 0 holds the pages touched last -/
theorem lru_step {m p : Nat} {L M : List Nat} (hm : 1 ≤ m) (hL : LInv m L) (hM : M.Nodup) (h : L.reverse = M.take m) : (rL m p L).reverse = (p :: del p M).take m := by
  obtain ⟨j, rfl⟩ : ∃ j, m = j + 1 := ⟨m - 1, by omega⟩
  have hmem : p ∈ L ↔ p ∈ M.take (j + 1) := by rw [← h, List.mem_reverse]
  rw [List.take_succ_cons]
  unfold rL
  by_cases c : p ∈ L
  · rw [if_pos c, List.reverse_append, List.reverse_singleton, List.singleton_append, del_rev, h, del_take hM (hmem.mp c)]
    rfl
  · rw [if_neg c]
    have hn : p ∉ M.take (j + 1) := fun hh => c (hmem.mpr hh)
    have hlen : L.length = min (j + 1) M.length := by
      have := congrArg List.length h
      rw [List.length_reverse, List.length_take] at this
      exact this
    have ht : (del p M).take j = M.take j := by
      refine del_out (fun hh => hn ?_)
      rw [List.mem_take_iff_getElem] at hh ⊢
      obtain ⟨i, hi, e⟩ := hh
      exact ⟨i, by omega, e⟩
    by_cases c2 : L.length < j + 1
    · rw [if_pos c2, List.reverse_append, List.reverse_singleton, List.singleton_append, ht, h]
      rw [List.take_of_length_le (by omega), List.take_of_length_le (by omega)]
    · rw [if_neg c2, List.reverse_append, List.reverse_singleton, List.singleton_append, ht]
      cases L with
      | nil => simp at c2
      | cons a T =>
        show p :: (del a (a :: T)).reverse = _
        rw [del_head hL.1]
        have e : M.take j = ((a :: T).reverse).take j := by rw [h, List.take_take]; congr 1; omega
        rw [e, List.reverse_cons]
        have hl : T.reverse.length = j := by
          have := hL.2.2
          rw [List.length_reverse]
          simp only [List.length_cons] at c2 this
          omega
        rw [List.take_append_of_le_length (by omega), List.take_of_length_le (by omega)]
