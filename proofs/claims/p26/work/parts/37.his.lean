/-! PURE: the touches, looked back at -/
def lst (t : Nat → Nat) : Nat → Nat → Nat
  | 0, _ => 0
  | n + 1, p => if t n = p then n + 1 else lst t n p
theorem lst_s (t : Nat → Nat) (n p : Nat) : lst t (n + 1) p = if t n = p then n + 1 else lst t n p := rfl
theorem lst_le (t : Nat → Nat) (n p : Nat) : lst t n p ≤ n := by
  induction n with
  | zero => exact Nat.le_refl 0
  | succ n ih => unfold lst; split <;> omega
theorem lst_congr {t t' : Nat → Nat} {n : Nat} (h : ∀ i, i < n → t' i = t i) (p : Nat) : lst t' n p = lst t n p := by
  induction n with
  | zero => rfl
  | succ n ih => unfold lst; rw [h n (by omega), ih (fun i hi => h i (by omega))]
theorem lst_spec {t : Nat → Nat} {n p b : Nat} : b < lst t n p ↔ ∃ i, b ≤ i ∧ i < n ∧ t i = p := by
  induction n with
  | zero => exact ⟨fun h => absurd h (Nat.not_lt_zero b), fun ⟨i, _, h, _⟩ => absurd h (Nat.not_lt_zero i)⟩
  | succ n ih =>
    unfold lst
    by_cases e : t n = p
    · rw [if_pos e]
      exact ⟨fun h => ⟨n, by omega, by omega, e⟩, fun ⟨i, h1, h2, _⟩ => by omega⟩
    · rw [if_neg e, ih]
      refine ⟨fun ⟨i, h1, h2, h3⟩ => ⟨i, h1, by omega, h3⟩, fun ⟨i, h1, h2, h3⟩ => ⟨i, h1, ?_, h3⟩⟩
      rcases Nat.lt_succ_iff_lt_or_eq.mp h2 with h | h
      · exact h
      · rw [h] at h3; exact absurd h3 e
/-- pages touched from a touch on -/
def psz (t : Nat → Nat) (n b : Nat) : Nat := cntB (fun p => decide (b < lst t n p)) 64
theorem psz_le (t : Nat → Nat) (n b : Nat) : psz t n b ≤ 64 := cntB_le _ _
theorem psz_congr {t t' : Nat → Nat} {n : Nat} (h : ∀ i, i < n → t' i = t i) (b : Nat) : psz t' n b = psz t n b := by
  unfold psz
  exact cntB_congr (fun p _ => by rw [lst_congr h])
theorem psz_all {t : Nat → Nat} {n b : Nat} (h : n ≤ b) : psz t n b = 0 := cntB_zero (fun p _ => by
  have := lst_le t n p
  simp only [decide_eq_false_iff_not]; omega)
/-- forward: one touch more -/
theorem psz_succ {t : Nat → Nat} {n b : Nat} (hb : b ≤ n) (ht : t n < 64) : psz t (n + 1) b = psz t n b + (if b < lst t n (t n) then 0 else 1) := by
  unfold psz
  have e1 : ∀ p, p ≠ t n → lst t (n + 1) p = lst t n p := fun p hp => by rw [lst_s, if_neg (fun h => hp h.symm)]
  have e2 : lst t (n + 1) (t n) = n + 1 := by rw [lst_s, if_pos rfl]
  by_cases c : b < lst t n (t n)
  · rw [if_pos c]
    refine (cntB_congr (fun p hp => ?_)).trans (Nat.add_zero _).symm
    by_cases e : p = t n
    · rw [e, e2, decide_eq_decide]; omega
    · rw [e1 p e]
  · rw [if_neg c]
    refine cntB_set ht ?_ ?_ (fun p hp hne => ?_)
    · simpa using Nat.le_of_not_lt c
    · rw [e2]; simp; omega
    · rw [e1 p hne]
/-- backward: one touch more -/
theorem psz_back {t : Nat → Nat} {n b : Nat} (hb : b < n) (ht : t b < 64) : psz t n b = psz t n (b + 1) + (if b + 1 < lst t n (t b) then 0 else 1) := by
  unfold psz
  have e1 : ∀ p, p ≠ t b → (b < lst t n p ↔ b + 1 < lst t n p) := fun p hp => by
    rw [lst_spec, lst_spec]
    refine ⟨fun ⟨i, h1, h2, h3⟩ => ⟨i, ?_, h2, h3⟩, fun ⟨i, h1, h2, h3⟩ => ⟨i, by omega, h2, h3⟩⟩
    by_cases e : i = b
    · rw [e] at h3; exact absurd h3.symm hp
    · omega
  have e2 : b < lst t n (t b) := lst_spec.mpr ⟨b, Nat.le_refl b, hb, rfl⟩
  by_cases c : b + 1 < lst t n (t b)
  · rw [if_pos c]
    refine (cntB_congr (fun p hp => ?_)).trans (Nat.add_zero _).symm
    by_cases e : p = t b
    · rw [e, decide_eq_decide]; omega
    · rw [decide_eq_decide]; exact e1 p e
  · rw [if_neg c]
    refine cntB_set ht ?_ ?_ (fun p hp hne => ?_)
    · simpa using Nat.le_of_not_lt c
    · simpa using e2
    · rw [decide_eq_decide]; exact (e1 p hne).symm
def wsz (w : Nat) (t : Nat → Nat) (k : Nat) : Nat := psz t (k + 1) (k + 1 - w)
theorem wsz_congr {w : Nat} {t t' : Nat → Nat} {k : Nat} (h : ∀ i, i ≤ k → t' i = t i) : wsz w t' k = wsz w t k := psz_congr (fun i hi => h i (by omega)) _
def dpt (t : Nat → Nat) (k : Nat) : Nat := if lst t k (t k) = 0 then 64 else psz t k (lst t k (t k))
theorem dpt_congr {t t' : Nat → Nat} {k : Nat} (h : ∀ i, i ≤ k → t' i = t i) : dpt t' k = dpt t k := by
  unfold dpt
  rw [h k (Nat.le_refl k), lst_congr (fun i hi => h i (by omega)), psz_congr (fun i hi => h i (by omega))]
theorem psz_lt {t : Nat → Nat} {n p : Nat} (hp : p < 64) : psz t n (lst t n p) < 64 := by
  have := cntB_set (P := fun q => decide (lst t n p < lst t n q)) (R := fset (fun q => decide (lst t n p < lst t n q)) p true) (k := 64) hp (by simp) fs_s (fun i _ hne => by rw [fs_n hne])
  have h2 := cntB_le (fset (fun q => decide (lst t n p < lst t n q)) p true) 64
  unfold psz
  omega
def sumN (f : Nat → Nat) : Nat → Nat
  | 0 => 0
  | k + 1 => sumN f k + f k
theorem sumN_congr {f g : Nat → Nat} {k : Nat} (h : ∀ i, i < k → f i = g i) : sumN f k = sumN g k := by
  induction k with
  | zero => rfl
  | succ k ih => unfold sumN; rw [ih (fun i hi => h i (by omega)), h k (by omega)]
theorem sumN_le {f : Nat → Nat} {c : Nat} (k : Nat) (h : ∀ i, f i ≤ c) : sumN f k ≤ k * c := by
  induction k with
  | zero => exact Nat.zero_le _
  | succ k ih => unfold sumN; have := h k; rw [Nat.succ_mul]; omega
/-- touches at a depth below d -/
theorem dpt_sum (t : Nat → Nat) (n d : Nat) : sumN (fun e => cntB (fun k => decide (dpt t k = e)) n) d = cntB (fun k => decide (dpt t k < d)) n := by
  induction d with
  | zero => exact (cntB_zero (fun i _ => by simp)).symm
  | succ d ih =>
    unfold sumN
    rw [ih]
    clear ih
    induction n with
    | zero => rfl
    | succ n ih =>
      unfold cntB
      rw [← ih]
      by_cases h1 : dpt t n < d
      · rw [if_pos (by simpa using h1), if_neg (by simp; omega), if_pos (by simp; omega)]; omega
      · by_cases h2 : dpt t n = d
        · rw [if_neg (by simpa using h1), if_pos (by simpa using h2), if_pos (by simp; omega)]; omega
        · rw [if_neg (by simpa using h1), if_neg (by simpa using h2), if_neg (by simp; omega)]; omega
theorem cnt_neg (P : Nat → Bool) (n : Nat) : cntB P n + cntB (fun k => !P k) n = n := by
  induction n with
  | zero => rfl
  | succ n ih => unfold cntB; cases P n <;> simp <;> omega
