/-! PURE: policy 3, the page ahead -/
def notPg (x : Int32) : Prop := x < 0 ∨ 64 ≤ x
theorem notPg_big {k : Nat} (h : 64 ≤ k) (hk : k < 2 ^ 31) : notPg (nI k) := Or.inr (nI_le (a := 64) h hk)
theorem neg_lt {k : Nat} (h : 0 < k) (hk : k ≤ 1000) : - nI k < 0 := by
  rw [Int32.lt_iff_toInt_lt, Int32.toInt_neg, nI_toInt (by omega)]
  have h0 : (0 : Int) < (k : Int) := by omega
  have h1 : (k : Int) ≤ 1000 := by omega
  generalize (k : Int) = z at *
  simp [Int.bmod]
  omega
theorem k_notPg {x : Int32} (hx : notPg x) {Q : Int32 → Prop} (h : Q 0) : wR_X9_isPage x Q := by
  refine ⟨fun _ => ⟨Or.inl rfl, h⟩, fun hn => ⟨fun _ => ⟨Or.inl rfl, h⟩, fun hn2 => ?_⟩⟩
  rcases hx with hx | hx
  · exact absurd hx hn
  · exact absurd hx hn2
/-- where the touch leads to -/
theorem ahead_val {n p : Nat} {t : Nat → Nat} (hp : p < 64) (h1 : t (n - 1) < 64) (h2 : t (n - 2) < 64) (hn : 2 ≤ n) (he : nI p - nI (t (n - 1)) = nI (t (n - 1)) - nI (t (n - 2))) (hz : ¬ nI p - nI (t (n - 1)) = 0) : (∃ q, ahead n t p = some q ∧ nI p + (nI p - nI (t (n - 1))) = nI q) ∨ (ahead n t p = none ∧ notPg (nI p + (nI p - nI (t (n - 1))))) := by
  have e1 : p + t (n - 2) = t (n - 1) + t (n - 1) := by
    have : nI p + nI (t (n - 2)) = nI (t (n - 1)) + nI (t (n - 1)) := by grind
    rw [nI_add, nI_add, nI_eq (by omega) (by omega)] at this
    exact this
  have e2 : p ≠ t (n - 1) := fun e => hz (by rw [e]; grind)
  have ex : nI p + (nI p - nI (t (n - 1))) = nI (2 * p) - nI (t (n - 1)) := by
    have : nI (2 * p) = nI p + nI p := by rw [nI_add]; congr 1; omega
    rw [this]; grind
  rw [ex]
  unfold ahead
  by_cases c : t (n - 1) ≤ 2 * p
  · rw [nI_sub c]
    by_cases c2 : 2 * p - t (n - 1) < 64
    · rw [if_pos ⟨hn, e1, e2, c, c2⟩]
      exact Or.inl ⟨_, rfl, rfl⟩
    · rw [if_neg (fun h => c2 h.2.2.2.2)]
      exact Or.inr ⟨rfl, notPg_big (by omega) (by omega)⟩
  · rw [if_neg (fun h => c h.2.2.2.1)]
    refine Or.inr ⟨rfl, Or.inl ?_⟩
    have : nI (2 * p) - nI (t (n - 1)) = - nI (t (n - 1) - 2 * p) := by rw [← nI_sub (by omega)]; grind
    rw [this]
    exact neg_lt (by omega) (by omega)
theorem ahead_no {n p : Nat} {t : Nat → Nat} (h1 : t (n - 1) < 64) (h2 : t (n - 2) < 64) (hp : p < 64) (h : n < 2 ∨ ¬ nI p - nI (t (n - 1)) = nI (t (n - 1)) - nI (t (n - 2)) ∨ nI p - nI (t (n - 1)) = 0) : ahead n t p = none := by
  unfold ahead
  rw [if_neg]
  rintro ⟨g1, g2, g3, g4, g5⟩
  rcases h with h | h | h
  · omega
  · apply h
    have : nI p + nI (t (n - 2)) = nI (t (n - 1)) + nI (t (n - 1)) := by rw [nI_add, nI_add, g2]
    grind
  · apply g3
    have : nI p = nI (t (n - 1)) := by grind
    exact (nI_eq (by omega) (by omega)).mp this
