/-! PURE: the best replacement, the reference -/
def GI (t : Nat → Nat) (n k u : Nat) (V pg : Nat → Nat) (H : Nat → Bool) : Prop := (∀ i, i < u → V i = nx t n (pg i) k ∧ pg i < 64) ∧ Inj pg u ∧ ∀ p, H p = true ↔ ∃ i, i < u ∧ pg i = p
theorem nx_else {t : Nat → Nat} {n q k : Nat} (hk : k < n) (h : q ≠ t k) : nx t n q k = nx t n q (k + 1) := by rw [nx_step hk, if_neg (fun e => h e.symm)]
theorem GI.hit {t : Nat → Nat} {n k u f : Nat} {V pg : Nat → Nat} {H : Nat → Bool} (h : GI t n k u V pg H) (hn : n ≤ 400) (hk : k < n) (hf : fwt V k u 0 = some f) : H (t k) = true ∧ GI t n (k + 1) u (fset V f (nx t n (t k) (k + 1))) pg H := by
  obtain ⟨h1, h2, h3⟩ := h
  obtain ⟨_, f1, f2⟩ := fwt_some hf
  have e : pg f = t k := by
    have := (h1 f (by omega)).1
    rw [f2] at this
    exact ((nx_here hn hk).mp this.symm).symm
  refine ⟨(h3 _).mpr ⟨f, by omega, e⟩, fun i hi => ⟨?_, (h1 i hi).2⟩, h2, h3⟩
  by_cases c : i = f
  · rw [c, fs_s, e]
  · rw [fs_n c, (h1 i hi).1]
    refine nx_else hk (fun hh => c (h2 i f hi (by omega) (by rw [hh, e])))
theorem GI.nohit {t : Nat → Nat} {n k u : Nat} {V pg : Nat → Nat} {H : Nat → Bool} (h : GI t n k u V pg H) (hn : n ≤ 400) (hk : k < n) (hf : fwt V k u 0 = none) : ∀ i, i < u → pg i ≠ t k := by
  obtain ⟨h1, h2, h3⟩ := h
  intro i hi e
  refine fwt_none hf i (Nat.zero_le _) (by omega) ?_
  rw [(h1 i hi).1, e]
  exact (nx_here hn hk).mpr rfl
theorem GI.new {t : Nat → Nat} {n k u : Nat} {V pg : Nat → Nat} {H : Nat → Bool} (h : GI t n k u V pg H) (hn : n ≤ 400) (hk : k < n) (ht : t k < 64) (hf : fwt V k u 0 = none) : GI t n (k + 1) (u + 1) (fset V u (nx t n (t k) (k + 1))) (fset pg u (t k)) (fset H (t k) true) := by
  have hne := h.nohit hn hk hf
  obtain ⟨h1, h2, h3⟩ := h
  refine ⟨fun i hi => ?_, fun i j hi hj he => ?_, fun p => ?_⟩
  · by_cases c : i = u
    · rw [c, fs_s, fs_s]; exact ⟨rfl, ht⟩
    · rw [fs_n c, fs_n c, (h1 i (by omega)).1]
      exact ⟨nx_else hk (hne i (by omega)), (h1 i (by omega)).2⟩
  · by_cases ci : i = u
    · by_cases cj : j = u
      · omega
      · rw [ci, fs_s, fs_n cj] at he
        exact absurd he.symm (hne j (by omega))
    · by_cases cj : j = u
      · rw [cj, fs_s, fs_n ci] at he
        exact absurd he (hne i (by omega))
      · rw [fs_n ci, fs_n cj] at he
        exact h2 i j (by omega) (by omega) he
  · by_cases c : p = t k
    · rw [c, fs_s]
      exact ⟨fun _ => ⟨u, by omega, fs_s⟩, fun _ => rfl⟩
    · rw [fs_n c, h3]
      refine ⟨fun ⟨i, h4, h5⟩ => ⟨i, by omega, by rw [fs_n (by omega)]; exact h5⟩, fun ⟨i, h4, h5⟩ => ?_⟩
      by_cases ci : i = u
      · rw [ci, fs_s] at h5; exact absurd h5.symm c
      · rw [fs_n ci] at h5; exact ⟨i, by omega, h5⟩
theorem GI.full {t : Nat → Nat} {n k u f r : Nat} {V pg : Nat → Nat} {H : Nat → Bool} (h : GI t n k u V pg H) (hn : n ≤ 400) (hk : k < n) (ht : t k < 64) (hf : fwt V k u 0 = none) (hfu : f < u) (hmax : ∀ j, j < u → V j ≤ V f) (hr : H r = true) (hrm : ∀ q, q < 64 → H q = true → nx t n q k ≤ nx t n r k) : GI t n (k + 1) u (fset V f (nx t n (t k) (k + 1))) (fun i => if i = f then t k else if pg i = r then pg f else pg i) (fset (fset H r false) (t k) true) := by
  have hne := h.nohit hn hk hf
  obtain ⟨h1, h2, h3⟩ := h
  obtain ⟨f', hf', er⟩ := (h3 r).mp hr
  have hgm : nx t n (pg f) k = nx t n r k := by
    have a1 := hrm (pg f) (h1 f hfu).2 ((h3 _).mpr ⟨f, hfu, rfl⟩)
    have a2 := hmax f' hf'
    rw [(h1 f' hf').1, (h1 f hfu).1, er] at a2
    omega
  refine ⟨fun i hi => ?_, fun i j hi hj he => ?_, fun p => ?_⟩
  · simp only
    by_cases c : i = f
    · rw [c, fs_s, if_pos rfl]; exact ⟨rfl, ht⟩
    · rw [fs_n c, if_neg c, (h1 i hi).1]
      by_cases c2 : pg i = r
      · rw [if_pos c2, c2, ← hgm]
        exact ⟨nx_else hk (hne f hfu), (h1 f hfu).2⟩
      · rw [if_neg c2]
        exact ⟨nx_else hk (hne i hi), (h1 i hi).2⟩
  · simp only at he
    have no : ∀ i, i < u → (if pg i = r then pg f else pg i) ≠ t k := fun i hi => by
      split
      · exact hne f hfu
      · exact hne i hi
    by_cases ci : i = f
    · by_cases cj : j = f
      · omega
      · rw [if_pos ci, if_neg cj] at he
        exact absurd he.symm (no j hj)
    · by_cases cj : j = f
      · rw [if_neg ci, if_pos cj] at he
        exact absurd he (no i hi)
      · rw [if_neg ci, if_neg cj] at he
        by_cases di : pg i = r
        · by_cases dj : pg j = r
          · exact h2 i j hi hj (by rw [di, dj])
          · rw [if_pos di, if_neg dj] at he
            exact absurd (h2 f j hfu hj he).symm cj
        · by_cases dj : pg j = r
          · rw [if_neg di, if_pos dj] at he
            exact absurd (h2 i f hi hfu he) ci
          · rw [if_neg di, if_neg dj] at he
            exact h2 i j hi hj he
  · simp only
    by_cases c : p = t k
    · rw [c, fs_s]
      exact ⟨fun _ => ⟨f, hfu, if_pos rfl⟩, fun _ => rfl⟩
    · rw [fs_n c]
      constructor
      · intro hp
        by_cases d : p = r
        · rw [d, fs_s] at hp; exact absurd hp (by decide)
        · rw [fs_n d] at hp
          obtain ⟨i, hi, e⟩ := (h3 p).mp hp
          by_cases ci : i = f
          · refine ⟨f', hf', ?_⟩
            have : f' ≠ f := fun hh => d (by rw [← e, ci, ← hh, er])
            rw [if_neg this, if_pos er, ← e, ci]
          · exact ⟨i, hi, by rw [if_neg ci, if_neg (by rw [e]; exact d)]; exact e⟩
      · rintro ⟨i, hi, e⟩
        by_cases ci : i = f
        · rw [if_pos ci] at e; exact absurd e.symm c
        · rw [if_neg ci] at e
          by_cases di : pg i = r
          · rw [if_pos di] at e
            have : p ≠ r := fun hh => ci (h2 i f hi hfu (by rw [di, e, hh]))
            rw [fs_n this]
            exact (h3 p).mpr ⟨f, hfu, e⟩
          · rw [if_neg di] at e
            rw [fs_n (by rw [← e]; exact di)]
            exact (h3 p).mpr ⟨i, hi, e⟩
theorem nx_min {t : Nat → Nat} {n p q k : Nat} (hn : n ≤ 400) : nI (min n (nx t n p k)) ≤ nI (min n (nx t n q k)) ↔ nx t n p k ≤ nx t n q k := by
  have a1 := nx_cases (t := t) (n := n) (p := p) (k := k) rfl
  have a2 := nx_cases (t := t) (n := n) (p := q) (k := k) rfl
  rw [nI_leI (by omega) (by omega)]
  omega
