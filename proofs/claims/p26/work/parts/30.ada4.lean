/-! PURE: policy 2 of the reference -/
def AS (ls ss : Nat → Int32) (Ls : ALs) (b : Nat) : Prop := ∃ ℓ T : Nat → Nat, (∀ p, p < 64 → ls p = nI (ℓ p) ∧ ℓ p ≤ 4 ∧ ss p = nI (T p) ∧ T p ≤ b) ∧ ∀ i, 1 ≤ i → i ≤ 4 → (∀ x, x ∈ Ls i ↔ x < 64 ∧ ℓ x = i) ∧ (Ls i).Pairwise (fun x y => T x < T y)
theorem AS.mono {ls ss : Nat → Int32} {Ls : ALs} {b b' : Nat} (h : AS ls ss Ls b) (hb : b ≤ b') : AS ls ss Ls b' := by
  obtain ⟨ℓ, T, h1, h2⟩ := h
  exact ⟨ℓ, T, fun p hp => ⟨(h1 p hp).1, (h1 p hp).2.1, (h1 p hp).2.2.1, Nat.le_trans (h1 p hp).2.2.2 hb⟩, h2⟩
theorem AS.put {ls ss : Nat → Int32} {Ls : ALs} {b : Nat} (h : AS ls ss Ls b) {p j s : Nat} (hp : p < 64) (hj : j ≤ 4) (hs : b < s) : AS (upd ls p (nI j)) (upd ss p (nI s)) (mv p j Ls) s := by
  obtain ⟨ℓ, T, h1, h2⟩ := h
  refine ⟨fset ℓ p j, fset T p s, fun q hq => ?_, fun i hi hi2 => ⟨fun x => ?_, ?_⟩⟩
  · by_cases e : q = p
    · rw [e, pk_us, pk_us, fs_s, fs_s]; exact ⟨rfl, hj, rfl, Nat.le_refl _⟩
    · rw [pk_un e, pk_un e, fs_n e, fs_n e]
      have := h1 q hq
      exact ⟨this.1, this.2.1, this.2.2.1, by omega⟩
  · rw [mem_mv, (h2 i hi hi2).1]
    by_cases e : x = p
    · rw [e, fs_s]; omega
    · rw [fs_n e]; omega
  · have hd := (pw_del (p := p) (h2 i hi hi2).2).imp_of_mem (S := fun x y => fset T p s x < fset T p s y) (fun {x y} hx hy hlt => by rw [fs_n (mem_del.mp hx).2, fs_n (mem_del.mp hy).2]; exact hlt)
    unfold mv
    split
    · rw [List.pairwise_append]
      refine ⟨hd, List.pairwise_singleton _ _, fun x hx y hy => ?_⟩
      rw [List.mem_singleton.mp hy, fs_s, fs_n (mem_del.mp hx).2]
      have := ((h2 i hi hi2).1 x).mp (mem_del.mp hx).1
      have := (h1 x this.1).2.2.2
      omega
    · exact hd
theorem AS.forget {ls ss : Nat → Int32} {Ls : ALs} {b : Nat} (h : AS ls ss Ls b) {p : Nat} (hp : p < 64) : AS (upd ls p 0) ss (mv p 0 Ls) b := by
  obtain ⟨ℓ, T, h1, h2⟩ := h
  refine ⟨fset ℓ p 0, T, fun q hq => ?_, fun i hi hi2 => ⟨fun x => ?_, ?_⟩⟩
  · have := h1 q hq
    by_cases e : q = p
    · rw [e, pk_us, fs_s]; rw [e] at this; exact ⟨rfl, by omega, this.2.2⟩
    · rw [pk_un e, fs_n e]; exact this
  · rw [mem_mv, (h2 i hi hi2).1]
    by_cases e : x = p
    · rw [e, fs_s]; omega
    · rw [fs_n e]; omega
  · rw [mv_del (by omega)]
    exact pw_del (h2 i hi hi2).2
theorem AS.inIff {ls ss : Nat → Int32} {Ls : ALs} {b : Nat} (h : AS ls ss Ls b) {p i : Nat} (hp : p < 64) (hi : 1 ≤ i) (hi2 : i ≤ 4) : ls p = nI i ↔ p ∈ Ls i := by
  obtain ⟨ℓ, T, h1, h2⟩ := h
  have := h1 p hp
  rw [this.1, nI_eq (by omega) (by omega), (h2 i hi hi2).1]
  omega
theorem AS.zIff {ls ss : Nat → Int32} {Ls : ALs} {b : Nat} (h : AS ls ss Ls b) {p : Nat} (hp : p < 64) : ls p = 0 ↔ ∀ i, 1 ≤ i → i ≤ 4 → p ∉ Ls i := by
  obtain ⟨ℓ, T, h1, h2⟩ := h
  have := h1 p hp
  rw [this.1, nI_z (by omega)]
  refine ⟨fun h i hi hi2 hm => ?_, fun h => ?_⟩
  · have := ((h2 i hi hi2).1 p).mp hm; omega
  · by_cases e : ℓ p = 0
    · exact e
    · exact absurd (((h2 (ℓ p) (by omega) (by omega)).1 p).mpr ⟨hp, rfl⟩) (h (ℓ p) (by omega) (by omega))
