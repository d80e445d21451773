/-! PURE: questions of the policies -/
theorem selb {b : Bool} {A B : Prop} (h0 : b = false → A) (h1 : b = true → B) : (bI b = 0 → A) ∧ (¬ bI b = 0 → B) := by
  cases b with
  | false => exact ip rfl (h0 rfl)
  | true => exact iq (by decide) (h1 rfl)
theorem selc {b : Bool} {A B : Prop} (h0 : b = false → A) (h1 : b = true → B) : (¬ bI b = 0 → B) ∧ (bI b = 0 → A) := ⟨(selb h0 h1).2, (selb h0 h1).1⟩
theorem bI01 (b : Bool) : bI b = 0 ∨ bI b = 1 := by cases b with
  | false => exact Or.inl rfl
  | true => exact Or.inr rfl
theorem outb0 {o : Nat → Int64} : vp_updL o (0 : Int32).toNatClampNeg (0 : Int64) 0 = (bI false).toInt64 := pk_uLs.trans (by decide)
theorem outb1 {o : Nat → Int64} : vp_updL o (0 : Int32).toNatClampNeg (1 : Int64) 0 = (bI true).toInt64 := pk_uLs.trans (by decide)
theorem if_bI {p : Prop} [Decidable p] : (if p then 1 else 0 : Int32) = bI (decide p) := by by_cases h : p <;> simp [h, bI]
def hB (r : ARec) (c : AClk) (a : AAda) (s : AStr) (k q : Nat) : Bool := if k = 0 then decide (q ∈ r.1) else if k = 1 then decide (¬ ixf c.2.1 q c.1 = none) else if k = 2 then decide (q ∈ a.1 1 ∨ q ∈ a.1 2) else decide (q ∈ s.1)
def SameB (F : (Nat → Int64) → (Int32 → (Nat → Int64) → Prop) → Prop) (G : Int32 → (Int32 → Int32 → Prop) → Prop) : Prop := ∃ code b, ClQ F code (bI b) ∧ MdQ G code (bI b)
def hN (r : ARec) (c : AClk) (a : AAda) (s : AStr) (k : Nat) : Nat := if k = 0 then r.1.length else if k = 1 then c.1 else if k = 2 then (a.1 1).length + (a.1 2).length else s.1.length
theorem hB_cnt {m w n : Nat} {t : Nat → Nat} {r : ARec} {c : AClk} {a : AAda} {s : AStr} (hi : AInv m w n t r c a s) {k : Nat} : cntB (hB r c a s k) 64 = hN r c a s k := by
  obtain ⟨i1, i2, i3, i4, i5, i6, i7, i8, i9, i10⟩ := hi
  have mem : ∀ (L : List Nat), (∀ x ∈ L, x < 64) → ∀ x, x ∈ L ↔ x < 64 ∧ (fun q => decide (q ∈ L)) x = true := fun L h x => by
    simp only [decide_eq_true_eq]; exact ⟨fun hx => ⟨h x hx, hx⟩, fun hx => hx.2⟩
  unfold hN
  by_cases k0 : k = 0
  · rw [if_pos k0]
    have e : hB r c a s k = fun q => decide (q ∈ r.1) := by funext q; unfold hB; rw [if_pos k0]
    rw [e]
    exact cntB_list 64 i7.1.1 (mem _ i7.1.2.1)
  · rw [if_neg k0]
    by_cases k1 : k = 1
    · rw [if_pos k1]
      have e : hB r c a s k = fun q => decide (¬ ixf c.2.1 q c.1 = none) := by funext q; unfold hB; rw [if_neg k0, if_pos k1]
      rw [e]
      have hn : ((List.range c.1).map c.2.1).Nodup := by
        unfold List.Nodup
        rw [List.pairwise_map]
        exact List.Pairwise.imp_of_mem (fun {x y} hx hy hlt he => by
          have := i8.2.2.2.1 x y (List.mem_range.mp hx) (List.mem_range.mp hy) he
          omega) List.pairwise_lt_range
      have := cntB_list (L := (List.range c.1).map c.2.1) 64 hn (P := fun q => decide (¬ ixf c.2.1 q c.1 = none)) (fun x => by
        rw [List.mem_map]
        simp only [decide_eq_true_eq]
        constructor
        · rintro ⟨i, hi, rfl⟩
          have hi := List.mem_range.mp hi
          exact ⟨i8.2.2.1 i hi, fun hh => ixf_none.mp hh i hi rfl⟩
        · rintro ⟨h1, h2⟩
          cases hx : ixf c.2.1 x c.1 with
          | none => exact absurd hx h2
          | some i => exact ⟨i, List.mem_range.mpr (ixf_some hx).1, (ixf_some hx).2⟩)
      rw [this, List.length_map, List.length_range]
    · rw [if_neg k1]
      by_cases k2 : k = 2
      · rw [if_pos k2]
        have e : hB r c a s k = fun q => decide (q ∈ a.1 1 ∨ q ∈ a.1 2) := by funext q; unfold hB; rw [if_neg k0, if_neg k1, if_pos k2]
        rw [e]
        have b1 := i9.1.1 1 (by omega) (by omega)
        have b2 := i9.1.1 2 (by omega) (by omega)
        have := cntB_list (L := a.1 1 ++ a.1 2) 64 (by
          rw [List.nodup_append]
          refine ⟨b1.1, b2.1, fun x hx y hy e => ?_⟩
          rw [← e] at hy
          have := i9.1.2 1 2 x (by omega) (by omega) (by omega) (by omega) hx hy
          omega) (P := fun q => decide (q ∈ a.1 1 ∨ q ∈ a.1 2)) (fun x => by
          rw [List.mem_append]
          simp only [decide_eq_true_eq]
          exact ⟨fun hx => ⟨hx.elim (b1.2 x) (b2.2 x), hx⟩, fun hx => hx.2⟩)
        rw [this, List.length_append]
      · rw [if_neg k2]
        have e : hB r c a s k = fun q => decide (q ∈ s.1) := by funext q; unfold hB; rw [if_neg k0, if_neg k1, if_neg k2]
        rw [e]
        exact cntB_list 64 i10.1.1 (mem _ i10.1.2.1)
