/-! PURE: policy 2, the lists -/
abbrev ALs : Type := Nat → List Nat
def mv (p j : Nat) (Ls : ALs) : ALs := fun i => if i = j then del p (Ls i) ++ [p] else del p (Ls i)
theorem mem_mv {p j i x : Nat} {Ls : ALs} : x ∈ mv p j Ls i ↔ (x ∈ Ls i ∧ x ≠ p) ∨ (i = j ∧ x = p) := by
  unfold mv
  split
  · rename_i e; rw [List.mem_append, mem_del, List.mem_singleton]; simp [e]
  · rename_i e; rw [mem_del]; simp [e]
def Bas (Ls : ALs) : Prop := (∀ i, 1 ≤ i → i ≤ 4 → (Ls i).Nodup ∧ ∀ x ∈ Ls i, x < 64) ∧ ∀ i j x, 1 ≤ i → i ≤ 4 → 1 ≤ j → j ≤ 4 → x ∈ Ls i → x ∈ Ls j → i = j
theorem Bas.mv {p j : Nat} {Ls : ALs} (h : Bas Ls) (hp : p < 64) : Bas (mv p j Ls) := by
  obtain ⟨h1, h2⟩ := h
  refine ⟨fun i hi hi2 => ⟨?_, fun x hx => ?_⟩, fun i k x hi hi2 hk hk2 hx hx2 => ?_⟩
  · unfold Pilot.CSwapmereLaw_law_r3243_de136a.mv
    split
    · exact add_nodup (del_nodup (h1 i hi hi2).1) (fun hx => (mem_del.mp hx).2 rfl)
    · exact del_nodup (h1 i hi hi2).1
  · rcases mem_mv.mp hx with h | h
    · exact (h1 i hi hi2).2 x h.1
    · rw [h.2]; exact hp
  · rcases mem_mv.mp hx with ha | ha <;> rcases mem_mv.mp hx2 with hb | hb
    · exact h2 i k x hi hi2 hk hk2 ha.1 hb.1
    · exact absurd hb.2 ha.2
    · exact absurd ha.2 hb.2
    · rw [ha.1, hb.1]
theorem mv_out {p j i : Nat} {Ls : ALs} (h : p ∉ Ls i) : (mv p j Ls i).length = (Ls i).length + (if i = j then 1 else 0) := by
  unfold mv
  split
  · rw [List.length_append, List.length_singleton, del_self h]
  · rw [del_self h]; rfl
theorem mv_in {p j i : Nat} {Ls : ALs} (hn : (Ls i).Nodup) (h : p ∈ Ls i) : (mv p j Ls i).length + 1 = (Ls i).length + (if i = j then 1 else 0) := by
  unfold mv
  have := del_len hn h
  split
  · rw [List.length_append, List.length_singleton]; omega
  · omega
abbrev from1 (b : Bool) (aim : Nat) (Ls : ALs) : Prop := 0 < (Ls 1).length ∧ (aim < (Ls 1).length ∨ ((Ls 1).length = aim ∧ b = true))
def rep (b : Bool) (aim : Nat) (Ls : ALs) : ALs := if from1 b aim Ls then mv ((Ls 1).headD 0) 3 Ls else mv ((Ls 2).headD 0) 4 Ls
theorem hd_mem {L : List Nat} (h : 0 < L.length) : L.headD 0 ∈ L := by
  cases L with
  | nil => simp at h
  | cons a t => exact List.mem_cons_self
theorem Bas.not {Ls : ALs} (h : Bas Ls) {x i j : Nat} (hi : 1 ≤ i) (hi2 : i ≤ 4) (hj : 1 ≤ j) (hj2 : j ≤ 4) (hx : x ∈ Ls i) (hne : i ≠ j) : x ∉ Ls j := fun hy => hne (h.2 i j x hi hi2 hj hj2 hx hy)
/-- lengths after p, of list i, has gone to list j -/
theorem mv_lens {Ls : ALs} (h : Bas Ls) {p i j : Nat} (hi : 1 ≤ i) (hi2 : i ≤ 4) (hp : p ∈ Ls i) : ∀ k, 1 ≤ k → k ≤ 4 → (mv p j Ls k).length + (if k = i then 1 else 0) = (Ls k).length + (if k = j then 1 else 0) := by
  intro k hk hk2
  by_cases e : k = i
  · subst e
    rw [if_pos rfl]
    exact mv_in (h.1 k hk hk2).1 hp
  · rw [if_neg e, Nat.add_zero]
    exact mv_out (h.not hi hi2 hk hk2 hp (fun h => e h.symm))
theorem mv_lens0 {Ls : ALs} {p j : Nat} (hp : ∀ i, 1 ≤ i → i ≤ 4 → p ∉ Ls i) : ∀ k, 1 ≤ k → k ≤ 4 → (mv p j Ls k).length = (Ls k).length + (if k = j then 1 else 0) := fun k hk hk2 => mv_out (hp k hk hk2)
theorem rep_spec {b : Bool} {aim : Nat} {Ls : ALs} (h : Bas Ls) (h2 : ¬ from1 b aim Ls → 0 < (Ls 2).length) : Bas (rep b aim Ls) ∧ (∀ x i, 3 ≤ i → i ≤ 4 → x ∈ Ls i → x ∈ rep b aim Ls i) ∧ (∀ x, (∀ i, 1 ≤ i → i ≤ 4 → x ∉ Ls i) → ∀ i, 1 ≤ i → i ≤ 4 → x ∉ rep b aim Ls i) ∧ (rep b aim Ls 1).length + (rep b aim Ls 3).length = (Ls 1).length + (Ls 3).length ∧ (rep b aim Ls 2).length + (rep b aim Ls 4).length = (Ls 2).length + (Ls 4).length ∧ (rep b aim Ls 1).length + (rep b aim Ls 2).length + 1 = (Ls 1).length + (Ls 2).length := by
  have aux : ∀ j p, (j = 1 ∨ j = 2) → p ∈ Ls j → Bas (mv p (j + 2) Ls) ∧ (∀ x i, 3 ≤ i → i ≤ 4 → x ∈ Ls i → x ∈ mv p (j + 2) Ls i) ∧ (∀ x, (∀ i, 1 ≤ i → i ≤ 4 → x ∉ Ls i) → ∀ i, 1 ≤ i → i ≤ 4 → x ∉ mv p (j + 2) Ls i) ∧ (mv p (j + 2) Ls 1).length + (mv p (j + 2) Ls 3).length = (Ls 1).length + (Ls 3).length ∧ (mv p (j + 2) Ls 2).length + (mv p (j + 2) Ls 4).length = (Ls 2).length + (Ls 4).length ∧ (mv p (j + 2) Ls 1).length + (mv p (j + 2) Ls 2).length + 1 = (Ls 1).length + (Ls 2).length := by
    intro j p hj hp
    have hj1 : 1 ≤ j := by omega
    have hj4 : j ≤ 4 := by omega
    have hl := mv_lens h (j := j + 2) hj1 hj4 hp
    have l1 := hl 1 (by omega) (by omega)
    have l2 := hl 2 (by omega) (by omega)
    have l3 := hl 3 (by omega) (by omega)
    have l4 := hl 4 (by omega) (by omega)
    refine ⟨h.mv ((h.1 j hj1 hj4).2 p hp), fun x i hi hi2 hx => ?_, fun x hx i hi hi2 hm => ?_, ?_, ?_, ?_⟩
    · refine mem_mv.mpr (Or.inl ⟨hx, fun e => ?_⟩)
      rw [e] at hx
      have := h.2 i j p (by omega) hi2 hj1 hj4 hx hp
      omega
    · rcases mem_mv.mp hm with h3 | h3
      · exact hx i hi hi2 h3.1
      · exact hx j hj1 hj4 (h3.2 ▸ hp)
    · rcases hj with rfl | rfl <;> simp at l1 l2 l3 l4 ⊢ <;> omega
    · rcases hj with rfl | rfl <;> simp at l1 l2 l3 l4 ⊢ <;> omega
    · rcases hj with rfl | rfl <;> simp at l1 l2 l3 l4 ⊢ <;> omega
  unfold rep
  by_cases hf : from1 b aim Ls
  · rw [if_pos hf]
    exact aux 1 _ (Or.inl rfl) (hd_mem hf.1)
  · rw [if_neg hf]
    exact aux 2 _ (Or.inr rfl) (hd_mem (h2 hf))
abbrev AAda : Type := ALs × Nat × Nat
def room (m : Nat) (aim : Nat) (Ls : ALs) : ALs :=
  if (Ls 1).length = m then mv ((Ls 1).headD 0) 0 Ls
  else if (Ls 1).length + (Ls 3).length = m then rep false aim (mv ((Ls 3).headD 0) 0 Ls)
  else if m ≤ (Ls 1).length + (Ls 2).length + (Ls 3).length + (Ls 4).length then
    (if (Ls 1).length + (Ls 2).length + (Ls 3).length + (Ls 4).length = 2 * m then rep false aim (mv ((Ls 4).headD 0) 0 Ls) else rep false aim Ls)
  else Ls
def adaStep (m p : Nat) (a : AAda) : AAda :=
  if p ∈ a.1 1 ∨ p ∈ a.1 2 then (mv p 2 a.1, a.2.1, a.2.2)
  else if p ∈ a.1 3 then (mv p 2 (rep false (min m (a.2.1 + max 1 ((a.1 4).length / (a.1 3).length))) a.1), min m (a.2.1 + max 1 ((a.1 4).length / (a.1 3).length)), a.2.2 + 1)
  else if p ∈ a.1 4 then (mv p 2 (rep true (a.2.1 - max 1 ((a.1 3).length / (a.1 4).length)) a.1), a.2.1 - max 1 ((a.1 3).length / (a.1 4).length), a.2.2 + 1)
  else (mv p 1 (room m a.2.1 a.1), a.2.1, a.2.2 + 1)
def adaFault (p : Nat) (a : AAda) : Int32 := if p ∈ a.1 1 ∨ p ∈ a.1 2 then 0 else 1
def AdaInv (m n : Nat) (a : AAda) : Prop := Bas a.1 ∧ (a.1 1).length + (a.1 2).length ≤ m ∧ (a.1 1).length + (a.1 3).length ≤ m ∧ (a.1 1).length + (a.1 2).length + (a.1 3).length + (a.1 4).length ≤ 2 * m ∧ (0 < (a.1 3).length + (a.1 4).length → (a.1 1).length + (a.1 2).length = m) ∧ a.2.1 ≤ m ∧ a.2.2 ≤ n
theorem mem_pos {L : List Nat} {p : Nat} (h : p ∈ L) : 0 < L.length := List.length_pos_of_mem h
/-- what room leaves -/
theorem room_spec {m n : Nat} {a : AAda} (h : AdaInv m n a) (hm : 1 ≤ m) {p : Nat} (hp : ∀ i, 1 ≤ i → i ≤ 4 → p ∉ a.1 i) : Bas (room m a.2.1 a.1) ∧ (∀ i, 1 ≤ i → i ≤ 4 → p ∉ room m a.2.1 a.1 i) ∧ (room m a.2.1 a.1 1).length + (room m a.2.1 a.1 2).length < m ∧ (room m a.2.1 a.1 1).length + (room m a.2.1 a.1 3).length < m ∧ (room m a.2.1 a.1 1).length + (room m a.2.1 a.1 2).length + (room m a.2.1 a.1 3).length + (room m a.2.1 a.1 4).length < 2 * m ∧ (0 < (room m a.2.1 a.1 3).length + (room m a.2.1 a.1 4).length → (room m a.2.1 a.1 1).length + (room m a.2.1 a.1 2).length + 1 = m) := by
  obtain ⟨Ls, aim, F⟩ := a
  obtain ⟨hb, h1, h2, h3, h4, h5, h6⟩ := h
  simp only at hb h1 h2 h3 h4 h5 h6 hp ⊢
  have hmem : ∀ q i, 1 ≤ i → i ≤ 4 → q ∈ Ls i → ∀ k, 1 ≤ k → k ≤ 4 → p ∉ mv q 0 Ls k := by
    intro q i hi hi2 hq k hk hk2 hx
    rcases mem_mv.mp hx with h | h
    · exact hp k hk hk2 h.1
    · omega
  have lens : ∀ q i, 1 ≤ i → i ≤ 4 → q ∈ Ls i → ∀ k, 1 ≤ k → k ≤ 4 → (mv q 0 Ls k).length + (if k = i then 1 else 0) = (Ls k).length := by
    intro q i hi hi2 hq k hk hk2
    have := mv_lens hb (j := 0) hi hi2 hq k hk hk2
    rw [if_neg (show ¬ k = 0 by omega)] at this
    exact this
  unfold room
  by_cases c1 : (Ls 1).length = m
  · rw [if_pos c1]
    have hq := hd_mem (L := Ls 1) (by omega)
    generalize (Ls 1).headD 0 = q at hq ⊢
    have l1 := lens _ 1 (by omega) (by omega) hq 1 (by omega) (by omega)
    have l2 := lens _ 1 (by omega) (by omega) hq 2 (by omega) (by omega)
    have l3 := lens _ 1 (by omega) (by omega) hq 3 (by omega) (by omega)
    have l4 := lens _ 1 (by omega) (by omega) hq 4 (by omega) (by omega)
    simp at l1 l2 l3 l4
    refine ⟨hb.mv ((hb.1 1 (by omega) (by omega)).2 _ hq), hmem _ 1 (by omega) (by omega) hq, by omega, by omega, by omega, fun h => by omega⟩
  · rw [if_neg c1]
    by_cases c2 : (Ls 1).length + (Ls 3).length = m
    · rw [if_pos c2]
      have hq := hd_mem (L := Ls 3) (by omega)
      generalize (Ls 3).headD 0 = q at hq ⊢
      have l1 := lens _ 3 (by omega) (by omega) hq 1 (by omega) (by omega)
      have l2 := lens _ 3 (by omega) (by omega) hq 2 (by omega) (by omega)
      have l3 := lens _ 3 (by omega) (by omega) hq 3 (by omega) (by omega)
      have l4 := lens _ 3 (by omega) (by omega) hq 4 (by omega) (by omega)
      simp at l1 l2 l3 l4
      have h12 := h4 (by omega)
      obtain ⟨r1, r2, r3, r4, r5, r6⟩ := rep_spec (b := false) (aim := aim) (hb.mv (p := q) (j := 0) ((hb.1 3 (by omega) (by omega)).2 _ hq)) (fun _ => by rw [l2]; omega)
      exact ⟨r1, r3 p (hmem _ 3 (by omega) (by omega) hq), by omega, by omega, by omega, fun h => by omega⟩
    · rw [if_neg c2]
      by_cases c3 : m ≤ (Ls 1).length + (Ls 2).length + (Ls 3).length + (Ls 4).length
      · rw [if_pos c3]
        by_cases c4 : (Ls 1).length + (Ls 2).length + (Ls 3).length + (Ls 4).length = 2 * m
        · rw [if_pos c4]
          have hq := hd_mem (L := Ls 4) (by omega)
          generalize (Ls 4).headD 0 = q at hq ⊢
          have l1 := lens _ 4 (by omega) (by omega) hq 1 (by omega) (by omega)
          have l2 := lens _ 4 (by omega) (by omega) hq 2 (by omega) (by omega)
          have l3 := lens _ 4 (by omega) (by omega) hq 3 (by omega) (by omega)
          have l4 := lens _ 4 (by omega) (by omega) hq 4 (by omega) (by omega)
          simp at l1 l2 l3 l4
          have h12 := h4 (by omega)
          obtain ⟨r1, r2, r3, r4, r5, r6⟩ := rep_spec (b := false) (aim := aim) (hb.mv (p := q) (j := 0) ((hb.1 4 (by omega) (by omega)).2 _ hq)) (fun _ => by rw [l2]; omega)
          exact ⟨r1, r3 p (hmem _ 4 (by omega) (by omega) hq), by omega, by omega, by omega, fun h => by omega⟩
        · rw [if_neg c4]
          have h12 : (Ls 1).length + (Ls 2).length = m := by
            by_cases e : 0 < (Ls 3).length + (Ls 4).length
            · exact h4 e
            · omega
          obtain ⟨r1, r2, r3, r4, r5, r6⟩ := rep_spec (b := false) (aim := aim) hb (fun _ => by omega)
          exact ⟨r1, r3 p hp, by omega, by omega, by omega, fun h => by omega⟩
      · rw [if_neg c3]
        refine ⟨hb, hp, by omega, by omega, by omega, fun h => ?_⟩
        have := h4 h
        omega
theorem rep_ok3 {m n : Nat} {a : AAda} (h : AdaInv m n a) {p : Nat} (hp : p ∈ a.1 3) (aim : Nat) : 0 < (a.1 2).length := by
  obtain ⟨hb, h1, h2, h3, h4, h5, h6⟩ := h
  have := mem_pos hp
  have := h4 (by omega)
  omega
theorem rep_ok4 {m n : Nat} {a : AAda} (h : AdaInv m n a) (hm : 1 ≤ m) {p : Nat} (hp : p ∈ a.1 4) {aim : Nat} (ha : aim ≤ m) : ¬ from1 true aim a.1 → 0 < (a.1 2).length := by
  obtain ⟨hb, h1, h2, h3, h4, h5, h6⟩ := h
  have := mem_pos hp
  have := h4 (by omega)
  intro hf
  have hf' : ¬ (0 < (a.1 1).length ∧ (aim < (a.1 1).length ∨ (a.1 1).length = aim)) := fun h => hf ⟨h.1, h.2.imp id (fun h => ⟨h, rfl⟩)⟩
  omega
theorem AdaInv.step {m n p : Nat} {a : AAda} (h : AdaInv m n a) (hm : 1 ≤ m) (hp : p < 64) : AdaInv m (n + 1) (adaStep m p a) := by
  have h0 := h
  obtain ⟨hb, h1, h2, h3, h4, h5, h6⟩ := h
  unfold adaStep
  by_cases c1 : p ∈ a.1 1 ∨ p ∈ a.1 2
  · rw [if_pos c1]
    rcases c1 with c1 | c1
    · have hl := mv_lens hb (j := 2) (by omega) (by omega) c1
      have l1 := hl 1 (by omega) (by omega)
      have l2 := hl 2 (by omega) (by omega)
      have l3 := hl 3 (by omega) (by omega)
      have l4 := hl 4 (by omega) (by omega)
      simp at l1 l2 l3 l4
      refine ⟨hb.mv hp, ?_, ?_, ?_, ?_, h5, ?_⟩ <;> simp only <;> omega
    · have hl := mv_lens hb (j := 2) (by omega) (by omega) c1
      have l1 := hl 1 (by omega) (by omega)
      have l2 := hl 2 (by omega) (by omega)
      have l3 := hl 3 (by omega) (by omega)
      have l4 := hl 4 (by omega) (by omega)
      simp at l1 l2 l3 l4
      refine ⟨hb.mv hp, ?_, ?_, ?_, ?_, h5, ?_⟩ <;> simp only <;> omega
  · rw [if_neg c1]
    by_cases c3 : p ∈ a.1 3
    · rw [if_pos c3]
      obtain ⟨r1, r2, r3, r4, r5, r6⟩ := rep_spec (b := false) (aim := min m (a.2.1 + max 1 ((a.1 4).length / (a.1 3).length))) hb (fun _ => rep_ok3 h0 c3 0)
      have hl := mv_lens r1 (j := 2) (by omega) (by omega) (r2 p 3 (by omega) (by omega) c3)
      have l1 := hl 1 (by omega) (by omega)
      have l2 := hl 2 (by omega) (by omega)
      have l3 := hl 3 (by omega) (by omega)
      have l4 := hl 4 (by omega) (by omega)
      have := mem_pos c3
      have := h4 (by omega)
      simp at l1 l2 l3 l4
      refine ⟨r1.mv hp, ?_, ?_, ?_, ?_, ?_, ?_⟩ <;> simp only <;> omega
    · rw [if_neg c3]
      by_cases c4 : p ∈ a.1 4
      · rw [if_pos c4]
        obtain ⟨r1, r2, r3, r4, r5, r6⟩ := rep_spec (b := true) (aim := a.2.1 - max 1 ((a.1 3).length / (a.1 4).length)) hb (rep_ok4 h0 hm c4 (by omega))
        have hl := mv_lens r1 (j := 2) (by omega) (by omega) (r2 p 4 (by omega) (by omega) c4)
        have l1 := hl 1 (by omega) (by omega)
        have l2 := hl 2 (by omega) (by omega)
        have l3 := hl 3 (by omega) (by omega)
        have l4 := hl 4 (by omega) (by omega)
        have := mem_pos c4
        have := h4 (by omega)
        simp at l1 l2 l3 l4
        refine ⟨r1.mv hp, ?_, ?_, ?_, ?_, ?_, ?_⟩ <;> simp only <;> omega
      · rw [if_neg c4]
        have hout : ∀ i, 1 ≤ i → i ≤ 4 → p ∉ a.1 i := by
          intro i hi hi2
          have : i = 1 ∨ i = 2 ∨ i = 3 ∨ i = 4 := by omega
          rcases this with rfl | rfl | rfl | rfl
          · exact fun h => c1 (Or.inl h)
          · exact fun h => c1 (Or.inr h)
          · exact c3
          · exact c4
        obtain ⟨r1, r2, r3, r4, r5, r6⟩ := room_spec h0 hm hout
        have hl := mv_lens0 (j := 1) r2
        have l1 := hl 1 (by omega) (by omega)
        have l2 := hl 2 (by omega) (by omega)
        have l3 := hl 3 (by omega) (by omega)
        have l4 := hl 4 (by omega) (by omega)
        simp at l1 l2 l3 l4
        refine ⟨r1.mv hp, ?_, ?_, ?_, ?_, h5, ?_⟩ <;> simp only <;> omega
