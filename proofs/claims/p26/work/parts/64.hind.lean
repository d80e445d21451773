/-! PURE: the touches from the start, and what the policies did with them -/
def zq (m : Nat) (t : Nat → Nat) : Nat → ASt
  | 0 => z0
  | i + 1 => aStep m (t i) (zq m t i)
theorem zq_n (m : Nat) (t : Nat → Nat) : ∀ i, (zq m t i).1 = i := by
  intro i
  induction i with
  | zero => rfl
  | succ i ih => show (zq m t i).1 + 1 = i + 1; rw [ih]
theorem zq_congr {m : Nat} {t t' : Nat → Nat} : ∀ n, (∀ i, i < n → t' i = t i) → zq m t' n = zq m t n := by
  intro n
  induction n with
  | zero => intro _; rfl
  | succ n ih =>
    intro h
    show aStep m (t' n) (zq m t' n) = aStep m (t n) (zq m t n)
    rw [h n (by omega), ih (fun i hi => h i (by omega))]
def HZ (m : Nat) (z : ASt) : Prop := zq m z.2.1 z.1 = z
theorem HZ.step {m p : Nat} {z : ASt} (h : HZ m z) : HZ m (aStep m p z) := by
  show aStep m (fset z.2.1 z.1 p z.1) (zq m (fset z.2.1 z.1 p) z.1) = aStep m p z
  rw [fs_s, zq_congr (t := z.2.1) z.1 (fun i hi => fs_n (by omega)), h]
theorem HZ.run {m : Nat} {pg : Nat → Nat} {z : ASt} (h : HZ m z) : ∀ i, HZ m (aRun m pg z i) := by
  intro i
  induction i with
  | zero => exact h
  | succ i ih => exact ih.step
theorem zq_inv {m w n : Nat} {t : Nat → Nat} (h1 : 1 ≤ m) (h2 : m ≤ 16) (h3 : 1 ≤ w) (h4 : w ≤ 100) (hn : n ≤ 400) (ht : ∀ i, i < n → t i < 64) : ∀ i, i ≤ n → AInvZ m w (zq m t i) := by
  intro i
  induction i with
  | zero => exact fun _ => z0_inv h1 h2 h3 h4
  | succ i ih => exact fun hi => AInv.step (ih (by omega)) (by rw [zq_n]; omega) (ht i (by omega))
def aH (m : Nat) (t : Nat → Nat) (k i q : Nat) : Bool := hB (zq m t i).2.2.1 (zq m t i).2.2.2.1 (zq m t i).2.2.2.2.1 (zq m t i).2.2.2.2.2 k q
theorem rL_sub {m p q : Nat} {L : List Nat} (h : q ∈ rL m p L) : q ∈ L ∨ q = p := by
  unfold rL at h
  split at h
  · rcases List.mem_append.mp h with h | h
    · exact Or.inl (mem_del.mp h).1
    · exact Or.inr (List.mem_singleton.mp h)
  · split at h
    · rcases List.mem_append.mp h with h | h
      · exact Or.inl h
      · exact Or.inr (List.mem_singleton.mp h)
    · rcases List.mem_append.mp h with h | h
      · exact Or.inl (mem_del.mp h).1
      · exact Or.inr (List.mem_singleton.mp h)
theorem mv_sub {p j x i : Nat} {Ls : ALs} (hj : i ≠ j) (h : x ∈ mv p j Ls i) : x ∈ Ls i := by
  rcases mem_mv.mp h with h | h
  · exact h.1
  · exact absurd h.1 hj
theorem rep_sub {b : Bool} {aim x i : Nat} {Ls : ALs} (hi : i ≤ 2) (h : x ∈ rep b aim Ls i) : x ∈ Ls i := by
  unfold rep at h
  split at h
  · exact mv_sub (by omega) h
  · exact mv_sub (by omega) h
theorem room_sub {m aim x i : Nat} {Ls : ALs} (h1 : 1 ≤ i) (hi : i ≤ 2) (h : x ∈ room m aim Ls i) : x ∈ Ls i := by
  unfold room at h
  split at h
  · exact mv_sub (by omega) h
  · split at h
    · exact mv_sub (j := 0) (by omega) (rep_sub hi h)
    · split at h
      · split at h
        · exact mv_sub (j := 0) (by omega) (rep_sub hi h)
        · exact rep_sub hi h
      · exact h
theorem mvp_sub {p j x i : Nat} {Ls : ALs} (h : x ∈ mv p j Ls i) : x ∈ Ls i ∨ x = p := by
  rcases mem_mv.mp h with h | h
  · exact Or.inl h.1
  · exact Or.inr h.2
theorem ada_sub {m p x i : Nat} {a : AAda} (h1 : 1 ≤ i) (hi : i ≤ 2) (h : x ∈ (adaStep m p a).1 i) : x ∈ a.1 i ∨ x = p := by
  unfold adaStep at h
  split at h
  · exact mvp_sub h
  · split at h
    · exact (mvp_sub h).imp (fun h => rep_sub hi h) id
    · split at h
      · exact (mvp_sub h).imp (fun h => rep_sub hi h) id
      · exact (mvp_sub h).imp (fun h => room_sub h1 hi h) id
theorem clk_sub {m p j : Nat} {c : AClk} (h : j < (clkStep m p c).1) : (∃ i, i < c.1 ∧ c.2.1 i = (clkStep m p c).2.1 j) ∨ (clkStep m p c).2.1 j = p := by
  unfold clkStep at h ⊢
  cases hx : ixf c.2.1 p c.1 with
  | some i =>
    rw [hx] at h
    exact Or.inl ⟨j, h, rfl⟩
  | none =>
    rw [hx] at h
    simp only at h ⊢
    split at h
    · rename_i hf
      rw [if_pos hf]
      simp only at h ⊢
      by_cases e : j = c.1
      · rw [e, fs_s]; exact Or.inr rfl
      · rw [fs_n e]; exact Or.inl ⟨j, by omega, rfl⟩
    · rename_i hf
      rw [if_neg hf]
      simp only at h ⊢
      by_cases e : j = (clr m m c.2.2.1 c.2.2.2.1).2
      · rw [e, fs_s]; exact Or.inr rfl
      · rw [fs_n e]; exact Or.inl ⟨j, h, rfl⟩
theorem hB_sub {m n p k q : Nat} {t : Nat → Nat} {r : ARec} {c : AClk} {a : AAda} {s : AStr} (hk : k < 3) (h : hB (recStep m p r) (clkStep m p c) (adaStep m p a) (strStep m n t p s) k q = true) : hB r c a s k q = true ∨ q = p := by
  have hkk : k = 0 ∨ k = 1 ∨ k = 2 := by omega
  rcases hkk with rfl | rfl | rfl
  · have h2 : decide (q ∈ rL m p r.1) = true := h
    exact (rL_sub (of_decide_eq_true h2)).imp (fun hh => (decide_eq_true hh : decide (q ∈ r.1) = true)) id
  · have h2 : decide (¬ ixf (clkStep m p c).2.1 q (clkStep m p c).1 = none) = true := h
    obtain ⟨j, hj, e⟩ := ixH.mp h2
    rcases clk_sub hj with ⟨i, h3, h4⟩ | h3
    · exact Or.inl (show decide (¬ ixf c.2.1 q c.1 = none) = true from ixH.mpr ⟨i, h3, by rw [h4, e]⟩)
    · exact Or.inr (by rw [← e, h3])
  · have h2 : decide (q ∈ (adaStep m p a).1 1 ∨ q ∈ (adaStep m p a).1 2) = true := h
    rcases of_decide_eq_true h2 with h3 | h3
    · exact (ada_sub (by omega) (by omega) h3).imp (fun hh => (decide_eq_true (Or.inl hh) : decide (q ∈ a.1 1 ∨ q ∈ a.1 2) = true)) id
    · exact (ada_sub (by omega) (by omega) h3).imp (fun hh => (decide_eq_true (Or.inr hh) : decide (q ∈ a.1 1 ∨ q ∈ a.1 2) = true)) id
theorem aH_sched {m w n k : Nat} {t : Nat → Nat} (hk : k < 3) (ht : ∀ i, i < n → t i < 64) (hz : ∀ i, i ≤ n → AInvZ m w (zq m t i)) : Sched t n m (aH m t k) := by
  refine ⟨fun q _ => ?_, fun i hi => ?_, fun i hi => ?_, fun i q hi _ h => ?_⟩
  · have hkk : k = 0 ∨ k = 1 ∨ k = 2 := by omega
    rcases hkk with rfl | rfl | rfl
    · show decide (q ∈ ([] : List Nat)) = false
      exact decide_eq_false List.not_mem_nil
    · show decide (¬ (none : Option Nat) = none) = false
      exact decide_eq_false (fun h => h rfl)
    · show decide (q ∈ ([] : List Nat) ∨ q ∈ ([] : List Nat)) = false
      exact decide_eq_false (fun h => h.elim List.not_mem_nil List.not_mem_nil)
  · show cntB (hB _ _ _ _ k) 64 ≤ m
    rw [hB_cnt (hz i hi)]
    exact hN_le (hz i hi)
  · exact in_step (hz i (by omega)) (ht i hi) (by omega)
  · exact hB_sub hk h
theorem aH_F {m n k : Nat} {t : Nat → Nat} (hk : k < 4) : ∀ i, nI (fN (zq m t i).2.2.1 (zq m t i).2.2.2.1 (zq m t i).2.2.2.2.1 (zq m t i).2.2.2.2.2 k) = nI (ofF (aH m t k) t i) := by
  intro i
  induction i with
  | zero =>
    have hkk : k = 0 ∨ k = 1 ∨ k = 2 ∨ k = 3 := by omega
    rcases hkk with rfl | rfl | rfl | rfl <;> rfl
  | succ i ih =>
    have e1 := fN_step (m := m) (n := (zq m t i).1) (p := t i) (t := (zq m t i).2.1) (r := (zq m t i).2.2.1) (c := (zq m t i).2.2.2.1) (a := (zq m t i).2.2.2.2.1) (s := (zq m t i).2.2.2.2.2) hk
    rw [ih, bf_hB hk] at e1
    refine Eq.trans e1 ?_
    show nI (ofF (aH m t k) t i) + (if aH m t k i (t i) = true then 0 else 1) = nI (ofF (aH m t k) t i + (if (!aH m t k i (t i)) = true then 1 else 0))
    cases aH m t k i (t i) with
    | true => simp
    | false => simp [nI_1]
/-! any way of holding -/
theorem Sched.mono {t : Nat → Nat} {n k k' : Nat} {A : Nat → Nat → Bool} (h : Sched t n k A) (hk : k ≤ k') : Sched t n k' A := ⟨h.1, fun i hi => Nat.le_trans (h.2.1 i hi) hk, h.2.2⟩
theorem Sched.met {t : Nat → Nat} {n k : Nat} {A : Nat → Nat → Bool} (h : Sched t n k A) : ∀ i, i ≤ n → ∀ q, q < 64 → A i q = true → 0 < lst t i q := by
  intro i
  induction i with
  | zero => intro _ q hq hA; rw [h.1 q hq] at hA; exact absurd hA Bool.false_ne_true
  | succ i ih =>
    intro hi q hq hA
    rw [lst_s]
    by_cases e : t i = q
    · rw [if_pos e]; omega
    · rw [if_neg e]
      exact ih (by omega) q hq ((h.2.2.2 i q (by omega) hq hA).resolve_right (fun hh => e hh.symm))
theorem Sched.first {t : Nat → Nat} {n k : Nat} {A : Nat → Nat → Bool} (h : Sched t n k A) (ht : ∀ i, i < n → t i < 64) : ∀ i, i ≤ n → psz t i 0 ≤ ofF A t i := by
  intro i
  induction i with
  | zero => intro _; rw [psz_all (Nat.le_refl 0)]; exact Nat.zero_le _
  | succ i ih =>
    intro hi
    have h1 := ih (by omega)
    have h2 := psz_succ (t := t) (n := i) (b := 0) (Nat.zero_le _) (ht i (by omega))
    have h3 := h.met i (by omega) (t i) (ht i (by omega))
    have eF : ofF A t (i + 1) = ofF A t i + (if (!A i (t i)) = true then 1 else 0) := rfl
    cases hA : A i (t i) with
    | false => rw [hA] at eF; simp at eF; rw [h2, eF]; split <;> omega
    | true => rw [if_pos (h3 hA)] at h2; omega
theorem Sched.one {t : Nat → Nat} {n : Nat} {A : Nat → Nat → Bool} (h : Sched t n 1 A) (ht : ∀ i, i < n → t i < 64) {i q : Nat} (hi : i < n) (hq : q < 64) : A (i + 1) q = decide (q = t i) := by
  by_cases e : q = t i
  · rw [decide_eq_true e, e]; exact h.2.2.1 i hi
  · rw [decide_eq_false e]
    cases hA : A (i + 1) q with
    | false => rfl
    | true =>
      have h1 := h.2.1 (i + 1) (by omega)
      have h2 := cntB_off (P := A (i + 1)) (ht i hi)
      rw [h.2.2.1 i hi, if_pos rfl] at h2
      have h3 := cntB_off (P := fset (A (i + 1)) (t i) false) hq
      rw [fs_n e, hA, if_pos rfl] at h3
      omega
theorem sched1 {t : Nat → Nat} {n : Nat} {A B : Nat → Nat → Bool} (hA : Sched t n 1 A) (hB : Sched t n 1 B) (ht : ∀ i, i < n → t i < 64) {i : Nat} (hi : i ≤ n) : ofF A t i = ofF B t i := cntB_congr (fun j hj => by
  have hp := ht j (by omega)
  cases j with
  | zero => rw [hA.1 _ hp, hB.1 _ hp]
  | succ j => rw [hA.one ht (by omega) hp, hB.one ht (by omega) hp])
/-! the best replacement is one -/
theorem bH_cnt {t : Nat → Nat} {n k i : Nat} (hn : n ≤ 400) (hk : 1 ≤ k) (ht : ∀ i, i < n → t i < 64) (hi : i ≤ n) : cntB (bH t n k i) 64 = (bel t n k i).1 := by
  have g := bpg_GI hn hk ht i hi
  have hnd : ((List.range (bel t n k i).1).map (bpg t n k i)).Nodup := by
    unfold List.Nodup
    rw [List.pairwise_map]
    exact List.Pairwise.imp_of_mem (fun {x y} hx hy hlt he => by
      have := g.2.1 x y (List.mem_range.mp hx) (List.mem_range.mp hy) he
      omega) List.pairwise_lt_range
  rw [cntB_list (L := (List.range (bel t n k i).1).map (bpg t n k i)) 64 hnd (P := bH t n k i) (fun x => by
    rw [List.mem_map, bH_iff]
    constructor
    · rintro ⟨j, h1, rfl⟩
      exact ⟨(g.1 j (List.mem_range.mp h1)).2, j, List.mem_range.mp h1, rfl⟩
    · rintro ⟨_, j, h1, h2⟩
      exact ⟨j, List.mem_range.mpr h1, h2⟩), List.length_map, List.length_range]
theorem bH_sched {t : Nat → Nat} {n k : Nat} (hn : n ≤ 400) (hk : 1 ≤ k) (ht : ∀ i, i < n → t i < 64) : Sched t n k (bH t n k) := by
  refine ⟨fun q _ => ?_, fun i hi => ?_, fun i hi => ?_, fun i q hi _ h => ?_⟩
  · show decide (¬ (none : Option Nat) = none) = false
    exact decide_eq_false (fun h => h rfl)
  · rw [bH_cnt hn hk ht hi]; exact (bel_inv (t := t) hn hk i).1
  · rcases bel_step hn hk ht hi with ⟨b1, _, b3⟩ | ⟨_, _, b3⟩ | ⟨_, _, _, r, _, _, _, b3⟩
    · rw [b3, b1]
    · exact (b3 _).mpr (Or.inl rfl)
    · exact (b3 _).mpr (Or.inl rfl)
  · rcases bel_step hn hk ht hi with ⟨_, _, b3⟩ | ⟨_, _, b3⟩ | ⟨_, _, _, r, _, _, _, b3⟩
    · rw [b3] at h; exact Or.inl h
    · exact ((b3 q).mp h).symm
    · exact ((b3 q).mp h).symm.imp (fun h => h.1) id
theorem bH_F {t : Nat → Nat} {n k : Nat} (hn : n ≤ 400) (hk : 1 ≤ k) (ht : ∀ i, i < n → t i < 64) : ∀ i, i ≤ n → (bel t n k i).2.2 = ofF (bH t n k) t i := by
  intro i
  induction i with
  | zero => exact fun _ => rfl
  | succ i ih =>
    intro hi
    have h1 := ih (by omega)
    have eF : ofF (bH t n k) t (i + 1) = ofF (bH t n k) t i + (if (!bH t n k i (t i)) = true then 1 else 0) := rfl
    rcases bel_step hn hk ht (show i < n by omega) with ⟨b1, b2, _⟩ | ⟨b1, b2, _⟩ | ⟨b1, b2, _⟩
    · rw [eF, b1, b2, h1]; rfl
    · rw [eF, b1, b2, h1]; rfl
    · rw [eF, b1, b2, h1]; rfl
/-! least recently used, for any number of frames -/
def lH (t : Nat → Nat) (k i q : Nat) : Bool := decide (q ∈ (mr t i).take k)
theorem lH_sched {t : Nat → Nat} {n k : Nat} (hk : 1 ≤ k) (ht : ∀ i, i < n → t i < 64) : Sched t n k (lH t k) := by
  obtain ⟨j, rfl⟩ : ∃ j, k = j + 1 := ⟨k - 1, by omega⟩
  refine ⟨fun q _ => ?_, fun i hi => ?_, fun i hi => ?_, fun i q hi _ h => ?_⟩
  · exact decide_eq_false List.not_mem_nil
  · have hl : cntB (lH t (j + 1) i) 64 = ((mr t i).take (j + 1)).length := cntB_list 64 (mr_nodup.sublist (List.take_sublist _ _)) (fun x => by
      unfold lH
      rw [decide_eq_true_iff]
      exact ⟨fun h => ⟨((mem_take_mr (fun a ha => ht a (by omega))).mp h).1, h⟩, fun h => h.2⟩)
    rw [hl, List.length_take]
    exact Nat.min_le_left _ _
  · unfold lH
    rw [mr, List.take_succ_cons]
    exact decide_eq_true List.mem_cons_self
  · unfold lH at h ⊢
    rw [decide_eq_true_iff] at h ⊢
    rw [mr, List.take_succ_cons] at h
    rcases List.mem_cons.mp h with h | h
    · exact Or.inr h
    · exact Or.inl (take_del_sub mr_nodup h)
theorem lH_F {t : Nat → Nat} {n k : Nat} (hk : k ≤ 64) (ht : ∀ i, i < n → t i < 64) {i : Nat} (hi : i ≤ n) : ofF (lH t k) t i = cntB (fun j => decide (k ≤ dpt t j)) i := cntB_congr (fun j hj => by
  have hm := mem_take_mr (t := t) (n := j) (k := k) (q := t j) (fun a ha => ht a (by omega))
  unfold lH
  rw [← decide_not, decide_eq_decide, hm]
  unfold dpt
  have := ht j (by omega)
  by_cases e : lst t j (t j) = 0
  · rw [if_pos e]; omega
  · rw [if_neg e]; omega)
/-- policy 0 -/
theorem zq_lru {m w n : Nat} {t : Nat → Nat} (hz : ∀ i, i ≤ n → AInvZ m w (zq m t i)) : ∀ i, i ≤ n → (zq m t i).2.2.1.1.reverse = (mr t i).take m := by
  intro i
  induction i with
  | zero => intro _; show ([] : List Nat).reverse = ([] : List Nat).take m; simp
  | succ i ih =>
    intro hi
    obtain ⟨i1, i2, i3, i4, i5, i6, i7, _⟩ := hz i (by omega)
    exact lru_step i1 i7.1 mr_nodup (ih (by omega))
theorem aH_0 {m w n : Nat} {t : Nat → Nat} (hz : ∀ i, i ≤ n → AInvZ m w (zq m t i)) {i : Nat} (hi : i ≤ n) : ofF (aH m t 0) t i = ofF (lH t m) t i := cntB_congr (fun j hj => by
  have e : aH m t 0 j (t j) = lH t m j (t j) := by
    show decide (t j ∈ (zq m t j).2.2.1.1) = decide (t j ∈ (mr t j).take m)
    rw [← zq_lru hz j (by omega), decide_eq_decide, List.mem_reverse]
  rw [e])
