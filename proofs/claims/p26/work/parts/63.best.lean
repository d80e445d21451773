/-! PURE: the best replacement is the best -/
def bpg (t : Nat → Nat) (n m : Nat) : Nat → Nat → Nat
  | 0 => fun _ => 0
  | i + 1 => match fwt (bel t n m i).2.1 i (bel t n m i).1 0 with
    | some _ => bpg t n m i
    | none => if (bel t n m i).1 < m then fset (bpg t n m i) (bel t n m i).1 (t i) else fset (bpg t n m i) (far (bel t n m i).2.1 ((bel t n m i).1 - 1) 1 0) (t i)
def bH (t : Nat → Nat) (n m i q : Nat) : Bool := decide (¬ ixf (bpg t n m i) q (bel t n m i).1 = none)
theorem ixH {pg : Nat → Nat} {q u : Nat} : decide (¬ ixf pg q u = none) = true ↔ ∃ j, j < u ∧ pg j = q := by
  rw [decide_eq_true_iff, ixf_none]
  constructor
  · intro h
    exact Classical.byContradiction (fun hn => h (fun i hi e => hn ⟨i, hi, e⟩))
  · rintro ⟨j, h1, h2⟩ h
    exact h j h1 h2
theorem bH_iff {t : Nat → Nat} {n m i q : Nat} : bH t n m i q = true ↔ ∃ j, j < (bel t n m i).1 ∧ bpg t n m i j = q := ixH
theorem bpg_GI {t : Nat → Nat} {n m : Nat} (hn : n ≤ 400) (hm : 1 ≤ m) (ht : ∀ i, i < n → t i < 64) : ∀ i, i ≤ n → GI t n i (bel t n m i).1 (bel t n m i).2.1 (bpg t n m i) (bH t n m i) := by
  intro i
  induction i with
  | zero => exact fun _ => ⟨fun j h => absurd h (Nat.not_lt_zero j), fun j _ h => absurd h (Nat.not_lt_zero j), fun p => bH_iff⟩
  | succ i ih =>
    intro hi
    have g := ih (by omega)
    have inv := bel_inv (t := t) hn hm i
    have e : bel t n m (i + 1) = bst m i (nx t n (t i) (i + 1)) (bel t n m i) := rfl
    cases hf : fwt (bel t n m i).2.1 i (bel t n m i).1 0 with
    | some f =>
      have g2 := (g.hit hn (by omega) hf).2
      have ep : bpg t n m (i + 1) = bpg t n m i := by rw [bpg, hf]
      refine ⟨?_, ?_, fun p => bH_iff⟩
      · rw [e, ep]; unfold bst; rw [hf]; exact g2.1
      · rw [e, ep]; unfold bst; rw [hf]; exact g2.2.1
    | none =>
      by_cases c : (bel t n m i).1 < m
      · have g2 := g.new hn (by omega) (ht i (by omega)) hf
        have ep : bpg t n m (i + 1) = fset (bpg t n m i) (bel t n m i).1 (t i) := by rw [bpg, hf]; exact if_pos c
        refine ⟨?_, ?_, fun p => bH_iff⟩
        · rw [e, ep]; unfold bst; rw [hf]; simp only; rw [if_pos c]; exact g2.1
        · rw [e, ep]; unfold bst; rw [hf]; simp only; rw [if_pos c]; exact g2.2.1
      · have hu : 1 ≤ (bel t n m i).1 := by omega
        have fs := far_spec (V := (bel t n m i).2.1) (d := (bel t n m i).1 - 1) (i := 1) (b := 0) (by omega) (fun j hj => by rw [show j = 0 by omega]; exact Nat.le_refl _)
        have hfu : far (bel t n m i).2.1 ((bel t n m i).1 - 1) 1 0 < (bel t n m i).1 := by have := fs.1; omega
        have hmax : ∀ j, j < (bel t n m i).1 → (bel t n m i).2.1 j ≤ (bel t n m i).2.1 (far (bel t n m i).2.1 ((bel t n m i).1 - 1) 1 0) := fun j hj => fs.2 j (by omega)
        obtain ⟨f, ef⟩ : ∃ f, f = far (bel t n m i).2.1 ((bel t n m i).1 - 1) 1 0 := ⟨_, rfl⟩
        rw [← ef] at hfu hmax
        have g2 := g.full (f := f) (r := bpg t n m i f) hn (by omega) (ht i (by omega)) hf hfu hmax (bH_iff.mpr ⟨f, hfu, rfl⟩) (fun q _ hq => by
          obtain ⟨j, h1, h2⟩ := bH_iff.mp hq
          have := hmax j h1
          rw [(g.1 j h1).1, (g.1 f hfu).1, h2] at this
          exact this)
        have efun : (fun j => if j = f then t i else if bpg t n m i j = bpg t n m i f then bpg t n m i f else bpg t n m i j) = fset (bpg t n m i) f (t i) := by
          funext j
          unfold fset
          by_cases c1 : j = f
          · rw [if_pos c1, if_pos c1]
          · rw [if_neg c1, if_neg c1]
            by_cases c2 : bpg t n m i j = bpg t n m i f
            · rw [if_pos c2, c2]
            · rw [if_neg c2]
        rw [efun] at g2
        have ep : bpg t n m (i + 1) = fset (bpg t n m i) f (t i) := by rw [bpg, hf, ef]; exact if_neg c
        refine ⟨?_, ?_, fun p => bH_iff⟩
        · rw [e, ep]; unfold bst; rw [hf]; simp only; rw [if_neg c, ← ef]; exact g2.1
        · rw [e, ep]; unfold bst; rw [hf]; simp only; rw [if_neg c]; exact g2.2.1
/-- a touch, as the best replacement sees it -/
theorem bel_step {t : Nat → Nat} {n m i : Nat} (hn : n ≤ 400) (hm : 1 ≤ m) (ht : ∀ i, i < n → t i < 64) (hi : i < n) :
    (bH t n m i (t i) = true ∧ (bel t n m (i + 1)).2.2 = (bel t n m i).2.2 ∧ ∀ q, bH t n m (i + 1) q = bH t n m i q) ∨
    (bH t n m i (t i) = false ∧ (bel t n m (i + 1)).2.2 = (bel t n m i).2.2 + 1 ∧ ∀ q, bH t n m (i + 1) q = true ↔ q = t i ∨ bH t n m i q = true) ∨
    (bH t n m i (t i) = false ∧ (bel t n m (i + 1)).2.2 = (bel t n m i).2.2 + 1 ∧ cntB (bH t n m i) 64 = m ∧ ∃ r, r < 64 ∧ bH t n m i r = true ∧ (∀ q, bH t n m i q = true → nx t n q i ≤ nx t n r i) ∧ ∀ q, bH t n m (i + 1) q = true ↔ q = t i ∨ (bH t n m i q = true ∧ q ≠ r)) := by
  have g := bpg_GI hn hm ht i (by omega)
  have inv := bel_inv (t := t) hn hm i
  have e : bel t n m (i + 1) = bst m i (nx t n (t i) (i + 1)) (bel t n m i) := rfl
  cases hf : fwt (bel t n m i).2.1 i (bel t n m i).1 0 with
  | some f =>
    have ep : bpg t n m (i + 1) = bpg t n m i := by rw [bpg, hf]
    have eb : (bel t n m (i + 1)).1 = (bel t n m i).1 ∧ (bel t n m (i + 1)).2.2 = (bel t n m i).2.2 := by rw [e]; unfold bst; rw [hf]; exact ⟨rfl, rfl⟩
    refine Or.inl ⟨(g.hit hn hi hf).1, eb.2, fun q => ?_⟩
    unfold bH
    rw [ep, eb.1]
  | none =>
    have hp := g.nohit hn hi hf
    have hpf : bH t n m i (t i) = false := by
      cases hb : bH t n m i (t i) with
      | false => rfl
      | true =>
        obtain ⟨j, h1, h2⟩ := bH_iff.mp hb
        exact absurd h2 (hp j h1)
    by_cases c : (bel t n m i).1 < m
    · have ep : bpg t n m (i + 1) = fset (bpg t n m i) (bel t n m i).1 (t i) := by rw [bpg, hf]; exact if_pos c
      have eb : (bel t n m (i + 1)).1 = (bel t n m i).1 + 1 ∧ (bel t n m (i + 1)).2.2 = (bel t n m i).2.2 + 1 := by rw [e]; unfold bst; rw [hf]; simp only; rw [if_pos c]; exact ⟨rfl, rfl⟩
      refine Or.inr (Or.inl ⟨hpf, eb.2, fun q => ?_⟩)
      rw [bH_iff, bH_iff, ep, eb.1]
      constructor
      · rintro ⟨j, h1, h2⟩
        by_cases cj : j = (bel t n m i).1
        · rw [cj, fs_s] at h2; exact Or.inl h2.symm
        · rw [fs_n cj] at h2; exact Or.inr ⟨j, by omega, h2⟩
      · rintro (h | ⟨j, h1, h2⟩)
        · exact ⟨(bel t n m i).1, by omega, by rw [fs_s]; exact h.symm⟩
        · exact ⟨j, by omega, by rw [fs_n (by omega)]; exact h2⟩
    · have hu : (bel t n m i).1 = m := by omega
      have fs := far_spec (V := (bel t n m i).2.1) (d := (bel t n m i).1 - 1) (i := 1) (b := 0) (by omega) (fun j hj => by rw [show j = 0 by omega]; exact Nat.le_refl _)
      obtain ⟨f, ef⟩ : ∃ f, f = far (bel t n m i).2.1 ((bel t n m i).1 - 1) 1 0 := ⟨_, rfl⟩
      rw [← ef] at fs
      have hfu : f < (bel t n m i).1 := by have := fs.1; omega
      have ep : bpg t n m (i + 1) = fset (bpg t n m i) f (t i) := by rw [bpg, hf, ef]; exact if_neg c
      have eb : (bel t n m (i + 1)).1 = (bel t n m i).1 ∧ (bel t n m (i + 1)).2.2 = (bel t n m i).2.2 + 1 := by rw [e]; unfold bst; rw [hf]; simp only; rw [if_neg c]; exact ⟨rfl, rfl⟩
      refine Or.inr (Or.inr ⟨hpf, eb.2, ?_, bpg t n m i f, (g.1 f hfu).2, bH_iff.mpr ⟨f, hfu, rfl⟩, fun q hq => ?_, fun q => ?_⟩)
      · have hnd : ((List.range (bel t n m i).1).map (bpg t n m i)).Nodup := by
          unfold List.Nodup
          rw [List.pairwise_map]
          exact List.Pairwise.imp_of_mem (fun {x y} hx hy hlt he => by
            have := g.2.1 x y (List.mem_range.mp hx) (List.mem_range.mp hy) he
            omega) List.pairwise_lt_range
        rw [cntB_list (L := (List.range (bel t n m i).1).map (bpg t n m i)) 64 hnd (P := bH t n m i) (fun x => by
          rw [List.mem_map, bH_iff]
          constructor
          · rintro ⟨j, h1, rfl⟩
            exact ⟨(g.1 j (List.mem_range.mp h1)).2, j, List.mem_range.mp h1, rfl⟩
          · rintro ⟨_, j, h1, h2⟩
            exact ⟨j, List.mem_range.mpr h1, h2⟩), List.length_map, List.length_range]
        exact hu
      · obtain ⟨j, h1, h2⟩ := bH_iff.mp hq
        have := fs.2 j (by omega)
        rw [(g.1 j h1).1, (g.1 f hfu).1, h2] at this
        exact this
      · rw [bH_iff, bH_iff, ep, eb.1]
        constructor
        · rintro ⟨j, h1, h2⟩
          by_cases cj : j = f
          · rw [cj, fs_s] at h2; exact Or.inl h2.symm
          · rw [fs_n cj] at h2
            exact Or.inr ⟨⟨j, h1, h2⟩, fun hh => cj (g.2.1 j f h1 hfu (by rw [h2, hh]))⟩
        · rintro (h | ⟨⟨j, h1, h2⟩, h3⟩)
          · exact ⟨f, hfu, by rw [fs_s]; exact h.symm⟩
          · exact ⟨j, h1, by rw [fs_n (fun hh => h3 (by rw [← h2, hh]))]; exact h2⟩
/-- a way of holding pages that waits for touches: what is held ahead of touch i, at most k pages -/
def Sched (t : Nat → Nat) (n k : Nat) (A : Nat → Nat → Bool) : Prop := (∀ q, q < 64 → A 0 q = false) ∧ (∀ i, i ≤ n → cntB (A i) 64 ≤ k) ∧ (∀ i, i < n → A (i + 1) (t i) = true) ∧ ∀ i q, i < n → q < 64 → A (i + 1) q = true → A i q = true ∨ q = t i
def ofF (A : Nat → Nat → Bool) (t : Nat → Nat) (i : Nat) : Nat := cntB (fun j => !A j (t j)) i
def nxB (t : Nat → Nat) (n : Nat) (S : Nat → Bool) (i τ q : Nat) : Bool := S q && decide (nx t n q i ≤ τ)
theorem nx_ge {t : Nat → Nat} {n q i : Nat} (hn : n ≤ 400) (hi : i ≤ n) : i ≤ nx t n q i := by
  rcases nx_cases (t := t) (n := n) (p := q) (k := i) rfl with h | h <;> omega
theorem nx_same_i {t : Nat → Nat} {n q i : Nat} (hn : n ≤ 400) (hi : i < n) (h : nx t n q i ≤ i) : q = t i := by
  have := nx_ge (t := t) (q := q) hn (Nat.le_of_lt hi)
  exact ((nx_here hn hi).mp (by omega)).symm
theorem bel_best {t : Nat → Nat} {n k : Nat} {A : Nat → Nat → Bool} (hn : n ≤ 400) (hk : 1 ≤ k) (ht : ∀ i, i < n → t i < 64) (hA : Sched t n k A) : ∀ i, i ≤ n → (bel t n k i).2.2 ≤ ofF A t i ∧ ∀ τ, cntB (nxB t n (A i) i τ) 64 + (bel t n k i).2.2 ≤ cntB (nxB t n (bH t n k i) i τ) 64 + ofF A t i := by
  intro i
  induction i with
  | zero =>
    intro _
    refine ⟨Nat.le_refl _, fun τ => ?_⟩
    rw [cntB_zero (P := nxB t n (A 0) 0 τ) (fun q hq => by unfold nxB; rw [hA.1 q hq]; rfl)]
    show 0 + 0 ≤ _
    omega
  | succ i ih =>
    intro hi
    obtain ⟨h1, h2⟩ := ih (by omega)
    obtain ⟨_, a2, a3, a4⟩ := hA
    have hp : t i < 64 := ht i (by omega)
    have eF : ofF A t (i + 1) = ofF A t i + (if (!A i (t i)) = true then 1 else 0) := rfl
    have eA := cntB_off (P := nxB t n (A i) i i) hp
    -- at tau = i only the page itself counts
    have atI : ∀ S : Nat → Bool, S (t i) = false → cntB (nxB t n S i i) 64 = 0 := fun S hS => cntB_zero (fun q _ => by
      unfold nxB
      by_cases c : nx t n q i ≤ i
      · rw [nx_same_i hn (by omega) c, hS]; rfl
      · rw [decide_eq_false c]; exact Bool.and_false _)
    have here : nx t n (t i) i = i := (nx_here hn (by omega)).mpr rfl
    have le2 : bH t n k i (t i) = false → (bel t n k i).2.2 + 1 ≤ ofF A t (i + 1) := fun hb => by
      rw [eF]
      cases hAp : A i (t i) with
      | false => simp only [Bool.not_false, if_true]; omega
      | true =>
        have h3 := h2 i
        rw [atI _ hb] at h3
        have h4 : 0 < cntB (nxB t n (A i) i i) 64 := by
          have e1 : nxB t n (A i) i i (t i) = true := by unfold nxB; rw [hAp, here, decide_eq_true (Nat.le_refl i)]; rfl
          rw [← eA, if_pos e1]; omega
        have e0 : (if (!true) = true then 1 else 0) = 0 := rfl
        omega
    -- behind the touch, away from the page
    have offA : ∀ τ, cntB (fset (nxB t n (A (i + 1)) (i + 1) τ) (t i) false) 64 ≤ cntB (fset (nxB t n (A i) i τ) (t i) false) 64 := fun τ => cntB_mono (fun q hq h => by
      by_cases c : q = t i
      · rw [c, fs_s] at h; exact absurd h Bool.false_ne_true
      · rw [fs_n c] at h ⊢
        unfold nxB at h ⊢
        rw [Bool.and_eq_true] at h ⊢
        refine ⟨(a4 i q (by omega) hq h.1).resolve_right c, ?_⟩
        rw [nx_else (by omega) c]; exact h.2)
    have at1 : ∀ τ, cntB (nxB t n (A (i + 1)) (i + 1) τ) 64 = cntB (fset (nxB t n (A (i + 1)) (i + 1) τ) (t i) false) 64 + (if nx t n (t i) (i + 1) ≤ τ then 1 else 0) := fun τ => by
      rw [← cntB_off (P := nxB t n (A (i + 1)) (i + 1) τ) hp]
      unfold nxB
      rw [a3 i (by omega)]
      simp
    have at0 : ∀ τ, i ≤ τ → ∀ S : Nat → Bool, cntB (nxB t n S i τ) 64 = cntB (fset (nxB t n S i τ) (t i) false) 64 + (if S (t i) = true then 1 else 0) := fun τ hτ S => by
      rw [← cntB_off (P := nxB t n S i τ) hp]
      have : nxB t n S i τ (t i) = S (t i) := by unfold nxB; rw [here, decide_eq_true hτ]; exact Bool.and_true _
      rw [this]
    have low : ∀ τ, ¬ i ≤ τ → cntB (nxB t n (A (i + 1)) (i + 1) τ) 64 = 0 := fun τ hτ => cntB_zero (fun q _ => by
      unfold nxB
      have := nx_ge (t := t) (q := q) hn hi
      rw [decide_eq_false (by omega)]; exact Bool.and_false _)
    have atH : ∀ τ, bH t n k (i + 1) (t i) = true → cntB (nxB t n (bH t n k (i + 1)) (i + 1) τ) 64 = cntB (fset (nxB t n (bH t n k (i + 1)) (i + 1) τ) (t i) false) 64 + (if nx t n (t i) (i + 1) ≤ τ then 1 else 0) := fun τ hb => by
      rw [← cntB_off (P := nxB t n (bH t n k (i + 1)) (i + 1) τ) hp]
      unfold nxB
      rw [hb]
      simp
    rcases bel_step hn hk ht (show i < n by omega) with ⟨b1, b2, b3⟩ | ⟨b1, b2, b3⟩ | ⟨b1, b2, b3, r, hr, hr1, hr2, hr3⟩
    · refine ⟨by rw [b2, eF]; omega, fun τ => ?_⟩
      by_cases hτ : i ≤ τ
      · have q1 := h2 τ
        rw [at0 τ hτ, at0 τ hτ, b1] at q1
        have q2 := offA τ
        rw [at1, atH τ (by rw [b3, b1]), b2, eF]
        have q3 : cntB (fset (nxB t n (bH t n k (i + 1)) (i + 1) τ) (t i) false) 64 = cntB (fset (nxB t n (bH t n k i) i τ) (t i) false) 64 := cntB_congr (fun q _ => by
          by_cases c : q = t i
          · rw [c, fs_s, fs_s]
          · rw [fs_n c, fs_n c]; unfold nxB; rw [b3, nx_else (by omega) c])
        rw [q3]
        cases hAp : A i (t i) with
        | false => rw [hAp] at q1; simp at q1 ⊢; omega
        | true => rw [hAp] at q1; simp at q1 ⊢; omega
      · rw [low τ hτ, b2, eF]; omega
    · refine ⟨by rw [b2]; exact le2 b1, fun τ => ?_⟩
      by_cases hτ : i ≤ τ
      · have q1 := h2 τ
        rw [at0 τ hτ, at0 τ hτ, b1] at q1
        have q2 := offA τ
        rw [at1, atH τ ((b3 _).mpr (Or.inl rfl)), b2, eF]
        have q3 : cntB (fset (nxB t n (bH t n k (i + 1)) (i + 1) τ) (t i) false) 64 = cntB (fset (nxB t n (bH t n k i) i τ) (t i) false) 64 := cntB_congr (fun q _ => by
          by_cases c : q = t i
          · rw [c, fs_s, fs_s]
          · have e1 : bH t n k (i + 1) q = bH t n k i q := by
              cases hb : bH t n k i q with
              | true => exact (b3 q).mpr (Or.inr hb)
              | false =>
                cases hb2 : bH t n k (i + 1) q with
                | false => rfl
                | true => rcases (b3 q).mp hb2 with h | h
                          · exact absurd h c
                          · rw [hb] at h; exact absurd h Bool.false_ne_true
            rw [fs_n c, fs_n c]; unfold nxB; rw [e1, nx_else (by omega) c])
        rw [q3]
        cases hAp : A i (t i) with
        | false => rw [hAp] at q1; simp at q1 ⊢; omega
        | true => rw [hAp] at q1; simp at q1 ⊢; omega
      · rw [low τ hτ, b2]
        have := le2 b1
        omega
    · refine ⟨by rw [b2]; exact le2 b1, fun τ => ?_⟩
      by_cases hτ : i ≤ τ
      · have q1 := h2 τ
        rw [at0 τ hτ, at0 τ hτ, b1] at q1
        have q2 := offA τ
        have q4 := le2 b1
        have rne : r ≠ t i := fun h => by rw [h, b1] at hr1; exact absurd hr1 Bool.false_ne_true
        have e1 : ∀ q, q ≠ t i → bH t n k (i + 1) q = (bH t n k i q && decide (q ≠ r)) := fun q c => by
          cases hb2 : bH t n k (i + 1) q with
          | true =>
            rcases (hr3 q).mp hb2 with h | h
            · exact absurd h c
            · rw [h.1, decide_eq_true h.2]; rfl
          | false =>
            cases hb : bH t n k i q with
            | false => rfl
            | true =>
              by_cases cr : q = r
              · rw [decide_eq_false (fun h => h cr)]; rfl
              · rw [(hr3 q).mpr (Or.inr ⟨hb, cr⟩)] at hb2; exact absurd hb2 (by decide)
        rw [at1, atH τ ((hr3 _).mpr (Or.inl rfl)), b2]
        by_cases hfar : nx t n r i ≤ τ
        · -- all that is held is touched by then
          have q5 : cntB (fset (nxB t n (A (i + 1)) (i + 1) τ) (t i) false) 64 + 1 ≤ k := by
            have w1 := a2 (i + 1) hi
            have w2 := cntB_off (P := A (i + 1)) hp
            rw [a3 i (by omega), if_pos rfl] at w2
            have w3 : cntB (fset (nxB t n (A (i + 1)) (i + 1) τ) (t i) false) 64 ≤ cntB (fset (A (i + 1)) (t i) false) 64 := cntB_mono (fun q _ h => by
              by_cases c : q = t i
              · rw [c, fs_s] at h; exact absurd h Bool.false_ne_true
              · rw [fs_n c] at h ⊢
                unfold nxB at h
                rw [Bool.and_eq_true] at h
                exact h.1)
            omega
          have q6 : cntB (fset (nxB t n (bH t n k (i + 1)) (i + 1) τ) (t i) false) 64 + 1 = k := by
            have w2 := cntB_off (P := bH t n k i) hr
            rw [hr1, if_pos rfl, b3] at w2
            have w4 : cntB (fset (nxB t n (bH t n k (i + 1)) (i + 1) τ) (t i) false) 64 = cntB (fset (bH t n k i) r false) 64 := cntB_congr (fun q _ => by
              by_cases c : q = t i
              · rw [c, fs_s, fs_n (fun h => rne h.symm), b1]
              · rw [fs_n c]
                unfold nxB
                rw [e1 q c]
                by_cases cr : q = r
                · rw [cr, fs_s, decide_eq_false (fun h => h rfl), Bool.and_false]; rfl
                · rw [fs_n cr, decide_eq_true cr, Bool.and_true]
                  cases hb : bH t n k i q with
                  | false => rfl
                  | true => rw [← nx_else (by omega) c, decide_eq_true (Nat.le_trans (hr2 q hb) hfar)]; rfl)
            omega
          omega
        · have q3 : cntB (fset (nxB t n (bH t n k (i + 1)) (i + 1) τ) (t i) false) 64 = cntB (fset (nxB t n (bH t n k i) i τ) (t i) false) 64 := cntB_congr (fun q _ => by
            by_cases c : q = t i
            · rw [c, fs_s, fs_s]
            · rw [fs_n c, fs_n c]
              unfold nxB
              rw [e1 q c, nx_else (by omega) c]
              by_cases cr : q = r
              · rw [cr, ← nx_else (by omega) rne, decide_eq_false hfar, Bool.and_false, Bool.and_false]
              · rw [decide_eq_true cr, Bool.and_true])
          rw [q3, eF]
          cases hAp : A i (t i) with
          | false => rw [hAp] at q1; simp at q1 ⊢; omega
          | true => rw [hAp] at q1; simp at q1 ⊢; omega
      · rw [low τ hτ, b2]
        have := le2 b1
        omega
