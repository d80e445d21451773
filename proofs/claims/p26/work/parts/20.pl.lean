/-! PURE: lists of pages in rows -/
theorem mem_getD {L : List Nat} {p : Nat} : p ∈ L ↔ ∃ j, j < L.length ∧ L.getD j 0 = p := by
  constructor
  · intro h
    obtain ⟨j, hj, he⟩ := List.mem_iff_getElem.mp h
    exact ⟨j, hj, by rw [List.getD_eq_getElem?_getD, List.getElem?_eq_getElem hj]; exact he⟩
  · rintro ⟨j, hj, he⟩
    rw [List.getD_eq_getElem?_getD, List.getElem?_eq_getElem hj] at he
    exact he ▸ List.getElem_mem hj
theorem getD_mem {L : List Nat} {j : Nat} (h : j < L.length) : L.getD j 0 ∈ L := mem_getD.mpr ⟨j, h, rfl⟩
def PLr (c : Int32) (f : Nat → Int32) (L : List Nat) : Prop := c = nI L.length ∧ L.length ≤ 64 ∧ (∀ x ∈ L, x < 64) ∧ ∀ i, i < L.length → f i = nI (L.getD i 0)
theorem PLr.nil {f : Nat → Int32} : PLr 0 f [] := ⟨rfl, Nat.zero_le _, fun _ h => absurd h List.not_mem_nil, fun i h => absurd h (Nat.not_lt_zero i)⟩
theorem nI_m1 {n : Nat} (h : n < 2 ^ 31) : ¬ nI n = -1 := by
  intro e
  have h1 := nI_toInt h
  rw [e] at h1
  have h2 : (-1 : Int32).toInt = -1 := by decide
  omega
theorem k_contains {c : Int32} {f : Nat → Int32} {L : List Nat} (hr : PLr c f L) {p : Nat} (hp : p < 64) {Q : Int32 → Prop} (h : Q (if p ∈ L then 1 else 0)) : wR_X5_contains c f (nI p) Q := by
  obtain ⟨rfl, hl, hb, hf⟩ := hr
  intro I hI
  have key : ∀ d i, i + d = L.length → (∀ j, j < i → L.getD j 0 ≠ p) → I (nI i) := by
    intro d
    induction d with
    | zero =>
      intro i hi hn
      apply hI
      refine ⟨fun _ => ?_, fun hc => absurd (nI_le (by omega) (by omega)) hc⟩
      rw [if_neg] at h
      · exact h
      · intro hm
        obtain ⟨j, h1, h2⟩ := mem_getD.mp hm
        exact hn j (by omega) h2
    | succ d ih =>
      intro i hi hn
      apply hI
      refine ⟨fun hc => absurd ((nI_leI (by omega) (by omega)).mp hc) (by omega), fun _ => ⟨vp_in_nI (by omega) (by omega), fun hne => ?_, fun he => ?_⟩⟩
      · rw [nI_1]
        refine ih (i + 1) (by omega) (fun j hj => ?_)
        rcases Nat.lt_succ_iff_lt_or_eq.mp hj with h1 | h1
        · exact hn j h1
        · rw [h1]
          intro h2
          apply hne
          rw [nI_clamp (by omega), hf i (by omega), h2]
      · rw [nI_clamp (by omega), hf i (by omega)] at he
        have h3 := hb _ (getD_mem (L := L) (j := i) (by omega))
        have h2 := (nI_eq (by omega) (by omega)).mp he
        rw [if_pos (mem_getD.mpr ⟨i, by omega, h2⟩)] at h
        exact h
  exact key L.length 0 (by omega) (fun j hj => absurd hj (Nat.not_lt_zero j))
theorem k_least {c : Int32} {f : Nat → Int32} {L : List Nat} (hr : PLr c f L) {Q : Int32 → Prop} (h0 : L = [] → Q (-1)) (h1 : ∀ a t, L = a :: t → Q (nI a)) : wR_X5_leastRecent c f Q := by
  obtain ⟨rfl, hl, hb, hf⟩ := hr
  cases L with
  | nil => exact ⟨fun _ => h0 rfl, fun hc => absurd (nI_le (Nat.le_refl 0) (by omega)) hc⟩
  | cons a t =>
    simp only [List.length_cons] at *
    refine ⟨fun hc => absurd ((nI_leI (b := 0) (by omega) (by omega)).mp hc) (by omega), fun _ => ⟨vp_in_nI (n := 0) (by omega) (by omega), ?_⟩⟩
    have h2 := hf 0 (by omega)
    show Q (f (0 : Int32).toNatClampNeg)
    rw [show (0 : Int32).toNatClampNeg = 0 from rfl, h2]
    exact h1 a t rfl
theorem k_add {c : Int32} {f : Nat → Int32} {L : List Nat} (hr : PLr c f L) {p : Nat} (hp : p < 64) (hlt : L.length < 64) {Q : Int32 → (Nat → Int32) → Prop} (h : ∀ c' f', PLr c' f' (L ++ [p]) → Q c' f') : wR_X5_addMostRecent (nI p) c f Q := by
  obtain ⟨rfl, hl, hb, hf⟩ := hr
  refine ⟨fun hc => absurd ((nI_leI (a := 64) (by omega) (by omega)).mp hc) (by omega), fun _ => ⟨vp_in_nI hlt (by omega), ?_⟩⟩
  refine h _ _ ⟨?_, ?_, ?_, ?_⟩
  · rw [nI_1, List.length_append]; rfl
  · rw [List.length_append, List.length_singleton]; omega
  · intro x hx
    rcases List.mem_append.mp hx with h1 | h1
    · exact hb x h1
    · rw [List.mem_singleton.mp h1]; exact hp
  · intro i hi
    rw [List.length_append, List.length_singleton] at hi
    rw [nI_clamp (by omega)]
    by_cases he : i = L.length
    · rw [he, pk_us, List.getD_eq_getElem?_getD, List.getElem?_append_right (Nat.le_refl _)]
      simp
    · rw [pk_un he, hf i (by omega), List.getD_eq_getElem?_getD, List.getD_eq_getElem?_getD, List.getElem?_append_left (by omega)]
theorem filter_take_le {α : Type} (P : α → Bool) (L : List α) (i : Nat) : ((L.take i).filter P).length ≤ i := Nat.le_trans (List.length_filter_le _ _) (by rw [List.length_take]; exact Nat.min_le_left _ _)
theorem k_drop {c : Int32} {f : Nat → Int32} {L : List Nat} (hr : PLr c f L) {P : Int32} {Q : Int32 → (Nat → Int32) → Prop} (h : ∀ c' f', PLr c' f' (L.filter (fun x => decide (¬ nI x = P))) → Q c' f') : wR_X5_drop P c f Q := by
  obtain ⟨rfl, hl, hb, hf⟩ := hr
  intro I hI
  have key : ∀ d i (g : Nat → Int32), i + d = L.length → (∀ j, j < ((L.take i).filter (fun x => decide (¬ nI x = P))).length → g j = nI (((L.take i).filter (fun x => decide (¬ nI x = P))).getD j 0)) → (∀ j, i ≤ j → j < L.length → g j = nI (L.getD j 0)) → I (nI ((L.take i).filter (fun x => decide (¬ nI x = P))).length) (nI i) (nI L.length) g := by
    intro d
    induction d with
    | zero =>
      intro i g hi h1 h2
      have hil : i = L.length := by omega
      subst hil
      apply hI
      refine ⟨fun _ => ?_, fun hc => absurd (nI_le (Nat.le_refl _) (by omega)) hc⟩
      rw [List.take_length] at h1 ⊢
      exact h _ _ ⟨rfl, Nat.le_trans (List.length_filter_le _ _) hl, fun x hx => hb x (List.mem_filter.mp hx).1, h1⟩
    | succ d ih =>
      intro i g hi h1 h2
      apply hI
      have hlt : i < L.length := by omega
      have hx : L.getD i 0 = L[i] := by rw [List.getD_eq_getElem?_getD, List.getElem?_eq_getElem hlt]; rfl
      have htake : L.take (i + 1) = L.take i ++ [L[i]] := List.take_succ_eq_append_getElem hlt
      have hle := filter_take_le (fun x => decide (¬ nI x = P)) L i
      refine ⟨fun hc => absurd ((nI_leI (by omega) (by omega)).mp hc) (by omega), fun _ => ⟨vp_in_nI (by omega) (by omega), fun he => ?_, fun hne => ⟨vp_in_nI (by omega) (by omega), vp_in_nI (by omega) (by omega), ?_⟩⟩⟩
      · rw [nI_clamp (by omega), h2 i (Nat.le_refl _) hlt] at he
        have hk : (L.take (i + 1)).filter (fun x => decide (¬ nI x = P)) = (L.take i).filter (fun x => decide (¬ nI x = P)) := by
          have hx' : nI L[i] = P := by rw [← hx]; exact he
          rw [htake, List.filter_append]
          simp [hx']
        have := ih (i + 1) g (by omega) (by rw [hk]; exact h1) (fun j hj hj2 => h2 j (by omega) hj2)
        rw [hk] at this
        show I _ (nI i + 1) _ _
        rw [nI_1]
        exact this
      · rw [nI_clamp (by omega), h2 i (Nat.le_refl _) hlt] at hne
        have hk : (L.take (i + 1)).filter (fun x => decide (¬ nI x = P)) = (L.take i).filter (fun x => decide (¬ nI x = P)) ++ [L[i]] := by
          rw [htake, List.filter_append]
          rw [hx] at hne
          simp [hne]
        rw [nI_clamp (by omega), nI_clamp (by omega), h2 i (Nat.le_refl _) hlt]
        show I (nI _ + 1) (nI i + 1) _ _
        rw [nI_1, nI_1]
        have := ih (i + 1) (upd g ((L.take i).filter (fun x => decide (¬ nI x = P))).length (nI (L.getD i 0))) (by omega) (by
          rw [hk]
          intro j hj
          rw [List.length_append, List.length_singleton] at hj
          by_cases he : j = ((L.take i).filter (fun x => decide (¬ nI x = P))).length
          · rw [he, pk_us, List.getD_eq_getElem?_getD (l := _ ++ _), List.getElem?_append_right (Nat.le_refl _), hx]
            simp
          · rw [pk_un he, h1 j (by omega), List.getD_eq_getElem?_getD, List.getD_eq_getElem?_getD, List.getElem?_append_left (by omega)]) (fun j hj hj2 => by
          rw [pk_un (by omega)]
          exact h2 j (by omega) hj2)
        rw [hk, List.length_append, List.length_singleton] at this
        exact this
  have := key L.length 0 f (by omega) (fun j hj => absurd hj (Nat.not_lt_zero j)) (fun j _ hj => hf j hj)
  exact this
