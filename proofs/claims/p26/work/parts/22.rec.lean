/-! PURE: branches, lists with del, stamps -/
theorem ip {c A B : Prop} (h : c) (a : A) : (c → A) ∧ (¬ c → B) := ⟨fun _ => a, fun n => absurd h n⟩
theorem iq {c A B : Prop} (h : ¬ c) (b : B) : (c → A) ∧ (¬ c → B) := ⟨fun n => absurd n h, fun _ => b⟩
theorem jp {c A B : Prop} (h : ¬ c) (a : A) : (¬ c → A) ∧ (c → B) := ⟨fun _ => a, fun n => absurd n h⟩
theorem jq {c A B : Prop} (h : c) (b : B) : (¬ c → A) ∧ (c → B) := ⟨fun n => absurd h n, fun _ => b⟩
theorem nI0 : (0 : Int32) = nI 0 := rfl
theorem nI_np {t : Nat} (h : t < 2 ^ 31) : nI t ≤ 0 ↔ t = 0 := by
  rw [nI0, nI_leI h (by omega)]; omega
theorem nI_z {t : Nat} (h : t < 2 ^ 31) : nI t = 0 ↔ t = 0 := by
  rw [nI0, nI_eq h (by omega)]
theorem nI_sub1 (a : Nat) : nI (a + 1) - 1 = nI a := by
  rw [← nI_1]; grind
theorem nI_sub {a b : Nat} (h : b ≤ a) : nI a - nI b = nI (a - b) := by
  have : nI a = nI (a - b) + nI b := by rw [nI_add]; congr 1; omega
  rw [this]; grind
theorem nI_pm1 {a : Nat} (h : a < 2 ^ 31) : nI a - 1 = -1 ↔ a = 0 := by
  cases a with
  | zero => exact ⟨fun _ => rfl, fun _ => rfl⟩
  | succ a => rw [nI_sub1]; exact ⟨fun e => absurd e (nI_m1 (by omega)), fun e => absurd e (by omega)⟩
def fset {α : Type} (f : Nat → α) (k : Nat) (v : α) : Nat → α := fun j => if j = k then v else f j
theorem fs_s {α : Type} {f : Nat → α} {k : Nat} {v : α} : fset f k v k = v := if_pos rfl
theorem fs_n {α : Type} {f : Nat → α} {k j : Nat} {v : α} (h : j ≠ k) : fset f k v j = f j := if_neg h
theorem k_del {c : Int32} {f : Nat → Int32} {L : List Nat} (hr : PLr c f L) {p : Nat} (hp : p < 64) {Q : Int32 → (Nat → Int32) → Prop} (h : ∀ c' f', PLr c' f' (del p L) → Q c' f') : wR_X5_drop (nI p) c f Q := by
  refine k_drop hr (fun c' f' h2 => h c' f' ?_)
  have : L.filter (fun x => decide (¬ nI x = nI p)) = del p L := by
    unfold del
    refine List.filter_congr (fun x hx => ?_)
    have := hr.2.2.1 x hx
    exact decide_eq_decide.mpr (not_congr (nI_eq (by omega) (by omega)))
  rw [← this]; exact h2
theorem k_del1 {c : Int32} {f : Nat → Int32} {L : List Nat} (hr : PLr c f L) {Q : Int32 → (Nat → Int32) → Prop} (h : ∀ c' f', PLr c' f' L → Q c' f') : wR_X5_drop (-1) c f Q := by
  refine k_drop hr (fun c' f' h2 => h c' f' ?_)
  have : L.filter (fun x => decide (¬ nI x = -1)) = L := by
    rw [List.filter_eq_self]
    intro x hx
    have := hr.2.2.1 x hx
    simp [nI_m1 (show x < 2 ^ 31 by omega)]
  rw [this] at h2; exact h2
theorem k_isPage {p : Nat} (hp : p < 64) {Q : Int32 → Prop} (h : Q 1) : wR_X9_isPage (nI p) Q :=
  iq (fun hc => by have := (Int32.lt_iff_toInt_lt).mp hc; rw [nI_toInt (by omega)] at this; simp at this; omega) (iq (fun hc => by have := (nI_leI (a := 64) (by omega) (by omega)).mp hc; omega) ⟨Or.inr rfl, h⟩)
theorem k_isPage1 {Q : Int32 → Prop} (h : Q 0) : wR_X9_isPage (-1) Q := ip (by decide) ⟨Or.inl rfl, h⟩
/-- stamps: positive in L, rising along L -/
def RS (f : Nat → Int32) (L : List Nat) (b : Nat) : Prop := ∃ T : Nat → Nat, (∀ p, p < 64 → f p = nI (T p) ∧ T p ≤ b) ∧ (∀ p, p ∈ L ↔ p < 64 ∧ 0 < T p) ∧ L.Pairwise (fun x y => T x < T y)
theorem RS.zero {f : Nat → Int32} (h : ∀ i, i < 64 → f i = 0) (b : Nat) : RS f [] b := ⟨fun _ => 0, fun p hp => ⟨h p hp, Nat.zero_le _⟩, fun p => by simp, List.Pairwise.nil⟩
theorem RS.mono {f : Nat → Int32} {L : List Nat} {b b' : Nat} (h : RS f L b) (hb : b ≤ b') : RS f L b' := by
  obtain ⟨T, h1, h2, h3⟩ := h
  exact ⟨T, fun p hp => ⟨(h1 p hp).1, Nat.le_trans (h1 p hp).2 hb⟩, h2, h3⟩
theorem RS.nodup {f : Nat → Int32} {L : List Nat} {b : Nat} (h : RS f L b) : L.Nodup := by
  obtain ⟨T, h1, h2, h3⟩ := h
  exact pw_nodup h3
theorem RS.lt {f : Nat → Int32} {L : List Nat} {b : Nat} (h : RS f L b) {x : Nat} (hx : x ∈ L) : x < 64 := by
  obtain ⟨T, h1, h2, h3⟩ := h
  exact ((h2 x).mp hx).1
theorem RS.zeroIff {f : Nat → Int32} {L : List Nat} {b : Nat} (h : RS f L b) (hb : b < 2 ^ 31) {p : Nat} (hp : p < 64) : f p = 0 ↔ p ∉ L := by
  obtain ⟨T, h1, h2, h3⟩ := h
  have := h1 p hp
  rw [this.1, nI_z (by omega), h2]
  omega
theorem RS.posIff {f : Nat → Int32} {L : List Nat} {b : Nat} (h : RS f L b) (hb : b < 2 ^ 31) {p : Nat} (hp : p < 64) : f p ≤ 0 ↔ p ∉ L := by
  obtain ⟨T, h1, h2, h3⟩ := h
  have := h1 p hp
  rw [this.1, nI_np (by omega), h2]
  omega
theorem pw_del {L : List Nat} {T : Nat → Nat} {p : Nat} (h : L.Pairwise (fun x y => T x < T y)) : (del p L).Pairwise (fun x y => T x < T y) := List.Pairwise.filter _ h
theorem RS.del0 {f : Nat → Int32} {L : List Nat} {b : Nat} (h : RS f L b) {a : Nat} (ha : a < 64) : RS (upd f a 0) (del a L) b := by
  obtain ⟨T, h1, h2, h3⟩ := h
  refine ⟨fset T a 0, fun p hp => ?_, fun p => ?_, ?_⟩
  · by_cases e : p = a
    · rw [e, pk_us, fs_s]; exact ⟨rfl, Nat.zero_le _⟩
    · rw [pk_un e, fs_n e]; exact h1 p hp
  · rw [mem_del, h2]
    by_cases e : p = a
    · rw [e, fs_s]; omega
    · rw [fs_n e]; omega
  · refine (pw_del h3).imp_of_mem (fun {x y} hx hy hlt => ?_)
    rw [fs_n (mem_del.mp hx).2, fs_n (mem_del.mp hy).2]; exact hlt
theorem RS.put {f : Nat → Int32} {L : List Nat} {b : Nat} (h : RS f L b) {p s : Nat} (hp : p < 64) (hs : b < s) : RS (upd f p (nI s)) (del p L ++ [p]) s := by
  obtain ⟨T, h1, h2, h3⟩ := h
  refine ⟨fset T p s, fun q hq => ?_, fun q => ?_, ?_⟩
  · by_cases e : q = p
    · rw [e, pk_us, fs_s]; exact ⟨rfl, Nat.le_refl _⟩
    · rw [pk_un e, fs_n e]; exact ⟨(h1 q hq).1, by have := (h1 q hq).2; omega⟩
  · rw [List.mem_append, mem_del, h2, List.mem_singleton]
    by_cases e : q = p
    · rw [e, fs_s]; omega
    · rw [fs_n e]; omega
  · rw [List.pairwise_append]
    refine ⟨(pw_del h3).imp_of_mem (fun {x y} hx hy hlt => ?_), List.pairwise_singleton _ _, fun x hx y hy => ?_⟩
    · rw [fs_n (mem_del.mp hx).2, fs_n (mem_del.mp hy).2]; exact hlt
    · rw [List.mem_singleton.mp hy, fs_s, fs_n (mem_del.mp hx).2]
      have := (h1 x ((h2 x).mp (mem_del.mp hx).1).1).2
      omega
