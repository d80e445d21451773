/-! PURE: policy 0 -/
abbrev ARec : Type := List Nat × Nat × (Nat → Nat) × (Nat → Int32) × (Nat → Int32) × Nat
def rL (m p : Nat) (L : List Nat) : List Nat := if p ∈ L then del p L ++ [p] else if L.length < m then L ++ [p] else del (L.headD 0) L ++ [p]
def recStep (m p : Nat) (a : ARec) : ARec :=
  (rL m p a.1,
   (if p ∈ a.1 ∨ a.1.length < m then a.2.1 else a.2.1 + 1),
   (if p ∈ a.1 ∨ a.1.length < m then a.2.2.1 else fset a.2.2.1 (a.1.headD 0) (a.2.1 + 1)),
   (if p ∈ a.1 ∨ a.2.2.1 p = 0 then a.2.2.2.1 else upd a.2.2.2.1 p (nI (a.2.1 - a.2.2.1 p))),
   (if p ∈ a.1 ∨ a.2.2.1 p = 0 then a.2.2.2.2.1 else upd a.2.2.2.2.1 (a.2.1 - a.2.2.1 p) (a.2.2.2.2.1 (a.2.1 - a.2.2.1 p) + 1)),
   (if p ∈ a.1 then a.2.2.2.2.2 else a.2.2.2.2.2 + 1))
def recFault (p : Nat) (a : ARec) : Int32 := if p ∈ a.1 then 0 else 1
def LInv (m : Nat) (L : List Nat) : Prop := L.Nodup ∧ (∀ x ∈ L, x < 64) ∧ L.length ≤ m
theorem LInv.nil (m : Nat) : LInv m [] := ⟨List.nodup_nil, fun _ h => absurd h List.not_mem_nil, Nat.zero_le _⟩
theorem LInv.step {m p : Nat} {L : List Nat} (h : LInv m L) (hm : 1 ≤ m) (hp : p < 64) : LInv m (rL m p L) := by
  obtain ⟨h1, h2, h3⟩ := h
  unfold rL
  split
  · rename_i hin
    refine ⟨add_nodup (del_nodup h1) (fun hx => (mem_del.mp hx).2 rfl), fun x hx => ?_, ?_⟩
    · rcases List.mem_append.mp hx with h | h
      · exact h2 x (mem_del.mp h).1
      · rw [List.mem_singleton.mp h]; exact hp
    · have := del_len h1 hin
      rw [List.length_append, List.length_singleton]; omega
  · rename_i hin
    split
    · refine ⟨add_nodup h1 hin, fun x hx => ?_, ?_⟩
      · rcases List.mem_append.mp hx with h | h
        · exact h2 x h
        · rw [List.mem_singleton.mp h]; exact hp
      · rw [List.length_append, List.length_singleton]; omega
    · cases L with
      | nil => rename_i hl; simp at hl; omega
      | cons a t =>
        refine ⟨add_nodup (del_nodup h1) (fun hx => hin (mem_del.mp hx).1), fun x hx => ?_, ?_⟩
        · rcases List.mem_append.mp hx with h | h
          · exact h2 x (mem_del.mp h).1
          · rw [List.mem_singleton.mp h]; exact hp
        · have := del_len h1 (p := a) List.mem_cons_self
          rw [List.length_append, List.length_singleton]
          show (del a (a :: t)).length + 1 ≤ m
          omega
def RecInv (m n : Nat) (a : ARec) : Prop := LInv m a.1 ∧ (∀ i, a.2.2.1 i ≤ a.2.1) ∧ a.2.1 ≤ n ∧ a.2.2.2.2.2 ≤ n
theorem RecInv.step {m n p : Nat} {a : ARec} (h : RecInv m n a) (hm : 1 ≤ m) (hp : p < 64) : RecInv m (n + 1) (recStep m p a) := by
  obtain ⟨L, E, e, D, K, F⟩ := a
  obtain ⟨h1, h2, h3, h4⟩ := h
  simp only at h1 h2 h3 h4
  refine ⟨h1.step hm hp, fun i => ?_, ?_, ?_⟩
  · simp only [recStep]
    split
    · exact h2 i
    · unfold fset
      have := h2 i
      split <;> omega
  · simp only [recStep]; split <;> omega
  · simp only [recStep]; split <;> omega
def RecC (a : ARec) (fc ev kc : Int32) (kp eo ld ra : Nat → Int32) : Prop := fc = nI a.2.2.2.2.2 ∧ ev = nI a.2.1 ∧ PLr kc kp a.1 ∧ (∀ i, i < 64 → eo i = nI (a.2.2.1 i) - 1) ∧ (∀ i, i < 64 → ld i = a.2.2.2.1 i) ∧ ∀ i, i < 401 → ra i = a.2.2.2.2.1 i
theorem k_exch7 {m p : Nat} {kc : Int32} {kp : Nat → Int32} {L : List Nat} (hr : PLr kc kp L) (hm : 1 ≤ m) (hm2 : m ≤ 16) (hL : LInv m L) (hp : p < 64) {Q : Int32 → Int32 → (Nat → Int32) → Prop} (h0 : L.length < m → ∀ c' f', PLr c' f' (L ++ [p]) → Q (-1) c' f') (h1 : ∀ a, ¬ L.length < m → a < 64 → L.headD 0 = a → ∀ c' f', PLr c' f' (del a L ++ [p]) → Q (nI a) c' f') : wR_X1_exchange_on_X7 (nI m) (nI p) kc kp Q := by
  have hl := hL.2.2
  have hkc : kc = nI L.length := hr.1
  unfold wR_X1_exchange_on_X7 wR_X1_nextVictim_on_X7
  by_cases hf : L.length < m
  · refine iq (fun hc => ?_) ?_
    · rw [hkc, nI_leI (by omega) (by omega)] at hc; omega
    · exact k_del1 hr (fun c f hr => k_add hr hp (by omega) (fun c f hr => h0 hf c f hr))
  · refine ip ?_ ?_
    · rw [hkc, nI_leI (by omega) (by omega)]; omega
    · refine k_least hr (fun he => ?_) (fun a t ht => ?_)
      · rw [he] at hf; simp at hf; omega
      · have ha : a < 64 := hL.2.1 a (by rw [ht]; exact List.mem_cons_self)
        have hh : L.headD 0 = a := by rw [ht]; rfl
        refine k_del hr ha (fun c f hr => k_add hr hp ?_ (fun c f hr => h1 a hf ha hh c f hr))
        have := del_len_le a L
        omega
theorem c_rec {m n p : Nat} {a : ARec} {fc ev kc : Int32} {kp eo ld ra : Nat → Int32} (hi : RecInv m n a) (hn : n ≤ 400) (hm : 1 ≤ m) (hm2 : m ≤ 16) (hp : p < 64) (hr : RecC a fc ev kc kp eo ld ra) {Q : Int32 → Int32 → Int32 → Int32 → (Nat → Int32) → (Nat → Int32) → (Nat → Int32) → (Nat → Int32) → Prop} (h : ∀ fc ev kc kp eo ld ra, RecC (recStep m p a) fc ev kc kp eo ld ra → Q (recFault p a) fc ev kc kp eo ld ra) : wR_X6_see_on_X7 (nI m) (nI p) fc ev kc kp eo ld ra Q := by
  obtain ⟨L, E, e, D, K, F⟩ := a
  obtain ⟨h1, h2, h3, h4⟩ := hi
  obtain ⟨g1, g2, g3, g4, g5, g6⟩ := hr
  simp only at h1 h2 h3 h4 g1 g2 g3 g4 g5 g6
  subst g1 g2
  have hcl : (nI p).toNatClampNeg = p := nI_clamp (by omega)
  refine k_contains g3 hp ?_
  by_cases hin : p ∈ L
  · rw [if_pos hin]
    refine ⟨Or.inr rfl, jp (by decide) (ip rfl (k_del g3 hp (fun c f hr => k_add hr hp ?_ (fun c f hr => ⟨Or.inl rfl, ?_⟩))))⟩
    · have := del_len_le p L
      have := h1.2.2
      omega
    · have := h (nI F) (nI E) c f eo ld ra (by
        simp only [recStep, RecC, rL, if_pos hin, hin, true_or, if_true]
        exact ⟨trivial, trivial, hr, g4, g5, g6⟩)
      simp only [recFault, if_pos hin] at this
      exact this
  · rw [if_neg hin]
    refine ⟨Or.inl rfl, jq rfl (iq (by decide) ?_)⟩
    have hfa : recFault p (L, E, e, D, K, F) = 1 := by simp only [recFault, if_neg hin]
    rw [hfa] at h
    refine ⟨vp_in_nI hp (by omega), ?_⟩
    rw [hcl, g4 p hp, nI_pm1 (by have := h2 p; omega)]
    -- the exchange
    have main : ∀ ld ra, (∀ i, i < 64 → ld i = (if p ∈ L ∨ e p = 0 then D else upd D p (nI (E - e p))) i) → (∀ i, i < 401 → ra i = (if p ∈ L ∨ e p = 0 then K else upd K (E - e p) (K (E - e p) + 1)) i) → wR_X1_exchange_on_X7 (nI m) (nI p) kc kp (fun r2 y2_0 y2_1 => (wR_X9_isPage r2 (fun r3 => ((r3 = 0 → (wR_X7_bringIn_38 (nI m) (nI p) (fun y3_0 y3_1 y3_2 y3_3 y3_4 y3_5 => (wR_X6_see_on_X7_41 (nI m) (nI p) Q 1 (nI F + 1) y3_0 y3_1 y3_2 y3_3 y3_4 y3_5)) (nI E) y2_0 y2_1 eo ld ra)) ∧ (¬ r3 = 0 → (vp_in r2 64 ∧ (wR_X7_bringIn_38 (nI m) (nI p) (fun y3_0 y3_1 y3_2 y3_3 y3_4 y3_5 => (wR_X6_see_on_X7_41 (nI m) (nI p) Q 1 (nI F + 1) y3_0 y3_1 y3_2 y3_3 y3_4 y3_5)) (nI E + 1) y2_0 y2_1 (upd eo r2.toNatClampNeg (nI E)) ld ra))))))) := by
      intro ld ra hld hra
      refine k_exch7 g3 hm hm2 h1 hp (fun hlt c f hr => ?_) (fun v hge hv hh c f hr => ?_)
      · refine k_isPage1 (ip rfl ⟨Or.inr rfl, ?_⟩)
        rw [nI_1]
        refine h _ _ _ _ _ _ _ ?_
        simp only [recStep, RecC, rL, if_neg hin, hlt, or_true, if_true]
        exact ⟨trivial, trivial, hr, g4, hld, hra⟩
      · refine k_isPage hv (iq (by decide) ⟨vp_in_nI hv (by omega), ⟨Or.inr rfl, ?_⟩⟩)
        rw [nI_1, nI_1, nI_clamp (by omega)]
        refine h _ _ _ _ _ _ _ ?_
        simp only [recStep, RecC, rL, if_neg hin, hge, hin, or_self, if_false, hh]
        refine ⟨trivial, trivial, hr, fun i hi => ?_, ?_, ?_⟩
        · by_cases hiv : i = v
          · rw [hiv, pk_us, fs_s, nI_sub1]
          · rw [pk_un hiv, fs_n hiv, g4 i hi]
        · simpa only [hin, false_or] using hld
        · simpa only [hin, false_or] using hra
    by_cases he : e p = 0
    · refine jq he (main ld ra ?_ ?_)
      · rw [if_pos (Or.inr he)]; exact g5
      · rw [if_pos (Or.inr he)]; exact g6
    · have hno : ¬ (p ∈ L ∨ e p = 0) := fun h => h.elim hin he
      have hle := h2 p
      refine jp he ⟨vp_in_nI hp (by omega), vp_in_nI hp (by omega), ?_⟩
      have hx : nI E - (nI (e p) - 1) - 1 = nI (E - e p) := by
        rw [← nI_sub hle]; grind
      rw [hx]
      refine iq (fun hc => ?_) (iq (fun hc => ?_) ⟨vp_in_nI (by omega) (by omega), vp_in_nI (by omega) (by omega), ?_⟩)
      · have := (Int32.lt_iff_toInt_lt).mp hc; rw [nI_toInt (by omega)] at this; simp at this; omega
      · have := (Int32.lt_iff_toInt_lt).mp hc; rw [nI_toInt (by omega)] at this; simp at this; omega
      · rw [nI_clamp (by omega)]
        refine main _ _ (fun i hi => ?_) (fun i hi => ?_)
        · rw [if_neg hno]
          by_cases hip : i = p
          · rw [hip, pk_us, pk_us]
          · rw [pk_un hip, pk_un hip, g5 i hi]
        · rw [if_neg hno]
          by_cases hip : i = E - e p
          · rw [hip, pk_us, pk_us, g6 _ (by omega)]
          · rw [pk_un hip, pk_un hip, g6 i hi]
