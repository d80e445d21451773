/-! PURE: policy 3, a touch, class and reference -/
theorem strPost_u {m : Nat} {o : Option Nat} {a : AStr} : (strPost m o a).2.2.2 = a.2.2.2 := by
  unfold strPost
  cases o with
  | none => rfl
  | some q => simp only; split <;> rfl
theorem c_str {m n p : Nat} {t : Nat → Nat} {a : AStr} {fc pf us sn la se th kc : Int32} {kp af : Nat → Int32} (hi : StrInv m n a) (hn : n ≤ 400) (hm : 1 ≤ m) (hm2 : m ≤ 16) (hp : p < 64) (ht : ∀ i, i < n → t i < 64) (hr : StrC n t a fc pf us sn la se kc kp af) {Q : Int32 → Int32 → Int32 → Int32 → Int32 → Int32 → Int32 → Int32 → Int32 → (Nat → Int32) → (Nat → Int32) → Prop} (h : ∀ fc pf us sn la se th kc kp af, StrC (n + 1) (fset t n p) (strStep m n t p a) fc pf us sn la se kc kp af → Q (strFault p a) fc pf us sn la se th kc kp af) : wR_X6_see_on_X8 (nI m) (nI p) fc pf us sn la se th kc kp af Q := by
  have hpre := hi.pre hm hp
  obtain ⟨L, aw, P, U, F⟩ := a
  obtain ⟨h1, h2, h3, h4, h5⟩ := hi
  obtain ⟨g1, g2, g3, g4, g5, g6, g7, g8⟩ := hr
  simp only at h1 h2 h3 h4 h5 g1 g2 g3 g4 g5 g6 g7 g8
  subst g1 g2 g3 g4
  have fin : ∀ kc kp af F' U' x, (x = 0 ∨ x = 1) → x = strFault p (L, aw, P, U, F) → F' = nI (strPre m p (L, aw, P, U, F)).2.2.2.2 → U' = nI (strPre m p (L, aw, P, U, F)).2.2.2.1 → PLr kc kp (strPre m p (L, aw, P, U, F)).1 → (∀ i, i < 64 → af i = bI ((strPre m p (L, aw, P, U, F)).2.1 i)) → wR_X6_see_on_X8_41 (nI m) (nI p) Q x F' (nI P) U' (nI n) la se th kc kp af := by
    intro kc kp af F' U' x hx0 hx hF hU hk ha
    subst hF hU
    refine k_afterTouch (t := t) (a := strPre m p (L, aw, P, U, F)) hpre.1 hn hm hm2 hp ht rfl g5 g6 hk ha (fun pf kc kp af e1 e2 e3 => ⟨hx0, ?_⟩)
    rw [hx]
    refine h _ _ _ _ _ _ _ _ _ _ ⟨?_, e1, ?_, rfl, fun _ => ?_, fun hh => ?_, e2, e3⟩
    · unfold strStep; rw [strPost_u]
    · unfold strStep; rw [strPost_u]
    · rw [Nat.add_sub_cancel, fs_s]
    · rw [show n + 1 - 2 = n - 1 by omega, fs_n (by omega)]; exact g5 (by omega)
  have hcl : (nI p).toNatClampNeg = p := nI_clamp (by omega)
  refine k_contains g7 hp ?_
  by_cases hin : p ∈ L
  · rw [if_pos hin]
    have hfa : (0 : Int32) = strFault p (L, aw, P, U, F) := by simp only [strFault, if_pos hin]
    refine ⟨Or.inr rfl, jp (by decide) (ip rfl ⟨vp_in_nI hp (by omega), ?_⟩)⟩
    rw [hcl, g8 p hp, bI_z]
    have ren : ∀ af U', (∀ i, i < 64 → af i = bI (fset aw p false i)) → U' = nI (U + (if aw p = true then 1 else 0)) → wR_X8_touchKept_26 (nI p) (fun y2_0 y2_1 y2_2 y2_3 => (wR_X6_see_on_X8_41 (nI m) (nI p) Q 0 (nI F) (nI P) y2_0 (nI n) la se th y2_1 y2_2 y2_3)) U' kc kp af := by
      intro af U' ha hU
      refine k_del g7 hp (fun c f hr => k_add hr hp ?_ (fun c f hr => fin _ _ _ _ _ _ (Or.inl rfl) hfa ?_ hU ?_ ?_))
      · have := del_len_le p L
        have := h1.2.2
        omega
      · simp only [strPre, if_pos hin, Nat.add_zero]
      · simp only [strPre, rL, if_pos hin]; exact hr
      · simp only [strPre, hAw, if_pos (Or.inl hin)]
        exact ha
    cases hb : aw p with
    | false =>
      refine ip rfl (ren _ _ (fun i hi => ?_) (by rw [hb]; rfl))
      rw [g8 i hi]
      by_cases e : i = p
      · rw [e, fs_s, hb]
      · rw [fs_n e]
    | true =>
      refine iq (by decide) ⟨vp_in_nI hp (by omega), ren _ _ (fun i hi => ?_) (by rw [hb, nI_1]; rfl)⟩
      rw [nar0]
      by_cases e : i = p
      · rw [e, pk_us, fs_s]; rfl
      · rw [pk_un e, fs_n e, g8 i hi]
  · rw [if_neg hin]
    have hfa : (1 : Int32) = strFault p (L, aw, P, U, F) := by simp only [strFault, if_neg hin]
    have hb : aw p = false := by
      cases hb : aw p with
      | false => rfl
      | true => exact absurd (h2 p hb) hin
    have hset : fset aw p false = aw := by
      funext i
      by_cases e : i = p
      · rw [e, fs_s, hb]
      · rw [fs_n e]
    refine ⟨Or.inl rfl, jq rfl (iq (by decide) (k_bring8 g7 hm hm2 h1 hp hin g8 (fun c f af hr ha => fin _ _ _ _ _ _ (Or.inr rfl) hfa ?_ ?_ hr ?_)))⟩
    · simp only [strPre, if_neg hin]; exact nI_1 F
    · simp only [strPre, hb]; rfl
    · simp only [strPre]; rw [hset]; exact ha
def StrM (a : AStr) (b : Nat) (pm um : Int32) (st ia : Nat → Int32) : Prop := pm = nI a.2.2.1 ∧ um = nI a.2.2.2.1 ∧ RS st a.1 b ∧ ∀ i, i < 64 → ia i = bI (a.2.1 i)
theorem notPg_int {x : Int32} (h : notPg x) : x.toInt < 0 ∨ 64 ≤ x.toInt := by
  rcases h with h | h
  · exact Or.inl (by have := Int32.lt_iff_toInt_lt.mp h; exact this)
  · exact Or.inr (by have := Int32.le_iff_toInt_le.mp h; exact this)
