/-! PURE: policy 3, a touch, class and reference -/
theorem strPost_u {m : Nat} {o : Option Nat} {a : AStr} : (strPost m o a).2.2.2 = a.2.2.2 := by
  unfold strPost
  cases o with
  | none => rfl
  | some q => simp only; split <;> rfl
theorem c_str {m n p : Nat} {t : Nat → Nat} {a : AStr} {fc pf us sn la se th kc : Int32} {kp af : Nat → Int32} (hi : StrInv m n a) (hn : n ≤ 400) (hm : 1 ≤ m) (hm2 : m ≤ 16) (hp : p < 64) (ht : ∀ i, i < n → t i < 64) (hr : StrC n t a fc pf us sn la se kc kp af) {Q : Int32 → Int32 → Int32 → Int32 → Int32 → Int32 → Int32 → Int32 → Int32 → (Nat → Int32) → (Nat → Int32) → Prop} (h : ∀ fc pf us sn la se th kc kp af, StrC (n + 1) (fset t n p) (strStep m n t p a) fc pf us sn la se kc kp af → Q (strFault p a) fc pf us sn la se th kc kp af) : wR_X6_see_on_X8 (nI m) (nI p) fc pf us sn la se th kc kp af Q := by
  have hpre := hi.pre hm hp
  obtain ⟨L, aw, P, U, F⟩ := a
  obtain ⟨h1, h2, h3, h4, h5⟩ := hi
  obtain ⟨g1, g2, g3, g4, g5, g6, g7, g8⟩ := hr
  simp only at h1 h2 h3 h4 h5 g1 g2 g3 g4 g5 g6 g7 g8
  subst g1 g2 g3 g4
  have fin : ∀ kc kp af F' U' x, (x = 0 ∨ x = 1) → x = strFault p (L, aw, P, U, F) → F' = nI (strPre m p (L, aw, P, U, F)).2.2.2.2 → U' = nI (strPre m p (L, aw, P, U, F)).2.2.2.1 → PLr kc kp (strPre m p (L, aw, P, U, F)).1 → (∀ i, i < 64 → af i = bI ((strPre m p (L, aw, P, U, F)).2.1 i)) → wR_X6_see_on_X8_41 (nI m) (nI p) Q x F' (nI P) U' (nI n) la se th kc kp af := by
    intro kc kp af F' U' x hx0 hx hF hU hk ha
    subst hF hU
    refine k_afterTouch (t := t) (a := strPre m p (L, aw, P, U, F)) hpre.1 hn hm hm2 hp ht rfl g5 g6 hk ha (fun pf kc kp af e1 e2 e3 => ⟨hx0, ?_⟩)
    rw [hx]
    refine h _ _ _ _ _ _ _ _ _ _ ⟨?_, e1, ?_, rfl, fun _ => ?_, fun hh => ?_, e2, e3⟩
    · unfold strStep; rw [strPost_u]
    · unfold strStep; rw [strPost_u]
    · rw [Nat.add_sub_cancel, fs_s]
    · rw [show n + 1 - 2 = n - 1 by omega, fs_n (by omega)]; exact g5 (by omega)
  have hcl : (nI p).toNatClampNeg = p := nI_clamp (by omega)
  refine k_contains g7 hp ?_
  by_cases hin : p ∈ L
  · rw [if_pos hin]
    have hfa : (0 : Int32) = strFault p (L, aw, P, U, F) := by simp only [strFault, if_pos hin]
    refine ⟨Or.inr rfl, jp (by decide) (ip rfl ⟨vp_in_nI hp (by omega), ?_⟩)⟩
    rw [hcl, g8 p hp, bI_z]
    have ren : ∀ af U', (∀ i, i < 64 → af i = bI (fset aw p false i)) → U' = nI (U + (if aw p = true then 1 else 0)) → wR_X8_touchKept_26 (nI p) (fun y2_0 y2_1 y2_2 y2_3 => (wR_X6_see_on_X8_41 (nI m) (nI p) Q 0 (nI F) (nI P) y2_0 (nI n) la se th y2_1 y2_2 y2_3)) U' kc kp af := by
      intro af U' ha hU
      refine k_del g7 hp (fun c f hr => k_add hr hp ?_ (fun c f hr => fin _ _ _ _ _ _ (Or.inl rfl) hfa ?_ hU ?_ ?_))
      · have := del_len_le p L
        have := h1.2.2
        omega
      · simp only [strPre, if_pos hin, Nat.add_zero]
      · simp only [strPre, rL, if_pos hin]; exact hr
      · simp only [strPre, hAw, if_pos (Or.inl hin)]
        exact ha
    cases hb : aw p with
    | false =>
      refine ip rfl (ren _ _ (fun i hi => ?_) (by rw [hb]; rfl))
      rw [g8 i hi]
      by_cases e : i = p
      · rw [e, fs_s, hb]
      · rw [fs_n e]
    | true =>
      refine iq (by decide) ⟨vp_in_nI hp (by omega), ren _ _ (fun i hi => ?_) (by rw [hb, nI_1]; rfl)⟩
      rw [nar0]
      by_cases e : i = p
      · rw [e, pk_us, fs_s]; rfl
      · rw [pk_un e, fs_n e, g8 i hi]
  · rw [if_neg hin]
    have hfa : (1 : Int32) = strFault p (L, aw, P, U, F) := by simp only [strFault, if_neg hin]
    have hb : aw p = false := by
      cases hb : aw p with
      | false => rfl
      | true => exact absurd (h2 p hb) hin
    have hset : fset aw p false = aw := by
      funext i
      by_cases e : i = p
      · rw [e, fs_s, hb]
      · rw [fs_n e]
    refine ⟨Or.inl rfl, jq rfl (iq (by decide) (k_bring8 g7 hm hm2 h1 hp hin g8 (fun c f af hr ha => fin _ _ _ _ _ _ (Or.inr rfl) hfa ?_ ?_ hr ?_)))⟩
    · simp only [strPre, if_neg hin]; exact nI_1 F
    · simp only [strPre, hb]; rfl
    · simp only [strPre]; rw [hset]; exact ha
def StrM (a : AStr) (b : Nat) (pm um : Int32) (st ia : Nat → Int32) : Prop := pm = nI a.2.2.1 ∧ um = nI a.2.2.2.1 ∧ RS st a.1 b ∧ ∀ i, i < 64 → ia i = bI (a.2.1 i)
theorem m_hold {m p b s : Nat} {L : List Nat} {aw : Nat → Bool} {st ia : Nat → Int32} (hr : RS st L b) (hb : b ≤ s) (hs : s < 2 ^ 30) (hm : 1 ≤ m) (hm2 : m ≤ 16) (hL : LInv m L) (hp : p < 64) (ha : ∀ i, i < 64 → ia i = bI (aw i)) {Q : Int32 → (Nat → Int32) → (Nat → Int32) → Prop} (h : ∀ st ia, RS st (rL m p L) (s + 1) → (∀ i, i < 64 → ia i = bI (hAw m p L aw i)) → Q (nI (s + 1)) st ia) : wR_X10_holdStrided (nI m) (nI p) (nI s) st ia Q := by
  have hcl : (nI p).toNatClampNeg = p := nI_clamp (by omega)
  have hz := hr.zeroIff (by omega) hp
  have hl := hL.2.2
  refine ⟨vp_in_nI hp (by omega), ?_⟩
  rw [hcl, hz]
  unfold rL hAw at h
  by_cases hin : p ∈ L
  · refine jp (fun hc => hc hin) ⟨vp_in_nI hp (by omega), ?_⟩
    rw [hcl, nI_1]
    refine h _ _ ?_ (fun i hi => ?_)
    · rw [if_pos hin]; exact hr.put hp (by omega)
    · rw [if_pos (Or.inl hin)]; exact ha i hi
  · refine jq hin (k_heldStrided hr (by omega) ?_)
    rw [if_neg hin] at h
    by_cases hlt : L.length < m
    · refine jp (fun hc => ?_) ⟨vp_in_nI hp (by omega), ?_⟩
      · have := (nI_eq (by omega) (by omega)).mp hc; omega
      · rw [hcl, nI_1]
        rw [if_pos hlt, if_pos (Or.inr hlt)] at h
        refine h _ _ ?_ ha
        have := hr.put hp (s := s + 1) (by omega)
        rw [del_self hin] at this
        exact this
    · refine jq ?_ (k_oldestStrided hr (by omega) (fun he => ?_) (fun v t ht => ?_))
      · rw [nI_eq (by omega) (by omega)]; omega
      · rw [he] at hlt; simp at hlt; omega
      · have hv : v < 64 := hL.2.1 v (by rw [ht]; exact List.mem_cons_self)
        have hh : L.headD 0 = v := by rw [ht]; rfl
        refine ⟨vp_in_nI hv (by omega), vp_in_nI hv (by omega), vp_in_nI hp (by omega), ?_⟩
        rw [hcl, nI_clamp (by omega), nI_1, nar0]
        rw [if_neg hlt, if_neg (by simp [hin, hlt]), hh] at h
        refine h _ _ ?_ (fun i hi => ?_)
        · have := (hr.del0 hv).put hp (s := s + 1) (by omega)
          rw [del_self (fun hx => hin (mem_del.mp hx).1)] at this
          exact this
        · by_cases e : i = v
          · rw [e, pk_us, fs_s]; rfl
          · rw [pk_un e, fs_n e, ha i hi]
theorem m_in0 {x : Int32} {lo hi : Nat} (hlo : lo < 2 ^ 31) (hhi : hi < 2 ^ 31) {Q : Int32 → Prop} (h1 : (lo : Int) ≤ x.toInt ∧ x.toInt ≤ hi → Q 1) (h0 : ¬ ((lo : Int) ≤ x.toInt ∧ x.toInt ≤ hi) → Q 0) : wR_X10_in x.toInt64 (lN lo) (lN hi) Q := by
  have e1 : x.toInt64 < lN lo ↔ x.toInt < lo := by rw [Int64.lt_iff_toInt_lt, Int32.toInt_toInt64, pk_lT (by omega)]
  have e2 : lN hi < x.toInt64 ↔ (hi : Int) < x.toInt := by rw [Int64.lt_iff_toInt_lt, Int32.toInt_toInt64, pk_lT (by omega)]
  unfold wR_X10_in
  rw [lg_cmp_lt, lg_cmp_gt, e1, e2]
  refine ⟨fun c => ⟨Or.inl rfl, h0 (by omega)⟩, fun c => ⟨fun c2 => ⟨Or.inl rfl, h0 (by omega)⟩, fun c2 => ⟨Or.inr rfl, h1 (by omega)⟩⟩⟩
theorem m_isPage {p : Nat} (hp : p < 64) {Q : Int32 → Prop} (h : Q 1) : wR_X10_isPage (nI p) Q := by
  have e := nI_toInt (n := p) (by omega)
  exact m_in0 (lo := 0) (hi := 63) (by omega) (by omega) (fun _ => ⟨Or.inr rfl, h⟩) (fun hn => absurd (show ((0 : Nat) : Int) ≤ (nI p).toInt ∧ (nI p).toInt ≤ (63 : Nat) by rw [e]; omega) hn)
theorem notPg_int {x : Int32} (h : notPg x) : x.toInt < 0 ∨ 64 ≤ x.toInt := by
  rcases h with h | h
  · exact Or.inl (by have := Int32.lt_iff_toInt_lt.mp h; exact this)
  · exact Or.inr (by have := Int32.le_iff_toInt_le.mp h; exact this)
theorem m_notPg {x : Int32} (hx : notPg x) {Q : Int32 → Prop} (h : Q 0) : wR_X10_isPage x Q := by
  have e := notPg_int hx
  exact m_in0 (lo := 0) (hi := 63) (by omega) (by omega) (fun hn => by omega) (fun _ => ⟨Or.inl rfl, h⟩)
theorem m_str {m n p b s : Nat} {t : Nat → Nat} {a : AStr} {pm um : Int32} {st ia tf : Nat → Int32} (hi : StrInv m n a) (hn : n < 400) (hm : 1 ≤ m) (hm2 : m ≤ 16) (hp : p < 64) (ht : ∀ i, i < n → t i < 64) (htf : ∀ i, i < n → tf i = nI (t i)) (hb : b ≤ s) (hs : s < 2 ^ 29) (hr : StrM a b pm um st ia) {Q : Int32 → Int32 → Int32 → Int32 → (Nat → Int32) → (Nat → Int32) → Prop} (h : ∀ s' pm um st ia, s ≤ s' → s' ≤ s + 2 → StrM (strStep m n t p a) s' pm um st ia → Q (strFault p a) (nI s') pm um st ia) : wR_X10_touchStrided (nI m) (nI (n + 1)) tf (nI p) (nI s) pm um st ia Q := by
  have hpre := hi.pre hm hp
  obtain ⟨L, aw, P, U, F⟩ := a
  obtain ⟨h1, h2, h3, h4, h5⟩ := hi
  obtain ⟨g1, g2, g3, g4⟩ := hr
  simp only at h1 h2 h3 h4 h5 g1 g2 g3 g4
  subst g1 g2
  have hcl : (nI p).toNatClampNeg = p := nI_clamp (by omega)
  have hz := g3.zeroIff (by omega) hp
  have fin : ∀ x s1 s2, (x = 0 ∨ x = 1) → x = strFault p (L, aw, P, U, F) → s1 + s2 = nI (strPre m p (L, aw, P, U, F)).2.2.2.1 → wR_X10_touchStrided_34 (nI m) (nI (n + 1)) tf (nI p) Q x s1 s2 (nI s) (nI P) (nI U) st ia := by
    intro x s1 s2 hx0 hx hU
    refine ⟨vp_in_nI hp (by omega), ?_⟩
    rw [hU, hcl, nar0, hx]
    rw [hx] at hx0
    refine m_hold (aw := fset aw p false) g3 hb (by omega) hm hm2 h1 hp (fun i hi => ?_) (fun st ia hr ha => ?_)
    · by_cases e : i = p
      · rw [e, pk_us, fs_s]; rfl
      · rw [pk_un e, fs_n e, g4 i hi]
    have hr' : RS st (strPre m p (L, aw, P, U, F)).1 (s + 1) := hr
    have ha' : ∀ i, i < 64 → ia i = bI ((strPre m p (L, aw, P, U, F)).2.1 i) := ha
    have hPP : P = (strPre m p (L, aw, P, U, F)).2.2.1 := rfl
    unfold strStep at h
    generalize strPre m p (L, aw, P, U, F) = B at *
    rw [hPP]
    have non : ahead n t p = none → wR_X10_touchStrided_169 (nI m) (nI (n + 1)) tf (nI p) Q (strFault p (L, aw, P, U, F)) (nI (s + 1)) (nI B.2.2.1) (nI B.2.2.2.1) st ia := by
      intro he
      rw [he] at h
      exact ⟨hx0, h _ _ _ _ _ (by omega) (by omega) ⟨rfl, rfl, hr', ha'⟩⟩
    rw [show (3 : Int32) = nI 3 from rfl, nI_ltI (by omega) (by omega)]
    by_cases hn2 : n < 2
    · refine ip (by omega) (non ?_)
      unfold ahead
      rw [if_neg (by omega)]
    · refine iq (by omega) ?_
      have q1 := ht (n - 1) (by omega)
      have q2 := ht (n - 2) (by omega)
      rw [show (2 : Int32) = nI 2 from rfl, nI_sub (by omega), nI_sub (by omega), show n + 1 - 2 = n - 1 by omega, show n + 1 - 3 = n - 2 by omega, nI_clamp (by omega), nI_clamp (by omega), htf (n - 1) (by omega), htf (n - 2) (by omega)]
      refine ⟨vp_in_nI (by omega) (by omega), ?_⟩
      by_cases z : nI p - nI (t (n - 1)) = 0
      · exact ip z (ip rfl (non (ahead_no q1 q2 hp (Or.inr (Or.inr z)))))
      · refine iq z ⟨vp_in_nI (by omega) (by omega), vp_in_nI (by omega) (by omega), ?_⟩
        by_cases e : nI p - nI (t (n - 1)) = nI (t (n - 1)) - nI (t (n - 2))
        · refine jq e.symm (iq (by decide) ?_)
          rcases ahead_val hp q1 q2 (by omega) e z with ⟨q, hq, hx⟩ | ⟨hq, hx⟩
          · rw [hx]
            have hq64 := ahead_lt hq
            rw [hq] at h
            refine m_isPage hq64 (iq (by decide) ⟨vp_in_nI hq64 (by omega), ?_⟩)
            rw [nI_clamp (by omega), hr'.zeroIff (by omega) hq64]
            by_cases hin : q ∈ B.1
            · refine jp (fun hc => hc hin) ?_
              unfold strPost at h
              simp only [hin, not_true, false_and, if_false] at h
              exact ⟨hx0, h _ _ _ _ _ (by omega) (by omega) ⟨rfl, rfl, hr', ha'⟩⟩
            · refine jq hin ?_
              rw [show (2 : Int32) = nI 2 from rfl, nI_ltI (by omega) (by omega)]
              unfold strPost at h
              by_cases h22 : m < 2
              · simp only [hin, not_false_eq_true, true_and, show ¬ 2 ≤ m by omega, if_false] at h
                exact ip h22 ⟨hx0, h _ _ _ _ _ (by omega) (by omega) ⟨rfl, rfl, hr', ha'⟩⟩
              · simp only [hin, not_false_eq_true, true_and, show 2 ≤ m by omega, if_true] at h
                refine iq h22 (m_hold hr' (Nat.le_refl _) (by omega) hm hm2 hpre.1 hq64 ha' (fun st ia hr ha => ⟨vp_in_nI hq64 (by omega), hx0, ?_⟩))
                rw [nI_1, nar1]
                refine h _ _ _ _ _ (by omega) (by omega) ⟨rfl, rfl, hr, fun i hi => ?_⟩
                simp only
                by_cases e : i = q
                · rw [e, pk_us, fs_s]; rfl
                · rw [pk_un e, fs_n e, ha i hi]
          · exact m_notPg hx (ip rfl (non hq))
        · exact jp (fun hc => e hc.symm) (ip rfl (non (ahead_no q1 q2 hp (Or.inr (Or.inl e)))))
  have go : ∀ x, (x = 0 ∨ x = 1) → x = strFault p (L, aw, P, U, F) → wR_X10_touchStrided_14 (nI m) (nI (n + 1)) tf (nI p) Q x (nI s) (nI P) (nI U) st ia := by
    intro x hx0 hx
    refine ⟨vp_in_nI hp (by omega), ?_⟩
    rw [hcl, g4 p hp, bI_z]
    cases hb : aw p with
    | false => exact ip rfl (fin _ _ _ hx0 hx (by simp only [strPre, hb]; exact nI_add U 0))
    | true => exact iq (by decide) (fin _ _ _ hx0 hx (by simp only [strPre, hb]; exact nI_add U 1))
  refine ⟨vp_in_nI hp (by omega), ?_⟩
  rw [hcl, hz]
  by_cases hin : p ∈ L
  · exact jp (fun hc => hc hin) (go 0 (Or.inl rfl) (by simp only [strFault, if_pos hin]))
  · exact jq hin (go 1 (Or.inr rfl) (by simp only [strFault, if_neg hin]))
