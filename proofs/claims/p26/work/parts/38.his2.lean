/-! PURE: the history of the class -/
def HisC (w n : Nat) (t : Nat → Nat) (ct sm : Int32) (pg ss lt td : Nat → Int32) : Prop := ct = nI n ∧ sm = nI (sumN (wsz w t) n) ∧ (∀ i, i < n → pg i = nI (t i)) ∧ (∀ i, i < n → ss i = nI (wsz w t i)) ∧ (∀ p, p < 64 → lt p = nI (lst t n p) - 1) ∧ ∀ d, d < 64 → td d = nI (cntB (fun k => decide (dpt t k = d)) n)
theorem HisC.congr {w n : Nat} {t t' : Nat → Nat} {ct sm : Int32} {pg ss lt td : Nat → Int32} (h : HisC w n t ct sm pg ss lt td) (e : ∀ i, i < n → t' i = t i) : HisC w n t' ct sm pg ss lt td := by
  obtain ⟨h1, h2, h3, h4, h5, h6⟩ := h
  refine ⟨h1, ?_, fun i hi => ?_, fun i hi => ?_, fun p hp => ?_, fun d hd => ?_⟩
  · rw [h2]; congr 1; exact sumN_congr (fun i hi => (wsz_congr (fun j hj => e j (by omega))).symm)
  · rw [h3 i hi, e i hi]
  · rw [h4 i hi]; congr 1; exact (wsz_congr (fun j hj => e j (by omega))).symm
  · rw [h5 p hp, lst_congr e]
  · rw [h6 d hd]; congr 1; exact cntB_congr (fun k hk => by rw [dpt_congr (fun j hj => e j (by omega))])
theorem nI_below {l b : Nat} (hl : l < 2 ^ 30) (hb : b < 2 ^ 30) : nI l - 1 < nI b ↔ l ≤ b := by
  rw [Int32.lt_iff_toInt_lt, show (1 : Int32) = nI 1 from rfl, pk_sub_toInt hl (by omega), nI_toInt (by omega)]
  omega
theorem k_since {t : Nat → Nat} {n b : Nat} {lt : Nat → Int32} (hlt : ∀ p, p < 64 → lt p = nI (lst t n p) - 1) (hn : n ≤ 400) (hb : b ≤ 400) {Q : Int32 → Prop} (h : Q (nI (psz t n b))) : wR_X4_pagesTouchedSince lt (nI b) Q := by
  intro I hI
  unfold psz at h
  have key : ∀ d i, i + d = 64 → I (nI (cntB (fun p => decide (b < lst t n p)) i)) (nI i) := by
    intro d
    induction d with
    | zero =>
      intro i hi
      apply hI
      have e : i = 64 := by omega
      subst e
      exact ip (nI_le (a := 64) (Nat.le_refl _) (by omega)) h
    | succ d ih =>
      intro i hi
      apply hI
      have hl := lst_le t n i
      refine iq (fun hc => absurd ((nI_leI (a := 64) (by omega) (by omega)).mp hc) (by omega)) ⟨vp_in_nI (by omega) (by omega), ?_⟩
      rw [nI_clamp (by omega), hlt i (by omega), nI_below (by omega) (by omega)]
      have := ih (i + 1) (by omega)
      unfold cntB at this
      by_cases hm : lst t n i ≤ b
      · refine ip hm ?_
        show I (nI _) (nI i + 1)
        rw [nI_1]
        rw [if_neg (by simp; omega)] at this
        exact this
      · refine iq hm ?_
        show I (nI _ + 1) (nI i + 1)
        rw [nI_1, nI_1]
        rw [if_pos (by simp; omega)] at this
        exact this
  exact key 64 0 rfl
theorem cnt_dpt (t : Nat → Nat) (n d : Nat) : cntB (fun k => decide (dpt t k = d)) (n + 1) = cntB (fun k => decide (dpt t k = d)) n + (if dpt t n = d then 1 else 0) := by
  show _ + (if decide (dpt t n = d) = true then 1 else 0) = _
  simp only [decide_eq_true_eq]
theorem k_depth {w n p : Nat} {t : Nat → Nat} {lt td : Nat → Int32} (hlt : ∀ p, p < 64 → lt p = nI (lst t n p) - 1) (htd : ∀ d, d < 64 → td d = nI (cntB (fun k => decide (dpt t k = d)) n)) (hn : n < 400) (hp : p < 64) (htn : t n = p) {Q : (Nat → Int32) → Prop} (h : ∀ td, (∀ d, d < 64 → td d = nI (cntB (fun k => decide (dpt t k = d)) (n + 1))) → Q td) : wR_X4_noteDepth lt (nI p) td Q := by
  have hcl : (nI p).toNatClampNeg = p := nI_clamp (by omega)
  have hl := lst_le t n p
  refine ⟨vp_in_nI hp (by omega), ?_⟩
  rw [hcl, hlt p hp, nI_pm1 (by omega)]
  by_cases z : lst t n p = 0
  · refine jq z (h _ (fun d hd => ?_))
    have hd' : dpt t n = 64 := by unfold dpt; rw [htn, if_pos z]
    rw [htd d hd, cnt_dpt, hd', if_neg (by omega), Nat.add_zero]
  · have hx : nI (lst t n p) - 1 + 1 = nI (lst t n p) := by grind
    refine jp z ⟨vp_in_nI hp (by omega), ?_⟩
    rw [hx]
    have h64 : psz t n (lst t n p) < 64 := psz_lt hp
    have hd' : dpt t n = psz t n (lst t n p) := by unfold dpt; rw [htn, if_neg z]
    refine k_since hlt (by omega) (by omega) (iq (fun hc => absurd ((nI_leI (a := 64) (by omega) (by omega)).mp hc) (by omega)) ⟨vp_in_nI h64 (by omega), vp_in_nI h64 (by omega), h _ (fun d hd => ?_)⟩)
    rw [nI_clamp (by omega)]
    rw [cnt_dpt, hd']
    by_cases e : d = psz t n (lst t n p)
    · rw [← e, pk_us, htd d hd, nI_1, if_pos rfl]
    · rw [pk_un e, htd d hd, if_neg (fun hh => e hh.symm), Nat.add_zero]
theorem c_his {w n p : Nat} {t : Nat → Nat} {ct sm : Int32} {pg ss lt td : Nat → Int32} (hr : HisC w n t ct sm pg ss lt td) (hn : n < 400) (hw1 : 1 ≤ w) (hw : w ≤ 100) (hp : p < 64) (htn : t n = p) {Q : Int32 → Int32 → (Nat → Int32) → (Nat → Int32) → (Nat → Int32) → (Nat → Int32) → Prop} (h : ∀ ct sm pg ss lt td, HisC w (n + 1) t ct sm pg ss lt td → Q ct sm pg ss lt td) : wR_X4_record (nI w) (nI p) ct sm pg ss lt td Q := by
  obtain ⟨h1, h2, h3, h4, h5, h6⟩ := hr
  subst h1 h2
  have hcl : (nI p).toNatClampNeg = p := nI_clamp (by omega)
  refine ip (nI_lt (b := 400) hn (by omega)) (k_depth (w := w) h5 h6 hn hp htn (fun td h6 => ⟨vp_in_nI hp (by omega), vp_in_nI hn (by omega), ?_⟩))
  have hx : nI n - nI w + 1 = nI (n + 1) - nI w := by rw [← nI_1]; grind
  rw [hx, nI_minus (by omega) (by omega), hcl, nI_clamp (by omega)]
  have h5' : ∀ q, q < 64 → upd lt p (nI n) q = nI (lst t (n + 1) q) - 1 := by
    intro q hq
    rw [lst_s]
    by_cases e : q = p
    · rw [e, pk_us, if_pos htn, nI_sub1]
    · rw [pk_un e, if_neg (fun hh => e (by rw [← hh, htn])), h5 q hq]
  refine k_since h5' (by omega) (by omega) ⟨vp_in_nI hn (by omega), vp_in_nI hn (by omega), ?_⟩
  rw [pk_us, nI_1, nI_add]
  refine h _ _ _ _ _ _ ⟨rfl, rfl, fun i hi => ?_, fun i hi => ?_, h5', h6⟩
  · by_cases e : i = n
    · rw [e, pk_us, htn]
    · rw [pk_un e, h3 i (by omega)]
  · by_cases e : i = n
    · rw [e, pk_us]; rfl
    · rw [pk_un e, h4 i (by omega)]
theorem k_fwith {w n m : Nat} {t : Nat → Nat} {ct sm : Int32} {pg ss lt td : Nat → Int32} (hr : HisC w n t ct sm pg ss lt td) (hn : n ≤ 400) (hm : m ≤ 16) {Q : Int32 → Prop} (h : Q (nI (cntB (fun k => decide (m ≤ dpt t k)) n))) : wR_X4_faultsOfRecency ct td (nI m) Q := by
  obtain ⟨h1, h2, h3, h4, h5, h6⟩ := hr
  subst h1
  have hneg : nI n - nI (cntB (fun k => decide (dpt t k < m)) n) = nI (cntB (fun k => decide (m ≤ dpt t k)) n) := by
    have e := cnt_neg (fun k => decide (dpt t k < m)) n
    have e2 : cntB (fun k => !(decide (dpt t k < m))) n = cntB (fun k => decide (m ≤ dpt t k)) n := cntB_congr (fun k _ => by rw [← decide_not, decide_eq_decide]; omega)
    rw [e2] at e
    rw [nI_sub (by omega)]
    congr 1; omega
  intro I hI
  have key : ∀ d i, i + d = m → I (nI (sumN (fun e => cntB (fun k => decide (dpt t k = e)) n) i)) (nI i) := by
    intro d
    induction d with
    | zero =>
      intro i hi
      apply hI
      have e : i = m := by omega
      subst e
      refine ip (nI_le (Nat.le_refl _) (by omega)) ?_
      rw [dpt_sum]
      show Q (nI n - nI _)
      rw [hneg]; exact h
    | succ d ih =>
      intro i hi
      apply hI
      refine iq (fun hc => absurd ((nI_leI (by omega) (by omega)).mp hc) (by omega)) (iq (fun hc => absurd ((nI_leI (a := 64) (by omega) (by omega)).mp hc) (by omega)) ⟨vp_in_nI (by omega) (by omega), ?_⟩)
      rw [nI_clamp (by omega), h6 i (by omega), nI_add, nI_1]
      exact ih (i + 1) (by omega)
  exact key m 0 (by omega)
