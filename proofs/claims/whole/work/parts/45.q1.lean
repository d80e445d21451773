/-! PURE: questions -/
theorem q_pageOf {n : Nat} {t : Nat → Nat} {pg tf : Nat → Int32} (hn : n ≤ 400) (hpg : ∀ i, i < n → pg i = nI (t i)) (htf : ∀ i, i < n → tf i = nI (t i)) (x : Int32) : Same (fun o Q => wR_L_pageOf (nI n) pg x o Q) (fun th Q => wR_X10_pageOf (nI n) tf x th Q) := by
  have bad : (x < 0 ∨ nI n ≤ x) → Same (fun o Q => wR_L_pageOf (nI n) pg x o Q) (fun th Q => wR_X10_pageOf (nI n) tf x th Q) := fun hx => by
    refine ⟨1, 0, fun o Q h => Or.inl ⟨kx_ckTouch hn hx, h _ (fun e => absurd e n10)⟩, fun th Q h => m_tIn hn (fun j hj e => ?_) (fun _ => ip rfl (gwE n10 (ip rfl (h _ (fun e => absurd e n10)))))⟩
    have := out_int (n := n) (by omega) hx
    rw [e, nI_toInt (by omega)] at this
    omega
  rcases pk_ix x (n := n) (by omega) with h | h | ⟨j, hj, rfl⟩
  · exact bad (Or.inl h)
  · exact bad (Or.inr h)
  · refine ⟨0, nI (t j), fun o Q h => Or.inr (k_ckTouch hj hn ⟨vp_in_nI (by omega) (by omega), vp00, h _ (fun _ => ?_)⟩), fun th Q h => m_tIn hn (fun _ _ _ => iq (by decide) (gw0 (iq (by decide) ⟨vp_in_nI (by omega) (by omega), h _ (fun _ => ?_)⟩))) (fun hx => ?_)⟩
    · rw [nI_clamp (by omega), hpg j hj]; exact outv
    · rw [nI_clamp (by omega), htf j hj]
    · have := out_int (n := n) (by omega) hx
      rw [nI_toInt (by omega)] at this
      omega
theorem q_workingSet {n w : Nat} {t : Nat → Nat} {pg tf : Nat → Int32} (hn : n ≤ 400) (hw1 : 1 ≤ w) (hw : w ≤ 100) (ht : ∀ i, i < n → t i < 64) (hpg : ∀ i, i < n → pg i = nI (wsz w t i)) (htf : ∀ i, i < n → tf i = nI (t i)) (x : Int32) : Same (fun o Q => wR_L_workingSet (nI n) pg x o Q) (fun th Q => wR_X10_workingSet (nI w) (nI n) tf x th Q) := by
  have bad : (x < 0 ∨ nI n ≤ x) → Same (fun o Q => wR_L_workingSet (nI n) pg x o Q) (fun th Q => wR_X10_workingSet (nI w) (nI n) tf x th Q) := fun hx => by
    refine ⟨1, 0, fun o Q h => Or.inl ⟨kx_ckTouch hn hx, h _ (fun e => absurd e n10)⟩, fun th Q h => m_tIn hn (fun j hj e => ?_) (fun _ => ip rfl (gwE n10 (ip rfl (h _ (fun e => absurd e n10)))))⟩
    have := out_int (n := n) (by omega) hx
    rw [e, nI_toInt (by omega)] at this
    omega
  rcases pk_ix x (n := n) (by omega) with h | h | ⟨j, hj, rfl⟩
  · exact bad (Or.inl h)
  · exact bad (Or.inr h)
  · refine ⟨0, nI (wsz w t j), fun o Q h => Or.inr (k_ckTouch hj hn ⟨vp_in_nI (by omega) (by omega), vp00, h _ (fun _ => ?_)⟩), fun th Q h => m_tIn hn (fun _ _ _ => iq (by decide) (gw0 (iq (by decide) (m_set hn hj hw1 hw ht htf (h _ (fun _ => rfl)))))) (fun hx => ?_)⟩
    · rw [nI_clamp (by omega), hpg j hj]; exact outv
    · have := out_int (n := n) (by omega) hx
      rw [nI_toInt (by omega)] at this
      omega
theorem q_faults {f0 f1 f2 f3 : Int32} {fm : Nat → Int32} (h0 : fm 0 = f0) (h1 : fm 1 = f1) (h2 : fm 2 = f2) (h3 : fm 3 = f3) (x : Int32) : Same (fun o Q => wR_L_faults f0 f1 f2 f3 x o Q) (fun th Q => wR_X10_faults fm x th Q) := by
  rcases in_cases x 0 3 (by omega) with ⟨k, _, hk, rfl⟩ | hx
  · refine ⟨0, fm k, fun o Q h => Or.inr (k_pol (by omega) (four (by omega) (fun e => ⟨vp00, h _ (fun _ => ?_)⟩) (fun e => ⟨vp00, h _ (fun _ => ?_)⟩) (fun e => ⟨vp00, h _ (fun _ => ?_)⟩) (fun e => ⟨vp00, h _ (fun _ => ?_)⟩))), fun th Q h => m_polY (by omega) (iq (by decide) (gw0 (iq (by decide) ⟨vp_in_nI (by omega) (by omega), h _ (fun _ => ?_)⟩)))⟩
    · rw [e, h0]; exact outv
    · rw [e, h1]; exact outv
    · rw [e, h2]; exact outv
    · rw [e, h3]; exact outv
    · rw [nI_clamp (by omega)]
  · exact ⟨1, 0, fun o Q h => Or.inl ⟨kx_pol hx, h _ (fun e => absurd e n10)⟩, fun th Q h => m_polN hx (ip rfl (gwE n10 (ip rfl (h _ (fun e => absurd e n10)))))⟩
theorem q_listSize {Ls : ALs} {b : Nat} {c1 c2 c3 c4 : Int32} {ls ss : Nat → Int32} (h1 : c1 = nI (Ls 1).length) (h2 : c2 = nI (Ls 2).length) (h3 : c3 = nI (Ls 3).length) (h4 : c4 = nI (Ls 4).length) (hr : AS ls ss Ls b) (x : Int32) : Same (fun o Q => wR_L_listSize c1 c2 c3 c4 x o Q) (fun th Q => wR_X10_listSize ls x th Q) := by
  rcases in_cases x 1 4 (by omega) with ⟨k, hk1, hk, rfl⟩ | hx
  · refine ⟨0, nI (Ls k).length, fun o Q h => Or.inr ?_, fun th Q h => m_inY (lo := 1) (hi := 4) hk1 hk (by omega) (iq (by decide) (gw0 (iq (by decide) (m_sizeOf hr hk1 hk (h _ (fun _ => rfl))))))⟩
    have e : k = 1 ∨ k = 2 ∨ k = 3 ∨ k = 4 := by omega
    rcases e with rfl | rfl | rfl | rfl
    · refine ⟨fun _ => Or.inl ⟨rfl, vp00, h _ (fun _ => by rw [h1]; exact outv)⟩, fun e => absurd e (by decide), fun e => absurd e (by decide), fun e => absurd e (by decide), fun e => by rw [nI_toInt (by omega)] at e; omega⟩
    · refine ⟨fun e => absurd e (by decide), fun _ => Or.inr (Or.inl ⟨rfl, vp00, h _ (fun _ => by rw [h2]; exact outv)⟩), fun e => absurd e (by decide), fun e => absurd e (by decide), fun e => by rw [nI_toInt (by omega)] at e; omega⟩
    · refine ⟨fun e => absurd e (by decide), fun e => absurd e (by decide), fun _ => Or.inr (Or.inr (Or.inl ⟨rfl, vp00, h _ (fun _ => by rw [h3]; exact outv)⟩)), fun e => absurd e (by decide), fun e => by rw [nI_toInt (by omega)] at e; omega⟩
    · refine ⟨fun e => absurd e (by decide), fun e => absurd e (by decide), fun e => absurd e (by decide), fun _ => Or.inr (Or.inr (Or.inr ⟨rfl, vp00, h _ (fun _ => by rw [h4]; exact outv)⟩)), fun e => by rw [nI_toInt (by omega)] at e; omega⟩
  · refine ⟨1, 0, fun o Q h => Or.inl ⟨⟨fun e => ?_, fun e => ?_, fun e => ?_, fun e => ?_, fun _ => rfl⟩, h _ (fun e => absurd e n10)⟩, fun th Q h => m_inN (lo := 1) (hi := 4) hx (by omega) (by omega) (ip rfl (gwE n10 (ip rfl (h _ (fun e => absurd e n10)))))⟩
    · rw [e, show (1 : Int32).toInt = 1 from rfl] at hx; omega
    · rw [e, show (2 : Int32).toInt = 2 from rfl] at hx; omega
    · rw [e, show (3 : Int32).toInt = 3 from rfl] at hx; omega
    · rw [e, show (4 : Int32).toInt = 4 from rfl] at hx; omega
theorem q_listOf {Ls : ALs} {b : Nat} {c1 c2 c3 c4 : Int32} {f1 f2 f3 f4 ls ss : Nat → Int32} (hB : Bas Ls) (r1 : PLr c1 f1 (Ls 1)) (r2 : PLr c2 f2 (Ls 2)) (r3 : PLr c3 f3 (Ls 3)) (r4 : PLr c4 f4 (Ls 4)) (hr : AS ls ss Ls b) (x : Int32) : Same (fun o Q => wR_L_listOf c1 f1 c2 f2 c3 f3 c4 f4 x o Q) (fun th Q => wR_X10_listOf ls x th Q) := by
  rcases pg_cases x with ⟨p, hp, rfl⟩ | hx
  · refine ⟨0, ls p, fun o Q h => Or.inr (k_ckPage hp ?_), fun th Q h => m_isPage hp (iq (by decide) (gw0 (iq (by decide) ⟨vp_in_nI hp (by omega), h _ (fun _ => by rw [nI_clamp (by omega)])⟩)))⟩
    have i1 := hr.inIff hp (i := 1) (by omega) (by omega)
    have i2 := hr.inIff hp (i := 2) (by omega) (by omega)
    have i3 := hr.inIff hp (i := 3) (by omega) (by omega)
    have i4 := hr.inIff hp (i := 4) (by omega) (by omega)
    have i0 := hr.zIff hp
    refine k_contains r1 hp ?_
    by_cases e1 : p ∈ Ls 1
    · rw [if_pos e1]
      exact iq (by decide) ⟨vp00, h _ (fun _ => by rw [i1.mpr e1]; exact outv)⟩
    · rw [if_neg e1]
      refine ip rfl (k_contains r2 hp ?_)
      by_cases e2 : p ∈ Ls 2
      · rw [if_pos e2]
        exact iq (by decide) ⟨vp00, h _ (fun _ => by rw [i2.mpr e2]; exact outv)⟩
      · rw [if_neg e2]
        refine ip rfl (k_contains r3 hp ?_)
        by_cases e3 : p ∈ Ls 3
        · rw [if_pos e3]
          exact iq (by decide) ⟨vp00, h _ (fun _ => by rw [i3.mpr e3]; exact outv)⟩
        · rw [if_neg e3]
          refine ip rfl (k_contains r4 hp ?_)
          by_cases e4 : p ∈ Ls 4
          · rw [if_pos e4]
            exact iq (by decide) ⟨vp00, h _ (fun _ => by rw [i4.mpr e4]; exact outv)⟩
          · rw [if_neg e4]
            refine ip rfl ⟨vp00, h _ (fun _ => ?_)⟩
            rw [i0.mpr (fun i hi hi2 => by
              have : i = 1 ∨ i = 2 ∨ i = 3 ∨ i = 4 := by omega
              rcases this with rfl | rfl | rfl | rfl <;> assumption)]
            exact outv
  · exact ⟨1, 0, fun o Q h => Or.inl ⟨kx_ckPage hx, h _ (fun e => absurd e n10)⟩, fun th Q h => m_notPg hx (ip rfl (gwE n10 (ip rfl (h _ (fun e => absurd e n10)))))⟩
theorem q_refDist {D ld di : Nat → Int32} (h1 : ∀ i, i < 64 → ld i = D i) (h2 : ∀ i, i < 64 → di i = D i) (x : Int32) : Same (fun o Q => wR_L_refaultDistance ld x o Q) (fun th Q => wR_X10_refaultDistance di x th Q) := by
  rcases pg_cases x with ⟨p, hp, rfl⟩ | hx
  · have hcl : (nI p).toNatClampNeg = p := nI_clamp (by omega)
    by_cases e : D p = -1
    · refine ⟨2, 0, fun o Q h => Or.inr (Or.inl ⟨Or.inr (k_ckPage hp ⟨vp_in_nI hp (by omega), jq ?_ rfl⟩), h _ (fun e => absurd e n20)⟩), fun th Q h => m_isPage hp (jp (by decide) ⟨vp_in_nI hp (by omega), jq ?_ (gwE n20 (ip rfl (h _ (fun e => absurd e n20))))⟩)⟩
      · rw [hcl, h1 p hp]; exact e
      · rw [hcl, h2 p hp]; exact e
    · refine ⟨0, D p, fun o Q h => Or.inr (Or.inr (k_ckPage hp ⟨vp_in_nI hp (by omega), jp ?_ ⟨vp00, h _ (fun _ => ?_)⟩⟩)), fun th Q h => m_isPage hp (jp (by decide) ⟨vp_in_nI hp (by omega), jp ?_ (gw0 (iq (by decide) ⟨vp_in_nI hp (by omega), h _ (fun _ => ?_)⟩))⟩)⟩
      · rw [hcl, h1 p hp]; exact e
      · rw [hcl, h1 p hp]; exact outv
      · rw [hcl, h2 p hp]; exact e
      · rw [hcl, h2 p hp]
  · exact ⟨1, 0, fun o Q h => Or.inl ⟨Or.inl (kx_ckPage hx), h _ (fun e => absurd e n10)⟩, fun th Q h => m_notPg hx (jq rfl (gwE n10 (ip rfl (h _ (fun e => absurd e n10)))))⟩
def sumI (f : Nat → Int32) : Nat → Int32
  | 0 => 0
  | k + 1 => sumI f k + f k
theorem q_refaults {K ra dm : Nat → Int32} (h1 : ∀ i, i < 401 → ra i = K i) (h2 : ∀ i, i < 401 → dm i = K i) (x : Int32) : Same (fun o Q => wR_L_refaults ra x o Q) (fun th Q => wR_X10_refaults dm x th Q) := by
  rcases in_cases x 0 400 (by omega) with ⟨k, _, hk, rfl⟩ | hx
  · refine ⟨0, sumI K (k + 1), fun o Q h => Or.inr (iq (nI_pos (by omega)) (ip (nI_le (b := 400) hk (by omega)) ?_)), fun th Q h => m_inY (lo := 0) (hi := 400) (by omega) hk (by omega) (iq (by decide) (gw0 (jp (by decide) ?_)))⟩
    · intro I hI
      have key : ∀ d i, i + d = k + 1 → I (sumI K i) (nI i) := by
        intro d
        induction d with
        | zero =>
          intro i hi
          apply hI
          have e : i = k + 1 := by omega
          subst e
          exact ip (nI_lt (by omega) (by omega)) ⟨vp00, h _ (fun _ => outv)⟩
        | succ d ih =>
          intro i hi
          apply hI
          refine iq (nI_nlt (by omega) (by omega)) ⟨vp_in_nI (by omega) (by omega), ?_⟩
          rw [nI_clamp (by omega), h1 i (by omega), nI_1]
          exact ih (i + 1) (by omega)
      exact key (k + 1) 0 (by omega)
    · intro I hI
      have key : ∀ d i, i + d = k + 1 → I (sumI K i) (nI i) 0 := by
        intro d
        induction d with
        | zero =>
          intro i hi
          apply hI
          have e : i = k + 1 := by omega
          subst e
          exact ip (nI_lt (by omega) (by omega)) (h _ (fun _ => rfl))
        | succ d ih =>
          intro i hi
          apply hI
          refine iq (nI_nlt (by omega) (by omega)) ⟨vp_in_nI (by omega) (by omega), ?_⟩
          rw [nI_clamp (by omega), h2 i (by omega), nI_1]
          exact ih (i + 1) (by omega)
      exact key (k + 1) 0 (by omega)
  · refine ⟨1, 0, fun o Q h => Or.inl ⟨?_, h _ (fun e => absurd e n10)⟩, fun th Q h => m_inN (lo := 0) (hi := 400) hx (by omega) (by omega) (ip rfl (gwE n10 (jq rfl (h _ (fun e => absurd e n10)))))⟩
    unfold wX_X9_refaults
    rw [show (0 : Int32) = nI 0 from rfl, show (400 : Int32) = nI 400 from rfl, lt_int (by omega), le_int (by omega)]
    exact ⟨fun _ => rfl, fun c => ⟨fun c2 => by omega, fun _ => rfl⟩⟩
