/-! PURE: the law's curves -/
theorem cq_best {m w k : Nat} {z : ASt} {pg : Nat → Int32} (hi : AInvZ m w z) (hpg : ∀ i, i < z.1 → pg i = nI (z.2.1 i)) (h1 : 1 ≤ k) (h2 : k ≤ 16) {n1 n2 n3 : Nat → Int32} {Q : Int32 → (Nat → Int32) → (Nat → Int32) → (Nat → Int32) → Prop} (h : ∀ n1 n2 n3, Q (nI (BF z k)) n1 n2 n3) : wR_X9_bestFaults (nI z.1) pg (nI k) n1 n2 n3 Q := k_ckFr h1 h2 (c_bel hi.2.2.2.2.1 h1 h2 hi.2.2.2.2.2.1 hpg h)
theorem cq_fw {m w : Nat} {z : ASt} {r1 r2 r3 : Int32} {r4 r5 r6 r7 : Nat → Int32} {c1 c2 c3 : Int32} {c4 c5 : Nat → Int32} {a1 a2 a3 : Int32} {a4 : Nat → Int32} {a5 : Int32} {a6 : Nat → Int32} {a7 : Int32} {a8 : Nat → Int32} {a9 : Int32} {a10 : Nat → Int32} {s1 s2 s3 s4 s5 s6 s7 s8 : Int32} {s9 s10 : Nat → Int32} {h2 : Int32} {h3 h4 h5 h6 : Nat → Int32} (hi : AInvZ m w z) (hc : SeeZ m w z r1 r2 r3 r4 r5 r6 r7 c1 c2 c3 c4 c5 a1 a2 a3 a4 a5 a6 a7 a8 a9 a10 s1 s2 s3 s4 s5 s6 s7 s8 s9 s10 (nI z.1) h2 h3 h4 h5 h6) {k : Nat} (k1 : 1 ≤ k) (k2 : k ≤ 16) {Q : Int32 → Prop} (h : Q (nI (FW z k))) : wR_X9_faultsWith (nI z.1) h6 (nI k) Q := k_ckFr k1 k2 (k_fwith hc.2.2.2.2 hi.2.2.2.2.1 k2 h)
theorem cq_ws {w n j : Nat} {t : Nat → Nat} {ss : Nat → Int32} (hn : n ≤ 400) (hs : ∀ i, i < n → ss i = nI (wsz w t i)) (hj : j < n) {Q : Int32 → Prop} (h : Q (nI (wsz w t j))) : wR_X9_workingSet (nI n) ss (nI j) Q := k_ckTouch hj hn ⟨vp_in_nI (by omega) (by omega), by rw [nI_clamp (by omega), hs j hj]; exact h⟩
theorem cq_refs {ra : Nat → Int32} {K : Nat → Nat} (hK : ∀ j, j < 401 → ra j = nI (K j)) {d : Nat} (hd : d ≤ 400) {Q : Int32 → Prop} (h : Q (nI (sumN K (d + 1)))) : wR_X9_refaults ra (nI d) Q := by
  refine iq (nI_pos (by omega)) (ip (nI_le (b := 400) hd (by omega)) ?_)
  intro I hI
  have key : ∀ e j, j + e = d + 1 → I (nI (sumN K j)) (nI j) := by
    intro e
    induction e with
    | zero =>
      intro j hj
      have ej : j = d + 1 := by omega
      subst ej
      exact hI _ _ (ip (nI_lt (by omega) (by omega)) h)
    | succ e ih =>
      intro j hj
      refine hI _ _ (iq (nI_nlt (by omega) (by omega)) ⟨vp_in_nI (by omega) (by omega), ?_⟩)
      rw [nI_clamp (by omega), hK j (by omega), nI_add, nI_1]
      exact ih (j + 1) (by omega)
  exact key (d + 1) 0 (by omega)
theorem cq_ratio3 {m w : Nat} {z : ASt} {pg : Nat → Int32} (hi : AInvZ m w z) (hpg : ∀ i, i < z.1 → pg i = nI (z.2.1 i)) (hn : 1 ≤ z.1) {rF cF aF sF : Int32} {n1 n2 n3 : Nat → Int32} {Q : UInt32 → (Nat → Int32) → (Nat → Int32) → (Nat → Int32) → Prop} (h : ∀ n1 n2 n3, Q (FP.fdiv (FP.i2f sF) (FP.i2f (nI (BF z m)))) n1 n2 n3) : wR_X9_ratio (nI m) rF cF aF sF (nI z.1) pg 3 n1 n2 n3 Q := by
  have hne : ¬ nI (BF z m) = 0 := nI_ne0 (BF_pos hi hi.1 hn) (by have := BF_le hi hi.1; omega)
  exact k_pol (k := 3) (by omega) (Or.inr (Or.inr (Or.inr ⟨rfl, c_bel hi.2.2.2.2.1 hi.1 hi.2.1 hi.2.2.2.2.2.1 hpg (fun n1 n2 n3 => jp hne ⟨fl_ok hne, h n1 n2 n3⟩)⟩)))
theorem lq_c259 {m w : Nat} {z : ASt} {r1 r2 r3 : Int32} {r4 r5 r6 r7 : Nat → Int32} {c1 c2 c3 : Int32} {c4 c5 : Nat → Int32} {a1 a2 a3 : Int32} {a4 : Nat → Int32} {a5 : Int32} {a6 : Nat → Int32} {a7 : Int32} {a8 : Nat → Int32} {a9 : Int32} {a10 : Nat → Int32} {s1 s2 s3 s4 s5 s6 s7 s8 : Int32} {s9 s10 : Nat → Int32} {h2 : Int32} {h3 h4 h5 h6 : Nat → Int32} (hi : AInvZ m w z) (hc : SeeZ m w z r1 r2 r3 r4 r5 r6 r7 c1 c2 c3 c4 c5 a1 a2 a3 a4 a5 a6 a7 a8 a9 a10 s1 s2 s3 s4 s5 s6 s7 s8 s9 s10 (nI z.1) h2 h3 h4 h5 h6) {n1 n2 n3 : Nat → Int32} {Q : Int32 → (Nat → Int32) → (Nat → Int32) → (Nat → Int32) → Prop} (h : ∀ n1 n2 n3, Q 1 n1 n2 n3) : wR_L_areCurvesSo_259 (nI m) r1 r7 c1 a1 s1 (nI z.1) h3 h4 h6 (nI m) (nI w) Q 1 0 n1 n2 n3 := by
  obtain ⟨g1, g2, g3, g4, g5⟩ := id hc
  have hi0 := hi
  obtain ⟨i1, i2, i3, i4, i5, i6, i7, i8, i9, i10⟩ := hi0
  intro I hI
  have key : ∀ d j, j + d = z.1 → ∀ n1 n2 n3, I 1 (nI j) n1 n2 n3 := by
    intro d
    induction d with
    | zero =>
      intro j hj n1 n2 n3
      have ej : j = z.1 := by omega
      subst ej
      refine hI _ _ _ _ _ (ip (nI_le (Nat.le_refl _) (by omega)) (iq (by decide) ?_))
      by_cases c : z.1 = 0
      · exact ip (by rw [c]; rfl) ⟨Or.inr rfl, h n1 n2 n3⟩
      · refine iq (nI_ne0 (by omega) (by omega)) (cq_ratio3 hi g5.2.2.1 (by omega) (fun n1 n2 n3 => cq_faults hc (k := 3) (by omega) (cq_best hi g5.2.2.1 i1 i2 (fun n1 n2 n3 => ?_))))
        have hne : ¬ nI (BF z m) = 0 := nI_ne0 (BF_pos hi i1 (by omega)) (by have := BF_le hi i1; omega)
        have e1 : s1 = nI (fN z.2.2.1 z.2.2.2.1 z.2.2.2.2.1 z.2.2.2.2.2 3) := g4.1
        rw [e1]
        exact ⟨fl_ok hne, jq (fcmp_own (fl_ok hne)) ⟨Or.inr rfl, h n1 n2 n3⟩⟩
    | succ d ih =>
      intro j hj n1 n2 n3
      have hw := wsz_ok (w := w) (t := z.2.1) (n := z.1) (j := j) i3 i6 (by omega)
      refine hI _ _ _ _ _ (iq (fun hh => absurd ((nI_leI (by omega) (by omega)).mp hh) (by omega)) (cq_ws i5 g5.2.2.2.1 (by omega) (iq (by decide) (iq (nI_nlt (b := 1) hw.1 (by omega)) (iq (nI_nlt hw.2.1 (by omega)) (iq ?_ ?_))))))
      · rw [nI_1]; exact nI_nlt hw.2.2 (by omega)
      · show I 1 (nI j + 1) n1 n2 n3
        rw [nI_1]
        exact ih (j + 1) (by omega) n1 n2 n3
  exact key z.1 0 (by omega) n1 n2 n3
theorem lq_c218 {m w : Nat} {z : ASt} {r1 r2 r3 : Int32} {r4 r5 r6 r7 : Nat → Int32} {c1 c2 c3 : Int32} {c4 c5 : Nat → Int32} {a1 a2 a3 : Int32} {a4 : Nat → Int32} {a5 : Int32} {a6 : Nat → Int32} {a7 : Int32} {a8 : Nat → Int32} {a9 : Int32} {a10 : Nat → Int32} {s1 s2 s3 s4 s5 s6 s7 s8 : Int32} {s9 s10 : Nat → Int32} {h2 : Int32} {h3 h4 h5 h6 : Nat → Int32} (hi : AInvZ m w z) (hz : HZ m z) (hc : SeeZ m w z r1 r2 r3 r4 r5 r6 r7 c1 c2 c3 c4 c5 a1 a2 a3 a4 a5 a6 a7 a8 a9 a10 s1 s2 s3 s4 s5 s6 s7 s8 s9 s10 (nI z.1) h2 h3 h4 h5 h6) {n1 n2 n3 : Nat → Int32} {Q : Int32 → (Nat → Int32) → (Nat → Int32) → (Nat → Int32) → Prop} (h : ∀ n1 n2 n3, Q 1 n1 n2 n3) : wR_L_areCurvesSo_218 (nI m) r1 r7 c1 a1 s1 (nI z.1) h3 h4 h6 (nI m) (nI w) Q 1 0 n1 n2 n3 := by
  obtain ⟨g1, g2, g3, g4, g5⟩ := id hc
  intro I hI
  have key : ∀ d j, j + d = 3 → ∀ n1 n2 n3, I 1 (nI j) n1 n2 n3 := by
    intro d
    induction d with
    | zero =>
      intro j hj n1 n2 n3
      have ej : j = 3 := by omega
      subst ej
      exact hI _ _ _ _ _ (ip (nI_le (a := 3) (Nat.le_refl _) (by omega)) (lq_c259 hi hc h))
    | succ d ih =>
      intro j hj n1 n2 n3
      obtain ⟨F, f1, f2, f3⟩ := cur_pol (k := j) hi hz (by omega)
      refine hI _ _ _ _ _ (iq (fun hh => absurd ((nI_leI (a := 3) (by omega) (by omega)).mp hh) (by omega)) (iq (by decide) (cq_faults hc (k := j) (by omega) (cq_best hi g5.2.2.1 hi.1 hi.2.1 (fun n1 n2 n3 => iq ?_ ?_)))))
      · have e1 : nI (fN z.2.2.1 z.2.2.2.1 z.2.2.2.2.1 z.2.2.2.2.2 j) = nI F := f1
        rw [e1]; exact nI_nlt f3 (by omega)
      · show I 1 (nI j + 1) n1 n2 n3
        rw [nI_1]
        exact ih (j + 1) (by omega) n1 n2 n3
  exact key 3 0 (by omega) n1 n2 n3
theorem lq_c129 {m w : Nat} {z : ASt} {r1 r2 r3 : Int32} {r4 r5 r6 r7 : Nat → Int32} {c1 c2 c3 : Int32} {c4 c5 : Nat → Int32} {a1 a2 a3 : Int32} {a4 : Nat → Int32} {a5 : Int32} {a6 : Nat → Int32} {a7 : Int32} {a8 : Nat → Int32} {a9 : Int32} {a10 : Nat → Int32} {s1 s2 s3 s4 s5 s6 s7 s8 : Int32} {s9 s10 : Nat → Int32} {h2 : Int32} {h3 h4 h5 h6 : Nat → Int32} (hi : AInvZ m w z) (hz : HZ m z) (hc : SeeZ m w z r1 r2 r3 r4 r5 r6 r7 c1 c2 c3 c4 c5 a1 a2 a3 a4 a5 a6 a7 a8 a9 a10 s1 s2 s3 s4 s5 s6 s7 s8 s9 s10 (nI z.1) h2 h3 h4 h5 h6) {n1 n2 n3 : Nat → Int32} {Q : Int32 → (Nat → Int32) → (Nat → Int32) → (Nat → Int32) → Prop} (h : ∀ n1 n2 n3, Q 1 n1 n2 n3) : wR_L_areCurvesSo_129 (nI m) r1 r7 c1 a1 s1 (nI z.1) h3 h4 h6 (nI m) (nI w) Q (nI (psz z.2.1 z.1 0)) 1 1 n1 n2 n3 := by
  obtain ⟨g1, g2, g3, g4, g5⟩ := id hc
  intro I hI
  have key : ∀ d k, k + d = 17 → 1 ≤ k → ∀ n1 n2 n3, I (nI (psz z.2.1 z.1 0)) 1 (nI k) n1 n2 n3 := by
    intro d
    induction d with
    | zero =>
      intro k hk _ n1 n2 n3
      have ek : k = 17 := by omega
      subst ek
      exact hI _ _ _ _ _ _ (ip (nI_lt (a := 16) (by omega) (by omega)) (lq_c218 hi hz hc h))
    | succ d ih =>
      intro k hk k1 n1 n2 n3
      have b1 := BF_le hi k1
      have b2 := FW_le (k := k) hi
      have goal : ∀ n1 n2 n3, I (nI (psz z.2.1 z.1 0)) 1 (nI k + 1) n1 n2 n3 := fun n1 n2 n3 => by
        rw [nI_1]
        exact ih (k + 1) (by omega) (by omega) n1 n2 n3
      refine hI _ _ _ _ _ _ (iq (nI_nlt (a := 16) (by omega) (by omega)) (cq_best hi g5.2.2.1 k1 (by omega) (fun n1 n2 n3 => iq (by decide) (cq_fw hi hc k1 (by omega) (iq (nI_nlt (cur_le hi k1 (by omega)) (by omega)) (iq (nI_nlt (cur_first hi k1) (by omega)) ?_))))))
      by_cases c : k = 1
      · subst c
        exact ip rfl (goal n1 n2 n3)
      · obtain ⟨j, rfl⟩ : ∃ j, k = j + 1 := ⟨k - 1, by omega⟩
        have c1 : ¬ nI (j + 1) = 1 := fun e => by
          have := congrArg Int32.toInt e
          rw [nI_toInt (by omega)] at this
          have e2 : (1 : Int32).toInt = 1 := by decide
          omega
        refine iq c1 ?_
        rw [nI_sub1]
        have b3 := BF_le hi (show 1 ≤ j by omega)
        have b4 := FW_le (k := j) hi
        exact cq_best hi g5.2.2.1 (by omega) (by omega) (fun n1 n2 n3 => iq (nI_nlt (cur_bmono hi (by omega)) (by omega)) (cq_fw hi hc k1 (by omega) (cq_fw hi hc (by omega) (by omega) (iq (nI_nlt cur_fmono (by omega)) (goal n1 n2 n3)))))
  exact key 16 1 (by omega) (by omega) n1 n2 n3
theorem lq_curves {m w : Nat} {z : ASt} {r1 r2 r3 : Int32} {r4 r5 r6 r7 : Nat → Int32} {c1 c2 c3 : Int32} {c4 c5 : Nat → Int32} {a1 a2 a3 : Int32} {a4 : Nat → Int32} {a5 : Int32} {a6 : Nat → Int32} {a7 : Int32} {a8 : Nat → Int32} {a9 : Int32} {a10 : Nat → Int32} {s1 s2 s3 s4 s5 s6 s7 s8 : Int32} {s9 s10 : Nat → Int32} {h2 : Int32} {h3 h4 h5 h6 : Nat → Int32} (hi : AInvZ m w z) (hz : HZ m z) (hc : SeeZ m w z r1 r2 r3 r4 r5 r6 r7 c1 c2 c3 c4 c5 a1 a2 a3 a4 a5 a6 a7 a8 a9 a10 s1 s2 s3 s4 s5 s6 s7 s8 s9 s10 (nI z.1) h2 h3 h4 h5 h6) {n1 n2 n3 : Nat → Int32} {Q : Int32 → (Nat → Int32) → (Nat → Int32) → (Nat → Int32) → Prop} (h : ∀ n1 n2 n3, Q 1 n1 n2 n3) : wR_L_areCurvesSo (nI m) r1 r7 c1 a1 s1 (nI z.1) h3 h4 h6 (nI m) (nI w) n1 n2 n3 Q := by
  obtain ⟨g1, g2, g3, g4, g5⟩ := id hc
  have hi0 := hi
  obtain ⟨i1, i2, i3, i4, i5, i6, i7, i8, i9, i10⟩ := hi0
  intro I5 hI5
  have key : ∀ d p, p + d = 64 → ∀ n1 n2 n3, I5 (nI (cntB (fun q => decide (0 < lst z.2.1 z.1 q)) p)) (nI p) n1 n2 n3 := by
    intro d
    induction d with
    | zero =>
      intro p hp n1 n2 n3
      have ep : p = 64 := by omega
      subst ep
      have eD : cntB (fun q => decide (0 < lst z.2.1 z.1 q)) 64 = psz z.2.1 z.1 0 := rfl
      rw [eD]
      obtain ⟨K, k1, k2, k3⟩ := cur_ref hi hz
      have hK : ∀ j, j < 401 → r7 j = nI (K j) := fun j hj => (g1.2.2.2.2.2 j hj).trans (k1 j)
      have e0 : fN z.2.2.1 z.2.2.2.1 z.2.2.2.2.1 z.2.2.2.2.2 0 = fNz z 0 := rfl
      have s12 : sumN K (1 + 1) = sumN K (0 + 1) + K 1 := rfl
      have s01 : sumN K (0 + 1) = 0 + K 0 := rfl
      have t0 := k3 0
      have t1 := k3 1
      refine hI5 _ _ _ _ _ (ip (nI_le (a := 64) (Nat.le_refl _) (by omega)) (cq_fw hi hc i1 i2 (cq_faults hc (k := 0) (by omega) (jq (cur_0 hi hz).symm (cq_refs (d := 400) hK (by omega) (cq_faults hc (k := 0) (by omega) (jq ?_ (cq_refs (d := 0) hK (by omega) (cq_refs (d := 1) hK (by omega) (iq (nI_nlt (by omega) (by omega)) (cq_fw hi hc (k := 1) (by omega) (by omega) (cq_best hi g5.2.2.1 (k := 1) (by omega) (by omega) (fun n1 n2 n3 => jq (by rw [cur_one hi]) (lq_c129 hi hz hc h))))))))))))))
      have k2' : sumN K (400 + 1) + psz z.2.1 z.1 0 = fNz z 0 := k2
      rw [e0, nI_sub (by omega)]
      exact congrArg nI (by omega)
    | succ d ih =>
      intro p hp n1 n2 n3
      refine hI5 _ _ _ _ _ (iq (nI_le64 (by omega)) ?_)
      intro I hI
      have inn : ∀ e j, j + e = z.1 → ∀ n1 n2 n3, I (nI (cntB (fun q => decide (0 < lst z.2.1 z.1 q)) p)) (nI p) (bI (decide (0 < lst z.2.1 j p))) (nI j) n1 n2 n3 := by
        intro e
        induction e with
        | zero =>
          intro j hj n1 n2 n3
          have ej : j = z.1 := by omega
          subst ej
          refine hI _ _ _ _ _ _ _ (ip (nI_le (Nat.le_refl _) (by omega)) ?_)
          show I5 (nI (cntB (fun q => decide (0 < lst z.2.1 z.1 q)) p) + bI (decide (0 < lst z.2.1 z.1 p))) (nI p + 1) n1 n2 n3
          have eb : nI (cntB (fun q => decide (0 < lst z.2.1 z.1 q)) p) + bI (decide (0 < lst z.2.1 z.1 p)) = nI (cntB (fun q => decide (0 < lst z.2.1 z.1 q)) (p + 1)) := by
            show _ = nI (cntB (fun q => decide (0 < lst z.2.1 z.1 q)) p + (if decide (0 < lst z.2.1 z.1 p) = true then 1 else 0))
            cases decide (0 < lst z.2.1 z.1 p) with
            | true => exact nI_1 _
            | false => exact nI_add _ 0
          rw [eb, nI_1]
          exact ih (p + 1) (by omega) n1 n2 n3
        | succ e ihe =>
          intro j hj n1 n2 n3
          have hn := ihe (j + 1) (by omega) n1 n2 n3
          rw [lst_s] at hn
          refine hI _ _ _ _ _ _ _ (iq (fun hh => absurd ((nI_leI (by omega) (by omega)).mp hh) (by omega)) (cq_pageOf i5 g5.2.2.1 (by omega) ?_))
          have ht := i6 j (by omega)
          by_cases c : z.2.1 j = p
          · refine jq (by rw [c]) ?_
            show I _ (nI p) 1 (nI j + 1) n1 n2 n3
            rw [if_pos c, decide_eq_true (Nat.succ_pos j)] at hn
            rw [nI_1]
            exact hn
          · have c1 : ¬ nI (z.2.1 j) = nI p := fun e => c (by
              have := congrArg Int32.toInt e
              rw [nI_toInt (by omega), nI_toInt (by omega)] at this
              omega)
            refine jp c1 ?_
            show I _ (nI p) _ (nI j + 1) n1 n2 n3
            rw [if_neg c] at hn
            rw [nI_1]
            exact hn
      exact inn z.1 0 (by omega) n1 n2 n3
  exact key 64 0 (by omega) n1 n2 n3
