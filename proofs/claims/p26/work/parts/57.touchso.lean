/-! PURE: a touch by all policies, twice -/
theorem cq_touch {m w n : Nat} {t : Nat → Nat} {r : ARec} {c : AClk} {a : AAda} {s : AStr} {p : Nat} {r1 r2 r3 : Int32} {r4 r5 r6 r7 : Nat → Int32} {c1 c2 c3 : Int32} {c4 c5 : Nat → Int32} {a1 a2 a3 : Int32} {a4 : Nat → Int32} {a5 : Int32} {a6 : Nat → Int32} {a7 : Int32} {a8 : Nat → Int32} {a9 : Int32} {a10 : Nat → Int32} {s1 s2 s3 s4 s5 s6 s7 s8 : Int32} {s9 s10 : Nat → Int32} {h1 h2 : Int32} {h3 h4 h5 h6 : Nat → Int32} (hi : AInv m w n t r c a s) (hn : n < 400) (hp : p < 64) (hc : SeeC m w n t r c a s r1 r2 r3 r4 r5 r6 r7 c1 c2 c3 c4 c5 a1 a2 a3 a4 a5 a6 a7 a8 a9 a10 s1 s2 s3 s4 s5 s6 s7 s8 s9 s10 h1 h2 h3 h4 h5 h6) {Q : Int32 → Int32 → Int32 → Int32 → (Nat → Int32) → (Nat → Int32) → (Nat → Int32) → (Nat → Int32) → Int32 → Int32 → Int32 → (Nat → Int32) → (Nat → Int32) → Int32 → Int32 → Int32 → (Nat → Int32) → Int32 → (Nat → Int32) → Int32 → (Nat → Int32) → Int32 → (Nat → Int32) → Int32 → Int32 → Int32 → Int32 → Int32 → Int32 → Int32 → Int32 → (Nat → Int32) → (Nat → Int32) → Int32 → Int32 → (Nat → Int32) → (Nat → Int32) → (Nat → Int32) → (Nat → Int32) → Prop} (h : ∀ r1'' r2'' r3'' r4'' r5'' r6'' r7'' c1'' c2'' c3'' c4'' c5'' a1'' a2'' a3'' a4'' a5'' a6'' a7'' a8'' a9'' a10'' s1'' s2'' s3'' s4'' s5'' s6'' s7'' s8'' s9'' s10'' h1'' h2'' h3'' h4'' h5'' h6'', SeeC m w (n + 1) (fset t n p) (recStep m p r) (clkStep m p c) (adaStep m p a) (strStep m n t p s) r1'' r2'' r3'' r4'' r5'' r6'' r7'' c1'' c2'' c3'' c4'' c5'' a1'' a2'' a3'' a4'' a5'' a6'' a7'' a8'' a9'' a10'' s1'' s2'' s3'' s4'' s5'' s6'' s7'' s8'' s9'' s10'' h1'' h2'' h3'' h4'' h5'' h6'' → Q (fv (recFault p r) (clkFault p c) (adaFault p a) (strFault p s)) r1'' r2'' r3'' r4'' r5'' r6'' r7'' c1'' c2'' c3'' c4'' c5'' a1'' a2'' a3'' a4'' a5'' a6'' a7'' a8'' a9'' a10'' s1'' s2'' s3'' s4'' s5'' s6'' s7'' s8'' s9'' s10'' h1'' h2'' h3'' h4'' h5'' h6'') : wR_X9_touch (nI m) (nI m) (nI m) (nI m) (nI w) (nI p) r1 r2 r3 r4 r5 r6 r7 c1 c2 c3 c4 c5 a1 a2 a3 a4 a5 a6 a7 a8 a9 a10 s1 s2 s3 s4 s5 s6 s7 s8 s9 s10 h1 h2 h3 h4 h5 h6 Q := by
  have n400 := hi.2.2.2.2.1
  have hh1 : h1 = nI n := hc.2.2.2.2.1
  refine k_ckPage hp ?_
  have := ck_room (n := n) (k := 1) n400 (by omega) (by omega) (c_all hi hn hp hc h)
  rw [← hh1] at this
  exact this
theorem lq_touch112 {m w n : Nat} {t : Nat → Nat} {r : ARec} {c : AClk} {a : AAda} {s : AStr} {p : Nat} {r1'' r2'' r3'' : Int32} {r4'' r5'' r6'' r7'' : Nat → Int32} {c1'' c2'' c3'' : Int32} {c4'' c5'' : Nat → Int32} {a1'' a2'' a3'' : Int32} {a4'' : Nat → Int32} {a5'' : Int32} {a6'' : Nat → Int32} {a7'' : Int32} {a8'' : Nat → Int32} {a9'' : Int32} {a10'' : Nat → Int32} {s1'' s2'' s3'' s4'' s5'' s6'' s7'' s8'' : Int32} {s9'' s10'' : Nat → Int32} {h1'' h2'' : Int32} {h3'' h4'' h5'' h6'' : Nat → Int32} {r1''' r2''' r3''' : Int32} {r4''' r5''' r6''' r7''' : Nat → Int32} {c1''' c2''' c3''' : Int32} {c4''' c5''' : Nat → Int32} {a1''' a2''' a3''' : Int32} {a4''' : Nat → Int32} {a5''' : Int32} {a6''' : Nat → Int32} {a7''' : Int32} {a8''' : Nat → Int32} {a9''' : Int32} {a10''' : Nat → Int32} {s1''' s2''' s3''' s4''' s5''' s6''' s7''' s8''' : Int32} {s9''' s10''' : Nat → Int32} {h1''' h2''' : Int32} {h3''' h4''' h5''' h6''' : Nat → Int32} (hi : AInv m w n t r c a s) (hn : n < 400) (hp : p < 64) (hc : SeeC m w (n + 1) (fset t n p) (recStep m p r) (clkStep m p c) (adaStep m p a) (strStep m n t p s) r1'' r2'' r3'' r4'' r5'' r6'' r7'' c1'' c2'' c3'' c4'' c5'' a1'' a2'' a3'' a4'' a5'' a6'' a7'' a8'' a9'' a10'' s1'' s2'' s3'' s4'' s5'' s6'' s7'' s8'' s9'' s10'' h1'' h2'' h3'' h4'' h5'' h6'') {Q : Int32 → Int32 → Int32 → Int32 → (Nat → Int32) → (Nat → Int32) → (Nat → Int32) → (Nat → Int32) → Int32 → Int32 → Int32 → (Nat → Int32) → (Nat → Int32) → Int32 → Int32 → Int32 → (Nat → Int32) → Int32 → (Nat → Int32) → Int32 → (Nat → Int32) → Int32 → (Nat → Int32) → Int32 → Int32 → Int32 → Int32 → Int32 → Int32 → Int32 → Int32 → (Nat → Int32) → (Nat → Int32) → Int32 → Int32 → (Nat → Int32) → (Nat → Int32) → (Nat → Int32) → (Nat → Int32) → Int32 → Int32 → Int32 → (Nat → Int32) → (Nat → Int32) → (Nat → Int32) → (Nat → Int32) → Int32 → Int32 → Int32 → (Nat → Int32) → (Nat → Int32) → Int32 → Int32 → Int32 → (Nat → Int32) → Int32 → (Nat → Int32) → Int32 → (Nat → Int32) → Int32 → (Nat → Int32) → Int32 → Int32 → Int32 → Int32 → Int32 → Int32 → Int32 → Int32 → (Nat → Int32) → (Nat → Int32) → Int32 → Int32 → (Nat → Int32) → (Nat → Int32) → (Nat → Int32) → (Nat → Int32) → Prop} (h : Q 1 r1'' r2'' r3'' r4'' r5'' r6'' r7'' c1'' c2'' c3'' c4'' c5'' a1'' a2'' a3'' a4'' a5'' a6'' a7'' a8'' a9'' a10'' s1'' s2'' s3'' s4'' s5'' s6'' s7'' s8'' s9'' s10'' h1'' h2'' h3'' h4'' h5'' h6'' r1''' r2''' r3''' r4''' r5''' r6''' r7''' c1''' c2''' c3''' c4''' c5''' a1''' a2''' a3''' a4''' a5''' a6''' a7''' a8''' a9''' a10''' s1''' s2''' s3''' s4''' s5''' s6''' s7''' s8''' s9''' s10''' h1''' h2''' h3''' h4''' h5''' h6''') : wR_L_isTouchSo_112 (nI m) (nI m) (nI m) (nI m) (nI w) (nI m) (nI m) (nI m) (nI m) (nI w) (nI p) Q (du (fun k => hB r c a s k p) 4) (fsum (fun k => nI (fN r c a s k)) 4) 1 0 r1'' r2'' r3'' r4'' r5'' r6'' r7'' c1'' c2'' c3'' c4'' c5'' a1'' a2'' a3'' a4'' a5'' a6'' a7'' a8'' a9'' a10'' s1'' s2'' s3'' s4'' s5'' s6'' s7'' s8'' s9'' s10'' h1'' h2'' h3'' h4'' h5'' h6'' r1''' r2''' r3''' r4''' r5''' r6''' r7''' c1''' c2''' c3''' c4''' c5''' a1''' a2''' a3''' a4''' a5''' a6''' a7''' a8''' a9''' a10''' s1''' s2''' s3''' s4''' s5''' s6''' s7''' s8''' s9''' s10''' h1''' h2''' h3''' h4''' h5''' h6''' := by
  intro I hI
  have fb : ∀ k, k < 4 → bf p r c a s k = 0 ∨ bf p r c a s k = 1 := fun k hk => by
    rw [bf_hB hk]
    split
    · exact Or.inl rfl
    · exact Or.inr rfl
  have b4 := fv_bits (fb 0 (by omega)) (fb 1 (by omega)) (fb 2 (by omega)) (fb 3 (by omega))
  have ed : du (fun k => hB r c a s k p) 4 = fv (bf p r c a s 0) (bf p r c a s 1) (bf p r c a s 2) (bf p r c a s 3) := by
    rw [du_fv, bf_hB (by omega), bf_hB (by omega), bf_hB (by omega), bf_hB (by omega)]
  have bit : ∀ k, k < 4 → (du (fun k => hB r c a s k p) 4 >>> (nI k &&& 31)) &&& 1 = bf p r c a s k := by
    intro k hk
    rw [ed]
    have hkk : k = 0 ∨ k = 1 ∨ k = 2 ∨ k = 3 := by omega
    rcases hkk with rfl | rfl | rfl | rfl
    · exact b4.1
    · exact b4.2.1
    · exact b4.2.2.1
    · exact b4.2.2.2
  have hi1 := hi.step hn hp
  generalize du (fun k => hB r c a s k p) 4 = X at bit ⊢
  have key : ∀ d k, k + d = 4 → I X (fdif (fsum (fun k => nI (fN r c a s k)) 4) (fun k => bf p r c a s k) (fun k => nI (fN (recStep m p r) (clkStep m p c) (adaStep m p a) (strStep m n t p s) k)) k) 1 (nI k) r1'' r2'' r3'' r4'' r5'' r6'' r7'' c1'' c2'' c3'' c4'' c5'' a1'' a2'' a3'' a4'' a5'' a6'' a7'' a8'' a9'' a10'' s1'' s2'' s3'' s4'' s5'' s6'' s7'' s8'' s9'' s10'' h1'' h2'' h3'' h4'' h5'' h6'' r1''' r2''' r3''' r4''' r5''' r6''' r7''' c1''' c2''' c3''' c4''' c5''' a1''' a2''' a3''' a4''' a5''' a6''' a7''' a8''' a9''' a10''' s1''' s2''' s3''' s4''' s5''' s6''' s7''' s8''' s9''' s10''' h1''' h2''' h3''' h4''' h5''' h6''' := by
    intro d
    induction d with
    | zero =>
      intro k hk
      have e : k = 4 := by omega
      subst e
      apply hI
      refine ip (nI_le (a := 4) (Nat.le_refl _) (by omega)) (iq (by decide) (jq ?_ (cq_isRef hi1 hc hp ?_)))
      · exact fdif_z _ _ _ (fun k hk => fN_step hk)
      · rw [rB_step hi.2.2.2.2.2.2.2.1 hi.1 hp]
        exact iq (by decide) ⟨Or.inr rfl, h⟩
    | succ d ih =>
      intro k hk
      have hk4 : k < 4 := by omega
      apply hI
      refine iq (nI_le4 hk4) (iq (by decide) (cq_holds hi1 hc hk4 hp ?_))
      rw [in_step hi hp hk4]
      refine iq (by decide) (cq_faults hc hk4 ?_)
      have := ih (k + 1) (by omega)
      show I X ((_ + ((X >>> (nI k &&& 31)) &&& 1)) - _) 1 (nI k + 1) _ _ _ _ _ _ _ _ _ _ _ _ _ _ _ _ _ _ _ _ _ _ _ _ _ _ _ _ _ _ _ _ _ _ _ _ _ _ _ _ _ _ _ _ _ _ _ _ _ _ _ _ _ _ _ _ _ _ _ _ _ _ _ _ _ _ _ _ _ _ _ _ _ _ _ _
      rw [nI_1, bit k hk4]
      exact this
  exact key 4 0 rfl
theorem lq_touchSo {m w n : Nat} {t : Nat → Nat} {r : ARec} {c : AClk} {a : AAda} {s : AStr} {p : Nat} {r1 r2 r3 : Int32} {r4 r5 r6 r7 : Nat → Int32} {c1 c2 c3 : Int32} {c4 c5 : Nat → Int32} {a1 a2 a3 : Int32} {a4 : Nat → Int32} {a5 : Int32} {a6 : Nat → Int32} {a7 : Int32} {a8 : Nat → Int32} {a9 : Int32} {a10 : Nat → Int32} {s1 s2 s3 s4 s5 s6 s7 s8 : Int32} {s9 s10 : Nat → Int32} {h1 h2 : Int32} {h3 h4 h5 h6 : Nat → Int32} {r1' r2' r3' : Int32} {r4' r5' r6' r7' : Nat → Int32} {c1' c2' c3' : Int32} {c4' c5' : Nat → Int32} {a1' a2' a3' : Int32} {a4' : Nat → Int32} {a5' : Int32} {a6' : Nat → Int32} {a7' : Int32} {a8' : Nat → Int32} {a9' : Int32} {a10' : Nat → Int32} {s1' s2' s3' s4' s5' s6' s7' s8' : Int32} {s9' s10' : Nat → Int32} {h1' h2' : Int32} {h3' h4' h5' h6' : Nat → Int32} (hi : AInv m w n t r c a s) (hn : n < 400) (hp : p < 64) (hc : SeeC m w n t r c a s r1 r2 r3 r4 r5 r6 r7 c1 c2 c3 c4 c5 a1 a2 a3 a4 a5 a6 a7 a8 a9 a10 s1 s2 s3 s4 s5 s6 s7 s8 s9 s10 h1 h2 h3 h4 h5 h6) (hc' : SeeC m w n t r c a s r1' r2' r3' r4' r5' r6' r7' c1' c2' c3' c4' c5' a1' a2' a3' a4' a5' a6' a7' a8' a9' a10' s1' s2' s3' s4' s5' s6' s7' s8' s9' s10' h1' h2' h3' h4' h5' h6') {Q : Int32 → Int32 → Int32 → Int32 → (Nat → Int32) → (Nat → Int32) → (Nat → Int32) → (Nat → Int32) → Int32 → Int32 → Int32 → (Nat → Int32) → (Nat → Int32) → Int32 → Int32 → Int32 → (Nat → Int32) → Int32 → (Nat → Int32) → Int32 → (Nat → Int32) → Int32 → (Nat → Int32) → Int32 → Int32 → Int32 → Int32 → Int32 → Int32 → Int32 → Int32 → (Nat → Int32) → (Nat → Int32) → Int32 → Int32 → (Nat → Int32) → (Nat → Int32) → (Nat → Int32) → (Nat → Int32) → Int32 → Int32 → Int32 → (Nat → Int32) → (Nat → Int32) → (Nat → Int32) → (Nat → Int32) → Int32 → Int32 → Int32 → (Nat → Int32) → (Nat → Int32) → Int32 → Int32 → Int32 → (Nat → Int32) → Int32 → (Nat → Int32) → Int32 → (Nat → Int32) → Int32 → (Nat → Int32) → Int32 → Int32 → Int32 → Int32 → Int32 → Int32 → Int32 → Int32 → (Nat → Int32) → (Nat → Int32) → Int32 → Int32 → (Nat → Int32) → (Nat → Int32) → (Nat → Int32) → (Nat → Int32) → Prop} (h : ∀ r1'' r2'' r3'' r4'' r5'' r6'' r7'' c1'' c2'' c3'' c4'' c5'' a1'' a2'' a3'' a4'' a5'' a6'' a7'' a8'' a9'' a10'' s1'' s2'' s3'' s4'' s5'' s6'' s7'' s8'' s9'' s10'' h1'' h2'' h3'' h4'' h5'' h6'' r1''' r2''' r3''' r4''' r5''' r6''' r7''' c1''' c2''' c3''' c4''' c5''' a1''' a2''' a3''' a4''' a5''' a6''' a7''' a8''' a9''' a10''' s1''' s2''' s3''' s4''' s5''' s6''' s7''' s8''' s9''' s10''' h1''' h2''' h3''' h4''' h5''' h6''', SeeC m w (n + 1) (fset t n p) (recStep m p r) (clkStep m p c) (adaStep m p a) (strStep m n t p s) r1'' r2'' r3'' r4'' r5'' r6'' r7'' c1'' c2'' c3'' c4'' c5'' a1'' a2'' a3'' a4'' a5'' a6'' a7'' a8'' a9'' a10'' s1'' s2'' s3'' s4'' s5'' s6'' s7'' s8'' s9'' s10'' h1'' h2'' h3'' h4'' h5'' h6'' → SeeC m w (n + 1) (fset t n p) (recStep m p r) (clkStep m p c) (adaStep m p a) (strStep m n t p s) r1''' r2''' r3''' r4''' r5''' r6''' r7''' c1''' c2''' c3''' c4''' c5''' a1''' a2''' a3''' a4''' a5''' a6''' a7''' a8''' a9''' a10''' s1''' s2''' s3''' s4''' s5''' s6''' s7''' s8''' s9''' s10''' h1''' h2''' h3''' h4''' h5''' h6''' → Q 1 r1'' r2'' r3'' r4'' r5'' r6'' r7'' c1'' c2'' c3'' c4'' c5'' a1'' a2'' a3'' a4'' a5'' a6'' a7'' a8'' a9'' a10'' s1'' s2'' s3'' s4'' s5'' s6'' s7'' s8'' s9'' s10'' h1'' h2'' h3'' h4'' h5'' h6'' r1''' r2''' r3''' r4''' r5''' r6''' r7''' c1''' c2''' c3''' c4''' c5''' a1''' a2''' a3''' a4''' a5''' a6''' a7''' a8''' a9''' a10''' s1''' s2''' s3''' s4''' s5''' s6''' s7''' s8''' s9''' s10''' h1''' h2''' h3''' h4''' h5''' h6''') : wR_L_isTouchSo (nI m) (nI m) (nI m) (nI m) (nI w) (nI m) (nI m) (nI m) (nI m) (nI w) (nI p) r1 r2 r3 r4 r5 r6 r7 c1 c2 c3 c4 c5 a1 a2 a3 a4 a5 a6 a7 a8 a9 a10 s1 s2 s3 s4 s5 s6 s7 s8 s9 s10 h1 h2 h3 h4 h5 h6 r1' r2' r3' r4' r5' r6' r7' c1' c2' c3' c4' c5' a1' a2' a3' a4' a5' a6' a7' a8' a9' a10' s1' s2' s3' s4' s5' s6' s7' s8' s9' s10' h1' h2' h3' h4' h5' h6' Q := by
  have e1 : h1 = nI n := hc.2.2.2.2.1
  subst e1
  intro I hI
  have ed : fv (recFault p r) (clkFault p c) (adaFault p a) (strFault p s) = du (fun k => hB r c a s k p) 4 := by
    have : fv (bf p r c a s 0) (bf p r c a s 1) (bf p r c a s 2) (bf p r c a s 3) = du (fun k => hB r c a s k p) 4 := by
      rw [du_fv, bf_hB (by omega), bf_hB (by omega), bf_hB (by omega), bf_hB (by omega)]
    exact this
  have key : ∀ d k, k + d = 4 → I (du (fun k => hB r c a s k p) k) (fsum (fun k => nI (fN r c a s k)) k) (nI k) r1 r2 r3 r4 r5 r6 r7 c1 c2 c3 c4 c5 a1 a2 a3 a4 a5 a6 a7 a8 a9 a10 s1 s2 s3 s4 s5 s6 s7 s8 s9 s10 (nI n) h2 h3 h4 h5 h6 r1' r2' r3' r4' r5' r6' r7' c1' c2' c3' c4' c5' a1' a2' a3' a4' a5' a6' a7' a8' a9' a10' s1' s2' s3' s4' s5' s6' s7' s8' s9' s10' h1' h2' h3' h4' h5' h6' := by
    intro d
    induction d with
    | zero =>
      intro k hk
      have e : k = 4 := by omega
      subst e
      apply hI
      refine ip (nI_le (a := 4) (Nat.le_refl _) (by omega)) (cq_touch hi hn hp hc (fun r1'' r2'' r3'' r4'' r5'' r6'' r7'' c1'' c2'' c3'' c4'' c5'' a1'' a2'' a3'' a4'' a5'' a6'' a7'' a8'' a9'' a10'' s1'' s2'' s3'' s4'' s5'' s6'' s7'' s8'' s9'' s10'' h1'' h2'' h3'' h4'' h5'' h6'' hc2 => jq ed (cq_touch hi hn hp hc' (fun r1''' r2''' r3''' r4''' r5''' r6''' r7''' c1''' c2''' c3''' c4''' c5''' a1''' a2''' a3''' a4''' a5''' a6''' a7''' a8''' a9''' a10''' s1''' s2''' s3''' s4''' s5''' s6''' s7''' s8''' s9''' s10''' h1''' h2''' h3''' h4''' h5''' h6''' hc3 => jq rfl ?_))))
      have e2 : h1'' = nI (n + 1) := hc2.2.2.2.2.1
      subst e2
      refine jq (nI_1 n).symm (cq_pageOf (t := fset t n p) (by omega) hc2.2.2.2.2.2.2.1 (by omega) (jq (by rw [fs_s]) ?_))
      exact lq_touch112 hi hn hp hc2 (h _ _ _ _ _ _ _ _ _ _ _ _ _ _ _ _ _ _ _ _ _ _ _ _ _ _ _ _ _ _ _ _ _ _ _ _ _ _ _ _ _ _ _ _ _ _ _ _ _ _ _ _ _ _ _ _ _ _ _ _ _ _ _ _ _ _ _ _ _ _ _ _ _ _ _ _ hc2 hc3)
    | succ d ih =>
      intro k hk
      have hk4 : k < 4 := by omega
      apply hI
      have nx := ih (k + 1) (by omega)
      refine iq (nI_le4 hk4) (cq_holds hi hc hk4 hp (selb (fun e => cq_faults hc hk4 ?_) (fun e => cq_faults hc hk4 ?_)))
      · show I (_ + (1 : Int32) <<< (nI k &&& 31)) (_ + _) (nI k + 1) _ _ _ _ _ _ _ _ _ _ _ _ _ _ _ _ _ _ _ _ _ _ _ _ _ _ _ _ _ _ _ _ _ _ _ _ _ _ _ _ _ _ _ _ _ _ _ _ _ _ _ _ _ _ _ _ _ _ _ _ _ _ _ _ _ _ _ _ _ _ _ _ _ _ _ _
        rw [nI_1]
        have e' : du (fun k => hB r c a s k p) (k + 1) = du (fun k => hB r c a s k p) k + (1 : Int32) <<< (nI k &&& 31) := by
          show _ + (if hB r c a s k p = true then 0 else _) = _
          rw [e]; rfl
        rw [e'] at nx
        exact nx
      · show I (_ + 0) (_ + _) (nI k + 1) _ _ _ _ _ _ _ _ _ _ _ _ _ _ _ _ _ _ _ _ _ _ _ _ _ _ _ _ _ _ _ _ _ _ _ _ _ _ _ _ _ _ _ _ _ _ _ _ _ _ _ _ _ _ _ _ _ _ _ _ _ _ _ _ _ _ _ _ _ _ _ _ _ _ _ _
        rw [nI_1]
        have e' : du (fun k => hB r c a s k p) (k + 1) = du (fun k => hB r c a s k p) k + 0 := by
          show _ + (if hB r c a s k p = true then 0 else _) = _
          rw [e]; rfl
        rw [e'] at nx
        exact nx
  exact key 4 0 rfl
