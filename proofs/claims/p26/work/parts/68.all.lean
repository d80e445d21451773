/-! PURE: the whole law answers 1, turn by turn -/
theorem hz_T {m : Nat} {x : Int32} {z : ASt} (h : HZ m z) {q : ASt × Int32} (e : aTouch m x z = some q) : HZ m q.1 := by
  unfold aTouch at e
  split at e
  · rw [← Option.some.inj e]; exact h.step
  · exact absurd e (by simp)
theorem hz_R {m : Nat} {x y u : Int32} {z : ASt} (h : HZ m z) {q : ASt × Int32} (e : aRunT m x y u z = some q) : HZ m q.1 := by
  unfold aRunT at e
  split at e
  · rw [← Option.some.inj e]; exact h.run _
  · exact absurd e (by simp)
theorem hz_act {m : Nat} {v : Int32} {z : ASt} (h : HZ m z) : HZ m (itA m v z).1 := by
  unfold itA
  cases ha : aAct m v z with
  | none => exact h
  | some q =>
    show HZ m q.1
    unfold aAct at ha
    by_cases c : lw v 14 < 4
    · rw [if_pos c] at ha; exact hz_R h ha
    · rw [if_neg c] at ha; exact hz_T h ha
theorem hz_tch {m : Nat} {v : Int32} {z : ASt} (h : HZ m z) : HZ m (aTch m v z) := by
  unfold aTch
  split
  · exact h.step
  · exact h
theorem zs_hz {m L : Nat} {xs : Nat → Int32} : ∀ e, HZ m (zs m L xs e).1 := by
  intro e
  induction e with
  | zero => exact rfl
  | succ e ih => exact hz_tch (hz_act ih)
theorem lv_187 {L : Nat} {xs : Nat → Int32} {ST : Nat → Prop} {RT : Prop} {m w e n : Nat} {z : ASt} {r1 r2 r3 : Int32} {r4 r5 r6 r7 : Nat → Int32} {c1 c2 c3 : Int32} {c4 c5 : Nat → Int32} {a1 a2 a3 : Int32} {a4 : Nat → Int32} {a5 : Int32} {a6 : Nat → Int32} {a7 : Int32} {a8 : Nat → Int32} {a9 : Int32} {a10 : Nat → Int32} {s1 s2 s3 s4 s5 s6 s7 s8 : Int32} {s9 s10 : Nat → Int32} {h1 h2 : Int32} {h3 h4 h5 h6 : Nat → Int32} {b1 b2 b3 : Nat → Int32} {r1' r2' r3' : Int32} {r4' r5' r6' r7' : Nat → Int32} {c1' c2' c3' : Int32} {c4' c5' : Nat → Int32} {a1' a2' a3' : Int32} {a4' : Nat → Int32} {a5' : Int32} {a6' : Nat → Int32} {a7' : Int32} {a8' : Nat → Int32} {a9' : Int32} {a10' : Nat → Int32} {s1' s2' s3' s4' s5' s6' s7' s8' : Int32} {s9' s10' : Nat → Int32} {h1' h2' : Int32} {h3' h4' h5' h6' : Nat → Int32} {I : Int32 → Int32 → Int32 → Int32 → Int32 → Int32 → Int32 → Int32 → (Nat → Int32) → (Nat → Int32) → (Nat → Int32) → (Nat → Int32) → Int32 → Int32 → Int32 → Int32 → (Nat → Int32) → (Nat → Int32) → Int32 → Int32 → Int32 → Int32 → (Nat → Int32) → Int32 → (Nat → Int32) → Int32 → (Nat → Int32) → Int32 → (Nat → Int32) → Int32 → Int32 → Int32 → Int32 → Int32 → Int32 → Int32 → Int32 → Int32 → (Nat → Int32) → (Nat → Int32) → Int32 → Int32 → Int32 → (Nat → Int32) → (Nat → Int32) → (Nat → Int32) → (Nat → Int32) → (Nat → Int32) → (Nat → Int32) → (Nat → Int32) → Int32 → Int32 → Int32 → Int32 → Int32 → (Nat → Int32) → (Nat → Int32) → (Nat → Int32) → (Nat → Int32) → Int32 → Int32 → Int32 → Int32 → (Nat → Int32) → (Nat → Int32) → Int32 → Int32 → Int32 → Int32 → (Nat → Int32) → Int32 → (Nat → Int32) → Int32 → (Nat → Int32) → Int32 → (Nat → Int32) → Int32 → Int32 → Int32 → Int32 → Int32 → Int32 → Int32 → Int32 → Int32 → (Nat → Int32) → (Nat → Int32) → Int32 → Int32 → Int32 → (Nat → Int32) → (Nat → Int32) → (Nat → Int32) → (Nat → Int32) → Nat → Prop} (hX : AInvX m w z) (hz : HZ m z) (hc : SeeZ m w z r1 r2 r3 r4 r5 r6 r7 c1 c2 c3 c4 c5 a1 a2 a3 a4 a5 a6 a7 a8 a9 a10 s1 s2 s3 s4 s5 s6 s7 s8 s9 s10 h1 h2 h3 h4 h5 h6) (hc' : SeeZ m w z r1' r2' r3' r4' r5' r6' r7' c1' c2' c3' c4' c5' a1' a2' a3' a4' a5' a6' a7' a8' a9' a10' s1' s2' s3' s4' s5' s6' s7' s8' s9' s10' h1' h2' h3' h4' h5' h6') (he : e < 44) (hn : NextI m w I z (e + 1) (n + nHez m z)) : wR_L_law_187 L xs ST RT I (nI m) (nI w) (nI e) (nI m) (nI m) r1 r2 r3 r4 r5 r6 r7 (nI m) c1 c2 c3 c4 c5 (nI m) a1 a2 a3 a4 a5 a6 a7 a8 a9 a10 (nI m) s1 s2 s3 s4 s5 s6 s7 s8 s9 s10 (nI w) h1 h2 h3 h4 h5 h6 b1 b2 b3 (nI m) (nI m) r1' r2' r3' r4' r5' r6' r7' (nI m) c1' c2' c3' c4' c5' (nI m) a1' a2' a3' a4' a5' a6' a7' a8' a9' a10' (nI m) s1' s2' s3' s4' s5' s6' s7' s8' s9' s10' (nI w) h1' h2' h3' h4' h5' h6' n := by
  by_cases hno : e % 11 = 10
  · have e11 : nI e - nI e / 11 * 11 = nI (e % 11) := pk_rem (d := 11) (by omega) (by omega) (by omega)
    have h10 : nI (e % 11) = 10 ↔ e % 11 = 10 := nI_eq (b := 10) (by omega) (by omega)
    have hh1 : h1 = nI z.1 := hc.2.2.2.2.1
    subst hh1
    refine lq_held hX.1 hX.2 hc (iq (by decide) ⟨by decide, jq (by rw [e11, h10]; exact hno) (lq_curves hX.1 hz hc (fun n1 n2 n3 => jp (by decide) ?_))⟩)
    have := hn r1 r2 r3 r4 r5 r6 r7 c1 c2 c3 c4 c5 a1 a2 a3 a4 a5 a6 a7 a8 a9 a10 s1 s2 s3 s4 s5 s6 s7 s8 s9 s10 (nI z.1) h2 h3 h4 h5 h6 n1 n2 n3 r1' r2' r3' r4' r5' r6' r7' c1' c2' c3' c4' c5' a1' a2' a3' a4' a5' a6' a7' a8' a9' a10' s1' s2' s3' s4' s5' s6' s7' s8' s9' s10' h1' h2' h3' h4' h5' h6' hc hc'
    rw [← nI_1] at this
    exact this
  · exact lw_187 hX hc hc' he hno hn
theorem lv_159 {L : Nat} {xs : Nat → Int32} {ST : Nat → Prop} {RT : Prop} {m w e n : Nat} {z : ASt} {r1 r2 r3 : Int32} {r4 r5 r6 r7 : Nat → Int32} {c1 c2 c3 : Int32} {c4 c5 : Nat → Int32} {a1 a2 a3 : Int32} {a4 : Nat → Int32} {a5 : Int32} {a6 : Nat → Int32} {a7 : Int32} {a8 : Nat → Int32} {a9 : Int32} {a10 : Nat → Int32} {s1 s2 s3 s4 s5 s6 s7 s8 : Int32} {s9 s10 : Nat → Int32} {h1 h2 : Int32} {h3 h4 h5 h6 : Nat → Int32} {b1 b2 b3 : Nat → Int32} {r1' r2' r3' : Int32} {r4' r5' r6' r7' : Nat → Int32} {c1' c2' c3' : Int32} {c4' c5' : Nat → Int32} {a1' a2' a3' : Int32} {a4' : Nat → Int32} {a5' : Int32} {a6' : Nat → Int32} {a7' : Int32} {a8' : Nat → Int32} {a9' : Int32} {a10' : Nat → Int32} {s1' s2' s3' s4' s5' s6' s7' s8' : Int32} {s9' s10' : Nat → Int32} {h1' h2' : Int32} {h3' h4' h5' h6' : Nat → Int32} {I : Int32 → Int32 → Int32 → Int32 → Int32 → Int32 → Int32 → Int32 → (Nat → Int32) → (Nat → Int32) → (Nat → Int32) → (Nat → Int32) → Int32 → Int32 → Int32 → Int32 → (Nat → Int32) → (Nat → Int32) → Int32 → Int32 → Int32 → Int32 → (Nat → Int32) → Int32 → (Nat → Int32) → Int32 → (Nat → Int32) → Int32 → (Nat → Int32) → Int32 → Int32 → Int32 → Int32 → Int32 → Int32 → Int32 → Int32 → Int32 → (Nat → Int32) → (Nat → Int32) → Int32 → Int32 → Int32 → (Nat → Int32) → (Nat → Int32) → (Nat → Int32) → (Nat → Int32) → (Nat → Int32) → (Nat → Int32) → (Nat → Int32) → Int32 → Int32 → Int32 → Int32 → Int32 → (Nat → Int32) → (Nat → Int32) → (Nat → Int32) → (Nat → Int32) → Int32 → Int32 → Int32 → Int32 → (Nat → Int32) → (Nat → Int32) → Int32 → Int32 → Int32 → Int32 → (Nat → Int32) → Int32 → (Nat → Int32) → Int32 → (Nat → Int32) → Int32 → (Nat → Int32) → Int32 → Int32 → Int32 → Int32 → Int32 → Int32 → Int32 → Int32 → Int32 → (Nat → Int32) → (Nat → Int32) → Int32 → Int32 → Int32 → (Nat → Int32) → (Nat → Int32) → (Nat → Int32) → (Nat → Int32) → Nat → Prop} {v : Int32} (hX : AInvX m w z) (hz : HZ m z) (hc : SeeZ m w z r1 r2 r3 r4 r5 r6 r7 c1 c2 c3 c4 c5 a1 a2 a3 a4 a5 a6 a7 a8 a9 a10 s1 s2 s3 s4 s5 s6 s7 s8 s9 s10 h1 h2 h3 h4 h5 h6) (hc' : SeeZ m w z r1' r2' r3' r4' r5' r6' r7' c1' c2' c3' c4' c5' a1' a2' a3' a4' a5' a6' a7' a8' a9' a10' s1' s2' s3' s4' s5' s6' s7' s8' s9' s10' h1' h2' h3' h4' h5' h6') (he : e < 44) (hn : NextI m w I (aTch m v z) (e + 1) (n + nHez m (aTch m v z))) : wR_L_law_159 L xs ST RT I (nI m) (nI w) (nI e) v (nI m) (nI m) r1 r2 r3 r4 r5 r6 r7 (nI m) c1 c2 c3 c4 c5 (nI m) a1 a2 a3 a4 a5 a6 a7 a8 a9 a10 (nI m) s1 s2 s3 s4 s5 s6 s7 s8 s9 s10 (nI w) h1 h2 h3 h4 h5 h6 b1 b2 b3 (nI m) (nI m) r1' r2' r3' r4' r5' r6' r7' (nI m) c1' c2' c3' c4' c5' (nI m) a1' a2' a3' a4' a5' a6' a7' a8' a9' a10' (nI m) s1' s2' s3' s4' s5' s6' s7' s8' s9' s10' (nI w) h1' h2' h3' h4' h5' h6' n := by
  refine Or.inr ?_
  have hh1 : h1 = nI z.1 := hc.2.2.2.2.1
  have n400 := hX.1.2.2.2.2.1
  have c4 : (400 : Int32) ≤ h1 ↔ 400 ≤ z.1 := by rw [hh1]; exact nI_leI (a := 400) (by omega) (by omega)
  unfold aTch at hn
  by_cases h4 : z.1 < 400
  · rw [if_pos h4] at hn
    have hp := lw_lt (x := v >>> (8 &&& 31)) (k := 10) (by omega)
    refine iq (fun hh => by have := c4.mp hh; omega) (lq_low (k := 10) (by omega) (by omega) (lq_touchSo hX.1 h4 (by omega) hc hc' (fun r1'' r2'' r3'' r4'' r5'' r6'' r7'' c1'' c2'' c3'' c4'' c5'' a1'' a2'' a3'' a4'' a5'' a6'' a7'' a8'' a9'' a10'' s1'' s2'' s3'' s4'' s5'' s6'' s7'' s8'' s9'' s10'' h1'' h2'' h3'' h4'' h5'' h6'' r1''' r2''' r3''' r4''' r5''' r6''' r7''' c1''' c2''' c3''' c4''' c5''' a1''' a2''' a3''' a4''' a5''' a6''' a7''' a8''' a9''' a10''' s1''' s2''' s3''' s4''' s5''' s6''' s7''' s8''' s9''' s10''' h1''' h2''' h3''' h4''' h5''' h6''' hc2 hc3 => iq (by decide) ?_)))
    exact lv_187 (z := aStep m (lw (v >>> (8 &&& 31)) 10) z) (hX.step h4 (by omega)) hz.step hc2 hc3 he hn
  · rw [if_neg h4] at hn
    exact ip (c4.mpr (by omega)) (lv_187 hX hz hc hc' he hn)
/-- the law, to its end -/
theorem law_all {L : Nat} {xs : Nat → Int32} {ST : Nat → Prop} {RT : Prop} (hL : L < 2 ^ 30) (hRT : RT) {m w : Nat} (em : m = 1 + lw (cellv L xs 0) 8) (ew : w = 1 + lw (cellv L xs 0 >>> (5 &&& 31)) 20) {fr r0 r1 r2 r3 : Int32} {r4 r5 r6 r7 : Nat → Int32} {c0 c1 c2 c3 : Int32} {c4 c5 : Nat → Int32} {a0 a1 a2 a3 : Int32} {a4 : Nat → Int32} {a5 : Int32} {a6 : Nat → Int32} {a7 : Int32} {a8 : Nat → Int32} {a9 : Int32} {a10 : Nat → Int32} {s0 s1 s2 s3 s4 s5 s6 s7 s8 : Int32} {s9 s10 : Nat → Int32} {h0 h1 h2 : Int32} {h3 h4 h5 h6 b1 b2 b3 : Nat → Int32} {fr' r0' r1' r2' r3' : Int32} {r4' r5' r6' r7' : Nat → Int32} {c0' c1' c2' c3' : Int32} {c4' c5' : Nat → Int32} {a0' a1' a2' a3' : Int32} {a4' : Nat → Int32} {a5' : Int32} {a6' : Nat → Int32} {a7' : Int32} {a8' : Nat → Int32} {a9' : Int32} {a10' : Nat → Int32} {s0' s1' s2' s3' s4' s5' s6' s7' s8' : Int32} {s9' s10' : Nat → Int32} {h0' h1' h2' : Int32} {h3' h4' h5' h6' : Nat → Int32} : wR_L_law_16 L xs ST RT fr r0 r1 r2 r3 r4 r5 r6 r7 c0 c1 c2 c3 c4 c5 a0 a1 a2 a3 a4 a5 a6 a7 a8 a9 a10 s0 s1 s2 s3 s4 s5 s6 s7 s8 s9 s10 h0 h1 h2 h3 h4 h5 h6 b1 b2 b3 fr' r0' r1' r2' r3' r4' r5' r6' r7' c0' c1' c2' c3' c4' c5' a0' a1' a2' a3' a4' a5' a6' a7' a8' a9' a10' s0' s1' s2' s3' s4' s5' s6' s7' s8' s9' s10' h0' h1' h2' h3' h4' h5' h6' 64 := by
  have l8 := lw_lt (x := cellv L xs 0) (k := 8) (by omega)
  have l20 := lw_lt (x := cellv L xs 0 >>> (5 &&& 31)) (k := 20) (by omega)
  have hz := zs_ok (L := L) (xs := xs) (m := m) (w := w) (by omega) (by omega) (by omega) (by omega)
  refine lq_cell (k := 0) hL (by omega) (lq_low (k := 8) (by omega) (by omega) (lq_cell (k := 0) hL (by omega) (lq_low (k := 20) (by omega) (by omega) ?_)))
  have e1 : (1 : Int32) + nI (lw (cellv L xs 0) 8) = nI m := by rw [em]; exact nI_add 1 _
  have e2 : (1 : Int32) + nI (lw (cellv L xs 0 >>> (5 &&& 31)) 20) = nI w := by rw [ew]; exact nI_add 1 _
  rw [e1, e2]
  refine cq_begin (by omega) (by omega) (by omega) (by omega) (c_restart (fun _ _ _ _ _ _ _ _ _ _ _ _ _ _ _ _ _ _ _ _ _ _ _ _ _ _ _ _ _ _ _ hr => cq_begin (by omega) (by omega) (by omega) (by omega) (c_restart (fun _ _ _ _ _ _ _ _ _ _ _ _ _ _ _ _ _ _ _ _ _ _ _ _ _ _ _ _ _ _ _ hr' => ?_))))
  have rr1 := hr r4 c4 c5 a4 a6 a8 a10 s5 s6 s7 s9 h3 h4
  have rr2 := hr' r4' c4' c5' a4' a6' a8' a10' s5' s6' s7' s9' h3' h4'
  obtain ⟨q1, q2, q3, q4, q5, q6, hc⟩ := rr1
  obtain ⟨p1, p2, p3, p4, p5, p6, hc'⟩ := rr2
  subst q1 q2 q3 q4 q5 q6 p1 p2 p3 p4 p5 p6
  intro I hI
  have key : ∀ d e, e + d = 43 → NextI m w (I (d + 1)) (zs m L xs e).1 (e + 1) (zs m L xs e).2 := by
    intro d
    induction d with
    | zero =>
      intro e hd
      have e9 : e = 43 := by omega
      subst e9
      intro r1 r2 r3 r4 r5 r6 r7 c1 c2 c3 c4 c5 a1 a2 a3 a4 a5 a6 a7 a8 a9 a10 s1 s2 s3 s4 s5 s6 s7 s8 s9 s10 h1 h2 h3 h4 h5 h6 b1 b2 b3 r1' r2' r3' r4' r5' r6' r7' c1' c2' c3' c4' c5' a1' a2' a3' a4' a5' a6' a7' a8' a9' a10' s1' s2' s3' s4' s5' s6' s7' s8' s9' s10' h1' h2' h3' h4' h5' h6' hc hc'
      exact hI 0 _ _ _ _ _ _ _ _ _ _ _ _ _ _ _ _ _ _ _ _ _ _ _ _ _ _ _ _ _ _ _ _ _ _ _ _ _ _ _ _ _ _ _ _ _ _ _ _ _ _ _ _ _ _ _ _ _ _ _ _ _ _ _ _ _ _ _ _ _ _ _ _ _ _ _ _ _ _ _ _ _ _ _ _ _ _ _ _ _ _ _ _ _ _ _ (ip (nI_le (a := 44) (Nat.le_refl _) (by omega)) hRT)
    | succ d ih =>
      intro e hd
      intro r1 r2 r3 r4 r5 r6 r7 c1 c2 c3 c4 c5 a1 a2 a3 a4 a5 a6 a7 a8 a9 a10 s1 s2 s3 s4 s5 s6 s7 s8 s9 s10 h1 h2 h3 h4 h5 h6 b1 b2 b3 r1' r2' r3' r4' r5' r6' r7' c1' c2' c3' c4' c5' a1' a2' a3' a4' a5' a6' a7' a8' a9' a10' s1' s2' s3' s4' s5' s6' s7' s8' s9' s10' h1' h2' h3' h4' h5' h6' hc hc'
      exact hI (d + 1) _ _ _ _ _ _ _ _ _ _ _ _ _ _ _ _ _ _ _ _ _ _ _ _ _ _ _ _ _ _ _ _ _ _ _ _ _ _ _ _ _ _ _ _ _ _ _ _ _ _ _ _ _ _ _ _ _ _ _ _ _ _ _ _ _ _ _ _ _ _ _ _ _ _ _ _ _ _ _ _ _ _ _ _ _ _ _ _ _ _ _ _ _ _ _ (lw_62B hL (hz e) hc hc' (by omega) (fun r1 r2 r3 r4 r5 r6 r7 c1 c2 c3 c4 c5 a1 a2 a3 a4 a5 a6 a7 a8 a9 a10 s1 s2 s3 s4 s5 s6 s7 s8 s9 s10 h1 h2 h3 h4 h5 h6 r1' r2' r3' r4' r5' r6' r7' c1' c2' c3' c4' c5' a1' a2' a3' a4' a5' a6' a7' a8' a9' a10' s1' s2' s3' s4' s5' s6' s7' s8' s9' s10' h1' h2' h3' h4' h5' h6' hc hc' => lv_159 (itA_ok (hz e)) (hz_act (zs_hz e)) hc hc' (by omega) (ih (e + 1) (by omega))))
  exact key 43 0 rfl _ _ _ _ _ _ _ _ _ _ _ _ _ _ _ _ _ _ _ _ _ _ _ _ _ _ _ _ _ _ _ _ _ _ _ _ _ _ _ _ _ _ _ _ _ _ _ _ _ _ _ _ _ _ _ _ _ _ _ _ _ _ _ _ _ _ _ _ _ _ _ _ _ _ _ _ _ _ _ hc hc'
