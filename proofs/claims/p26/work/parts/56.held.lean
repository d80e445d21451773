/-! PURE: two objects alike; what is held -/
def vk (m : Nat) (r : ARec) (c : AClk) (a : AAda) (s : AStr) (k : Nat) : Nat := if hN r c a s k < m then 1 else 0
def nAl (m : Nat) (r : ARec) (c : AClk) (a : AAda) (s : AStr) : Nat → Nat
  | 0 => 0
  | k + 1 => (nAl m r c a s k + vk m r c a s k) + vk m r c a s k
def nHe (m : Nat) (r : ARec) (c : AClk) (a : AAda) (s : AStr) : Nat → Nat
  | 0 => 0
  | k + 1 => nHe m r c a s k + vk m r c a s k
theorem nI_le4 {k : Nat} (h : k < 4) : ¬ (4 : Int32) ≤ nI k := fun hh => absurd ((nI_leI (a := 4) (by omega) (by omega)).mp hh) (by omega)
theorem nI_le64 {k : Nat} (h : k < 64) : ¬ (64 : Int32) ≤ nI k := fun hh => absurd ((nI_leI (a := 64) (by omega) (by omega)).mp hh) (by omega)
theorem lq_alike {m w n : Nat} {t : Nat → Nat} {r : ARec} {c : AClk} {a : AAda} {s : AStr} {r1 r2 r3 : Int32} {r4 r5 r6 r7 : Nat → Int32} {c1 c2 c3 : Int32} {c4 c5 : Nat → Int32} {a1 a2 a3 : Int32} {a4 : Nat → Int32} {a5 : Int32} {a6 : Nat → Int32} {a7 : Int32} {a8 : Nat → Int32} {a9 : Int32} {a10 : Nat → Int32} {s1 s2 s3 s4 s5 s6 s7 s8 : Int32} {s9 s10 : Nat → Int32} {h1 h2 : Int32} {h3 h4 h5 h6 : Nat → Int32} {r1' r2' r3' : Int32} {r4' r5' r6' r7' : Nat → Int32} {c1' c2' c3' : Int32} {c4' c5' : Nat → Int32} {a1' a2' a3' : Int32} {a4' : Nat → Int32} {a5' : Int32} {a6' : Nat → Int32} {a7' : Int32} {a8' : Nat → Int32} {a9' : Int32} {a10' : Nat → Int32} {s1' s2' s3' s4' s5' s6' s7' s8' : Int32} {s9' s10' : Nat → Int32} {h1' h2' : Int32} {h3' h4' h5' h6' : Nat → Int32} (hi : AInv m w n t r c a s) (hc : SeeC m w n t r c a s r1 r2 r3 r4 r5 r6 r7 c1 c2 c3 c4 c5 a1 a2 a3 a4 a5 a6 a7 a8 a9 a10 s1 s2 s3 s4 s5 s6 s7 s8 s9 s10 h1 h2 h3 h4 h5 h6) (hc' : SeeC m w n t r c a s r1' r2' r3' r4' r5' r6' r7' c1' c2' c3' c4' c5' a1' a2' a3' a4' a5' a6' a7' a8' a9' a10' s1' s2' s3' s4' s5' s6' s7' s8' s9' s10' h1' h2' h3' h4' h5' h6') {Q : Int32 → Nat → Prop} (h : Q 1 (nAl m r c a s 4)) : wR_L_areAlike (nI m) r1 r3 r4 (nI m) c1 c2 c3 c4 c5 (nI m) a1 a2 a3 a4 a5 a6 a7 a9 (nI m) s1 s2 s3 s8 s9 h1 (nI m) r1' r3' r4' (nI m) c1' c2' c3' c4' c5' (nI m) a1' a2' a3' a4' a5' a6' a7' a9' (nI m) s1' s2' s3' s8' s9' h1' Q := by
  have e1 : h1 = h1' := hc.2.2.2.2.1.trans hc'.2.2.2.2.1.symm
  have e2 : c3 = c3' := hc.2.1.2.2.1.trans hc'.2.1.2.2.1.symm
  have e3 : a2 = a2' := hc.2.2.1.2.1.trans hc'.2.2.1.2.1.symm
  have e4 : s2 = s2' := hc.2.2.2.1.2.1.trans hc'.2.2.2.1.2.1.symm
  have e5 : s3 = s3' := hc.2.2.2.1.2.2.1.trans hc'.2.2.2.1.2.2.1.symm
  refine jq e1 (jq e2 (jq e3 (jq e4 (jq e5 ?_))))
  intro I hI
  have key : ∀ d k n', k + d = 4 → n' = nAl m r c a s k → I (d + 1) 1 (nI k) n' := by
    intro d
    induction d with
    | zero =>
      intro k n' hk hn
      have e : k = 4 := by omega
      subst e
      subst hn
      exact hI 0 1 (nI 4) _ (ip (nI_le (a := 4) (Nat.le_refl _) (by omega)) ⟨Or.inr rfl, h⟩)
    | succ d ih =>
      intro k n' hk hn
      have hk4 : k < 4 := by omega
      refine hI (d + 1) 1 (nI k) n' (iq (nI_le4 hk4) (iq (by decide) (cq_faults hc hk4 (cq_faults hc' hk4 (jq rfl (cq_held hc hk4 (cq_held hc' hk4 (jq rfl ?_))))))))
      by_cases hf : hN r c a s k < m
      · have ev : vk m r c a s k = 1 := if_pos hf
        refine lq_victim hi hc hk4 (fun _ => lq_victim hi hc' hk4 (fun _ => jq rfl ?_) (fun hn => absurd hf hn)) (fun hn => absurd hf hn)
        show I (d + 1) 1 (nI k + 1) _
        rw [nI_1]
        refine ih (k + 1) _ (by omega) ?_
        rw [nAl, ev, hn]
      · have ev : vk m r c a s k = 0 := if_neg hf
        refine lq_victim hi hc hk4 (fun hh => absurd hh hf) (fun _ => lq_victim hi hc' hk4 (fun hh => absurd hh hf) (fun _ => jq rfl ?_))
        show I (d + 1) 1 (nI k + 1) _
        rw [nI_1]
        refine ih (k + 1) _ (by omega) ?_
        rw [nAl, ev, hn]
  exact key 4 0 0 rfl rfl
theorem hB2_list {r : ARec} {c : AClk} {a : AAda} {s : AStr} {p : Nat} : hB r c a s 2 p = decide (lOf a p = 1 ∨ lOf a p = 2) := by
  show decide (p ∈ a.1 1 ∨ p ∈ a.1 2) = _
  unfold lOf
  by_cases e1 : p ∈ a.1 1
  · simp [e1]
  · by_cases e2 : p ∈ a.1 2
    · simp [e1, e2]
    · by_cases e3 : p ∈ a.1 3
      · simp [e1, e2, e3]
      · by_cases e4 : p ∈ a.1 4 <;> simp [e1, e2, e3, e4]
theorem lOf_le {a : AAda} {p : Nat} : lOf a p ≤ 4 := by
  unfold lOf
  repeat' split
  all_goals omega
theorem lOf_cnt {m n : Nat} {a : AAda} (h : AdaInv m n a) : cntB (fun p => decide (0 < lOf a p)) 64 = (((a.1 1).length + (a.1 3).length) + (a.1 2).length) + (a.1 4).length := by
  obtain ⟨⟨hb, hd⟩, _⟩ := h
  have b1 := hb 1 (by omega) (by omega)
  have b2 := hb 2 (by omega) (by omega)
  have b3 := hb 3 (by omega) (by omega)
  have b4 := hb 4 (by omega) (by omega)
  have ap : ∀ i j, 1 ≤ i → i ≤ 4 → 1 ≤ j → j ≤ 4 → i ≠ j → ∀ x ∈ a.1 i, ∀ y ∈ a.1 j, x ≠ y := fun i j h1 h2 h3 h4 hne x hx y hy e => hne (hd i j x h1 h2 h3 h4 hx (e ▸ hy))
  have := cntB_list (L := ((a.1 1 ++ a.1 3) ++ a.1 2) ++ a.1 4) 64 (by
    rw [List.nodup_append, List.nodup_append, List.nodup_append]
    refine ⟨⟨⟨b1.1, b3.1, ap 1 3 (by omega) (by omega) (by omega) (by omega) (by omega)⟩, b2.1, fun x hx y hy => ?_⟩, b4.1, fun x hx y hy => ?_⟩
    · rcases List.mem_append.mp hx with hx | hx
      · exact ap 1 2 (by omega) (by omega) (by omega) (by omega) (by omega) x hx y hy
      · exact ap 3 2 (by omega) (by omega) (by omega) (by omega) (by omega) x hx y hy
    · rcases List.mem_append.mp hx with hx | hx
      · rcases List.mem_append.mp hx with hx | hx
        · exact ap 1 4 (by omega) (by omega) (by omega) (by omega) (by omega) x hx y hy
        · exact ap 3 4 (by omega) (by omega) (by omega) (by omega) (by omega) x hx y hy
      · exact ap 2 4 (by omega) (by omega) (by omega) (by omega) (by omega) x hx y hy) (P := fun p => decide (0 < lOf a p)) (fun x => by
    simp only [List.mem_append, decide_eq_true_eq]
    unfold lOf
    constructor
    · rintro (((hx | hx) | hx) | hx)
      · exact ⟨b1.2 x hx, by rw [if_pos hx]; omega⟩
      · refine ⟨b3.2 x hx, ?_⟩
        repeat' split
        all_goals first | omega | (rename_i hn; exact absurd hx hn)
      · refine ⟨b2.2 x hx, ?_⟩
        repeat' split
        all_goals first | omega | (rename_i hn _ _; exact absurd hx hn)
      · refine ⟨b4.2 x hx, ?_⟩
        repeat' split
        all_goals first | omega | (rename_i hn; exact absurd hx hn)
    · rintro ⟨_, hx⟩
      by_cases e1 : x ∈ a.1 1
      · exact Or.inl (Or.inl (Or.inl e1))
      · by_cases e2 : x ∈ a.1 2
        · exact Or.inl (Or.inr e2)
        · by_cases e3 : x ∈ a.1 3
          · exact Or.inl (Or.inl (Or.inr e3))
          · by_cases e4 : x ∈ a.1 4
            · exact Or.inr e4
            · rw [if_neg e1, if_neg e2, if_neg e3, if_neg e4] at hx
              exact absurd hx (Nat.lt_irrefl 0))
  rw [this, List.length_append, List.length_append, List.length_append]
theorem lq_held114 {m w n : Nat} {t : Nat → Nat} {r : ARec} {c : AClk} {a : AAda} {s : AStr} {r1 r2 r3 : Int32} {r4 r5 r6 r7 : Nat → Int32} {c1 c2 c3 : Int32} {c4 c5 : Nat → Int32} {a1 a2 a3 : Int32} {a4 : Nat → Int32} {a5 : Int32} {a6 : Nat → Int32} {a7 : Int32} {a8 : Nat → Int32} {a9 : Int32} {a10 : Nat → Int32} {s1 s2 s3 s4 s5 s6 s7 s8 : Int32} {s9 s10 : Nat → Int32} {h1 h2 : Int32} {h3 h4 h5 h6 : Nat → Int32} (hi : AInv m w n t r c a s) (hu : UI s) (hc : SeeC m w n t r c a s r1 r2 r3 r4 r5 r6 r7 c1 c2 c3 c4 c5 a1 a2 a3 a4 a5 a6 a7 a8 a9 a10 s1 s2 s3 s4 s5 s6 s7 s8 s9 s10 h1 h2 h3 h4 h5 h6) {Q : Int32 → Nat → Prop} {n' : Nat} (h : Q 1 n') : wR_L_isHeldSo_114 (nI m) r3 r4 (nI m) c2 c3 c4 c5 (nI m) a2 a3 a4 a5 a6 a7 a8 a9 a10 (nI m) s2 s3 s8 s9 (nI m) Q 0 0 n' := by
  have hi0 := hi
  obtain ⟨i1, i2, i3, i4, i5, i6, i7, i8, i9, i10⟩ := hi0
  intro I hI
  have key : ∀ d j, j + d = 64 → I (nI (cntB (fun p => decide (0 < lOf a p)) j)) (nI j) n' := by
    intro d
    induction d with
    | zero =>
      intro j hj
      have e : j = 64 := by omega
      subst e
      apply hI
      refine ip (nI_le (a := 64) (Nat.le_refl _) (by omega)) (cq_ls1 (cq_ls3 (cq_ls2 (cq_ls4 ?_))))
      have hc0 := hc
      obtain ⟨g1, g2, ⟨x0, x1, y1, y2, y3, y4⟩, g4, g5⟩ := hc0
      have l1 := i9.2.1
      have l2 := i9.2.2.1
      have l3 := i9.2.2.2.1
      have l4 := i9.2.2.2.2.2.1
      have l5 := i8.2.1
      have l6 := i10.2.2.1
      have l7 := i10.2.2.2.1
      rw [lOf_cnt i9, y1.1, y2.1, y3.1, y4.1, nI_add, nI_add, nI_add]
      refine jq rfl (iq ?_ (iq ?_ ?_))
      · exact nI_nlt l2 (by omega)
      · rw [nI_two]; exact nI_nlt (by omega) (by omega)
      · refine iq (by rw [x1]; exact nI_pos (by omega)) (iq (by rw [x1]; exact nI_nlt l4 (by omega)) (iq (by rw [g2.2.2.1]; exact nI_pos (by omega)) (iq (by rw [g2.2.2.1]; exact nI_ge l5 (by omega)) ?_)))
        refine iq ?_ ⟨Or.inr rfl, h⟩
        rw [g4.2.1, g4.2.2.1]
        unfold UI at hu
        exact nI_nlt (by omega) (by omega)
    | succ d ih =>
      intro j hj
      have hj64 : j < 64 := by omega
      apply hI
      refine iq (nI_le64 hj64) (cq_listOf hc hj64 ?_)
      have hl := lOf_le (a := a) (p := j)
      have nxt : I (nI (cntB (fun p => decide (0 < lOf a p)) (j + 1))) (nI (j + 1)) n' := ih (j + 1) (by omega)
      have tail : ∀ (x s' : Int32), x = nI (cntB (fun p => decide (0 < lOf a p)) (j + 1)) → s' = bI (hB r c a s 2 j) → wR_L_isHeldSo_163 (nI m) r3 r4 (nI m) c2 c3 c4 c5 (nI m) a2 a3 a4 a5 a6 a7 a8 a9 a10 (nI m) s2 s3 s8 s9 (nI m) Q I x (nI j) (bI (hB r c a s 2 j)) s' n' := by
        intro x s' hx hs
        subst hx
        refine jq hs.symm (cq_isRef hi hc hj64 (selb (fun _ => ?_) (fun hr => cq_holds hi hc (k := 1) (by omega) hj64 (selc (fun hb => ?_) (fun _ => ?_)))))
        · show I _ (nI j + 1) n'
          rw [nI_1]; exact nxt
        · rw [rB_hB hr] at hb; exact absurd hb (by decide)
        · show I _ (nI j + 1) n'
          rw [nI_1]; exact nxt
      have mid : ∀ (v : Nat), v = (if 0 < lOf a j then 1 else 0) → wR_L_isHeldSo_138 (nI m) r3 r4 (nI m) c2 c3 c4 c5 (nI m) a2 a3 a4 a5 a6 a7 a8 a9 a10 (nI m) s2 s3 s8 s9 (nI m) Q I (nI j) (nI (lOf a j)) (nI (cntB (fun p => decide (0 < lOf a p)) j)) (nI v) n' := by
        intro v hv
        have ex : nI (cntB (fun p => decide (0 < lOf a p)) j) + nI v = nI (cntB (fun p => decide (0 < lOf a p)) (j + 1)) := by
          rw [nI_add, hv]
          show nI _ = nI (cntB _ j + _)
          by_cases e : 0 < lOf a j <;> simp [e]
        have f1 : nI (lOf a j) = 1 ↔ lOf a j = 1 := nI_eq (b := 1) (by omega) (by omega)
        have f2 : nI (lOf a j) = 2 ↔ lOf a j = 2 := nI_eq (b := 2) (by omega) (by omega)
        refine cq_holds hi hc (k := 2) (by omega) hj64 ⟨fun e => ?_, fun e => ⟨fun e2 => ?_, fun e2 => ?_⟩⟩
        · exact tail _ 1 ex (by rw [hB2_list, decide_eq_true (Or.inl (f1.mp e))]; rfl)
        · exact tail _ 0 ex (by rw [hB2_list, decide_eq_false (fun hh => hh.elim (fun h1 => e (f1.mpr h1)) (fun h2 => e2 (f2.mpr h2)))]; rfl)
        · exact tail _ 1 ex (by rw [hB2_list, decide_eq_true (Or.inr (f2.mp e2))]; rfl)
      rw [nI_np (by omega)]
      exact ⟨fun e => mid 0 (by rw [if_neg (by omega)]), fun e => mid 1 (by rw [if_pos (by omega)])⟩
  exact key 64 0 rfl
theorem lq_held {m w n : Nat} {t : Nat → Nat} {r : ARec} {c : AClk} {a : AAda} {s : AStr} {r1 r2 r3 : Int32} {r4 r5 r6 r7 : Nat → Int32} {c1 c2 c3 : Int32} {c4 c5 : Nat → Int32} {a1 a2 a3 : Int32} {a4 : Nat → Int32} {a5 : Int32} {a6 : Nat → Int32} {a7 : Int32} {a8 : Nat → Int32} {a9 : Int32} {a10 : Nat → Int32} {s1 s2 s3 s4 s5 s6 s7 s8 : Int32} {s9 s10 : Nat → Int32} {h1 h2 : Int32} {h3 h4 h5 h6 : Nat → Int32} (hi : AInv m w n t r c a s) (hu : UI s) (hc : SeeC m w n t r c a s r1 r2 r3 r4 r5 r6 r7 c1 c2 c3 c4 c5 a1 a2 a3 a4 a5 a6 a7 a8 a9 a10 s1 s2 s3 s4 s5 s6 s7 s8 s9 s10 h1 h2 h3 h4 h5 h6) {Q : Int32 → Nat → Prop} (h : Q 1 (nHe m r c a s 4)) : wR_L_isHeldSo (nI m) r3 r4 (nI m) c2 c3 c4 c5 (nI m) a2 a3 a4 a5 a6 a7 a8 a9 a10 (nI m) s2 s3 s8 s9 (nI m) Q := by
  have hi0 := hi
  obtain ⟨i1, i2, i3, i4, i5, i6, i7, i8, i9, i10⟩ := hi0
  intro I hI
  have key : ∀ d k n', k + d = 4 → n' = nHe m r c a s k → I (d + 1) (nI k) n' := by
    intro d
    induction d with
    | zero =>
      intro k n' hk hn
      have e : k = 4 := by omega
      subst e
      subst hn
      exact hI 0 (nI 4) _ (ip (nI_le (a := 4) (Nat.le_refl _) (by omega)) (lq_held114 hi hu hc h))
    | succ d ih =>
      intro k n' hk hn
      have hk4 : k < 4 := by omega
      have hm := hN_le hi (k := k)
      have nxt : ∀ n2, n2 = nHe m r c a s (k + 1) → wR_L_isHeldSo_104 (nI m) r3 r4 (nI m) c2 c3 c4 c5 (nI m) a2 a3 a4 a5 a6 a7 a8 a9 a10 (nI m) s2 s3 s8 s9 (nI m) Q (I (d + 1)) (nI k) n2 := fun n2 h2 => by
        show I (d + 1) (nI k + 1) n2
        rw [nI_1]; exact ih (k + 1) n2 (by omega) h2
      refine hI (d + 1) (nI k) n' (iq (nI_le4 hk4) ?_)
      intro J hJ
      have key2 : ∀ d2 j, j + d2 = 64 → J (nI k) (nI (cntB (hB r c a s k) j)) (nI j) n' := by
        intro d2
        induction d2 with
        | zero =>
          intro j hj
          have e : j = 64 := by omega
          subst e
          apply hJ
          rw [hB_cnt hi]
          refine ip (nI_le (a := 64) (Nat.le_refl _) (by omega)) ?_
          by_cases hf : hN r c a s k < m
          · have ev : vk m r c a s k = 1 := if_pos hf
            refine lq_victim hi hc hk4 (fun _ => cq_held hc hk4 (jq rfl (iq (nI_nlt hm (by omega)) (iq (by decide) (iq (nI_ge hf (by omega)) (jq rfl (ip (by decide) ?_))))))) (fun hh => absurd hf hh)
            exact nxt _ (by rw [nHe, ev, hn])
          · have ev : vk m r c a s k = 0 := if_neg hf
            have hv := vOf_lt hi hf
            refine lq_victim hi hc hk4 (fun hh => absurd hh hf) (fun _ => cq_held hc hk4 (jq rfl (iq (nI_nlt hm (by omega)) (ip (nI_pos' (by omega)) (ip (nI_le (by omega) (by omega)) (jq rfl (iq (nI_pos (by omega)) (cq_holds hi hc hk4 hv ?_))))))))
            rw [vOf_in hi hk4 hf]
            exact jp (by decide) (nxt _ (by rw [nHe, ev, hn]))
        | succ d2 ih2 =>
          intro j hj
          have hj64 : j < 64 := by omega
          apply hJ
          refine iq (nI_le64 hj64) (cq_holds hi hc hk4 hj64 (selb (fun e => ?_) (fun e => ?_)))
          · show J (nI k) (nI _ + nI 0) (nI j + 1) n'
            rw [nI_1, nI_add]
            have := ih2 (j + 1) (by omega)
            rw [cntB, e] at this
            exact this
          · show J (nI k) (nI _ + nI 1) (nI j + 1) n'
            rw [nI_1, nI_add]
            have := ih2 (j + 1) (by omega)
            rw [cntB, e] at this
            exact this
      exact key2 64 0 rfl
  exact key 4 0 0 rfl rfl
