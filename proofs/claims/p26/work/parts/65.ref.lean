/-! PURE: refaults, working sets -/
theorem sumN_set {f g : Nat → Nat} {d N : Nat} (hd : d < N) (h1 : g d = f d + 1) (h2 : ∀ j, j ≠ d → g j = f j) : sumN g N = sumN f N + 1 := by
  induction N with
  | zero => exact absurd hd (Nat.not_lt_zero d)
  | succ N ih =>
    unfold sumN
    by_cases e : d = N
    · subst e
      rw [h1, sumN_congr (f := g) (g := f) (fun i hi => h2 i (by omega))]; omega
    · rw [ih (by omega), h2 N (fun h => e h.symm)]; omega
theorem sumN_0 (N : Nat) : sumN (fun _ => 0) N = 0 := by
  induction N with
  | zero => rfl
  | succ N ih => unfold sumN; rw [ih]
def RefI (t : Nat → Nat) (i : Nat) (r : ARec) : Prop := ∃ K : Nat → Nat, (∀ j, r.2.2.2.2.1 j = nI (K j)) ∧ sumN K 401 + psz t i 0 = r.2.2.2.2.2 ∧ (∀ j, K j ≤ i) ∧ ∀ q, q < 64 → (lst t i q = 0 → q ∉ r.1 ∧ r.2.2.1 q = 0) ∧ (0 < lst t i q → q ∈ r.1 ∨ r.2.2.1 q ≠ 0)
theorem RefI.start {t : Nat → Nat} : RefI t 0 z0.2.2.1 := ⟨fun _ => 0, fun _ => rfl, by rw [sumN_0, psz_all (Nat.le_refl 0)]; rfl, fun _ => Nat.le_refl 0, fun q _ => ⟨fun _ => ⟨List.not_mem_nil, rfl⟩, fun h => absurd h (Nat.lt_irrefl 0)⟩⟩
theorem RefI.step {m i : Nat} {t : Nat → Nat} {r : ARec} (h : RefI t i r) (hr : RecInv m i r) (hm : 1 ≤ m) (hi : i < 400) (ht : t i < 64) : RefI t (i + 1) (recStep m (t i) r) := by
  obtain ⟨L, E, e, D, R, F⟩ := r
  obtain ⟨K, k1, k2, k3, k4⟩ := h
  obtain ⟨l1, l2, l3, l4⟩ := hr
  simp only at k1 k2 k3 k4 l1 l2 l3 l4
  have hp := k4 (t i) ht
  have hs := psz_succ (t := t) (n := i) (b := 0) (Nat.zero_le _) ht
  have hq : ∀ q, q < 64 → (lst t (i + 1) q = 0 → q ∉ rL m (t i) L ∧ (if t i ∈ L ∨ L.length < m then e else fset e (L.headD 0) (E + 1)) q = 0) ∧ (0 < lst t (i + 1) q → q ∈ rL m (t i) L ∨ (if t i ∈ L ∨ L.length < m then e else fset e (L.headD 0) (E + 1)) q ≠ 0) := by
    intro q hq
    rw [lst_s]
    by_cases c : t i = q
    · rw [if_pos c]
      exact ⟨fun h => absurd h (by omega), fun _ => Or.inl (c ▸ p_rL)⟩
    · rw [if_neg c]
      have k := k4 q hq
      constructor
      · intro h0
        obtain ⟨a1, a2⟩ := k.1 h0
        refine ⟨fun hh => (rL_sub hh).elim a1 (fun hh => c hh.symm), ?_⟩
        by_cases c2 : t i ∈ L ∨ L.length < m
        · rw [if_pos c2]; exact a2
        · rw [if_neg c2, fs_n (fun hh : q = L.headD 0 => a1 (by rw [hh]; exact hd_mem (by omega)))]; exact a2
      · intro h0
        have kk := k.2 h0
        by_cases c2 : t i ∈ L ∨ L.length < m
        · rw [if_pos c2]
          refine kk.imp (fun hh => ?_) id
          unfold rL
          by_cases c3 : t i ∈ L
          · rw [if_pos c3]; exact List.mem_append_left _ (mem_del.mpr ⟨hh, fun e => c e.symm⟩)
          · rw [if_neg c3, if_pos (c2.resolve_left c3)]; exact List.mem_append_left _ hh
        · rw [if_neg c2]
          by_cases c4 : q = L.headD 0
          · rw [c4, fs_s]; exact Or.inr (by omega)
          · rw [fs_n c4]
            refine kk.imp (fun hh => ?_) id
            unfold rL
            rw [if_neg (fun hh => c2 (Or.inl hh)), if_neg (fun hh => c2 (Or.inr hh))]
            exact List.mem_append_left _ (mem_del.mpr ⟨hh, c4⟩)
  have hF : (recStep m (t i) (L, E, e, D, R, F)).2.2.2.2.2 = if t i ∈ L then F else F + 1 := rfl
  have hR : (recStep m (t i) (L, E, e, D, R, F)).2.2.2.2.1 = if t i ∈ L ∨ e (t i) = 0 then R else upd R (E - e (t i)) (R (E - e (t i)) + 1) := rfl
  by_cases c : t i ∈ L
  · have h0 : 0 < lst t i (t i) := Nat.pos_of_ne_zero (fun hh => (hp.1 hh).1 c)
    refine ⟨K, fun j => ?_, ?_, fun j => Nat.le_succ_of_le (k3 j), hq⟩
    · rw [hR, if_pos (Or.inl c)]; exact k1 j
    · rw [hF, if_pos c, hs, if_pos h0]; exact k2
  · by_cases c0 : lst t i (t i) = 0
    · have e0 := (hp.1 c0).2
      refine ⟨K, fun j => ?_, ?_, fun j => Nat.le_succ_of_le (k3 j), hq⟩
      · rw [hR, if_pos (Or.inr e0)]; exact k1 j
      · rw [hF, if_neg c, hs, if_neg (by omega)]; omega
    · have e0 : e (t i) ≠ 0 := (hp.2 (by omega)).resolve_left c
      have hd : E - e (t i) < 401 := by omega
      refine ⟨fset K (E - e (t i)) (K (E - e (t i)) + 1), fun j => ?_, ?_, fun j => ?_, hq⟩
      · rw [hR, if_neg (fun hh => hh.elim c e0)]
        by_cases cj : j = E - e (t i)
        · rw [cj, pk_us, fs_s, k1, nI_1]
        · rw [pk_un cj, fs_n cj]; exact k1 j
      · rw [hF, if_neg c, hs, if_pos (by omega), sumN_set (f := K) hd fs_s (fun j hj => fs_n hj)]; omega
      · by_cases cj : j = E - e (t i)
        · rw [cj, fs_s]; have := k3 (E - e (t i)); omega
        · rw [fs_n cj]; exact Nat.le_succ_of_le (k3 j)
theorem zq_ref {m w n : Nat} {t : Nat → Nat} (hn : n ≤ 400) (ht : ∀ i, i < n → t i < 64) (hz : ∀ i, i ≤ n → AInvZ m w (zq m t i)) : ∀ i, i ≤ n → RefI t i (zq m t i).2.2.1 := by
  intro i
  induction i with
  | zero => exact fun _ => RefI.start
  | succ i ih =>
    intro hi
    obtain ⟨i1, i2, i3, i4, i5, i6, i7, _⟩ := hz i (by omega)
    rw [zq_n] at i7
    exact (ih (by omega)).step i7 i1 (by omega) (ht i (by omega))
theorem psz_len {t : Nat → Nat} {b : Nat} : ∀ {n : Nat}, b ≤ n → (∀ i, i < n → t i < 64) → psz t n b ≤ n - b := by
  intro n
  induction n with
  | zero => intro h _; rw [psz_all (by omega)]; exact Nat.zero_le _
  | succ n ih =>
    intro hb ht
    by_cases e : b = n + 1
    · rw [psz_all (by omega)]; exact Nat.zero_le _
    · have h1 := ih (by omega) (fun i hi => ht i (by omega))
      have h2 := psz_succ (t := t) (n := n) (b := b) (by omega) (ht n (by omega))
      have h3 : (if b < lst t n (t n) then 0 else 1) ≤ 1 := by split <;> omega
      omega
theorem psz_pos {t : Nat → Nat} {n b : Nat} (hb : b < n + 1) (ht : t n < 64) : 1 ≤ psz t (n + 1) b := by
  have h := cntB_off (P := fun p => decide (b < lst t (n + 1) p)) ht
  have e : decide (b < lst t (n + 1) (t n)) = true := decide_eq_true (by rw [lst_s, if_pos rfl]; omega)
  rw [if_pos e] at h
  unfold psz
  omega
theorem wsz_ok {w n j : Nat} {t : Nat → Nat} (hw : 1 ≤ w) (ht : ∀ i, i < n → t i < 64) (hj : j < n) : 1 ≤ wsz w t j ∧ wsz w t j ≤ w ∧ wsz w t j ≤ j + 1 := by
  have h1 := psz_pos (t := t) (n := j) (b := j + 1 - w) (by omega) (ht j hj)
  have h2 := psz_len (t := t) (b := j + 1 - w) (n := j + 1) (by omega) (fun i hi => ht i (by omega))
  unfold wsz
  omega
/-! the curves -/
def FW (z : ASt) (k : Nat) : Nat := cntB (fun j => decide (k ≤ dpt z.2.1 j)) z.1
def BF (z : ASt) (k : Nat) : Nat := (bel z.2.1 z.1 k z.1).2.2
def fNz (z : ASt) (k : Nat) : Nat := fN z.2.2.1 z.2.2.2.1 z.2.2.2.2.1 z.2.2.2.2.2 k
theorem cur_best {m w k : Nat} {z : ASt} {A : Nat → Nat → Bool} (hi : AInvZ m w z) (hk : 1 ≤ k) (hA : Sched z.2.1 z.1 k A) : BF z k ≤ ofF A z.2.1 z.1 := (bel_best hi.2.2.2.2.1 hk hi.2.2.2.2.2.1 hA z.1 (Nat.le_refl _)).1
theorem cur_le {m w k : Nat} {z : ASt} (hi : AInvZ m w z) (hk : 1 ≤ k) (hk2 : k ≤ 16) : BF z k ≤ FW z k := by
  have h := cur_best hi hk (lH_sched hk hi.2.2.2.2.2.1)
  rwa [lH_F (by omega) hi.2.2.2.2.2.1 (Nat.le_refl _)] at h
theorem cur_first {m w k : Nat} {z : ASt} (hi : AInvZ m w z) (hk : 1 ≤ k) : psz z.2.1 z.1 0 ≤ BF z k := by
  have h := (bH_sched (k := k) hi.2.2.2.2.1 hk hi.2.2.2.2.2.1).first hi.2.2.2.2.2.1 z.1 (Nat.le_refl _)
  rwa [← bH_F hi.2.2.2.2.1 hk hi.2.2.2.2.2.1 z.1 (Nat.le_refl _)] at h
theorem cur_bmono {m w k : Nat} {z : ASt} (hi : AInvZ m w z) (hk : 1 ≤ k) : BF z (k + 1) ≤ BF z k := by
  have h := cur_best hi (show 1 ≤ k + 1 by omega) ((bH_sched (k := k) hi.2.2.2.2.1 hk hi.2.2.2.2.2.1).mono (Nat.le_succ k))
  rwa [← bH_F hi.2.2.2.2.1 hk hi.2.2.2.2.2.1 z.1 (Nat.le_refl _)] at h
theorem cur_fmono {k : Nat} {z : ASt} : FW z (k + 1) ≤ FW z k := cntB_mono (fun i _ h => by
  rw [decide_eq_true_iff] at h ⊢
  omega)
theorem cur_one {m w : Nat} {z : ASt} (hi : AInvZ m w z) : FW z 1 = BF z 1 := by
  unfold FW BF
  rw [← lH_F (by omega) hi.2.2.2.2.2.1 (Nat.le_refl _), bH_F hi.2.2.2.2.1 (by omega) hi.2.2.2.2.2.1 z.1 (Nat.le_refl _)]
  exact sched1 (lH_sched (by omega) hi.2.2.2.2.2.1) (bH_sched hi.2.2.2.2.1 (by omega) hi.2.2.2.2.2.1) hi.2.2.2.2.2.1 (Nat.le_refl _)
theorem hz_inv {m w : Nat} {z : ASt} (hi : AInvZ m w z) : ∀ i, i ≤ z.1 → AInvZ m w (zq m z.2.1 i) := zq_inv hi.1 hi.2.1 hi.2.2.1 hi.2.2.2.1 hi.2.2.2.2.1 hi.2.2.2.2.2.1
theorem hz_F {m k : Nat} {z : ASt} (hz : HZ m z) (hk : k < 4) : nI (fNz z k) = nI (ofF (aH m z.2.1 k) z.2.1 z.1) := by
  have h := aH_F (n := z.1) (m := m) (t := z.2.1) hk z.1
  rwa [hz] at h
theorem cur_0 {m w : Nat} {z : ASt} (hi : AInvZ m w z) (hz : HZ m z) : nI (fNz z 0) = nI (FW z m) := by
  have h2 := hi.2.1
  rw [hz_F hz (by omega), aH_0 (hz_inv hi) (Nat.le_refl _), lH_F (by omega) hi.2.2.2.2.2.1 (Nat.le_refl _)]
  rfl
theorem cur_pol {m w k : Nat} {z : ASt} (hi : AInvZ m w z) (hz : HZ m z) (hk : k < 3) : ∃ F, nI (fNz z k) = nI F ∧ F ≤ 400 ∧ BF z m ≤ F := by
  refine ⟨_, hz_F hz (by omega), ?_, cur_best hi hi.1 (aH_sched hk hi.2.2.2.2.2.1 (hz_inv hi))⟩
  exact Nat.le_trans (cntB_le _ _) hi.2.2.2.2.1
theorem cur_ref {m w : Nat} {z : ASt} (hi : AInvZ m w z) (hz : HZ m z) : ∃ K : Nat → Nat, (∀ j, z.2.2.1.2.2.2.2.1 j = nI (K j)) ∧ sumN K 401 + psz z.2.1 z.1 0 = fNz z 0 ∧ ∀ j, K j ≤ 400 := by
  have h := zq_ref hi.2.2.2.2.1 hi.2.2.2.2.2.1 (hz_inv hi) z.1 (Nat.le_refl _)
  rw [hz] at h
  obtain ⟨K, k1, k2, k3, _⟩ := h
  exact ⟨K, k1, k2, fun j => Nat.le_trans (k3 j) hi.2.2.2.2.1⟩
theorem FW_le {m w k : Nat} {z : ASt} (hi : AInvZ m w z) : FW z k ≤ 400 := Nat.le_trans (cntB_le _ _) hi.2.2.2.2.1
theorem BF_le {m w k : Nat} {z : ASt} (hi : AInvZ m w z) (hk : 1 ≤ k) : BF z k ≤ 400 := Nat.le_trans (bel_inv (t := z.2.1) hi.2.2.2.2.1 hk z.1).2.1 hi.2.2.2.2.1
theorem BF_pos {m w k : Nat} {z : ASt} (hi : AInvZ m w z) (hk : 1 ≤ k) (hn : 1 ≤ z.1) : 1 ≤ BF z k := (bel_inv (t := z.2.1) hi.2.2.2.2.1 hk z.1).2.2.1 hn
