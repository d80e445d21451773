/-! PURE: all together, a touch -/
theorem sel {x k : Int32} {F : Int32 → Prop} (h : ∀ s, s = (if x = 0 then 0 else k) → F s) : (x = 0 → F 0) ∧ (¬ x = 0 → F k) := ⟨fun e => h 0 (by rw [if_pos e]), fun e => h k (by rw [if_neg e])⟩
def fv (x y z u : Int32) : Int32 := (((if x = 0 then 0 else 1) + (if y = 0 then 0 else 2)) + (if z = 0 then 0 else 4)) + (if u = 0 then 0 else 8)
theorem fv_bits {x y z u : Int32} (hx : x = 0 ∨ x = 1) (hy : y = 0 ∨ y = 1) (hz : z = 0 ∨ z = 1) (hu : u = 0 ∨ u = 1) : (fv x y z u >>> (0 &&& 31)) &&& 1 = x ∧ (fv x y z u >>> (1 &&& 31)) &&& 1 = y ∧ (fv x y z u >>> (2 &&& 31)) &&& 1 = z ∧ (fv x y z u >>> (3 &&& 31)) &&& 1 = u := by
  rcases hx with rfl | rfl <;> rcases hy with rfl | rfl <;> rcases hz with rfl | rfl <;> rcases hu with rfl | rfl <;> decide +kernel
theorem rec_F {m p : Nat} {a : ARec} : (recFault p a = 0 ∨ recFault p a = 1) ∧ nI a.2.2.2.2.2 + recFault p a = nI (recStep m p a).2.2.2.2.2 := by
  unfold recFault recStep
  by_cases c : p ∈ a.1
  · rw [if_pos c]; simp only [if_pos c]; exact ⟨Or.inl trivial, nI_add _ 0⟩
  · rw [if_neg c]; simp only [if_neg c]; exact ⟨Or.inr trivial, nI_1 _⟩
theorem str_F {m n p : Nat} {t : Nat → Nat} {a : AStr} : (strFault p a = 0 ∨ strFault p a = 1) ∧ nI a.2.2.2.2 + strFault p a = nI (strStep m n t p a).2.2.2.2 := by
  unfold strStep
  rw [strPost_u]
  unfold strFault strPre
  by_cases c : p ∈ a.1
  · rw [if_pos c]; simp only [if_pos c]; exact ⟨Or.inl trivial, nI_add _ 0⟩
  · rw [if_neg c]; simp only [if_neg c]; exact ⟨Or.inr trivial, nI_1 _⟩
theorem ada_F {m p : Nat} {a : AAda} : (adaFault p a = 0 ∨ adaFault p a = 1) ∧ nI a.2.2 + adaFault p a = nI (adaStep m p a).2.2 := by
  unfold adaFault adaStep
  by_cases c : p ∈ a.1 1 ∨ p ∈ a.1 2
  · rw [if_pos c, if_pos c]; exact ⟨Or.inl rfl, nI_add _ 0⟩
  · rw [if_neg c, if_neg c]
    refine ⟨Or.inr rfl, ?_⟩
    rw [nI_1]
    split
    · rfl
    · split <;> rfl
theorem clk_F {m p : Nat} {a : AClk} : (clkFault p a = 0 ∨ clkFault p a = 1) ∧ nI a.2.2.2.2 + clkFault p a = nI (clkStep m p a).2.2.2.2 := by
  unfold clkFault clkStep
  cases hx : ixf a.2.1 p a.1 with
  | some i => rw [if_neg (by simp)]; exact ⟨Or.inl rfl, nI_add _ 0⟩
  | none =>
    rw [if_pos rfl]
    refine ⟨Or.inr rfl, ?_⟩
    rw [nI_1]
    simp only
    split <;> rfl
def AInv (m w n : Nat) (t : Nat → Nat) (r : ARec) (c : AClk) (a : AAda) (s : AStr) : Prop := 1 ≤ m ∧ m ≤ 16 ∧ 1 ≤ w ∧ w ≤ 100 ∧ n ≤ 400 ∧ (∀ i, i < n → t i < 64) ∧ RecInv m n r ∧ ClkInv m n c ∧ AdaInv m n a ∧ StrInv m n s
theorem AInv.step {m w n : Nat} {t : Nat → Nat} {r : ARec} {c : AClk} {a : AAda} {s : AStr} {p : Nat} (h : AInv m w n t r c a s) (hn : n < 400) (hp : p < 64) : AInv m w (n + 1) (fset t n p) (recStep m p r) (clkStep m p c) (adaStep m p a) (strStep m n t p s) := by
  obtain ⟨i1, i2, i3, i4, i5, i6, i7, i8, i9, i10⟩ := h
  refine ⟨i1, i2, i3, i4, by omega, fun i hi => ?_, i7.step i1 hp, i8.step i1 hp, i9.step i1 hp, i10.step i1 hp⟩
  by_cases e : i = n
  · rw [e, fs_s]; exact hp
  · rw [fs_n e]; exact i6 i (by omega)
def SeeC (m w n : Nat) (t : Nat → Nat) (r : ARec) (c : AClk) (a : AAda) (s : AStr) (r1 r2 r3 : Int32) (r4 r5 r6 r7 : Nat → Int32) (c1 c2 c3 : Int32) (c4 c5 : Nat → Int32) (a1 a2 a3 : Int32) (a4 : Nat → Int32) (a5 : Int32) (a6 : Nat → Int32) (a7 : Int32) (a8 : Nat → Int32) (a9 : Int32) (a10 : Nat → Int32) (s1 s2 s3 s4 s5 s6 s7 s8 : Int32) (s9 s10 : Nat → Int32) (h1 h2 : Int32) (h3 h4 h5 h6 : Nat → Int32) : Prop := RecC r r1 r2 r3 r4 r5 r6 r7 ∧ ClkC c c1 c2 c3 c4 c5 ∧ AdaC a a1 a2 a3 a4 a5 a6 a7 a8 a9 a10 ∧ StrC n t s s1 s2 s3 s4 s5 s6 s8 s9 s10 ∧ HisC w n t h1 h2 h3 h4 h5 h6
def TchM (m n : Nat) (t : Nat → Nat) (r : ARec) (c : AClk) (a : AAda) (s : AStr) (nn sp pm um ev hd tg : Int32) (tf fm rc sd ia ea di dm pf bf ls ss : Nat → Int32) : Prop := nn = nI n ∧ (∀ i, i < n → tf i = nI (t i)) ∧ (fm 0 = nI r.2.2.2.2.2 ∧ fm 1 = nI c.2.2.2.2 ∧ fm 2 = nI a.2.2 ∧ fm 3 = nI s.2.2.2.2) ∧ ∃ st : Nat, sp = nI st ∧ st ≤ 5 * n ∧ RecM r st ev rc ea di dm ∧ ClkM m c hd pf bf ∧ AdaM a st tg ls ss ∧ StrM s st pm um sd ia
theorem c_all {m w n : Nat} {t : Nat → Nat} {r : ARec} {c : AClk} {a : AAda} {s : AStr} {p : Nat} {r1 r2 r3 : Int32} {r4 r5 r6 r7 : Nat → Int32} {c1 c2 c3 : Int32} {c4 c5 : Nat → Int32} {a1 a2 a3 : Int32} {a4 : Nat → Int32} {a5 : Int32} {a6 : Nat → Int32} {a7 : Int32} {a8 : Nat → Int32} {a9 : Int32} {a10 : Nat → Int32} {s1 s2 s3 s4 s5 s6 s7 s8 : Int32} {s9 s10 : Nat → Int32} {h1 h2 : Int32} {h3 h4 h5 h6 : Nat → Int32} (hi : AInv m w n t r c a s) (hn : n < 400) (hp : p < 64) (hr : SeeC m w n t r c a s r1 r2 r3 r4 r5 r6 r7 c1 c2 c3 c4 c5 a1 a2 a3 a4 a5 a6 a7 a8 a9 a10 s1 s2 s3 s4 s5 s6 s7 s8 s9 s10 h1 h2 h3 h4 h5 h6) {Q : Int32 → Int32 → Int32 → Int32 → (Nat → Int32) → (Nat → Int32) → (Nat → Int32) → (Nat → Int32) → Int32 → Int32 → Int32 → (Nat → Int32) → (Nat → Int32) → Int32 → Int32 → Int32 → (Nat → Int32) → Int32 → (Nat → Int32) → Int32 → (Nat → Int32) → Int32 → (Nat → Int32) → Int32 → Int32 → Int32 → Int32 → Int32 → Int32 → Int32 → Int32 → (Nat → Int32) → (Nat → Int32) → Int32 → Int32 → (Nat → Int32) → (Nat → Int32) → (Nat → Int32) → (Nat → Int32) → Prop} (h : ∀ r1 r2 r3 r4 r5 r6 r7 c1 c2 c3 c4 c5 a1 a2 a3 a4 a5 a6 a7 a8 a9 a10 s1 s2 s3 s4 s5 s6 s7 s8 s9 s10 h1 h2 h3 h4 h5 h6, SeeC m w (n + 1) (fset t n p) (recStep m p r) (clkStep m p c) (adaStep m p a) (strStep m n t p s) r1 r2 r3 r4 r5 r6 r7 c1 c2 c3 c4 c5 a1 a2 a3 a4 a5 a6 a7 a8 a9 a10 s1 s2 s3 s4 s5 s6 s7 s8 s9 s10 h1 h2 h3 h4 h5 h6 → Q (fv (recFault p r) (clkFault p c) (adaFault p a) (strFault p s)) r1 r2 r3 r4 r5 r6 r7 c1 c2 c3 c4 c5 a1 a2 a3 a4 a5 a6 a7 a8 a9 a10 s1 s2 s3 s4 s5 s6 s7 s8 s9 s10 h1 h2 h3 h4 h5 h6) : wR_X9_showToAll (nI m) (nI m) (nI m) (nI m) (nI w) (nI p) r1 r2 r3 r4 r5 r6 r7 c1 c2 c3 c4 c5 a1 a2 a3 a4 a5 a6 a7 a8 a9 a10 s1 s2 s3 s4 s5 s6 s7 s8 s9 s10 h1 h2 h3 h4 h5 h6 Q := by
  obtain ⟨i1, i2, i3, i4, i5, i6, i7, i8, i9, i10⟩ := hi
  obtain ⟨e1, e2, e3, e4, e5⟩ := hr
  have e5' := e5.congr (t' := fset t n p) (fun i hi => fs_n (by omega))
  refine c_his e5' hn i3 i4 hp fs_s (fun h1 h2 h3 h4 h5 h6 e5 => c_rec i7 i5 i1 i2 hp e1 (fun r1 r2 r3 r4 r5 r6 r7 e1 => ?_))
  refine sel (F := fun s0 => wR_X9_showToAll_24 _ _ _ _ _ _ _ s0 _ _ _ _ _ _ _ _ _ _ _ _ _ _ _ _ _ _ _ _ _ _ _ _ _ _ _ _ _ _ _ _ _ _ _ _ _ _) (fun q0 g0 => ?_)
  refine c_clk i8 i5 i1 i2 hp e2 (fun c1 c2 c3 c4 c5 e2 => ?_)
  refine sel (F := fun s1 => wR_X9_showToAll_42 _ _ _ _ _ _ _ _ s1 _ _ _ _ _ _ _ _ _ _ _ _ _ _ _ _ _ _ _ _ _ _ _ _ _ _ _ _ _ _ _ _ _ _ _ _ _ _) (fun q1 g1 => ?_)
  refine c_ada i9 i5 i1 i2 hp e3 (fun a1 a2 a3 a4 a5 a6 a7 a8 a9 a10 e3 => ?_)
  refine sel (F := fun s1 => wR_X9_showToAll_61 _ _ _ _ _ _ _ _ s1 _ _ _ _ _ _ _ _ _ _ _ _ _ _ _ _ _ _ _ _ _ _ _ _ _ _ _ _ _ _ _ _ _ _ _ _ _ _) (fun q2 g2 => ?_)
  refine c_str i10 i5 i1 i2 hp i6 e4 (fun s1 s2 s3 s4 s5 s6 s7 s8 s9 s10 e4 => ?_)
  refine sel (F := fun s1 => wR_X9_showToAll_81 _ _ _ _ _ _ _ _ s1 _ _ _ _ _ _ _ _ _ _ _ _ _ _ _ _ _ _ _ _ _ _ _ _ _ _ _ _ _ _ _ _ _ _ _ _ _ _) (fun q3 g3 => ?_)
  have hq := h r1 r2 r3 r4 r5 r6 r7 c1 c2 c3 c4 c5 a1 a2 a3 a4 a5 a6 a7 a8 a9 a10 s1 s2 s3 s4 s5 s6 s7 s8 s9 s10 h1 h2 h3 h4 h5 h6 ⟨e1, e2, e3, e4, e5⟩
  unfold fv at hq
  rw [← g0, ← g1, ← g2, ← g3] at hq
  exact hq
theorem RecM.mono {a : ARec} {b b' : Nat} {ev : Int32} {rc ea di dm : Nat → Int32} (h : RecM a b ev rc ea di dm) (hb : b ≤ b') : RecM a b' ev rc ea di dm := ⟨h.1, h.2.1.mono hb, h.2.2⟩
theorem AdaM.mono {a : AAda} {b b' : Nat} {tg : Int32} {ls ss : Nat → Int32} (h : AdaM a b tg ls ss) (hb : b ≤ b') : AdaM a b' tg ls ss := ⟨h.1, h.2.mono hb⟩
