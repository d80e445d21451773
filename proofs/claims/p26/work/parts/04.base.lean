/-! MY OWN ROWS OVER THE KIT: one list of words for every method, one environment, calls by sub-worlds whose addresses stay -/
abbrev wA : List Cond := lw_tbl.filter goodWord
theorem wA_at {w : Cond} (i : Nat) (h : lw_tbl[i]? = some w) (g : goodWord w = true) : w ∈ wA := List.mem_filter.mpr ⟨List.mem_of_getElem? h, g⟩
def wM (y : MethodName) (b : ByteArray) (n : Nat) (r : Option FieldType) : List Cond := .code y b n r :: wA
theorem wM_in {y : MethodName} {b : ByteArray} {n : Nat} {r : Option FieldType} (h : Cond.code y b n r ∈ wA) : GoodIn wA (wM y b n r) := by
  intro w hw
  have hm : w ∈ wA := by
    rcases List.mem_cons.mp hw with h1 | h1
    · rw [h1]; exact h
    · exact h1
  exact ⟨hm, good_of_word (List.mem_filter.mp hm).2⟩
theorem gi_app {a b : List Cond} (ha : ∀ w ∈ a, w ∈ wA) (hb : GoodIn wA b) : GoodIn wA (a ++ b) := by
  intro w hw
  rcases List.mem_append.mp hw with h1 | h1
  · have hm := ha w h1
    exact ⟨hm, good_of_word (List.mem_filter.mp hm).2⟩
  · exact hb w h1
theorem gl_0 : ∀ w ∈ ([] : List Cond), w ∈ wA := fun _ h => absurd h List.not_mem_nil
theorem gl_c {a : Cond} {l : List Cond} (h : a ∈ wA) (t : ∀ w ∈ l, w ∈ wA) : ∀ w ∈ a :: l, w ∈ wA := fun w hw => by
  rcases List.mem_cons.mp hw with h1 | h1
  · rw [h1]; exact h
  · exact t w h1
def isNest : Cond → Bool
  | .fieldLinkNest .. => true
  | .methodLinkNest .. => true
  | .declares .. => true
  | .castable .. => true
  | _ => false
abbrev wN : List Cond := lw_tbl.filter isNest
theorem wN_at {w : Cond} (i : Nat) (h : lw_tbl[i]? = some w) (g : isNest w = true) : w ∈ wN := List.mem_filter.mpr ⟨List.mem_of_getElem? h, g⟩
abbrev wStr : List (String × Nat × String) := [("Swapmere", 206, "the number of frames is out of range"), ("Swapmere", 61, "the window is out of range"), ("Swapmere", 76, "the step or the count is out of range"), ("Swapmere", 204, "a page is out of range"), ("Swapmere", 210, "there would be too many touches"), ("Swapmere", 184, "the policy is out of range"), ("Swapmere", 112, "no page would be evicted"), ("Swapmere", 213, "there is no such touch"), ("Swapmere", 199, "the list is out of range"), ("Swapmere", 140, "the distance is out of range"), ("Swapmere", 153, "there are no touches")]
abbrev wNc : List (String × String) := [("java/lang/IllegalStateException", "java/lang/IllegalArgumentException"), ("java/util/NoSuchElementException", "java/lang/IllegalArgumentException")]
/-- the tables' side of a world: classes, four array classes, nest words, texts, classes that no cast joins -/
def gE (D : va_G) (kI kZ kJ kD : ClassId) (U : State) : Prop := va_K D vwCl [(kI, .int), (kZ, .boolean)] U ∧ (∀ w ∈ wN, va_Nw w U) ∧ (∀ q ∈ wStr, ∃ a : Nat, vk_R q.1 q.2.1 q.2.2 a U) ∧ (∀ q ∈ wNc, va_Nc q.1 q.2 U)
theorem gE_warm {D : va_G} {kI kZ kJ kD : ClassId} {s U : State} (hW : s.WarmedH U.vm) (h : gE D kI kZ kJ kD s) : gE D kI kZ kJ kD U := by
  refine ⟨va_K.moved hW.alike h.1, fun w hw => ?_, fun q hq => ?_, fun q hq => va_Nc.moved hW.alike (h.2.2.2 q hq)⟩
  · have h1 := h.2.1 w hw
    have h2 : isNest w = true := (List.mem_filter.mp hw).2
    cases w <;> first | exact va_Nw.warmF hW h1 | exact va_Nw.warmM hW h1 | exact va_Nw.warmD hW h1 | exact va_Nw.warmC hW h1 | (simp [isNest] at h2)
  · obtain ⟨a, ha⟩ := h.2.2.1 q hq
    exact ⟨a, vk_R.warm hW ha⟩
theorem gE_blind {D : va_G} {kI kZ kJ kD : ClassId} {U : State} {g : JFrame} {mk : MethodId} {a : Array Value} (h : gE D kI kZ kJ kD U) : gE D kI kZ kJ kD (U.calling g mk a) := by
  refine ⟨va_K.moved (u := U) (U := U.calling g mk a) (Vm.Alike.refl U.vm) h.1, fun w hw => ?_, fun q hq => ?_, fun q hq => va_Nc.moved (u := U) (U := U.calling g mk a) (Vm.Alike.refl U.vm) (h.2.2.2 q hq)⟩
  · exact va_Nw.same (by
      have h2 : isNest w = true := (List.mem_filter.mp hw).2
      cases w <;> first | rfl | (simp [isNest] at h2)) (u := U) (U := U.calling g mk a) rfl (h.2.1 w hw)
  · obtain ⟨a1, ha⟩ := h.2.2.1 q hq
    exact ⟨a1, vk_R.same (u := U) (U := U.calling g mk a) rfl ha⟩
/-- what holds at a method's start -/
def gS (D : va_G) (kI kZ kJ kD : ClassId) (W : va_W) (sz : Nat) (U : State) : Prop := U.heap.size = sz ∧ va_P D vwCl W U.heap ∧ gE D kI kZ kJ kD U ∧ va_D (fun _ => True) W
theorem gS_blind {D : va_G} {kI kZ kJ kD : ClassId} {W : va_W} {sz : Nat} {av : List Value} : FrameBlind (va_Pc av (gS D kI kZ kJ kD W sz)) := fun _ _ _ _ q => ⟨q.1, q.2.1, q.2.2.1, gE_blind q.2.2.2.1, q.2.2.2.2⟩
theorem gD_sub {A : Nat → Prop} {ws wc : va_W} (hD : va_D A ws) (isC : List Nat) (hn : va_nd isC = true) (hC : isC.map (fun i => ws[i]?) = wc.map some) : va_D (fun _ => True) wc := (hD.sub isC hn hC).weaken (fun _ _ _ _ => trivial)
theorem gP_sub {D : va_G} {cl : List vw_C} {ws wc : va_W} {H : Heap} (hP : va_P D cl ws H) (isC : List Nat) (hC : isC.map (fun i => ws[i]?) = wc.map some) : va_P D cl wc H := by
  intro k q hq
  have h1 : (isC.map (fun i => ws[i]?))[k]? = some (some q) := by rw [hC, List.getElem?_map, hq]; rfl
  rw [List.getElem?_map] at h1
  cases hi : isC[k]? with
  | none => rw [hi] at h1; cases h1
  | some i => rw [hi] at h1; exact hP i q (Option.some.inj h1)
/-- the caller's list with a part of it replaced, by places -/
def gT : List Nat → va_W → va_W → va_W
  | i :: is, c :: cs, ws => gT is cs (ws.set i c)
  | _, _, ws => ws
theorem gT_get : ∀ (is : List Nat) (cs ws : va_W) (k : Nat) (q : Nat × va_E), (gT is cs ws)[k]? = some q → q ∈ cs ∨ (ws[k]? = some q ∧ (k ∉ is ∨ cs.length < is.length))
  | [], cs, ws, k, q, h => Or.inr ⟨by cases cs <;> exact h, Or.inl List.not_mem_nil⟩
  | i :: is, [], ws, k, q, h => Or.inr ⟨h, Or.inr (by simp)⟩
  | i :: is, c :: cs, ws, k, q, h => by
    rcases gT_get is cs (ws.set i c) k q h with h1 | ⟨h1, h2⟩
    · exact Or.inl (List.mem_cons_of_mem _ h1)
    · by_cases hk : i = k
      · subst hk
        rw [List.getElem?_set] at h1
        simp only [if_true] at h1
        split at h1
        · exact Or.inl (by rw [← Option.some.inj h1]; exact List.mem_cons_self)
        · cases h1
      · rw [List.getElem?_set_ne hk] at h1
        refine Or.inr ⟨h1, ?_⟩
        rcases h2 with h2 | h2
        · exact Or.inl (fun h3 => by
            rcases List.mem_cons.mp h3 with h4 | h4
            · exact hk h4.symm
            · exact h2 h4)
        · exact Or.inr (by simp only [List.length_cons]; omega)
theorem gT_fst : ∀ (is : List Nat) (cs wc ws : va_W), is.map (fun i => ws[i]?) = wc.map some → cs.map (·.1) = wc.map (·.1) → va_nd is = true → (gT is cs ws).map (·.1) = ws.map (·.1)
  | [], cs, wc, ws, _, _, _ => by cases cs <;> rfl
  | i :: is, [], wc, ws, _, _, _ => rfl
  | i :: is, c :: cs, [], ws, h, h2, _ => by cases h
  | i :: is, c :: cs, w :: wc, ws, h, h2, hn => by
    have h3 : ws[i]? = some w := (List.cons.inj h).1
    have h4 : c.1 = w.1 := (List.cons.inj h2).1
    have hn' : i ∉ is ∧ va_nd is = true := by
      simpa [va_nd, Bool.and_eq_true] using hn
    have h5 : is.map (fun j => (ws.set i c)[j]?) = wc.map some := by
      rw [← (List.cons.inj h).2]
      refine List.map_congr_left (fun j hj => ?_)
      exact List.getElem?_set_ne (fun e => hn'.1 (by rw [e]; exact hj))
    show (gT is cs (ws.set i c)).map (·.1) = _
    rw [gT_fst is cs wc (ws.set i c) h5 (List.cons.inj h2).2 hn'.2, List.map_set, h4]
    refine List.ext_getElem? (fun j => ?_)
    by_cases hj : i = j
    · subst hj
      rw [List.getElem?_set, if_pos rfl, List.getElem?_map, h3]
      split
      · rfl
      · rename_i hlt
        exact absurd (by rw [List.length_map]; exact (List.getElem?_eq_some_iff.mp h3).1) hlt
    · rw [List.getElem?_set_ne hj]
theorem gD_same {A : Nat → Prop} {ws ws' : va_W} (hD : va_D A ws) (h : ws'.map (·.1) = ws.map (·.1)) : va_D A ws' := by
  have at' : ∀ (k : Nat) (q : Nat × va_E), ws'[k]? = some q → ∃ q0, ws[k]? = some q0 ∧ q0.1 = q.1 := by
    intro k q hq
    have h1 : (ws'.map (·.1))[k]? = some q.1 := by rw [List.getElem?_map, hq]; rfl
    rw [h, List.getElem?_map] at h1
    cases hi : ws[k]? with
    | none => rw [hi] at h1; cases h1
    | some q0 => rw [hi] at h1; exact ⟨q0, rfl, Option.some.inj h1⟩
  refine ⟨fun i j p q hi hj e => ?_, fun k q hk => ?_⟩
  · obtain ⟨p0, a1, a2⟩ := at' i p hi
    obtain ⟨q0, b1, b2⟩ := at' j q hj
    exact hD.1 i j p0 q0 a1 b1 (by rw [a2, b2]; exact e)
  · obtain ⟨q0, a1, a2⟩ := at' k q hk
    rw [← a2]
    exact hD.2 k q0 a1
/-- behind a call whose world keeps its addresses -/
theorem gP_join {A0 : Nat → Prop} {D : va_G} {cl : List vw_C} {ws wc w1 : va_W} {H H1 : Heap} (hP : va_P D cl ws H) (hD : va_D A0 ws) (isC : List Nat) (hC : isC.map (fun i => ws[i]?) = wc.map some) (hl : w1.map (·.1) = wc.map (·.1))
    (hk : ∀ q : Nat, q < H.size → ¬ va_A wc H.size q → H1[q]? = H[q]?) (hP1 : va_P D cl w1 H1) : va_P D cl (gT isC w1 ws) H1 := by
  intro k q hq
  rcases gT_get isC w1 ws k q hq with h1 | ⟨h1, h2⟩
  · obtain ⟨j, hj⟩ := List.getElem?_of_mem h1
    exact hP1 j q hj
  · have hlen : w1.length = isC.length := by
      have e1 := congrArg List.length hl
      have e2 := congrArg List.length hC
      simp only [List.length_map] at e1 e2
      omega
    have hni : k ∉ isC := h2.resolve_right (by omega)
    have hlt := (hP k q h1).lt
    refine (hP k q h1).kept (hk q.1 hlt (fun hA => ?_))
    rcases hA with ⟨k2, e, h⟩ | h
    · have h3 : (isC.map (fun i => ws[i]?))[k2]? = some (some (q.1, e)) := by rw [hC, List.getElem?_map, h]; rfl
      rw [List.getElem?_map] at h3
      cases hi : isC[k2]? with
      | none => rw [hi] at h3; cases h3
      | some i =>
        rw [hi] at h3
        have hij := hD.1 i k (q.1, e) q (Option.some.inj h3) h1 rfl
        exact hni (by rw [← hij]; exact List.mem_of_getElem? hi)
    · omega
/-- the same by one pass, for places that go up -/
def gU : Nat → List Nat → va_W → va_W → va_W
  | k, i :: is, c :: cs, w :: ws => cond (Nat.beq i k) (c :: gU (k + 1) is cs ws) (w :: gU (k + 1) (i :: is) (c :: cs) ws)
  | _, _, _, ws => ws
def gAsc : List Nat → Bool
  | i :: j :: r => cond (Nat.blt i j) (gAsc (j :: r)) false
  | _ => true
theorem gAsc_ok : ∀ {l : List Nat}, gAsc l = true → l.Pairwise (· < ·)
  | [], _ => List.Pairwise.nil
  | [i], _ => List.pairwise_singleton _ _
  | i :: j :: r, h => by
    have h1 : Nat.blt i j = true := by
      cases hb : Nat.blt i j with
      | true => rfl
      | false => rw [gAsc, hb] at h; cases h
    have h2 : gAsc (j :: r) = true := by
      rw [gAsc, h1] at h; exact h
    have h3 := gAsc_ok h2
    have hij : i < j := Nat.blt_eq.mp h1
    refine List.pairwise_cons.mpr ⟨fun x hx => ?_, h3⟩
    rcases List.mem_cons.mp hx with h4 | h4
    · rw [h4]; exact hij
    · exact Nat.lt_trans hij ((List.pairwise_cons.mp h3).1 x h4)
theorem gU_nil (k : Nat) (is : List Nat) (cs : va_W) : gU k is cs [] = [] := by cases is <;> cases cs <;> rfl
theorem gU_t {k i : Nat} {is : List Nat} {c w : Nat × va_E} {cs ws : va_W} (h : i = k) : gU k (i :: is) (c :: cs) (w :: ws) = c :: gU (k + 1) is cs ws := by
  rw [gU, h, show Nat.beq k k = true from Nat.beq_refl k]; rfl
theorem gU_f {k i : Nat} {is : List Nat} {c w : Nat × va_E} {cs ws : va_W} (h : i ≠ k) : gU k (i :: is) (c :: cs) (w :: ws) = w :: gU (k + 1) (i :: is) (c :: cs) ws := by
  have hb : Nat.beq i k = false := by
    cases hb : Nat.beq i k with
    | false => rfl
    | true => exact absurd (Nat.eq_of_beq_eq_true hb) h
  rw [gU, hb]; rfl
theorem gU_get : ∀ (ws : va_W) (k : Nat) (is : List Nat) (cs : va_W) (j : Nat) (q : Nat × va_E), (∀ i ∈ is, k ≤ i) → is.Pairwise (· < ·) → (gU k is cs ws)[j]? = some q → q ∈ cs ∨ (ws[j]? = some q ∧ (j + k ∉ is ∨ cs.length < is.length)) := by
  intro ws
  induction ws with
  | nil => intro k is cs j q _ _ h; rw [gU_nil] at h; cases h
  | cons w ws ih =>
    intro k is cs j q hk hp h
    cases is with
    | nil => exact Or.inr ⟨h, Or.inl List.not_mem_nil⟩
    | cons i is =>
      cases cs with
      | nil => exact Or.inr ⟨h, Or.inr (by simp)⟩
      | cons c cs =>
        have hp' := List.pairwise_cons.mp hp
        by_cases hi : i = k
        · rw [gU_t hi] at h
          cases j with
          | zero => exact Or.inl (by rw [← Option.some.inj h]; exact List.mem_cons_self)
          | succ j =>
            rcases ih (k + 1) is cs j q (fun x hx => by have := hp'.1 x hx; omega) hp'.2 h with h1 | ⟨h1, h2⟩
            · exact Or.inl (List.mem_cons_of_mem _ h1)
            · refine Or.inr ⟨h1, ?_⟩
              rcases h2 with h2 | h2
              · refine Or.inl (fun h3 => ?_)
                rcases List.mem_cons.mp h3 with h4 | h4
                · omega
                · exact h2 (by rw [show j + (k + 1) = j + 1 + k by omega]; exact h4)
              · exact Or.inr (by simp only [List.length_cons]; omega)
        · rw [gU_f hi] at h
          have hik : k < i := by have := hk i List.mem_cons_self; omega
          cases j with
          | zero =>
            refine Or.inr ⟨h, Or.inl (fun h3 => ?_)⟩
            rcases List.mem_cons.mp h3 with h4 | h4
            · omega
            · have := hp'.1 _ h4; omega
          | succ j =>
            rcases ih (k + 1) (i :: is) (c :: cs) j q (fun x hx => by
              rcases List.mem_cons.mp hx with h4 | h4
              · omega
              · have := hp'.1 _ h4; omega) hp h with h1 | ⟨h1, h2⟩
            · exact Or.inl h1
            · refine Or.inr ⟨h1, ?_⟩
              rcases h2 with h2 | h2
              · exact Or.inl (by rw [show j + 1 + k = j + (k + 1) by omega]; exact h2)
              · exact Or.inr h2
theorem gU_fst : ∀ (ws : va_W) (k : Nat) (is : List Nat) (cs wc : va_W), (∀ i ∈ is, k ≤ i) → is.Pairwise (· < ·) → is.map (fun i => ws[i - k]?) = wc.map some → cs.map (·.1) = wc.map (·.1) → (gU k is cs ws).map (·.1) = ws.map (·.1) := by
  intro ws
  induction ws with
  | nil => intro k is cs wc _ _ _ _; rw [gU_nil]
  | cons w ws ih =>
    intro k is cs wc hk hp hC hl
    cases is with
    | nil => rfl
    | cons i is =>
      cases cs with
      | nil => rfl
      | cons c cs =>
        cases wc with
        | nil => cases hC
        | cons v wc =>
          have hp' := List.pairwise_cons.mp hp
          by_cases hi : i = k
          · rw [gU_t hi]
            have h3 : (w :: ws)[i - k]? = some v := (List.cons.inj hC).1
            rw [hi, Nat.sub_self] at h3
            have h4 : w = v := Option.some.inj h3
            show c.1 :: _ = w.1 :: _
            rw [show c.1 = w.1 by rw [h4]; exact (List.cons.inj hl).1]
            refine congrArg (w.1 :: ·) (ih (k + 1) is cs wc (fun x hx => by have := hp'.1 x hx; omega) hp'.2 ?_ (List.cons.inj hl).2)
            rw [← (List.cons.inj hC).2]
            refine List.map_congr_left (fun x hx => ?_)
            have := hp'.1 x hx
            rw [show x - k = (x - (k + 1)) + 1 by omega]
            rfl
          · rw [gU_f hi]
            have hik : k < i := by have := hk i List.mem_cons_self; omega
            refine congrArg (w.1 :: ·) (ih (k + 1) (i :: is) (c :: cs) (v :: wc) (fun x hx => by
              rcases List.mem_cons.mp hx with h4 | h4
              · omega
              · have := hp'.1 _ h4; omega) hp ?_ hl)
            rw [← hC]
            refine List.map_congr_left (fun x hx => ?_)
            have hx' : k < x := by
              rcases List.mem_cons.mp hx with h4 | h4
              · omega
              · have := hp'.1 _ h4; omega
            rw [show x - k = (x - (k + 1)) + 1 by omega]
            rfl
theorem gP_joinU {A0 : Nat → Prop} {D : va_G} {cl : List vw_C} {ws wc w1 : va_W} {H H1 : Heap} (hP : va_P D cl ws H) (hD : va_D A0 ws) (isC : List Nat) (hs : gAsc isC = true) (hC : isC.map (fun i => ws[i]?) = wc.map some) (hl : w1.map (·.1) = wc.map (·.1))
    (hk : ∀ q : Nat, q < H.size → ¬ va_A wc H.size q → H1[q]? = H[q]?) (hP1 : va_P D cl w1 H1) : va_P D cl (gU 0 isC w1 ws) H1 := by
  intro k q hq
  rcases gU_get ws 0 isC w1 k q (fun i _ => Nat.zero_le i) (gAsc_ok hs) hq with h1 | ⟨h1, h2⟩
  · obtain ⟨j, hj⟩ := List.getElem?_of_mem h1
    exact hP1 j q hj
  · have hlen : w1.length = isC.length := by
      have e1 := congrArg List.length hl
      have e2 := congrArg List.length hC
      simp only [List.length_map] at e1 e2
      omega
    have hni : k ∉ isC := h2.resolve_right (by omega)
    have hlt := (hP k q h1).lt
    refine (hP k q h1).kept (hk q.1 hlt (fun hA => ?_))
    rcases hA with ⟨k2, e, h⟩ | h
    · have h3 : (isC.map (fun i => ws[i]?))[k2]? = some (some (q.1, e)) := by rw [hC, List.getElem?_map, h]; rfl
      rw [List.getElem?_map] at h3
      cases hi : isC[k2]? with
      | none => rw [hi] at h3; cases h3
      | some i =>
        rw [hi] at h3
        have hij := hD.1 i k (q.1, e) q (Option.some.inj h3) h1 rfl
        exact hni (by rw [← hij]; exact List.mem_of_getElem? hi)
    · omega
/-- behind a call that left its world as it was -/
theorem gP_back {A0 : Nat → Prop} {D : va_G} {cl : List vw_C} {ws wc : va_W} {H H1 : Heap} (hP : va_P D cl ws H) (hD : va_D A0 ws) (isC : List Nat) (hC : isC.map (fun i => ws[i]?) = wc.map some)
    (hk : ∀ q : Nat, q < H.size → ¬ va_A wc H.size q → H1[q]? = H[q]?) (hP1 : va_P D cl wc H1) : va_P D cl ws H1 := by
  intro k q hq
  by_cases hm : q ∈ wc
  · obtain ⟨j, hj⟩ := List.getElem?_of_mem hm
    exact hP1 j q hj
  · have hlt := (hP k q hq).lt
    refine (hP k q hq).kept (hk q.1 hlt (fun hA => ?_))
    rcases hA with ⟨k2, e, h⟩ | h
    · have h3 : (isC.map (fun i => ws[i]?))[k2]? = some (some (q.1, e)) := by rw [hC, List.getElem?_map, h]; rfl
      rw [List.getElem?_map] at h3
      cases hi : isC[k2]? with
      | none => rw [hi] at h3; cases h3
      | some i =>
        rw [hi] at h3
        have h5 : ws[i]? = some (q.1, e) := Option.some.inj h3
        have hij := hD.1 i k (q.1, e) q h5 hq rfl
        rw [hij, hq] at h5
        exact hm (by rw [Option.some.inj h5]; exact List.mem_of_getElem? h)
    · omega
section GV
variable {p : Program} {l : Launch} {e : Env} {R : Room} {s : State} {m : MethodId} {args : Array Value} {below : List Frame} {meth : Method} {c : Code} {H : Heap} {locs : List Loc} {cells slots : Nat} {Q : State → Prop}
variable {D : va_G} {kI kZ kJ kD : ClassId} {ws wc : va_W} {A A1 : Nat → Prop} {H0 : Heap}
/-- the callee's start, out of the caller's world -/
theorem gp_V {C : String} {b ci q0 : Nat} {r : vw_C} {fs : List Value} {As : List Value} (hE : gE D kI kZ kJ kD s) (hP : va_P D vwCl ws H) (hD : va_D A ws) (isC : List Nat) (hn : va_nd isC = true) (hC : isC.map (fun i => ws[i]?) = wc.map some) (hc : vwCl[ci]? = some r) (he : wc[q0]? = some (b, .inr (ci, fs))) (hr : r.1 = C) : PreV s H C b (va_Pc (.ref b :: As) (gS D kI kZ kJ kD wc H.size)) As :=
  ⟨gS_blind, hr ▸ va_recv hE.1 (gP_sub hP isC hC) hc he, fun U hU hW => ⟨rfl, by rw [hU], by rw [hU]; exact gP_sub hP isC hC, gE_warm hW hE, gD_sub hD isC hn hC⟩⟩
theorem gp_S {As : List Value} (hE : gE D kI kZ kJ kD s) (hP : va_P D vwCl ws H) (hD : va_D A ws) (isC : List Nat) (hn : va_nd isC = true) (hC : isC.map (fun i => ws[i]?) = wc.map some) : PreS s H (va_Pc As (gS D kI kZ kJ kD wc H.size)) As :=
  ⟨gS_blind, fun U hU hW => ⟨rfl, by rw [hU], by rw [hU]; exact gP_sub hP isC hC, gE_warm hW hE, gD_sub hD isC hn hC⟩⟩
variable {pc : Nat} {ls : Array Slot} {rest st0 : List Value} {a : Array Value} {mc ms : Nat}
theorem gc_i {S : Type} {post : Int32 → S → Prop} {w1 : S → va_W} (hr : va_Run p l e R s m args below meth c H locs cells slots mc ms (F0 m pc ls st0) rest (va_Qi post (fun u t => va_P D vwCl (w1 u) t.heap) (va_A wc H.size) a) (va_A wc H.size))
    (hP : va_P D vwCl ws H) (hD : va_D A ws) (hS : va_S A H0 H locs) (hA : ∀ q, H0.size ≤ q → A q) (isC : List Nat) (hn : va_nd isC = true) (hC : isC.map (fun i => ws[i]?) = wc.map some) (hl : ∀ u, (w1 u).map (·.1) = wc.map (·.1))
    (kk : ∀ (r : Int32) (u : S) (H1 : Heap) (locs1 : List Loc), post r u → va_P D vwCl (gT isC (w1 u) ws) H1 → va_D A (gT isC (w1 u) ws) → va_S A H0 H1 locs1 → W p l e R s m args below meth c H1 locs1 (cells + mc) (slots + ms) Q (F0 m (pc + 3) ls (.int r :: rest))) : W p l e R s m args below meth c H locs cells slots Q (F0 m pc ls st0) := by
  have hF := va_free hD hS hA isC hC
  refine va_calli hr hS (fun q _ h => hF q h) hF (fun r u t H1 locs1 ht _ hw hB _ hk hS1 => ?_)
  rw [ht] at hB
  exact kk r u H1 locs1 hw (gP_join hP hD isC hC (hl u) hk hB) (gD_same hD (gT_fst isC _ wc ws hC (hl u) hn)) hS1
theorem gc_f {S : Type} {post : UInt32 → S → Prop} {w1 : S → va_W} (hr : va_Run p l e R s m args below meth c H locs cells slots mc ms (F0 m pc ls st0) rest (va_Qf post (fun u t => va_P D vwCl (w1 u) t.heap) (va_A wc H.size) a) (va_A wc H.size))
    (hP : va_P D vwCl ws H) (hD : va_D A ws) (hS : va_S A H0 H locs) (hA : ∀ q, H0.size ≤ q → A q) (isC : List Nat) (hn : va_nd isC = true) (hC : isC.map (fun i => ws[i]?) = wc.map some) (hl : ∀ u, (w1 u).map (·.1) = wc.map (·.1))
    (kk : ∀ (r : UInt32) (u : S) (H1 : Heap) (locs1 : List Loc), post r u → va_P D vwCl (gT isC (w1 u) ws) H1 → va_D A (gT isC (w1 u) ws) → va_S A H0 H1 locs1 → W p l e R s m args below meth c H1 locs1 (cells + mc) (slots + ms) Q (F0 m (pc + 3) ls (.float r :: rest))) : W p l e R s m args below meth c H locs cells slots Q (F0 m pc ls st0) := by
  have hF := va_free hD hS hA isC hC
  refine va_callf hr hS (fun q _ h => hF q h) hF (fun r u t H1 locs1 ht _ hw hB _ hk hS1 => ?_)
  rw [ht] at hB
  exact kk r u H1 locs1 hw (gP_join hP hD isC hC (hl u) hk hB) (gD_same hD (gT_fst isC _ wc ws hC (hl u) hn)) hS1
theorem gc_v {S : Type} {post : S → Prop} {w1 : S → va_W} (hr : va_Run p l e R s m args below meth c H locs cells slots mc ms (F0 m pc ls st0) rest (va_Qv post (fun u t => va_P D vwCl (w1 u) t.heap) (va_A wc H.size) a) (va_A wc H.size))
    (hP : va_P D vwCl ws H) (hD : va_D A ws) (hS : va_S A H0 H locs) (hA : ∀ q, H0.size ≤ q → A q) (isC : List Nat) (hn : va_nd isC = true) (hC : isC.map (fun i => ws[i]?) = wc.map some) (hl : ∀ u, (w1 u).map (·.1) = wc.map (·.1))
    (kk : ∀ (u : S) (H1 : Heap) (locs1 : List Loc), post u → va_P D vwCl (gT isC (w1 u) ws) H1 → va_D A (gT isC (w1 u) ws) → va_S A H0 H1 locs1 → W p l e R s m args below meth c H1 locs1 (cells + mc) (slots + ms) Q (F0 m (pc + 3) ls rest)) : W p l e R s m args below meth c H locs cells slots Q (F0 m pc ls st0) := by
  have hF := va_free hD hS hA isC hC
  refine va_callv hr hS (fun q _ h => hF q h) hF (fun u t H1 locs1 ht _ hw hB _ hk hS1 => ?_)
  rw [ht] at hB
  exact kk u H1 locs1 hw (gP_join hP hD isC hC (hl u) hk hB) (gD_same hD (gT_fst isC _ wc ws hC (hl u) hn)) hS1
theorem gcu_i {S : Type} {post : Int32 → S → Prop} {w1 : S → va_W} (hr : va_Run p l e R s m args below meth c H locs cells slots mc ms (F0 m pc ls st0) rest (va_Qi post (fun u t => va_P D vwCl (w1 u) t.heap) (va_A wc H.size) a) (va_A wc H.size))
    (hP : va_P D vwCl ws H) (hD : va_D A ws) (hS : va_S A H0 H locs) (hA : ∀ q, H0.size ≤ q → A q) (isC : List Nat) (hs : gAsc isC = true) (hC : isC.map (fun i => ws[i]?) = wc.map some) (hl : ∀ u, (w1 u).map (·.1) = wc.map (·.1))
    (kk : ∀ (r : Int32) (u : S) (H1 : Heap) (locs1 : List Loc), post r u → va_P D vwCl (gU 0 isC (w1 u) ws) H1 → va_D A (gU 0 isC (w1 u) ws) → va_S A H0 H1 locs1 → W p l e R s m args below meth c H1 locs1 (cells + mc) (slots + ms) Q (F0 m (pc + 3) ls (.int r :: rest))) : W p l e R s m args below meth c H locs cells slots Q (F0 m pc ls st0) := by
  have hF := va_free hD hS hA isC hC
  refine va_calli hr hS (fun q _ h => hF q h) hF (fun r u t H1 locs1 ht _ hw hB _ hk hS1 => ?_)
  rw [ht] at hB
  exact kk r u H1 locs1 hw (gP_joinU hP hD isC hs hC (hl u) hk hB) (gD_same hD (gU_fst ws 0 isC _ wc (fun i _ => Nat.zero_le i) (gAsc_ok hs) hC (hl u))) hS1
theorem gcu_f {S : Type} {post : UInt32 → S → Prop} {w1 : S → va_W} (hr : va_Run p l e R s m args below meth c H locs cells slots mc ms (F0 m pc ls st0) rest (va_Qf post (fun u t => va_P D vwCl (w1 u) t.heap) (va_A wc H.size) a) (va_A wc H.size))
    (hP : va_P D vwCl ws H) (hD : va_D A ws) (hS : va_S A H0 H locs) (hA : ∀ q, H0.size ≤ q → A q) (isC : List Nat) (hs : gAsc isC = true) (hC : isC.map (fun i => ws[i]?) = wc.map some) (hl : ∀ u, (w1 u).map (·.1) = wc.map (·.1))
    (kk : ∀ (r : UInt32) (u : S) (H1 : Heap) (locs1 : List Loc), post r u → va_P D vwCl (gU 0 isC (w1 u) ws) H1 → va_D A (gU 0 isC (w1 u) ws) → va_S A H0 H1 locs1 → W p l e R s m args below meth c H1 locs1 (cells + mc) (slots + ms) Q (F0 m (pc + 3) ls (.float r :: rest))) : W p l e R s m args below meth c H locs cells slots Q (F0 m pc ls st0) := by
  have hF := va_free hD hS hA isC hC
  refine va_callf hr hS (fun q _ h => hF q h) hF (fun r u t H1 locs1 ht _ hw hB _ hk hS1 => ?_)
  rw [ht] at hB
  exact kk r u H1 locs1 hw (gP_joinU hP hD isC hs hC (hl u) hk hB) (gD_same hD (gU_fst ws 0 isC _ wc (fun i _ => Nat.zero_le i) (gAsc_ok hs) hC (hl u))) hS1
theorem gcu_v {S : Type} {post : S → Prop} {w1 : S → va_W} (hr : va_Run p l e R s m args below meth c H locs cells slots mc ms (F0 m pc ls st0) rest (va_Qv post (fun u t => va_P D vwCl (w1 u) t.heap) (va_A wc H.size) a) (va_A wc H.size))
    (hP : va_P D vwCl ws H) (hD : va_D A ws) (hS : va_S A H0 H locs) (hA : ∀ q, H0.size ≤ q → A q) (isC : List Nat) (hs : gAsc isC = true) (hC : isC.map (fun i => ws[i]?) = wc.map some) (hl : ∀ u, (w1 u).map (·.1) = wc.map (·.1))
    (kk : ∀ (u : S) (H1 : Heap) (locs1 : List Loc), post u → va_P D vwCl (gU 0 isC (w1 u) ws) H1 → va_D A (gU 0 isC (w1 u) ws) → va_S A H0 H1 locs1 → W p l e R s m args below meth c H1 locs1 (cells + mc) (slots + ms) Q (F0 m (pc + 3) ls rest)) : W p l e R s m args below meth c H locs cells slots Q (F0 m pc ls st0) := by
  have hF := va_free hD hS hA isC hC
  refine va_callv hr hS (fun q _ h => hF q h) hF (fun u t H1 locs1 ht _ hw hB _ hk hS1 => ?_)
  rw [ht] at hB
  exact kk u H1 locs1 hw (gP_joinU hP hD isC hs hC (hl u) hk hB) (gD_same hD (gU_fst ws 0 isC _ wc (fun i _ => Nat.zero_le i) (gAsc_ok hs) hC (hl u))) hS1
/-- the same, the callee's world being the caller's whole world -/
theorem gce_i {S : Type} {post : Int32 → S → Prop} {w1 : S → va_W} (hr : va_Run p l e R s m args below meth c H locs cells slots mc ms (F0 m pc ls st0) rest (va_Qi post (fun u t => va_P D vwCl (w1 u) t.heap) (va_A ws H.size) a) (va_A ws H.size))
    (hD : va_D A ws) (hS : va_S A H0 H locs) (hA : ∀ q, H0.size ≤ q → A q) (hl : ∀ u, (w1 u).map (·.1) = ws.map (·.1))
    (kk : ∀ (r : Int32) (u : S) (H1 : Heap) (locs1 : List Loc), post r u → va_P D vwCl (w1 u) H1 → va_D A (w1 u) → va_S A H0 H1 locs1 → W p l e R s m args below meth c H1 locs1 (cells + mc) (slots + ms) Q (F0 m (pc + 3) ls (.int r :: rest))) : W p l e R s m args below meth c H locs cells slots Q (F0 m pc ls st0) := by
  have hF : ∀ q, va_A ws H.size q → A q := fun q h => by
    rcases h with ⟨k, e, h⟩ | h
    · exact hD.2 k (q, e) h
    · exact hA q (Nat.le_trans hS.1 h)
  refine va_calli hr hS (fun q _ h => hF q h) hF (fun r u t H1 locs1 ht _ hw hB _ hk hS1 => ?_)
  rw [ht] at hB
  exact kk r u H1 locs1 hw hB (gD_same hD (hl u)) hS1
/-- the same, the callee's world being the caller's whole world -/
theorem gce_f {S : Type} {post : UInt32 → S → Prop} {w1 : S → va_W} (hr : va_Run p l e R s m args below meth c H locs cells slots mc ms (F0 m pc ls st0) rest (va_Qf post (fun u t => va_P D vwCl (w1 u) t.heap) (va_A ws H.size) a) (va_A ws H.size))
    (hD : va_D A ws) (hS : va_S A H0 H locs) (hA : ∀ q, H0.size ≤ q → A q) (hl : ∀ u, (w1 u).map (·.1) = ws.map (·.1))
    (kk : ∀ (r : UInt32) (u : S) (H1 : Heap) (locs1 : List Loc), post r u → va_P D vwCl (w1 u) H1 → va_D A (w1 u) → va_S A H0 H1 locs1 → W p l e R s m args below meth c H1 locs1 (cells + mc) (slots + ms) Q (F0 m (pc + 3) ls (.float r :: rest))) : W p l e R s m args below meth c H locs cells slots Q (F0 m pc ls st0) := by
  have hF : ∀ q, va_A ws H.size q → A q := fun q h => by
    rcases h with ⟨k, e, h⟩ | h
    · exact hD.2 k (q, e) h
    · exact hA q (Nat.le_trans hS.1 h)
  refine va_callf hr hS (fun q _ h => hF q h) hF (fun r u t H1 locs1 ht _ hw hB _ hk hS1 => ?_)
  rw [ht] at hB
  exact kk r u H1 locs1 hw hB (gD_same hD (hl u)) hS1
/-- the same, the callee's world being the caller's whole world -/
theorem gce_v {S : Type} {post : S → Prop} {w1 : S → va_W} (hr : va_Run p l e R s m args below meth c H locs cells slots mc ms (F0 m pc ls st0) rest (va_Qv post (fun u t => va_P D vwCl (w1 u) t.heap) (va_A ws H.size) a) (va_A ws H.size))
    (hD : va_D A ws) (hS : va_S A H0 H locs) (hA : ∀ q, H0.size ≤ q → A q) (hl : ∀ u, (w1 u).map (·.1) = ws.map (·.1))
    (kk : ∀ (u : S) (H1 : Heap) (locs1 : List Loc), post u → va_P D vwCl (w1 u) H1 → va_D A (w1 u) → va_S A H0 H1 locs1 → W p l e R s m args below meth c H1 locs1 (cells + mc) (slots + ms) Q (F0 m (pc + 3) ls rest)) : W p l e R s m args below meth c H locs cells slots Q (F0 m pc ls st0) := by
  have hF : ∀ q, va_A ws H.size q → A q := fun q h => by
    rcases h with ⟨k, e, h⟩ | h
    · exact hD.2 k (q, e) h
    · exact hA q (Nat.le_trans hS.1 h)
  refine va_callv hr hS (fun q _ h => hF q h) hF (fun u t H1 locs1 ht _ hw hB _ hk hS1 => ?_)
  rw [ht] at hB
  exact kk u H1 locs1 hw hB (gD_same hD (hl u)) hS1
/-- an answer that is one of the caller's own cells, by its number -/
theorem gc_r {S : Type} {post : S → Prop} {w1 : S → va_W} {ad : S → Nat} (hr : va_Run p l e R s m args below meth c H locs cells slots mc ms (F0 m pc ls st0) rest (va_Qr post (fun u ra t => ra = ad u ∧ va_P D vwCl (w1 u) t.heap) (va_A wc H.size) a) (va_A wc H.size))
    (hP : va_P D vwCl ws H) (hD : va_D A ws) (hS : va_S A H0 H locs) (hA : ∀ q, H0.size ≤ q → A q) (isC : List Nat) (hn : va_nd isC = true) (hC : isC.map (fun i => ws[i]?) = wc.map some) (hl : ∀ u, (w1 u).map (·.1) = wc.map (·.1))
    (kk : ∀ (u : S) (H1 : Heap) (locs1 : List Loc), post u → va_P D vwCl (gT isC (w1 u) ws) H1 → va_D A (gT isC (w1 u) ws) → va_S A H0 H1 locs1 → W p l e R s m args below meth c H1 locs1 (cells + mc) (slots + ms) Q (F0 m (pc + 3) ls (.ref (ad u) :: rest))) : W p l e R s m args below meth c H locs cells slots Q (F0 m pc ls st0) := by
  have hF := va_free hD hS hA isC hC
  refine va_callr hr hS (fun q _ h => hF q h) hF (fun u ra t H1 locs1 ht _ hw hB _ hk hS1 => ?_)
  obtain ⟨rfl, hB⟩ := hB
  rw [ht] at hB
  exact kk u H1 locs1 hw (gP_join hP hD isC hC (hl u) hk hB) (gD_same hD (gT_fst isC _ wc ws hC (hl u) hn)) hS1
end GV
/-- a place of a walk: whatever the heap, if the world and the locals are so, the goal is reached from there -/
def gW (p : Program) (l : Launch) (e : Env) (R : Room) (s : State) (m : MethodId) (args : Array Value) (below : List Frame) (meth : Method) (c : Code) (Q : State → Prop) (A : Nat → Prop) (D : va_G) (nL : Nat) (ws : va_W) (lv : List (Nat × Value)) (pc : Nat) (st : List Value) : Prop :=
  ∀ (H : Heap) (locs : List Loc), va_P D vwCl ws H → va_D A ws → va_S A s.heap H locs → ∀ ls : Array Slot, lv_has ls nL lv → W p l e R s m args below meth c H locs 0 0 Q (F0 m pc ls st)
theorem g_bool {v : Int32} (h : v = 0 ∨ v = 1) : narrow .boolean (.int v) = .int v := by
  rcases h with rfl | rfl <;> rfl
theorem g_sw (x : Int32) (a k : Nat) (hk : k < 2 ^ 31) : (x.toInt < (a : Int) ∨ (k : Int) < x.toInt) ∨ ∃ j : Nat, (a ≤ j ∧ j ≤ k) ∧ x = Int32.ofNat j := by
  by_cases h1 : x.toInt < (a : Int)
  · exact Or.inl (Or.inl h1)
  · by_cases h2 : (k : Int) < x.toInt
    · exact Or.inl (Or.inr h2)
    · refine Or.inr ⟨x.toInt.toNat, by omega, ?_⟩
      apply Int32.toInt_inj.mp
      have h3 := nI_toInt (n := x.toInt.toNat) (by omega)
      show x.toInt = (nI x.toInt.toNat).toInt
      rw [h3]
      omega
section GM
variable {l : Launch} {D : va_G} {kI kZ kJ kD : ClassId} {y : MethodName} {cc : ByteArray} {maxL : Nat} {rm : Room} {own : String} {W0 : va_W} {sz : Nat} {av : List Value} {S : Type}
/-- a method that answers an int, and makes nothing -/
theorem g_met_i {post : Int32 → S → Prop} {w1 : S → va_W} (hy : plainName y.cls = true) (hc : y.cls = own) (hlen : (lg_sl av).length ≤ maxL)
    (body : ∀ (p : Program) (e : Env) (s : State) (m : MethodId) (args : Array Value) (below : List Frame) (meth : Method) (c : Code) (A : Nat → Prop) (Q : State → Prop), p.tables.exec = Jvm.exec → c.code = cc → c.maxLocals = maxL → (∀ w ∈ wA, w.before args s = true) → s.vm.findClass own = some m.cls → gE D kI kZ kJ kD s → (∀ q : Nat, s.heap.size ≤ q → A q) → va_P D vwCl W0 s.heap → va_D A W0 → va_S A s.heap s.heap [] → (∀ (H : Heap) (locs : List Loc) (pc : Nat) (ls : Array Slot) (v : Int32) (u : S), decode cc pc = .ok (.ireturn, 1) → post v u → va_P D vwCl (w1 u) H → va_S A s.heap H locs → W p l e rm s m args below meth c H locs 0 0 Q (F0 m pc ls [.int v])) → ∀ ls : Array Slot, lv_has ls maxL (lv_args 0 av) → W p l e rm s m args below meth c s.heap [] 0 0 Q (F0 m 0 ls [])) :
    Met l y (wM y cc maxL (some .int)) rm (va_Pc av (gS D kI kZ kJ kD W0 sz)) (va_Qi post (fun u t => va_P D vwCl (w1 u) t.heap) (va_A W0 sz)) 0 0 (va_A W0 sz) := by
  refine Met.ofW (cc := cc) (maxL := maxL) (ret := some .int) hy rfl ?_
  intro p e s m args below meth c s₁ B hml hv
  obtain ⟨rfl, hsz, hP, hE, hD0⟩ := hv
  have hts : ∀ w ∈ wA, w.before _ s = true := fun w hw => atoms_spec (ws := wM y cc maxL (some .int)) B.pre w (List.mem_cons_of_mem _ hw)
  have hown : s.vm.findClass y.cls = some m.cls := findClass_of_methodNamed B.named
  rw [hc] at hown
  subst hsz
  have hD := hD0.self (sz := s.heap.size)
  rw [lg_entry_eq]
  refine body p e s m _ below meth c (va_A W0 s.heap.size) _ B.exec B.bytes hml hts hown hE (fun q h => Or.inr h) hP hD va_S.rf ?_ _ (lv_entry av (n := maxL) hlen)
  intro H locs pc ls v u hd hq hPu hS
  exact W.iret (v := v) B.exec B.bytes B.returns (fun t ht hW => ⟨⟨v, u, rfl, hq, by show va_P D vwCl (w1 u) t.heap; rw [ht]; exact hPu⟩, hS.F ht⟩) hS.2.2 hd B.notSynchronized
theorem g_met_z {post : Int32 → S → Prop} {w1 : S → va_W} (hy : plainName y.cls = true) (hc : y.cls = own) (hlen : (lg_sl av).length ≤ maxL)
    (body : ∀ (p : Program) (e : Env) (s : State) (m : MethodId) (args : Array Value) (below : List Frame) (meth : Method) (c : Code) (A : Nat → Prop) (Q : State → Prop), p.tables.exec = Jvm.exec → c.code = cc → c.maxLocals = maxL → (∀ w ∈ wA, w.before args s = true) → s.vm.findClass own = some m.cls → gE D kI kZ kJ kD s → (∀ q : Nat, s.heap.size ≤ q → A q) → va_P D vwCl W0 s.heap → va_D A W0 → va_S A s.heap s.heap [] → (∀ (H : Heap) (locs : List Loc) (pc : Nat) (ls : Array Slot) (v : Int32) (u : S), decode cc pc = .ok (.ireturn, 1) → (v = 0 ∨ v = 1) → post v u → va_P D vwCl (w1 u) H → va_S A s.heap H locs → W p l e rm s m args below meth c H locs 0 0 Q (F0 m pc ls [.int v])) → ∀ ls : Array Slot, lv_has ls maxL (lv_args 0 av) → W p l e rm s m args below meth c s.heap [] 0 0 Q (F0 m 0 ls [])) :
    Met l y (wM y cc maxL (some .boolean)) rm (va_Pc av (gS D kI kZ kJ kD W0 sz)) (va_Qi post (fun u t => va_P D vwCl (w1 u) t.heap) (va_A W0 sz)) 0 0 (va_A W0 sz) := by
  refine Met.ofW (cc := cc) (maxL := maxL) (ret := some .boolean) hy rfl ?_
  intro p e s m args below meth c s₁ B hml hv
  obtain ⟨rfl, hsz, hP, hE, hD0⟩ := hv
  have hts : ∀ w ∈ wA, w.before _ s = true := fun w hw => atoms_spec (ws := wM y cc maxL (some .boolean)) B.pre w (List.mem_cons_of_mem _ hw)
  have hown : s.vm.findClass y.cls = some m.cls := findClass_of_methodNamed B.named
  rw [hc] at hown
  subst hsz
  have hD := hD0.self (sz := s.heap.size)
  rw [lg_entry_eq]
  refine body p e s m _ below meth c (va_A W0 s.heap.size) _ B.exec B.bytes hml hts hown hE (fun q h => Or.inr h) hP hD va_S.rf ?_ _ (lv_entry av (n := maxL) hlen)
  intro H locs pc ls v u hd hz hq hPu hS
  exact W.zret (v := v) B.exec B.bytes B.returns (g_bool hz) (fun t ht hW => ⟨⟨v, u, rfl, hq, by show va_P D vwCl (w1 u) t.heap; rw [ht]; exact hPu⟩, hS.F ht⟩) hS.2.2 hd B.notSynchronized
theorem g_met_f {post : UInt32 → S → Prop} {w1 : S → va_W} (hy : plainName y.cls = true) (hc : y.cls = own) (hlen : (lg_sl av).length ≤ maxL)
    (body : ∀ (p : Program) (e : Env) (s : State) (m : MethodId) (args : Array Value) (below : List Frame) (meth : Method) (c : Code) (A : Nat → Prop) (Q : State → Prop), p.tables.exec = Jvm.exec → c.code = cc → c.maxLocals = maxL → (∀ w ∈ wA, w.before args s = true) → s.vm.findClass own = some m.cls → gE D kI kZ kJ kD s → (∀ q : Nat, s.heap.size ≤ q → A q) → va_P D vwCl W0 s.heap → va_D A W0 → va_S A s.heap s.heap [] → (∀ (H : Heap) (locs : List Loc) (pc : Nat) (ls : Array Slot) (v : UInt32) (u : S), decode cc pc = .ok (.freturn, 1) → post v u → va_P D vwCl (w1 u) H → va_S A s.heap H locs → W p l e rm s m args below meth c H locs 0 0 Q (F0 m pc ls [.float v])) → ∀ ls : Array Slot, lv_has ls maxL (lv_args 0 av) → W p l e rm s m args below meth c s.heap [] 0 0 Q (F0 m 0 ls [])) :
    Met l y (wM y cc maxL (some .float)) rm (va_Pc av (gS D kI kZ kJ kD W0 sz)) (va_Qf post (fun u t => va_P D vwCl (w1 u) t.heap) (va_A W0 sz)) 0 0 (va_A W0 sz) := by
  refine Met.ofW (cc := cc) (maxL := maxL) (ret := some .float) hy rfl ?_
  intro p e s m args below meth c s₁ B hml hv
  obtain ⟨rfl, hsz, hP, hE, hD0⟩ := hv
  have hts : ∀ w ∈ wA, w.before _ s = true := fun w hw => atoms_spec (ws := wM y cc maxL (some .float)) B.pre w (List.mem_cons_of_mem _ hw)
  have hown : s.vm.findClass y.cls = some m.cls := findClass_of_methodNamed B.named
  rw [hc] at hown
  subst hsz
  have hD := hD0.self (sz := s.heap.size)
  rw [lg_entry_eq]
  refine body p e s m _ below meth c (va_A W0 s.heap.size) _ B.exec B.bytes hml hts hown hE (fun q h => Or.inr h) hP hD va_S.rf ?_ _ (lv_entry av (n := maxL) hlen)
  intro H locs pc ls v u hd hq hPu hS
  exact W.fret (v := v) B.exec B.bytes B.returns (fun t ht hW => ⟨⟨v, u, rfl, hq, by show va_P D vwCl (w1 u) t.heap; rw [ht]; exact hPu⟩, hS.F ht⟩) hS.2.2 hd B.notSynchronized
theorem g_met_v {post : S → Prop} {w1 : S → va_W} (hy : plainName y.cls = true) (hc : y.cls = own) (hlen : (lg_sl av).length ≤ maxL)
    (body : ∀ (p : Program) (e : Env) (s : State) (m : MethodId) (args : Array Value) (below : List Frame) (meth : Method) (c : Code) (A : Nat → Prop) (Q : State → Prop), p.tables.exec = Jvm.exec → c.code = cc → c.maxLocals = maxL → (∀ w ∈ wA, w.before args s = true) → s.vm.findClass own = some m.cls → gE D kI kZ kJ kD s → (∀ q : Nat, s.heap.size ≤ q → A q) → va_P D vwCl W0 s.heap → va_D A W0 → va_S A s.heap s.heap [] → (∀ (H : Heap) (locs : List Loc) (pc : Nat) (ls : Array Slot) (u : S), decode cc pc = .ok (.return_, 1) → post u → va_P D vwCl (w1 u) H → va_S A s.heap H locs → W p l e rm s m args below meth c H locs 0 0 Q (F0 m pc ls [])) → ∀ ls : Array Slot, lv_has ls maxL (lv_args 0 av) → W p l e rm s m args below meth c s.heap [] 0 0 Q (F0 m 0 ls [])) :
    Met l y (wM y cc maxL none) rm (va_Pc av (gS D kI kZ kJ kD W0 sz)) (va_Qv post (fun u t => va_P D vwCl (w1 u) t.heap) (va_A W0 sz)) 0 0 (va_A W0 sz) := by
  refine Met.ofW (cc := cc) (maxL := maxL) (ret := none) hy rfl ?_
  intro p e s m args below meth c s₁ B hml hv
  obtain ⟨rfl, hsz, hP, hE, hD0⟩ := hv
  have hts : ∀ w ∈ wA, w.before _ s = true := fun w hw => atoms_spec (ws := wM y cc maxL none) B.pre w (List.mem_cons_of_mem _ hw)
  have hown : s.vm.findClass y.cls = some m.cls := findClass_of_methodNamed B.named
  rw [hc] at hown
  subst hsz
  have hD := hD0.self (sz := s.heap.size)
  rw [lg_entry_eq]
  refine body p e s m _ below meth c (va_A W0 s.heap.size) _ B.exec B.bytes hml hts hown hE (fun q h => Or.inr h) hP hD va_S.rf ?_ _ (lv_entry av (n := maxL) hlen)
  intro H locs pc ls u hd hq hPu hS
  exact W.vret B.exec B.bytes B.returns (fun t ht hW => ⟨⟨u, rfl, hq, by show va_P D vwCl (w1 u) t.heap; rw [ht]; exact hPu⟩, hS.F ht⟩) hS.2.2 hd B.notSynchronized
theorem g_met_r {rt : String} {post : S → Prop} {w1 : S → va_W} {ad : S → Nat} (hy : plainName y.cls = true) (hc : y.cls = own) (hlen : (lg_sl av).length ≤ maxL)
    (body : ∀ (p : Program) (e : Env) (s : State) (m : MethodId) (args : Array Value) (below : List Frame) (meth : Method) (c : Code) (A : Nat → Prop) (Q : State → Prop), p.tables.exec = Jvm.exec → c.code = cc → c.maxLocals = maxL → (∀ w ∈ wA, w.before args s = true) → s.vm.findClass own = some m.cls → gE D kI kZ kJ kD s → (∀ q : Nat, s.heap.size ≤ q → A q) → va_P D vwCl W0 s.heap → va_D A W0 → va_S A s.heap s.heap [] → (∀ (H : Heap) (locs : List Loc) (pc : Nat) (ls : Array Slot) (u : S), decode cc pc = .ok (.areturn, 1) → post u → va_P D vwCl (w1 u) H → va_S A s.heap H locs → W p l e rm s m args below meth c H locs 0 0 Q (F0 m pc ls [.ref (ad u)])) → ∀ ls : Array Slot, lv_has ls maxL (lv_args 0 av) → W p l e rm s m args below meth c s.heap [] 0 0 Q (F0 m 0 ls [])) :
    Met l y (wM y cc maxL (some (.object rt))) rm (va_Pc av (gS D kI kZ kJ kD W0 sz)) (va_Qr post (fun u ra t => ra = ad u ∧ va_P D vwCl (w1 u) t.heap) (va_A W0 sz)) 0 0 (va_A W0 sz) := by
  refine Met.ofW (cc := cc) (maxL := maxL) (ret := some (.object rt)) hy rfl ?_
  intro p e s m args below meth c s₁ B hml hv
  obtain ⟨rfl, hsz, hP, hE, hD0⟩ := hv
  have hts : ∀ w ∈ wA, w.before _ s = true := fun w hw => atoms_spec (ws := wM y cc maxL (some (.object rt))) B.pre w (List.mem_cons_of_mem _ hw)
  have hown : s.vm.findClass y.cls = some m.cls := findClass_of_methodNamed B.named
  rw [hc] at hown
  subst hsz
  have hD := hD0.self (sz := s.heap.size)
  rw [lg_entry_eq]
  refine body p e s m _ below meth c (va_A W0 s.heap.size) _ B.exec B.bytes hml hts hown hE (fun q h => Or.inr h) hP hD va_S.rf ?_ _ (lv_entry av (n := maxL) hlen)
  intro H locs pc ls u hd hq hPu hS
  exact W.aret B.exec B.bytes B.returns (Or.inl ⟨_, rfl⟩) (Or.inr ⟨_, rfl⟩) (fun t ht hW => ⟨⟨u, _, rfl, hq, rfl, by rw [ht]; exact hPu⟩, hS.F ht⟩) hS.2.2 hd B.notSynchronized
end GM
/-! what is thrown: a world that stays, and the class -/
def gZ (A : Nat → Prop) (U : State) (H : Heap) : Prop := vx_Zq Bundle.tN "UNASSIGNED_STACK" Bundle.steD A U H ∧ vx_Zq Bundle.tN "SUPPRESSED_SENTINEL" Bundle.listD A U H
def gXC (D : va_G) (E : String) (W0 : va_W) (A : Nat → Prop) : String → State → State → Prop := fun E' st t => E' = E ∧ va_P D vwCl W0 t.heap ∧ va_F A st t ∧ st.heap.size < t.heap.size
def gSX (D : va_G) (kI kZ kJ kD : ClassId) (W : va_W) (sz : Nat) (U : State) : Prop := gS D kI kZ kJ kD W sz U ∧ gZ (va_A W sz) U U.heap
theorem gSX_blind {D : va_G} {kI kZ kJ kD : ClassId} {W : va_W} {sz : Nat} {av : List Value} : FrameBlind (va_Pc av (gSX D kI kZ kJ kD W sz)) := fun _ U g mk q => ⟨q.1, ⟨q.2.1.1, q.2.1.2.1, gE_blind q.2.1.2.2.1, q.2.1.2.2.2⟩, vx_Zq.moved (u := U) (U := U.calling g mk _) (Vm.Alike.refl U.vm) q.2.2.1, vx_Zq.moved (u := U) (U := U.calling g mk _) (Vm.Alike.refl U.vm) q.2.2.2⟩
theorem gZ_on {A A1 : Nat → Prop} {s U : State} {H : Heap} {locs : List Loc} (hW : s.WarmedH U.vm) (hU : U.heap = H) (h : gZ A s s.heap) (hS : va_S A s.heap H locs) (h1 : ∀ q, A1 q → A q) : gZ A1 U U.heap := by
  rw [hU]
  exact ⟨(vx_Zq.moved hW.alike (h.1.kept hS.2.1)).narrow h1, (vx_Zq.moved hW.alike (h.2.kept hS.2.1)).narrow h1⟩
section GX
variable {p : Program} {l : Launch} {e : Env} {R : Room} {s : State} {m : MethodId} {args : Array Value} {below : List Frame} {meth : Method} {c : Code} {H : Heap} {locs : List Loc} {cells slots : Nat} {Q : State → Prop}
variable {D : va_G} {kI kZ kJ kD : ClassId} {ws wc : va_W} {A A1 : Nat → Prop}
theorem gpx_V {C : String} {b ci q0 : Nat} {r : vw_C} {fs : List Value} {As : List Value} (hE : gE D kI kZ kJ kD s) (hZ : gZ A s s.heap) (hA : ∀ q, s.heap.size ≤ q → A q) (hP : va_P D vwCl ws H) (hD : va_D A ws) (hS : va_S A s.heap H locs) (isC : List Nat) (hn : va_nd isC = true) (hC : isC.map (fun i => ws[i]?) = wc.map some) (hc : vwCl[ci]? = some r) (he : wc[q0]? = some (b, .inr (ci, fs))) (hr : r.1 = C) : PreV s H C b (va_Pc (.ref b :: As) (gSX D kI kZ kJ kD wc H.size)) As :=
  ⟨gSX_blind, hr ▸ va_recv hE.1 (gP_sub hP isC hC) hc he, fun U hU hW => ⟨rfl, ⟨by rw [hU], by rw [hU]; exact gP_sub hP isC hC, gE_warm hW hE, gD_sub hD isC hn hC⟩, gZ_on hW hU hZ hS (va_free hD hS hA isC hC)⟩⟩
theorem gpx_S {As : List Value} (hE : gE D kI kZ kJ kD s) (hZ : gZ A s s.heap) (hA : ∀ q, s.heap.size ≤ q → A q) (hP : va_P D vwCl ws H) (hD : va_D A ws) (hS : va_S A s.heap H locs) (isC : List Nat) (hn : va_nd isC = true) (hC : isC.map (fun i => ws[i]?) = wc.map some) : PreS s H (va_Pc As (gSX D kI kZ kJ kD wc H.size)) As :=
  ⟨gSX_blind, fun U hU hW => ⟨rfl, ⟨by rw [hU], by rw [hU]; exact gP_sub hP isC hC, gE_warm hW hE, gD_sub hD isC hn hC⟩, gZ_on hW hU hZ hS (va_free hD hS hA isC hC)⟩⟩
variable {pc : Nat} {ls : Array Slot} {rest st0 : List Value} {a : Array Value}
/-- a call that throws, seen by a method that doesn't catch it -/
theorem gx_go {E : String} {XCq : Array Value → State → Outcome → State → Prop} (hr : vx_Run p l e R s m args below meth c H locs 0 0 1 6 (F0 m pc ls st0) rest (fun _ _ _ => False) (gXC D E wc (va_A wc H.size)) (va_A wc H.size)) (hP : va_P D vwCl ws H) (hD : va_D A ws) (hS : va_S A s.heap H locs) (hA : ∀ q, s.heap.size ≤ q → A q) (isC : List Nat) (hn : va_nd isC = true) (hC : isC.map (fun i => ws[i]?) = wc.map some) (hout : ∀ x ∈ c.exceptionTable.toList, False) (hlocks : meth.locks = false) : W p l e R s m args below meth c H locs 0 0 (vx_MQ below XCq (gXC D E ws A) args s 1 6 A) (F0 m pc ls st0) := by
  have hF := va_free hD hS hA isC hC
  intro T hT X
  rcases hr T hT X with ⟨v, st₀, t, T', L, h0, X', hL, e1, e2, hf, st⟩ | ⟨q, st₀, t, T', L, E', ce, h0, X', hL, e1, e2, ⟨rfl, hP1, hFr, hlt⟩, hce, hv, hcl, st⟩
  · exact hf.elim
  · have hk : ∀ q : Nat, q < H.size → ¬ va_A wc H.size q → t.heap[q]? = H[q]? := fun q h1 h2 => by rw [← h0] at h1 ⊢; exact hFr.2 q h1 h2
    have hsz : H.size ≤ t.heap.size := by rw [← h0]; exact hFr.1
    have hP2 : va_P D vwCl ws t.heap := gP_back hP hD isC hC hk hP1
    have hS1 : va_S A s.heap t.heap (locs ++ L) := ⟨Nat.le_trans hS.1 hsz, fun q h1 h2 => by rw [hk q (Nat.lt_of_lt_of_le h1 hS.1) (fun z => h2 (hF q z))]; exact hS.2.1 q h1 h2, fun q hq => by
      rcases List.mem_append.mp hq with h | h
      · exact hS.2.2 q h
      · exact hF _ (hL q h)⟩
    have hw := vx_out (p := p) (l := l) (e := e) (R := R) (s := s) (m := m) (args := args) (below := below) (meth := meth) (c := c) (H := t.heap) (locs := locs ++ L) (cells := 0 + 1) (slots := 0 + 6) (Qc := XCq) (XC := gXC D E' ws A) (ls := ls) (rest := rest) (pc := pc) (E := E') (ce := ce) (q := q) (mc := 1) (ms := 6) (free := A) (fun x hx => (hout x hx).elim) hlocks hce hv hcl
      (fun t2 ht2 _ => ⟨rfl, by rw [ht2]; exact hP2, hS1.F ht2, by rw [ht2]; rw [h0] at hlt; exact Nat.lt_of_le_of_lt hS.1 hlt⟩) hS1.2.2 (Nat.le_refl _) (Nat.le_refl _)
    obtain ⟨t3, a1, b1⟩ := hw T' e1 X'
    exact ⟨t3, st.trans a1, b1⟩
end GX
section GMX
variable {l : Launch} {D : va_G} {kI kZ kJ kD : ClassId} {y : MethodName} {cc : ByteArray} {maxL : Nat} {ret : Option FieldType} {rm : Room} {own : String} {W0 : va_W} {sz : Nat} {av : List Value} {E : String}
theorem g_metx (hy : plainName y.cls = true) (hc : y.cls = own) (hlen : (lg_sl av).length ≤ maxL)
    (body : ∀ (p : Program) (e : Env) (s : State) (m : MethodId) (args : Array Value) (below : List Frame) (meth : Method) (c : Code) (A : Nat → Prop), p.tables.exec = Jvm.exec → c.code = cc → c.maxLocals = maxL → (∀ w ∈ wA, w.before args s = true) → s.vm.findClass own = some m.cls → gE D kI kZ kJ kD s → gZ A s s.heap → (∀ q : Nat, s.heap.size ≤ q → A q) → va_P D vwCl W0 s.heap → va_D A W0 → va_S A s.heap s.heap [] → (∀ x ∈ c.exceptionTable.toList, False) → meth.locks = false → ∀ ls : Array Slot, lv_has ls maxL (lv_args 0 av) → W p l e rm s m args below meth c s.heap [] 0 0 (vx_MQ below (fun _ _ _ _ => False) (gXC D E W0 A) args s 1 6 A) (F0 m 0 ls [])) :
    vx_Met l y (wM y cc maxL ret) rm (va_Pc av (gSX D kI kZ kJ kD W0 sz)) (fun _ _ _ _ => False) (gXC D E W0 (va_A W0 sz)) 1 6 (va_A W0 sz) := by
  refine vx_ofW (cc := cc) (maxL := maxL) (ret := ret) hy rfl ?_
  intro p e s m args below meth c s₁ B hml hno hv
  obtain ⟨rfl, ⟨hsz, hP, hE, hD0⟩, hZ⟩ := hv
  have hts : ∀ w ∈ wA, w.before _ s = true := fun w hw => atoms_spec (ws := wM y cc maxL ret) B.pre w (List.mem_cons_of_mem _ hw)
  have hown : s.vm.findClass y.cls = some m.cls := findClass_of_methodNamed B.named
  rw [hc] at hown
  subst hsz
  have hD := hD0.self (sz := s.heap.size)
  rw [lg_entry_eq]
  exact body p e s m _ below meth c (va_A W0 s.heap.size) B.exec B.bytes hml hts hown hE hZ (fun q h => Or.inr h) hP hD va_S.rf hno B.notSynchronized _ (lv_entry av (n := maxL) hlen)
end GMX
