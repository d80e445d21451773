/-! PURE: guards, answers -/
def ClQ (F : (Nat → Int64) → (Int32 → (Nat → Int64) → Prop) → Prop) (code v : Int32) : Prop := ∀ o (Q : Int32 → (Nat → Int64) → Prop), (∀ o', (code = 0 → o' 0 = v.toInt64) → Q code o') → F o Q
def MdQ (F : Int32 → (Int32 → Int32 → Prop) → Prop) (code v : Int32) : Prop := ∀ th (Q : Int32 → Int32 → Prop), (∀ r, (code = 0 → r = v) → Q r code) → F th Q
def Same (F : (Nat → Int64) → (Int32 → (Nat → Int64) → Prop) → Prop) (G : Int32 → (Int32 → Int32 → Prop) → Prop) : Prop := ∃ code v, ClQ F code v ∧ MdQ G code v
theorem vp00 : vp_in (0 : Int32) 1 := vp_in_nI (n := 0) (by omega) (by omega)
theorem outv {o : Nat → Int64} {v : Int32} : vp_updL o (0 : Int32).toNatClampNeg v.toInt64 0 = v.toInt64 := pk_uLs
theorem n10 : ¬ (1 : Int32) = 0 := by decide
theorem n20 : ¬ (2 : Int32) = 0 := by decide
theorem pg_cases (x : Int32) : (∃ p, p < 64 ∧ x = nI p) ∨ notPg x := by
  rcases pk_ix x (n := 64) (by omega) with h | h | h
  · exact Or.inr (Or.inl h)
  · exact Or.inr (Or.inr h)
  · exact Or.inl h
theorem k_ckPage {p : Nat} (hp : p < 64) {Q : Prop} (h : Q) : wR_X9_checkPage (nI p) Q := k_isPage hp (jp (by decide) h)
theorem kx_ckPage {x : Int32} (hx : notPg x) : wX_X9_checkPage x "java/lang/IllegalArgumentException" := k_notPg hx (jq rfl rfl)
theorem out_int {x : Int32} {n : Nat} (hn : n < 2 ^ 31) (h : x < 0 ∨ nI n ≤ x) : x.toInt < 0 ∨ (n : Int) ≤ x.toInt := by
  rcases h with h | h
  · exact Or.inl (by have := Int32.lt_iff_toInt_lt.mp h; exact this)
  · exact Or.inr (by have := Int32.le_iff_toInt_le.mp h; rw [nI_toInt hn] at this; exact this)
theorem k_ckTouch {n j : Nat} (hj : j < n) (hn : n ≤ 400) {Q : Prop} (h : Q) : wR_X9_checkTouch (nI n) (nI j) Q := iq (nI_pos (by omega)) (ip (nI_lt hj (by omega)) h)
theorem in_cases (x : Int32) (lo hi : Nat) (hhi : hi < 2 ^ 30) : (∃ j, lo ≤ j ∧ j ≤ hi ∧ x = nI j) ∨ (x.toInt < lo ∨ (hi : Int) < x.toInt) := by
  by_cases c : (lo : Int) ≤ x.toInt ∧ x.toInt ≤ hi
  · refine Or.inl ⟨x.toInt.toNat, by omega, by omega, Int32.toInt_inj.mp ?_⟩
    rw [nI_toInt (by omega)]; omega
  · exact Or.inr (by omega)
theorem not_nI {x : Int32} {j : Nat} (hj : j < 2 ^ 30) (h : x.toInt < 0 ∨ (j : Int) < x.toInt) : ¬ x = nI j := fun e => by rw [e, nI_toInt (by omega)] at h; omega
theorem k_pol {k : Nat} (hk : k < 4) {Q : Nat → Prop} (h : Q k) : wR_X9_policyNumbered (nI k) Q := by
  have e : ∀ j : Nat, j < 4 → (nI k = nI j → Q j) := fun j hj hh => by
    have := (nI_eq (by omega) (by omega)).mp hh
    rw [← this]; exact h
  exact ⟨e 0 (by omega), e 1 (by omega), e 2 (by omega), e 3 (by omega), fun hh => by rw [nI_toInt (by omega)] at hh; omega⟩
theorem kx_pol {x : Int32} (hx : x.toInt < 0 ∨ (3 : Int) < x.toInt) : wX_X9_policyNumbered x "java/lang/IllegalArgumentException" :=
  ⟨fun e => not_nI (j := 0) (by omega) (by omega) e, fun e => not_nI (j := 1) (by omega) (by omega) e, fun e => not_nI (j := 2) (by omega) (by omega) e, fun e => not_nI (j := 3) (by omega) (by omega) e, fun _ => rfl⟩
theorem four {k : Nat} (hk : k < 4) {A B C D : Prop} (h0 : k = 0 → A) (h1 : k = 1 → B) (h2 : k = 2 → C) (h3 : k = 3 → D) : (k = 0 ∧ A) ∨ (k = 1 ∧ B) ∨ (k = 2 ∧ C) ∨ (k = 3 ∧ D) := by
  have : k = 0 ∨ k = 1 ∨ k = 2 ∨ k = 3 := by omega
  rcases this with h | h | h | h
  · exact Or.inl ⟨h, h0 h⟩
  · exact Or.inr (Or.inl ⟨h, h1 h⟩)
  · exact Or.inr (Or.inr (Or.inl ⟨h, h2 h⟩))
  · exact Or.inr (Or.inr (Or.inr ⟨h, h3 h⟩))
theorem k_ckFr {k : Nat} (h1 : 1 ≤ k) (h2 : k ≤ 16) {Q : Prop} (h : Q) : wR_X9_checkFrames (nI k) Q := iq (nI_nlt (b := 1) h1 (by omega)) (ip (nI_le (b := 16) h2 (by omega)) h)
theorem lt_int {x : Int32} {k : Nat} (hk : k < 2 ^ 31) : x < nI k ↔ x.toInt < k := by rw [Int32.lt_iff_toInt_lt, nI_toInt hk]
theorem le_int {x : Int32} {k : Nat} (hk : k < 2 ^ 31) : x ≤ nI k ↔ x.toInt ≤ k := by rw [Int32.le_iff_toInt_le, nI_toInt hk]
theorem kx_ckFr {x : Int32} (hx : x.toInt < (1 : Nat) ∨ ((16 : Nat) : Int) < x.toInt) : wX_X9_checkFrames x "java/lang/IllegalArgumentException" := by
  unfold wX_X9_checkFrames
  rw [show (1 : Int32) = nI 1 from rfl, show (16 : Int32) = nI 16 from rfl, lt_int (by omega), le_int (by omega)]
  exact ⟨fun _ => rfl, fun c => ⟨fun c2 => by omega, fun _ => rfl⟩⟩
/-- what the law does with an answer -/
theorem glue {code v r2 : Int32} {o : Nat → Int64} {G : Prop} (h1 : code = 0 → o 0 = v.toInt64) (h2 : code = 0 → r2 = v) (g : G) : (code = code → ((¬ code = 0 → G) ∧ (code = 0 → (vp_in (0 : Int32) 1 ∧ (((lg_cmp (o (0 : Int32).toNatClampNeg) (r2.toInt64)) = 0 → G) ∧ (¬ (lg_cmp (o (0 : Int32).toNatClampNeg) (r2.toInt64)) = 0 → False)))))) ∧ (¬ code = code → False) := by
  refine ⟨fun _ => ⟨fun _ => g, fun e => ⟨vp00, fun _ => g, fun hn => hn ?_⟩⟩, fun hn => hn rfl⟩
  rw [lg_cmp_eq, h2 e]
  exact h1 e
