/-! PURE: questions of hindsight, floats -/
theorem q_fwith {w n : Nat} {t : Nat → Nat} {ct sm : Int32} {pg ss lt td tf : Nat → Int32} (hr : HisC w n t ct sm pg ss lt td) (hn : n ≤ 400) (ht : ∀ i, i < n → t i < 64) (htf : ∀ i, i < n → tf i = nI (t i)) (x : Int32) : ∃ code v, ClQ (fun o Q => wR_L_faultsWith ct td x o Q) code v ∧ ∀ th ti (Q : Int32 → Int32 → (Nat → Int32) → Prop), (∀ r ti, (code = 0 → r = v) → Q r code ti) → wR_X10_faultsWith (nI n) tf x th ti Q := by
  rcases in_cases x 1 16 (by omega) with ⟨k, hk1, hk, rfl⟩ | hx
  · exact ⟨0, _, fun o Q h => Or.inr (k_ckFr hk1 hk (k_fwith hr hn hk ⟨vp00, h _ (fun _ => outv)⟩)), fun th ti Q h => m_inY (lo := 1) (hi := 16) hk1 hk (by omega) (iq (by decide) (gw0 (jp (by decide) (m_fwith hn hk ht htf (fun ti => h _ _ (fun _ => rfl))))))⟩
  · exact ⟨1, 0, fun o Q h => Or.inl ⟨kx_ckFr hx, h _ (fun e => absurd e n10)⟩, fun th ti Q h => m_inN (lo := 1) (hi := 16) hx (by omega) (by omega) (ip rfl (gwE n10 (jq rfl (h _ _ (fun e => absurd e n10)))))⟩
theorem q_best {n : Nat} {t : Nat → Nat} {pg tf : Nat → Int32} (hn : n ≤ 400) (ht : ∀ i, i < n → t i < 64) (hpg : ∀ i, i < n → pg i = nI (t i)) (htf : ∀ i, i < n → tf i = nI (t i)) (x : Int32) : ∃ code v, (∀ b1 b2 b3 o (Q : Int32 → (Nat → Int32) → (Nat → Int32) → (Nat → Int32) → (Nat → Int64) → Prop), (∀ b1 b2 b3 o', (code = 0 → o' 0 = v.toInt64) → Q code b1 b2 b3 o') → wR_L_bestFaults (nI n) pg x b1 b2 b3 o Q) ∧ ∀ th ti (Q : Int32 → Int32 → (Nat → Int32) → Prop), (∀ r ti, (code = 0 → r = v) → Q r code ti) → wR_X10_bestFaults (nI n) tf x th ti Q := by
  rcases in_cases x 1 16 (by omega) with ⟨k, hk1, hk, rfl⟩ | hx
  · exact ⟨0, _, fun b1 b2 b3 o Q h => Or.inr (k_ckFr hk1 hk (c_bel hn hk1 hk ht hpg (fun _ _ _ => ⟨vp00, h _ _ _ _ (fun _ => outv)⟩))), fun th ti Q h => m_inY (lo := 1) (hi := 16) hk1 hk (by omega) (iq (by decide) (gw0 (iq (by decide) (m_bel hn hk1 hk ht htf (fun ti => h _ _ (fun _ => rfl))))))⟩
  · exact ⟨1, 0, fun b1 b2 b3 o Q h => Or.inl ⟨kx_ckFr hx, h _ _ _ _ (fun e => absurd e n10)⟩, fun th ti Q h => m_inN (lo := 1) (hi := 16) hx (by omega) (by omega) (ip rfl (gwE n10 (ip rfl (h _ _ (fun e => absurd e n10)))))⟩
/-- a float that is a number, as a double -/
theorem n32_no {v : UInt32} (h : vf_n32 v) : FP.Core.fIsNaN v = false := by
  cases hx : FP.Core.fIsNaN v with
  | false => rfl
  | true =>
    rw [FP.Core.isNaN_bits32] at hx
    unfold vf_n32 at h
    rw [UInt32.le_iff_toNat_le, UInt32.toNat_and] at h
    have e1 : (0x7fffffff : UInt32).toNat = 2 ^ 31 - 1 := rfl
    have e2 : (0x7f800000 : UInt32).toNat = 2139095040 := rfl
    rw [e1, Nat.and_two_pow_sub_one_eq_mod, e2] at h
    omega
theorem n64_f2d {v : UInt32} (h : vf_n32 v) : vf_n64 (FP.f2d v) := by
  have e := FP.Core.f2d_out (n32_no h)
  unfold vf_n64
  rw [FP.f2d_core (n32_no h)]
  have e2 : ¬ (9218868437227405312 < (FP.Core.f2d v).toNat % 2 ^ 63) := fun hh => by
    rw [(FP.Core.isNaN_bits _).mpr hh] at e; exact absurd e (by decide)
  rw [UInt64.le_iff_toNat_le, UInt64.toNat_and]
  have e1 : (0x7fffffffffffffff : UInt64).toNat = 2 ^ 63 - 1 := rfl
  rw [e1, Nat.and_two_pow_sub_one_eq_mod]
  have e3 : (0x7ff0000000000000 : UInt64).toNat = 9218868437227405312 := rfl
  omega
theorem cmp_self {v : UInt32} (h : vf_n32 v) : (Op.cmpValue (FP.dcmp (FP.f2d v) (FP.f2d v)) CmpOp.l) = 0 := by
  have e : FP.dcmp (FP.f2d v) (FP.f2d v) = some .eq := FP.Core.dcmp_refl (by rw [FP.f2d_core (n32_no h)]; exact FP.Core.f2d_out (n32_no h))
  rw [e]; rfl
theorem outf {o : Nat → UInt64} {v : UInt64} : vf_upd o (0 : Int32).toNatClampNeg v 0 = v := if_pos rfl
theorem glueF {code : Int32} {v r2 : UInt32} {o : Nat → UInt64} {G : Prop} (hv : code = 0 → vf_n32 v) (h1 : code = 0 → o 0 = FP.f2d v) (h2 : code = 0 → r2 = v) (g : G) : (code = code → ((¬ code = 0 → G) ∧ (code = 0 → (vp_in (0 : Int32) 1 ∧ (vf_n64 (FP.f2d r2) ∧ (((Op.cmpValue (FP.dcmp (o (0 : Int32).toNatClampNeg) (FP.f2d r2)) CmpOp.l) = 0 → G) ∧ (¬ (Op.cmpValue (FP.dcmp (o (0 : Int32).toNatClampNeg) (FP.f2d r2)) CmpOp.l) = 0 → (vp_in (0 : Int32) 1 ∧ (vp_in (0 : Int32) 1 ∧ (((Op.cmpValue (FP.dcmp (o (0 : Int32).toNatClampNeg) (o (0 : Int32).toNatClampNeg)) CmpOp.l) = 0 → False) ∧ (¬ (Op.cmpValue (FP.dcmp (o (0 : Int32).toNatClampNeg) (o (0 : Int32).toNatClampNeg)) CmpOp.l) = 0 → ((¬ (Op.cmpValue (FP.fcmp r2 r2) CmpOp.l) = 0 → G) ∧ ((Op.cmpValue (FP.fcmp r2 r2) CmpOp.l) = 0 → False))))))))))))) ∧ (¬ code = code → False) := by
  refine ⟨fun _ => ⟨fun _ => g, fun e => ⟨vp00, ?_, fun _ => g, fun hn => absurd ?_ hn⟩⟩, fun hn => hn rfl⟩
  · rw [h2 e]; exact n64_f2d (hv e)
  · have : o (0 : Int32).toNatClampNeg = FP.f2d v := h1 e
    rw [this, h2 e]
    exact cmp_self (hv e)
def FlQ (F : (Nat → UInt64) → (Int32 → (Nat → UInt64) → Prop) → Prop) (code : Int32) (v : UInt32) : Prop := ∀ o (Q : Int32 → (Nat → UInt64) → Prop), (∀ o', (code = 0 → o' 0 = FP.f2d v) → Q code o') → F o Q
theorem q_avg {w n : Nat} {t : Nat → Nat} {tf : Nat → Int32} (hn : n ≤ 400) (hw1 : 1 ≤ w) (hw : w ≤ 100) (ht : ∀ i, i < n → t i < 64) (htf : ∀ i, i < n → tf i = nI (t i)) : ∃ (code : Int32) (v : UInt32), (code = 0 → vf_n32 v) ∧ FlQ (fun o Q => wR_L_averageWorkingSet (nI n) (nI (sumN (wsz w t) n)) o Q) code v ∧ ∀ th (Q : UInt32 → Int32 → Prop), (∀ r, (code = 0 → r = v) → Q r code) → wR_X10_averageWorkingSet (nI w) (nI n) tf th Q := by
  have hz : nI n = 0 ↔ n = 0 := nI_z (by omega)
  by_cases z : n = 0
  · refine ⟨1, 0, fun e => absurd e n10, fun o Q h => Or.inl ⟨jq (hz.mpr z) rfl, h _ (fun e => absurd e n10)⟩, fun th Q h => jq (hz.mpr z) (gwE n10 (jq rfl (h _ (fun e => absurd e n10))))⟩
  · have hv := fl_ok (a := nI (sumN (wsz w t) n)) (b := nI n) (fun e => z (hz.mp e))
    refine ⟨0, _, fun _ => hv, fun o Q h => Or.inr (jp (fun e => z (hz.mp e)) ⟨hv, n64_f2d hv, vp00, h _ (fun _ => outf)⟩), fun th Q h => jp (fun e => z (hz.mp e)) (gw0 (jp (by decide) (m_avg hn hw1 hw ht htf hv (h _ (fun _ => rfl)))))⟩
theorem q_ratio {m n : Nat} {t : Nat → Nat} {f0 f1 f2 f3 : Int32} {fm pg tf : Nat → Int32} (hn : n ≤ 400) (hm : 1 ≤ m) (hm2 : m ≤ 16) (ht : ∀ i, i < n → t i < 64) (hpg : ∀ i, i < n → pg i = nI (t i)) (htf : ∀ i, i < n → tf i = nI (t i)) (e0 : fm 0 = f0) (e1 : fm 1 = f1) (e2 : fm 2 = f2) (e3 : fm 3 = f3) (x : Int32) : ∃ (code : Int32) (v : UInt32), (code = 0 → vf_n32 v) ∧ (∀ b1 b2 b3 o (Q : Int32 → (Nat → Int32) → (Nat → Int32) → (Nat → Int32) → (Nat → UInt64) → Prop), (∀ b1 b2 b3 o', (code = 0 → o' 0 = FP.f2d v) → Q code b1 b2 b3 o') → wR_L_ratio (nI m) f0 f1 f2 f3 (nI n) pg x b1 b2 b3 o Q) ∧ ∀ th ti (Q : UInt32 → Int32 → (Nat → Int32) → Prop), (∀ r ti, (code = 0 → r = v) → Q r code ti) → wR_X10_ratio (nI m) (nI n) tf fm x th ti Q := by
  have hz : nI n = 0 ↔ n = 0 := nI_z (by omega)
  have hb := bel_inv (t := t) (n := n) hn hm n
  have hc : nI (bel t n m n).2.2 = 0 ↔ (bel t n m n).2.2 = 0 := nI_z (by omega)
  rcases in_cases x 0 3 (by omega) with ⟨k, _, hk, rfl⟩ | hx
  · by_cases z : n = 0
    · have c0 := hc.mpr (show (bel t n m n).2.2 = 0 by omega)
      refine ⟨2, 0, fun e => absurd e n20, fun b1 b2 b3 o Q h => Or.inr (Or.inl (Or.inr (k_pol (by omega) (four (by omega) (fun _ => ?_) (fun _ => ?_) (fun _ => ?_) (fun _ => ?_))))), fun th ti Q h => m_polY (by omega) (jp (by decide) (jq (hz.mpr z) (gwE n20 (ip rfl (h _ _ (fun e => absurd e n20))))))⟩
      · exact c_bel hn hm hm2 ht hpg (fun _ _ _ => jq c0 ⟨rfl, h _ _ _ _ (fun e => absurd e n20)⟩)
      · exact c_bel hn hm hm2 ht hpg (fun _ _ _ => jq c0 ⟨rfl, h _ _ _ _ (fun e => absurd e n20)⟩)
      · exact c_bel hn hm hm2 ht hpg (fun _ _ _ => jq c0 ⟨rfl, h _ _ _ _ (fun e => absurd e n20)⟩)
      · exact c_bel hn hm hm2 ht hpg (fun _ _ _ => jq c0 ⟨rfl, h _ _ _ _ (fun e => absurd e n20)⟩)
    · have c0 : ¬ nI (bel t n m n).2.2 = 0 := fun e => by have := hc.mp e; have := hb.2.2.1 (by omega); omega
      have hv := fl_ok (a := fm k) (b := nI (bel t n m n).2.2) c0
      refine ⟨0, _, fun _ => hv, fun b1 b2 b3 o Q h => Or.inr (Or.inr (k_pol (by omega) (four (by omega) (fun e => ?_) (fun e => ?_) (fun e => ?_) (fun e => ?_)))), fun th ti Q h => m_polY (by omega) (jp (by decide) (jp (fun e => z (hz.mp e)) (gw0 (iq (by decide) ⟨vp_in_nI (by omega) (by omega), m_bel hn hm hm2 ht htf (fun ti => ?_)⟩))))⟩
      · rw [e, e0] at hv h
        exact c_bel hn hm hm2 ht hpg (fun _ _ _ => jp c0 ⟨hv, n64_f2d hv, vp00, h _ _ _ _ (fun _ => outf)⟩)
      · rw [e, e1] at hv h
        exact c_bel hn hm hm2 ht hpg (fun _ _ _ => jp c0 ⟨hv, n64_f2d hv, vp00, h _ _ _ _ (fun _ => outf)⟩)
      · rw [e, e2] at hv h
        exact c_bel hn hm hm2 ht hpg (fun _ _ _ => jp c0 ⟨hv, n64_f2d hv, vp00, h _ _ _ _ (fun _ => outf)⟩)
      · rw [e, e3] at hv h
        exact c_bel hn hm hm2 ht hpg (fun _ _ _ => jp c0 ⟨hv, n64_f2d hv, vp00, h _ _ _ _ (fun _ => outf)⟩)
      · rw [nI_clamp (by omega)]
        exact ⟨hv, h _ _ (fun _ => rfl)⟩
  · exact ⟨1, 0, fun e => absurd e n10, fun b1 b2 b3 o Q h => Or.inl (Or.inl ⟨kx_pol hx, h _ _ _ _ (fun e => absurd e n10)⟩), fun th ti Q h => m_polN hx (jq rfl (gwE n10 (ip rfl (h _ _ (fun e => absurd e n10)))))⟩
