set_option maxHeartbeats 4000000 in
set_option maxRecDepth 100000 in
theorem c_X2_forgetAll (l : Launch) {D : va_G} {kI kZ kJ kD : ClassId} (a_t a_t_pages a_t_bits : Nat) (sz : Nat) (v_t_frameCount : Int32) (v_t_faultCount : Int32) (v_t_used : Int32) (v_t_handFrame : Int32) (Q : Int32 → Int32 → Prop) (h : wR_X2_forgetAll v_t_used v_t_handFrame Q) : Met l yX2_forgetAll (wM yX2_forgetAll cX2_forgetAll 1 none) ({ frames := 0, cells := 0, slots := 0, locals := 0 } : Room) (va_Pc [.ref a_t] (gS D kI kZ kJ kD [(a_t, .inr (1, [.int v_t_frameCount, .int v_t_faultCount, .ref a_t_pages, .ref a_t_bits, .int v_t_used, .int v_t_handFrame]))] sz)) (va_Qv (S := (Int32 × Int32)) (fun u => Q u.1 u.2) (fun u t => va_P D vwCl [(a_t, .inr (1, [.int v_t_frameCount, .int v_t_faultCount, .ref a_t_pages, .ref a_t_bits, .int u.1, .int u.2]))] t.heap) (va_A [(a_t, .inr (1, [.int v_t_frameCount, .int v_t_faultCount, .ref a_t_pages, .ref a_t_bits, .int v_t_used, .int v_t_handFrame]))] sz)) 0 0 (va_A [(a_t, .inr (1, [.int v_t_frameCount, .int v_t_faultCount, .ref a_t_pages, .ref a_t_bits, .int v_t_used, .int v_t_handFrame]))] sz) := by
  refine g_met_v (own := RX2) (y := yX2_forgetAll) (by decide) rfl (Nat.le_of_ble_eq_true rfl) ?_
  intro p e s m args below meth c A QQ hx hb hml hts hown hE hA hP hD hS hret
  intro ls hl
  have hl : lv_has ls 1 [(0, .ref a_t)] := hl
  refine lv_aload_n hx hb dX2_forgetAll_0 rfl (lv_at hl 0 rfl) ?_
  refine lv_iconst (v := 0) hx hb dX2_forgetAll_1 (by decide) ?_
  refine pf_X2_19_1 hx hb hts hown hE hP hD hS 0 rfl (Nat.le_of_ble_eq_true rfl) dX2_forgetAll_2 (fun H locs hP hD hS => ?_)
  have hP : va_P D vwCl [(a_t, .inr (1, [.int v_t_frameCount, .int v_t_faultCount, .ref a_t_pages, .ref a_t_bits, .int 0, .int v_t_handFrame]))] H := hP
  have hD : va_D A [(a_t, .inr (1, [.int v_t_frameCount, .int v_t_faultCount, .ref a_t_pages, .ref a_t_bits, .int 0, .int v_t_handFrame]))] := hD
  refine lv_aload_n hx hb dX2_forgetAll_5 rfl (lv_at hl 0 rfl) ?_
  refine lv_iconst (v := 0) hx hb dX2_forgetAll_6 (by decide) ?_
  refine pf_X2_23_1 hx hb hts hown hE hP hD hS 0 rfl (Nat.le_of_ble_eq_true rfl) dX2_forgetAll_7 (fun H locs hP hD hS => ?_)
  have hP : va_P D vwCl [(a_t, .inr (1, [.int v_t_frameCount, .int v_t_faultCount, .ref a_t_pages, .ref a_t_bits, .int 0, .int 0]))] H := hP
  have hD : va_D A [(a_t, .inr (1, [.int v_t_frameCount, .int v_t_faultCount, .ref a_t_pages, .ref a_t_bits, .int 0, .int 0]))] := hD
  exact hret _ _ _ _ (0, 0) dX2_forgetAll_10 h hP hS
set_option maxHeartbeats 4000000 in
set_option maxRecDepth 100000 in
theorem c_X6_startWith_on_X2 (l : Launch) {D : va_G} {kI kZ kJ kD : ClassId} (a_t a_t_pages a_t_bits : Nat) (sz : Nat) (v_t_frameCount : Int32) (v_t_faultCount : Int32) (v_t_used : Int32) (v_t_handFrame : Int32) (p1 : Int32) (Q : Int32 → Int32 → Int32 → Int32 → Prop) (h : wR_X6_startWith_on_X2 p1 v_t_frameCount v_t_faultCount v_t_used v_t_handFrame Q) : Met l yX6_startWith (wM yX6_startWith cX6_startWith 2 none) ({ frames := 1, cells := 0, slots := 0, locals := 20 } : Room) (va_Pc [.ref a_t, .int p1] (gS D kI kZ kJ kD [(a_t, .inr (1, [.int v_t_frameCount, .int v_t_faultCount, .ref a_t_pages, .ref a_t_bits, .int v_t_used, .int v_t_handFrame]))] sz)) (va_Qv (S := ((Int32 × Int32) × (Int32 × Int32))) (fun u => Q u.1.1 u.1.2 u.2.1 u.2.2) (fun u t => va_P D vwCl [(a_t, .inr (1, [.int u.1.1, .int u.1.2, .ref a_t_pages, .ref a_t_bits, .int u.2.1, .int u.2.2]))] t.heap) (va_A [(a_t, .inr (1, [.int v_t_frameCount, .int v_t_faultCount, .ref a_t_pages, .ref a_t_bits, .int v_t_used, .int v_t_handFrame]))] sz)) 0 0 (va_A [(a_t, .inr (1, [.int v_t_frameCount, .int v_t_faultCount, .ref a_t_pages, .ref a_t_bits, .int v_t_used, .int v_t_handFrame]))] sz) := by
  refine g_met_v (own := RX6) (y := yX6_startWith) (by decide) rfl (Nat.le_of_ble_eq_true rfl) ?_
  intro p e s m args below meth c A QQ hx hb hml hts hown hE hA hP hD hS hret
  intro ls hl
  have hl : lv_has ls 2 [(0, .ref a_t), (1, .int p1)] := hl
  refine lv_aload_n hx hb dX6_startWith_0 rfl (lv_at hl 0 rfl) ?_
  refine lv_iload_n hx hb dX6_startWith_1 rfl (lv_at hl 1 rfl) ?_
  refine pf_X6_9_1 hx hb hts hown hE hP hD hS 0 rfl (Nat.le_of_ble_eq_true rfl) dX6_startWith_2 (fun H locs hP hD hS => ?_)
  have hP : va_P D vwCl [(a_t, .inr (1, [.int p1, .int v_t_faultCount, .ref a_t_pages, .ref a_t_bits, .int v_t_used, .int v_t_handFrame]))] H := hP
  have hD : va_D A [(a_t, .inr (1, [.int p1, .int v_t_faultCount, .ref a_t_pages, .ref a_t_bits, .int v_t_used, .int v_t_handFrame]))] := hD
  refine lv_aload_n hx hb dX6_startWith_5 rfl (lv_at hl 0 rfl) ?_
  refine lv_iconst (v := 0) hx hb dX6_startWith_6 (by decide) ?_
  refine pf_X6_15_1 hx hb hts hown hE hP hD hS 0 rfl (Nat.le_of_ble_eq_true rfl) dX6_startWith_7 (fun H locs hP hD hS => ?_)
  have hP : va_P D vwCl [(a_t, .inr (1, [.int p1, .int 0, .ref a_t_pages, .ref a_t_bits, .int v_t_used, .int v_t_handFrame]))] H := hP
  have hD : va_D A [(a_t, .inr (1, [.int p1, .int 0, .ref a_t_pages, .ref a_t_bits, .int v_t_used, .int v_t_handFrame]))] := hD
  refine lv_aload_n hx hb dX6_startWith_10 rfl (lv_at hl 0 rfl) ?_
  refine gce_v (va_runU (As := []) (rest := []) ⟨hx, hb, hml, hown, hts⟩ (c_X2_forgetAll l (D := D) (kI := kI) (kZ := kZ) (kJ := kJ) (kD := kD) a_t a_t_pages a_t_bits _ p1 0 v_t_used v_t_handFrame _ h) (k_X6_18_X2 hts hE _ ⟨Nat.le_of_ble_eq_true rfl, Nat.le_of_ble_eq_true rfl⟩) (gp_V (q0 := 0) hE hP hD [0] rfl rfl rfl rfl rfl) rfl rfl hl.1 rfl (lv_room (Nat.le_of_ble_eq_true rfl)) dX6_startWith_11 ⟨Nat.le_of_ble_eq_true rfl, Nat.le_of_ble_eq_true rfl⟩) hD hS hA (fun _ => rfl) (fun u1 H locs h hP hD hS => ?_)
  have hP : va_P D vwCl [(a_t, .inr (1, [.int p1, .int 0, .ref a_t_pages, .ref a_t_bits, .int u1.1, .int u1.2]))] H := hP
  have hD : va_D A [(a_t, .inr (1, [.int p1, .int 0, .ref a_t_pages, .ref a_t_bits, .int u1.1, .int u1.2]))] := hD
  exact hret _ _ _ _ ((p1, 0), u1) dX6_startWith_14 h hP hS
set_option maxHeartbeats 4000000 in
set_option maxRecDepth 100000 in
theorem c_X2_frameOf (l : Launch) {D : va_G} {kI kZ kJ kD : ClassId} (a_t a_t_pages a_t_bits : Nat) (sz : Nat) (v_t_frameCount : Int32) (v_t_faultCount : Int32) (v_t_used : Int32) (v_t_handFrame : Int32) (v_t_pages : Nat → Int32) (p1 : Int32) (Q : Int32 → Prop) (h : wR_X2_frameOf v_t_used v_t_pages p1 Q) : Met l yX2_frameOf (wM yX2_frameOf cX2_frameOf 3 (some .int)) ({ frames := 0, cells := 0, slots := 0, locals := 0 } : Room) (va_Pc [.ref a_t, .int p1] (gS D kI kZ kJ kD [(a_t, .inr (1, [.int v_t_frameCount, .int v_t_faultCount, .ref a_t_pages, .ref a_t_bits, .int v_t_used, .int v_t_handFrame])), (a_t_pages, .inl (kI, 16, .inl v_t_pages))] sz)) (va_Qi (S := Unit) (fun r u => Q r ) (fun u t => va_P D vwCl [(a_t, .inr (1, [.int v_t_frameCount, .int v_t_faultCount, .ref a_t_pages, .ref a_t_bits, .int v_t_used, .int v_t_handFrame])), (a_t_pages, .inl (kI, 16, .inl v_t_pages))] t.heap) (va_A [(a_t, .inr (1, [.int v_t_frameCount, .int v_t_faultCount, .ref a_t_pages, .ref a_t_bits, .int v_t_used, .int v_t_handFrame])), (a_t_pages, .inl (kI, 16, .inl v_t_pages))] sz)) 0 0 (va_A [(a_t, .inr (1, [.int v_t_frameCount, .int v_t_faultCount, .ref a_t_pages, .ref a_t_bits, .int v_t_used, .int v_t_handFrame])), (a_t_pages, .inl (kI, 16, .inl v_t_pages))] sz) := by
  refine g_met_i (own := RX2) (y := yX2_frameOf) (by decide) rfl (Nat.le_of_ble_eq_true rfl) ?_
  intro p e s m args below meth c A QQ hx hb hml hts hown hE hA hP hD hS hret
  have B_2 : ∀  (x2 : Int32), wR_X2_frameOf_2 v_t_used v_t_pages p1 Q  x2 → gW p l e ({ frames := 0, cells := 0, slots := 0, locals := 0 } : Room) s m args below meth c QQ A D 3 [(a_t, .inr (1, [.int v_t_frameCount, .int v_t_faultCount, .ref a_t_pages, .ref a_t_bits, .int v_t_used, .int v_t_handFrame])), (a_t_pages, .inl (kI, 16, .inl v_t_pages))] [(0, .ref a_t), (1, .int p1), (2, .int x2)] 2 [] := by
    intro  x2 h
    refine h (fun (x2 : Int32) => gW p l e ({ frames := 0, cells := 0, slots := 0, locals := 0 } : Room) s m args below meth c QQ A D 3 [(a_t, .inr (1, [.int v_t_frameCount, .int v_t_faultCount, .ref a_t_pages, .ref a_t_bits, .int v_t_used, .int v_t_handFrame])), (a_t_pages, .inl (kI, 16, .inl v_t_pages))] [(0, .ref a_t), (1, .int p1), (2, .int x2)] 2 []) (fun x2 h => ?_)
    have hI_2 : ∀ (x2 : Int32), (fun (x2 : Int32) => gW p l e ({ frames := 0, cells := 0, slots := 0, locals := 0 } : Room) s m args below meth c QQ A D 3 [(a_t, .inr (1, [.int v_t_frameCount, .int v_t_faultCount, .ref a_t_pages, .ref a_t_bits, .int v_t_used, .int v_t_handFrame])), (a_t_pages, .inl (kI, 16, .inl v_t_pages))] [(0, .ref a_t), (1, .int p1), (2, .int x2)] 2 []) x2 → gW p l e ({ frames := 0, cells := 0, slots := 0, locals := 0 } : Room) s m args below meth c QQ A D 3 [(a_t, .inr (1, [.int v_t_frameCount, .int v_t_faultCount, .ref a_t_pages, .ref a_t_bits, .int v_t_used, .int v_t_handFrame])), (a_t_pages, .inl (kI, 16, .inl v_t_pages))] [(0, .ref a_t), (1, .int p1), (2, .int x2)] 2 [] := fun _ h => h
    intro H locs hP hD hS ls hl
    refine lv_iload_n hx hb dX2_frameOf_2 rfl (lv_at hl 2 rfl) ?_
    refine lv_aload_n hx hb dX2_frameOf_3 rfl (lv_at hl 0 rfl) ?_
    refine gf_X2_19_1 hx hb hts hown hE hP 0 rfl rfl dX2_frameOf_4 ?_
    refine lv_icmp_ge (tgt := 28) hx hb dX2_frameOf_7 (by decide) (fun c => ?_) (fun c => ?_)
    · have h := h.1 c
      refine lv_iconst (v := (-1)) hx hb dX2_frameOf_28 (by decide) ?_
      exact hret _ _ _ _ (-1) () dX2_frameOf_29 h hP hS
    · have h := h.2 c
      refine lv_aload_n hx hb dX2_frameOf_10 rfl (lv_at hl 0 rfl) ?_
      refine gf_X2_9_1 hx hb hts hown hE hP 0 rfl rfl dX2_frameOf_11 ?_
      refine lv_iload_n hx hb dX2_frameOf_14 rfl (lv_at hl 2 rfl) ?_
      obtain ⟨hi, h⟩ := h
      refine va_iald hx hb hE.1 hP 1 0 rfl rfl hi dX2_frameOf_15 ?_
      refine lv_iload_n hx hb dX2_frameOf_16 rfl (lv_at hl 1 rfl) ?_
      refine lv_icmp_ne (tgt := 22) hx hb dX2_frameOf_17 (by decide) (fun c => ?_) (fun c => ?_)
      · have h := h.1 c
        refine lv_iinc (v := (x2 + 1)) (lv' := [(2, .int (x2 + 1)), (0, .ref a_t), (1, .int p1)]) hx hb dX2_frameOf_22 hl (k := 2) rfl rfl (by decide) rfl (fun ls hl => ?_)
        refine lv_goto (tgt := 2) hx hb dX2_frameOf_25 (by decide) ?_
        exact hI_2 _ h _ _ hP hD hS _ (lv_sub hl [1, 2, 0] rfl)
      · have h := h.2 c
        refine lv_iload_n hx hb dX2_frameOf_20 rfl (lv_at hl 2 rfl) ?_
        exact hret _ _ _ _ x2 () dX2_frameOf_21 h hP hS
  intro ls hl
  have hl : lv_has ls 3 [(0, .ref a_t), (1, .int p1)] := hl
  refine lv_iconst (v := 0) hx hb dX2_frameOf_0 (by decide) ?_
  refine lv_istore_n (lv' := [(2, .int 0), (0, .ref a_t), (1, .int p1)]) hx hb dX2_frameOf_1 rfl hl (by decide) rfl (fun ls hl => ?_)
  exact B_2  _ h _ _ hP hD hS _ (lv_sub hl [1, 2, 0] rfl)
set_option maxHeartbeats 4000000 in
set_option maxRecDepth 100000 in
theorem c_X2_keeps (l : Launch) {D : va_G} {kI kZ kJ kD : ClassId} (a_t a_t_pages a_t_bits : Nat) (sz : Nat) (v_t_frameCount : Int32) (v_t_faultCount : Int32) (v_t_used : Int32) (v_t_handFrame : Int32) (v_t_pages : Nat → Int32) (p1 : Int32) (Q : Int32 → Prop) (h : wR_X2_keeps v_t_used v_t_pages p1 Q) : Met l yX2_keeps (wM yX2_keeps cX2_keeps 2 (some .boolean)) ({ frames := 1, cells := 0, slots := 0, locals := 22 } : Room) (va_Pc [.ref a_t, .int p1] (gS D kI kZ kJ kD [(a_t, .inr (1, [.int v_t_frameCount, .int v_t_faultCount, .ref a_t_pages, .ref a_t_bits, .int v_t_used, .int v_t_handFrame])), (a_t_pages, .inl (kI, 16, .inl v_t_pages))] sz)) (va_Qi (S := Unit) (fun r u => Q r ) (fun u t => va_P D vwCl [(a_t, .inr (1, [.int v_t_frameCount, .int v_t_faultCount, .ref a_t_pages, .ref a_t_bits, .int v_t_used, .int v_t_handFrame])), (a_t_pages, .inl (kI, 16, .inl v_t_pages))] t.heap) (va_A [(a_t, .inr (1, [.int v_t_frameCount, .int v_t_faultCount, .ref a_t_pages, .ref a_t_bits, .int v_t_used, .int v_t_handFrame])), (a_t_pages, .inl (kI, 16, .inl v_t_pages))] sz)) 0 0 (va_A [(a_t, .inr (1, [.int v_t_frameCount, .int v_t_faultCount, .ref a_t_pages, .ref a_t_bits, .int v_t_used, .int v_t_handFrame])), (a_t_pages, .inl (kI, 16, .inl v_t_pages))] sz) := by
  refine g_met_z (own := RX2) (y := yX2_keeps) (by decide) rfl (Nat.le_of_ble_eq_true rfl) ?_
  intro p e s m args below meth c A QQ hx hb hml hts hown hE hA hP hD hS hret
  have B_14 : ∀  (s0 : Int32), wR_X2_keeps_14 v_t_used v_t_pages p1 Q  s0 → gW p l e ({ frames := 1, cells := 0, slots := 0, locals := 22 } : Room) s m args below meth c QQ A D 2 [(a_t, .inr (1, [.int v_t_frameCount, .int v_t_faultCount, .ref a_t_pages, .ref a_t_bits, .int v_t_used, .int v_t_handFrame])), (a_t_pages, .inl (kI, 16, .inl v_t_pages))] [] 14 [.int s0] := by
    intro  s0 h
    intro H locs hP hD hS ls hl
    obtain ⟨hi, h⟩ := h
    exact hret _ _ _ _ s0 () dX2_keeps_14 hi h hP hS
  intro ls hl
  have hl : lv_has ls 2 [(0, .ref a_t), (1, .int p1)] := hl
  refine lv_aload_n hx hb dX2_keeps_0 rfl (lv_at hl 0 rfl) ?_
  refine lv_iload_n hx hb dX2_keeps_1 rfl (lv_at hl 1 rfl) ?_
  refine gce_i (va_runV (As := [.int p1]) (rest := []) ⟨hx, hb, hml, hown, hts⟩ (c_X2_frameOf l (D := D) (kI := kI) (kZ := kZ) (kJ := kJ) (kD := kD) a_t a_t_pages a_t_bits _ v_t_frameCount v_t_faultCount v_t_used v_t_handFrame v_t_pages p1 _ h) (k_X2_26_X2 hts hE _ ⟨Nat.le_of_ble_eq_true rfl, Nat.le_of_ble_eq_true rfl⟩) (gp_V (q0 := 0) hE hP hD [0, 1] rfl rfl rfl rfl rfl) rfl rfl hl.1 rfl (lv_room (Nat.le_of_ble_eq_true rfl)) dX2_keeps_2 ⟨Nat.le_of_ble_eq_true rfl, Nat.le_of_ble_eq_true rfl⟩) hD hS hA (fun _ => rfl) (fun r1 u H locs h hP hD hS => ?_)
  have hP : va_P D vwCl [(a_t, .inr (1, [.int v_t_frameCount, .int v_t_faultCount, .ref a_t_pages, .ref a_t_bits, .int v_t_used, .int v_t_handFrame])), (a_t_pages, .inl (kI, 16, .inl v_t_pages))] H := hP
  have hD : va_D A [(a_t, .inr (1, [.int v_t_frameCount, .int v_t_faultCount, .ref a_t_pages, .ref a_t_bits, .int v_t_used, .int v_t_handFrame])), (a_t_pages, .inl (kI, 16, .inl v_t_pages))] := hD
  refine lv_iconst (v := (-1)) hx hb dX2_keeps_5 (by decide) ?_
  refine lv_icmp_eq (tgt := 13) hx hb dX2_keeps_6 (by decide) (fun c => ?_) (fun c => ?_)
  · have h := h.1 c
    refine lv_iconst (v := 0) hx hb dX2_keeps_13 (by decide) ?_
    exact B_14  _ h _ _ hP hD hS _ (lv_sub hl [] rfl)
  · have h := h.2 c
    refine lv_iconst (v := 1) hx hb dX2_keeps_9 (by decide) ?_
    refine lv_goto (tgt := 14) hx hb dX2_keeps_10 (by decide) ?_
    exact B_14  _ h _ _ hP hD hS _ (lv_sub hl [] rfl)
set_option maxHeartbeats 4000000 in
set_option maxRecDepth 100000 in
theorem c_X2_touchKept (l : Launch) {D : va_G} {kI kZ kJ kD : ClassId} (a_t a_t_pages a_t_bits : Nat) (sz : Nat) (v_t_frameCount : Int32) (v_t_faultCount : Int32) (v_t_used : Int32) (v_t_handFrame : Int32) (v_t_pages : Nat → Int32) (v_t_bits : Nat → Int32) (p1 : Int32) (Q : (Nat → Int32) → Prop) (h : wR_X2_touchKept v_t_used v_t_pages p1 v_t_bits Q) : Met l yX2_touchKept (wM yX2_touchKept cX2_touchKept 3 none) ({ frames := 1, cells := 0, slots := 0, locals := 22 } : Room) (va_Pc [.ref a_t, .int p1] (gS D kI kZ kJ kD [(a_t, .inr (1, [.int v_t_frameCount, .int v_t_faultCount, .ref a_t_pages, .ref a_t_bits, .int v_t_used, .int v_t_handFrame])), (a_t_pages, .inl (kI, 16, .inl v_t_pages)), (a_t_bits, .inl (kZ, 16, .inl v_t_bits))] sz)) (va_Qv (S := (Nat → Int32)) (fun u => Q u) (fun u t => va_P D vwCl [(a_t, .inr (1, [.int v_t_frameCount, .int v_t_faultCount, .ref a_t_pages, .ref a_t_bits, .int v_t_used, .int v_t_handFrame])), (a_t_pages, .inl (kI, 16, .inl v_t_pages)), (a_t_bits, .inl (kZ, 16, .inl u))] t.heap) (va_A [(a_t, .inr (1, [.int v_t_frameCount, .int v_t_faultCount, .ref a_t_pages, .ref a_t_bits, .int v_t_used, .int v_t_handFrame])), (a_t_pages, .inl (kI, 16, .inl v_t_pages)), (a_t_bits, .inl (kZ, 16, .inl v_t_bits))] sz)) 0 0 (va_A [(a_t, .inr (1, [.int v_t_frameCount, .int v_t_faultCount, .ref a_t_pages, .ref a_t_bits, .int v_t_used, .int v_t_handFrame])), (a_t_pages, .inl (kI, 16, .inl v_t_pages)), (a_t_bits, .inl (kZ, 16, .inl v_t_bits))] sz) := by
  refine g_met_v (own := RX2) (y := yX2_touchKept) (by decide) rfl (Nat.le_of_ble_eq_true rfl) ?_
  intro p e s m args below meth c A QQ hx hb hml hts hown hE hA hP hD hS hret
  have B_18 : ∀  (v_t_bits : Nat → Int32), wR_X2_touchKept_18 v_t_used v_t_pages p1 Q  v_t_bits → gW p l e ({ frames := 1, cells := 0, slots := 0, locals := 22 } : Room) s m args below meth c QQ A D 3 [(a_t, .inr (1, [.int v_t_frameCount, .int v_t_faultCount, .ref a_t_pages, .ref a_t_bits, .int v_t_used, .int v_t_handFrame])), (a_t_pages, .inl (kI, 16, .inl v_t_pages)), (a_t_bits, .inl (kZ, 16, .inl v_t_bits))] [] 18 [] := by
    intro  v_t_bits h
    intro H locs hP hD hS ls hl
    exact hret _ _ _ _ v_t_bits dX2_touchKept_18 h hP hS
  intro ls hl
  have hl : lv_has ls 3 [(0, .ref a_t), (1, .int p1)] := hl
  refine lv_aload_n hx hb dX2_touchKept_0 rfl (lv_at hl 0 rfl) ?_
  refine lv_iload_n hx hb dX2_touchKept_1 rfl (lv_at hl 1 rfl) ?_
  refine gcu_i (va_runV (As := [.int p1]) (rest := []) ⟨hx, hb, hml, hown, hts⟩ (c_X2_frameOf l (D := D) (kI := kI) (kZ := kZ) (kJ := kJ) (kD := kD) a_t a_t_pages a_t_bits _ v_t_frameCount v_t_faultCount v_t_used v_t_handFrame v_t_pages p1 _ h) (k_X2_26_X2 hts hE _ ⟨Nat.le_of_ble_eq_true rfl, Nat.le_of_ble_eq_true rfl⟩) (gp_V (q0 := 0) hE hP hD [0, 1] rfl rfl rfl rfl rfl) rfl rfl hl.1 rfl (lv_room (Nat.le_of_ble_eq_true rfl)) dX2_touchKept_2 ⟨Nat.le_of_ble_eq_true rfl, Nat.le_of_ble_eq_true rfl⟩) hP hD hS hA [0, 1] rfl rfl (fun _ => rfl) (fun r1 u H locs h hP hD hS => ?_)
  have hP : va_P D vwCl [(a_t, .inr (1, [.int v_t_frameCount, .int v_t_faultCount, .ref a_t_pages, .ref a_t_bits, .int v_t_used, .int v_t_handFrame])), (a_t_pages, .inl (kI, 16, .inl v_t_pages)), (a_t_bits, .inl (kZ, 16, .inl v_t_bits))] H := hP
  have hD : va_D A [(a_t, .inr (1, [.int v_t_frameCount, .int v_t_faultCount, .ref a_t_pages, .ref a_t_bits, .int v_t_used, .int v_t_handFrame])), (a_t_pages, .inl (kI, 16, .inl v_t_pages)), (a_t_bits, .inl (kZ, 16, .inl v_t_bits))] := hD
  refine lv_istore_n (lv' := [(2, .int r1), (0, .ref a_t), (1, .int p1)]) hx hb dX2_touchKept_5 rfl hl (by decide) rfl (fun ls hl => ?_)
  refine lv_iload_n hx hb dX2_touchKept_6 rfl (lv_at hl 0 rfl) ?_
  refine lv_iconst (v := (-1)) hx hb dX2_touchKept_7 (by decide) ?_
  refine lv_icmp_eq (tgt := 18) hx hb dX2_touchKept_8 (by decide) (fun c => ?_) (fun c => ?_)
  · have h := h.1 c
    exact B_18  _ h _ _ hP hD hS _ (lv_sub hl [] rfl)
  · have h := h.2 c
    refine lv_aload_n hx hb dX2_touchKept_11 rfl (lv_at hl 1 rfl) ?_
    refine gf_X2_15_1 hx hb hts hown hE hP 0 rfl rfl dX2_touchKept_12 ?_
    refine lv_iload_n hx hb dX2_touchKept_15 rfl (lv_at hl 0 rfl) ?_
    refine lv_iconst (v := 1) hx hb dX2_touchKept_16 (by decide) ?_
    obtain ⟨hi, h⟩ := h
    refine va_zast hx hb hE.1 hP hD hS 2 1 rfl rfl hi dX2_touchKept_17 (fun H locs hP hD hS => ?_)
    have hP : va_P D vwCl [(a_t, .inr (1, [.int v_t_frameCount, .int v_t_faultCount, .ref a_t_pages, .ref a_t_bits, .int v_t_used, .int v_t_handFrame])), (a_t_pages, .inl (kI, 16, .inl v_t_pages)), (a_t_bits, .inl (kZ, 16, .inl (upd v_t_bits r1.toNatClampNeg (vp_nar .boolean 1))))] H := hP
    have hD : va_D A [(a_t, .inr (1, [.int v_t_frameCount, .int v_t_faultCount, .ref a_t_pages, .ref a_t_bits, .int v_t_used, .int v_t_handFrame])), (a_t_pages, .inl (kI, 16, .inl v_t_pages)), (a_t_bits, .inl (kZ, 16, .inl (upd v_t_bits r1.toNatClampNeg (vp_nar .boolean 1))))] := hD
    exact B_18  _ h _ _ hP hD hS _ (lv_sub hl [] rfl)
set_option maxHeartbeats 4000000 in
set_option maxRecDepth 100000 in
theorem c_X2_frameAfter (l : Launch) {D : va_G} {kI kZ kJ kD : ClassId} (a_t a_t_pages a_t_bits : Nat) (sz : Nat) (v_t_frameCount : Int32) (v_t_faultCount : Int32) (v_t_used : Int32) (v_t_handFrame : Int32) (p1 : Int32) (Q : Int32 → Prop) (h : wR_X2_frameAfter v_t_frameCount p1 Q) : Met l yX2_frameAfter (wM yX2_frameAfter cX2_frameAfter 2 (some .int)) ({ frames := 0, cells := 0, slots := 0, locals := 0 } : Room) (va_Pc [.ref a_t, .int p1] (gS D kI kZ kJ kD [(a_t, .inr (1, [.int v_t_frameCount, .int v_t_faultCount, .ref a_t_pages, .ref a_t_bits, .int v_t_used, .int v_t_handFrame]))] sz)) (va_Qi (S := Unit) (fun r u => Q r ) (fun u t => va_P D vwCl [(a_t, .inr (1, [.int v_t_frameCount, .int v_t_faultCount, .ref a_t_pages, .ref a_t_bits, .int v_t_used, .int v_t_handFrame]))] t.heap) (va_A [(a_t, .inr (1, [.int v_t_frameCount, .int v_t_faultCount, .ref a_t_pages, .ref a_t_bits, .int v_t_used, .int v_t_handFrame]))] sz)) 0 0 (va_A [(a_t, .inr (1, [.int v_t_frameCount, .int v_t_faultCount, .ref a_t_pages, .ref a_t_bits, .int v_t_used, .int v_t_handFrame]))] sz) := by
  refine g_met_i (own := RX2) (y := yX2_frameAfter) (by decide) rfl (Nat.le_of_ble_eq_true rfl) ?_
  intro p e s m args below meth c A QQ hx hb hml hts hown hE hA hP hD hS hret
  have B_17 : ∀  (s0 : Int32), wR_X2_frameAfter_17 v_t_frameCount p1 Q  s0 → gW p l e ({ frames := 0, cells := 0, slots := 0, locals := 0 } : Room) s m args below meth c QQ A D 2 [(a_t, .inr (1, [.int v_t_frameCount, .int v_t_faultCount, .ref a_t_pages, .ref a_t_bits, .int v_t_used, .int v_t_handFrame]))] [] 17 [.int s0] := by
    intro  s0 h
    intro H locs hP hD hS ls hl
    exact hret _ _ _ _ s0 () dX2_frameAfter_17 h hP hS
  intro ls hl
  have hl : lv_has ls 2 [(0, .ref a_t), (1, .int p1)] := hl
  refine lv_iload_n hx hb dX2_frameAfter_0 rfl (lv_at hl 1 rfl) ?_
  refine lv_iconst (v := 1) hx hb dX2_frameAfter_1 (by decide) ?_
  refine lv_iadd hx hb dX2_frameAfter_2 ?_
  refine lv_aload_n hx hb dX2_frameAfter_3 rfl (lv_at hl 0 rfl) ?_
  refine gf_X2_30_1 hx hb hts hown hE hP 0 rfl rfl dX2_frameAfter_4 ?_
  refine lv_icmp_ge (tgt := 16) hx hb dX2_frameAfter_7 (by decide) (fun c => ?_) (fun c => ?_)
  · have h := h.1 c
    refine lv_iconst (v := 0) hx hb dX2_frameAfter_16 (by decide) ?_
    exact B_17  _ h _ _ hP hD hS _ (lv_sub hl [] rfl)
  · have h := h.2 c
    refine lv_iload_n hx hb dX2_frameAfter_10 rfl (lv_at hl 1 rfl) ?_
    refine lv_iconst (v := 1) hx hb dX2_frameAfter_11 (by decide) ?_
    refine lv_iadd hx hb dX2_frameAfter_12 ?_
    refine lv_goto (tgt := 17) hx hb dX2_frameAfter_13 (by decide) ?_
    exact B_17  _ h _ _ hP hD hS _ (lv_sub hl [] rfl)
set_option maxHeartbeats 4000000 in
set_option maxRecDepth 100000 in
theorem c_X2_clearBitsAtHand (l : Launch) {D : va_G} {kI kZ kJ kD : ClassId} (a_t a_t_pages a_t_bits : Nat) (sz : Nat) (v_t_frameCount : Int32) (v_t_faultCount : Int32) (v_t_used : Int32) (v_t_handFrame : Int32) (v_t_bits : Nat → Int32) (Q : Int32 → (Nat → Int32) → Prop) (h : wR_X2_clearBitsAtHand v_t_frameCount v_t_handFrame v_t_bits Q) : Met l yX2_clearBitsAtHand (wM yX2_clearBitsAtHand cX2_clearBitsAtHand 2 none) ({ frames := 1, cells := 0, slots := 0, locals := 21 } : Room) (va_Pc [.ref a_t] (gS D kI kZ kJ kD [(a_t, .inr (1, [.int v_t_frameCount, .int v_t_faultCount, .ref a_t_pages, .ref a_t_bits, .int v_t_used, .int v_t_handFrame])), (a_t_bits, .inl (kZ, 16, .inl v_t_bits))] sz)) (va_Qv (S := (Int32 × (Nat → Int32))) (fun u => Q u.1 u.2) (fun u t => va_P D vwCl [(a_t, .inr (1, [.int v_t_frameCount, .int v_t_faultCount, .ref a_t_pages, .ref a_t_bits, .int v_t_used, .int u.1])), (a_t_bits, .inl (kZ, 16, .inl u.2))] t.heap) (va_A [(a_t, .inr (1, [.int v_t_frameCount, .int v_t_faultCount, .ref a_t_pages, .ref a_t_bits, .int v_t_used, .int v_t_handFrame])), (a_t_bits, .inl (kZ, 16, .inl v_t_bits))] sz)) 0 0 (va_A [(a_t, .inr (1, [.int v_t_frameCount, .int v_t_faultCount, .ref a_t_pages, .ref a_t_bits, .int v_t_used, .int v_t_handFrame])), (a_t_bits, .inl (kZ, 16, .inl v_t_bits))] sz) := by
  refine g_met_v (own := RX2) (y := yX2_clearBitsAtHand) (by decide) rfl (Nat.le_of_ble_eq_true rfl) ?_
  intro p e s m args below meth c A QQ hx hb hml hts hown hE hA hP hD hS hret
  have B_50 : ∀  (v_t_handFrame : Int32) (v_t_bits : Nat → Int32), wR_X2_clearBitsAtHand_50 v_t_frameCount Q  v_t_handFrame v_t_bits → gW p l e ({ frames := 1, cells := 0, slots := 0, locals := 21 } : Room) s m args below meth c QQ A D 2 [(a_t, .inr (1, [.int v_t_frameCount, .int v_t_faultCount, .ref a_t_pages, .ref a_t_bits, .int v_t_used, .int v_t_handFrame])), (a_t_bits, .inl (kZ, 16, .inl v_t_bits))] [] 50 [] := by
    intro  v_t_handFrame v_t_bits h
    intro H locs hP hD hS ls hl
    exact hret _ _ _ _ (v_t_handFrame, v_t_bits) dX2_clearBitsAtHand_50 h hP hS
  have B_2 : ∀  (x1 : Int32) (v_t_handFrame : Int32) (v_t_bits : Nat → Int32), wR_X2_clearBitsAtHand_2 v_t_frameCount Q  x1 v_t_handFrame v_t_bits → gW p l e ({ frames := 1, cells := 0, slots := 0, locals := 21 } : Room) s m args below meth c QQ A D 2 [(a_t, .inr (1, [.int v_t_frameCount, .int v_t_faultCount, .ref a_t_pages, .ref a_t_bits, .int v_t_used, .int v_t_handFrame])), (a_t_bits, .inl (kZ, 16, .inl v_t_bits))] [(0, .ref a_t), (1, .int x1)] 2 [] := by
    intro  x1 v_t_handFrame v_t_bits h
    refine h (fun (x1 : Int32) (v_t_handFrame : Int32) (v_t_bits : Nat → Int32) => gW p l e ({ frames := 1, cells := 0, slots := 0, locals := 21 } : Room) s m args below meth c QQ A D 2 [(a_t, .inr (1, [.int v_t_frameCount, .int v_t_faultCount, .ref a_t_pages, .ref a_t_bits, .int v_t_used, .int v_t_handFrame])), (a_t_bits, .inl (kZ, 16, .inl v_t_bits))] [(0, .ref a_t), (1, .int x1)] 2 []) (fun x1 v_t_handFrame v_t_bits h => ?_)
    have hI_2 : ∀ (x1 : Int32) (v_t_handFrame : Int32) (v_t_bits : Nat → Int32), (fun (x1 : Int32) (v_t_handFrame : Int32) (v_t_bits : Nat → Int32) => gW p l e ({ frames := 1, cells := 0, slots := 0, locals := 21 } : Room) s m args below meth c QQ A D 2 [(a_t, .inr (1, [.int v_t_frameCount, .int v_t_faultCount, .ref a_t_pages, .ref a_t_bits, .int v_t_used, .int v_t_handFrame])), (a_t_bits, .inl (kZ, 16, .inl v_t_bits))] [(0, .ref a_t), (1, .int x1)] 2 []) x1 v_t_handFrame v_t_bits → gW p l e ({ frames := 1, cells := 0, slots := 0, locals := 21 } : Room) s m args below meth c QQ A D 2 [(a_t, .inr (1, [.int v_t_frameCount, .int v_t_faultCount, .ref a_t_pages, .ref a_t_bits, .int v_t_used, .int v_t_handFrame])), (a_t_bits, .inl (kZ, 16, .inl v_t_bits))] [(0, .ref a_t), (1, .int x1)] 2 [] := fun _ _ _ h => h
    intro H locs hP hD hS ls hl
    refine lv_iload_n hx hb dX2_clearBitsAtHand_2 rfl (lv_at hl 1 rfl) ?_
    refine lv_aload_n hx hb dX2_clearBitsAtHand_3 rfl (lv_at hl 0 rfl) ?_
    refine gf_X2_30_1 hx hb hts hown hE hP 0 rfl rfl dX2_clearBitsAtHand_4 ?_
    refine lv_icmp_ge (tgt := 50) hx hb dX2_clearBitsAtHand_7 (by decide) (fun c => ?_) (fun c => ?_)
    · have h := h.1 c
      exact B_50  _ _ h _ _ hP hD hS _ (lv_sub hl [] rfl)
    · have h := h.2 c
      refine lv_aload_n hx hb dX2_clearBitsAtHand_10 rfl (lv_at hl 0 rfl) ?_
      refine gf_X2_15_1 hx hb hts hown hE hP 0 rfl rfl dX2_clearBitsAtHand_11 ?_
      refine lv_aload_n hx hb dX2_clearBitsAtHand_14 rfl (lv_at hl 0 rfl) ?_
      refine gf_X2_23_1 hx hb hts hown hE hP 0 rfl rfl dX2_clearBitsAtHand_15 ?_
      obtain ⟨hi, h⟩ := h
      refine va_zald hx hb hE.1 hP 1 1 rfl rfl hi dX2_clearBitsAtHand_18 ?_
      refine lv_if_eq (tgt := 50) hx hb dX2_clearBitsAtHand_19 (by decide) (fun c => ?_) (fun c => ?_)
      · have h := h.1 c
        exact B_50  _ _ h _ _ hP hD hS _ (lv_sub hl [] rfl)
      · have h := h.2 c
        refine lv_aload_n hx hb dX2_clearBitsAtHand_22 rfl (lv_at hl 0 rfl) ?_
        refine gf_X2_15_1 hx hb hts hown hE hP 0 rfl rfl dX2_clearBitsAtHand_23 ?_
        refine lv_aload_n hx hb dX2_clearBitsAtHand_26 rfl (lv_at hl 0 rfl) ?_
        refine gf_X2_23_1 hx hb hts hown hE hP 0 rfl rfl dX2_clearBitsAtHand_27 ?_
        refine lv_iconst (v := 0) hx hb dX2_clearBitsAtHand_30 (by decide) ?_
        obtain ⟨hi, h⟩ := h
        refine va_zast hx hb hE.1 hP hD hS 1 1 rfl rfl hi dX2_clearBitsAtHand_31 (fun H locs hP hD hS => ?_)
        have hP : va_P D vwCl [(a_t, .inr (1, [.int v_t_frameCount, .int v_t_faultCount, .ref a_t_pages, .ref a_t_bits, .int v_t_used, .int v_t_handFrame])), (a_t_bits, .inl (kZ, 16, .inl (upd v_t_bits v_t_handFrame.toNatClampNeg (vp_nar .boolean 0))))] H := hP
        have hD : va_D A [(a_t, .inr (1, [.int v_t_frameCount, .int v_t_faultCount, .ref a_t_pages, .ref a_t_bits, .int v_t_used, .int v_t_handFrame])), (a_t_bits, .inl (kZ, 16, .inl (upd v_t_bits v_t_handFrame.toNatClampNeg (vp_nar .boolean 0))))] := hD
        refine lv_aload_n hx hb dX2_clearBitsAtHand_32 rfl (lv_at hl 0 rfl) ?_
        refine lv_aload_n hx hb dX2_clearBitsAtHand_33 rfl (lv_at hl 0 rfl) ?_
        refine lv_aload_n hx hb dX2_clearBitsAtHand_34 rfl (lv_at hl 0 rfl) ?_
        refine gf_X2_23_1 hx hb hts hown hE hP 0 rfl rfl dX2_clearBitsAtHand_35 ?_
        refine gcu_i (va_runV (As := [.int v_t_handFrame]) (rest := [.ref a_t]) ⟨hx, hb, hml, hown, hts⟩ (c_X2_frameAfter l (D := D) (kI := kI) (kZ := kZ) (kJ := kJ) (kD := kD) a_t a_t_pages a_t_bits _ v_t_frameCount v_t_faultCount v_t_used v_t_handFrame v_t_handFrame _ h) (k_X2_40_X2 hts hE _ ⟨Nat.le_of_ble_eq_true rfl, Nat.le_of_ble_eq_true rfl⟩) (gp_V (q0 := 0) hE hP hD [0] rfl rfl rfl rfl rfl) rfl rfl hl.1 rfl (lv_room (Nat.le_of_ble_eq_true rfl)) dX2_clearBitsAtHand_38 ⟨Nat.le_of_ble_eq_true rfl, Nat.le_of_ble_eq_true rfl⟩) hP hD hS hA [0] rfl rfl (fun _ => rfl) (fun r1 u H locs h hP hD hS => ?_)
        have hP : va_P D vwCl [(a_t, .inr (1, [.int v_t_frameCount, .int v_t_faultCount, .ref a_t_pages, .ref a_t_bits, .int v_t_used, .int v_t_handFrame])), (a_t_bits, .inl (kZ, 16, .inl (upd v_t_bits v_t_handFrame.toNatClampNeg (vp_nar .boolean 0))))] H := hP
        have hD : va_D A [(a_t, .inr (1, [.int v_t_frameCount, .int v_t_faultCount, .ref a_t_pages, .ref a_t_bits, .int v_t_used, .int v_t_handFrame])), (a_t_bits, .inl (kZ, 16, .inl (upd v_t_bits v_t_handFrame.toNatClampNeg (vp_nar .boolean 0))))] := hD
        refine pf_X2_23_1 hx hb hts hown hE hP hD hS 0 rfl (Nat.le_of_ble_eq_true rfl) dX2_clearBitsAtHand_41 (fun H locs hP hD hS => ?_)
        have hP : va_P D vwCl [(a_t, .inr (1, [.int v_t_frameCount, .int v_t_faultCount, .ref a_t_pages, .ref a_t_bits, .int v_t_used, .int r1])), (a_t_bits, .inl (kZ, 16, .inl (upd v_t_bits v_t_handFrame.toNatClampNeg (vp_nar .boolean 0))))] H := hP
        have hD : va_D A [(a_t, .inr (1, [.int v_t_frameCount, .int v_t_faultCount, .ref a_t_pages, .ref a_t_bits, .int v_t_used, .int r1])), (a_t_bits, .inl (kZ, 16, .inl (upd v_t_bits v_t_handFrame.toNatClampNeg (vp_nar .boolean 0))))] := hD
        refine lv_iinc (v := (x1 + 1)) (lv' := [(1, .int (x1 + 1)), (0, .ref a_t)]) hx hb dX2_clearBitsAtHand_44 hl (k := 1) rfl rfl (by decide) rfl (fun ls hl => ?_)
        refine lv_goto (tgt := 2) hx hb dX2_clearBitsAtHand_47 (by decide) ?_
        exact hI_2 _ _ _ h _ _ hP hD hS _ (lv_sub hl [1, 0] rfl)
  intro ls hl
  have hl : lv_has ls 2 [(0, .ref a_t)] := hl
  refine lv_iconst (v := 0) hx hb dX2_clearBitsAtHand_0 (by decide) ?_
  refine lv_istore_n (lv' := [(1, .int 0), (0, .ref a_t)]) hx hb dX2_clearBitsAtHand_1 rfl hl (by decide) rfl (fun ls hl => ?_)
  exact B_2  _ _ _ h _ _ hP hD hS _ (lv_sub hl [1, 0] rfl)
set_option maxHeartbeats 4000000 in
set_option maxRecDepth 100000 in
theorem c_X2_put (l : Launch) {D : va_G} {kI kZ kJ kD : ClassId} (a_t a_t_pages a_t_bits : Nat) (sz : Nat) (v_t_frameCount : Int32) (v_t_faultCount : Int32) (v_t_used : Int32) (v_t_handFrame : Int32) (v_t_pages : Nat → Int32) (v_t_bits : Nat → Int32) (p1 : Int32) (p2 : Int32) (Q : (Nat → Int32) → (Nat → Int32) → Prop) (h : wR_X2_put p1 p2 v_t_pages v_t_bits Q) : Met l yX2_put (wM yX2_put cX2_put 3 none) ({ frames := 0, cells := 0, slots := 0, locals := 0 } : Room) (va_Pc [.ref a_t, .int p1, .int p2] (gS D kI kZ kJ kD [(a_t, .inr (1, [.int v_t_frameCount, .int v_t_faultCount, .ref a_t_pages, .ref a_t_bits, .int v_t_used, .int v_t_handFrame])), (a_t_pages, .inl (kI, 16, .inl v_t_pages)), (a_t_bits, .inl (kZ, 16, .inl v_t_bits))] sz)) (va_Qv (S := ((Nat → Int32) × (Nat → Int32))) (fun u => Q u.1 u.2) (fun u t => va_P D vwCl [(a_t, .inr (1, [.int v_t_frameCount, .int v_t_faultCount, .ref a_t_pages, .ref a_t_bits, .int v_t_used, .int v_t_handFrame])), (a_t_pages, .inl (kI, 16, .inl u.1)), (a_t_bits, .inl (kZ, 16, .inl u.2))] t.heap) (va_A [(a_t, .inr (1, [.int v_t_frameCount, .int v_t_faultCount, .ref a_t_pages, .ref a_t_bits, .int v_t_used, .int v_t_handFrame])), (a_t_pages, .inl (kI, 16, .inl v_t_pages)), (a_t_bits, .inl (kZ, 16, .inl v_t_bits))] sz)) 0 0 (va_A [(a_t, .inr (1, [.int v_t_frameCount, .int v_t_faultCount, .ref a_t_pages, .ref a_t_bits, .int v_t_used, .int v_t_handFrame])), (a_t_pages, .inl (kI, 16, .inl v_t_pages)), (a_t_bits, .inl (kZ, 16, .inl v_t_bits))] sz) := by
  refine g_met_v (own := RX2) (y := yX2_put) (by decide) rfl (Nat.le_of_ble_eq_true rfl) ?_
  intro p e s m args below meth c A QQ hx hb hml hts hown hE hA hP hD hS hret
  intro ls hl
  have hl : lv_has ls 3 [(0, .ref a_t), (1, .int p1), (2, .int p2)] := hl
  refine lv_aload_n hx hb dX2_put_0 rfl (lv_at hl 0 rfl) ?_
  refine gf_X2_9_1 hx hb hts hown hE hP 0 rfl rfl dX2_put_1 ?_
  refine lv_iload_n hx hb dX2_put_4 rfl (lv_at hl 2 rfl) ?_
  refine lv_iload_n hx hb dX2_put_5 rfl (lv_at hl 1 rfl) ?_
  obtain ⟨hi, h⟩ := h
  refine va_iast hx hb hE.1 hP hD hS 1 0 rfl rfl hi dX2_put_6 (fun H locs hP hD hS => ?_)
  have hP : va_P D vwCl [(a_t, .inr (1, [.int v_t_frameCount, .int v_t_faultCount, .ref a_t_pages, .ref a_t_bits, .int v_t_used, .int v_t_handFrame])), (a_t_pages, .inl (kI, 16, .inl (upd v_t_pages p2.toNatClampNeg p1))), (a_t_bits, .inl (kZ, 16, .inl v_t_bits))] H := hP
  have hD : va_D A [(a_t, .inr (1, [.int v_t_frameCount, .int v_t_faultCount, .ref a_t_pages, .ref a_t_bits, .int v_t_used, .int v_t_handFrame])), (a_t_pages, .inl (kI, 16, .inl (upd v_t_pages p2.toNatClampNeg p1))), (a_t_bits, .inl (kZ, 16, .inl v_t_bits))] := hD
  refine lv_aload_n hx hb dX2_put_7 rfl (lv_at hl 0 rfl) ?_
  refine gf_X2_15_1 hx hb hts hown hE hP 0 rfl rfl dX2_put_8 ?_
  refine lv_iload_n hx hb dX2_put_11 rfl (lv_at hl 2 rfl) ?_
  refine lv_iconst (v := 1) hx hb dX2_put_12 (by decide) ?_
  obtain ⟨hi, h⟩ := h
  refine va_zast hx hb hE.1 hP hD hS 2 1 rfl rfl hi dX2_put_13 (fun H locs hP hD hS => ?_)
  have hP : va_P D vwCl [(a_t, .inr (1, [.int v_t_frameCount, .int v_t_faultCount, .ref a_t_pages, .ref a_t_bits, .int v_t_used, .int v_t_handFrame])), (a_t_pages, .inl (kI, 16, .inl (upd v_t_pages p2.toNatClampNeg p1))), (a_t_bits, .inl (kZ, 16, .inl (upd v_t_bits p2.toNatClampNeg (vp_nar .boolean 1))))] H := hP
  have hD : va_D A [(a_t, .inr (1, [.int v_t_frameCount, .int v_t_faultCount, .ref a_t_pages, .ref a_t_bits, .int v_t_used, .int v_t_handFrame])), (a_t_pages, .inl (kI, 16, .inl (upd v_t_pages p2.toNatClampNeg p1))), (a_t_bits, .inl (kZ, 16, .inl (upd v_t_bits p2.toNatClampNeg (vp_nar .boolean 1))))] := hD
  exact hret _ _ _ _ ((upd v_t_pages p2.toNatClampNeg p1), (upd v_t_bits p2.toNatClampNeg (vp_nar .boolean 1))) dX2_put_14 h hP hS
set_option maxHeartbeats 4000000 in
set_option maxRecDepth 100000 in
theorem c_X2_bringIn (l : Launch) {D : va_G} {kI kZ kJ kD : ClassId} (a_t a_t_pages a_t_bits : Nat) (sz : Nat) (v_t_frameCount : Int32) (v_t_faultCount : Int32) (v_t_used : Int32) (v_t_handFrame : Int32) (v_t_pages : Nat → Int32) (v_t_bits : Nat → Int32) (p1 : Int32) (Q : Int32 → Int32 → (Nat → Int32) → (Nat → Int32) → Prop) (h : wR_X2_bringIn v_t_frameCount p1 v_t_used v_t_handFrame v_t_pages v_t_bits Q) : Met l yX2_bringIn (wM yX2_bringIn cX2_bringIn 2 none) ({ frames := 2, cells := 0, slots := 0, locals := 42 } : Room) (va_Pc [.ref a_t, .int p1] (gS D kI kZ kJ kD [(a_t, .inr (1, [.int v_t_frameCount, .int v_t_faultCount, .ref a_t_pages, .ref a_t_bits, .int v_t_used, .int v_t_handFrame])), (a_t_pages, .inl (kI, 16, .inl v_t_pages)), (a_t_bits, .inl (kZ, 16, .inl v_t_bits))] sz)) (va_Qv (S := ((Int32 × Int32) × ((Nat → Int32) × (Nat → Int32)))) (fun u => Q u.1.1 u.1.2 u.2.1 u.2.2) (fun u t => va_P D vwCl [(a_t, .inr (1, [.int v_t_frameCount, .int v_t_faultCount, .ref a_t_pages, .ref a_t_bits, .int u.1.1, .int u.1.2])), (a_t_pages, .inl (kI, 16, .inl u.2.1)), (a_t_bits, .inl (kZ, 16, .inl u.2.2))] t.heap) (va_A [(a_t, .inr (1, [.int v_t_frameCount, .int v_t_faultCount, .ref a_t_pages, .ref a_t_bits, .int v_t_used, .int v_t_handFrame])), (a_t_pages, .inl (kI, 16, .inl v_t_pages)), (a_t_bits, .inl (kZ, 16, .inl v_t_bits))] sz)) 0 0 (va_A [(a_t, .inr (1, [.int v_t_frameCount, .int v_t_faultCount, .ref a_t_pages, .ref a_t_bits, .int v_t_used, .int v_t_handFrame])), (a_t_pages, .inl (kI, 16, .inl v_t_pages)), (a_t_bits, .inl (kZ, 16, .inl v_t_bits))] sz) := by
  refine g_met_v (own := RX2) (y := yX2_bringIn) (by decide) rfl (Nat.le_of_ble_eq_true rfl) ?_
  intro p e s m args below meth c A QQ hx hb hml hts hown hE hA hP hD hS hret
  have B_58 : ∀  (v_t_used : Int32) (v_t_handFrame : Int32) (v_t_pages : Nat → Int32) (v_t_bits : Nat → Int32), wR_X2_bringIn_58 v_t_frameCount p1 Q  v_t_used v_t_handFrame v_t_pages v_t_bits → gW p l e ({ frames := 2, cells := 0, slots := 0, locals := 42 } : Room) s m args below meth c QQ A D 2 [(a_t, .inr (1, [.int v_t_frameCount, .int v_t_faultCount, .ref a_t_pages, .ref a_t_bits, .int v_t_used, .int v_t_handFrame])), (a_t_pages, .inl (kI, 16, .inl v_t_pages)), (a_t_bits, .inl (kZ, 16, .inl v_t_bits))] [] 58 [] := by
    intro  v_t_used v_t_handFrame v_t_pages v_t_bits h
    intro H locs hP hD hS ls hl
    exact hret _ _ _ _ ((v_t_used, v_t_handFrame), (v_t_pages, v_t_bits)) dX2_bringIn_58 h hP hS
  intro ls hl
  have hl : lv_has ls 2 [(0, .ref a_t), (1, .int p1)] := hl
  refine lv_aload_n hx hb dX2_bringIn_0 rfl (lv_at hl 0 rfl) ?_
  refine gf_X2_19_1 hx hb hts hown hE hP 0 rfl rfl dX2_bringIn_1 ?_
  refine lv_aload_n hx hb dX2_bringIn_4 rfl (lv_at hl 0 rfl) ?_
  refine gf_X2_30_1 hx hb hts hown hE hP 0 rfl rfl dX2_bringIn_5 ?_
  refine lv_icmp_ge (tgt := 33) hx hb dX2_bringIn_8 (by decide) (fun c => ?_) (fun c => ?_)
  · have h := h.1 c
    refine lv_aload_n hx hb dX2_bringIn_33 rfl (lv_at hl 0 rfl) ?_
    refine gcu_v (va_runV (As := []) (rest := []) ⟨hx, hb, hml, hown, hts⟩ (c_X2_clearBitsAtHand l (D := D) (kI := kI) (kZ := kZ) (kJ := kJ) (kD := kD) a_t a_t_pages a_t_bits _ v_t_frameCount v_t_faultCount v_t_used v_t_handFrame v_t_bits _ h) (k_X2_37_X2 hts hE _ ⟨Nat.le_of_ble_eq_true rfl, Nat.le_of_ble_eq_true rfl⟩) (gp_V (q0 := 0) hE hP hD [0, 2] rfl rfl rfl rfl rfl) rfl rfl hl.1 rfl (lv_room (Nat.le_of_ble_eq_true rfl)) dX2_bringIn_34 ⟨Nat.le_of_ble_eq_true rfl, Nat.le_of_ble_eq_true rfl⟩) hP hD hS hA [0, 2] rfl rfl (fun _ => rfl) (fun u1 H locs h hP hD hS => ?_)
    have hP : va_P D vwCl [(a_t, .inr (1, [.int v_t_frameCount, .int v_t_faultCount, .ref a_t_pages, .ref a_t_bits, .int v_t_used, .int u1.1])), (a_t_pages, .inl (kI, 16, .inl v_t_pages)), (a_t_bits, .inl (kZ, 16, .inl u1.2))] H := hP
    have hD : va_D A [(a_t, .inr (1, [.int v_t_frameCount, .int v_t_faultCount, .ref a_t_pages, .ref a_t_bits, .int v_t_used, .int u1.1])), (a_t_pages, .inl (kI, 16, .inl v_t_pages)), (a_t_bits, .inl (kZ, 16, .inl u1.2))] := hD
    refine lv_aload_n hx hb dX2_bringIn_37 rfl (lv_at hl 0 rfl) ?_
    refine lv_iload_n hx hb dX2_bringIn_38 rfl (lv_at hl 1 rfl) ?_
    refine lv_aload_n hx hb dX2_bringIn_39 rfl (lv_at hl 0 rfl) ?_
    refine gf_X2_23_1 hx hb hts hown hE hP 0 rfl rfl dX2_bringIn_40 ?_
    refine gce_v (va_runV (As := [.int p1, .int u1.1]) (rest := []) ⟨hx, hb, hml, hown, hts⟩ (c_X2_put l (D := D) (kI := kI) (kZ := kZ) (kJ := kJ) (kD := kD) a_t a_t_pages a_t_bits _ v_t_frameCount v_t_faultCount v_t_used u1.1 v_t_pages u1.2 p1 u1.1 _ h) (k_X2_33_X2 hts hE _ ⟨Nat.le_of_ble_eq_true rfl, Nat.le_of_ble_eq_true rfl⟩) (gp_V (q0 := 0) hE hP hD [0, 1, 2] rfl rfl rfl rfl rfl) rfl rfl hl.1 rfl (lv_room (Nat.le_of_ble_eq_true rfl)) dX2_bringIn_43 ⟨Nat.le_of_ble_eq_true rfl, Nat.le_of_ble_eq_true rfl⟩) hD hS hA (fun _ => rfl) (fun u2 H locs h hP hD hS => ?_)
    have hP : va_P D vwCl [(a_t, .inr (1, [.int v_t_frameCount, .int v_t_faultCount, .ref a_t_pages, .ref a_t_bits, .int v_t_used, .int u1.1])), (a_t_pages, .inl (kI, 16, .inl u2.1)), (a_t_bits, .inl (kZ, 16, .inl u2.2))] H := hP
    have hD : va_D A [(a_t, .inr (1, [.int v_t_frameCount, .int v_t_faultCount, .ref a_t_pages, .ref a_t_bits, .int v_t_used, .int u1.1])), (a_t_pages, .inl (kI, 16, .inl u2.1)), (a_t_bits, .inl (kZ, 16, .inl u2.2))] := hD
    refine lv_aload_n hx hb dX2_bringIn_46 rfl (lv_at hl 0 rfl) ?_
    refine lv_aload_n hx hb dX2_bringIn_47 rfl (lv_at hl 0 rfl) ?_
    refine lv_aload_n hx hb dX2_bringIn_48 rfl (lv_at hl 0 rfl) ?_
    refine gf_X2_23_1 hx hb hts hown hE hP 0 rfl rfl dX2_bringIn_49 ?_
    refine gcu_i (va_runV (As := [.int u1.1]) (rest := [.ref a_t]) ⟨hx, hb, hml, hown, hts⟩ (c_X2_frameAfter l (D := D) (kI := kI) (kZ := kZ) (kJ := kJ) (kD := kD) a_t a_t_pages a_t_bits _ v_t_frameCount v_t_faultCount v_t_used u1.1 u1.1 _ h) (k_X2_40_X2 hts hE _ ⟨Nat.le_of_ble_eq_true rfl, Nat.le_of_ble_eq_true rfl⟩) (gp_V (q0 := 0) hE hP hD [0] rfl rfl rfl rfl rfl) rfl rfl hl.1 rfl (lv_room (Nat.le_of_ble_eq_true rfl)) dX2_bringIn_52 ⟨Nat.le_of_ble_eq_true rfl, Nat.le_of_ble_eq_true rfl⟩) hP hD hS hA [0] rfl rfl (fun _ => rfl) (fun r3 u H locs h hP hD hS => ?_)
    have hP : va_P D vwCl [(a_t, .inr (1, [.int v_t_frameCount, .int v_t_faultCount, .ref a_t_pages, .ref a_t_bits, .int v_t_used, .int u1.1])), (a_t_pages, .inl (kI, 16, .inl u2.1)), (a_t_bits, .inl (kZ, 16, .inl u2.2))] H := hP
    have hD : va_D A [(a_t, .inr (1, [.int v_t_frameCount, .int v_t_faultCount, .ref a_t_pages, .ref a_t_bits, .int v_t_used, .int u1.1])), (a_t_pages, .inl (kI, 16, .inl u2.1)), (a_t_bits, .inl (kZ, 16, .inl u2.2))] := hD
    refine pf_X2_23_1 hx hb hts hown hE hP hD hS 0 rfl (Nat.le_of_ble_eq_true rfl) dX2_bringIn_55 (fun H locs hP hD hS => ?_)
    have hP : va_P D vwCl [(a_t, .inr (1, [.int v_t_frameCount, .int v_t_faultCount, .ref a_t_pages, .ref a_t_bits, .int v_t_used, .int r3])), (a_t_pages, .inl (kI, 16, .inl u2.1)), (a_t_bits, .inl (kZ, 16, .inl u2.2))] H := hP
    have hD : va_D A [(a_t, .inr (1, [.int v_t_frameCount, .int v_t_faultCount, .ref a_t_pages, .ref a_t_bits, .int v_t_used, .int r3])), (a_t_pages, .inl (kI, 16, .inl u2.1)), (a_t_bits, .inl (kZ, 16, .inl u2.2))] := hD
    exact B_58  _ _ _ _ h _ _ hP hD hS _ (lv_sub hl [] rfl)
  · have h := h.2 c
    refine lv_aload_n hx hb dX2_bringIn_11 rfl (lv_at hl 0 rfl) ?_
    refine lv_iload_n hx hb dX2_bringIn_12 rfl (lv_at hl 1 rfl) ?_
    refine lv_aload_n hx hb dX2_bringIn_13 rfl (lv_at hl 0 rfl) ?_
    refine gf_X2_19_1 hx hb hts hown hE hP 0 rfl rfl dX2_bringIn_14 ?_
    refine gce_v (va_runV (As := [.int p1, .int v_t_used]) (rest := []) ⟨hx, hb, hml, hown, hts⟩ (c_X2_put l (D := D) (kI := kI) (kZ := kZ) (kJ := kJ) (kD := kD) a_t a_t_pages a_t_bits _ v_t_frameCount v_t_faultCount v_t_used v_t_handFrame v_t_pages v_t_bits p1 v_t_used _ h) (k_X2_33_X2 hts hE _ ⟨Nat.le_of_ble_eq_true rfl, Nat.le_of_ble_eq_true rfl⟩) (gp_V (q0 := 0) hE hP hD [0, 1, 2] rfl rfl rfl rfl rfl) rfl rfl hl.1 rfl (lv_room (Nat.le_of_ble_eq_true rfl)) dX2_bringIn_17 ⟨Nat.le_of_ble_eq_true rfl, Nat.le_of_ble_eq_true rfl⟩) hD hS hA (fun _ => rfl) (fun u4 H locs h hP hD hS => ?_)
    have hP : va_P D vwCl [(a_t, .inr (1, [.int v_t_frameCount, .int v_t_faultCount, .ref a_t_pages, .ref a_t_bits, .int v_t_used, .int v_t_handFrame])), (a_t_pages, .inl (kI, 16, .inl u4.1)), (a_t_bits, .inl (kZ, 16, .inl u4.2))] H := hP
    have hD : va_D A [(a_t, .inr (1, [.int v_t_frameCount, .int v_t_faultCount, .ref a_t_pages, .ref a_t_bits, .int v_t_used, .int v_t_handFrame])), (a_t_pages, .inl (kI, 16, .inl u4.1)), (a_t_bits, .inl (kZ, 16, .inl u4.2))] := hD
    refine lv_aload_n hx hb dX2_bringIn_20 rfl (lv_at hl 0 rfl) ?_
    refine lv_dup hx hb dX2_bringIn_21 rfl ?_
    refine gf_X2_19_1 hx hb hts hown hE hP 0 rfl rfl dX2_bringIn_22 ?_
    refine lv_iconst (v := 1) hx hb dX2_bringIn_25 (by decide) ?_
    refine lv_iadd hx hb dX2_bringIn_26 ?_
    refine pf_X2_19_1 hx hb hts hown hE hP hD hS 0 rfl (Nat.le_of_ble_eq_true rfl) dX2_bringIn_27 (fun H locs hP hD hS => ?_)
    have hP : va_P D vwCl [(a_t, .inr (1, [.int v_t_frameCount, .int v_t_faultCount, .ref a_t_pages, .ref a_t_bits, .int (v_t_used + 1), .int v_t_handFrame])), (a_t_pages, .inl (kI, 16, .inl u4.1)), (a_t_bits, .inl (kZ, 16, .inl u4.2))] H := hP
    have hD : va_D A [(a_t, .inr (1, [.int v_t_frameCount, .int v_t_faultCount, .ref a_t_pages, .ref a_t_bits, .int (v_t_used + 1), .int v_t_handFrame])), (a_t_pages, .inl (kI, 16, .inl u4.1)), (a_t_bits, .inl (kZ, 16, .inl u4.2))] := hD
    refine lv_goto (tgt := 58) hx hb dX2_bringIn_30 (by decide) ?_
    exact B_58  _ _ _ _ h _ _ hP hD hS _ (lv_sub hl [] rfl)
set_option maxHeartbeats 4000000 in
set_option maxRecDepth 100000 in
theorem c_X6_afterTouch_on_X2 (l : Launch) {D : va_G} {kI kZ kJ kD : ClassId} (a_t a_t_pages a_t_bits : Nat) (sz : Nat) (v_t_frameCount : Int32) (v_t_faultCount : Int32) (v_t_used : Int32) (v_t_handFrame : Int32) (p1 : Int32) (Q : Prop) (h : wR_X6_afterTouch_on_X2 p1 Q) : Met l yX6_afterTouch (wM yX6_afterTouch cX6_afterTouch 2 none) ({ frames := 0, cells := 0, slots := 0, locals := 0 } : Room) (va_Pc [.ref a_t, .int p1] (gS D kI kZ kJ kD [(a_t, .inr (1, [.int v_t_frameCount, .int v_t_faultCount, .ref a_t_pages, .ref a_t_bits, .int v_t_used, .int v_t_handFrame]))] sz)) (va_Qv (S := Unit) (fun u => Q ) (fun u t => va_P D vwCl [(a_t, .inr (1, [.int v_t_frameCount, .int v_t_faultCount, .ref a_t_pages, .ref a_t_bits, .int v_t_used, .int v_t_handFrame]))] t.heap) (va_A [(a_t, .inr (1, [.int v_t_frameCount, .int v_t_faultCount, .ref a_t_pages, .ref a_t_bits, .int v_t_used, .int v_t_handFrame]))] sz)) 0 0 (va_A [(a_t, .inr (1, [.int v_t_frameCount, .int v_t_faultCount, .ref a_t_pages, .ref a_t_bits, .int v_t_used, .int v_t_handFrame]))] sz) := by
  refine g_met_v (own := RX6) (y := yX6_afterTouch) (by decide) rfl (Nat.le_of_ble_eq_true rfl) ?_
  intro p e s m args below meth c A QQ hx hb hml hts hown hE hA hP hD hS hret
  intro ls hl
  have hl : lv_has ls 2 [(0, .ref a_t), (1, .int p1)] := hl
  exact hret _ _ _ _ () dX6_afterTouch_0 h hP hS
set_option maxHeartbeats 4000000 in
set_option maxRecDepth 100000 in
theorem c_X6_see_on_X2 (l : Launch) {D : va_G} {kI kZ kJ kD : ClassId} (a_t a_t_pages a_t_bits : Nat) (sz : Nat) (v_t_frameCount : Int32) (v_t_faultCount : Int32) (v_t_used : Int32) (v_t_handFrame : Int32) (v_t_pages : Nat → Int32) (v_t_bits : Nat → Int32) (p1 : Int32) (Q : Int32 → Int32 → Int32 → Int32 → (Nat → Int32) → (Nat → Int32) → Prop) (h : wR_X6_see_on_X2 v_t_frameCount p1 v_t_faultCount v_t_used v_t_handFrame v_t_pages v_t_bits Q) : Met l yX6_see (wM yX6_see cX6_see 3 (some .boolean)) ({ frames := 3, cells := 0, slots := 0, locals := 63 } : Room) (va_Pc [.ref a_t, .int p1] (gS D kI kZ kJ kD [(a_t, .inr (1, [.int v_t_frameCount, .int v_t_faultCount, .ref a_t_pages, .ref a_t_bits, .int v_t_used, .int v_t_handFrame])), (a_t_pages, .inl (kI, 16, .inl v_t_pages)), (a_t_bits, .inl (kZ, 16, .inl v_t_bits))] sz)) (va_Qi (S := (((Int32 × Int32) × Int32) × ((Nat → Int32) × (Nat → Int32)))) (fun r u => Q r u.1.1.1 u.1.1.2 u.1.2 u.2.1 u.2.2) (fun u t => va_P D vwCl [(a_t, .inr (1, [.int v_t_frameCount, .int u.1.1.1, .ref a_t_pages, .ref a_t_bits, .int u.1.1.2, .int u.1.2])), (a_t_pages, .inl (kI, 16, .inl u.2.1)), (a_t_bits, .inl (kZ, 16, .inl u.2.2))] t.heap) (va_A [(a_t, .inr (1, [.int v_t_frameCount, .int v_t_faultCount, .ref a_t_pages, .ref a_t_bits, .int v_t_used, .int v_t_handFrame])), (a_t_pages, .inl (kI, 16, .inl v_t_pages)), (a_t_bits, .inl (kZ, 16, .inl v_t_bits))] sz)) 0 0 (va_A [(a_t, .inr (1, [.int v_t_frameCount, .int v_t_faultCount, .ref a_t_pages, .ref a_t_bits, .int v_t_used, .int v_t_handFrame])), (a_t_pages, .inl (kI, 16, .inl v_t_pages)), (a_t_bits, .inl (kZ, 16, .inl v_t_bits))] sz) := by
  refine g_met_z (own := RX6) (y := yX6_see) (by decide) rfl (Nat.le_of_ble_eq_true rfl) ?_
  intro p e s m args below meth c A QQ hx hb hml hts hown hE hA hP hD hS hret
  have B_41 : ∀  (x2 : Int32) (v_t_faultCount : Int32) (v_t_used : Int32) (v_t_handFrame : Int32) (v_t_pages : Nat → Int32) (v_t_bits : Nat → Int32), wR_X6_see_on_X2_41 v_t_frameCount p1 Q  x2 v_t_faultCount v_t_used v_t_handFrame v_t_pages v_t_bits → gW p l e ({ frames := 3, cells := 0, slots := 0, locals := 63 } : Room) s m args below meth c QQ A D 3 [(a_t, .inr (1, [.int v_t_frameCount, .int v_t_faultCount, .ref a_t_pages, .ref a_t_bits, .int v_t_used, .int v_t_handFrame])), (a_t_pages, .inl (kI, 16, .inl v_t_pages)), (a_t_bits, .inl (kZ, 16, .inl v_t_bits))] [(0, .ref a_t), (1, .int p1), (2, .int x2)] 41 [] := by
    intro  x2 v_t_faultCount v_t_used v_t_handFrame v_t_pages v_t_bits h
    intro H locs hP hD hS ls hl
    refine lv_aload_n hx hb dX6_see_41 rfl (lv_at hl 0 rfl) ?_
    refine lv_iload_n hx hb dX6_see_42 rfl (lv_at hl 1 rfl) ?_
    refine gcu_v (va_runU (As := [.int p1]) (rest := []) ⟨hx, hb, hml, hown, hts⟩ (c_X6_afterTouch_on_X2 l (D := D) (kI := kI) (kZ := kZ) (kJ := kJ) (kD := kD) a_t a_t_pages a_t_bits _ v_t_frameCount v_t_faultCount v_t_used v_t_handFrame p1 _ h) (k_X6_32_X2 hts hE _ ⟨Nat.le_of_ble_eq_true rfl, Nat.le_of_ble_eq_true rfl⟩) (gp_V (q0 := 0) hE hP hD [0] rfl rfl rfl rfl rfl) rfl rfl hl.1 rfl (lv_room (Nat.le_of_ble_eq_true rfl)) dX6_see_43 ⟨Nat.le_of_ble_eq_true rfl, Nat.le_of_ble_eq_true rfl⟩) hP hD hS hA [0] rfl rfl (fun _ => rfl) (fun u H locs h hP hD hS => ?_)
    have hP : va_P D vwCl [(a_t, .inr (1, [.int v_t_frameCount, .int v_t_faultCount, .ref a_t_pages, .ref a_t_bits, .int v_t_used, .int v_t_handFrame])), (a_t_pages, .inl (kI, 16, .inl v_t_pages)), (a_t_bits, .inl (kZ, 16, .inl v_t_bits))] H := hP
    have hD : va_D A [(a_t, .inr (1, [.int v_t_frameCount, .int v_t_faultCount, .ref a_t_pages, .ref a_t_bits, .int v_t_used, .int v_t_handFrame])), (a_t_pages, .inl (kI, 16, .inl v_t_pages)), (a_t_bits, .inl (kZ, 16, .inl v_t_bits))] := hD
    refine lv_iload_n hx hb dX6_see_46 rfl (lv_at hl 2 rfl) ?_
    obtain ⟨hi, h⟩ := h
    exact hret _ _ _ _ x2 (((v_t_faultCount, v_t_used), v_t_handFrame), (v_t_pages, v_t_bits)) dX6_see_47 hi h hP hS
  have B_13 : ∀  (s0 : Int32) (v_t_faultCount : Int32) (v_t_used : Int32) (v_t_handFrame : Int32) (v_t_pages : Nat → Int32) (v_t_bits : Nat → Int32), wR_X6_see_on_X2_13 v_t_frameCount p1 Q  s0 v_t_faultCount v_t_used v_t_handFrame v_t_pages v_t_bits → gW p l e ({ frames := 3, cells := 0, slots := 0, locals := 63 } : Room) s m args below meth c QQ A D 3 [(a_t, .inr (1, [.int v_t_frameCount, .int v_t_faultCount, .ref a_t_pages, .ref a_t_bits, .int v_t_used, .int v_t_handFrame])), (a_t_pages, .inl (kI, 16, .inl v_t_pages)), (a_t_bits, .inl (kZ, 16, .inl v_t_bits))] [(0, .ref a_t), (1, .int p1)] 13 [.int s0] := by
    intro  s0 v_t_faultCount v_t_used v_t_handFrame v_t_pages v_t_bits h
    intro H locs hP hD hS ls hl
    refine lv_istore_n (lv' := [(2, .int s0), (0, .ref a_t), (1, .int p1)]) hx hb dX6_see_13 rfl hl (by decide) rfl (fun ls hl => ?_)
    refine lv_iload_n hx hb dX6_see_14 rfl (lv_at hl 0 rfl) ?_
    refine lv_if_eq (tgt := 36) hx hb dX6_see_15 (by decide) (fun c => ?_) (fun c => ?_)
    · have h := h.1 c
      refine lv_aload_n hx hb dX6_see_36 rfl (lv_at hl 1 rfl) ?_
      refine lv_iload_n hx hb dX6_see_37 rfl (lv_at hl 2 rfl) ?_
      refine gce_v (va_runU (As := [.int p1]) (rest := []) ⟨hx, hb, hml, hown, hts⟩ (c_X2_touchKept l (D := D) (kI := kI) (kZ := kZ) (kJ := kJ) (kD := kD) a_t a_t_pages a_t_bits _ v_t_frameCount v_t_faultCount v_t_used v_t_handFrame v_t_pages v_t_bits p1 _ h) (k_X6_29_X2 hts hE _ ⟨Nat.le_of_ble_eq_true rfl, Nat.le_of_ble_eq_true rfl⟩) (gp_V (q0 := 0) hE hP hD [0, 1, 2] rfl rfl rfl rfl rfl) rfl rfl hl.1 rfl (lv_room (Nat.le_of_ble_eq_true rfl)) dX6_see_38 ⟨Nat.le_of_ble_eq_true rfl, Nat.le_of_ble_eq_true rfl⟩) hD hS hA (fun _ => rfl) (fun y2_0 H locs h hP hD hS => ?_)
      have hP : va_P D vwCl [(a_t, .inr (1, [.int v_t_frameCount, .int v_t_faultCount, .ref a_t_pages, .ref a_t_bits, .int v_t_used, .int v_t_handFrame])), (a_t_pages, .inl (kI, 16, .inl v_t_pages)), (a_t_bits, .inl (kZ, 16, .inl y2_0))] H := hP
      have hD : va_D A [(a_t, .inr (1, [.int v_t_frameCount, .int v_t_faultCount, .ref a_t_pages, .ref a_t_bits, .int v_t_used, .int v_t_handFrame])), (a_t_pages, .inl (kI, 16, .inl v_t_pages)), (a_t_bits, .inl (kZ, 16, .inl y2_0))] := hD
      exact B_41  _ _ _ _ _ _ h _ _ hP hD hS _ (lv_sub hl [1, 2, 0] rfl)
    · have h := h.2 c
      refine lv_aload_n hx hb dX6_see_18 rfl (lv_at hl 1 rfl) ?_
      refine lv_dup hx hb dX6_see_19 rfl ?_
      refine gf_X6_15_1 hx hb hts hown hE hP 0 rfl rfl dX6_see_20 ?_
      refine lv_iconst (v := 1) hx hb dX6_see_23 (by decide) ?_
      refine lv_iadd hx hb dX6_see_24 ?_
      refine pf_X6_15_1 hx hb hts hown hE hP hD hS 0 rfl (Nat.le_of_ble_eq_true rfl) dX6_see_25 (fun H locs hP hD hS => ?_)
      have hP : va_P D vwCl [(a_t, .inr (1, [.int v_t_frameCount, .int (v_t_faultCount + 1), .ref a_t_pages, .ref a_t_bits, .int v_t_used, .int v_t_handFrame])), (a_t_pages, .inl (kI, 16, .inl v_t_pages)), (a_t_bits, .inl (kZ, 16, .inl v_t_bits))] H := hP
      have hD : va_D A [(a_t, .inr (1, [.int v_t_frameCount, .int (v_t_faultCount + 1), .ref a_t_pages, .ref a_t_bits, .int v_t_used, .int v_t_handFrame])), (a_t_pages, .inl (kI, 16, .inl v_t_pages)), (a_t_bits, .inl (kZ, 16, .inl v_t_bits))] := hD
      refine lv_aload_n hx hb dX6_see_28 rfl (lv_at hl 1 rfl) ?_
      refine lv_iload_n hx hb dX6_see_29 rfl (lv_at hl 2 rfl) ?_
      refine gce_v (va_runU (As := [.int p1]) (rest := []) ⟨hx, hb, hml, hown, hts⟩ (c_X2_bringIn l (D := D) (kI := kI) (kZ := kZ) (kJ := kJ) (kD := kD) a_t a_t_pages a_t_bits _ v_t_frameCount (v_t_faultCount + 1) v_t_used v_t_handFrame v_t_pages v_t_bits p1 _ h) (k_X6_25_X2 hts hE _ ⟨Nat.le_of_ble_eq_true rfl, Nat.le_of_ble_eq_true rfl⟩) (gp_V (q0 := 0) hE hP hD [0, 1, 2] rfl rfl rfl rfl rfl) rfl rfl hl.1 rfl (lv_room (Nat.le_of_ble_eq_true rfl)) dX6_see_30 ⟨Nat.le_of_ble_eq_true rfl, Nat.le_of_ble_eq_true rfl⟩) hD hS hA (fun _ => rfl) (fun u3 H locs h hP hD hS => ?_)
      have hP : va_P D vwCl [(a_t, .inr (1, [.int v_t_frameCount, .int (v_t_faultCount + 1), .ref a_t_pages, .ref a_t_bits, .int u3.1.1, .int u3.1.2])), (a_t_pages, .inl (kI, 16, .inl u3.2.1)), (a_t_bits, .inl (kZ, 16, .inl u3.2.2))] H := hP
      have hD : va_D A [(a_t, .inr (1, [.int v_t_frameCount, .int (v_t_faultCount + 1), .ref a_t_pages, .ref a_t_bits, .int u3.1.1, .int u3.1.2])), (a_t_pages, .inl (kI, 16, .inl u3.2.1)), (a_t_bits, .inl (kZ, 16, .inl u3.2.2))] := hD
      refine lv_goto (tgt := 41) hx hb dX6_see_33 (by decide) ?_
      exact B_41  _ _ _ _ _ _ h _ _ hP hD hS _ (lv_sub hl [1, 2, 0] rfl)
  intro ls hl
  have hl : lv_has ls 3 [(0, .ref a_t), (1, .int p1)] := hl
  refine lv_aload_n hx hb dX6_see_0 rfl (lv_at hl 0 rfl) ?_
  refine lv_iload_n hx hb dX6_see_1 rfl (lv_at hl 1 rfl) ?_
  refine gcu_i (va_runU (As := [.int p1]) (rest := []) ⟨hx, hb, hml, hown, hts⟩ (c_X2_keeps l (D := D) (kI := kI) (kZ := kZ) (kJ := kJ) (kD := kD) a_t a_t_pages a_t_bits _ v_t_frameCount v_t_faultCount v_t_used v_t_handFrame v_t_pages p1 _ h) (k_X6_21_X2 hts hE _ ⟨Nat.le_of_ble_eq_true rfl, Nat.le_of_ble_eq_true rfl⟩) (gp_V (q0 := 0) hE hP hD [0, 1] rfl rfl rfl rfl rfl) rfl rfl hl.1 rfl (lv_room (Nat.le_of_ble_eq_true rfl)) dX6_see_2 ⟨Nat.le_of_ble_eq_true rfl, Nat.le_of_ble_eq_true rfl⟩) hP hD hS hA [0, 1] rfl rfl (fun _ => rfl) (fun r4 u H locs h hP hD hS => ?_)
  have hP : va_P D vwCl [(a_t, .inr (1, [.int v_t_frameCount, .int v_t_faultCount, .ref a_t_pages, .ref a_t_bits, .int v_t_used, .int v_t_handFrame])), (a_t_pages, .inl (kI, 16, .inl v_t_pages)), (a_t_bits, .inl (kZ, 16, .inl v_t_bits))] H := hP
  have hD : va_D A [(a_t, .inr (1, [.int v_t_frameCount, .int v_t_faultCount, .ref a_t_pages, .ref a_t_bits, .int v_t_used, .int v_t_handFrame])), (a_t_pages, .inl (kI, 16, .inl v_t_pages)), (a_t_bits, .inl (kZ, 16, .inl v_t_bits))] := hD
  refine lv_if_ne (tgt := 12) hx hb dX6_see_5 (by decide) (fun c => ?_) (fun c => ?_)
  · have h := h.1 c
    refine lv_iconst (v := 0) hx hb dX6_see_12 (by decide) ?_
    exact B_13  _ _ _ _ _ _ h _ _ hP hD hS _ (lv_sub hl [0, 1] rfl)
  · have h := h.2 c
    refine lv_iconst (v := 1) hx hb dX6_see_8 (by decide) ?_
    refine lv_goto (tgt := 13) hx hb dX6_see_9 (by decide) ?_
    exact B_13  _ _ _ _ _ _ h _ _ hP hD hS _ (lv_sub hl [0, 1] rfl)
set_option maxHeartbeats 4000000 in
set_option maxRecDepth 100000 in
theorem c_X2_keptCount (l : Launch) {D : va_G} {kI kZ kJ kD : ClassId} (a_t a_t_pages a_t_bits : Nat) (sz : Nat) (v_t_frameCount : Int32) (v_t_faultCount : Int32) (v_t_used : Int32) (v_t_handFrame : Int32) (Q : Int32 → Prop) (h : wR_X2_keptCount v_t_used Q) : Met l yX2_keptCount (wM yX2_keptCount cX2_keptCount 1 (some .int)) ({ frames := 0, cells := 0, slots := 0, locals := 0 } : Room) (va_Pc [.ref a_t] (gS D kI kZ kJ kD [(a_t, .inr (1, [.int v_t_frameCount, .int v_t_faultCount, .ref a_t_pages, .ref a_t_bits, .int v_t_used, .int v_t_handFrame]))] sz)) (va_Qi (S := Unit) (fun r u => Q r ) (fun u t => va_P D vwCl [(a_t, .inr (1, [.int v_t_frameCount, .int v_t_faultCount, .ref a_t_pages, .ref a_t_bits, .int v_t_used, .int v_t_handFrame]))] t.heap) (va_A [(a_t, .inr (1, [.int v_t_frameCount, .int v_t_faultCount, .ref a_t_pages, .ref a_t_bits, .int v_t_used, .int v_t_handFrame]))] sz)) 0 0 (va_A [(a_t, .inr (1, [.int v_t_frameCount, .int v_t_faultCount, .ref a_t_pages, .ref a_t_bits, .int v_t_used, .int v_t_handFrame]))] sz) := by
  refine g_met_i (own := RX2) (y := yX2_keptCount) (by decide) rfl (Nat.le_of_ble_eq_true rfl) ?_
  intro p e s m args below meth c A QQ hx hb hml hts hown hE hA hP hD hS hret
  intro ls hl
  have hl : lv_has ls 1 [(0, .ref a_t)] := hl
  refine lv_aload_n hx hb dX2_keptCount_0 rfl (lv_at hl 0 rfl) ?_
  refine gf_X2_19_1 hx hb hts hown hE hP 0 rfl rfl dX2_keptCount_1 ?_
  exact hret _ _ _ _ v_t_used () dX2_keptCount_4 h hP hS
set_option maxHeartbeats 4000000 in
set_option maxRecDepth 100000 in
theorem c_X2_nextVictim (l : Launch) {D : va_G} {kI kZ kJ kD : ClassId} (a_t a_t_pages a_t_bits : Nat) (sz : Nat) (v_t_frameCount : Int32) (v_t_faultCount : Int32) (v_t_used : Int32) (v_t_handFrame : Int32) (v_t_pages : Nat → Int32) (v_t_bits : Nat → Int32) (Q : Int32 → Prop) (h : wR_X2_nextVictim v_t_frameCount v_t_used v_t_handFrame v_t_pages v_t_bits Q) : Met l yX2_nextVictim (wM yX2_nextVictim cX2_nextVictim 3 (some .int)) ({ frames := 1, cells := 0, slots := 0, locals := 21 } : Room) (va_Pc [.ref a_t] (gS D kI kZ kJ kD [(a_t, .inr (1, [.int v_t_frameCount, .int v_t_faultCount, .ref a_t_pages, .ref a_t_bits, .int v_t_used, .int v_t_handFrame])), (a_t_pages, .inl (kI, 16, .inl v_t_pages)), (a_t_bits, .inl (kZ, 16, .inl v_t_bits))] sz)) (va_Qi (S := Unit) (fun r u => Q r ) (fun u t => va_P D vwCl [(a_t, .inr (1, [.int v_t_frameCount, .int v_t_faultCount, .ref a_t_pages, .ref a_t_bits, .int v_t_used, .int v_t_handFrame])), (a_t_pages, .inl (kI, 16, .inl v_t_pages)), (a_t_bits, .inl (kZ, 16, .inl v_t_bits))] t.heap) (va_A [(a_t, .inr (1, [.int v_t_frameCount, .int v_t_faultCount, .ref a_t_pages, .ref a_t_bits, .int v_t_used, .int v_t_handFrame])), (a_t_pages, .inl (kI, 16, .inl v_t_pages)), (a_t_bits, .inl (kZ, 16, .inl v_t_bits))] sz)) 0 0 (va_A [(a_t, .inr (1, [.int v_t_frameCount, .int v_t_faultCount, .ref a_t_pages, .ref a_t_bits, .int v_t_used, .int v_t_handFrame])), (a_t_pages, .inl (kI, 16, .inl v_t_pages)), (a_t_bits, .inl (kZ, 16, .inl v_t_bits))] sz) := by
  refine g_met_i (own := RX2) (y := yX2_nextVictim) (by decide) rfl (Nat.le_of_ble_eq_true rfl) ?_
  intro p e s m args below meth c A QQ hx hb hml hts hown hE hA hP hD hS hret
  have B_49 : ∀  (x1 : Int32), wR_X2_nextVictim_49 v_t_frameCount v_t_used v_t_handFrame v_t_pages v_t_bits Q  x1 → gW p l e ({ frames := 1, cells := 0, slots := 0, locals := 21 } : Room) s m args below meth c QQ A D 3 [(a_t, .inr (1, [.int v_t_frameCount, .int v_t_faultCount, .ref a_t_pages, .ref a_t_bits, .int v_t_used, .int v_t_handFrame])), (a_t_pages, .inl (kI, 16, .inl v_t_pages)), (a_t_bits, .inl (kZ, 16, .inl v_t_bits))] [(0, .ref a_t), (1, .int x1)] 49 [] := by
    intro  x1 h
    intro H locs hP hD hS ls hl
    refine lv_aload_n hx hb dX2_nextVictim_49 rfl (lv_at hl 0 rfl) ?_
    refine gf_X2_9_1 hx hb hts hown hE hP 0 rfl rfl dX2_nextVictim_50 ?_
    refine lv_iload_n hx hb dX2_nextVictim_53 rfl (lv_at hl 1 rfl) ?_
    obtain ⟨hi, h⟩ := h
    refine va_iald hx hb hE.1 hP 1 0 rfl rfl hi dX2_nextVictim_54 ?_
    exact hret _ _ _ _ (v_t_pages x1.toNatClampNeg) () dX2_nextVictim_55 h hP hS
  have B_20 : ∀  (x1 : Int32) (x2 : Int32), wR_X2_nextVictim_20 v_t_frameCount v_t_used v_t_handFrame v_t_pages v_t_bits Q  x1 x2 → gW p l e ({ frames := 1, cells := 0, slots := 0, locals := 21 } : Room) s m args below meth c QQ A D 3 [(a_t, .inr (1, [.int v_t_frameCount, .int v_t_faultCount, .ref a_t_pages, .ref a_t_bits, .int v_t_used, .int v_t_handFrame])), (a_t_pages, .inl (kI, 16, .inl v_t_pages)), (a_t_bits, .inl (kZ, 16, .inl v_t_bits))] [(0, .ref a_t), (1, .int x1), (2, .int x2)] 20 [] := by
    intro  x1 x2 h
    refine h (fun (x1 : Int32) (x2 : Int32) => gW p l e ({ frames := 1, cells := 0, slots := 0, locals := 21 } : Room) s m args below meth c QQ A D 3 [(a_t, .inr (1, [.int v_t_frameCount, .int v_t_faultCount, .ref a_t_pages, .ref a_t_bits, .int v_t_used, .int v_t_handFrame])), (a_t_pages, .inl (kI, 16, .inl v_t_pages)), (a_t_bits, .inl (kZ, 16, .inl v_t_bits))] [(0, .ref a_t), (1, .int x1), (2, .int x2)] 20 []) (fun x1 x2 h => ?_)
    have hI_20 : ∀ (x1 : Int32) (x2 : Int32), (fun (x1 : Int32) (x2 : Int32) => gW p l e ({ frames := 1, cells := 0, slots := 0, locals := 21 } : Room) s m args below meth c QQ A D 3 [(a_t, .inr (1, [.int v_t_frameCount, .int v_t_faultCount, .ref a_t_pages, .ref a_t_bits, .int v_t_used, .int v_t_handFrame])), (a_t_pages, .inl (kI, 16, .inl v_t_pages)), (a_t_bits, .inl (kZ, 16, .inl v_t_bits))] [(0, .ref a_t), (1, .int x1), (2, .int x2)] 20 []) x1 x2 → gW p l e ({ frames := 1, cells := 0, slots := 0, locals := 21 } : Room) s m args below meth c QQ A D 3 [(a_t, .inr (1, [.int v_t_frameCount, .int v_t_faultCount, .ref a_t_pages, .ref a_t_bits, .int v_t_used, .int v_t_handFrame])), (a_t_pages, .inl (kI, 16, .inl v_t_pages)), (a_t_bits, .inl (kZ, 16, .inl v_t_bits))] [(0, .ref a_t), (1, .int x1), (2, .int x2)] 20 [] := fun _ _ h => h
    intro H locs hP hD hS ls hl
    refine lv_iload_n hx hb dX2_nextVictim_20 rfl (lv_at hl 2 rfl) ?_
    refine lv_aload_n hx hb dX2_nextVictim_21 rfl (lv_at hl 0 rfl) ?_
    refine gf_X2_30_1 hx hb hts hown hE hP 0 rfl rfl dX2_nextVictim_22 ?_
    refine lv_icmp_ge (tgt := 49) hx hb dX2_nextVictim_25 (by decide) (fun c => ?_) (fun c => ?_)
    · have h := h.1 c
      exact B_49  _ h _ _ hP hD hS _ (lv_sub hl [0, 1] rfl)
    · have h := h.2 c
      refine lv_aload_n hx hb dX2_nextVictim_28 rfl (lv_at hl 0 rfl) ?_
      refine gf_X2_15_1 hx hb hts hown hE hP 0 rfl rfl dX2_nextVictim_29 ?_
      refine lv_iload_n hx hb dX2_nextVictim_32 rfl (lv_at hl 1 rfl) ?_
      obtain ⟨hi, h⟩ := h
      refine va_zald hx hb hE.1 hP 2 1 rfl rfl hi dX2_nextVictim_33 ?_
      refine lv_if_eq (tgt := 49) hx hb dX2_nextVictim_34 (by decide) (fun c => ?_) (fun c => ?_)
      · have h := h.1 c
        exact B_49  _ h _ _ hP hD hS _ (lv_sub hl [0, 1] rfl)
      · have h := h.2 c
        refine lv_aload_n hx hb dX2_nextVictim_37 rfl (lv_at hl 0 rfl) ?_
        refine lv_iload_n hx hb dX2_nextVictim_38 rfl (lv_at hl 1 rfl) ?_
        refine gcu_i (va_runV (As := [.int x1]) (rest := []) ⟨hx, hb, hml, hown, hts⟩ (c_X2_frameAfter l (D := D) (kI := kI) (kZ := kZ) (kJ := kJ) (kD := kD) a_t a_t_pages a_t_bits _ v_t_frameCount v_t_faultCount v_t_used v_t_handFrame x1 _ h) (k_X2_40_X2 hts hE _ ⟨Nat.le_of_ble_eq_true rfl, Nat.le_of_ble_eq_true rfl⟩) (gp_V (q0 := 0) hE hP hD [0] rfl rfl rfl rfl rfl) rfl rfl hl.1 rfl (lv_room (Nat.le_of_ble_eq_true rfl)) dX2_nextVictim_39 ⟨Nat.le_of_ble_eq_true rfl, Nat.le_of_ble_eq_true rfl⟩) hP hD hS hA [0] rfl rfl (fun _ => rfl) (fun r1 u H locs h hP hD hS => ?_)
        have hP : va_P D vwCl [(a_t, .inr (1, [.int v_t_frameCount, .int v_t_faultCount, .ref a_t_pages, .ref a_t_bits, .int v_t_used, .int v_t_handFrame])), (a_t_pages, .inl (kI, 16, .inl v_t_pages)), (a_t_bits, .inl (kZ, 16, .inl v_t_bits))] H := hP
        have hD : va_D A [(a_t, .inr (1, [.int v_t_frameCount, .int v_t_faultCount, .ref a_t_pages, .ref a_t_bits, .int v_t_used, .int v_t_handFrame])), (a_t_pages, .inl (kI, 16, .inl v_t_pages)), (a_t_bits, .inl (kZ, 16, .inl v_t_bits))] := hD
        refine lv_istore_n (lv' := [(1, .int r1), (0, .ref a_t), (2, .int x2)]) hx hb dX2_nextVictim_42 rfl hl (by decide) rfl (fun ls hl => ?_)
        refine lv_iinc (v := (x2 + 1)) (lv' := [(2, .int (x2 + 1)), (1, .int r1), (0, .ref a_t)]) hx hb dX2_nextVictim_43 hl (k := 2) rfl rfl (by decide) rfl (fun ls hl => ?_)
        refine lv_goto (tgt := 20) hx hb dX2_nextVictim_46 (by decide) ?_
        exact hI_20 _ _ h _ _ hP hD hS _ (lv_sub hl [2, 1, 0] rfl)
  intro ls hl
  have hl : lv_has ls 3 [(0, .ref a_t)] := hl
  refine lv_aload_n hx hb dX2_nextVictim_0 rfl (lv_at hl 0 rfl) ?_
  refine gf_X2_19_1 hx hb hts hown hE hP 0 rfl rfl dX2_nextVictim_1 ?_
  refine lv_aload_n hx hb dX2_nextVictim_4 rfl (lv_at hl 0 rfl) ?_
  refine gf_X2_30_1 hx hb hts hown hE hP 0 rfl rfl dX2_nextVictim_5 ?_
  refine lv_icmp_ge (tgt := 13) hx hb dX2_nextVictim_8 (by decide) (fun c => ?_) (fun c => ?_)
  · have h := h.1 c
    refine lv_aload_n hx hb dX2_nextVictim_13 rfl (lv_at hl 0 rfl) ?_
    refine gf_X2_23_1 hx hb hts hown hE hP 0 rfl rfl dX2_nextVictim_14 ?_
    refine lv_istore_n (lv' := [(1, .int v_t_handFrame), (0, .ref a_t)]) hx hb dX2_nextVictim_17 rfl hl (by decide) rfl (fun ls hl => ?_)
    refine lv_iconst (v := 0) hx hb dX2_nextVictim_18 (by decide) ?_
    refine lv_istore_n (lv' := [(2, .int 0), (1, .int v_t_handFrame), (0, .ref a_t)]) hx hb dX2_nextVictim_19 rfl hl (by decide) rfl (fun ls hl => ?_)
    exact B_20  _ _ h _ _ hP hD hS _ (lv_sub hl [2, 1, 0] rfl)
  · have h := h.2 c
    refine lv_iconst (v := (-1)) hx hb dX2_nextVictim_11 (by decide) ?_
    exact hret _ _ _ _ (-1) () dX2_nextVictim_12 h hP hS
set_option maxHeartbeats 4000000 in
set_option maxRecDepth 100000 in
theorem c_X2_hasBitSet (l : Launch) {D : va_G} {kI kZ kJ kD : ClassId} (a_t a_t_pages a_t_bits : Nat) (sz : Nat) (v_t_frameCount : Int32) (v_t_faultCount : Int32) (v_t_used : Int32) (v_t_handFrame : Int32) (v_t_pages : Nat → Int32) (v_t_bits : Nat → Int32) (p1 : Int32) (Q : Int32 → Prop) (h : wR_X2_hasBitSet v_t_used v_t_pages v_t_bits p1 Q) : Met l yX2_hasBitSet (wM yX2_hasBitSet cX2_hasBitSet 3 (some .boolean)) ({ frames := 1, cells := 0, slots := 0, locals := 22 } : Room) (va_Pc [.ref a_t, .int p1] (gS D kI kZ kJ kD [(a_t, .inr (1, [.int v_t_frameCount, .int v_t_faultCount, .ref a_t_pages, .ref a_t_bits, .int v_t_used, .int v_t_handFrame])), (a_t_pages, .inl (kI, 16, .inl v_t_pages)), (a_t_bits, .inl (kZ, 16, .inl v_t_bits))] sz)) (va_Qi (S := Unit) (fun r u => Q r ) (fun u t => va_P D vwCl [(a_t, .inr (1, [.int v_t_frameCount, .int v_t_faultCount, .ref a_t_pages, .ref a_t_bits, .int v_t_used, .int v_t_handFrame])), (a_t_pages, .inl (kI, 16, .inl v_t_pages)), (a_t_bits, .inl (kZ, 16, .inl v_t_bits))] t.heap) (va_A [(a_t, .inr (1, [.int v_t_frameCount, .int v_t_faultCount, .ref a_t_pages, .ref a_t_bits, .int v_t_used, .int v_t_handFrame])), (a_t_pages, .inl (kI, 16, .inl v_t_pages)), (a_t_bits, .inl (kZ, 16, .inl v_t_bits))] sz)) 0 0 (va_A [(a_t, .inr (1, [.int v_t_frameCount, .int v_t_faultCount, .ref a_t_pages, .ref a_t_bits, .int v_t_used, .int v_t_handFrame])), (a_t_pages, .inl (kI, 16, .inl v_t_pages)), (a_t_bits, .inl (kZ, 16, .inl v_t_bits))] sz) := by
  refine g_met_z (own := RX2) (y := yX2_hasBitSet) (by decide) rfl (Nat.le_of_ble_eq_true rfl) ?_
  intro p e s m args below meth c A QQ hx hb hml hts hown hE hA hP hD hS hret
  have B_25 : ∀  (s0 : Int32), wR_X2_hasBitSet_25 v_t_used v_t_pages v_t_bits p1 Q  s0 → gW p l e ({ frames := 1, cells := 0, slots := 0, locals := 22 } : Room) s m args below meth c QQ A D 3 [(a_t, .inr (1, [.int v_t_frameCount, .int v_t_faultCount, .ref a_t_pages, .ref a_t_bits, .int v_t_used, .int v_t_handFrame])), (a_t_pages, .inl (kI, 16, .inl v_t_pages)), (a_t_bits, .inl (kZ, 16, .inl v_t_bits))] [] 25 [.int s0] := by
    intro  s0 h
    intro H locs hP hD hS ls hl
    obtain ⟨hi, h⟩ := h
    exact hret _ _ _ _ s0 () dX2_hasBitSet_25 hi h hP hS
  have B_24 : wR_X2_hasBitSet_24 v_t_used v_t_pages v_t_bits p1 Q   → gW p l e ({ frames := 1, cells := 0, slots := 0, locals := 22 } : Room) s m args below meth c QQ A D 3 [(a_t, .inr (1, [.int v_t_frameCount, .int v_t_faultCount, .ref a_t_pages, .ref a_t_bits, .int v_t_used, .int v_t_handFrame])), (a_t_pages, .inl (kI, 16, .inl v_t_pages)), (a_t_bits, .inl (kZ, 16, .inl v_t_bits))] [] 24 [] := by
    intro   h
    intro H locs hP hD hS ls hl
    refine lv_iconst (v := 0) hx hb dX2_hasBitSet_24 (by decide) ?_
    exact B_25  _ h _ _ hP hD hS _ (lv_sub hl [] rfl)
  intro ls hl
  have hl : lv_has ls 3 [(0, .ref a_t), (1, .int p1)] := hl
  refine lv_aload_n hx hb dX2_hasBitSet_0 rfl (lv_at hl 0 rfl) ?_
  refine lv_iload_n hx hb dX2_hasBitSet_1 rfl (lv_at hl 1 rfl) ?_
  refine gcu_i (va_runV (As := [.int p1]) (rest := []) ⟨hx, hb, hml, hown, hts⟩ (c_X2_frameOf l (D := D) (kI := kI) (kZ := kZ) (kJ := kJ) (kD := kD) a_t a_t_pages a_t_bits _ v_t_frameCount v_t_faultCount v_t_used v_t_handFrame v_t_pages p1 _ h) (k_X2_26_X2 hts hE _ ⟨Nat.le_of_ble_eq_true rfl, Nat.le_of_ble_eq_true rfl⟩) (gp_V (q0 := 0) hE hP hD [0, 1] rfl rfl rfl rfl rfl) rfl rfl hl.1 rfl (lv_room (Nat.le_of_ble_eq_true rfl)) dX2_hasBitSet_2 ⟨Nat.le_of_ble_eq_true rfl, Nat.le_of_ble_eq_true rfl⟩) hP hD hS hA [0, 1] rfl rfl (fun _ => rfl) (fun r1 u H locs h hP hD hS => ?_)
  have hP : va_P D vwCl [(a_t, .inr (1, [.int v_t_frameCount, .int v_t_faultCount, .ref a_t_pages, .ref a_t_bits, .int v_t_used, .int v_t_handFrame])), (a_t_pages, .inl (kI, 16, .inl v_t_pages)), (a_t_bits, .inl (kZ, 16, .inl v_t_bits))] H := hP
  have hD : va_D A [(a_t, .inr (1, [.int v_t_frameCount, .int v_t_faultCount, .ref a_t_pages, .ref a_t_bits, .int v_t_used, .int v_t_handFrame])), (a_t_pages, .inl (kI, 16, .inl v_t_pages)), (a_t_bits, .inl (kZ, 16, .inl v_t_bits))] := hD
  refine lv_istore_n (lv' := [(2, .int r1), (0, .ref a_t), (1, .int p1)]) hx hb dX2_hasBitSet_5 rfl hl (by decide) rfl (fun ls hl => ?_)
  refine lv_iload_n hx hb dX2_hasBitSet_6 rfl (lv_at hl 0 rfl) ?_
  refine lv_iconst (v := (-1)) hx hb dX2_hasBitSet_7 (by decide) ?_
  refine lv_icmp_eq (tgt := 24) hx hb dX2_hasBitSet_8 (by decide) (fun c => ?_) (fun c => ?_)
  · have h := h.1 c
    exact B_24   h _ _ hP hD hS _ (lv_sub hl [] rfl)
  · have h := h.2 c
    refine lv_aload_n hx hb dX2_hasBitSet_11 rfl (lv_at hl 1 rfl) ?_
    refine gf_X2_15_1 hx hb hts hown hE hP 0 rfl rfl dX2_hasBitSet_12 ?_
    refine lv_iload_n hx hb dX2_hasBitSet_15 rfl (lv_at hl 0 rfl) ?_
    obtain ⟨hi, h⟩ := h
    refine va_zald hx hb hE.1 hP 2 1 rfl rfl hi dX2_hasBitSet_16 ?_
    refine lv_if_eq (tgt := 24) hx hb dX2_hasBitSet_17 (by decide) (fun c => ?_) (fun c => ?_)
    · have h := h.1 c
      exact B_24   h _ _ hP hD hS _ (lv_sub hl [] rfl)
    · have h := h.2 c
      refine lv_iconst (v := 1) hx hb dX2_hasBitSet_20 (by decide) ?_
      refine lv_goto (tgt := 25) hx hb dX2_hasBitSet_21 (by decide) ?_
      exact B_25  _ h _ _ hP hD hS _ (lv_sub hl [] rfl)
