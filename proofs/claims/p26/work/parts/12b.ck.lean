set_option maxHeartbeats 4000000 in
set_option maxRecDepth 100000 in
theorem c_X4_startWith (l : Launch) {D : va_G} {kI kZ kJ kD : ClassId} (a_t a_t_pages a_t_setSizes a_t_latestTouch a_t_touchesAtDepth : Nat) (sz : Nat) (v_t_window : Int32) (v_t_count : Int32) (v_t_setSizeSum : Int32) (v_t_latestTouch : Nat → Int32) (v_t_touchesAtDepth : Nat → Int32) (p1 : Int32) (Q : Int32 → Int32 → Int32 → (Nat → Int32) → (Nat → Int32) → Prop) (h : wR_X4_startWith p1 v_t_window v_t_count v_t_setSizeSum v_t_latestTouch v_t_touchesAtDepth Q) : Met l yX4_startWith (wM yX4_startWith cX4_startWith 2 none) ({ frames := 1, cells := 0, slots := 0, locals := 23 } : Room) (va_Pc [.ref a_t, .int p1] (gS D kI kZ kJ kD [(a_t, .inr (3, [.ref a_t_pages, .ref a_t_setSizes, .ref a_t_latestTouch, .ref a_t_touchesAtDepth, .int v_t_window, .int v_t_count, .int v_t_setSizeSum])), (a_t_latestTouch, .inl (kI, 64, .inl v_t_latestTouch)), (a_t_touchesAtDepth, .inl (kI, 64, .inl v_t_touchesAtDepth))] sz)) (va_Qv (S := (((Int32 × Int32) × Int32) × ((Nat → Int32) × (Nat → Int32)))) (fun u => Q u.1.1.1 u.1.1.2 u.1.2 u.2.1 u.2.2) (fun u t => va_P D vwCl [(a_t, .inr (3, [.ref a_t_pages, .ref a_t_setSizes, .ref a_t_latestTouch, .ref a_t_touchesAtDepth, .int u.1.1.1, .int u.1.1.2, .int u.1.2])), (a_t_latestTouch, .inl (kI, 64, .inl u.2.1)), (a_t_touchesAtDepth, .inl (kI, 64, .inl u.2.2))] t.heap) (va_A [(a_t, .inr (3, [.ref a_t_pages, .ref a_t_setSizes, .ref a_t_latestTouch, .ref a_t_touchesAtDepth, .int v_t_window, .int v_t_count, .int v_t_setSizeSum])), (a_t_latestTouch, .inl (kI, 64, .inl v_t_latestTouch)), (a_t_touchesAtDepth, .inl (kI, 64, .inl v_t_touchesAtDepth))] sz)) 0 0 (va_A [(a_t, .inr (3, [.ref a_t_pages, .ref a_t_setSizes, .ref a_t_latestTouch, .ref a_t_touchesAtDepth, .int v_t_window, .int v_t_count, .int v_t_setSizeSum])), (a_t_latestTouch, .inl (kI, 64, .inl v_t_latestTouch)), (a_t_touchesAtDepth, .inl (kI, 64, .inl v_t_touchesAtDepth))] sz) := by
  refine g_met_v (own := RX4) (y := yX4_startWith) (by decide) rfl (Nat.le_of_ble_eq_true rfl) ?_
  intro p e s m args below meth c A QQ hx hb hml hts hown hE hA hP hD hS hret
  intro ls hl
  have hl : lv_has ls 2 [(0, .ref a_t), (1, .int p1)] := hl
  refine lv_aload_n hx hb dX4_startWith_0 rfl (lv_at hl 0 rfl) ?_
  refine lv_iload_n hx hb dX4_startWith_1 rfl (lv_at hl 1 rfl) ?_
  refine pf_X4_24_3 hx hb hts hown hE hP hD hS 0 rfl (Nat.le_of_ble_eq_true rfl) dX4_startWith_2 (fun H locs hP hD hS => ?_)
  have hP : va_P D vwCl [(a_t, .inr (3, [.ref a_t_pages, .ref a_t_setSizes, .ref a_t_latestTouch, .ref a_t_touchesAtDepth, .int p1, .int v_t_count, .int v_t_setSizeSum])), (a_t_latestTouch, .inl (kI, 64, .inl v_t_latestTouch)), (a_t_touchesAtDepth, .inl (kI, 64, .inl v_t_touchesAtDepth))] H := hP
  have hD : va_D A [(a_t, .inr (3, [.ref a_t_pages, .ref a_t_setSizes, .ref a_t_latestTouch, .ref a_t_touchesAtDepth, .int p1, .int v_t_count, .int v_t_setSizeSum])), (a_t_latestTouch, .inl (kI, 64, .inl v_t_latestTouch)), (a_t_touchesAtDepth, .inl (kI, 64, .inl v_t_touchesAtDepth))] := hD
  refine lv_aload_n hx hb dX4_startWith_5 rfl (lv_at hl 0 rfl) ?_
  refine lv_iconst (v := 0) hx hb dX4_startWith_6 (by decide) ?_
  refine pf_X4_28_3 hx hb hts hown hE hP hD hS 0 rfl (Nat.le_of_ble_eq_true rfl) dX4_startWith_7 (fun H locs hP hD hS => ?_)
  have hP : va_P D vwCl [(a_t, .inr (3, [.ref a_t_pages, .ref a_t_setSizes, .ref a_t_latestTouch, .ref a_t_touchesAtDepth, .int p1, .int 0, .int v_t_setSizeSum])), (a_t_latestTouch, .inl (kI, 64, .inl v_t_latestTouch)), (a_t_touchesAtDepth, .inl (kI, 64, .inl v_t_touchesAtDepth))] H := hP
  have hD : va_D A [(a_t, .inr (3, [.ref a_t_pages, .ref a_t_setSizes, .ref a_t_latestTouch, .ref a_t_touchesAtDepth, .int p1, .int 0, .int v_t_setSizeSum])), (a_t_latestTouch, .inl (kI, 64, .inl v_t_latestTouch)), (a_t_touchesAtDepth, .inl (kI, 64, .inl v_t_touchesAtDepth))] := hD
  refine lv_aload_n hx hb dX4_startWith_10 rfl (lv_at hl 0 rfl) ?_
  refine lv_iconst (v := 0) hx hb dX4_startWith_11 (by decide) ?_
  refine pf_X4_31_3 hx hb hts hown hE hP hD hS 0 rfl (Nat.le_of_ble_eq_true rfl) dX4_startWith_12 (fun H locs hP hD hS => ?_)
  have hP : va_P D vwCl [(a_t, .inr (3, [.ref a_t_pages, .ref a_t_setSizes, .ref a_t_latestTouch, .ref a_t_touchesAtDepth, .int p1, .int 0, .int 0])), (a_t_latestTouch, .inl (kI, 64, .inl v_t_latestTouch)), (a_t_touchesAtDepth, .inl (kI, 64, .inl v_t_touchesAtDepth))] H := hP
  have hD : va_D A [(a_t, .inr (3, [.ref a_t_pages, .ref a_t_setSizes, .ref a_t_latestTouch, .ref a_t_touchesAtDepth, .int p1, .int 0, .int 0])), (a_t_latestTouch, .inl (kI, 64, .inl v_t_latestTouch)), (a_t_touchesAtDepth, .inl (kI, 64, .inl v_t_touchesAtDepth))] := hD
  refine lv_aload_n hx hb dX4_startWith_15 rfl (lv_at hl 0 rfl) ?_
  refine gf_X4_18_3 hx hb hts hown hE hP 0 rfl rfl dX4_startWith_16 ?_
  refine lv_iconst (v := (-1)) hx hb dX4_startWith_19 (by decide) ?_
  refine gcu_v (va_runS (As := [.ref a_t_latestTouch, .int (-1)]) (rest := []) ⟨hx, hb, hml, hown, hts⟩ (c_J7_fill_53178 l (D := D) (kI := kI) (kZ := kZ) (kJ := kJ) (kD := kD) a_t_latestTouch 64 _ v_t_latestTouch (-1) _ h) (k_X4_34 hts hE _ ⟨Nat.le_of_ble_eq_true rfl, Nat.le_of_ble_eq_true rfl⟩) (gp_S hE hP hD [1] rfl rfl) rfl rfl hl.1 rfl (lv_room (Nat.le_of_ble_eq_true rfl)) dX4_startWith_20 ⟨Nat.le_of_ble_eq_true rfl, Nat.le_of_ble_eq_true rfl⟩) hP hD hS hA [1] rfl rfl (fun _ => rfl) (fun y1_0 H locs h hP hD hS => ?_)
  have hP : va_P D vwCl [(a_t, .inr (3, [.ref a_t_pages, .ref a_t_setSizes, .ref a_t_latestTouch, .ref a_t_touchesAtDepth, .int p1, .int 0, .int 0])), (a_t_latestTouch, .inl (kI, 64, .inl y1_0)), (a_t_touchesAtDepth, .inl (kI, 64, .inl v_t_touchesAtDepth))] H := hP
  have hD : va_D A [(a_t, .inr (3, [.ref a_t_pages, .ref a_t_setSizes, .ref a_t_latestTouch, .ref a_t_touchesAtDepth, .int p1, .int 0, .int 0])), (a_t_latestTouch, .inl (kI, 64, .inl y1_0)), (a_t_touchesAtDepth, .inl (kI, 64, .inl v_t_touchesAtDepth))] := hD
  refine lv_aload_n hx hb dX4_startWith_23 rfl (lv_at hl 0 rfl) ?_
  refine gf_X4_21_3 hx hb hts hown hE hP 0 rfl rfl dX4_startWith_24 ?_
  refine lv_iconst (v := 0) hx hb dX4_startWith_27 (by decide) ?_
  refine gcu_v (va_runS (As := [.ref a_t_touchesAtDepth, .int 0]) (rest := []) ⟨hx, hb, hml, hown, hts⟩ (c_J7_fill_53178 l (D := D) (kI := kI) (kZ := kZ) (kJ := kJ) (kD := kD) a_t_touchesAtDepth 64 _ v_t_touchesAtDepth 0 _ h) (k_X4_34 hts hE _ ⟨Nat.le_of_ble_eq_true rfl, Nat.le_of_ble_eq_true rfl⟩) (gp_S hE hP hD [2] rfl rfl) rfl rfl hl.1 rfl (lv_room (Nat.le_of_ble_eq_true rfl)) dX4_startWith_28 ⟨Nat.le_of_ble_eq_true rfl, Nat.le_of_ble_eq_true rfl⟩) hP hD hS hA [2] rfl rfl (fun _ => rfl) (fun y2_0 H locs h hP hD hS => ?_)
  have hP : va_P D vwCl [(a_t, .inr (3, [.ref a_t_pages, .ref a_t_setSizes, .ref a_t_latestTouch, .ref a_t_touchesAtDepth, .int p1, .int 0, .int 0])), (a_t_latestTouch, .inl (kI, 64, .inl y1_0)), (a_t_touchesAtDepth, .inl (kI, 64, .inl y2_0))] H := hP
  have hD : va_D A [(a_t, .inr (3, [.ref a_t_pages, .ref a_t_setSizes, .ref a_t_latestTouch, .ref a_t_touchesAtDepth, .int p1, .int 0, .int 0])), (a_t_latestTouch, .inl (kI, 64, .inl y1_0)), (a_t_touchesAtDepth, .inl (kI, 64, .inl y2_0))] := hD
  exact hret _ _ _ _ (((p1, 0), 0), (y1_0, y2_0)) dX4_startWith_31 h hP hS
set_option maxHeartbeats 4000000 in
set_option maxRecDepth 100000 in
theorem c_X4_pagesTouchedSince (l : Launch) {D : va_G} {kI kZ kJ kD : ClassId} (a_t a_t_pages a_t_setSizes a_t_latestTouch a_t_touchesAtDepth : Nat) (sz : Nat) (v_t_window : Int32) (v_t_count : Int32) (v_t_setSizeSum : Int32) (v_t_latestTouch : Nat → Int32) (p1 : Int32) (Q : Int32 → Prop) (h : wR_X4_pagesTouchedSince v_t_latestTouch p1 Q) : Met l yX4_pagesTouchedSince (wM yX4_pagesTouchedSince cX4_pagesTouchedSince 4 (some .int)) ({ frames := 0, cells := 0, slots := 0, locals := 0 } : Room) (va_Pc [.ref a_t, .int p1] (gS D kI kZ kJ kD [(a_t, .inr (3, [.ref a_t_pages, .ref a_t_setSizes, .ref a_t_latestTouch, .ref a_t_touchesAtDepth, .int v_t_window, .int v_t_count, .int v_t_setSizeSum])), (a_t_latestTouch, .inl (kI, 64, .inl v_t_latestTouch))] sz)) (va_Qi (S := Unit) (fun r u => Q r ) (fun u t => va_P D vwCl [(a_t, .inr (3, [.ref a_t_pages, .ref a_t_setSizes, .ref a_t_latestTouch, .ref a_t_touchesAtDepth, .int v_t_window, .int v_t_count, .int v_t_setSizeSum])), (a_t_latestTouch, .inl (kI, 64, .inl v_t_latestTouch))] t.heap) (va_A [(a_t, .inr (3, [.ref a_t_pages, .ref a_t_setSizes, .ref a_t_latestTouch, .ref a_t_touchesAtDepth, .int v_t_window, .int v_t_count, .int v_t_setSizeSum])), (a_t_latestTouch, .inl (kI, 64, .inl v_t_latestTouch))] sz)) 0 0 (va_A [(a_t, .inr (3, [.ref a_t_pages, .ref a_t_setSizes, .ref a_t_latestTouch, .ref a_t_touchesAtDepth, .int v_t_window, .int v_t_count, .int v_t_setSizeSum])), (a_t_latestTouch, .inl (kI, 64, .inl v_t_latestTouch))] sz) := by
  refine g_met_i (own := RX4) (y := yX4_pagesTouchedSince) (by decide) rfl (Nat.le_of_ble_eq_true rfl) ?_
  intro p e s m args below meth c A QQ hx hb hml hts hown hE hA hP hD hS hret
  have B_23 : ∀ (I_4 : Int32 → Int32 → Prop) (hI_4 : ∀ (x2 : Int32) (x3 : Int32), I_4 x2 x3 → gW p l e ({ frames := 0, cells := 0, slots := 0, locals := 0 } : Room) s m args below meth c QQ A D 4 [(a_t, .inr (3, [.ref a_t_pages, .ref a_t_setSizes, .ref a_t_latestTouch, .ref a_t_touchesAtDepth, .int v_t_window, .int v_t_count, .int v_t_setSizeSum])), (a_t_latestTouch, .inl (kI, 64, .inl v_t_latestTouch))] [(0, .ref a_t), (1, .int p1), (2, .int x2), (3, .int x3)] 4 []) (x2 : Int32) (x3 : Int32), wR_X4_pagesTouchedSince_23 v_t_latestTouch p1 Q I_4 x2 x3 → gW p l e ({ frames := 0, cells := 0, slots := 0, locals := 0 } : Room) s m args below meth c QQ A D 4 [(a_t, .inr (3, [.ref a_t_pages, .ref a_t_setSizes, .ref a_t_latestTouch, .ref a_t_touchesAtDepth, .int v_t_window, .int v_t_count, .int v_t_setSizeSum])), (a_t_latestTouch, .inl (kI, 64, .inl v_t_latestTouch))] [(0, .ref a_t), (1, .int p1), (2, .int x2), (3, .int x3)] 23 [] := by
    intro I_4 hI_4 x2 x3 h
    intro H locs hP hD hS ls hl
    refine lv_iinc (v := (x3 + 1)) (lv' := [(3, .int (x3 + 1)), (0, .ref a_t), (1, .int p1), (2, .int x2)]) hx hb dX4_pagesTouchedSince_23 hl (k := 3) rfl rfl (by decide) rfl (fun ls hl => ?_)
    refine lv_goto (tgt := 4) hx hb dX4_pagesTouchedSince_26 (by decide) ?_
    exact hI_4 _ _ h _ _ hP hD hS _ (lv_sub hl [1, 2, 3, 0] rfl)
  have B_4 : ∀  (x2 : Int32) (x3 : Int32), wR_X4_pagesTouchedSince_4 v_t_latestTouch p1 Q  x2 x3 → gW p l e ({ frames := 0, cells := 0, slots := 0, locals := 0 } : Room) s m args below meth c QQ A D 4 [(a_t, .inr (3, [.ref a_t_pages, .ref a_t_setSizes, .ref a_t_latestTouch, .ref a_t_touchesAtDepth, .int v_t_window, .int v_t_count, .int v_t_setSizeSum])), (a_t_latestTouch, .inl (kI, 64, .inl v_t_latestTouch))] [(0, .ref a_t), (1, .int p1), (2, .int x2), (3, .int x3)] 4 [] := by
    intro  x2 x3 h
    refine h (fun (x2 : Int32) (x3 : Int32) => gW p l e ({ frames := 0, cells := 0, slots := 0, locals := 0 } : Room) s m args below meth c QQ A D 4 [(a_t, .inr (3, [.ref a_t_pages, .ref a_t_setSizes, .ref a_t_latestTouch, .ref a_t_touchesAtDepth, .int v_t_window, .int v_t_count, .int v_t_setSizeSum])), (a_t_latestTouch, .inl (kI, 64, .inl v_t_latestTouch))] [(0, .ref a_t), (1, .int p1), (2, .int x2), (3, .int x3)] 4 []) (fun x2 x3 h => ?_)
    have hI_4 : ∀ (x2 : Int32) (x3 : Int32), (fun (x2 : Int32) (x3 : Int32) => gW p l e ({ frames := 0, cells := 0, slots := 0, locals := 0 } : Room) s m args below meth c QQ A D 4 [(a_t, .inr (3, [.ref a_t_pages, .ref a_t_setSizes, .ref a_t_latestTouch, .ref a_t_touchesAtDepth, .int v_t_window, .int v_t_count, .int v_t_setSizeSum])), (a_t_latestTouch, .inl (kI, 64, .inl v_t_latestTouch))] [(0, .ref a_t), (1, .int p1), (2, .int x2), (3, .int x3)] 4 []) x2 x3 → gW p l e ({ frames := 0, cells := 0, slots := 0, locals := 0 } : Room) s m args below meth c QQ A D 4 [(a_t, .inr (3, [.ref a_t_pages, .ref a_t_setSizes, .ref a_t_latestTouch, .ref a_t_touchesAtDepth, .int v_t_window, .int v_t_count, .int v_t_setSizeSum])), (a_t_latestTouch, .inl (kI, 64, .inl v_t_latestTouch))] [(0, .ref a_t), (1, .int p1), (2, .int x2), (3, .int x3)] 4 [] := fun _ _ h => h
    intro H locs hP hD hS ls hl
    refine lv_iload_n hx hb dX4_pagesTouchedSince_4 rfl (lv_at hl 3 rfl) ?_
    refine lv_bipush (v := 64) hx hb dX4_pagesTouchedSince_5 (by decide) ?_
    refine lv_icmp_ge (tgt := 29) hx hb dX4_pagesTouchedSince_7 (by decide) (fun c => ?_) (fun c => ?_)
    · have h := h.1 c
      refine lv_iload_n hx hb dX4_pagesTouchedSince_29 rfl (lv_at hl 2 rfl) ?_
      exact hret _ _ _ _ x2 () dX4_pagesTouchedSince_30 h hP hS
    · have h := h.2 c
      refine lv_aload_n hx hb dX4_pagesTouchedSince_10 rfl (lv_at hl 0 rfl) ?_
      refine gf_X4_18_3 hx hb hts hown hE hP 0 rfl rfl dX4_pagesTouchedSince_11 ?_
      refine lv_iload_n hx hb dX4_pagesTouchedSince_14 rfl (lv_at hl 3 rfl) ?_
      obtain ⟨hi, h⟩ := h
      refine va_iald hx hb hE.1 hP 1 0 rfl rfl hi dX4_pagesTouchedSince_15 ?_
      refine lv_iload_n hx hb dX4_pagesTouchedSince_16 rfl (lv_at hl 1 rfl) ?_
      refine lv_icmp_lt (tgt := 23) hx hb dX4_pagesTouchedSince_17 (by decide) (fun c => ?_) (fun c => ?_)
      · have h := h.1 c
        exact B_23 _ hI_4 _ _ h _ _ hP hD hS _ (lv_sub hl [0, 1, 2, 3] rfl)
      · have h := h.2 c
        refine lv_iinc (v := (x2 + 1)) (lv' := [(2, .int (x2 + 1)), (0, .ref a_t), (1, .int p1), (3, .int x3)]) hx hb dX4_pagesTouchedSince_20 hl (k := 2) rfl rfl (by decide) rfl (fun ls hl => ?_)
        exact B_23 _ hI_4 _ _ h _ _ hP hD hS _ (lv_sub hl [1, 2, 0, 3] rfl)
  intro ls hl
  have hl : lv_has ls 4 [(0, .ref a_t), (1, .int p1)] := hl
  refine lv_iconst (v := 0) hx hb dX4_pagesTouchedSince_0 (by decide) ?_
  refine lv_istore_n (lv' := [(2, .int 0), (0, .ref a_t), (1, .int p1)]) hx hb dX4_pagesTouchedSince_1 rfl hl (by decide) rfl (fun ls hl => ?_)
  refine lv_iconst (v := 0) hx hb dX4_pagesTouchedSince_2 (by decide) ?_
  refine lv_istore_n (lv' := [(3, .int 0), (2, .int 0), (0, .ref a_t), (1, .int p1)]) hx hb dX4_pagesTouchedSince_3 rfl hl (by decide) rfl (fun ls hl => ?_)
  exact B_4  _ _ h _ _ hP hD hS _ (lv_sub hl [2, 3, 1, 0] rfl)
set_option maxHeartbeats 4000000 in
set_option maxRecDepth 100000 in
theorem c_X4_noteDepth (l : Launch) {D : va_G} {kI kZ kJ kD : ClassId} (a_t a_t_pages a_t_setSizes a_t_latestTouch a_t_touchesAtDepth : Nat) (sz : Nat) (v_t_window : Int32) (v_t_count : Int32) (v_t_setSizeSum : Int32) (v_t_latestTouch : Nat → Int32) (v_t_touchesAtDepth : Nat → Int32) (p1 : Int32) (Q : (Nat → Int32) → Prop) (h : wR_X4_noteDepth v_t_latestTouch p1 v_t_touchesAtDepth Q) : Met l yX4_noteDepth (wM yX4_noteDepth cX4_noteDepth 3 none) ({ frames := 1, cells := 0, slots := 0, locals := 23 } : Room) (va_Pc [.ref a_t, .int p1] (gS D kI kZ kJ kD [(a_t, .inr (3, [.ref a_t_pages, .ref a_t_setSizes, .ref a_t_latestTouch, .ref a_t_touchesAtDepth, .int v_t_window, .int v_t_count, .int v_t_setSizeSum])), (a_t_latestTouch, .inl (kI, 64, .inl v_t_latestTouch)), (a_t_touchesAtDepth, .inl (kI, 64, .inl v_t_touchesAtDepth))] sz)) (va_Qv (S := (Nat → Int32)) (fun u => Q u) (fun u t => va_P D vwCl [(a_t, .inr (3, [.ref a_t_pages, .ref a_t_setSizes, .ref a_t_latestTouch, .ref a_t_touchesAtDepth, .int v_t_window, .int v_t_count, .int v_t_setSizeSum])), (a_t_latestTouch, .inl (kI, 64, .inl v_t_latestTouch)), (a_t_touchesAtDepth, .inl (kI, 64, .inl u))] t.heap) (va_A [(a_t, .inr (3, [.ref a_t_pages, .ref a_t_setSizes, .ref a_t_latestTouch, .ref a_t_touchesAtDepth, .int v_t_window, .int v_t_count, .int v_t_setSizeSum])), (a_t_latestTouch, .inl (kI, 64, .inl v_t_latestTouch)), (a_t_touchesAtDepth, .inl (kI, 64, .inl v_t_touchesAtDepth))] sz)) 0 0 (va_A [(a_t, .inr (3, [.ref a_t_pages, .ref a_t_setSizes, .ref a_t_latestTouch, .ref a_t_touchesAtDepth, .int v_t_window, .int v_t_count, .int v_t_setSizeSum])), (a_t_latestTouch, .inl (kI, 64, .inl v_t_latestTouch)), (a_t_touchesAtDepth, .inl (kI, 64, .inl v_t_touchesAtDepth))] sz) := by
  refine g_met_v (own := RX4) (y := yX4_noteDepth) (by decide) rfl (Nat.le_of_ble_eq_true rfl) ?_
  intro p e s m args below meth c A QQ hx hb hml hts hown hE hA hP hD hS hret
  have B_40 : ∀  (v_t_touchesAtDepth : Nat → Int32), wR_X4_noteDepth_40 v_t_latestTouch p1 Q  v_t_touchesAtDepth → gW p l e ({ frames := 1, cells := 0, slots := 0, locals := 23 } : Room) s m args below meth c QQ A D 3 [(a_t, .inr (3, [.ref a_t_pages, .ref a_t_setSizes, .ref a_t_latestTouch, .ref a_t_touchesAtDepth, .int v_t_window, .int v_t_count, .int v_t_setSizeSum])), (a_t_latestTouch, .inl (kI, 64, .inl v_t_latestTouch)), (a_t_touchesAtDepth, .inl (kI, 64, .inl v_t_touchesAtDepth))] [] 40 [] := by
    intro  v_t_touchesAtDepth h
    intro H locs hP hD hS ls hl
    exact hret _ _ _ _ v_t_touchesAtDepth dX4_noteDepth_40 h hP hS
  intro ls hl
  have hl : lv_has ls 3 [(0, .ref a_t), (1, .int p1)] := hl
  refine lv_aload_n hx hb dX4_noteDepth_0 rfl (lv_at hl 0 rfl) ?_
  refine gf_X4_18_3 hx hb hts hown hE hP 0 rfl rfl dX4_noteDepth_1 ?_
  refine lv_iload_n hx hb dX4_noteDepth_4 rfl (lv_at hl 1 rfl) ?_
  obtain ⟨hi, h⟩ := h
  refine va_iald hx hb hE.1 hP 1 0 rfl rfl hi dX4_noteDepth_5 ?_
  refine lv_iconst (v := (-1)) hx hb dX4_noteDepth_6 (by decide) ?_
  refine lv_icmp_ne (tgt := 11) hx hb dX4_noteDepth_7 (by decide) (fun c => ?_) (fun c => ?_)
  · have h := h.1 c
    refine lv_aload_n hx hb dX4_noteDepth_11 rfl (lv_at hl 0 rfl) ?_
    refine lv_aload_n hx hb dX4_noteDepth_12 rfl (lv_at hl 0 rfl) ?_
    refine gf_X4_18_3 hx hb hts hown hE hP 0 rfl rfl dX4_noteDepth_13 ?_
    refine lv_iload_n hx hb dX4_noteDepth_16 rfl (lv_at hl 1 rfl) ?_
    obtain ⟨hi, h⟩ := h
    refine va_iald hx hb hE.1 hP 1 0 rfl rfl hi dX4_noteDepth_17 ?_
    refine lv_iconst (v := 1) hx hb dX4_noteDepth_18 (by decide) ?_
    refine lv_iadd hx hb dX4_noteDepth_19 ?_
    refine gcu_i (va_runV (As := [.int ((v_t_latestTouch p1.toNatClampNeg) + 1)]) (rest := []) ⟨hx, hb, hml, hown, hts⟩ (c_X4_pagesTouchedSince l (D := D) (kI := kI) (kZ := kZ) (kJ := kJ) (kD := kD) a_t a_t_pages a_t_setSizes a_t_latestTouch a_t_touchesAtDepth _ v_t_window v_t_count v_t_setSizeSum v_t_latestTouch ((v_t_latestTouch p1.toNatClampNeg) + 1) _ h) (k_X4_50_X4 hts hE _ ⟨Nat.le_of_ble_eq_true rfl, Nat.le_of_ble_eq_true rfl⟩) (gp_V (q0 := 0) hE hP hD [0, 1] rfl rfl rfl rfl rfl) rfl rfl hl.1 rfl (lv_room (Nat.le_of_ble_eq_true rfl)) dX4_noteDepth_20 ⟨Nat.le_of_ble_eq_true rfl, Nat.le_of_ble_eq_true rfl⟩) hP hD hS hA [0, 1] rfl rfl (fun _ => rfl) (fun r1 u H locs h hP hD hS => ?_)
    have hP : va_P D vwCl [(a_t, .inr (3, [.ref a_t_pages, .ref a_t_setSizes, .ref a_t_latestTouch, .ref a_t_touchesAtDepth, .int v_t_window, .int v_t_count, .int v_t_setSizeSum])), (a_t_latestTouch, .inl (kI, 64, .inl v_t_latestTouch)), (a_t_touchesAtDepth, .inl (kI, 64, .inl v_t_touchesAtDepth))] H := hP
    have hD : va_D A [(a_t, .inr (3, [.ref a_t_pages, .ref a_t_setSizes, .ref a_t_latestTouch, .ref a_t_touchesAtDepth, .int v_t_window, .int v_t_count, .int v_t_setSizeSum])), (a_t_latestTouch, .inl (kI, 64, .inl v_t_latestTouch)), (a_t_touchesAtDepth, .inl (kI, 64, .inl v_t_touchesAtDepth))] := hD
    refine lv_istore_n (lv' := [(2, .int r1), (0, .ref a_t), (1, .int p1)]) hx hb dX4_noteDepth_23 rfl hl (by decide) rfl (fun ls hl => ?_)
    refine lv_iload_n hx hb dX4_noteDepth_24 rfl (lv_at hl 0 rfl) ?_
    refine lv_bipush (v := 64) hx hb dX4_noteDepth_25 (by decide) ?_
    refine lv_icmp_ge (tgt := 40) hx hb dX4_noteDepth_27 (by decide) (fun c => ?_) (fun c => ?_)
    · have h := h.1 c
      exact B_40  _ h _ _ hP hD hS _ (lv_sub hl [] rfl)
    · have h := h.2 c
      refine lv_aload_n hx hb dX4_noteDepth_30 rfl (lv_at hl 1 rfl) ?_
      refine gf_X4_21_3 hx hb hts hown hE hP 0 rfl rfl dX4_noteDepth_31 ?_
      refine lv_iload_n hx hb dX4_noteDepth_34 rfl (lv_at hl 0 rfl) ?_
      refine lv_dup2_11 hx hb dX4_noteDepth_35 rfl rfl ?_
      obtain ⟨hi, h⟩ := h
      refine va_iald hx hb hE.1 hP 2 0 rfl rfl hi dX4_noteDepth_36 ?_
      refine lv_iconst (v := 1) hx hb dX4_noteDepth_37 (by decide) ?_
      refine lv_iadd hx hb dX4_noteDepth_38 ?_
      obtain ⟨hi, h⟩ := h
      refine va_iast hx hb hE.1 hP hD hS 2 0 rfl rfl hi dX4_noteDepth_39 (fun H locs hP hD hS => ?_)
      have hP : va_P D vwCl [(a_t, .inr (3, [.ref a_t_pages, .ref a_t_setSizes, .ref a_t_latestTouch, .ref a_t_touchesAtDepth, .int v_t_window, .int v_t_count, .int v_t_setSizeSum])), (a_t_latestTouch, .inl (kI, 64, .inl v_t_latestTouch)), (a_t_touchesAtDepth, .inl (kI, 64, .inl (upd v_t_touchesAtDepth r1.toNatClampNeg ((v_t_touchesAtDepth r1.toNatClampNeg) + 1))))] H := hP
      have hD : va_D A [(a_t, .inr (3, [.ref a_t_pages, .ref a_t_setSizes, .ref a_t_latestTouch, .ref a_t_touchesAtDepth, .int v_t_window, .int v_t_count, .int v_t_setSizeSum])), (a_t_latestTouch, .inl (kI, 64, .inl v_t_latestTouch)), (a_t_touchesAtDepth, .inl (kI, 64, .inl (upd v_t_touchesAtDepth r1.toNatClampNeg ((v_t_touchesAtDepth r1.toNatClampNeg) + 1))))] := hD
      exact B_40  _ h _ _ hP hD hS _ (lv_sub hl [] rfl)
  · have h := h.2 c
    exact hret _ _ _ _ v_t_touchesAtDepth dX4_noteDepth_10 h hP hS
set_option maxHeartbeats 4000000 in
set_option maxRecDepth 100000 in
theorem c_X4_record (l : Launch) {D : va_G} {kI kZ kJ kD : ClassId} (a_t a_t_pages a_t_setSizes a_t_latestTouch a_t_touchesAtDepth : Nat) (sz : Nat) (v_t_window : Int32) (v_t_count : Int32) (v_t_setSizeSum : Int32) (v_t_pages : Nat → Int32) (v_t_setSizes : Nat → Int32) (v_t_latestTouch : Nat → Int32) (v_t_touchesAtDepth : Nat → Int32) (p1 : Int32) (Q : Int32 → Int32 → (Nat → Int32) → (Nat → Int32) → (Nat → Int32) → (Nat → Int32) → Prop) (h : wR_X4_record v_t_window p1 v_t_count v_t_setSizeSum v_t_pages v_t_setSizes v_t_latestTouch v_t_touchesAtDepth Q) : Met l yX4_record (wM yX4_record cX4_record 2 none) ({ frames := 2, cells := 0, slots := 0, locals := 45 } : Room) (va_Pc [.ref a_t, .int p1] (gS D kI kZ kJ kD [(a_t, .inr (3, [.ref a_t_pages, .ref a_t_setSizes, .ref a_t_latestTouch, .ref a_t_touchesAtDepth, .int v_t_window, .int v_t_count, .int v_t_setSizeSum])), (a_t_pages, .inl (kI, 400, .inl v_t_pages)), (a_t_setSizes, .inl (kI, 400, .inl v_t_setSizes)), (a_t_latestTouch, .inl (kI, 64, .inl v_t_latestTouch)), (a_t_touchesAtDepth, .inl (kI, 64, .inl v_t_touchesAtDepth))] sz)) (va_Qv (S := (((Int32 × Int32) × (Nat → Int32)) × (((Nat → Int32) × (Nat → Int32)) × (Nat → Int32)))) (fun u => Q u.1.1.1 u.1.1.2 u.1.2 u.2.1.1 u.2.1.2 u.2.2) (fun u t => va_P D vwCl [(a_t, .inr (3, [.ref a_t_pages, .ref a_t_setSizes, .ref a_t_latestTouch, .ref a_t_touchesAtDepth, .int v_t_window, .int u.1.1.1, .int u.1.1.2])), (a_t_pages, .inl (kI, 400, .inl u.1.2)), (a_t_setSizes, .inl (kI, 400, .inl u.2.1.1)), (a_t_latestTouch, .inl (kI, 64, .inl u.2.1.2)), (a_t_touchesAtDepth, .inl (kI, 64, .inl u.2.2))] t.heap) (va_A [(a_t, .inr (3, [.ref a_t_pages, .ref a_t_setSizes, .ref a_t_latestTouch, .ref a_t_touchesAtDepth, .int v_t_window, .int v_t_count, .int v_t_setSizeSum])), (a_t_pages, .inl (kI, 400, .inl v_t_pages)), (a_t_setSizes, .inl (kI, 400, .inl v_t_setSizes)), (a_t_latestTouch, .inl (kI, 64, .inl v_t_latestTouch)), (a_t_touchesAtDepth, .inl (kI, 64, .inl v_t_touchesAtDepth))] sz)) 0 0 (va_A [(a_t, .inr (3, [.ref a_t_pages, .ref a_t_setSizes, .ref a_t_latestTouch, .ref a_t_touchesAtDepth, .int v_t_window, .int v_t_count, .int v_t_setSizeSum])), (a_t_pages, .inl (kI, 400, .inl v_t_pages)), (a_t_setSizes, .inl (kI, 400, .inl v_t_setSizes)), (a_t_latestTouch, .inl (kI, 64, .inl v_t_latestTouch)), (a_t_touchesAtDepth, .inl (kI, 64, .inl v_t_touchesAtDepth))] sz) := by
  refine g_met_v (own := RX4) (y := yX4_record) (by decide) rfl (Nat.le_of_ble_eq_true rfl) ?_
  intro p e s m args below meth c A QQ hx hb hml hts hown hE hA hP hD hS hret
  intro ls hl
  have hl : lv_has ls 2 [(0, .ref a_t), (1, .int p1)] := hl
  refine lv_aload_n hx hb dX4_record_0 rfl (lv_at hl 0 rfl) ?_
  refine gf_X4_28_3 hx hb hts hown hE hP 0 rfl rfl dX4_record_1 ?_
  refine lv_sipush (v := 400) hx hb dX4_record_4 (by decide) ?_
  refine lv_icmp_lt (tgt := 11) hx hb dX4_record_7 (by decide) (fun c => ?_) (fun c => ?_)
  · have h := h.1 c
    refine lv_aload_n hx hb dX4_record_11 rfl (lv_at hl 0 rfl) ?_
    refine lv_iload_n hx hb dX4_record_12 rfl (lv_at hl 1 rfl) ?_
    refine gcu_v (va_runV (As := [.int p1]) (rest := []) ⟨hx, hb, hml, hown, hts⟩ (c_X4_noteDepth l (D := D) (kI := kI) (kZ := kZ) (kJ := kJ) (kD := kD) a_t a_t_pages a_t_setSizes a_t_latestTouch a_t_touchesAtDepth _ v_t_window v_t_count v_t_setSizeSum v_t_latestTouch v_t_touchesAtDepth p1 _ h) (k_X4_40_X4 hts hE _ ⟨Nat.le_of_ble_eq_true rfl, Nat.le_of_ble_eq_true rfl⟩) (gp_V (q0 := 0) hE hP hD [0, 3, 4] rfl rfl rfl rfl rfl) rfl rfl hl.1 rfl (lv_room (Nat.le_of_ble_eq_true rfl)) dX4_record_13 ⟨Nat.le_of_ble_eq_true rfl, Nat.le_of_ble_eq_true rfl⟩) hP hD hS hA [0, 3, 4] rfl rfl (fun _ => rfl) (fun y1_0 H locs h hP hD hS => ?_)
    have hP : va_P D vwCl [(a_t, .inr (3, [.ref a_t_pages, .ref a_t_setSizes, .ref a_t_latestTouch, .ref a_t_touchesAtDepth, .int v_t_window, .int v_t_count, .int v_t_setSizeSum])), (a_t_pages, .inl (kI, 400, .inl v_t_pages)), (a_t_setSizes, .inl (kI, 400, .inl v_t_setSizes)), (a_t_latestTouch, .inl (kI, 64, .inl v_t_latestTouch)), (a_t_touchesAtDepth, .inl (kI, 64, .inl y1_0))] H := hP
    have hD : va_D A [(a_t, .inr (3, [.ref a_t_pages, .ref a_t_setSizes, .ref a_t_latestTouch, .ref a_t_touchesAtDepth, .int v_t_window, .int v_t_count, .int v_t_setSizeSum])), (a_t_pages, .inl (kI, 400, .inl v_t_pages)), (a_t_setSizes, .inl (kI, 400, .inl v_t_setSizes)), (a_t_latestTouch, .inl (kI, 64, .inl v_t_latestTouch)), (a_t_touchesAtDepth, .inl (kI, 64, .inl y1_0))] := hD
    refine lv_aload_n hx hb dX4_record_16 rfl (lv_at hl 0 rfl) ?_
    refine gf_X4_18_3 hx hb hts hown hE hP 0 rfl rfl dX4_record_17 ?_
    refine lv_iload_n hx hb dX4_record_20 rfl (lv_at hl 1 rfl) ?_
    refine lv_aload_n hx hb dX4_record_21 rfl (lv_at hl 0 rfl) ?_
    refine gf_X4_28_3 hx hb hts hown hE hP 0 rfl rfl dX4_record_22 ?_
    obtain ⟨hi, h⟩ := h
    refine va_iast hx hb hE.1 hP hD hS 3 0 rfl rfl hi dX4_record_25 (fun H locs hP hD hS => ?_)
    have hP : va_P D vwCl [(a_t, .inr (3, [.ref a_t_pages, .ref a_t_setSizes, .ref a_t_latestTouch, .ref a_t_touchesAtDepth, .int v_t_window, .int v_t_count, .int v_t_setSizeSum])), (a_t_pages, .inl (kI, 400, .inl v_t_pages)), (a_t_setSizes, .inl (kI, 400, .inl v_t_setSizes)), (a_t_latestTouch, .inl (kI, 64, .inl (upd v_t_latestTouch p1.toNatClampNeg v_t_count))), (a_t_touchesAtDepth, .inl (kI, 64, .inl y1_0))] H := hP
    have hD : va_D A [(a_t, .inr (3, [.ref a_t_pages, .ref a_t_setSizes, .ref a_t_latestTouch, .ref a_t_touchesAtDepth, .int v_t_window, .int v_t_count, .int v_t_setSizeSum])), (a_t_pages, .inl (kI, 400, .inl v_t_pages)), (a_t_setSizes, .inl (kI, 400, .inl v_t_setSizes)), (a_t_latestTouch, .inl (kI, 64, .inl (upd v_t_latestTouch p1.toNatClampNeg v_t_count))), (a_t_touchesAtDepth, .inl (kI, 64, .inl y1_0))] := hD
    refine lv_aload_n hx hb dX4_record_26 rfl (lv_at hl 0 rfl) ?_
    refine gf_X4_9_3 hx hb hts hown hE hP 0 rfl rfl dX4_record_27 ?_
    refine lv_aload_n hx hb dX4_record_30 rfl (lv_at hl 0 rfl) ?_
    refine gf_X4_28_3 hx hb hts hown hE hP 0 rfl rfl dX4_record_31 ?_
    refine lv_iload_n hx hb dX4_record_34 rfl (lv_at hl 1 rfl) ?_
    obtain ⟨hi, h⟩ := h
    refine va_iast hx hb hE.1 hP hD hS 1 0 rfl rfl hi dX4_record_35 (fun H locs hP hD hS => ?_)
    have hP : va_P D vwCl [(a_t, .inr (3, [.ref a_t_pages, .ref a_t_setSizes, .ref a_t_latestTouch, .ref a_t_touchesAtDepth, .int v_t_window, .int v_t_count, .int v_t_setSizeSum])), (a_t_pages, .inl (kI, 400, .inl (upd v_t_pages v_t_count.toNatClampNeg p1))), (a_t_setSizes, .inl (kI, 400, .inl v_t_setSizes)), (a_t_latestTouch, .inl (kI, 64, .inl (upd v_t_latestTouch p1.toNatClampNeg v_t_count))), (a_t_touchesAtDepth, .inl (kI, 64, .inl y1_0))] H := hP
    have hD : va_D A [(a_t, .inr (3, [.ref a_t_pages, .ref a_t_setSizes, .ref a_t_latestTouch, .ref a_t_touchesAtDepth, .int v_t_window, .int v_t_count, .int v_t_setSizeSum])), (a_t_pages, .inl (kI, 400, .inl (upd v_t_pages v_t_count.toNatClampNeg p1))), (a_t_setSizes, .inl (kI, 400, .inl v_t_setSizes)), (a_t_latestTouch, .inl (kI, 64, .inl (upd v_t_latestTouch p1.toNatClampNeg v_t_count))), (a_t_touchesAtDepth, .inl (kI, 64, .inl y1_0))] := hD
    refine lv_aload_n hx hb dX4_record_36 rfl (lv_at hl 0 rfl) ?_
    refine gf_X4_15_3 hx hb hts hown hE hP 0 rfl rfl dX4_record_37 ?_
    refine lv_aload_n hx hb dX4_record_40 rfl (lv_at hl 0 rfl) ?_
    refine gf_X4_28_3 hx hb hts hown hE hP 0 rfl rfl dX4_record_41 ?_
    refine lv_aload_n hx hb dX4_record_44 rfl (lv_at hl 0 rfl) ?_
    refine lv_iconst (v := 0) hx hb dX4_record_45 (by decide) ?_
    refine lv_aload_n hx hb dX4_record_46 rfl (lv_at hl 0 rfl) ?_
    refine gf_X4_28_3 hx hb hts hown hE hP 0 rfl rfl dX4_record_47 ?_
    refine lv_aload_n hx hb dX4_record_50 rfl (lv_at hl 0 rfl) ?_
    refine gf_X4_24_3 hx hb hts hown hE hP 0 rfl rfl dX4_record_51 ?_
    refine lv_isub hx hb dX4_record_54 ?_
    refine lv_iconst (v := 1) hx hb dX4_record_55 (by decide) ?_
    refine lv_iadd hx hb dX4_record_56 ?_
    refine va_mmax hx hb (hml.trans hl.1.symm) hown (hts _ q_468) (hts _ q_469) (hts _ q_39) (hts _ q_470) (Nat.le_of_ble_eq_true rfl) (Nat.le_of_ble_eq_true rfl) (Nat.le_of_ble_eq_true rfl) (Nat.le_of_ble_eq_true rfl) dX4_record_57 ?_
    refine gcu_i (va_runV (As := [.int (if 0 < ((v_t_count - v_t_window) + 1) then ((v_t_count - v_t_window) + 1) else 0)]) (rest := [.int v_t_count, .ref a_t_setSizes]) ⟨hx, hb, hml, hown, hts⟩ (c_X4_pagesTouchedSince l (D := D) (kI := kI) (kZ := kZ) (kJ := kJ) (kD := kD) a_t a_t_pages a_t_setSizes a_t_latestTouch a_t_touchesAtDepth _ v_t_window v_t_count v_t_setSizeSum (upd v_t_latestTouch p1.toNatClampNeg v_t_count) (if 0 < ((v_t_count - v_t_window) + 1) then ((v_t_count - v_t_window) + 1) else 0) _ h) (k_X4_50_X4 hts hE _ ⟨Nat.le_of_ble_eq_true rfl, Nat.le_of_ble_eq_true rfl⟩) (gp_V (q0 := 0) hE hP hD [0, 3] rfl rfl rfl rfl rfl) rfl rfl hl.1 rfl (lv_room (Nat.le_of_ble_eq_true rfl)) dX4_record_60 ⟨Nat.le_of_ble_eq_true rfl, Nat.le_of_ble_eq_true rfl⟩) hP hD hS hA [0, 3] rfl rfl (fun _ => rfl) (fun r2 u H locs h hP hD hS => ?_)
    have hP : va_P D vwCl [(a_t, .inr (3, [.ref a_t_pages, .ref a_t_setSizes, .ref a_t_latestTouch, .ref a_t_touchesAtDepth, .int v_t_window, .int v_t_count, .int v_t_setSizeSum])), (a_t_pages, .inl (kI, 400, .inl (upd v_t_pages v_t_count.toNatClampNeg p1))), (a_t_setSizes, .inl (kI, 400, .inl v_t_setSizes)), (a_t_latestTouch, .inl (kI, 64, .inl (upd v_t_latestTouch p1.toNatClampNeg v_t_count))), (a_t_touchesAtDepth, .inl (kI, 64, .inl y1_0))] H := hP
    have hD : va_D A [(a_t, .inr (3, [.ref a_t_pages, .ref a_t_setSizes, .ref a_t_latestTouch, .ref a_t_touchesAtDepth, .int v_t_window, .int v_t_count, .int v_t_setSizeSum])), (a_t_pages, .inl (kI, 400, .inl (upd v_t_pages v_t_count.toNatClampNeg p1))), (a_t_setSizes, .inl (kI, 400, .inl v_t_setSizes)), (a_t_latestTouch, .inl (kI, 64, .inl (upd v_t_latestTouch p1.toNatClampNeg v_t_count))), (a_t_touchesAtDepth, .inl (kI, 64, .inl y1_0))] := hD
    obtain ⟨hi, h⟩ := h
    refine va_iast hx hb hE.1 hP hD hS 2 0 rfl rfl hi dX4_record_63 (fun H locs hP hD hS => ?_)
    have hP : va_P D vwCl [(a_t, .inr (3, [.ref a_t_pages, .ref a_t_setSizes, .ref a_t_latestTouch, .ref a_t_touchesAtDepth, .int v_t_window, .int v_t_count, .int v_t_setSizeSum])), (a_t_pages, .inl (kI, 400, .inl (upd v_t_pages v_t_count.toNatClampNeg p1))), (a_t_setSizes, .inl (kI, 400, .inl (upd v_t_setSizes v_t_count.toNatClampNeg r2))), (a_t_latestTouch, .inl (kI, 64, .inl (upd v_t_latestTouch p1.toNatClampNeg v_t_count))), (a_t_touchesAtDepth, .inl (kI, 64, .inl y1_0))] H := hP
    have hD : va_D A [(a_t, .inr (3, [.ref a_t_pages, .ref a_t_setSizes, .ref a_t_latestTouch, .ref a_t_touchesAtDepth, .int v_t_window, .int v_t_count, .int v_t_setSizeSum])), (a_t_pages, .inl (kI, 400, .inl (upd v_t_pages v_t_count.toNatClampNeg p1))), (a_t_setSizes, .inl (kI, 400, .inl (upd v_t_setSizes v_t_count.toNatClampNeg r2))), (a_t_latestTouch, .inl (kI, 64, .inl (upd v_t_latestTouch p1.toNatClampNeg v_t_count))), (a_t_touchesAtDepth, .inl (kI, 64, .inl y1_0))] := hD
    refine lv_aload_n hx hb dX4_record_64 rfl (lv_at hl 0 rfl) ?_
    refine lv_dup hx hb dX4_record_65 rfl ?_
    refine gf_X4_31_3 hx hb hts hown hE hP 0 rfl rfl dX4_record_66 ?_
    refine lv_aload_n hx hb dX4_record_69 rfl (lv_at hl 0 rfl) ?_
    refine gf_X4_15_3 hx hb hts hown hE hP 0 rfl rfl dX4_record_70 ?_
    refine lv_aload_n hx hb dX4_record_73 rfl (lv_at hl 0 rfl) ?_
    refine gf_X4_28_3 hx hb hts hown hE hP 0 rfl rfl dX4_record_74 ?_
    obtain ⟨hi, h⟩ := h
    refine va_iald hx hb hE.1 hP 2 0 rfl rfl hi dX4_record_77 ?_
    refine lv_iadd hx hb dX4_record_78 ?_
    refine pf_X4_31_3 hx hb hts hown hE hP hD hS 0 rfl (Nat.le_of_ble_eq_true rfl) dX4_record_79 (fun H locs hP hD hS => ?_)
    have hP : va_P D vwCl [(a_t, .inr (3, [.ref a_t_pages, .ref a_t_setSizes, .ref a_t_latestTouch, .ref a_t_touchesAtDepth, .int v_t_window, .int v_t_count, .int (v_t_setSizeSum + ((upd v_t_setSizes v_t_count.toNatClampNeg r2) v_t_count.toNatClampNeg))])), (a_t_pages, .inl (kI, 400, .inl (upd v_t_pages v_t_count.toNatClampNeg p1))), (a_t_setSizes, .inl (kI, 400, .inl (upd v_t_setSizes v_t_count.toNatClampNeg r2))), (a_t_latestTouch, .inl (kI, 64, .inl (upd v_t_latestTouch p1.toNatClampNeg v_t_count))), (a_t_touchesAtDepth, .inl (kI, 64, .inl y1_0))] H := hP
    have hD : va_D A [(a_t, .inr (3, [.ref a_t_pages, .ref a_t_setSizes, .ref a_t_latestTouch, .ref a_t_touchesAtDepth, .int v_t_window, .int v_t_count, .int (v_t_setSizeSum + ((upd v_t_setSizes v_t_count.toNatClampNeg r2) v_t_count.toNatClampNeg))])), (a_t_pages, .inl (kI, 400, .inl (upd v_t_pages v_t_count.toNatClampNeg p1))), (a_t_setSizes, .inl (kI, 400, .inl (upd v_t_setSizes v_t_count.toNatClampNeg r2))), (a_t_latestTouch, .inl (kI, 64, .inl (upd v_t_latestTouch p1.toNatClampNeg v_t_count))), (a_t_touchesAtDepth, .inl (kI, 64, .inl y1_0))] := hD
    refine lv_aload_n hx hb dX4_record_82 rfl (lv_at hl 0 rfl) ?_
    refine lv_dup hx hb dX4_record_83 rfl ?_
    refine gf_X4_28_3 hx hb hts hown hE hP 0 rfl rfl dX4_record_84 ?_
    refine lv_iconst (v := 1) hx hb dX4_record_87 (by decide) ?_
    refine lv_iadd hx hb dX4_record_88 ?_
    refine pf_X4_28_3 hx hb hts hown hE hP hD hS 0 rfl (Nat.le_of_ble_eq_true rfl) dX4_record_89 (fun H locs hP hD hS => ?_)
    have hP : va_P D vwCl [(a_t, .inr (3, [.ref a_t_pages, .ref a_t_setSizes, .ref a_t_latestTouch, .ref a_t_touchesAtDepth, .int v_t_window, .int (v_t_count + 1), .int (v_t_setSizeSum + ((upd v_t_setSizes v_t_count.toNatClampNeg r2) v_t_count.toNatClampNeg))])), (a_t_pages, .inl (kI, 400, .inl (upd v_t_pages v_t_count.toNatClampNeg p1))), (a_t_setSizes, .inl (kI, 400, .inl (upd v_t_setSizes v_t_count.toNatClampNeg r2))), (a_t_latestTouch, .inl (kI, 64, .inl (upd v_t_latestTouch p1.toNatClampNeg v_t_count))), (a_t_touchesAtDepth, .inl (kI, 64, .inl y1_0))] H := hP
    have hD : va_D A [(a_t, .inr (3, [.ref a_t_pages, .ref a_t_setSizes, .ref a_t_latestTouch, .ref a_t_touchesAtDepth, .int v_t_window, .int (v_t_count + 1), .int (v_t_setSizeSum + ((upd v_t_setSizes v_t_count.toNatClampNeg r2) v_t_count.toNatClampNeg))])), (a_t_pages, .inl (kI, 400, .inl (upd v_t_pages v_t_count.toNatClampNeg p1))), (a_t_setSizes, .inl (kI, 400, .inl (upd v_t_setSizes v_t_count.toNatClampNeg r2))), (a_t_latestTouch, .inl (kI, 64, .inl (upd v_t_latestTouch p1.toNatClampNeg v_t_count))), (a_t_touchesAtDepth, .inl (kI, 64, .inl y1_0))] := hD
    exact hret _ _ _ _ ((((v_t_count + 1), (v_t_setSizeSum + ((upd v_t_setSizes v_t_count.toNatClampNeg r2) v_t_count.toNatClampNeg))), (upd v_t_pages v_t_count.toNatClampNeg p1)), (((upd v_t_setSizes v_t_count.toNatClampNeg r2), (upd v_t_latestTouch p1.toNatClampNeg v_t_count)), y1_0)) dX4_record_92 h hP hS
  · have h := h.2 c
    exact hret _ _ _ _ (((v_t_count, v_t_setSizeSum), v_t_pages), ((v_t_setSizes, v_t_latestTouch), v_t_touchesAtDepth)) dX4_record_10 h hP hS
set_option maxHeartbeats 4000000 in
set_option maxRecDepth 100000 in
theorem c_X4_faultsOfRecency (l : Launch) {D : va_G} {kI kZ kJ kD : ClassId} (a_t a_t_pages a_t_setSizes a_t_latestTouch a_t_touchesAtDepth : Nat) (sz : Nat) (v_t_window : Int32) (v_t_count : Int32) (v_t_setSizeSum : Int32) (v_t_touchesAtDepth : Nat → Int32) (p1 : Int32) (Q : Int32 → Prop) (h : wR_X4_faultsOfRecency v_t_count v_t_touchesAtDepth p1 Q) : Met l yX4_faultsOfRecency (wM yX4_faultsOfRecency cX4_faultsOfRecency 4 (some .int)) ({ frames := 0, cells := 0, slots := 0, locals := 0 } : Room) (va_Pc [.ref a_t, .int p1] (gS D kI kZ kJ kD [(a_t, .inr (3, [.ref a_t_pages, .ref a_t_setSizes, .ref a_t_latestTouch, .ref a_t_touchesAtDepth, .int v_t_window, .int v_t_count, .int v_t_setSizeSum])), (a_t_touchesAtDepth, .inl (kI, 64, .inl v_t_touchesAtDepth))] sz)) (va_Qi (S := Unit) (fun r u => Q r ) (fun u t => va_P D vwCl [(a_t, .inr (3, [.ref a_t_pages, .ref a_t_setSizes, .ref a_t_latestTouch, .ref a_t_touchesAtDepth, .int v_t_window, .int v_t_count, .int v_t_setSizeSum])), (a_t_touchesAtDepth, .inl (kI, 64, .inl v_t_touchesAtDepth))] t.heap) (va_A [(a_t, .inr (3, [.ref a_t_pages, .ref a_t_setSizes, .ref a_t_latestTouch, .ref a_t_touchesAtDepth, .int v_t_window, .int v_t_count, .int v_t_setSizeSum])), (a_t_touchesAtDepth, .inl (kI, 64, .inl v_t_touchesAtDepth))] sz)) 0 0 (va_A [(a_t, .inr (3, [.ref a_t_pages, .ref a_t_setSizes, .ref a_t_latestTouch, .ref a_t_touchesAtDepth, .int v_t_window, .int v_t_count, .int v_t_setSizeSum])), (a_t_touchesAtDepth, .inl (kI, 64, .inl v_t_touchesAtDepth))] sz) := by
  refine g_met_i (own := RX4) (y := yX4_faultsOfRecency) (by decide) rfl (Nat.le_of_ble_eq_true rfl) ?_
  intro p e s m args below meth c A QQ hx hb hml hts hown hE hA hP hD hS hret
  have B_30 : ∀  (x2 : Int32), wR_X4_faultsOfRecency_30 v_t_count v_t_touchesAtDepth p1 Q  x2 → gW p l e ({ frames := 0, cells := 0, slots := 0, locals := 0 } : Room) s m args below meth c QQ A D 4 [(a_t, .inr (3, [.ref a_t_pages, .ref a_t_setSizes, .ref a_t_latestTouch, .ref a_t_touchesAtDepth, .int v_t_window, .int v_t_count, .int v_t_setSizeSum])), (a_t_touchesAtDepth, .inl (kI, 64, .inl v_t_touchesAtDepth))] [(0, .ref a_t), (2, .int x2)] 30 [] := by
    intro  x2 h
    intro H locs hP hD hS ls hl
    refine lv_aload_n hx hb dX4_faultsOfRecency_30 rfl (lv_at hl 0 rfl) ?_
    refine gf_X4_28_3 hx hb hts hown hE hP 0 rfl rfl dX4_faultsOfRecency_31 ?_
    refine lv_iload_n hx hb dX4_faultsOfRecency_34 rfl (lv_at hl 1 rfl) ?_
    refine lv_isub hx hb dX4_faultsOfRecency_35 ?_
    exact hret _ _ _ _ (v_t_count - x2) () dX4_faultsOfRecency_36 h hP hS
  have B_4 : ∀  (x2 : Int32) (x3 : Int32), wR_X4_faultsOfRecency_4 v_t_count v_t_touchesAtDepth p1 Q  x2 x3 → gW p l e ({ frames := 0, cells := 0, slots := 0, locals := 0 } : Room) s m args below meth c QQ A D 4 [(a_t, .inr (3, [.ref a_t_pages, .ref a_t_setSizes, .ref a_t_latestTouch, .ref a_t_touchesAtDepth, .int v_t_window, .int v_t_count, .int v_t_setSizeSum])), (a_t_touchesAtDepth, .inl (kI, 64, .inl v_t_touchesAtDepth))] [(0, .ref a_t), (1, .int p1), (2, .int x2), (3, .int x3)] 4 [] := by
    intro  x2 x3 h
    refine h (fun (x2 : Int32) (x3 : Int32) => gW p l e ({ frames := 0, cells := 0, slots := 0, locals := 0 } : Room) s m args below meth c QQ A D 4 [(a_t, .inr (3, [.ref a_t_pages, .ref a_t_setSizes, .ref a_t_latestTouch, .ref a_t_touchesAtDepth, .int v_t_window, .int v_t_count, .int v_t_setSizeSum])), (a_t_touchesAtDepth, .inl (kI, 64, .inl v_t_touchesAtDepth))] [(0, .ref a_t), (1, .int p1), (2, .int x2), (3, .int x3)] 4 []) (fun x2 x3 h => ?_)
    have hI_4 : ∀ (x2 : Int32) (x3 : Int32), (fun (x2 : Int32) (x3 : Int32) => gW p l e ({ frames := 0, cells := 0, slots := 0, locals := 0 } : Room) s m args below meth c QQ A D 4 [(a_t, .inr (3, [.ref a_t_pages, .ref a_t_setSizes, .ref a_t_latestTouch, .ref a_t_touchesAtDepth, .int v_t_window, .int v_t_count, .int v_t_setSizeSum])), (a_t_touchesAtDepth, .inl (kI, 64, .inl v_t_touchesAtDepth))] [(0, .ref a_t), (1, .int p1), (2, .int x2), (3, .int x3)] 4 []) x2 x3 → gW p l e ({ frames := 0, cells := 0, slots := 0, locals := 0 } : Room) s m args below meth c QQ A D 4 [(a_t, .inr (3, [.ref a_t_pages, .ref a_t_setSizes, .ref a_t_latestTouch, .ref a_t_touchesAtDepth, .int v_t_window, .int v_t_count, .int v_t_setSizeSum])), (a_t_touchesAtDepth, .inl (kI, 64, .inl v_t_touchesAtDepth))] [(0, .ref a_t), (1, .int p1), (2, .int x2), (3, .int x3)] 4 [] := fun _ _ h => h
    intro H locs hP hD hS ls hl
    refine lv_iload_n hx hb dX4_faultsOfRecency_4 rfl (lv_at hl 3 rfl) ?_
    refine lv_iload_n hx hb dX4_faultsOfRecency_5 rfl (lv_at hl 1 rfl) ?_
    refine lv_icmp_ge (tgt := 30) hx hb dX4_faultsOfRecency_6 (by decide) (fun c => ?_) (fun c => ?_)
    · have h := h.1 c
      exact B_30  _ h _ _ hP hD hS _ (lv_sub hl [0, 2] rfl)
    · have h := h.2 c
      refine lv_iload_n hx hb dX4_faultsOfRecency_9 rfl (lv_at hl 3 rfl) ?_
      refine lv_bipush (v := 64) hx hb dX4_faultsOfRecency_10 (by decide) ?_
      refine lv_icmp_ge (tgt := 30) hx hb dX4_faultsOfRecency_12 (by decide) (fun c => ?_) (fun c => ?_)
      · have h := h.1 c
        exact B_30  _ h _ _ hP hD hS _ (lv_sub hl [0, 2] rfl)
      · have h := h.2 c
        refine lv_iload_n hx hb dX4_faultsOfRecency_15 rfl (lv_at hl 2 rfl) ?_
        refine lv_aload_n hx hb dX4_faultsOfRecency_16 rfl (lv_at hl 0 rfl) ?_
        refine gf_X4_21_3 hx hb hts hown hE hP 0 rfl rfl dX4_faultsOfRecency_17 ?_
        refine lv_iload_n hx hb dX4_faultsOfRecency_20 rfl (lv_at hl 3 rfl) ?_
        obtain ⟨hi, h⟩ := h
        refine va_iald hx hb hE.1 hP 1 0 rfl rfl hi dX4_faultsOfRecency_21 ?_
        refine lv_iadd hx hb dX4_faultsOfRecency_22 ?_
        refine lv_istore_n (lv' := [(2, .int (x2 + (v_t_touchesAtDepth x3.toNatClampNeg))), (0, .ref a_t), (1, .int p1), (3, .int x3)]) hx hb dX4_faultsOfRecency_23 rfl hl (by decide) rfl (fun ls hl => ?_)
        refine lv_iinc (v := (x3 + 1)) (lv' := [(3, .int (x3 + 1)), (2, .int (x2 + (v_t_touchesAtDepth x3.toNatClampNeg))), (0, .ref a_t), (1, .int p1)]) hx hb dX4_faultsOfRecency_24 hl (k := 3) rfl rfl (by decide) rfl (fun ls hl => ?_)
        refine lv_goto (tgt := 4) hx hb dX4_faultsOfRecency_27 (by decide) ?_
        exact hI_4 _ _ h _ _ hP hD hS _ (lv_sub hl [2, 3, 1, 0] rfl)
  intro ls hl
  have hl : lv_has ls 4 [(0, .ref a_t), (1, .int p1)] := hl
  refine lv_iconst (v := 0) hx hb dX4_faultsOfRecency_0 (by decide) ?_
  refine lv_istore_n (lv' := [(2, .int 0), (0, .ref a_t), (1, .int p1)]) hx hb dX4_faultsOfRecency_1 rfl hl (by decide) rfl (fun ls hl => ?_)
  refine lv_iconst (v := 0) hx hb dX4_faultsOfRecency_2 (by decide) ?_
  refine lv_istore_n (lv' := [(3, .int 0), (2, .int 0), (0, .ref a_t), (1, .int p1)]) hx hb dX4_faultsOfRecency_3 rfl hl (by decide) rfl (fun ls hl => ?_)
  exact B_4  _ _ h _ _ hP hD hS _ (lv_sub hl [2, 3, 1, 0] rfl)
set_option maxHeartbeats 4000000 in
set_option maxRecDepth 100000 in
theorem c_X3_findNextTouches (l : Launch) {D : va_G} {kI kZ kJ kD : ClassId} (a_t a_t_nextTouch a_t_nextOfPage a_t_nextOfFrame a_b1 a_b1_pages a_b1_setSizes a_b1_latestTouch a_b1_touchesAtDepth : Nat) (sz : Nat) (v_t_nextTouch : Nat → Int32) (v_t_nextOfPage : Nat → Int32) (v_b1_window : Int32) (v_b1_count : Int32) (v_b1_setSizeSum : Int32) (v_b1_pages : Nat → Int32) (Q : (Nat → Int32) → (Nat → Int32) → Prop) (h : wR_X3_findNextTouches v_b1_count v_b1_pages v_t_nextTouch v_t_nextOfPage Q) : Met l yX3_findNextTouches (wM yX3_findNextTouches cX3_findNextTouches 4 none) ({ frames := 1, cells := 0, slots := 0, locals := 23 } : Room) (va_Pc [.ref a_t, .ref a_b1] (gS D kI kZ kJ kD [(a_t, .inr (2, [.ref a_t_nextTouch, .ref a_t_nextOfPage, .ref a_t_nextOfFrame])), (a_t_nextTouch, .inl (kI, 400, .inl v_t_nextTouch)), (a_t_nextOfPage, .inl (kI, 64, .inl v_t_nextOfPage)), (a_b1, .inr (3, [.ref a_b1_pages, .ref a_b1_setSizes, .ref a_b1_latestTouch, .ref a_b1_touchesAtDepth, .int v_b1_window, .int v_b1_count, .int v_b1_setSizeSum])), (a_b1_pages, .inl (kI, 400, .inl v_b1_pages))] sz)) (va_Qv (S := ((Nat → Int32) × (Nat → Int32))) (fun u => Q u.1 u.2) (fun u t => va_P D vwCl [(a_t, .inr (2, [.ref a_t_nextTouch, .ref a_t_nextOfPage, .ref a_t_nextOfFrame])), (a_t_nextTouch, .inl (kI, 400, .inl u.1)), (a_t_nextOfPage, .inl (kI, 64, .inl u.2)), (a_b1, .inr (3, [.ref a_b1_pages, .ref a_b1_setSizes, .ref a_b1_latestTouch, .ref a_b1_touchesAtDepth, .int v_b1_window, .int v_b1_count, .int v_b1_setSizeSum])), (a_b1_pages, .inl (kI, 400, .inl v_b1_pages))] t.heap) (va_A [(a_t, .inr (2, [.ref a_t_nextTouch, .ref a_t_nextOfPage, .ref a_t_nextOfFrame])), (a_t_nextTouch, .inl (kI, 400, .inl v_t_nextTouch)), (a_t_nextOfPage, .inl (kI, 64, .inl v_t_nextOfPage)), (a_b1, .inr (3, [.ref a_b1_pages, .ref a_b1_setSizes, .ref a_b1_latestTouch, .ref a_b1_touchesAtDepth, .int v_b1_window, .int v_b1_count, .int v_b1_setSizeSum])), (a_b1_pages, .inl (kI, 400, .inl v_b1_pages))] sz)) 0 0 (va_A [(a_t, .inr (2, [.ref a_t_nextTouch, .ref a_t_nextOfPage, .ref a_t_nextOfFrame])), (a_t_nextTouch, .inl (kI, 400, .inl v_t_nextTouch)), (a_t_nextOfPage, .inl (kI, 64, .inl v_t_nextOfPage)), (a_b1, .inr (3, [.ref a_b1_pages, .ref a_b1_setSizes, .ref a_b1_latestTouch, .ref a_b1_touchesAtDepth, .int v_b1_window, .int v_b1_count, .int v_b1_setSizeSum])), (a_b1_pages, .inl (kI, 400, .inl v_b1_pages))] sz) := by
  refine g_met_v (own := RX3) (y := yX3_findNextTouches) (by decide) rfl (Nat.le_of_ble_eq_true rfl) ?_
  intro p e s m args below meth c A QQ hx hb hml hts hown hE hA hP hD hS hret
  have B_17 : ∀  (x2 : Int32) (v_t_nextTouch : Nat → Int32) (v_t_nextOfPage : Nat → Int32), wR_X3_findNextTouches_17 v_b1_count v_b1_pages Q  x2 v_t_nextTouch v_t_nextOfPage → gW p l e ({ frames := 1, cells := 0, slots := 0, locals := 23 } : Room) s m args below meth c QQ A D 4 [(a_t, .inr (2, [.ref a_t_nextTouch, .ref a_t_nextOfPage, .ref a_t_nextOfFrame])), (a_t_nextTouch, .inl (kI, 400, .inl v_t_nextTouch)), (a_t_nextOfPage, .inl (kI, 64, .inl v_t_nextOfPage)), (a_b1, .inr (3, [.ref a_b1_pages, .ref a_b1_setSizes, .ref a_b1_latestTouch, .ref a_b1_touchesAtDepth, .int v_b1_window, .int v_b1_count, .int v_b1_setSizeSum])), (a_b1_pages, .inl (kI, 400, .inl v_b1_pages))] [(0, .ref a_t), (1, .ref a_b1), (2, .int x2)] 17 [] := by
    intro  x2 v_t_nextTouch v_t_nextOfPage h
    refine h (fun (x2 : Int32) (v_t_nextTouch : Nat → Int32) (v_t_nextOfPage : Nat → Int32) => gW p l e ({ frames := 1, cells := 0, slots := 0, locals := 23 } : Room) s m args below meth c QQ A D 4 [(a_t, .inr (2, [.ref a_t_nextTouch, .ref a_t_nextOfPage, .ref a_t_nextOfFrame])), (a_t_nextTouch, .inl (kI, 400, .inl v_t_nextTouch)), (a_t_nextOfPage, .inl (kI, 64, .inl v_t_nextOfPage)), (a_b1, .inr (3, [.ref a_b1_pages, .ref a_b1_setSizes, .ref a_b1_latestTouch, .ref a_b1_touchesAtDepth, .int v_b1_window, .int v_b1_count, .int v_b1_setSizeSum])), (a_b1_pages, .inl (kI, 400, .inl v_b1_pages))] [(0, .ref a_t), (1, .ref a_b1), (2, .int x2)] 17 []) (fun x2 v_t_nextTouch v_t_nextOfPage h => ?_)
    have hI_17 : ∀ (x2 : Int32) (v_t_nextTouch : Nat → Int32) (v_t_nextOfPage : Nat → Int32), (fun (x2 : Int32) (v_t_nextTouch : Nat → Int32) (v_t_nextOfPage : Nat → Int32) => gW p l e ({ frames := 1, cells := 0, slots := 0, locals := 23 } : Room) s m args below meth c QQ A D 4 [(a_t, .inr (2, [.ref a_t_nextTouch, .ref a_t_nextOfPage, .ref a_t_nextOfFrame])), (a_t_nextTouch, .inl (kI, 400, .inl v_t_nextTouch)), (a_t_nextOfPage, .inl (kI, 64, .inl v_t_nextOfPage)), (a_b1, .inr (3, [.ref a_b1_pages, .ref a_b1_setSizes, .ref a_b1_latestTouch, .ref a_b1_touchesAtDepth, .int v_b1_window, .int v_b1_count, .int v_b1_setSizeSum])), (a_b1_pages, .inl (kI, 400, .inl v_b1_pages))] [(0, .ref a_t), (1, .ref a_b1), (2, .int x2)] 17 []) x2 v_t_nextTouch v_t_nextOfPage → gW p l e ({ frames := 1, cells := 0, slots := 0, locals := 23 } : Room) s m args below meth c QQ A D 4 [(a_t, .inr (2, [.ref a_t_nextTouch, .ref a_t_nextOfPage, .ref a_t_nextOfFrame])), (a_t_nextTouch, .inl (kI, 400, .inl v_t_nextTouch)), (a_t_nextOfPage, .inl (kI, 64, .inl v_t_nextOfPage)), (a_b1, .inr (3, [.ref a_b1_pages, .ref a_b1_setSizes, .ref a_b1_latestTouch, .ref a_b1_touchesAtDepth, .int v_b1_window, .int v_b1_count, .int v_b1_setSizeSum])), (a_b1_pages, .inl (kI, 400, .inl v_b1_pages))] [(0, .ref a_t), (1, .ref a_b1), (2, .int x2)] 17 [] := fun _ _ _ h => h
    intro H locs hP hD hS ls hl
    refine lv_iload_n hx hb dX3_findNextTouches_17 rfl (lv_at hl 2 rfl) ?_
    refine lv_if_lt (tgt := 53) hx hb dX3_findNextTouches_18 (by decide) (fun c => ?_) (fun c => ?_)
    · have h := h.1 c
      exact hret _ _ _ _ (v_t_nextTouch, v_t_nextOfPage) dX3_findNextTouches_53 h hP hS
    · have h := h.2 c
      refine lv_aload_n hx hb dX3_findNextTouches_21 rfl (lv_at hl 1 rfl) ?_
      refine gf_X3_50_3 hx hb hts hown hE hP 3 rfl rfl dX3_findNextTouches_22 ?_
      refine lv_iload_n hx hb dX3_findNextTouches_25 rfl (lv_at hl 2 rfl) ?_
      obtain ⟨hi, h⟩ := h
      refine va_iald hx hb hE.1 hP 4 0 rfl rfl hi dX3_findNextTouches_26 ?_
      refine lv_istore_n (lv' := [(3, .int (v_b1_pages x2.toNatClampNeg)), (0, .ref a_t), (1, .ref a_b1), (2, .int x2)]) hx hb dX3_findNextTouches_27 rfl hl (by decide) rfl (fun ls hl => ?_)
      refine lv_aload_n hx hb dX3_findNextTouches_28 rfl (lv_at hl 1 rfl) ?_
      refine gf_X3_9_2 hx hb hts hown hE hP 0 rfl rfl dX3_findNextTouches_29 ?_
      refine lv_iload_n hx hb dX3_findNextTouches_32 rfl (lv_at hl 3 rfl) ?_
      refine lv_aload_n hx hb dX3_findNextTouches_33 rfl (lv_at hl 1 rfl) ?_
      refine gf_X3_15_2 hx hb hts hown hE hP 0 rfl rfl dX3_findNextTouches_34 ?_
      refine lv_iload_n hx hb dX3_findNextTouches_37 rfl (lv_at hl 0 rfl) ?_
      obtain ⟨hi, h⟩ := h
      refine va_iald hx hb hE.1 hP 2 0 rfl rfl hi dX3_findNextTouches_38 ?_
      obtain ⟨hi, h⟩ := h
      refine va_iast hx hb hE.1 hP hD hS 1 0 rfl rfl hi dX3_findNextTouches_39 (fun H locs hP hD hS => ?_)
      have hP : va_P D vwCl [(a_t, .inr (2, [.ref a_t_nextTouch, .ref a_t_nextOfPage, .ref a_t_nextOfFrame])), (a_t_nextTouch, .inl (kI, 400, .inl (upd v_t_nextTouch x2.toNatClampNeg (v_t_nextOfPage (v_b1_pages x2.toNatClampNeg).toNatClampNeg)))), (a_t_nextOfPage, .inl (kI, 64, .inl v_t_nextOfPage)), (a_b1, .inr (3, [.ref a_b1_pages, .ref a_b1_setSizes, .ref a_b1_latestTouch, .ref a_b1_touchesAtDepth, .int v_b1_window, .int v_b1_count, .int v_b1_setSizeSum])), (a_b1_pages, .inl (kI, 400, .inl v_b1_pages))] H := hP
      have hD : va_D A [(a_t, .inr (2, [.ref a_t_nextTouch, .ref a_t_nextOfPage, .ref a_t_nextOfFrame])), (a_t_nextTouch, .inl (kI, 400, .inl (upd v_t_nextTouch x2.toNatClampNeg (v_t_nextOfPage (v_b1_pages x2.toNatClampNeg).toNatClampNeg)))), (a_t_nextOfPage, .inl (kI, 64, .inl v_t_nextOfPage)), (a_b1, .inr (3, [.ref a_b1_pages, .ref a_b1_setSizes, .ref a_b1_latestTouch, .ref a_b1_touchesAtDepth, .int v_b1_window, .int v_b1_count, .int v_b1_setSizeSum])), (a_b1_pages, .inl (kI, 400, .inl v_b1_pages))] := hD
      refine lv_aload_n hx hb dX3_findNextTouches_40 rfl (lv_at hl 1 rfl) ?_
      refine gf_X3_15_2 hx hb hts hown hE hP 0 rfl rfl dX3_findNextTouches_41 ?_
      refine lv_iload_n hx hb dX3_findNextTouches_44 rfl (lv_at hl 0 rfl) ?_
      refine lv_iload_n hx hb dX3_findNextTouches_45 rfl (lv_at hl 3 rfl) ?_
      obtain ⟨hi, h⟩ := h
      refine va_iast hx hb hE.1 hP hD hS 2 0 rfl rfl hi dX3_findNextTouches_46 (fun H locs hP hD hS => ?_)
      have hP : va_P D vwCl [(a_t, .inr (2, [.ref a_t_nextTouch, .ref a_t_nextOfPage, .ref a_t_nextOfFrame])), (a_t_nextTouch, .inl (kI, 400, .inl (upd v_t_nextTouch x2.toNatClampNeg (v_t_nextOfPage (v_b1_pages x2.toNatClampNeg).toNatClampNeg)))), (a_t_nextOfPage, .inl (kI, 64, .inl (upd v_t_nextOfPage (v_b1_pages x2.toNatClampNeg).toNatClampNeg x2))), (a_b1, .inr (3, [.ref a_b1_pages, .ref a_b1_setSizes, .ref a_b1_latestTouch, .ref a_b1_touchesAtDepth, .int v_b1_window, .int v_b1_count, .int v_b1_setSizeSum])), (a_b1_pages, .inl (kI, 400, .inl v_b1_pages))] H := hP
      have hD : va_D A [(a_t, .inr (2, [.ref a_t_nextTouch, .ref a_t_nextOfPage, .ref a_t_nextOfFrame])), (a_t_nextTouch, .inl (kI, 400, .inl (upd v_t_nextTouch x2.toNatClampNeg (v_t_nextOfPage (v_b1_pages x2.toNatClampNeg).toNatClampNeg)))), (a_t_nextOfPage, .inl (kI, 64, .inl (upd v_t_nextOfPage (v_b1_pages x2.toNatClampNeg).toNatClampNeg x2))), (a_b1, .inr (3, [.ref a_b1_pages, .ref a_b1_setSizes, .ref a_b1_latestTouch, .ref a_b1_touchesAtDepth, .int v_b1_window, .int v_b1_count, .int v_b1_setSizeSum])), (a_b1_pages, .inl (kI, 400, .inl v_b1_pages))] := hD
      refine lv_iinc (v := (x2 + (-1))) (lv' := [(2, .int (x2 + (-1))), (3, .int (v_b1_pages x2.toNatClampNeg)), (0, .ref a_t), (1, .ref a_b1)]) hx hb dX3_findNextTouches_47 hl (k := 3) rfl rfl (by decide) rfl (fun ls hl => ?_)
      refine lv_goto (tgt := 17) hx hb dX3_findNextTouches_50 (by decide) ?_
      exact hI_17 _ _ _ h _ _ hP hD hS _ (lv_sub hl [2, 3, 0] rfl)
  intro ls hl
  have hl : lv_has ls 4 [(0, .ref a_t), (1, .ref a_b1)] := hl
  refine lv_aload_n hx hb dX3_findNextTouches_0 rfl (lv_at hl 0 rfl) ?_
  refine gf_X3_15_2 hx hb hts hown hE hP 0 rfl rfl dX3_findNextTouches_1 ?_
  refine lv_sipush (v := 400) hx hb dX3_findNextTouches_4 (by decide) ?_
  refine gcu_v (va_runS (As := [.ref a_t_nextOfPage, .int 400]) (rest := []) ⟨hx, hb, hml, hown, hts⟩ (c_J7_fill_53178 l (D := D) (kI := kI) (kZ := kZ) (kJ := kJ) (kD := kD) a_t_nextOfPage 64 _ v_t_nextOfPage 400 _ h) (k_X3_44 hts hE _ ⟨Nat.le_of_ble_eq_true rfl, Nat.le_of_ble_eq_true rfl⟩) (gp_S hE hP hD [2] rfl rfl) rfl rfl hl.1 rfl (lv_room (Nat.le_of_ble_eq_true rfl)) dX3_findNextTouches_7 ⟨Nat.le_of_ble_eq_true rfl, Nat.le_of_ble_eq_true rfl⟩) hP hD hS hA [2] rfl rfl (fun _ => rfl) (fun y1_0 H locs h hP hD hS => ?_)
  have hP : va_P D vwCl [(a_t, .inr (2, [.ref a_t_nextTouch, .ref a_t_nextOfPage, .ref a_t_nextOfFrame])), (a_t_nextTouch, .inl (kI, 400, .inl v_t_nextTouch)), (a_t_nextOfPage, .inl (kI, 64, .inl y1_0)), (a_b1, .inr (3, [.ref a_b1_pages, .ref a_b1_setSizes, .ref a_b1_latestTouch, .ref a_b1_touchesAtDepth, .int v_b1_window, .int v_b1_count, .int v_b1_setSizeSum])), (a_b1_pages, .inl (kI, 400, .inl v_b1_pages))] H := hP
  have hD : va_D A [(a_t, .inr (2, [.ref a_t_nextTouch, .ref a_t_nextOfPage, .ref a_t_nextOfFrame])), (a_t_nextTouch, .inl (kI, 400, .inl v_t_nextTouch)), (a_t_nextOfPage, .inl (kI, 64, .inl y1_0)), (a_b1, .inr (3, [.ref a_b1_pages, .ref a_b1_setSizes, .ref a_b1_latestTouch, .ref a_b1_touchesAtDepth, .int v_b1_window, .int v_b1_count, .int v_b1_setSizeSum])), (a_b1_pages, .inl (kI, 400, .inl v_b1_pages))] := hD
  refine lv_aload_n hx hb dX3_findNextTouches_10 rfl (lv_at hl 1 rfl) ?_
  refine gf_X3_25_3 hx hb hts hown hE hP 3 rfl rfl dX3_findNextTouches_11 ?_
  refine lv_iconst (v := 1) hx hb dX3_findNextTouches_14 (by decide) ?_
  refine lv_isub hx hb dX3_findNextTouches_15 ?_
  refine lv_istore_n (lv' := [(2, .int (v_b1_count - 1)), (0, .ref a_t), (1, .ref a_b1)]) hx hb dX3_findNextTouches_16 rfl hl (by decide) rfl (fun ls hl => ?_)
  exact B_17  _ _ _ h _ _ hP hD hS _ (lv_sub hl [1, 2, 0] rfl)
set_option maxHeartbeats 4000000 in
set_option maxRecDepth 100000 in
theorem c_X3_frameWaitingFor (l : Launch) {D : va_G} {kI kZ kJ kD : ClassId} (a_t a_t_nextTouch a_t_nextOfPage a_t_nextOfFrame : Nat) (sz : Nat) (v_t_nextOfFrame : Nat → Int32) (p1 : Int32) (p2 : Int32) (Q : Int32 → Prop) (h : wR_X3_frameWaitingFor v_t_nextOfFrame p1 p2 Q) : Met l yX3_frameWaitingFor (wM yX3_frameWaitingFor cX3_frameWaitingFor 4 (some .int)) ({ frames := 0, cells := 0, slots := 0, locals := 0 } : Room) (va_Pc [.ref a_t, .int p1, .int p2] (gS D kI kZ kJ kD [(a_t, .inr (2, [.ref a_t_nextTouch, .ref a_t_nextOfPage, .ref a_t_nextOfFrame])), (a_t_nextOfFrame, .inl (kI, 16, .inl v_t_nextOfFrame))] sz)) (va_Qi (S := Unit) (fun r u => Q r ) (fun u t => va_P D vwCl [(a_t, .inr (2, [.ref a_t_nextTouch, .ref a_t_nextOfPage, .ref a_t_nextOfFrame])), (a_t_nextOfFrame, .inl (kI, 16, .inl v_t_nextOfFrame))] t.heap) (va_A [(a_t, .inr (2, [.ref a_t_nextTouch, .ref a_t_nextOfPage, .ref a_t_nextOfFrame])), (a_t_nextOfFrame, .inl (kI, 16, .inl v_t_nextOfFrame))] sz)) 0 0 (va_A [(a_t, .inr (2, [.ref a_t_nextTouch, .ref a_t_nextOfPage, .ref a_t_nextOfFrame])), (a_t_nextOfFrame, .inl (kI, 16, .inl v_t_nextOfFrame))] sz) := by
  refine g_met_i (own := RX3) (y := yX3_frameWaitingFor) (by decide) rfl (Nat.le_of_ble_eq_true rfl) ?_
  intro p e s m args below meth c A QQ hx hb hml hts hown hE hA hP hD hS hret
  have B_2 : ∀  (x3 : Int32), wR_X3_frameWaitingFor_2 v_t_nextOfFrame p1 p2 Q  x3 → gW p l e ({ frames := 0, cells := 0, slots := 0, locals := 0 } : Room) s m args below meth c QQ A D 4 [(a_t, .inr (2, [.ref a_t_nextTouch, .ref a_t_nextOfPage, .ref a_t_nextOfFrame])), (a_t_nextOfFrame, .inl (kI, 16, .inl v_t_nextOfFrame))] [(0, .ref a_t), (1, .int p1), (2, .int p2), (3, .int x3)] 2 [] := by
    intro  x3 h
    refine h (fun (x3 : Int32) => gW p l e ({ frames := 0, cells := 0, slots := 0, locals := 0 } : Room) s m args below meth c QQ A D 4 [(a_t, .inr (2, [.ref a_t_nextTouch, .ref a_t_nextOfPage, .ref a_t_nextOfFrame])), (a_t_nextOfFrame, .inl (kI, 16, .inl v_t_nextOfFrame))] [(0, .ref a_t), (1, .int p1), (2, .int p2), (3, .int x3)] 2 []) (fun x3 h => ?_)
    have hI_2 : ∀ (x3 : Int32), (fun (x3 : Int32) => gW p l e ({ frames := 0, cells := 0, slots := 0, locals := 0 } : Room) s m args below meth c QQ A D 4 [(a_t, .inr (2, [.ref a_t_nextTouch, .ref a_t_nextOfPage, .ref a_t_nextOfFrame])), (a_t_nextOfFrame, .inl (kI, 16, .inl v_t_nextOfFrame))] [(0, .ref a_t), (1, .int p1), (2, .int p2), (3, .int x3)] 2 []) x3 → gW p l e ({ frames := 0, cells := 0, slots := 0, locals := 0 } : Room) s m args below meth c QQ A D 4 [(a_t, .inr (2, [.ref a_t_nextTouch, .ref a_t_nextOfPage, .ref a_t_nextOfFrame])), (a_t_nextOfFrame, .inl (kI, 16, .inl v_t_nextOfFrame))] [(0, .ref a_t), (1, .int p1), (2, .int p2), (3, .int x3)] 2 [] := fun _ h => h
    intro H locs hP hD hS ls hl
    refine lv_iload_n hx hb dX3_frameWaitingFor_2 rfl (lv_at hl 3 rfl) ?_
    refine lv_iload_n hx hb dX3_frameWaitingFor_3 rfl (lv_at hl 2 rfl) ?_
    refine lv_icmp_ge (tgt := 25) hx hb dX3_frameWaitingFor_4 (by decide) (fun c => ?_) (fun c => ?_)
    · have h := h.1 c
      refine lv_iconst (v := (-1)) hx hb dX3_frameWaitingFor_25 (by decide) ?_
      exact hret _ _ _ _ (-1) () dX3_frameWaitingFor_26 h hP hS
    · have h := h.2 c
      refine lv_aload_n hx hb dX3_frameWaitingFor_7 rfl (lv_at hl 0 rfl) ?_
      refine gf_X3_18_2 hx hb hts hown hE hP 0 rfl rfl dX3_frameWaitingFor_8 ?_
      refine lv_iload_n hx hb dX3_frameWaitingFor_11 rfl (lv_at hl 3 rfl) ?_
      obtain ⟨hi, h⟩ := h
      refine va_iald hx hb hE.1 hP 1 0 rfl rfl hi dX3_frameWaitingFor_12 ?_
      refine lv_iload_n hx hb dX3_frameWaitingFor_13 rfl (lv_at hl 1 rfl) ?_
      refine lv_icmp_ne (tgt := 19) hx hb dX3_frameWaitingFor_14 (by decide) (fun c => ?_) (fun c => ?_)
      · have h := h.1 c
        refine lv_iinc (v := (x3 + 1)) (lv' := [(3, .int (x3 + 1)), (0, .ref a_t), (1, .int p1), (2, .int p2)]) hx hb dX3_frameWaitingFor_19 hl (k := 3) rfl rfl (by decide) rfl (fun ls hl => ?_)
        refine lv_goto (tgt := 2) hx hb dX3_frameWaitingFor_22 (by decide) ?_
        exact hI_2 _ h _ _ hP hD hS _ (lv_sub hl [1, 2, 3, 0] rfl)
      · have h := h.2 c
        refine lv_iload_n hx hb dX3_frameWaitingFor_17 rfl (lv_at hl 3 rfl) ?_
        exact hret _ _ _ _ x3 () dX3_frameWaitingFor_18 h hP hS
  intro ls hl
  have hl : lv_has ls 4 [(0, .ref a_t), (1, .int p1), (2, .int p2)] := hl
  refine lv_iconst (v := 0) hx hb dX3_frameWaitingFor_0 (by decide) ?_
  refine lv_istore_n (lv' := [(3, .int 0), (0, .ref a_t), (1, .int p1), (2, .int p2)]) hx hb dX3_frameWaitingFor_1 rfl hl (by decide) rfl (fun ls hl => ?_)
  exact B_2  _ h _ _ hP hD hS _ (lv_sub hl [1, 2, 3, 0] rfl)
set_option maxHeartbeats 4000000 in
set_option maxRecDepth 100000 in
theorem c_X3_farthest (l : Launch) {D : va_G} {kI kZ kJ kD : ClassId} (a_t a_t_nextTouch a_t_nextOfPage a_t_nextOfFrame : Nat) (sz : Nat) (v_t_nextOfFrame : Nat → Int32) (p1 : Int32) (Q : Int32 → Prop) (h : wR_X3_farthest v_t_nextOfFrame p1 Q) : Met l yX3_farthest (wM yX3_farthest cX3_farthest 4 (some .int)) ({ frames := 0, cells := 0, slots := 0, locals := 0 } : Room) (va_Pc [.ref a_t, .int p1] (gS D kI kZ kJ kD [(a_t, .inr (2, [.ref a_t_nextTouch, .ref a_t_nextOfPage, .ref a_t_nextOfFrame])), (a_t_nextOfFrame, .inl (kI, 16, .inl v_t_nextOfFrame))] sz)) (va_Qi (S := Unit) (fun r u => Q r ) (fun u t => va_P D vwCl [(a_t, .inr (2, [.ref a_t_nextTouch, .ref a_t_nextOfPage, .ref a_t_nextOfFrame])), (a_t_nextOfFrame, .inl (kI, 16, .inl v_t_nextOfFrame))] t.heap) (va_A [(a_t, .inr (2, [.ref a_t_nextTouch, .ref a_t_nextOfPage, .ref a_t_nextOfFrame])), (a_t_nextOfFrame, .inl (kI, 16, .inl v_t_nextOfFrame))] sz)) 0 0 (va_A [(a_t, .inr (2, [.ref a_t_nextTouch, .ref a_t_nextOfPage, .ref a_t_nextOfFrame])), (a_t_nextOfFrame, .inl (kI, 16, .inl v_t_nextOfFrame))] sz) := by
  refine g_met_i (own := RX3) (y := yX3_farthest) (by decide) rfl (Nat.le_of_ble_eq_true rfl) ?_
  intro p e s m args below meth c A QQ hx hb hml hts hown hE hA hP hD hS hret
  have B_26 : ∀ (I_4 : Int32 → Int32 → Prop) (hI_4 : ∀ (x2 : Int32) (x3 : Int32), I_4 x2 x3 → gW p l e ({ frames := 0, cells := 0, slots := 0, locals := 0 } : Room) s m args below meth c QQ A D 4 [(a_t, .inr (2, [.ref a_t_nextTouch, .ref a_t_nextOfPage, .ref a_t_nextOfFrame])), (a_t_nextOfFrame, .inl (kI, 16, .inl v_t_nextOfFrame))] [(0, .ref a_t), (1, .int p1), (2, .int x2), (3, .int x3)] 4 []) (x2 : Int32) (x3 : Int32), wR_X3_farthest_26 v_t_nextOfFrame p1 Q I_4 x2 x3 → gW p l e ({ frames := 0, cells := 0, slots := 0, locals := 0 } : Room) s m args below meth c QQ A D 4 [(a_t, .inr (2, [.ref a_t_nextTouch, .ref a_t_nextOfPage, .ref a_t_nextOfFrame])), (a_t_nextOfFrame, .inl (kI, 16, .inl v_t_nextOfFrame))] [(0, .ref a_t), (1, .int p1), (2, .int x2), (3, .int x3)] 26 [] := by
    intro I_4 hI_4 x2 x3 h
    intro H locs hP hD hS ls hl
    refine lv_iinc (v := (x3 + 1)) (lv' := [(3, .int (x3 + 1)), (0, .ref a_t), (1, .int p1), (2, .int x2)]) hx hb dX3_farthest_26 hl (k := 3) rfl rfl (by decide) rfl (fun ls hl => ?_)
    refine lv_goto (tgt := 4) hx hb dX3_farthest_29 (by decide) ?_
    exact hI_4 _ _ h _ _ hP hD hS _ (lv_sub hl [1, 2, 3, 0] rfl)
  have B_4 : ∀  (x2 : Int32) (x3 : Int32), wR_X3_farthest_4 v_t_nextOfFrame p1 Q  x2 x3 → gW p l e ({ frames := 0, cells := 0, slots := 0, locals := 0 } : Room) s m args below meth c QQ A D 4 [(a_t, .inr (2, [.ref a_t_nextTouch, .ref a_t_nextOfPage, .ref a_t_nextOfFrame])), (a_t_nextOfFrame, .inl (kI, 16, .inl v_t_nextOfFrame))] [(0, .ref a_t), (1, .int p1), (2, .int x2), (3, .int x3)] 4 [] := by
    intro  x2 x3 h
    refine h (fun (x2 : Int32) (x3 : Int32) => gW p l e ({ frames := 0, cells := 0, slots := 0, locals := 0 } : Room) s m args below meth c QQ A D 4 [(a_t, .inr (2, [.ref a_t_nextTouch, .ref a_t_nextOfPage, .ref a_t_nextOfFrame])), (a_t_nextOfFrame, .inl (kI, 16, .inl v_t_nextOfFrame))] [(0, .ref a_t), (1, .int p1), (2, .int x2), (3, .int x3)] 4 []) (fun x2 x3 h => ?_)
    have hI_4 : ∀ (x2 : Int32) (x3 : Int32), (fun (x2 : Int32) (x3 : Int32) => gW p l e ({ frames := 0, cells := 0, slots := 0, locals := 0 } : Room) s m args below meth c QQ A D 4 [(a_t, .inr (2, [.ref a_t_nextTouch, .ref a_t_nextOfPage, .ref a_t_nextOfFrame])), (a_t_nextOfFrame, .inl (kI, 16, .inl v_t_nextOfFrame))] [(0, .ref a_t), (1, .int p1), (2, .int x2), (3, .int x3)] 4 []) x2 x3 → gW p l e ({ frames := 0, cells := 0, slots := 0, locals := 0 } : Room) s m args below meth c QQ A D 4 [(a_t, .inr (2, [.ref a_t_nextTouch, .ref a_t_nextOfPage, .ref a_t_nextOfFrame])), (a_t_nextOfFrame, .inl (kI, 16, .inl v_t_nextOfFrame))] [(0, .ref a_t), (1, .int p1), (2, .int x2), (3, .int x3)] 4 [] := fun _ _ h => h
    intro H locs hP hD hS ls hl
    refine lv_iload_n hx hb dX3_farthest_4 rfl (lv_at hl 3 rfl) ?_
    refine lv_iload_n hx hb dX3_farthest_5 rfl (lv_at hl 1 rfl) ?_
    refine lv_icmp_ge (tgt := 32) hx hb dX3_farthest_6 (by decide) (fun c => ?_) (fun c => ?_)
    · have h := h.1 c
      refine lv_iload_n hx hb dX3_farthest_32 rfl (lv_at hl 2 rfl) ?_
      exact hret _ _ _ _ x2 () dX3_farthest_33 h hP hS
    · have h := h.2 c
      refine lv_aload_n hx hb dX3_farthest_9 rfl (lv_at hl 0 rfl) ?_
      refine gf_X3_18_2 hx hb hts hown hE hP 0 rfl rfl dX3_farthest_10 ?_
      refine lv_iload_n hx hb dX3_farthest_13 rfl (lv_at hl 3 rfl) ?_
      obtain ⟨hi, h⟩ := h
      refine va_iald hx hb hE.1 hP 1 0 rfl rfl hi dX3_farthest_14 ?_
      refine lv_aload_n hx hb dX3_farthest_15 rfl (lv_at hl 0 rfl) ?_
      refine gf_X3_18_2 hx hb hts hown hE hP 0 rfl rfl dX3_farthest_16 ?_
      refine lv_iload_n hx hb dX3_farthest_19 rfl (lv_at hl 2 rfl) ?_
      obtain ⟨hi, h⟩ := h
      refine va_iald hx hb hE.1 hP 1 0 rfl rfl hi dX3_farthest_20 ?_
      refine lv_icmp_le (tgt := 26) hx hb dX3_farthest_21 (by decide) (fun c => ?_) (fun c => ?_)
      · have h := h.1 c
        exact B_26 _ hI_4 _ _ h _ _ hP hD hS _ (lv_sub hl [0, 1, 2, 3] rfl)
      · have h := h.2 c
        refine lv_iload_n hx hb dX3_farthest_24 rfl (lv_at hl 3 rfl) ?_
        refine lv_istore_n (lv' := [(2, .int x3), (0, .ref a_t), (1, .int p1), (3, .int x3)]) hx hb dX3_farthest_25 rfl hl (by decide) rfl (fun ls hl => ?_)
        exact B_26 _ hI_4 _ _ h _ _ hP hD hS _ (lv_sub hl [1, 2, 0, 3] rfl)
  intro ls hl
  have hl : lv_has ls 4 [(0, .ref a_t), (1, .int p1)] := hl
  refine lv_iconst (v := 0) hx hb dX3_farthest_0 (by decide) ?_
  refine lv_istore_n (lv' := [(2, .int 0), (0, .ref a_t), (1, .int p1)]) hx hb dX3_farthest_1 rfl hl (by decide) rfl (fun ls hl => ?_)
  refine lv_iconst (v := 1) hx hb dX3_farthest_2 (by decide) ?_
  refine lv_istore_n (lv' := [(3, .int 1), (2, .int 0), (0, .ref a_t), (1, .int p1)]) hx hb dX3_farthest_3 rfl hl (by decide) rfl (fun ls hl => ?_)
  exact B_4  _ _ h _ _ hP hD hS _ (lv_sub hl [2, 3, 1, 0] rfl)
set_option maxHeartbeats 4000000 in
set_option maxRecDepth 100000 in
theorem c_X3_fewestFaults (l : Launch) {D : va_G} {kI kZ kJ kD : ClassId} (a_t a_t_nextTouch a_t_nextOfPage a_t_nextOfFrame a_b1 a_b1_pages a_b1_setSizes a_b1_latestTouch a_b1_touchesAtDepth : Nat) (sz : Nat) (v_t_nextTouch : Nat → Int32) (v_t_nextOfPage : Nat → Int32) (v_t_nextOfFrame : Nat → Int32) (v_b1_window : Int32) (v_b1_count : Int32) (v_b1_setSizeSum : Int32) (v_b1_pages : Nat → Int32) (p2 : Int32) (Q : Int32 → (Nat → Int32) → (Nat → Int32) → (Nat → Int32) → Prop) (h : wR_X3_fewestFaults v_b1_count v_b1_pages p2 v_t_nextTouch v_t_nextOfPage v_t_nextOfFrame Q) : Met l yX3_fewestFaults (wM yX3_fewestFaults cX3_fewestFaults 7 (some .int)) ({ frames := 2, cells := 0, slots := 0, locals := 46 } : Room) (va_Pc [.ref a_t, .ref a_b1, .int p2] (gS D kI kZ kJ kD [(a_t, .inr (2, [.ref a_t_nextTouch, .ref a_t_nextOfPage, .ref a_t_nextOfFrame])), (a_t_nextTouch, .inl (kI, 400, .inl v_t_nextTouch)), (a_t_nextOfPage, .inl (kI, 64, .inl v_t_nextOfPage)), (a_t_nextOfFrame, .inl (kI, 16, .inl v_t_nextOfFrame)), (a_b1, .inr (3, [.ref a_b1_pages, .ref a_b1_setSizes, .ref a_b1_latestTouch, .ref a_b1_touchesAtDepth, .int v_b1_window, .int v_b1_count, .int v_b1_setSizeSum])), (a_b1_pages, .inl (kI, 400, .inl v_b1_pages))] sz)) (va_Qi (S := (((Nat → Int32) × (Nat → Int32)) × (Nat → Int32))) (fun r u => Q r u.1.1 u.1.2 u.2) (fun u t => va_P D vwCl [(a_t, .inr (2, [.ref a_t_nextTouch, .ref a_t_nextOfPage, .ref a_t_nextOfFrame])), (a_t_nextTouch, .inl (kI, 400, .inl u.1.1)), (a_t_nextOfPage, .inl (kI, 64, .inl u.1.2)), (a_t_nextOfFrame, .inl (kI, 16, .inl u.2)), (a_b1, .inr (3, [.ref a_b1_pages, .ref a_b1_setSizes, .ref a_b1_latestTouch, .ref a_b1_touchesAtDepth, .int v_b1_window, .int v_b1_count, .int v_b1_setSizeSum])), (a_b1_pages, .inl (kI, 400, .inl v_b1_pages))] t.heap) (va_A [(a_t, .inr (2, [.ref a_t_nextTouch, .ref a_t_nextOfPage, .ref a_t_nextOfFrame])), (a_t_nextTouch, .inl (kI, 400, .inl v_t_nextTouch)), (a_t_nextOfPage, .inl (kI, 64, .inl v_t_nextOfPage)), (a_t_nextOfFrame, .inl (kI, 16, .inl v_t_nextOfFrame)), (a_b1, .inr (3, [.ref a_b1_pages, .ref a_b1_setSizes, .ref a_b1_latestTouch, .ref a_b1_touchesAtDepth, .int v_b1_window, .int v_b1_count, .int v_b1_setSizeSum])), (a_b1_pages, .inl (kI, 400, .inl v_b1_pages))] sz)) 0 0 (va_A [(a_t, .inr (2, [.ref a_t_nextTouch, .ref a_t_nextOfPage, .ref a_t_nextOfFrame])), (a_t_nextTouch, .inl (kI, 400, .inl v_t_nextTouch)), (a_t_nextOfPage, .inl (kI, 64, .inl v_t_nextOfPage)), (a_t_nextOfFrame, .inl (kI, 16, .inl v_t_nextOfFrame)), (a_b1, .inr (3, [.ref a_b1_pages, .ref a_b1_setSizes, .ref a_b1_latestTouch, .ref a_b1_touchesAtDepth, .int v_b1_window, .int v_b1_count, .int v_b1_setSizeSum])), (a_b1_pages, .inl (kI, 400, .inl v_b1_pages))] sz) := by
  refine g_met_i (own := RX3) (y := yX3_fewestFaults) (by decide) rfl (Nat.le_of_ble_eq_true rfl) ?_
  intro p e s m args below meth c A QQ hx hb hml hts hown hE hA hP hD hS hret
  have B_65 : ∀ (I_13 : Int32 → Int32 → Int32 → (Nat → Int32) → (Nat → Int32) → (Nat → Int32) → Prop) (hI_13 : ∀ (x3 : Int32) (x4 : Int32) (x5 : Int32) (v_t_nextTouch : Nat → Int32) (v_t_nextOfPage : Nat → Int32) (v_t_nextOfFrame : Nat → Int32), I_13 x3 x4 x5 v_t_nextTouch v_t_nextOfPage v_t_nextOfFrame → gW p l e ({ frames := 2, cells := 0, slots := 0, locals := 46 } : Room) s m args below meth c QQ A D 7 [(a_t, .inr (2, [.ref a_t_nextTouch, .ref a_t_nextOfPage, .ref a_t_nextOfFrame])), (a_t_nextTouch, .inl (kI, 400, .inl v_t_nextTouch)), (a_t_nextOfPage, .inl (kI, 64, .inl v_t_nextOfPage)), (a_t_nextOfFrame, .inl (kI, 16, .inl v_t_nextOfFrame)), (a_b1, .inr (3, [.ref a_b1_pages, .ref a_b1_setSizes, .ref a_b1_latestTouch, .ref a_b1_touchesAtDepth, .int v_b1_window, .int v_b1_count, .int v_b1_setSizeSum])), (a_b1_pages, .inl (kI, 400, .inl v_b1_pages))] [(0, .ref a_t), (1, .ref a_b1), (2, .int p2), (3, .int x3), (4, .int x4), (5, .int x5)] 13 []) (x3 : Int32) (x4 : Int32) (x5 : Int32) (x6 : Int32) (v_t_nextTouch : Nat → Int32) (v_t_nextOfPage : Nat → Int32) (v_t_nextOfFrame : Nat → Int32), wR_X3_fewestFaults_65 v_b1_count v_b1_pages p2 Q I_13 x3 x4 x5 x6 v_t_nextTouch v_t_nextOfPage v_t_nextOfFrame → gW p l e ({ frames := 2, cells := 0, slots := 0, locals := 46 } : Room) s m args below meth c QQ A D 7 [(a_t, .inr (2, [.ref a_t_nextTouch, .ref a_t_nextOfPage, .ref a_t_nextOfFrame])), (a_t_nextTouch, .inl (kI, 400, .inl v_t_nextTouch)), (a_t_nextOfPage, .inl (kI, 64, .inl v_t_nextOfPage)), (a_t_nextOfFrame, .inl (kI, 16, .inl v_t_nextOfFrame)), (a_b1, .inr (3, [.ref a_b1_pages, .ref a_b1_setSizes, .ref a_b1_latestTouch, .ref a_b1_touchesAtDepth, .int v_b1_window, .int v_b1_count, .int v_b1_setSizeSum])), (a_b1_pages, .inl (kI, 400, .inl v_b1_pages))] [(0, .ref a_t), (1, .ref a_b1), (2, .int p2), (3, .int x3), (4, .int x4), (5, .int x5), (6, .int x6)] 65 [] := by
    intro I_13 hI_13 x3 x4 x5 x6 v_t_nextTouch v_t_nextOfPage v_t_nextOfFrame h
    intro H locs hP hD hS ls hl
    refine lv_aload_n hx hb dX3_fewestFaults_65 rfl (lv_at hl 0 rfl) ?_
    refine gf_X3_18_2 hx hb hts hown hE hP 0 rfl rfl dX3_fewestFaults_66 ?_
    refine lv_iload hx hb dX3_fewestFaults_69 (lv_at hl 6 rfl) ?_
    refine lv_aload_n hx hb dX3_fewestFaults_71 rfl (lv_at hl 0 rfl) ?_
    refine gf_X3_9_2 hx hb hts hown hE hP 0 rfl rfl dX3_fewestFaults_72 ?_
    refine lv_iload hx hb dX3_fewestFaults_75 (lv_at hl 5 rfl) ?_
    obtain ⟨hi, h⟩ := h
    refine va_iald hx hb hE.1 hP 1 0 rfl rfl hi dX3_fewestFaults_77 ?_
    obtain ⟨hi, h⟩ := h
    refine va_iast hx hb hE.1 hP hD hS 3 0 rfl rfl hi dX3_fewestFaults_78 (fun H locs hP hD hS => ?_)
    have hP : va_P D vwCl [(a_t, .inr (2, [.ref a_t_nextTouch, .ref a_t_nextOfPage, .ref a_t_nextOfFrame])), (a_t_nextTouch, .inl (kI, 400, .inl v_t_nextTouch)), (a_t_nextOfPage, .inl (kI, 64, .inl v_t_nextOfPage)), (a_t_nextOfFrame, .inl (kI, 16, .inl (upd v_t_nextOfFrame x6.toNatClampNeg (v_t_nextTouch x5.toNatClampNeg)))), (a_b1, .inr (3, [.ref a_b1_pages, .ref a_b1_setSizes, .ref a_b1_latestTouch, .ref a_b1_touchesAtDepth, .int v_b1_window, .int v_b1_count, .int v_b1_setSizeSum])), (a_b1_pages, .inl (kI, 400, .inl v_b1_pages))] H := hP
    have hD : va_D A [(a_t, .inr (2, [.ref a_t_nextTouch, .ref a_t_nextOfPage, .ref a_t_nextOfFrame])), (a_t_nextTouch, .inl (kI, 400, .inl v_t_nextTouch)), (a_t_nextOfPage, .inl (kI, 64, .inl v_t_nextOfPage)), (a_t_nextOfFrame, .inl (kI, 16, .inl (upd v_t_nextOfFrame x6.toNatClampNeg (v_t_nextTouch x5.toNatClampNeg)))), (a_b1, .inr (3, [.ref a_b1_pages, .ref a_b1_setSizes, .ref a_b1_latestTouch, .ref a_b1_touchesAtDepth, .int v_b1_window, .int v_b1_count, .int v_b1_setSizeSum])), (a_b1_pages, .inl (kI, 400, .inl v_b1_pages))] := hD
    refine lv_iinc (v := (x5 + 1)) (lv' := [(5, .int (x5 + 1)), (0, .ref a_t), (1, .ref a_b1), (2, .int p2), (3, .int x3), (4, .int x4), (6, .int x6)]) hx hb dX3_fewestFaults_79 hl (k := 5) rfl rfl (by decide) rfl (fun ls hl => ?_)
    refine lv_goto (tgt := 13) hx hb dX3_fewestFaults_82 (by decide) ?_
    exact hI_13 _ _ _ _ _ _ h _ _ hP hD hS _ (lv_sub hl [1, 2, 3, 4, 5, 0] rfl)
  have B_54 : ∀ (I_13 : Int32 → Int32 → Int32 → (Nat → Int32) → (Nat → Int32) → (Nat → Int32) → Prop) (hI_13 : ∀ (x3 : Int32) (x4 : Int32) (x5 : Int32) (v_t_nextTouch : Nat → Int32) (v_t_nextOfPage : Nat → Int32) (v_t_nextOfFrame : Nat → Int32), I_13 x3 x4 x5 v_t_nextTouch v_t_nextOfPage v_t_nextOfFrame → gW p l e ({ frames := 2, cells := 0, slots := 0, locals := 46 } : Room) s m args below meth c QQ A D 7 [(a_t, .inr (2, [.ref a_t_nextTouch, .ref a_t_nextOfPage, .ref a_t_nextOfFrame])), (a_t_nextTouch, .inl (kI, 400, .inl v_t_nextTouch)), (a_t_nextOfPage, .inl (kI, 64, .inl v_t_nextOfPage)), (a_t_nextOfFrame, .inl (kI, 16, .inl v_t_nextOfFrame)), (a_b1, .inr (3, [.ref a_b1_pages, .ref a_b1_setSizes, .ref a_b1_latestTouch, .ref a_b1_touchesAtDepth, .int v_b1_window, .int v_b1_count, .int v_b1_setSizeSum])), (a_b1_pages, .inl (kI, 400, .inl v_b1_pages))] [(0, .ref a_t), (1, .ref a_b1), (2, .int p2), (3, .int x3), (4, .int x4), (5, .int x5)] 13 []) (x3 : Int32) (x4 : Int32) (x5 : Int32) (s0 : Int32) (v_t_nextTouch : Nat → Int32) (v_t_nextOfPage : Nat → Int32) (v_t_nextOfFrame : Nat → Int32), wR_X3_fewestFaults_54 v_b1_count v_b1_pages p2 Q I_13 x3 x4 x5 s0 v_t_nextTouch v_t_nextOfPage v_t_nextOfFrame → gW p l e ({ frames := 2, cells := 0, slots := 0, locals := 46 } : Room) s m args below meth c QQ A D 7 [(a_t, .inr (2, [.ref a_t_nextTouch, .ref a_t_nextOfPage, .ref a_t_nextOfFrame])), (a_t_nextTouch, .inl (kI, 400, .inl v_t_nextTouch)), (a_t_nextOfPage, .inl (kI, 64, .inl v_t_nextOfPage)), (a_t_nextOfFrame, .inl (kI, 16, .inl v_t_nextOfFrame)), (a_b1, .inr (3, [.ref a_b1_pages, .ref a_b1_setSizes, .ref a_b1_latestTouch, .ref a_b1_touchesAtDepth, .int v_b1_window, .int v_b1_count, .int v_b1_setSizeSum])), (a_b1_pages, .inl (kI, 400, .inl v_b1_pages))] [(0, .ref a_t), (1, .ref a_b1), (2, .int p2), (3, .int x3), (4, .int x4), (5, .int x5)] 54 [.int s0] := by
    intro I_13 hI_13 x3 x4 x5 s0 v_t_nextTouch v_t_nextOfPage v_t_nextOfFrame h
    intro H locs hP hD hS ls hl
    refine lv_istore (lv' := [(6, .int s0), (0, .ref a_t), (1, .ref a_b1), (2, .int p2), (3, .int x3), (4, .int x4), (5, .int x5)]) hx hb dX3_fewestFaults_54 hl (by decide) rfl (fun ls hl => ?_)
    refine lv_iload_n hx hb dX3_fewestFaults_56 rfl (lv_at hl 4 rfl) ?_
    refine lv_iload hx hb dX3_fewestFaults_57 (lv_at hl 0 rfl) ?_
    refine lv_iconst (v := 1) hx hb dX3_fewestFaults_59 (by decide) ?_
    refine lv_iadd hx hb dX3_fewestFaults_60 ?_
    refine va_mmax hx hb (hml.trans hl.1.symm) hown (hts _ q_816) (hts _ q_469) (hts _ q_39) (hts _ q_470) (Nat.le_of_ble_eq_true rfl) (Nat.le_of_ble_eq_true rfl) (Nat.le_of_ble_eq_true rfl) (Nat.le_of_ble_eq_true rfl) dX3_fewestFaults_61 ?_
    refine lv_istore_n (lv' := [(3, .int (if x3 < (s0 + 1) then (s0 + 1) else x3)), (6, .int s0), (0, .ref a_t), (1, .ref a_b1), (2, .int p2), (4, .int x4), (5, .int x5)]) hx hb dX3_fewestFaults_64 rfl hl (by decide) rfl (fun ls hl => ?_)
    exact B_65 _ hI_13 _ _ _ _ _ _ _ h _ _ hP hD hS _ (lv_sub hl [2, 3, 4, 0, 5, 6, 1] rfl)
  have B_13 : ∀  (x3 : Int32) (x4 : Int32) (x5 : Int32) (v_t_nextTouch : Nat → Int32) (v_t_nextOfPage : Nat → Int32) (v_t_nextOfFrame : Nat → Int32), wR_X3_fewestFaults_13 v_b1_count v_b1_pages p2 Q  x3 x4 x5 v_t_nextTouch v_t_nextOfPage v_t_nextOfFrame → gW p l e ({ frames := 2, cells := 0, slots := 0, locals := 46 } : Room) s m args below meth c QQ A D 7 [(a_t, .inr (2, [.ref a_t_nextTouch, .ref a_t_nextOfPage, .ref a_t_nextOfFrame])), (a_t_nextTouch, .inl (kI, 400, .inl v_t_nextTouch)), (a_t_nextOfPage, .inl (kI, 64, .inl v_t_nextOfPage)), (a_t_nextOfFrame, .inl (kI, 16, .inl v_t_nextOfFrame)), (a_b1, .inr (3, [.ref a_b1_pages, .ref a_b1_setSizes, .ref a_b1_latestTouch, .ref a_b1_touchesAtDepth, .int v_b1_window, .int v_b1_count, .int v_b1_setSizeSum])), (a_b1_pages, .inl (kI, 400, .inl v_b1_pages))] [(0, .ref a_t), (1, .ref a_b1), (2, .int p2), (3, .int x3), (4, .int x4), (5, .int x5)] 13 [] := by
    intro  x3 x4 x5 v_t_nextTouch v_t_nextOfPage v_t_nextOfFrame h
    refine h (fun (x3 : Int32) (x4 : Int32) (x5 : Int32) (v_t_nextTouch : Nat → Int32) (v_t_nextOfPage : Nat → Int32) (v_t_nextOfFrame : Nat → Int32) => gW p l e ({ frames := 2, cells := 0, slots := 0, locals := 46 } : Room) s m args below meth c QQ A D 7 [(a_t, .inr (2, [.ref a_t_nextTouch, .ref a_t_nextOfPage, .ref a_t_nextOfFrame])), (a_t_nextTouch, .inl (kI, 400, .inl v_t_nextTouch)), (a_t_nextOfPage, .inl (kI, 64, .inl v_t_nextOfPage)), (a_t_nextOfFrame, .inl (kI, 16, .inl v_t_nextOfFrame)), (a_b1, .inr (3, [.ref a_b1_pages, .ref a_b1_setSizes, .ref a_b1_latestTouch, .ref a_b1_touchesAtDepth, .int v_b1_window, .int v_b1_count, .int v_b1_setSizeSum])), (a_b1_pages, .inl (kI, 400, .inl v_b1_pages))] [(0, .ref a_t), (1, .ref a_b1), (2, .int p2), (3, .int x3), (4, .int x4), (5, .int x5)] 13 []) (fun x3 x4 x5 v_t_nextTouch v_t_nextOfPage v_t_nextOfFrame h => ?_)
    have hI_13 : ∀ (x3 : Int32) (x4 : Int32) (x5 : Int32) (v_t_nextTouch : Nat → Int32) (v_t_nextOfPage : Nat → Int32) (v_t_nextOfFrame : Nat → Int32), (fun (x3 : Int32) (x4 : Int32) (x5 : Int32) (v_t_nextTouch : Nat → Int32) (v_t_nextOfPage : Nat → Int32) (v_t_nextOfFrame : Nat → Int32) => gW p l e ({ frames := 2, cells := 0, slots := 0, locals := 46 } : Room) s m args below meth c QQ A D 7 [(a_t, .inr (2, [.ref a_t_nextTouch, .ref a_t_nextOfPage, .ref a_t_nextOfFrame])), (a_t_nextTouch, .inl (kI, 400, .inl v_t_nextTouch)), (a_t_nextOfPage, .inl (kI, 64, .inl v_t_nextOfPage)), (a_t_nextOfFrame, .inl (kI, 16, .inl v_t_nextOfFrame)), (a_b1, .inr (3, [.ref a_b1_pages, .ref a_b1_setSizes, .ref a_b1_latestTouch, .ref a_b1_touchesAtDepth, .int v_b1_window, .int v_b1_count, .int v_b1_setSizeSum])), (a_b1_pages, .inl (kI, 400, .inl v_b1_pages))] [(0, .ref a_t), (1, .ref a_b1), (2, .int p2), (3, .int x3), (4, .int x4), (5, .int x5)] 13 []) x3 x4 x5 v_t_nextTouch v_t_nextOfPage v_t_nextOfFrame → gW p l e ({ frames := 2, cells := 0, slots := 0, locals := 46 } : Room) s m args below meth c QQ A D 7 [(a_t, .inr (2, [.ref a_t_nextTouch, .ref a_t_nextOfPage, .ref a_t_nextOfFrame])), (a_t_nextTouch, .inl (kI, 400, .inl v_t_nextTouch)), (a_t_nextOfPage, .inl (kI, 64, .inl v_t_nextOfPage)), (a_t_nextOfFrame, .inl (kI, 16, .inl v_t_nextOfFrame)), (a_b1, .inr (3, [.ref a_b1_pages, .ref a_b1_setSizes, .ref a_b1_latestTouch, .ref a_b1_touchesAtDepth, .int v_b1_window, .int v_b1_count, .int v_b1_setSizeSum])), (a_b1_pages, .inl (kI, 400, .inl v_b1_pages))] [(0, .ref a_t), (1, .ref a_b1), (2, .int p2), (3, .int x3), (4, .int x4), (5, .int x5)] 13 [] := fun _ _ _ _ _ _ h => h
    intro H locs hP hD hS ls hl
    refine lv_iload hx hb dX3_fewestFaults_13 (lv_at hl 5 rfl) ?_
    refine lv_aload_n hx hb dX3_fewestFaults_15 rfl (lv_at hl 1 rfl) ?_
    refine gf_X3_25_3 hx hb hts hown hE hP 4 rfl rfl dX3_fewestFaults_16 ?_
    refine lv_icmp_ge (tgt := 85) hx hb dX3_fewestFaults_19 (by decide) (fun c => ?_) (fun c => ?_)
    · have h := h.1 c
      refine lv_iload hx hb dX3_fewestFaults_85 (lv_at hl 4 rfl) ?_
      exact hret _ _ _ _ x4 ((v_t_nextTouch, v_t_nextOfPage), v_t_nextOfFrame) dX3_fewestFaults_87 h hP hS
    · have h := h.2 c
      refine lv_aload_n hx hb dX3_fewestFaults_22 rfl (lv_at hl 0 rfl) ?_
      refine lv_iload hx hb dX3_fewestFaults_23 (lv_at hl 5 rfl) ?_
      refine lv_iload_n hx hb dX3_fewestFaults_25 rfl (lv_at hl 3 rfl) ?_
      refine gcu_i (va_runV (As := [.int x5, .int x3]) (rest := []) ⟨hx, hb, hml, hown, hts⟩ (c_X3_frameWaitingFor l (D := D) (kI := kI) (kZ := kZ) (kJ := kJ) (kD := kD) a_t a_t_nextTouch a_t_nextOfPage a_t_nextOfFrame _ v_t_nextOfFrame x5 x3 _ h) (k_X3_31_X3 hts hE _ ⟨Nat.le_of_ble_eq_true rfl, Nat.le_of_ble_eq_true rfl⟩) (gp_V (q0 := 0) hE hP hD [0, 3] rfl rfl rfl rfl rfl) rfl rfl hl.1 rfl (lv_room (Nat.le_of_ble_eq_true rfl)) dX3_fewestFaults_26 ⟨Nat.le_of_ble_eq_true rfl, Nat.le_of_ble_eq_true rfl⟩) hP hD hS hA [0, 3] rfl rfl (fun _ => rfl) (fun r1 u H locs h hP hD hS => ?_)
      have hP : va_P D vwCl [(a_t, .inr (2, [.ref a_t_nextTouch, .ref a_t_nextOfPage, .ref a_t_nextOfFrame])), (a_t_nextTouch, .inl (kI, 400, .inl v_t_nextTouch)), (a_t_nextOfPage, .inl (kI, 64, .inl v_t_nextOfPage)), (a_t_nextOfFrame, .inl (kI, 16, .inl v_t_nextOfFrame)), (a_b1, .inr (3, [.ref a_b1_pages, .ref a_b1_setSizes, .ref a_b1_latestTouch, .ref a_b1_touchesAtDepth, .int v_b1_window, .int v_b1_count, .int v_b1_setSizeSum])), (a_b1_pages, .inl (kI, 400, .inl v_b1_pages))] H := hP
      have hD : va_D A [(a_t, .inr (2, [.ref a_t_nextTouch, .ref a_t_nextOfPage, .ref a_t_nextOfFrame])), (a_t_nextTouch, .inl (kI, 400, .inl v_t_nextTouch)), (a_t_nextOfPage, .inl (kI, 64, .inl v_t_nextOfPage)), (a_t_nextOfFrame, .inl (kI, 16, .inl v_t_nextOfFrame)), (a_b1, .inr (3, [.ref a_b1_pages, .ref a_b1_setSizes, .ref a_b1_latestTouch, .ref a_b1_touchesAtDepth, .int v_b1_window, .int v_b1_count, .int v_b1_setSizeSum])), (a_b1_pages, .inl (kI, 400, .inl v_b1_pages))] := hD
      refine lv_istore (lv' := [(6, .int r1), (0, .ref a_t), (1, .ref a_b1), (2, .int p2), (3, .int x3), (4, .int x4), (5, .int x5)]) hx hb dX3_fewestFaults_29 hl (by decide) rfl (fun ls hl => ?_)
      refine lv_iload hx hb dX3_fewestFaults_31 (lv_at hl 0 rfl) ?_
      refine lv_iconst (v := (-1)) hx hb dX3_fewestFaults_33 (by decide) ?_
      refine lv_icmp_ne (tgt := 65) hx hb dX3_fewestFaults_34 (by decide) (fun c => ?_) (fun c => ?_)
      · have h := h.1 c
        exact B_65 _ hI_13 _ _ _ _ _ _ _ h _ _ hP hD hS _ (lv_sub hl [1, 2, 3, 4, 5, 6, 0] rfl)
      · have h := h.2 c
        refine lv_iinc (v := (x4 + 1)) (lv' := [(4, .int (x4 + 1)), (6, .int r1), (0, .ref a_t), (1, .ref a_b1), (2, .int p2), (3, .int x3), (5, .int x5)]) hx hb dX3_fewestFaults_37 hl (k := 5) rfl rfl (by decide) rfl (fun ls hl => ?_)
        refine lv_iload_n hx hb dX3_fewestFaults_40 rfl (lv_at hl 5 rfl) ?_
        refine lv_iload_n hx hb dX3_fewestFaults_41 rfl (lv_at hl 4 rfl) ?_
        refine lv_icmp_ge (tgt := 49) hx hb dX3_fewestFaults_42 (by decide) (fun c => ?_) (fun c => ?_)
        · have h := h.1 c
          refine lv_aload_n hx hb dX3_fewestFaults_49 rfl (lv_at hl 2 rfl) ?_
          refine lv_iload_n hx hb dX3_fewestFaults_50 rfl (lv_at hl 5 rfl) ?_
          refine gcu_i (va_runV (As := [.int x3]) (rest := []) ⟨hx, hb, hml, hown, hts⟩ (c_X3_farthest l (D := D) (kI := kI) (kZ := kZ) (kJ := kJ) (kD := kD) a_t a_t_nextTouch a_t_nextOfPage a_t_nextOfFrame _ v_t_nextOfFrame x3 _ h) (k_X3_35_X3 hts hE _ ⟨Nat.le_of_ble_eq_true rfl, Nat.le_of_ble_eq_true rfl⟩) (gp_V (q0 := 0) hE hP hD [0, 3] rfl rfl rfl rfl rfl) rfl rfl hl.1 rfl (lv_room (Nat.le_of_ble_eq_true rfl)) dX3_fewestFaults_51 ⟨Nat.le_of_ble_eq_true rfl, Nat.le_of_ble_eq_true rfl⟩) hP hD hS hA [0, 3] rfl rfl (fun _ => rfl) (fun r2 u H locs h hP hD hS => ?_)
          have hP : va_P D vwCl [(a_t, .inr (2, [.ref a_t_nextTouch, .ref a_t_nextOfPage, .ref a_t_nextOfFrame])), (a_t_nextTouch, .inl (kI, 400, .inl v_t_nextTouch)), (a_t_nextOfPage, .inl (kI, 64, .inl v_t_nextOfPage)), (a_t_nextOfFrame, .inl (kI, 16, .inl v_t_nextOfFrame)), (a_b1, .inr (3, [.ref a_b1_pages, .ref a_b1_setSizes, .ref a_b1_latestTouch, .ref a_b1_touchesAtDepth, .int v_b1_window, .int v_b1_count, .int v_b1_setSizeSum])), (a_b1_pages, .inl (kI, 400, .inl v_b1_pages))] H := hP
          have hD : va_D A [(a_t, .inr (2, [.ref a_t_nextTouch, .ref a_t_nextOfPage, .ref a_t_nextOfFrame])), (a_t_nextTouch, .inl (kI, 400, .inl v_t_nextTouch)), (a_t_nextOfPage, .inl (kI, 64, .inl v_t_nextOfPage)), (a_t_nextOfFrame, .inl (kI, 16, .inl v_t_nextOfFrame)), (a_b1, .inr (3, [.ref a_b1_pages, .ref a_b1_setSizes, .ref a_b1_latestTouch, .ref a_b1_touchesAtDepth, .int v_b1_window, .int v_b1_count, .int v_b1_setSizeSum])), (a_b1_pages, .inl (kI, 400, .inl v_b1_pages))] := hD
          exact B_54 _ hI_13 _ _ _ _ _ _ _ h _ _ hP hD hS _ (lv_sub hl [2, 3, 4, 5, 0, 6] rfl)
        · have h := h.2 c
          refine lv_iload_n hx hb dX3_fewestFaults_45 rfl (lv_at hl 5 rfl) ?_
          refine lv_goto (tgt := 54) hx hb dX3_fewestFaults_46 (by decide) ?_
          exact B_54 _ hI_13 _ _ _ _ _ _ _ h _ _ hP hD hS _ (lv_sub hl [2, 3, 4, 5, 0, 6] rfl)
  intro ls hl
  have hl : lv_has ls 7 [(0, .ref a_t), (1, .ref a_b1), (2, .int p2)] := hl
  refine lv_aload_n hx hb dX3_fewestFaults_0 rfl (lv_at hl 0 rfl) ?_
  refine lv_aload_n hx hb dX3_fewestFaults_1 rfl (lv_at hl 1 rfl) ?_
  refine gcu_v (va_runV (As := [.ref a_b1]) (rest := []) ⟨hx, hb, hml, hown, hts⟩ (c_X3_findNextTouches l (D := D) (kI := kI) (kZ := kZ) (kJ := kJ) (kD := kD) a_t a_t_nextTouch a_t_nextOfPage a_t_nextOfFrame a_b1 a_b1_pages a_b1_setSizes a_b1_latestTouch a_b1_touchesAtDepth _ v_t_nextTouch v_t_nextOfPage v_b1_window v_b1_count v_b1_setSizeSum v_b1_pages _ h) (k_X3_21_X3 hts hE _ ⟨Nat.le_of_ble_eq_true rfl, Nat.le_of_ble_eq_true rfl⟩) (gp_V (q0 := 0) hE hP hD [0, 1, 2, 4, 5] rfl rfl rfl rfl rfl) rfl rfl hl.1 rfl (lv_room (Nat.le_of_ble_eq_true rfl)) dX3_fewestFaults_2 ⟨Nat.le_of_ble_eq_true rfl, Nat.le_of_ble_eq_true rfl⟩) hP hD hS hA [0, 1, 2, 4, 5] rfl rfl (fun _ => rfl) (fun u3 H locs h hP hD hS => ?_)
  have hP : va_P D vwCl [(a_t, .inr (2, [.ref a_t_nextTouch, .ref a_t_nextOfPage, .ref a_t_nextOfFrame])), (a_t_nextTouch, .inl (kI, 400, .inl u3.1)), (a_t_nextOfPage, .inl (kI, 64, .inl u3.2)), (a_t_nextOfFrame, .inl (kI, 16, .inl v_t_nextOfFrame)), (a_b1, .inr (3, [.ref a_b1_pages, .ref a_b1_setSizes, .ref a_b1_latestTouch, .ref a_b1_touchesAtDepth, .int v_b1_window, .int v_b1_count, .int v_b1_setSizeSum])), (a_b1_pages, .inl (kI, 400, .inl v_b1_pages))] H := hP
  have hD : va_D A [(a_t, .inr (2, [.ref a_t_nextTouch, .ref a_t_nextOfPage, .ref a_t_nextOfFrame])), (a_t_nextTouch, .inl (kI, 400, .inl u3.1)), (a_t_nextOfPage, .inl (kI, 64, .inl u3.2)), (a_t_nextOfFrame, .inl (kI, 16, .inl v_t_nextOfFrame)), (a_b1, .inr (3, [.ref a_b1_pages, .ref a_b1_setSizes, .ref a_b1_latestTouch, .ref a_b1_touchesAtDepth, .int v_b1_window, .int v_b1_count, .int v_b1_setSizeSum])), (a_b1_pages, .inl (kI, 400, .inl v_b1_pages))] := hD
  refine lv_iconst (v := 0) hx hb dX3_fewestFaults_5 (by decide) ?_
  refine lv_istore_n (lv' := [(3, .int 0), (0, .ref a_t), (1, .ref a_b1), (2, .int p2)]) hx hb dX3_fewestFaults_6 rfl hl (by decide) rfl (fun ls hl => ?_)
  refine lv_iconst (v := 0) hx hb dX3_fewestFaults_7 (by decide) ?_
  refine lv_istore (lv' := [(4, .int 0), (3, .int 0), (0, .ref a_t), (1, .ref a_b1), (2, .int p2)]) hx hb dX3_fewestFaults_8 hl (by decide) rfl (fun ls hl => ?_)
  refine lv_iconst (v := 0) hx hb dX3_fewestFaults_10 (by decide) ?_
  refine lv_istore (lv' := [(5, .int 0), (4, .int 0), (3, .int 0), (0, .ref a_t), (1, .ref a_b1), (2, .int p2)]) hx hb dX3_fewestFaults_11 hl (by decide) rfl (fun ls hl => ?_)
  exact B_13  _ _ _ _ _ _ h _ _ hP hD hS _ (lv_sub hl [3, 4, 5, 2, 1, 0] rfl)
