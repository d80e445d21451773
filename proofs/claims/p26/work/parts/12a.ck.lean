set_option maxHeartbeats 4000000 in
set_option maxRecDepth 100000 in
theorem c_X5_empty (l : Launch) {D : va_G} {kI kZ kJ kD : ClassId} (a_t a_t_pages : Nat) (sz : Nat) (v_t_count : Int32) (Q : Int32 → Prop) (h : wR_X5_empty v_t_count Q) : Met l yX5_empty (wM yX5_empty cX5_empty 1 none) ({ frames := 0, cells := 0, slots := 0, locals := 0 } : Room) (va_Pc [.ref a_t] (gS D kI kZ kJ kD [(a_t, .inr (4, [.ref a_t_pages, .int v_t_count]))] sz)) (va_Qv (S := Int32) (fun u => Q u) (fun u t => va_P D vwCl [(a_t, .inr (4, [.ref a_t_pages, .int u]))] t.heap) (va_A [(a_t, .inr (4, [.ref a_t_pages, .int v_t_count]))] sz)) 0 0 (va_A [(a_t, .inr (4, [.ref a_t_pages, .int v_t_count]))] sz) := by
  refine g_met_v (own := RX5) (y := yX5_empty) (by decide) rfl (Nat.le_of_ble_eq_true rfl) ?_
  intro p e s m args below meth c A QQ hx hb hml hts hown hE hA hP hD hS hret
  intro ls hl
  have hl : lv_has ls 1 [(0, .ref a_t)] := hl
  refine lv_aload_n hx hb dX5_empty_0 rfl (lv_at hl 0 rfl) ?_
  refine lv_iconst (v := 0) hx hb dX5_empty_1 (by decide) ?_
  refine pf_X5_15_4 hx hb hts hown hE hP hD hS 0 rfl (Nat.le_of_ble_eq_true rfl) dX5_empty_2 (fun H locs hP hD hS => ?_)
  have hP : va_P D vwCl [(a_t, .inr (4, [.ref a_t_pages, .int 0]))] H := hP
  have hD : va_D A [(a_t, .inr (4, [.ref a_t_pages, .int 0]))] := hD
  exact hret _ _ _ _ 0 dX5_empty_5 h hP hS
set_option maxHeartbeats 4000000 in
set_option maxRecDepth 100000 in
theorem c_J7_fill_53178 (l : Launch) {D : va_G} {kI kZ kJ kD : ClassId} (a_b1 : Nat) (N1 : Nat) (sz : Nat) (v_b1 : Nat → Int32) (p2 : Int32) (Q : (Nat → Int32) → Prop) (h : wR_J7_fill_53178 N1 p2 v_b1 Q) : Met l yJ7_fill_53178 (wM yJ7_fill_53178 cJ7_fill_53178 4 none) ({ frames := 0, cells := 0, slots := 0, locals := 0 } : Room) (va_Pc [.ref a_b1, .int p2] (gS D kI kZ kJ kD [(a_b1, .inl (kI, N1, .inl v_b1))] sz)) (va_Qv (S := (Nat → Int32)) (fun u => Q u) (fun u t => va_P D vwCl [(a_b1, .inl (kI, N1, .inl u))] t.heap) (va_A [(a_b1, .inl (kI, N1, .inl v_b1))] sz)) 0 0 (va_A [(a_b1, .inl (kI, N1, .inl v_b1))] sz) := by
  refine g_met_v (own := RJ7) (y := yJ7_fill_53178) (by decide) rfl (Nat.le_of_ble_eq_true rfl) ?_
  intro p e s m args below meth c A QQ hx hb hml hts hown hE hA hP hD hS hret
  have B_5 : ∀  (x2 : Int32) (x3 : Int32) (v_b1 : Nat → Int32), wR_J7_fill_53178_5 N1 p2 Q  x2 x3 v_b1 → gW p l e ({ frames := 0, cells := 0, slots := 0, locals := 0 } : Room) s m args below meth c QQ A D 4 [(a_b1, .inl (kI, N1, .inl v_b1))] [(0, .ref a_b1), (1, .int p2), (2, .int x2), (3, .int x3)] 5 [] := by
    intro  x2 x3 v_b1 h
    refine h (fun (x2 : Int32) (x3 : Int32) (v_b1 : Nat → Int32) => gW p l e ({ frames := 0, cells := 0, slots := 0, locals := 0 } : Room) s m args below meth c QQ A D 4 [(a_b1, .inl (kI, N1, .inl v_b1))] [(0, .ref a_b1), (1, .int p2), (2, .int x2), (3, .int x3)] 5 []) (fun x2 x3 v_b1 h => ?_)
    have hI_5 : ∀ (x2 : Int32) (x3 : Int32) (v_b1 : Nat → Int32), (fun (x2 : Int32) (x3 : Int32) (v_b1 : Nat → Int32) => gW p l e ({ frames := 0, cells := 0, slots := 0, locals := 0 } : Room) s m args below meth c QQ A D 4 [(a_b1, .inl (kI, N1, .inl v_b1))] [(0, .ref a_b1), (1, .int p2), (2, .int x2), (3, .int x3)] 5 []) x2 x3 v_b1 → gW p l e ({ frames := 0, cells := 0, slots := 0, locals := 0 } : Room) s m args below meth c QQ A D 4 [(a_b1, .inl (kI, N1, .inl v_b1))] [(0, .ref a_b1), (1, .int p2), (2, .int x2), (3, .int x3)] 5 [] := fun _ _ _ h => h
    intro H locs hP hD hS ls hl
    refine lv_iload_n hx hb dJ7_fill_53178_5 rfl (lv_at hl 2 rfl) ?_
    refine lv_iload_n hx hb dJ7_fill_53178_6 rfl (lv_at hl 3 rfl) ?_
    refine lv_icmp_ge (tgt := 20) hx hb dJ7_fill_53178_7 (by decide) (fun c => ?_) (fun c => ?_)
    · have h := h.1 c
      exact hret _ _ _ _ v_b1 dJ7_fill_53178_20 h hP hS
    · have h := h.2 c
      refine lv_aload_n hx hb dJ7_fill_53178_10 rfl (lv_at hl 0 rfl) ?_
      refine lv_iload_n hx hb dJ7_fill_53178_11 rfl (lv_at hl 2 rfl) ?_
      refine lv_iload_n hx hb dJ7_fill_53178_12 rfl (lv_at hl 1 rfl) ?_
      obtain ⟨hi, h⟩ := h
      refine va_iast hx hb hE.1 hP hD hS 0 0 rfl rfl hi dJ7_fill_53178_13 (fun H locs hP hD hS => ?_)
      have hP : va_P D vwCl [(a_b1, .inl (kI, N1, .inl (upd v_b1 x2.toNatClampNeg p2)))] H := hP
      have hD : va_D A [(a_b1, .inl (kI, N1, .inl (upd v_b1 x2.toNatClampNeg p2)))] := hD
      refine lv_iinc (v := (x2 + 1)) (lv' := [(2, .int (x2 + 1)), (0, .ref a_b1), (1, .int p2), (3, .int x3)]) hx hb dJ7_fill_53178_14 hl (k := 2) rfl rfl (by decide) rfl (fun ls hl => ?_)
      refine lv_goto (tgt := 5) hx hb dJ7_fill_53178_17 (by decide) ?_
      exact hI_5 _ _ _ h _ _ hP hD hS _ (lv_sub hl [1, 2, 0, 3] rfl)
  intro ls hl
  have hl : lv_has ls 4 [(0, .ref a_b1), (1, .int p2)] := hl
  refine lv_iconst (v := 0) hx hb dJ7_fill_53178_0 (by decide) ?_
  refine lv_istore_n (lv' := [(2, .int 0), (0, .ref a_b1), (1, .int p2)]) hx hb dJ7_fill_53178_1 rfl hl (by decide) rfl (fun ls hl => ?_)
  refine lv_aload_n hx hb dJ7_fill_53178_2 rfl (lv_at hl 1 rfl) ?_
  refine va_alen hx hb hE.1 hP 0 0 rfl rfl rfl dJ7_fill_53178_3 ?_
  refine lv_istore_n (lv' := [(3, .int (Int32.ofNat N1)), (2, .int 0), (0, .ref a_b1), (1, .int p2)]) hx hb dJ7_fill_53178_4 rfl hl (by decide) rfl (fun ls hl => ?_)
  exact B_5  _ _ _ h _ _ hP hD hS _ (lv_sub hl [2, 3, 1, 0] rfl)
set_option maxHeartbeats 4000000 in
set_option maxRecDepth 100000 in
theorem c_X9_isPage (l : Launch) {D : va_G} {kI kZ kJ kD : ClassId} (sz : Nat) (p1 : Int32) (Q : Int32 → Prop) (h : wR_X9_isPage p1 Q) : Met l yX9_isPage (wM yX9_isPage cX9_isPage 1 (some .boolean)) ({ frames := 0, cells := 0, slots := 0, locals := 0 } : Room) (va_Pc [.int p1] (gS D kI kZ kJ kD [] sz)) (va_Qi (S := Unit) (fun r u => Q r ) (fun u t => va_P D vwCl [] t.heap) (va_A [] sz)) 0 0 (va_A [] sz) := by
  refine g_met_z (own := RX9) (y := yX9_isPage) (by decide) rfl (Nat.le_of_ble_eq_true rfl) ?_
  intro p e s m args below meth c A QQ hx hb hml hts hown hE hA hP hD hS hret
  have B_15 : ∀  (s0 : Int32), wR_X9_isPage_15 p1 Q  s0 → gW p l e ({ frames := 0, cells := 0, slots := 0, locals := 0 } : Room) s m args below meth c QQ A D 1 [] [] 15 [.int s0] := by
    intro  s0 h
    intro H locs hP hD hS ls hl
    obtain ⟨hi, h⟩ := h
    exact hret _ _ _ _ s0 () dX9_isPage_15 hi h hP hS
  have B_14 : wR_X9_isPage_14 p1 Q   → gW p l e ({ frames := 0, cells := 0, slots := 0, locals := 0 } : Room) s m args below meth c QQ A D 1 [] [] 14 [] := by
    intro   h
    intro H locs hP hD hS ls hl
    refine lv_iconst (v := 0) hx hb dX9_isPage_14 (by decide) ?_
    exact B_15  _ h _ _ hP hD hS _ (lv_sub hl [] rfl)
  intro ls hl
  have hl : lv_has ls 1 [(0, .int p1)] := hl
  refine lv_iload_n hx hb dX9_isPage_0 rfl (lv_at hl 0 rfl) ?_
  refine lv_if_lt (tgt := 14) hx hb dX9_isPage_1 (by decide) (fun c => ?_) (fun c => ?_)
  · have h := h.1 c
    exact B_14   h _ _ hP hD hS _ (lv_sub hl [] rfl)
  · have h := h.2 c
    refine lv_iload_n hx hb dX9_isPage_4 rfl (lv_at hl 0 rfl) ?_
    refine lv_bipush (v := 64) hx hb dX9_isPage_5 (by decide) ?_
    refine lv_icmp_ge (tgt := 14) hx hb dX9_isPage_7 (by decide) (fun c => ?_) (fun c => ?_)
    · have h := h.1 c
      exact B_14   h _ _ hP hD hS _ (lv_sub hl [] rfl)
    · have h := h.2 c
      refine lv_iconst (v := 1) hx hb dX9_isPage_10 (by decide) ?_
      refine lv_goto (tgt := 15) hx hb dX9_isPage_11 (by decide) ?_
      exact B_15  _ h _ _ hP hD hS _ (lv_sub hl [] rfl)
set_option maxHeartbeats 4000000 in
set_option maxRecDepth 100000 in
theorem c_X5_contains (l : Launch) {D : va_G} {kI kZ kJ kD : ClassId} (a_t a_t_pages : Nat) (sz : Nat) (v_t_count : Int32) (v_t_pages : Nat → Int32) (p1 : Int32) (Q : Int32 → Prop) (h : wR_X5_contains v_t_count v_t_pages p1 Q) : Met l yX5_contains (wM yX5_contains cX5_contains 3 (some .boolean)) ({ frames := 0, cells := 0, slots := 0, locals := 0 } : Room) (va_Pc [.ref a_t, .int p1] (gS D kI kZ kJ kD [(a_t, .inr (4, [.ref a_t_pages, .int v_t_count])), (a_t_pages, .inl (kI, 64, .inl v_t_pages))] sz)) (va_Qi (S := Unit) (fun r u => Q r ) (fun u t => va_P D vwCl [(a_t, .inr (4, [.ref a_t_pages, .int v_t_count])), (a_t_pages, .inl (kI, 64, .inl v_t_pages))] t.heap) (va_A [(a_t, .inr (4, [.ref a_t_pages, .int v_t_count])), (a_t_pages, .inl (kI, 64, .inl v_t_pages))] sz)) 0 0 (va_A [(a_t, .inr (4, [.ref a_t_pages, .int v_t_count])), (a_t_pages, .inl (kI, 64, .inl v_t_pages))] sz) := by
  refine g_met_z (own := RX5) (y := yX5_contains) (by decide) rfl (Nat.le_of_ble_eq_true rfl) ?_
  intro p e s m args below meth c A QQ hx hb hml hts hown hE hA hP hD hS hret
  have B_2 : ∀  (x2 : Int32), wR_X5_contains_2 v_t_count v_t_pages p1 Q  x2 → gW p l e ({ frames := 0, cells := 0, slots := 0, locals := 0 } : Room) s m args below meth c QQ A D 3 [(a_t, .inr (4, [.ref a_t_pages, .int v_t_count])), (a_t_pages, .inl (kI, 64, .inl v_t_pages))] [(0, .ref a_t), (1, .int p1), (2, .int x2)] 2 [] := by
    intro  x2 h
    refine h (fun (x2 : Int32) => gW p l e ({ frames := 0, cells := 0, slots := 0, locals := 0 } : Room) s m args below meth c QQ A D 3 [(a_t, .inr (4, [.ref a_t_pages, .int v_t_count])), (a_t_pages, .inl (kI, 64, .inl v_t_pages))] [(0, .ref a_t), (1, .int p1), (2, .int x2)] 2 []) (fun x2 h => ?_)
    have hI_2 : ∀ (x2 : Int32), (fun (x2 : Int32) => gW p l e ({ frames := 0, cells := 0, slots := 0, locals := 0 } : Room) s m args below meth c QQ A D 3 [(a_t, .inr (4, [.ref a_t_pages, .int v_t_count])), (a_t_pages, .inl (kI, 64, .inl v_t_pages))] [(0, .ref a_t), (1, .int p1), (2, .int x2)] 2 []) x2 → gW p l e ({ frames := 0, cells := 0, slots := 0, locals := 0 } : Room) s m args below meth c QQ A D 3 [(a_t, .inr (4, [.ref a_t_pages, .int v_t_count])), (a_t_pages, .inl (kI, 64, .inl v_t_pages))] [(0, .ref a_t), (1, .int p1), (2, .int x2)] 2 [] := fun _ h => h
    intro H locs hP hD hS ls hl
    refine lv_iload_n hx hb dX5_contains_2 rfl (lv_at hl 2 rfl) ?_
    refine lv_aload_n hx hb dX5_contains_3 rfl (lv_at hl 0 rfl) ?_
    refine gf_X5_15_4 hx hb hts hown hE hP 0 rfl rfl dX5_contains_4 ?_
    refine lv_icmp_ge (tgt := 28) hx hb dX5_contains_7 (by decide) (fun c => ?_) (fun c => ?_)
    · have h := h.1 c
      refine lv_iconst (v := 0) hx hb dX5_contains_28 (by decide) ?_
      exact hret _ _ _ _ 0 () dX5_contains_29 (Or.inl rfl) h hP hS
    · have h := h.2 c
      refine lv_aload_n hx hb dX5_contains_10 rfl (lv_at hl 0 rfl) ?_
      refine gf_X5_9_4 hx hb hts hown hE hP 0 rfl rfl dX5_contains_11 ?_
      refine lv_iload_n hx hb dX5_contains_14 rfl (lv_at hl 2 rfl) ?_
      obtain ⟨hi, h⟩ := h
      refine va_iald hx hb hE.1 hP 1 0 rfl rfl hi dX5_contains_15 ?_
      refine lv_iload_n hx hb dX5_contains_16 rfl (lv_at hl 1 rfl) ?_
      refine lv_icmp_ne (tgt := 22) hx hb dX5_contains_17 (by decide) (fun c => ?_) (fun c => ?_)
      · have h := h.1 c
        refine lv_iinc (v := (x2 + 1)) (lv' := [(2, .int (x2 + 1)), (0, .ref a_t), (1, .int p1)]) hx hb dX5_contains_22 hl (k := 2) rfl rfl (by decide) rfl (fun ls hl => ?_)
        refine lv_goto (tgt := 2) hx hb dX5_contains_25 (by decide) ?_
        exact hI_2 _ h _ _ hP hD hS _ (lv_sub hl [1, 2, 0] rfl)
      · have h := h.2 c
        refine lv_iconst (v := 1) hx hb dX5_contains_20 (by decide) ?_
        exact hret _ _ _ _ 1 () dX5_contains_21 (Or.inr rfl) h hP hS
  intro ls hl
  have hl : lv_has ls 3 [(0, .ref a_t), (1, .int p1)] := hl
  refine lv_iconst (v := 0) hx hb dX5_contains_0 (by decide) ?_
  refine lv_istore_n (lv' := [(2, .int 0), (0, .ref a_t), (1, .int p1)]) hx hb dX5_contains_1 rfl hl (by decide) rfl (fun ls hl => ?_)
  exact B_2  _ h _ _ hP hD hS _ (lv_sub hl [1, 2, 0] rfl)
set_option maxHeartbeats 4000000 in
set_option maxRecDepth 100000 in
theorem c_X5_drop (l : Launch) {D : va_G} {kI kZ kJ kD : ClassId} (a_t a_t_pages : Nat) (sz : Nat) (v_t_count : Int32) (v_t_pages : Nat → Int32) (p1 : Int32) (Q : Int32 → (Nat → Int32) → Prop) (h : wR_X5_drop p1 v_t_count v_t_pages Q) : Met l yX5_drop (wM yX5_drop cX5_drop 4 none) ({ frames := 0, cells := 0, slots := 0, locals := 0 } : Room) (va_Pc [.ref a_t, .int p1] (gS D kI kZ kJ kD [(a_t, .inr (4, [.ref a_t_pages, .int v_t_count])), (a_t_pages, .inl (kI, 64, .inl v_t_pages))] sz)) (va_Qv (S := (Int32 × (Nat → Int32))) (fun u => Q u.1 u.2) (fun u t => va_P D vwCl [(a_t, .inr (4, [.ref a_t_pages, .int u.1])), (a_t_pages, .inl (kI, 64, .inl u.2))] t.heap) (va_A [(a_t, .inr (4, [.ref a_t_pages, .int v_t_count])), (a_t_pages, .inl (kI, 64, .inl v_t_pages))] sz)) 0 0 (va_A [(a_t, .inr (4, [.ref a_t_pages, .int v_t_count])), (a_t_pages, .inl (kI, 64, .inl v_t_pages))] sz) := by
  refine g_met_v (own := RX5) (y := yX5_drop) (by decide) rfl (Nat.le_of_ble_eq_true rfl) ?_
  intro p e s m args below meth c A QQ hx hb hml hts hown hE hA hP hD hS hret
  have B_37 : ∀ (I_4 : Int32 → Int32 → Int32 → (Nat → Int32) → Prop) (hI_4 : ∀ (x2 : Int32) (x3 : Int32) (v_t_count : Int32) (v_t_pages : Nat → Int32), I_4 x2 x3 v_t_count v_t_pages → gW p l e ({ frames := 0, cells := 0, slots := 0, locals := 0 } : Room) s m args below meth c QQ A D 4 [(a_t, .inr (4, [.ref a_t_pages, .int v_t_count])), (a_t_pages, .inl (kI, 64, .inl v_t_pages))] [(0, .ref a_t), (1, .int p1), (2, .int x2), (3, .int x3)] 4 []) (x2 : Int32) (x3 : Int32) (v_t_count : Int32) (v_t_pages : Nat → Int32), wR_X5_drop_37 p1 Q I_4 x2 x3 v_t_count v_t_pages → gW p l e ({ frames := 0, cells := 0, slots := 0, locals := 0 } : Room) s m args below meth c QQ A D 4 [(a_t, .inr (4, [.ref a_t_pages, .int v_t_count])), (a_t_pages, .inl (kI, 64, .inl v_t_pages))] [(0, .ref a_t), (1, .int p1), (2, .int x2), (3, .int x3)] 37 [] := by
    intro I_4 hI_4 x2 x3 v_t_count v_t_pages h
    intro H locs hP hD hS ls hl
    refine lv_iinc (v := (x3 + 1)) (lv' := [(3, .int (x3 + 1)), (0, .ref a_t), (1, .int p1), (2, .int x2)]) hx hb dX5_drop_37 hl (k := 3) rfl rfl (by decide) rfl (fun ls hl => ?_)
    refine lv_goto (tgt := 4) hx hb dX5_drop_40 (by decide) ?_
    exact hI_4 _ _ _ _ h _ _ hP hD hS _ (lv_sub hl [1, 2, 3, 0] rfl)
  have B_4 : ∀  (x2 : Int32) (x3 : Int32) (v_t_count : Int32) (v_t_pages : Nat → Int32), wR_X5_drop_4 p1 Q  x2 x3 v_t_count v_t_pages → gW p l e ({ frames := 0, cells := 0, slots := 0, locals := 0 } : Room) s m args below meth c QQ A D 4 [(a_t, .inr (4, [.ref a_t_pages, .int v_t_count])), (a_t_pages, .inl (kI, 64, .inl v_t_pages))] [(0, .ref a_t), (1, .int p1), (2, .int x2), (3, .int x3)] 4 [] := by
    intro  x2 x3 v_t_count v_t_pages h
    refine h (fun (x2 : Int32) (x3 : Int32) (v_t_count : Int32) (v_t_pages : Nat → Int32) => gW p l e ({ frames := 0, cells := 0, slots := 0, locals := 0 } : Room) s m args below meth c QQ A D 4 [(a_t, .inr (4, [.ref a_t_pages, .int v_t_count])), (a_t_pages, .inl (kI, 64, .inl v_t_pages))] [(0, .ref a_t), (1, .int p1), (2, .int x2), (3, .int x3)] 4 []) (fun x2 x3 v_t_count v_t_pages h => ?_)
    have hI_4 : ∀ (x2 : Int32) (x3 : Int32) (v_t_count : Int32) (v_t_pages : Nat → Int32), (fun (x2 : Int32) (x3 : Int32) (v_t_count : Int32) (v_t_pages : Nat → Int32) => gW p l e ({ frames := 0, cells := 0, slots := 0, locals := 0 } : Room) s m args below meth c QQ A D 4 [(a_t, .inr (4, [.ref a_t_pages, .int v_t_count])), (a_t_pages, .inl (kI, 64, .inl v_t_pages))] [(0, .ref a_t), (1, .int p1), (2, .int x2), (3, .int x3)] 4 []) x2 x3 v_t_count v_t_pages → gW p l e ({ frames := 0, cells := 0, slots := 0, locals := 0 } : Room) s m args below meth c QQ A D 4 [(a_t, .inr (4, [.ref a_t_pages, .int v_t_count])), (a_t_pages, .inl (kI, 64, .inl v_t_pages))] [(0, .ref a_t), (1, .int p1), (2, .int x2), (3, .int x3)] 4 [] := fun _ _ _ _ h => h
    intro H locs hP hD hS ls hl
    refine lv_iload_n hx hb dX5_drop_4 rfl (lv_at hl 3 rfl) ?_
    refine lv_aload_n hx hb dX5_drop_5 rfl (lv_at hl 0 rfl) ?_
    refine gf_X5_15_4 hx hb hts hown hE hP 0 rfl rfl dX5_drop_6 ?_
    refine lv_icmp_ge (tgt := 43) hx hb dX5_drop_9 (by decide) (fun c => ?_) (fun c => ?_)
    · have h := h.1 c
      refine lv_aload_n hx hb dX5_drop_43 rfl (lv_at hl 0 rfl) ?_
      refine lv_iload_n hx hb dX5_drop_44 rfl (lv_at hl 2 rfl) ?_
      refine pf_X5_15_4 hx hb hts hown hE hP hD hS 0 rfl (Nat.le_of_ble_eq_true rfl) dX5_drop_45 (fun H locs hP hD hS => ?_)
      have hP : va_P D vwCl [(a_t, .inr (4, [.ref a_t_pages, .int x2])), (a_t_pages, .inl (kI, 64, .inl v_t_pages))] H := hP
      have hD : va_D A [(a_t, .inr (4, [.ref a_t_pages, .int x2])), (a_t_pages, .inl (kI, 64, .inl v_t_pages))] := hD
      exact hret _ _ _ _ (x2, v_t_pages) dX5_drop_48 h hP hS
    · have h := h.2 c
      refine lv_aload_n hx hb dX5_drop_12 rfl (lv_at hl 0 rfl) ?_
      refine gf_X5_9_4 hx hb hts hown hE hP 0 rfl rfl dX5_drop_13 ?_
      refine lv_iload_n hx hb dX5_drop_16 rfl (lv_at hl 3 rfl) ?_
      obtain ⟨hi, h⟩ := h
      refine va_iald hx hb hE.1 hP 1 0 rfl rfl hi dX5_drop_17 ?_
      refine lv_iload_n hx hb dX5_drop_18 rfl (lv_at hl 1 rfl) ?_
      refine lv_icmp_eq (tgt := 37) hx hb dX5_drop_19 (by decide) (fun c => ?_) (fun c => ?_)
      · have h := h.1 c
        exact B_37 _ hI_4 _ _ _ _ h _ _ hP hD hS _ (lv_sub hl [0, 1, 2, 3] rfl)
      · have h := h.2 c
        refine lv_aload_n hx hb dX5_drop_22 rfl (lv_at hl 0 rfl) ?_
        refine gf_X5_9_4 hx hb hts hown hE hP 0 rfl rfl dX5_drop_23 ?_
        refine lv_iload_n hx hb dX5_drop_26 rfl (lv_at hl 2 rfl) ?_
        refine lv_aload_n hx hb dX5_drop_27 rfl (lv_at hl 0 rfl) ?_
        refine gf_X5_9_4 hx hb hts hown hE hP 0 rfl rfl dX5_drop_28 ?_
        refine lv_iload_n hx hb dX5_drop_31 rfl (lv_at hl 3 rfl) ?_
        obtain ⟨hi, h⟩ := h
        refine va_iald hx hb hE.1 hP 1 0 rfl rfl hi dX5_drop_32 ?_
        obtain ⟨hi, h⟩ := h
        refine va_iast hx hb hE.1 hP hD hS 1 0 rfl rfl hi dX5_drop_33 (fun H locs hP hD hS => ?_)
        have hP : va_P D vwCl [(a_t, .inr (4, [.ref a_t_pages, .int v_t_count])), (a_t_pages, .inl (kI, 64, .inl (upd v_t_pages x2.toNatClampNeg (v_t_pages x3.toNatClampNeg))))] H := hP
        have hD : va_D A [(a_t, .inr (4, [.ref a_t_pages, .int v_t_count])), (a_t_pages, .inl (kI, 64, .inl (upd v_t_pages x2.toNatClampNeg (v_t_pages x3.toNatClampNeg))))] := hD
        refine lv_iinc (v := (x2 + 1)) (lv' := [(2, .int (x2 + 1)), (0, .ref a_t), (1, .int p1), (3, .int x3)]) hx hb dX5_drop_34 hl (k := 2) rfl rfl (by decide) rfl (fun ls hl => ?_)
        exact B_37 _ hI_4 _ _ _ _ h _ _ hP hD hS _ (lv_sub hl [1, 2, 0, 3] rfl)
  intro ls hl
  have hl : lv_has ls 4 [(0, .ref a_t), (1, .int p1)] := hl
  refine lv_iconst (v := 0) hx hb dX5_drop_0 (by decide) ?_
  refine lv_istore_n (lv' := [(2, .int 0), (0, .ref a_t), (1, .int p1)]) hx hb dX5_drop_1 rfl hl (by decide) rfl (fun ls hl => ?_)
  refine lv_iconst (v := 0) hx hb dX5_drop_2 (by decide) ?_
  refine lv_istore_n (lv' := [(3, .int 0), (2, .int 0), (0, .ref a_t), (1, .int p1)]) hx hb dX5_drop_3 rfl hl (by decide) rfl (fun ls hl => ?_)
  exact B_4  _ _ _ _ h _ _ hP hD hS _ (lv_sub hl [2, 3, 1, 0] rfl)
set_option maxHeartbeats 4000000 in
set_option maxRecDepth 100000 in
theorem c_X5_addMostRecent (l : Launch) {D : va_G} {kI kZ kJ kD : ClassId} (a_t a_t_pages : Nat) (sz : Nat) (v_t_count : Int32) (v_t_pages : Nat → Int32) (p1 : Int32) (Q : Int32 → (Nat → Int32) → Prop) (h : wR_X5_addMostRecent p1 v_t_count v_t_pages Q) : Met l yX5_addMostRecent (wM yX5_addMostRecent cX5_addMostRecent 2 none) ({ frames := 0, cells := 0, slots := 0, locals := 0 } : Room) (va_Pc [.ref a_t, .int p1] (gS D kI kZ kJ kD [(a_t, .inr (4, [.ref a_t_pages, .int v_t_count])), (a_t_pages, .inl (kI, 64, .inl v_t_pages))] sz)) (va_Qv (S := (Int32 × (Nat → Int32))) (fun u => Q u.1 u.2) (fun u t => va_P D vwCl [(a_t, .inr (4, [.ref a_t_pages, .int u.1])), (a_t_pages, .inl (kI, 64, .inl u.2))] t.heap) (va_A [(a_t, .inr (4, [.ref a_t_pages, .int v_t_count])), (a_t_pages, .inl (kI, 64, .inl v_t_pages))] sz)) 0 0 (va_A [(a_t, .inr (4, [.ref a_t_pages, .int v_t_count])), (a_t_pages, .inl (kI, 64, .inl v_t_pages))] sz) := by
  refine g_met_v (own := RX5) (y := yX5_addMostRecent) (by decide) rfl (Nat.le_of_ble_eq_true rfl) ?_
  intro p e s m args below meth c A QQ hx hb hml hts hown hE hA hP hD hS hret
  have B_29 : ∀  (v_t_count : Int32) (v_t_pages : Nat → Int32), wR_X5_addMostRecent_29 p1 Q  v_t_count v_t_pages → gW p l e ({ frames := 0, cells := 0, slots := 0, locals := 0 } : Room) s m args below meth c QQ A D 2 [(a_t, .inr (4, [.ref a_t_pages, .int v_t_count])), (a_t_pages, .inl (kI, 64, .inl v_t_pages))] [] 29 [] := by
    intro  v_t_count v_t_pages h
    intro H locs hP hD hS ls hl
    exact hret _ _ _ _ (v_t_count, v_t_pages) dX5_addMostRecent_29 h hP hS
  intro ls hl
  have hl : lv_has ls 2 [(0, .ref a_t), (1, .int p1)] := hl
  refine lv_aload_n hx hb dX5_addMostRecent_0 rfl (lv_at hl 0 rfl) ?_
  refine gf_X5_15_4 hx hb hts hown hE hP 0 rfl rfl dX5_addMostRecent_1 ?_
  refine lv_bipush (v := 64) hx hb dX5_addMostRecent_4 (by decide) ?_
  refine lv_icmp_ge (tgt := 29) hx hb dX5_addMostRecent_6 (by decide) (fun c => ?_) (fun c => ?_)
  · have h := h.1 c
    exact B_29  _ _ h _ _ hP hD hS _ (lv_sub hl [] rfl)
  · have h := h.2 c
    refine lv_aload_n hx hb dX5_addMostRecent_9 rfl (lv_at hl 0 rfl) ?_
    refine gf_X5_9_4 hx hb hts hown hE hP 0 rfl rfl dX5_addMostRecent_10 ?_
    refine lv_aload_n hx hb dX5_addMostRecent_13 rfl (lv_at hl 0 rfl) ?_
    refine gf_X5_15_4 hx hb hts hown hE hP 0 rfl rfl dX5_addMostRecent_14 ?_
    refine lv_iload_n hx hb dX5_addMostRecent_17 rfl (lv_at hl 1 rfl) ?_
    obtain ⟨hi, h⟩ := h
    refine va_iast hx hb hE.1 hP hD hS 1 0 rfl rfl hi dX5_addMostRecent_18 (fun H locs hP hD hS => ?_)
    have hP : va_P D vwCl [(a_t, .inr (4, [.ref a_t_pages, .int v_t_count])), (a_t_pages, .inl (kI, 64, .inl (upd v_t_pages v_t_count.toNatClampNeg p1)))] H := hP
    have hD : va_D A [(a_t, .inr (4, [.ref a_t_pages, .int v_t_count])), (a_t_pages, .inl (kI, 64, .inl (upd v_t_pages v_t_count.toNatClampNeg p1)))] := hD
    refine lv_aload_n hx hb dX5_addMostRecent_19 rfl (lv_at hl 0 rfl) ?_
    refine lv_dup hx hb dX5_addMostRecent_20 rfl ?_
    refine gf_X5_15_4 hx hb hts hown hE hP 0 rfl rfl dX5_addMostRecent_21 ?_
    refine lv_iconst (v := 1) hx hb dX5_addMostRecent_24 (by decide) ?_
    refine lv_iadd hx hb dX5_addMostRecent_25 ?_
    refine pf_X5_15_4 hx hb hts hown hE hP hD hS 0 rfl (Nat.le_of_ble_eq_true rfl) dX5_addMostRecent_26 (fun H locs hP hD hS => ?_)
    have hP : va_P D vwCl [(a_t, .inr (4, [.ref a_t_pages, .int (v_t_count + 1)])), (a_t_pages, .inl (kI, 64, .inl (upd v_t_pages v_t_count.toNatClampNeg p1)))] H := hP
    have hD : va_D A [(a_t, .inr (4, [.ref a_t_pages, .int (v_t_count + 1)])), (a_t_pages, .inl (kI, 64, .inl (upd v_t_pages v_t_count.toNatClampNeg p1)))] := hD
    exact B_29  _ _ h _ _ hP hD hS _ (lv_sub hl [] rfl)
set_option maxHeartbeats 4000000 in
set_option maxRecDepth 100000 in
theorem c_X5_leastRecent (l : Launch) {D : va_G} {kI kZ kJ kD : ClassId} (a_t a_t_pages : Nat) (sz : Nat) (v_t_count : Int32) (v_t_pages : Nat → Int32) (Q : Int32 → Prop) (h : wR_X5_leastRecent v_t_count v_t_pages Q) : Met l yX5_leastRecent (wM yX5_leastRecent cX5_leastRecent 1 (some .int)) ({ frames := 0, cells := 0, slots := 0, locals := 0 } : Room) (va_Pc [.ref a_t] (gS D kI kZ kJ kD [(a_t, .inr (4, [.ref a_t_pages, .int v_t_count])), (a_t_pages, .inl (kI, 64, .inl v_t_pages))] sz)) (va_Qi (S := Unit) (fun r u => Q r ) (fun u t => va_P D vwCl [(a_t, .inr (4, [.ref a_t_pages, .int v_t_count])), (a_t_pages, .inl (kI, 64, .inl v_t_pages))] t.heap) (va_A [(a_t, .inr (4, [.ref a_t_pages, .int v_t_count])), (a_t_pages, .inl (kI, 64, .inl v_t_pages))] sz)) 0 0 (va_A [(a_t, .inr (4, [.ref a_t_pages, .int v_t_count])), (a_t_pages, .inl (kI, 64, .inl v_t_pages))] sz) := by
  refine g_met_i (own := RX5) (y := yX5_leastRecent) (by decide) rfl (Nat.le_of_ble_eq_true rfl) ?_
  intro p e s m args below meth c A QQ hx hb hml hts hown hE hA hP hD hS hret
  have B_17 : ∀  (s0 : Int32), wR_X5_leastRecent_17 v_t_count v_t_pages Q  s0 → gW p l e ({ frames := 0, cells := 0, slots := 0, locals := 0 } : Room) s m args below meth c QQ A D 1 [(a_t, .inr (4, [.ref a_t_pages, .int v_t_count])), (a_t_pages, .inl (kI, 64, .inl v_t_pages))] [] 17 [.int s0] := by
    intro  s0 h
    intro H locs hP hD hS ls hl
    exact hret _ _ _ _ s0 () dX5_leastRecent_17 h hP hS
  intro ls hl
  have hl : lv_has ls 1 [(0, .ref a_t)] := hl
  refine lv_aload_n hx hb dX5_leastRecent_0 rfl (lv_at hl 0 rfl) ?_
  refine gf_X5_15_4 hx hb hts hown hE hP 0 rfl rfl dX5_leastRecent_1 ?_
  refine lv_if_le (tgt := 16) hx hb dX5_leastRecent_4 (by decide) (fun c => ?_) (fun c => ?_)
  · have h := h.1 c
    refine lv_iconst (v := (-1)) hx hb dX5_leastRecent_16 (by decide) ?_
    exact B_17  _ h _ _ hP hD hS _ (lv_sub hl [] rfl)
  · have h := h.2 c
    refine lv_aload_n hx hb dX5_leastRecent_7 rfl (lv_at hl 0 rfl) ?_
    refine gf_X5_9_4 hx hb hts hown hE hP 0 rfl rfl dX5_leastRecent_8 ?_
    refine lv_iconst (v := 0) hx hb dX5_leastRecent_11 (by decide) ?_
    obtain ⟨hi, h⟩ := h
    refine va_iald hx hb hE.1 hP 1 0 rfl rfl hi dX5_leastRecent_12 ?_
    refine lv_goto (tgt := 17) hx hb dX5_leastRecent_13 (by decide) ?_
    exact B_17  _ h _ _ hP hD hS _ (lv_sub hl [] rfl)
set_option maxHeartbeats 4000000 in
set_option maxRecDepth 100000 in
theorem c_X5_dropLeastRecent (l : Launch) {D : va_G} {kI kZ kJ kD : ClassId} (a_t a_t_pages : Nat) (sz : Nat) (v_t_count : Int32) (v_t_pages : Nat → Int32) (Q : Int32 → Int32 → (Nat → Int32) → Prop) (h : wR_X5_dropLeastRecent v_t_count v_t_pages Q) : Met l yX5_dropLeastRecent (wM yX5_dropLeastRecent cX5_dropLeastRecent 2 (some .int)) ({ frames := 1, cells := 0, slots := 0, locals := 23 } : Room) (va_Pc [.ref a_t] (gS D kI kZ kJ kD [(a_t, .inr (4, [.ref a_t_pages, .int v_t_count])), (a_t_pages, .inl (kI, 64, .inl v_t_pages))] sz)) (va_Qi (S := (Int32 × (Nat → Int32))) (fun r u => Q r u.1 u.2) (fun u t => va_P D vwCl [(a_t, .inr (4, [.ref a_t_pages, .int u.1])), (a_t_pages, .inl (kI, 64, .inl u.2))] t.heap) (va_A [(a_t, .inr (4, [.ref a_t_pages, .int v_t_count])), (a_t_pages, .inl (kI, 64, .inl v_t_pages))] sz)) 0 0 (va_A [(a_t, .inr (4, [.ref a_t_pages, .int v_t_count])), (a_t_pages, .inl (kI, 64, .inl v_t_pages))] sz) := by
  refine g_met_i (own := RX5) (y := yX5_dropLeastRecent) (by decide) rfl (Nat.le_of_ble_eq_true rfl) ?_
  intro p e s m args below meth c A QQ hx hb hml hts hown hE hA hP hD hS hret
  intro ls hl
  have hl : lv_has ls 2 [(0, .ref a_t)] := hl
  refine lv_aload_n hx hb dX5_dropLeastRecent_0 rfl (lv_at hl 0 rfl) ?_
  refine gce_i (va_runV (As := []) (rest := []) ⟨hx, hb, hml, hown, hts⟩ (c_X5_leastRecent l (D := D) (kI := kI) (kZ := kZ) (kJ := kJ) (kD := kD) a_t a_t_pages _ v_t_count v_t_pages _ h) (k_X5_19_X5 hts hE _ ⟨Nat.le_of_ble_eq_true rfl, Nat.le_of_ble_eq_true rfl⟩) (gp_V (q0 := 0) hE hP hD [0, 1] rfl rfl rfl rfl rfl) rfl rfl hl.1 rfl (lv_room (Nat.le_of_ble_eq_true rfl)) dX5_dropLeastRecent_1 ⟨Nat.le_of_ble_eq_true rfl, Nat.le_of_ble_eq_true rfl⟩) hD hS hA (fun _ => rfl) (fun r1 u H locs h hP hD hS => ?_)
  have hP : va_P D vwCl [(a_t, .inr (4, [.ref a_t_pages, .int v_t_count])), (a_t_pages, .inl (kI, 64, .inl v_t_pages))] H := hP
  have hD : va_D A [(a_t, .inr (4, [.ref a_t_pages, .int v_t_count])), (a_t_pages, .inl (kI, 64, .inl v_t_pages))] := hD
  refine lv_istore_n (lv' := [(1, .int r1), (0, .ref a_t)]) hx hb dX5_dropLeastRecent_4 rfl hl (by decide) rfl (fun ls hl => ?_)
  refine lv_aload_n hx hb dX5_dropLeastRecent_5 rfl (lv_at hl 1 rfl) ?_
  refine lv_iload_n hx hb dX5_dropLeastRecent_6 rfl (lv_at hl 0 rfl) ?_
  refine gce_v (va_runV (As := [.int r1]) (rest := []) ⟨hx, hb, hml, hown, hts⟩ (c_X5_drop l (D := D) (kI := kI) (kZ := kZ) (kJ := kJ) (kD := kD) a_t a_t_pages _ v_t_count v_t_pages r1 _ h) (k_X5_23_X5 hts hE _ ⟨Nat.le_of_ble_eq_true rfl, Nat.le_of_ble_eq_true rfl⟩) (gp_V (q0 := 0) hE hP hD [0, 1] rfl rfl rfl rfl rfl) rfl rfl hl.1 rfl (lv_room (Nat.le_of_ble_eq_true rfl)) dX5_dropLeastRecent_7 ⟨Nat.le_of_ble_eq_true rfl, Nat.le_of_ble_eq_true rfl⟩) hD hS hA (fun _ => rfl) (fun u2 H locs h hP hD hS => ?_)
  have hP : va_P D vwCl [(a_t, .inr (4, [.ref a_t_pages, .int u2.1])), (a_t_pages, .inl (kI, 64, .inl u2.2))] H := hP
  have hD : va_D A [(a_t, .inr (4, [.ref a_t_pages, .int u2.1])), (a_t_pages, .inl (kI, 64, .inl u2.2))] := hD
  refine lv_iload_n hx hb dX5_dropLeastRecent_10 rfl (lv_at hl 0 rfl) ?_
  exact hret _ _ _ _ r1 u2 dX5_dropLeastRecent_11 h hP hS
