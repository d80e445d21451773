theorem dL_cell_0 : decode cL_cell 0 = .ok (.iload_n 1, 1) := by decide +kernel
theorem dL_cell_1 : decode cL_cell 1 = .ok (.aload_n 0, 1) := by decide +kernel
theorem dL_cell_2 : decode cL_cell 2 = .ok (.arraylength, 1) := by decide +kernel
theorem dL_cell_3 : decode cL_cell 3 = .ok (.if_icmp .ge 9, 3) := by decide +kernel
theorem dL_cell_6 : decode cL_cell 6 = .ok (.aload_n 0, 1) := by decide +kernel
theorem dL_cell_7 : decode cL_cell 7 = .ok (.iload_n 1, 1) := by decide +kernel
theorem dL_cell_8 : decode cL_cell 8 = .ok (.iaload, 1) := by decide +kernel
theorem dL_cell_9 : decode cL_cell 9 = .ok (.goto 18, 3) := by decide +kernel
theorem dL_cell_12 : decode cL_cell 12 = .ok (.sipush 7919, 3) := by decide +kernel
theorem dL_cell_15 : decode cL_cell 15 = .ok (.iload_n 1, 1) := by decide +kernel
theorem dL_cell_16 : decode cL_cell 16 = .ok (.sipush 131, 3) := by decide +kernel
theorem dL_cell_19 : decode cL_cell 19 = .ok (.iadd, 1) := by decide +kernel
theorem dL_cell_20 : decode cL_cell 20 = .ok (.imul, 1) := by decide +kernel
theorem dL_cell_21 : decode cL_cell 21 = .ok (.iload_n 1, 1) := by decide +kernel
theorem dL_cell_22 : decode cL_cell 22 = .ok (.sipush 1831, 3) := by decide +kernel
theorem dL_cell_25 : decode cL_cell 25 = .ok (.iadd, 1) := by decide +kernel
theorem dL_cell_26 : decode cL_cell 26 = .ok (.imul, 1) := by decide +kernel
theorem dL_cell_27 : decode cL_cell 27 = .ok (.ireturn, 1) := by decide +kernel
/-! the law's own methods: what is made is counted, from above (cells) and from below (n) -/
def gK (p : Program) (l : Launch) (e : Env) (R : Room) (s : State) (m : MethodId) (args : Array Value) (below : List Frame) (meth : Method) (c : Code) (Q : State → Prop) (A : Nat → Prop) (D : va_G) (nL : Nat) (ws : va_W) (lv : List (Nat × Value)) (pc : Nat) (st : List Value) (ce sl n : Nat) : Prop :=
  ∀ (H : Heap) (locs : List Loc), va_P D vwCl ws H → va_D A ws → va_S A s.heap H locs → s.heap.size + n ≤ H.size → ∀ ls : Array Slot, lv_has ls nL lv → W p l e R s m args below meth c H locs ce sl Q (F0 m pc ls st)
section GKC
variable {p : Program} {l : Launch} {e : Env} {R : Room} {s : State} {m : MethodId} {args : Array Value} {below : List Frame} {meth : Method} {c : Code} {H : Heap} {locs : List Loc} {cells slots : Nat} {Q : State → Prop}
variable {D : va_G} {kI kZ kJ kD : ClassId} {ws wc : va_W} {A A1 : Nat → Prop} {H0 : Heap} {pc : Nat} {ls : Array Slot} {rest st0 : List Value} {a : Array Value} {mc ms : Nat}
theorem gcN_i {S : Type} {post : Int32 → S → Prop} {w1 : S → va_W} (hr : va_Run p l e R s m args below meth c H locs cells slots mc ms (F0 m pc ls st0) rest (va_Qi post (fun u t => va_P D vwCl (w1 u) t.heap) (va_A wc H.size) a) (va_A wc H.size))
    (hP : va_P D vwCl ws H) (hD : va_D A ws) (hS : va_S A H0 H locs) (hA : ∀ q, H0.size ≤ q → A q) (isC : List Nat) (hs : gAsc isC = true) (hC : isC.map (fun i => ws[i]?) = wc.map some) (hl : ∀ u, (w1 u).map (·.1) = wc.map (·.1))
    (kk : ∀ (r : Int32) (u : S) (H1 : Heap) (locs1 : List Loc), post r u → va_P D vwCl (gU 0 isC (w1 u) ws) H1 → va_D A (gU 0 isC (w1 u) ws) → va_S A H0 H1 locs1 → H.size ≤ H1.size → W p l e R s m args below meth c H1 locs1 (cells + mc) (slots + ms) Q (F0 m (pc + 3) ls (.int r :: rest))) : W p l e R s m args below meth c H locs cells slots Q (F0 m pc ls st0) := by
  have hF := va_free hD hS hA isC hC
  refine va_calli hr hS (fun q _ h => hF q h) hF (fun r u t H1 locs1 ht _ hw hB hz hk hS1 => ?_)
  rw [ht] at hB
  exact kk r u H1 locs1 hw (gP_joinU hP hD isC hs hC (hl u) hk hB) (gD_same hD (gU_fst ws 0 isC _ wc (fun i _ => Nat.zero_le i) (gAsc_ok hs) hC (hl u))) hS1 hz
theorem gcN_f {S : Type} {post : UInt32 → S → Prop} {w1 : S → va_W} (hr : va_Run p l e R s m args below meth c H locs cells slots mc ms (F0 m pc ls st0) rest (va_Qf post (fun u t => va_P D vwCl (w1 u) t.heap) (va_A wc H.size) a) (va_A wc H.size))
    (hP : va_P D vwCl ws H) (hD : va_D A ws) (hS : va_S A H0 H locs) (hA : ∀ q, H0.size ≤ q → A q) (isC : List Nat) (hs : gAsc isC = true) (hC : isC.map (fun i => ws[i]?) = wc.map some) (hl : ∀ u, (w1 u).map (·.1) = wc.map (·.1))
    (kk : ∀ (r : UInt32) (u : S) (H1 : Heap) (locs1 : List Loc), post r u → va_P D vwCl (gU 0 isC (w1 u) ws) H1 → va_D A (gU 0 isC (w1 u) ws) → va_S A H0 H1 locs1 → H.size ≤ H1.size → W p l e R s m args below meth c H1 locs1 (cells + mc) (slots + ms) Q (F0 m (pc + 3) ls (.float r :: rest))) : W p l e R s m args below meth c H locs cells slots Q (F0 m pc ls st0) := by
  have hF := va_free hD hS hA isC hC
  refine va_callf hr hS (fun q _ h => hF q h) hF (fun r u t H1 locs1 ht _ hw hB hz hk hS1 => ?_)
  rw [ht] at hB
  exact kk r u H1 locs1 hw (gP_joinU hP hD isC hs hC (hl u) hk hB) (gD_same hD (gU_fst ws 0 isC _ wc (fun i _ => Nat.zero_le i) (gAsc_ok hs) hC (hl u))) hS1 hz
theorem gcN_v {S : Type} {post : S → Prop} {w1 : S → va_W} (hr : va_Run p l e R s m args below meth c H locs cells slots mc ms (F0 m pc ls st0) rest (va_Qv post (fun u t => va_P D vwCl (w1 u) t.heap) (va_A wc H.size) a) (va_A wc H.size))
    (hP : va_P D vwCl ws H) (hD : va_D A ws) (hS : va_S A H0 H locs) (hA : ∀ q, H0.size ≤ q → A q) (isC : List Nat) (hs : gAsc isC = true) (hC : isC.map (fun i => ws[i]?) = wc.map some) (hl : ∀ u, (w1 u).map (·.1) = wc.map (·.1))
    (kk : ∀ (u : S) (H1 : Heap) (locs1 : List Loc), post u → va_P D vwCl (gU 0 isC (w1 u) ws) H1 → va_D A (gU 0 isC (w1 u) ws) → va_S A H0 H1 locs1 → H.size ≤ H1.size → W p l e R s m args below meth c H1 locs1 (cells + mc) (slots + ms) Q (F0 m (pc + 3) ls rest)) : W p l e R s m args below meth c H locs cells slots Q (F0 m pc ls st0) := by
  have hF := va_free hD hS hA isC hC
  refine va_callv hr hS (fun q _ h => hF q h) hF (fun u t H1 locs1 ht _ hw hB hz hk hS1 => ?_)
  rw [ht] at hB
  exact kk u H1 locs1 hw (gP_joinU hP hD isC hs hC (hl u) hk hB) (gD_same hD (gU_fst ws 0 isC _ wc (fun i _ => Nat.zero_le i) (gAsc_ok hs) hC (hl u))) hS1 hz
/-- a call that makes cells, at the least kf of them -/
theorem gcK_i {S : Type} {post : Int32 → S → Prop} {w1 : S → va_W} {kf : S → Nat} (hr : va_Run p l e R s m args below meth c H locs cells slots mc ms (F0 m pc ls st0) rest (va_Qi post (fun u t => va_P D vwCl (w1 u) t.heap ∧ H.size + kf u ≤ t.heap.size) (va_A wc H.size) a) (va_A wc H.size))
    (hP : va_P D vwCl ws H) (hD : va_D A ws) (hS : va_S A H0 H locs) (hA : ∀ q, H0.size ≤ q → A q) (isC : List Nat) (hs : gAsc isC = true) (hC : isC.map (fun i => ws[i]?) = wc.map some) (hl : ∀ u, (w1 u).map (·.1) = wc.map (·.1))
    (kk : ∀ (r : Int32) (u : S) (H1 : Heap) (locs1 : List Loc), post r u → va_P D vwCl (gU 0 isC (w1 u) ws) H1 → va_D A (gU 0 isC (w1 u) ws) → va_S A H0 H1 locs1 → H.size + kf u ≤ H1.size → W p l e R s m args below meth c H1 locs1 (cells + mc) (slots + ms) Q (F0 m (pc + 3) ls (.int r :: rest))) : W p l e R s m args below meth c H locs cells slots Q (F0 m pc ls st0) := by
  have hF := va_free hD hS hA isC hC
  refine va_calli hr hS (fun q _ h => hF q h) hF (fun r u t H1 locs1 ht _ hw hB _ hk hS1 => ?_)
  rw [ht] at hB
  exact kk r u H1 locs1 hw (gP_joinU hP hD isC hs hC (hl u) hk hB.1) (gD_same hD (gU_fst ws 0 isC _ wc (fun i _ => Nat.zero_le i) (gAsc_ok hs) hC (hl u))) hS1 hB.2
/-- a look at the script -/
theorem gp_cell {b L : Nat} {xs : Nat → Int32} {k : Int32} (hE : gE D kI kZ kJ kD s) (hX : va_X b L xs s s.heap) (hbl : b < s.heap.size) (hbA : ¬ A b) (hS : va_S A s.heap H locs) : PreS s H (va_Pc [.ref b, .int k] (fun U => U.heap.size = H.size ∧ gE D kI kZ kJ kD U ∧ va_X b L xs U U.heap ∧ b < H.size)) [.ref b, .int k] :=
  ⟨fun _ U g mk q => ⟨q.1, q.2.1, gE_blind q.2.2.1, va_X.moved (u := U) (U := U.calling g mk _) (Vm.Alike.refl U.vm) q.2.2.2.1, q.2.2.2.2⟩, fun U hU hW => ⟨rfl, by rw [hU], gE_warm hW hE, by rw [hU]; exact va_X.moved hW.alike (hX.kept (hS.2.1 b hbl hbA)), Nat.lt_of_lt_of_le hbl hS.1⟩⟩
theorem gc_cell {Q1 : Int32 → Prop} (hr : va_Run p l e R s m args below meth c H locs cells slots mc ms (F0 m pc ls st0) rest (va_Qi (S := Unit) (fun r _ => Q1 r) (fun _ _ => True) (fun q => H.size ≤ q) a) (fun q => H.size ≤ q))
    (hP : va_P D vwCl ws H) (hD : va_D A ws) (hS : va_S A H0 H locs) (hA : ∀ q, H0.size ≤ q → A q)
    (kk : ∀ (r : Int32) (H1 : Heap) (locs1 : List Loc), Q1 r → va_P D vwCl ws H1 → va_D A ws → va_S A H0 H1 locs1 → H.size ≤ H1.size → W p l e R s m args below meth c H1 locs1 (cells + mc) (slots + ms) Q (F0 m (pc + 3) ls (.int r :: rest))) : W p l e R s m args below meth c H locs cells slots Q (F0 m pc ls st0) := by
  refine va_calli hr hS (fun q h1 h2 => absurd h1 (Nat.not_lt.mpr h2)) (fun q h => hA q (Nat.le_trans hS.1 h)) (fun r u t H1 locs1 ht _ hw hB hz hk hS1 => ?_)
  exact kk r H1 locs1 hw (fun k q hq => (hP k q hq).kept (hk _ (hP k q hq).lt (Nat.not_le.mpr (hP k q hq).lt))) hD hS1 hz
end GKC
section GKM
variable {l : Launch} {D : va_G} {kI kZ kJ kD : ClassId} {y : MethodName} {cc : ByteArray} {maxL : Nat} {rm : Room} {own : String} {W0 : va_W} {sz : Nat} {av : List Value} {S : Type} {hh : List (Nat × Nat × Nat × Nat)} {mc ms : Nat}
theorem g_metkw {post : Int32 → S → Prop} {w1 : S → va_W} {kf : S → Nat} (hy : plainName y.cls = true) (hc : y.cls = own) (hlen : (lg_sl av).length ≤ maxL)
    (body : ∀ (p : Program) (e : Env) (s : State) (m : MethodId) (args : Array Value) (below : List Frame) (meth : Method) (c : Code) (A : Nat → Prop) (Q : State → Prop), p.tables.exec = Jvm.exec → c.code = cc → c.maxLocals = maxL → (∀ w ∈ wA, w.before args s = true) → s.vm.findClass own = some m.cls → gE D kI kZ kJ kD s → gZ A s s.heap → (∀ q : Nat, s.heap.size ≤ q → A q) → va_P D vwCl W0 s.heap → va_D A W0 → va_S A s.heap s.heap [] → c.exceptionTable.toList = tableOf hh → (∀ (H : Heap) (locs : List Loc) (pc : Nat) (ls : Array Slot) (v : Int32) (u : S), decode cc pc = .ok (.ireturn, 1) → post v u → va_P D vwCl (w1 u) H → s.heap.size + kf u ≤ H.size → va_S A s.heap H locs → W p l e rm s m args below meth c H locs mc ms Q (F0 m pc ls [.int v])) → ∀ ls : Array Slot, lv_has ls maxL (lv_args 0 av) → W p l e rm s m args below meth c s.heap [] 0 0 Q (F0 m 0 ls [])) :
    Met l y (wMW y cc maxL (some .int) hh) rm (va_Pc av (gSX D kI kZ kJ kD W0 sz)) (va_Qi post (fun u t => va_P D vwCl (w1 u) t.heap ∧ sz + kf u ≤ t.heap.size) (va_A W0 sz)) mc ms (va_A W0 sz) := by
  refine va_MetW (cc := cc) (maxL := maxL) (ret := some .int) (hh := hh) hy rfl ?_
  intro p e s m args below meth c s₁ B hml hv
  obtain ⟨rfl, ⟨hsz, hP, hE, hD0⟩, hZ⟩ := hv
  have hts : ∀ w ∈ wA, w.before _ s = true := fun w hw => atoms_spec (ws := wMW y cc maxL (some .int) hh) B.pre w (List.mem_cons_of_mem _ hw)
  have htab : c.exceptionTable.toList = tableOf hh := vx_table (x := y) B (atoms_spec (ws := wMW y cc maxL (some .int) hh) B.pre _ List.mem_cons_self)
  have hown : s.vm.findClass y.cls = some m.cls := findClass_of_methodNamed B.named
  rw [hc] at hown
  subst hsz
  have hD := hD0.self (sz := s.heap.size)
  rw [lg_entry_eq]
  refine body p e s m _ below meth c (va_A W0 s.heap.size) _ B.exec B.bytes hml hts hown hE hZ (fun q h => Or.inr h) hP hD va_S.rf htab ?_ _ (lv_entry av (n := maxL) hlen)
  intro H locs pc ls v u hd hq hPu hk hS
  exact W.iret (v := v) B.exec B.bytes B.returns (fun t ht hW => ⟨⟨v, u, rfl, hq, by rw [ht]; exact hPu, by rw [ht]; exact hk⟩, hS.F ht⟩) hS.2.2 hd B.notSynchronized
theorem g_metk_i {post : Int32 → S → Prop} {w1 : S → va_W} {kf : S → Nat} (hy : plainName y.cls = true) (hc : y.cls = own) (hlen : (lg_sl av).length ≤ maxL)
    (body : ∀ (p : Program) (e : Env) (s : State) (m : MethodId) (args : Array Value) (below : List Frame) (meth : Method) (c : Code) (A : Nat → Prop) (Q : State → Prop), p.tables.exec = Jvm.exec → c.code = cc → c.maxLocals = maxL → (∀ w ∈ wA, w.before args s = true) → s.vm.findClass own = some m.cls → gE D kI kZ kJ kD s → gZ A s s.heap → (∀ q : Nat, s.heap.size ≤ q → A q) → va_P D vwCl W0 s.heap → va_D A W0 → va_S A s.heap s.heap [] → (∀ (H : Heap) (locs : List Loc) (pc : Nat) (ls : Array Slot) (v : Int32) (u : S), decode cc pc = .ok (.ireturn, 1) → post v u → va_P D vwCl (w1 u) H → s.heap.size + kf u ≤ H.size → va_S A s.heap H locs → W p l e rm s m args below meth c H locs mc ms Q (F0 m pc ls [.int v])) → ∀ ls : Array Slot, lv_has ls maxL (lv_args 0 av) → W p l e rm s m args below meth c s.heap [] 0 0 Q (F0 m 0 ls [])) :
    Met l y (wM y cc maxL (some .int)) rm (va_Pc av (gSX D kI kZ kJ kD W0 sz)) (va_Qi post (fun u t => va_P D vwCl (w1 u) t.heap ∧ sz + kf u ≤ t.heap.size) (va_A W0 sz)) mc ms (va_A W0 sz) := by
  refine Met.ofW (cc := cc) (maxL := maxL) (ret := some .int) hy rfl ?_
  intro p e s m args below meth c s₁ B hml hv
  obtain ⟨rfl, ⟨hsz, hP, hE, hD0⟩, hZ⟩ := hv
  have hts : ∀ w ∈ wA, w.before _ s = true := fun w hw => atoms_spec (ws := wM y cc maxL (some .int)) B.pre w (List.mem_cons_of_mem _ hw)
  have hown : s.vm.findClass y.cls = some m.cls := findClass_of_methodNamed B.named
  rw [hc] at hown
  subst hsz
  have hD := hD0.self (sz := s.heap.size)
  rw [lg_entry_eq]
  refine body p e s m _ below meth c (va_A W0 s.heap.size) _ B.exec B.bytes hml hts hown hE hZ (fun q h => Or.inr h) hP hD va_S.rf ?_ _ (lv_entry av (n := maxL) hlen)
  intro H locs pc ls v u hd hq hPu hk hS
  exact W.iret (v := v) B.exec B.bytes B.returns (fun t ht hW => ⟨⟨v, u, rfl, hq, by rw [ht]; exact hPu, by rw [ht]; exact hk⟩, hS.F ht⟩) hS.2.2 hd B.notSynchronized
theorem g_metk_z {post : Int32 → S → Prop} {w1 : S → va_W} {kf : S → Nat} (hy : plainName y.cls = true) (hc : y.cls = own) (hlen : (lg_sl av).length ≤ maxL)
    (body : ∀ (p : Program) (e : Env) (s : State) (m : MethodId) (args : Array Value) (below : List Frame) (meth : Method) (c : Code) (A : Nat → Prop) (Q : State → Prop), p.tables.exec = Jvm.exec → c.code = cc → c.maxLocals = maxL → (∀ w ∈ wA, w.before args s = true) → s.vm.findClass own = some m.cls → gE D kI kZ kJ kD s → gZ A s s.heap → (∀ q : Nat, s.heap.size ≤ q → A q) → va_P D vwCl W0 s.heap → va_D A W0 → va_S A s.heap s.heap [] → (∀ (H : Heap) (locs : List Loc) (pc : Nat) (ls : Array Slot) (v : Int32) (u : S), decode cc pc = .ok (.ireturn, 1) → (v = 0 ∨ v = 1) → post v u → va_P D vwCl (w1 u) H → s.heap.size + kf u ≤ H.size → va_S A s.heap H locs → W p l e rm s m args below meth c H locs mc ms Q (F0 m pc ls [.int v])) → ∀ ls : Array Slot, lv_has ls maxL (lv_args 0 av) → W p l e rm s m args below meth c s.heap [] 0 0 Q (F0 m 0 ls [])) :
    Met l y (wM y cc maxL (some .boolean)) rm (va_Pc av (gSX D kI kZ kJ kD W0 sz)) (va_Qi post (fun u t => va_P D vwCl (w1 u) t.heap ∧ sz + kf u ≤ t.heap.size) (va_A W0 sz)) mc ms (va_A W0 sz) := by
  refine Met.ofW (cc := cc) (maxL := maxL) (ret := some .boolean) hy rfl ?_
  intro p e s m args below meth c s₁ B hml hv
  obtain ⟨rfl, ⟨hsz, hP, hE, hD0⟩, hZ⟩ := hv
  have hts : ∀ w ∈ wA, w.before _ s = true := fun w hw => atoms_spec (ws := wM y cc maxL (some .boolean)) B.pre w (List.mem_cons_of_mem _ hw)
  have hown : s.vm.findClass y.cls = some m.cls := findClass_of_methodNamed B.named
  rw [hc] at hown
  subst hsz
  have hD := hD0.self (sz := s.heap.size)
  rw [lg_entry_eq]
  refine body p e s m _ below meth c (va_A W0 s.heap.size) _ B.exec B.bytes hml hts hown hE hZ (fun q h => Or.inr h) hP hD va_S.rf ?_ _ (lv_entry av (n := maxL) hlen)
  intro H locs pc ls v u hd hz hq hPu hk hS
  exact W.zret (v := v) B.exec B.bytes B.returns (g_bool hz) (fun t ht hW => ⟨⟨v, u, rfl, hq, by rw [ht]; exact hPu, by rw [ht]; exact hk⟩, hS.F ht⟩) hS.2.2 hd B.notSynchronized
end GKM
/-- the law's look at its script -/
theorem c_L_cell (l : Launch) {D : va_G} {kI kZ kJ kD : ClassId} (b L : Nat) (xs : Nat → Int32) (sz : Nat) (p2 : Int32) (Q : Int32 → Prop) (h : wR_L_cell L xs p2 Q) : Met l yL_cell (wM yL_cell cL_cell 2 (some .int)) ({ frames := 0, cells := 0, slots := 0, locals := 0 } : Room) (va_Pc [.ref b, .int p2] (fun U => U.heap.size = sz ∧ gE D kI kZ kJ kD U ∧ va_X b L xs U U.heap ∧ b < sz)) (va_Qi (S := Unit) (fun r _ => Q r) (fun _ _ => True) (fun q => sz ≤ q)) 0 0 (fun q => sz ≤ q) := by
  refine Met.ofW (cc := cL_cell) (maxL := 2) (ret := some .int) (by decide) rfl ?_
  intro p e s m args below meth c s₁ B hml hv
  obtain ⟨rfl, hsz, hE, hX, hbl⟩ := hv
  subst hsz
  have hx := B.exec
  have hb := B.bytes
  have hS : va_S (fun q : Nat => s.heap.size ≤ q) s.heap s.heap [] := va_S.rf
  have hbA : ¬ (fun q : Nat => s.heap.size ≤ q) b := Nat.not_le.mpr hbl
  rw [lg_entry_eq]
  have hl0 := lv_entry ([.ref b, .int p2]) (n := 2) (Nat.le_of_ble_eq_true rfl)
  generalize (lg_sl ([.ref b, .int p2]) ++ List.replicate (2 - (lg_sl ([.ref b, .int p2])).length) Slot.unset).toArray = ls at hl0 ⊢
  have hl : lv_has ls 2 [(0, .ref b), (1, .int p2)] := hl0
  have fin : ∀ (v : Int32) (pc : Nat), decode cL_cell pc = .ok (.ireturn, 1) → Q v → W p l e ({ frames := 0, cells := 0, slots := 0, locals := 0 } : Room) s m #[Value.ref b, Value.int p2] below meth c s.heap [] 0 0 (MQ below (va_Qi (S := Unit) (fun r _ => Q r) (fun _ _ => True) (fun q => s.heap.size ≤ q)) #[Value.ref b, Value.int p2] s 0 0 (fun q => s.heap.size ≤ q)) (F0 m pc ls [.int v]) := fun v pc hd hq => W.iret (v := v) B.exec B.bytes B.returns (fun t ht hW => ⟨⟨v, (), rfl, hq, trivial⟩, hS.F ht⟩) hS.2.2 hd B.notSynchronized
  refine lv_iload_n hx hb dL_cell_0 rfl (lv_at hl 1 rfl) ?_
  refine lv_aload_n hx hb dL_cell_1 rfl (lv_at hl 0 rfl) ?_
  refine va_slen hx hb hX hbl hbA hS dL_cell_2 ?_
  refine lv_icmp_ge (tgt := 12) hx hb dL_cell_3 (by decide) (fun c => ?_) (fun c => ?_)
  · have h := h.1 c
    refine lv_sipush (v := 7919) hx hb dL_cell_12 (by decide) ?_
    refine lv_iload_n hx hb dL_cell_15 rfl (lv_at hl 1 rfl) ?_
    refine lv_sipush (v := 131) hx hb dL_cell_16 (by decide) ?_
    refine lv_iadd hx hb dL_cell_19 ?_
    refine lv_imul hx hb dL_cell_20 ?_
    refine lv_iload_n hx hb dL_cell_21 rfl (lv_at hl 1 rfl) ?_
    refine lv_sipush (v := 1831) hx hb dL_cell_22 (by decide) ?_
    refine lv_iadd hx hb dL_cell_25 ?_
    refine lv_imul hx hb dL_cell_26 ?_
    exact fin _ _ dL_cell_27 h
  · obtain ⟨hi, h⟩ := h.2 c
    refine lv_aload_n hx hb dL_cell_6 rfl (lv_at hl 0 rfl) ?_
    refine lv_iload_n hx hb dL_cell_7 rfl (lv_at hl 1 rfl) ?_
    refine va_sld hx hb hX hbl hbA hS hi dL_cell_8 ?_
    refine lv_goto (tgt := 27) hx hb dL_cell_9 (by decide) ?_
    exact fin _ _ dL_cell_27 h
abbrev room_2 : Room := { frames := 12, cells := 900, slots := 9968, locals := 442 }
/-- cells apart, all of them new -/
theorem nd_len {N : Nat} : ∀ (M : Nat) (l : List Nat), l.Nodup → (∀ x ∈ l, N ≤ x ∧ x < M) → N + l.length ≤ max N M := by
  intro M
  induction M with
  | zero =>
    intro l _ h
    cases l with
    | nil => exact Nat.le_max_left _ _
    | cons a t => exact absurd (h a List.mem_cons_self).2 (Nat.not_lt_zero a)
  | succ M ih =>
    intro l hn h
    have h1 := ih (l.filter (fun x => decide (x ≠ M))) (hn.filter _) (fun x hx => by
      obtain ⟨a, b⟩ := List.mem_filter.mp hx
      have := h x a
      have hne : x ≠ M := of_decide_eq_true b
      exact ⟨this.1, by omega⟩)
    by_cases hm : M ∈ l
    · have h2 := (h M hm).1
      have h3 : l.length ≤ (l.filter (fun x => decide (x ≠ M))).length + 1 := by
        have e : (l.filter (fun x => decide (x ≠ M))).length = l.length - l.count M := by
          have := List.length_eq_countP_add_countP (fun x => decide (x ≠ M)) (l := l)
          rw [List.countP_eq_length_filter] at this
          have e2 : l.countP (fun x => decide (¬ (decide (x ≠ M)) = true)) = l.count M := by
            unfold List.count
            refine List.countP_congr (fun x _ => ?_)
            simp
          omega
        have := List.nodup_iff_count.mp hn M
        omega
      omega
    · have e : l.filter (fun x => decide (x ≠ M)) = l := List.filter_eq_self.mpr (fun x hx => decide_eq_true (fun e => hm (e ▸ hx)))
      rw [e] at h1
      omega
theorem gd_count {D : va_G} {cl : List vw_C} {ws : va_W} {H : Heap} {N : Nat} (hP : va_P D cl ws H) (hD : va_D (fun q : Nat => N ≤ q) ws) (hN : N ≤ H.size) : N + ws.length ≤ H.size := by
  have h1 : (ws.map (·.1)).Nodup := by
    refine List.pairwise_iff_getElem.mpr (fun i j hi hj hij he => ?_)
    rw [List.length_map] at hi hj
    rw [List.getElem_map, List.getElem_map] at he
    exact absurd (hD.1 i j _ _ (List.getElem?_eq_getElem hi) (List.getElem?_eq_getElem hj) he) (by omega)
  have h2 := nd_len H.size (ws.map (·.1)) h1 (fun x hx => by
    obtain ⟨q, hq, rfl⟩ := List.mem_map.mp hx
    obtain ⟨k, hk⟩ := List.getElem?_of_mem hq
    exact ⟨hD.2 k q hk, (hP k q hk).lt⟩)
  rw [List.length_map] at h2
  omega

