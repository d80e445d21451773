/-! THE STATEMENT IS FALSE: on the script of the claim's own witness the law makes more cells than its room has -/
def xsW : List Int32 := [-49, -12, 25, 62, 99, 136, 173, -41, -4, 33, 70, 107, 144, 181, -33, 4, 41, 78, 115, 152, 189, -25, 12, 49, 86, 123, 160, -54, -17, 20, 57, 94, 131, 168, -46, -9, 28, 65, 102, 139, 176, -38, -1, 36, 73, 110, 147, 184, -30, 7, 44, 81, 118, 155, -59, -22, 15, 52, 89, 126, 163, -51, -14, 23, 60, 97, 134, 171, -43, -6, 31, 68, 105, 142, 179, -35, 2, 39, 76, 113, 150, 187, -27, 10, 47, 84, 121, 158, -56, -19, 18, 55, 92, 129, 166, -48, -11, 26, 63, 100]
theorem law_false {L : Nat} {xs : Nat → Int32} {ST : Nat → Prop} {RT : Prop} (hL : L < 2 ^ 30) (hST : ST (itN (1 + lw (cellv L xs 0) 8) (cellv L xs 10) (zs (1 + lw (cellv L xs 0) 8) L xs 9))) : wR_L_law L xs ST RT :=
  c_restart (m := 4) (w := 8) (fun _ _ _ _ _ _ _ _ _ _ _ _ _ _ _ _ _ _ _ _ _ _ _ _ _ _ _ _ _ _ _ _ => c_restart (m := 4) (w := 8) (fun _ _ _ _ _ _ _ _ _ _ _ _ _ _ _ _ _ _ _ _ _ _ _ _ _ _ _ _ _ _ _ _ => law_stop hL rfl rfl hST))
theorem count_W : 206 ≤ itN (1 + lw (cellv 100 (fun j => xsW.getD j 0) 0) 8) (cellv 100 (fun j => xsW.getD j 0) 10) (zs (1 + lw (cellv 100 (fun j => xsW.getD j 0) 0) 8) 100 (fun j => xsW.getD j 0) 9) := by decide +kernel
set_option maxHeartbeats 4000000 in
theorem p26_grows {l : Launch} {p : Program} {e : Env} {s : State} {m : MethodId} {args : Array Value} {below : List Frame} {b : Addr} (hflags : l.flags = flags0) (had : l.admits e) (hcas : FairCas e.choices) (hclk : FairClock e.choices) (hfr : s.frames = .invoking m args :: below) (h2 : (headSpec (Jvm.Cond.code x code maxLocals ret :: tables_1) room_2).appliesLoose x e.platform s = true) (hP : lw_P b xsW args s) : ∃ N, (∀ k, k < N → Within (stepsAlone p.tables e k s) below) ∧ s.heap.size + 206 ≤ (stepsAlone p.tables e N s).heap.size := by
  have hl0 : l.stackTraces = false := by
    show (!l.flags.contains noTraceFlag) = false
    rw [hflags]
    decide +kernel
  obtain ⟨meth, c, B, hcode, hml0, hfirst⟩ := BodyLoose.of_appliesLoose (code := code) (maxLocals := maxLocals) (ret := ret) (by decide) (fun args s h => atoms_spec (ws := Jvm.Cond.code x code maxLocals ret :: tables_1) h _ List.mem_cons_self) p had hcas hclk hfr h2
  obtain ⟨rfl, hx, hbd, hgv⟩ := hP
  obtain ⟨scr, harrAt, hlist, hof, hsmall⟩ := hx
  obtain ⟨hcb, hkn, -, -⟩ := State.arrayAt?_spec harrAt
  have hown : s.vm.findClass R_law = some m.cls := findClass_of_methodNamed B.named
  have hts0 : ∀ c ∈ (Jvm.Cond.code x code maxLocals ret :: tables_1), c.before #[Value.ref b] s = true := atoms_spec (ws := Jvm.Cond.code x code maxLocals ret :: tables_1) B.pre
  have hts : ∀ w ∈ lw_tbl, w.before #[Value.ref b] s = true := k2_hts_sels lw_privs (fun w hw => hts0 w (List.mem_cons_of_mem _ hw)) lw_privs_ok
  have hml : c.maxLocals = 8 := B.maxLocals_eq (hts0 _ List.mem_cons_self)
  have X₀ : Stand p l e room_2 s m #[Value.ref b] below meth c _ [] 0 0 := Stand.of_body B
  have hsz : scr.slots.size = xsW.length := by rw [← Array.length_toList, hlist, List.length_map]
  have hval : ∀ j : Nat, j < xsW.length → scr.slots[j]? = some (.int (xsW.getD j 0)) := fun j hj => by
    rw [← Array.getElem?_toList, hlist]
    simp [hj]
  have hbl : b < s.heap.size := (Array.getElem?_eq_some_iff.mp hcb).1
  have hX : va_X b xsW.length (fun j => xsW.getD j 0) s s.heap := ⟨scr, hcb, hof, hkn, hsz, hval⟩
  have K := law_start (p := p) (e := e) (below := below) l hl0 (QQ := fun T => s.heap.size + 206 ≤ T.heap.size) (ST := fun n => 206 ≤ n) (RT := False) (law_false (L := xsW.length) (by decide +kernel) count_W)
    ⟨B.exec, B.bytes, B.returns, hml, hown, hts, hX, hbl, B.notSynchronized, hgv⟩ (fun h => h.elim)
    (fun n H locs ce sl pc ls st hn hN hS T hT X => ⟨T.setTop _, Steps.refl _, by
      show s.heap.size + 206 ≤ T.heap.size
      rw [hT]
      exact Nat.le_trans (Nat.add_le_add_left hn _) hN⟩)
  obtain ⟨t, a1, b1⟩ := K (s.setFrames (.java (entryFrame m #[Value.ref b] maxLocals) :: below)) rfl X₀
  obtain ⟨N, hN, hw⟩ := hfirst.trans a1
  exact ⟨N, hw, by rw [hN]; exact b1⟩
theorem p26_not {l : Launch} {p : Program} {e : Env} {s : State} {m : MethodId} {args : Array Value} {below : List Frame} {b : Addr} (hflags : l.flags = flags0) (hA : AtStart classFile x code maxLocals ret World_1 tables_1 room_1 Calls_1 rest_1 Pre_1 l p e s m args below) (hroom : s.hasRoom e.platform room_2 = true) (hP : lw_P b xsW args s) : ¬ Claimed_1_1 := by
  intro hC
  obtain ⟨hL, hW, had, -, hcas, hclk, hfr, hfit, hheap, happ, hcalls, hrest, hpre⟩ := hA
  obtain ⟨hrun, hable, halone, hname, hhears, hinit, -, hbef⟩ := (Spec.appliesLoose_iff hfr).mp ((Spec.applies_iff_loose hfr).mp happ).1
  obtain ⟨N, hw, hbig⟩ := p26_grows hflags had hcas hclk hfr ((Spec.appliesLoose_iff hfr).mpr ⟨hrun, hable, halone, hname, hhears, hinit, hroom, hbef⟩) hP (p := p)
  obtain ⟨k, o, hin, -, hend, hpost⟩ := hC l hflags hL hW p e had hcas hclk s m args below hfr hfit hheap happ ⟨hcalls, hrest, hpre⟩
  have hNk : N ≤ k := Nat.le_of_not_lt (fun h => hend.not_within (hw k h))
  have hle := (stepsAlone_heap_grows_add p.tables e N (k - N) s).1
  rw [show N + (k - N) = k by omega] at hle
  obtain ⟨-, hF, -, -⟩ := hpost
  have hsz : (stepsAlone p.tables e k s).heap.size ≤ s.heap.size + 205 := hF.2.2.2.2.1
  omega
