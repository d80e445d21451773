/-! a throw whose class links its superclass by an entry of its own: the proofs follow the kit's (the library's constructor of an own exception, and the row of a throw with a text), with the first link of the chain left open -/
def vy_own (own : String) (ic : Nat) (X Y : String) (i9 : Nat) (b9 : ByteArray) (names : List String) : List Cond :=
  Bundle.throwableAtoms ++ Bundle.throwableSAtoms ++ (Bundle.passSAtoms X Y i9 b9 ++ Bundle.chainSAtoms Y names) ++
  [.methodLink own ic (Bundle.initS X), .instantiable X 6, .castable X X, .selects X Bundle.tFill0 Bundle.tFill0, .selects X Bundle.tFill Bundle.tFill,
   .lays X Bundle.tN "cause" "Ljava/lang/Throwable;", .lays X Bundle.tN "stackTrace" Bundle.steD, .lays X Bundle.tN "suppressedExceptions" Bundle.listD, .lays X Bundle.tN "detailMessage" "Ljava/lang/String;",
   .isRef (.static Bundle.tN "UNASSIGNED_STACK" Bundle.steD), .isRef (.static Bundle.tN "SUPPRESSED_SENTINEL" Bundle.listD),
   .fieldLink Bundle.tN 198 Bundle.tN "backtrace" "Ljava/lang/Object;", .lays Bundle.tN Bundle.tN "backtrace" "Ljava/lang/Object;", .lays X Bundle.tN "backtrace" "Ljava/lang/Object;"]
def vy_at (own : String) (ic : Nat) (X Y : String) (i9 : Nat) (b9 : ByteArray) (names : List String) : List Cond := (vy_own own ic X Y i9 b9 names).filter vx_no
section VY
variable {p : Program} {l : Launch} {e : Env} {R : Room} {s : State} {m₀ : MethodId} {args : Array Value} {below : List Frame} {meth : Method} {c : Code} {W : State} {locs : List Loc} {cells slots : Nat}
set_option maxHeartbeats 4000000 in
theorem vy_ctor (X : Stand p l e R s m₀ args below meth c W locs cells slots) (hexec : p.tables.exec = Jvm.exec) (htr : e.platform.stackTraces = false) {own cls Y9 : String} {names : List String} {ic i9 : Nat} {b9 : ByteArray} (n0 : decode b9 0 = .ok (.aload_n 0, 1)) (n1 : decode b9 1 = .ok (.aload_n 1, 1)) (n2 : decode b9 2 = .ok (.invokespecial i9, 3)) (n5 : decode b9 5 = .ok (.return_, 1)) (hY9 : Jvm.Bundle.fit Y9 = true)
    (hown : s.vm.findClass own = some m₀.cls) (hcls : Jvm.Bundle.fit cls = true) (hnames : ∀ n ∈ names, Jvm.Bundle.fit n = true)
    (h : ∀ a ∈ vy_own own ic cls Y9 i9 b9 names, a.before args s = true)
    (hlocs : ∀ x ∈ locs, ∀ cell, s.heap[x.base]? = some cell → cell.vm.isStatics = false)
    {a : Addr} {cX : ClassId} {kX : Class} (hfoundX : s.vm.findClass cls = some cX) (hkX : s.vm.classes[cX]? = some kX) (hcell : W.heap[a]? = some (freshCell cX kX)) (hnew : s.heap.size ≤ a)
    {msg : Value} (hmsg : msg.isRef = true)
    {g : JFrame} (hg : g.method = m₀) (hsize : g.locals.size = c.maxLocals) (hlocked : g.locked = none) (hentered : g.entered = []) {rest : List Value} (hstack : g.stack = msg :: .ref a :: .ref a :: rest)
    (hd6 : decode c.code g.pc = .ok (.invokespecial ic, 3)) (hd9 : decode c.code (g.pc + 3) = .ok (.athrow, 1)) (hout : ∀ x ∈ c.exceptionTable.toList, covers x (g.pc + 3) = false)
    (hRframes : (names.length + 1) + 3 < R.frames) (hRlocals : 2 * g.monitorRoom + ((Value.ref a :: rest).map fun v => v.category).sum + (13 * ((names.length + 1) + 1) + 42) ≤ R.locals) (hlocks : meth.locks = false) :
    ∃ U : State, Steps p.tables e below (W.setTop g) U ∧ U.status = .running ∧ Ended U below (.threw a) ∧ s.WarmedH U.vm ∧ s.sameButNew ({ U with vm := s.vm } : State) locs cells slots ∧
      ∃ ce, U.heap[a]? = some ce ∧ Jvm.Bundle.OwnCell args s cls a msg ce := by
  have howns : e.platform.frameOwnsMonitors = true := by rw [X.admits.platform]
  have hfin : e.platform.finalization = false := by rw [X.admits.platform]
  have hpl : e.platform.magicAccessors = ({} : Platform).magicAccessors := by rw [X.admits.platform]
  have a' : ∀ x, x ∈ vy_own own ic cls Y9 i9 b9 names → x.holds args s none s [] = true := fun x hx => h x hx
  obtain ⟨T, Z0, L, -, Y⟩ := Jvm.ThrowableC.of_atoms (args := args) howns hfin hpl (fun x hx => h x (by simp [vy_own, hx]))
  obtain ⟨Z, M, LZ, LM, hnZ⟩ := Jvm.Init0T.ofS_atoms (args := args) hpl L Y (fun x hx => h x (by simp [vy_own, hx]))
  obtain ⟨P1, L1, hP1m, hs1⟩ := Jvm.PassC.ofS_atoms (args := args) (s := s) hpl (X := cls) (Y := Y9) (Jvm.Bundle.fit_spec hcls).1 (Jvm.Bundle.fit_spec hY9).2 n0 n1 n2 n5 (fun x hx => h x (by simp only [vy_own, List.mem_append]; exact Or.inl (Or.inr (Or.inl hx))))
  obtain ⟨P', Ps', hlen', L', hL', hm', hsup', hpass'⟩ := Jvm.Bundle.chainS (args := args) hpl hnZ names Y9 hY9 hnames (fun x hx => h x (by simp only [vy_own, List.mem_append]; exact Or.inl (Or.inr (Or.inr hx))))
  have hlen := hlen'
  have hL : ∀ P, P ∈ P' :: Ps' → P.LinksS e.platform s := by
    intro Q hQ
    rcases List.mem_cons.mp hQ with rfl | hQ
    · exact L'
    · exact hL' Q hQ
  have hlink1 := Option.some.inj (hs1.symm.trans hm')
  have hfound : s.vm.findClass cls = some P1.m.cls := findClass_of_methodNamed hP1m
  cases Option.some.inj (hfoundX.symm.trans hfound)
  obtain ⟨c1, kX', hc1, hk, hord, -, -, hn6⟩ := Cond.instantiable_spec (a' (.instantiable cls 6) (by simp [vy_own]))
  cases Option.some.inj (hc1.symm.trans hfound)
  cases Option.some.inj (hkX.symm.trans hk)
  have hsel0 : selectMethod e.platform s.vm P1.m.cls T.fill0 = .method T.fill0 := by
    obtain ⟨c2, r2, m2, q1, q2, q3, q4, -⟩ := Cond.selects_spec (a' (.selects cls Jvm.Bundle.tFill0 Jvm.Bundle.tFill0) (by simp [vy_own]))
    cases Option.some.inj (q1.symm.trans hfound)
    cases Option.some.inj (q2.symm.trans (State.methodFound?_of_named Y.fill0 (by decide)))
    cases Option.some.inj (q3.symm.trans Y.fill0)
    rw [Launch.admits_selectMethod X.admits]; exact q4
  have hselF : selectMethod e.platform s.vm P1.m.cls T.fill = .method T.fill := by
    obtain ⟨c2, r2, m2, q1, q2, q3, q4, -⟩ := Cond.selects_spec (a' (.selects cls Jvm.Bundle.tFill Jvm.Bundle.tFill) (by simp [vy_own]))
    cases Option.some.inj (q1.symm.trans hfound)
    cases Option.some.inj (q2.symm.trans (State.methodFound?_of_named Y.fill (by decide)))
    cases Option.some.inj (q3.symm.trans Y.fill)
    rw [Launch.admits_selectMethod X.admits]; exact q4
  obtain ⟨cellS0, hcS0, hiss⟩ := Y.statics
  obtain ⟨u0, hu0⟩ := Cond.staticRefV Y.unassigned L.unassignedStatic L.statics hcS0 hiss (a' (.isRef (.static Jvm.Bundle.tN "UNASSIGNED_STACK" Jvm.Bundle.steD)) (by simp [vy_own]))
  obtain ⟨sen, hsen⟩ := Cond.staticRefV Y.sentinel L.sentinelStatic L.statics hcS0 hiss (a' (.isRef (.static Jvm.Bundle.tN "SUPPRESSED_SENTINEL" Jvm.Bundle.listD)) (by simp [vy_own]))
  obtain ⟨ci198, i198, fB, hk198, hg198, ha198, hsB, -, hnB, htB, hffB⟩ := Cond.ownField (t := .object "java/lang/Object") Y.found L.cls (by decide +kernel) (a' (.fieldLink Jvm.Bundle.tN 198 Jvm.Bundle.tN "backtrace" "Ljava/lang/Object;") (by simp [vy_own])) (a' (.lays Jvm.Bundle.tN Jvm.Bundle.tN "backtrace" "Ljava/lang/Object;") (by simp [vy_own])) e.platform hpl
  obtain ⟨cellS, hcS', heS, -, hkeep⟩ := X.same.2.2.2.2.2 T.aS cellS0 hcS0
  have hcellS : W.heap[T.aS]? = some cellS := hcS'
  have hout' : ∀ i, (⟨T.aS, i⟩ : Loc) ∉ locs := fun i hmem => by
    have := hlocs _ hmem cellS0 hcS0
    rw [hiss] at this; cases this
  have hknownS : cellS.vm ≠ .unknown := by
    rw [heS]; intro hu
    rw [show cellS0.vm = .unknown from hu] at hiss
    cases hiss
  have hneS : T.aS ≠ a := Nat.ne_of_lt (Nat.lt_of_lt_of_le (Array.getElem?_eq_some_iff.mp hcS0).1 hnew)
  obtain ⟨iM, hffM⟩ := Y.msg
  obtain ⟨tyC, dC, hdC, hdnC⟩ := Cond.laysAt hfound hk Y.cause (a' (.lays cls Jvm.Bundle.tN "cause" "Ljava/lang/Throwable;") (by simp [vy_own]))
  obtain ⟨tyS, dS, hdS, hdnS⟩ := Cond.laysAt hfound hk Y.stack (a' (.lays cls Jvm.Bundle.tN "stackTrace" Jvm.Bundle.steD) (by simp [vy_own]))
  obtain ⟨tyP, dP, hdP, hdnP⟩ := Cond.laysAt hfound hk Y.supp (a' (.lays cls Jvm.Bundle.tN "suppressedExceptions" Jvm.Bundle.listD) (by simp [vy_own]))
  obtain ⟨tyM, dM, hdM, hdnM⟩ := Cond.laysAt hfound hk hffM (a' (.lays cls Jvm.Bundle.tN "detailMessage" "Ljava/lang/String;") (by simp [vy_own]))
  obtain ⟨tyB, dB, hdB, hdnB⟩ := Cond.laysAt hfound hk hffB (a' (.lays cls Jvm.Bundle.tN "backtrace" "Ljava/lang/Object;") (by simp [vy_own]))
  have bC := Cond.laysApart hdB hdC hdnB hdnC (by rw [hnB, Y.causeName]; decide)
  have bS := Cond.laysApart hdB hdS hdnB hdnS (by rw [hnB, Y.stackName]; decide)
  have bP := Cond.laysApart hdB hdP hdnB hdnP (by rw [hnB, Y.suppName]; decide)
  have hskip : Jvm.SkipFacts T e.platform s (fun u => u) u0 ((Jvm.preparedCellV T.toThrowableT (freshCell P1.m.cls kX) a u0 sen).withEntry W.cur) :=
    ⟨{ ci198 := ci198, i198 := i198, fBack := fB }, ⟨hk198, hg198, ha198, hsB⟩, by
      have := Jvm.fresh_default (c := P1.m.cls) tyB
      rw [htB] at this
      simpa [Jvm.preparedCellV, Cell.setSlot, Cell.withEntry, Array.getElem?_setIfInBounds, bC, bS, bP, bC.symm, bS.symm, bP.symm, defaultValue] using this, fun _ _ => rfl⟩
  obtain ⟨tm, methC, cdC, kC, vm₁, hnC, -, -, -, -, -, -, -, hW₁, st1⟩ := Steps.initColdS (tb := p.tables) (e := e) (below := below) (s := s) (U := W) X.here hexec X.warmed hpl hown (t := Jvm.Bundle.initS cls) rfl rfl (Jvm.Bundle.fit_spec hcls).2
    (a' (.methodLink own ic (Jvm.Bundle.initS cls)) (by simp [vy_own])) (h (.instanceMethod (Jvm.Bundle.initS cls)) (by simp [vy_own, Jvm.Bundle.passSAtoms])) (bytes := b9) (maxL := 2) (h (.code (Jvm.Bundle.initS cls) b9 2 none) (by simp [vy_own, Jvm.Bundle.passSAtoms]))
    (f := g) hg (a := a) (msg := msg) (rest := .ref a :: rest) hstack hd6
  cases Option.some.inj (hnC.symm.trans hP1m)
  have X₁ := X.noted hW₁
  obtain ⟨vm₂, X₂, st2⟩ := X₁.ctorMessageOffV hexec (g := { g with stack := .ref a :: rest }) hg hsize T L Z LZ M LM (P1 :: P' :: Ps')
    (fun P hP => by rcases List.mem_cons.mp hP with rfl | hP; exact L1; exact hL P hP) ⟨hlink1, hsup', hpass'⟩ (u0 := u0) (sen := sen) (self := a) hmsg (cell := freshCell P1.m.cls kX) (cellS := cellS)
    hcell (fun _ => by simp) (by simp) rfl rfl hsel0 hselF hcellS hneS hknownS (by rw [hkeep _ (hout' _)]; exact hu0) (by rw [hkeep _ (hout' _)]; exact hsen)
    (Takes.of_laid hk hord tyC (by rw [Y.causeType]; rfl)) (Takes.of_laid hk hord tyS (by rw [Y.stackType]; exact fits_refV_array _ u0)) (Takes.of_laid hk hord tyP (by rw [Y.suppType]; exact fits_refV_object _ sen))
    (Takes.of_laid hk hord tyM (by rw [Y.msgType]; exact fits_refV_object _ ⟨msg, hmsg⟩)) Y.objLocals hskip htr [] hd6
    (by simp only [List.length_cons, hlen]; omega) (by simp only [List.length_cons, hlen]; exact hRlocals)
  obtain ⟨hwalk, hrun, hended, hWU, hsame⟩ := X₂.athrowLeaves hexec (g := { g with stack := .ref a :: rest, pc := g.pc + 3 }) hg hlocked hentered hout (a := a) (rest := rest) rfl hd9
  obtain ⟨c3, c4, hc3, hc4, hasg⟩ := Cond.castable_spec (a' (.castable cls cls) (by simp [vy_own]))
  cases Option.some.inj (hc3.symm.trans hfound)
  cases Option.some.inj (hc4.symm.trans hfound)
  have hlt : a < ((W.setVm vm₁).setVm vm₂).heap.size := (Array.getElem?_eq_some_iff.mp hcell).1
  have hU := heapAt_setCell_self (s := (W.setVm vm₁).setVm vm₂) (Jvm.plainBareV T.toThrowableT (freshCell P1.m.cls kX) a u0 sen msg) hlt
  have hnM : T.fMsg.name = "detailMessage" := (State.fieldFound?_type hffM (t := .object "java/lang/String") (by decide +kernel)).1
  have nCS := Cond.laysApart hdC hdS hdnC hdnS (by rw [Y.causeName, Y.stackName]; decide)
  have nCP := Cond.laysApart hdC hdP hdnC hdnP (by rw [Y.causeName, Y.suppName]; decide)
  have nCM := Cond.laysApart hdC hdM hdnC hdnM (by rw [Y.causeName, hnM]; decide)
  have nSP := Cond.laysApart hdS hdP hdnS hdnP (by rw [Y.stackName, Y.suppName]; decide)
  have nSM := Cond.laysApart hdS hdM hdnS hdnM (by rw [Y.stackName, hnM]; decide)
  have nPM := Cond.laysApart hdP hdM hdnP hdnM (by rw [Y.suppName, hnM]; decide)
  have lC : T.fCause.slot < kX.instanceTypes.size := (Array.getElem?_eq_some_iff.mp tyC).1
  have lS : T.fStack.slot < kX.instanceTypes.size := (Array.getElem?_eq_some_iff.mp tyS).1
  have lP : T.fSupp.slot < kX.instanceTypes.size := (Array.getElem?_eq_some_iff.mp tyP).1
  have lM : T.fMsg.slot < kX.instanceTypes.size := (Array.getElem?_eq_some_iff.mp tyM).1
  have evU : ∀ o, (Term.static Jvm.Bundle.tN "UNASSIGNED_STACK" Jvm.Bundle.steD).eval args s o [] s = some u0.v := by
    intro o
    simp [Term.eval, State.fieldNamed?, Y.unassigned, L.unassignedStatic, L.statics, hcS0, hiss, hu0]
  have evS : ∀ o, (Term.static Jvm.Bundle.tN "SUPPRESSED_SENTINEL" Jvm.Bundle.listD).eval args s o [] s = some sen.v := by
    intro o
    simp [Term.eval, State.fieldNamed?, Y.sentinel, L.sentinelStatic, L.statics, hcS0, hiss, hsen]
  refine ⟨_, st1 _ (fun acts => ?_), hrun, hended, hWU, hsame.weaken (fun y hy hlt' => ?_) (Nat.le_refl _) (Nat.le_refl _), _, hU, ?_⟩
  · rw [doInvoke_state]
    exact st2 _ hwalk
  · rcases List.mem_append.mp hy with h1 | h1
    · exact h1
    · exfalso
      have hb : y.base = a := by
        simp only [List.mem_cons, List.not_mem_nil, or_false] at h1
        rcases h1 with rfl | rfl | rfl | rfl | rfl <;> rfl
      rw [hb] at hlt'
      exact Nat.not_lt.mpr hnew hlt'
  · exact { cls := hfound, self := hasg, monitor := rfl, hash := rfl, vm := rfl, size := by simp [Jvm.plainBareV, Jvm.preparedCellV, Cell.setSlot, hn6]
            cause := ⟨_, _, _, _, Y.cause, by simp [Jvm.plainBareV, Jvm.preparedCellV, Cell.setSlot, nCS.symm, nCP.symm, nCM.symm, lC]⟩
            stack := ⟨_, _, _, _, u0, Y.stack, by simp [Jvm.plainBareV, Jvm.preparedCellV, Cell.setSlot, nSM.symm, lS], evU⟩
            supp := ⟨_, _, _, _, sen, Y.supp, by simp [Jvm.plainBareV, Jvm.preparedCellV, Cell.setSlot, nSP, nPM.symm, lP], evS⟩
            msg := ⟨_, _, _, _, hffM, by simp [Jvm.plainBareV, Jvm.preparedCellV, Cell.setSlot, lM]⟩
            other := fun O f d c k i fd hf hy n1 n2 n3 n4 => by
              obtain ⟨ty, dd, hdd, hddn⟩ := Cond.laysAt hfound hk hf hy
              have m1 := Cond.laysApart hdd hdC hddn hdnC (by rw [Y.causeName]; exact n1)
              have m2 := Cond.laysApart hdd hdS hddn hdnS (by rw [Y.stackName]; exact n2)
              have m3 := Cond.laysApart hdd hdP hddn hdnP (by rw [Y.suppName]; exact n3)
              have m4 := Cond.laysApart hdd hdM hddn hdnM (by rw [hnM]; exact n4)
              have := Jvm.fresh_default (c := P1.m.cls) ty
              simpa [Jvm.plainBareV, Jvm.preparedCellV, Cell.setSlot, Array.getElem?_setIfInBounds, m1, m2, m3, m4, m1.symm, m2.symm, m3.symm, m4.symm] using this }
end VY
section VYB
variable {p : Program} {l : Launch} {e : Env} {R : Room} {s : State} {m : MethodId} {args : Array Value} {below : List Frame} {meth : Method} {c : Code} {H : Heap} {locs : List Loc} {cells slots : Nat} {Q : State → Prop} {mc ms : Nat} {free : Addr → Prop} {H0 : Heap} {ls : Array Slot} {rest : List Value} {Qc : Array Value → State → Outcome → State → Prop} {XC : String → State → State → Prop}
set_option maxHeartbeats 4000000 in
theorem vy_throw {cc : ByteArray} {pc : Nat} (hexec : p.tables.exec = Jvm.exec) (hb : c.code = cc) (hl : l.stackTraces = false) {own cls text Y9 : String} {names : List String} {ik is ic mc ms sa i9 : Nat} {b9 : ByteArray} (n0 : decode b9 0 = .ok (.aload_n 0, 1)) (n1 : decode b9 1 = .ok (.aload_n 1, 1)) (n2 : decode b9 2 = .ok (.invokespecial i9, 3)) (n5 : decode b9 5 = .ok (.return_, 1)) (hY9 : Bundle.fit Y9 = true) {A : Nat → Prop}
    (hown : s.vm.findClass own = some m.cls) (hcls : Bundle.fit cls = true) (hnames : ∀ n ∈ names, Bundle.fit n = true)
    (hk : (Cond.classLink own ik cls).before args s = true) (hini : (Cond.initialized cls).before args s = true) (hstr : vk_R own is text sa s) (hat : ∀ w ∈ vy_at own ic cls Y9 i9 b9 names, w.before args s = true)
    (hgood : ∀ w ∈ Cond.classLink own ik cls :: Cond.initialized cls :: vy_at own ic cls Y9 i9 b9 names, vx_ot w = true)
    (hU : vx_Zq Bundle.tN "UNASSIGNED_STACK" Bundle.steD A s s.heap) (hN : vx_Zq Bundle.tN "SUPPRESSED_SENTINEL" Bundle.listD A s s.heap) (hS : va_S A s.heap H locs) (hsize : ls.size = c.maxLocals)
    (d0 : decode cc pc = .ok (.new ik, 3)) (d3 : decode cc (pc + 3) = .ok (.dup, 1)) (d4 : decode cc (pc + 4) = .ok (.ldc is, 2)) (d6 : decode cc (pc + 6) = .ok (.invokespecial ic, 3)) (d9 : decode cc (pc + 9) = .ok (.athrow, 1))
    (hout : ∀ x ∈ c.exceptionTable.toList, covers x (pc + 9) = false)
    (hRframes : (names.length + 1) + 3 < R.frames) (hRlocals : (rest.map fun v => v.category).sum + (13 * ((names.length + 1) + 1) + 43) ≤ R.locals) (hRcells : cells + 1 ≤ R.cells) (hRslots : slots + 6 ≤ R.slots) (hlocks : meth.locks = false)
    (hx : ∀ t : State, s.vm.Alike t.vm → H.size < t.heap.size → (∀ q : Nat, q < H.size → t.heap[q]? = H[q]?) → XC cls s t)
    (hf : ∀ z ∈ locs, free z.base) (hc : cells + 1 ≤ mc) (hs : slots + 6 ≤ ms) :
    W p l e R s m args below meth c H locs cells slots (vx_MQ below Qc XC args s mc ms free) (F0 m pc ls rest) := by
  intro T hT X
  have htr : e.platform.stackTraces = false := (show e.platform.stackTraces = l.stackTraces by rw [X.admits.platform]).trans hl
  have Y := vx_rebase X (R' := { frames := R.frames, locals := R.locals, cells := 1, slots := 6 }) (Nat.le_refl _) (Nat.le_refl _) hRcells hRslots
  obtain ⟨s', hA⟩ : ∃ z, z = (T.setVm s.vm).setFrames (.invoking m args :: below) := ⟨_, rfl⟩
  rw [← hA] at Y
  have hvm : s'.vm = s.vm := by rw [hA]; rfl
  have hhp : s'.heap = H := by rw [hA]; exact hT
  have hW0 : s.WarmedH s'.vm := by rw [hvm]; exact State.WarmedH.refl s
  have hat' : ∀ w ∈ vy_at own ic cls Y9 i9 b9 names, w.before args s' = true := fun w hw => vx_ot_at hW0 hvm.symm (hgood w (List.mem_cons_of_mem _ (List.mem_cons_of_mem _ hw))) (hat w hw)
  have hk' : (Cond.classLink own ik cls).before args s' = true := vx_ot_at hW0 hvm.symm (hgood _ List.mem_cons_self) hk
  have hini' : (Cond.initialized cls).before args s' = true := vx_ot_at hW0 hvm.symm (hgood _ (List.mem_cons_of_mem _ List.mem_cons_self)) hini
  have hU' : vx_Zq Bundle.tN "UNASSIGNED_STACK" Bundle.steD A s' s'.heap := by rw [hhp]; exact vx_Zq.moved hW0.alike (hU.kept hS.2.1)
  have hN' : vx_Zq Bundle.tN "SUPPRESSED_SENTINEL" Bundle.listD A s' s'.heap := by rw [hhp]; exact vx_Zq.moved hW0.alike (hN.kept hS.2.1)
  have h : ∀ w ∈ vy_own own ic cls Y9 i9 b9 names, w.before args s' = true := vx_own hat' (vx_isRefq hU'.1) (vx_isRefq hN'.1) hU'.2.word hN'.2.word
  have hown' : s'.vm.findClass own = some m.cls := by rw [hvm]; exact hown
  have hins : (Cond.instantiable cls 6).before args s' = true := h _ (by simp [vy_own])
  obtain ⟨vm₁, cX, kX, hfX, hkX, -, -, X₁, st1⟩ := Y.newCold hexec (own := own) (C := cls) (index := ik) (n := 6) hown' hk' hins hini'
    (g := F0 m pc ls rest) rfl (by rw [hb]; exact d0) (Nat.le_refl _) (Nat.le_refl _)
  generalize hT1 : (T.setVm vm₁).pushCell { cls := cX, slots := kX.instanceTypes.map defaultValue, vm := .none } = T1 at X₁ st1
  have hcat : (Value.ref T.heap.size).category = 1 := rfl
  have hcellA : T1.heap[T.heap.size]? = some (freshCell cX kX) := by rw [← hT1]; exact State.heap_pushCell_size _ _
  have d3' : decode c.code (pc + 3) = .ok (.dup, 1) := by rw [hb]; exact d3
  have d4' : decode c.code (pc + 4) = .ok (.ldc is, 2) := by rw [hb]; exact d4
  have hstr' : vk_R own is text sa s' := vk_R.warm hW0 hstr
  obtain ⟨U, hsteps, hrun, hend, hW, hsame, ce, hce, hO⟩ := vy_ctor X₁ hexec htr (own := own) (cls := cls) (names := names) (ic := ic) n0 n1 n2 n5 hY9 hown' hcls hnames h (fun x hx => nomatch hx) hfX hkX hcellA (by rw [hhp, hT]; exact Nat.le_refl _) (msg := .ref sa) rfl
    (g := { method := m, pc := pc + 6, locals := ls, stack := .ref sa :: .ref T.heap.size :: .ref T.heap.size :: rest, locked := none }) rfl hsize rfl rfl (rest := rest) rfl
    (by rw [hb]; exact d6) (by rw [hb]; exact d9) hout hRframes (by simp only [List.map_cons, List.sum_cons, hcat]; omega) hlocks
  obtain ⟨f1, f2⟩ := vx_frame hsame
  rw [hhp] at f1 f2
  have hWs : s.WarmedH U.vm := State.WarmedH.trans hW0 hW
  have hcl : s.vm.findClass cls = some ce.cls := by
    have h9 := hO.cls
    rw [hvm] at h9
    exact h9
  have hall : s.sameButNew ({ U with vm := s.vm } : State) locs mc ms := by
    subst hA
    obtain ⟨e1, e2⟩ := hsame
    rw [State.setFrames_setFrames] at e1
    have h2 : (T.setVm s.vm).sameButNew ({ U with vm := s.vm } : State) [] (0 + 1) (0 + 6) := ⟨e1, e2⟩
    have h3 := X.same.trans h2
    rw [List.append_nil] at h3
    exact h3.mono hc hs
  refine ⟨U, ?_, .threw T.heap.size, hrun, hend, Or.inr ⟨T.heap.size, rfl, cls, ce, locs, hx U hWs.alike (by rw [← hT]; exact (Array.getElem?_eq_some_iff.mp hce).1) (fun q hq => f2 q hq (fun z hz => nomatch hz)), hce, hO.vm, hcl, hWs, hall, hf⟩⟩
  refine st1 _ ?_
  show Steps p.tables e below (T1.setTop { method := m, pc := pc + 3, locals := ls, stack := .ref T.heap.size :: rest, locked := none }) _
  jvm_step X₁.here [X₁.here.top, hexec, d3', Value.category]
  exact X₁.ldcString hexec (own := own) (text := text) (index := is) (a := sa) hown' hstr'.1 hstr'.2
    (g := { method := m, pc := pc + 4, locals := ls, stack := .ref T.heap.size :: .ref T.heap.size :: rest, locked := none }) rfl d4' _ hsteps
end VYB

/-! the law's own helpers: they call, and catch -/
def wMW (y : MethodName) (b : ByteArray) (n : Nat) (r : Option FieldType) (hh : List (Nat × Nat × Nat × Nat)) : List Cond := .codeWith y b n r hh :: wA
theorem wMW_in {y : MethodName} {b : ByteArray} {n : Nat} {r : Option FieldType} {hh : List (Nat × Nat × Nat × Nat)} (h : Cond.codeWith y b n r hh ∈ wA) : GoodIn wA (wMW y b n r hh) := by
  intro w hw
  have hm : w ∈ wA := by
    rcases List.mem_cons.mp hw with h1 | h1
    · rw [h1]; exact h
    · exact h1
  exact ⟨hm, good_of_word (List.mem_filter.mp hm).2⟩
section GXC
variable {p : Program} {l : Launch} {e : Env} {R : Room} {s : State} {m : MethodId} {args : Array Value} {below : List Frame} {meth : Method} {c : Code} {H : Heap} {locs : List Loc} {cells slots : Nat} {Q : State → Prop}
variable {D : va_G} {kI kZ kJ kD : ClassId} {ws wc : va_W} {A A1 : Nat → Prop} {pc : Nat} {ls : Array Slot} {rest st0 : List Value}
/-- a call that throws, seen by a method that may catch it -/
theorem gx_catch {E : String} (hr : vx_Run p l e R s m args below meth c H locs 0 0 1 6 (F0 m pc ls st0) rest (fun _ _ _ => False) (gXC D E wc (va_A wc H.size)) (va_A wc H.size)) (hP : va_P D vwCl ws H) (hD : va_D A ws) (hS : va_S A s.heap H locs) (hA : ∀ q, s.heap.size ≤ q → A q) (isC : List Nat) (hC : isC.map (fun i => ws[i]?) = wc.map some)
    (kx : ∀ (q : Nat) (ce : Cell) (H1 : Heap) (locs1 : List Loc), va_P D vwCl ws H1 → va_D A ws → va_S A s.heap H1 locs1 → H1[q]? = some ce → ce.vm = .none → s.vm.findClass E = some ce.cls → H.size < H1.size → vx_W p l e R s m args below meth c H1 locs1 1 6 Q (F0 m pc ls rest) q) : W p l e R s m args below meth c H locs 0 0 Q (F0 m pc ls st0) := by
  have hF := va_free hD hS hA isC hC
  intro T hT X
  rcases hr T hT X with ⟨v, st₀, t, T', L, h0, X', hL, e1, e2, hf, st⟩ | ⟨q, st₀, t, T', L, E', ce, h0, X', hL, e1, e2, ⟨rfl, hP1, hFr, hlt⟩, hce, hv, hcl, st⟩
  · exact hf.elim
  · have hk : ∀ q : Nat, q < H.size → ¬ va_A wc H.size q → t.heap[q]? = H[q]? := fun q h1 h2 => by rw [← h0] at h1 ⊢; exact hFr.2 q h1 h2
    have hsz : H.size ≤ t.heap.size := by rw [← h0]; exact hFr.1
    have hS1 : va_S A s.heap t.heap (locs ++ L) := ⟨Nat.le_trans hS.1 hsz, fun q h1 h2 => by rw [hk q (Nat.lt_of_lt_of_le h1 hS.1) (fun z => h2 (hF q z))]; exact hS.2.1 q h1 h2, fun q hq => by
      rcases List.mem_append.mp hq with h | h
      · exact hS.2.2 q h
      · exact hF _ (hL q h)⟩
    obtain ⟨t3, a1, b1⟩ := kx q ce t.heap (locs ++ L) (gP_back hP hD isC hC hk hP1) hD hS1 hce hv hcl (by rw [← h0]; exact hlt) T' e1 X'
    exact ⟨t3, st.trans a1, b1⟩
end GXC
section GMW
variable {l : Launch} {D : va_G} {kI kZ kJ kD : ClassId} {y : MethodName} {cc : ByteArray} {maxL : Nat} {rm : Room} {own : String} {W0 : va_W} {sz : Nat} {av : List Value} {S : Type} {hh : List (Nat × Nat × Nat × Nat)}
theorem g_metw {post : Int32 → S → Prop} {w1 : S → va_W} (hy : plainName y.cls = true) (hc : y.cls = own) (hlen : (lg_sl av).length ≤ maxL)
    (body : ∀ (p : Program) (e : Env) (s : State) (m : MethodId) (args : Array Value) (below : List Frame) (meth : Method) (c : Code) (A : Nat → Prop) (Q : State → Prop), p.tables.exec = Jvm.exec → c.code = cc → c.maxLocals = maxL → (∀ w ∈ wA, w.before args s = true) → s.vm.findClass own = some m.cls → gE D kI kZ kJ kD s → gZ A s s.heap → (∀ q : Nat, s.heap.size ≤ q → A q) → va_P D vwCl W0 s.heap → va_D A W0 → va_S A s.heap s.heap [] → c.exceptionTable.toList = tableOf hh → (∀ (H : Heap) (locs : List Loc) (pc : Nat) (ls : Array Slot) (v : Int32) (u : S), decode cc pc = .ok (.ireturn, 1) → post v u → va_P D vwCl (w1 u) H → va_S A s.heap H locs → W p l e rm s m args below meth c H locs 1 6 Q (F0 m pc ls [.int v])) → ∀ ls : Array Slot, lv_has ls maxL (lv_args 0 av) → W p l e rm s m args below meth c s.heap [] 0 0 Q (F0 m 0 ls [])) :
    Met l y (wMW y cc maxL (some .int) hh) rm (va_Pc av (gSX D kI kZ kJ kD W0 sz)) (va_Qi post (fun u t => va_P D vwCl (w1 u) t.heap) (va_A W0 sz)) 1 6 (va_A W0 sz) := by
  refine va_MetW (cc := cc) (maxL := maxL) (ret := some .int) (hh := hh) hy rfl ?_
  intro p e s m args below meth c s₁ B hml hv
  obtain ⟨rfl, ⟨hsz, hP, hE, hD0⟩, hZ⟩ := hv
  have hts : ∀ w ∈ wA, w.before _ s = true := fun w hw => atoms_spec (ws := wMW y cc maxL (some .int) hh) B.pre w (List.mem_cons_of_mem _ hw)
  have htab : c.exceptionTable.toList = tableOf hh := vx_table (x := y) B (atoms_spec (ws := wMW y cc maxL (some .int) hh) B.pre _ List.mem_cons_self)
  have hown : s.vm.findClass y.cls = some m.cls := findClass_of_methodNamed B.named
  rw [hc] at hown
  subst hsz
  have hD := hD0.self (sz := s.heap.size)
  rw [lg_entry_eq]
  refine body p e s m _ below meth c (va_A W0 s.heap.size) _ B.exec B.bytes hml hts hown hE hZ (fun q h => Or.inr h) hP hD va_S.rf htab ?_ _ (lv_entry av (n := maxL) hlen)
  intro H locs pc ls v u hd hq hPu hS
  exact W.iret (v := v) B.exec B.bytes B.returns (fun t ht hW => ⟨⟨v, u, rfl, hq, by show va_P D vwCl (w1 u) t.heap; rw [ht]; exact hPu⟩, hS.F ht⟩) hS.2.2 hd B.notSynchronized
end GMW

section TH
variable {Qc : Array Value → State → Outcome → State → Prop} {p : Program} {l : Launch} {e : Env} {R : Room} {s : State} {m : MethodId} {args : Array Value} {below : List Frame} {meth : Method} {c : Code} {cc : ByteArray} {H : Heap} {locs : List Loc} {cells slots : Nat} {Q : State → Prop} {D : va_G} {kI kZ kJ kD : ClassId} {ws : va_W} {A : Nat → Prop} {pc : Nat} {ls : Array Slot} {rest : List Value} {a : Nat}
def by13 : ByteArray := ⟨#[0x2a, 0x2b, 0xb7, 0x00, 0x0d, 0xb1]⟩
set_option maxRecDepth 100000 in
theorem at_X9_114_g : ∀ w ∈ (vy_at RX9 114 "java/util/NoSuchElementException" "java/lang/RuntimeException" 13 by13 ["java/lang/Exception"]).filter goodWord, w ∈ lw_tbl := by decide +kernel
set_option maxRecDepth 100000 in
theorem at_X9_114_b : ∀ w ∈ (vy_at RX9 114 "java/util/NoSuchElementException" "java/lang/RuntimeException" 13 by13 ["java/lang/Exception"]).filter (fun w => !goodWord w), w ∈ [Cond.castable "java/util/NoSuchElementException" "java/util/NoSuchElementException", Cond.declares ⟨"java/lang/RuntimeException", "<init>", "(Ljava/lang/String;)V"⟩, Cond.declares ⟨"java/lang/Exception", "<init>", "(Ljava/lang/String;)V"⟩, Cond.declares ⟨"java/lang/Throwable", "<init>", "(Ljava/lang/String;)V"⟩] := by decide +kernel
set_option maxRecDepth 100000 in
theorem at_X9_114_o : ∀ w ∈ Cond.classLink RX9 110 "java/util/NoSuchElementException" :: Cond.initialized "java/util/NoSuchElementException" :: (vy_at RX9 114 "java/util/NoSuchElementException" "java/lang/RuntimeException" 13 by13 ["java/lang/Exception"]), vx_ot w = true := by decide +kernel
theorem at_X9_114_c {s : State} {args : Array Value} (h : ∀ w ∈ wN, va_Nw w s) : ∀ w ∈ [Cond.castable "java/util/NoSuchElementException" "java/util/NoSuchElementException", Cond.declares ⟨"java/lang/RuntimeException", "<init>", "(Ljava/lang/String;)V"⟩, Cond.declares ⟨"java/lang/Exception", "<init>", "(Ljava/lang/String;)V"⟩, Cond.declares ⟨"java/lang/Throwable", "<init>", "(Ljava/lang/String;)V"⟩], w.before args s = true := vx_c (va_Nw.use rfl (h _ qn_716)) (vx_c (va_Nw.use rfl (h _ qn_332)) (vx_c (va_Nw.use rfl (h _ qn_334)) (vx_c (va_Nw.use rfl (h _ qn_336)) vx_n)))
theorem th_X9_110_112 (hexec : p.tables.exec = Jvm.exec) (hb : c.code = cc) (hl0 : l.stackTraces = false) (hts : ∀ w ∈ wA, w.before args s = true) (hown : s.vm.findClass RX9 = some m.cls) (hE : gE D kI kZ kJ kD s) (hZ : gZ A s s.heap) (hP : va_P D vwCl ws H) (hS : va_S A s.heap H locs) (hsize : ls.size = c.maxLocals) (d0 : decode cc pc = .ok (.new 110, 3)) (d3 : decode cc (pc + 3) = .ok (.dup, 1)) (d4 : decode cc (pc + 4) = .ok (.ldc 112, 2)) (d6 : decode cc (pc + 6) = .ok (.invokespecial 114, 3)) (d9 : decode cc (pc + 9) = .ok (.athrow, 1)) (hno : ∀ x ∈ c.exceptionTable.toList, False) (hf : 2 + 3 < R.frames) (hlo : (rest.map fun v => v.category).sum + (13 * (2 + 1) + 43) ≤ R.locals) (hce : 0 + 1 ≤ R.cells) (hsl : 0 + 6 ≤ R.slots) (hlk : meth.locks = false) : W p l e R s m args below meth c H locs 0 0 (vx_MQ below Qc (gXC D "java/util/NoSuchElementException" ws A) args s 1 6 A) (F0 m pc ls rest) := by
  obtain ⟨sa, hstr⟩ := hE.2.2.1 ("Swapmere", 112, "no page would be evicted") (by decide +kernel)
  exact vy_throw (names := ["java/lang/Exception"]) (Y9 := "java/lang/RuntimeException") (i9 := 13) (b9 := by13) (cls := "java/util/NoSuchElementException") hexec hb hl0 (by decide +kernel) (by decide +kernel) (by decide +kernel) (by decide +kernel) (by decide +kernel) hown (by decide +kernel) (by decide +kernel) (hts _ q_714) (hts _ q_40) hstr (vx_hat (fun w h => hts w (List.mem_filter.mpr ⟨at_X9_114_g w h, (List.mem_filter.mp h).2⟩)) at_X9_114_b (at_X9_114_c hE.2.1)) at_X9_114_o hZ.1 hZ.2 hS hsize d0 d3 d4 d6 d9 (fun x h => (hno x h).elim) hf hlo hce hsl hlk (fun t _ hz hk => ⟨rfl, fun k q hq => (hP k q hq).kept (hk _ (hP k q hq).lt), ⟨Nat.le_trans hS.1 (Nat.le_of_lt hz), fun q h1 h2 => (hk q (Nat.lt_of_lt_of_le h1 hS.1)).trans (hS.2.1 q h1 h2)⟩, Nat.lt_of_le_of_lt hS.1 hz⟩) hS.2.2 (Nat.le_refl _) (Nat.le_refl _)
set_option maxRecDepth 100000 in
theorem at_X9_212_g : ∀ w ∈ (vx_atS RX9 212 "java/lang/IllegalStateException" ["java/lang/RuntimeException", "java/lang/Exception"]).filter goodWord, w ∈ lw_tbl := by decide +kernel
set_option maxRecDepth 100000 in
theorem at_X9_212_b : ∀ w ∈ (vx_atS RX9 212 "java/lang/IllegalStateException" ["java/lang/RuntimeException", "java/lang/Exception"]).filter (fun w => !goodWord w), w ∈ [Cond.castable "java/lang/IllegalStateException" "java/lang/IllegalStateException", Cond.declares ⟨"java/lang/RuntimeException", "<init>", "(Ljava/lang/String;)V"⟩, Cond.declares ⟨"java/lang/Exception", "<init>", "(Ljava/lang/String;)V"⟩, Cond.declares ⟨"java/lang/Throwable", "<init>", "(Ljava/lang/String;)V"⟩] := by decide +kernel
set_option maxRecDepth 100000 in
theorem at_X9_212_o : ∀ w ∈ Cond.classLink RX9 208 "java/lang/IllegalStateException" :: Cond.initialized "java/lang/IllegalStateException" :: (vx_atS RX9 212 "java/lang/IllegalStateException" ["java/lang/RuntimeException", "java/lang/Exception"]), vx_ot w = true := by decide +kernel
theorem at_X9_212_c {s : State} {args : Array Value} (h : ∀ w ∈ wN, va_Nw w s) : ∀ w ∈ [Cond.castable "java/lang/IllegalStateException" "java/lang/IllegalStateException", Cond.declares ⟨"java/lang/RuntimeException", "<init>", "(Ljava/lang/String;)V"⟩, Cond.declares ⟨"java/lang/Exception", "<init>", "(Ljava/lang/String;)V"⟩, Cond.declares ⟨"java/lang/Throwable", "<init>", "(Ljava/lang/String;)V"⟩], w.before args s = true := vx_c (va_Nw.use rfl (h _ qn_438)) (vx_c (va_Nw.use rfl (h _ qn_332)) (vx_c (va_Nw.use rfl (h _ qn_334)) (vx_c (va_Nw.use rfl (h _ qn_336)) vx_n)))
theorem th_X9_208_210 (hexec : p.tables.exec = Jvm.exec) (hb : c.code = cc) (hl0 : l.stackTraces = false) (hts : ∀ w ∈ wA, w.before args s = true) (hown : s.vm.findClass RX9 = some m.cls) (hE : gE D kI kZ kJ kD s) (hZ : gZ A s s.heap) (hP : va_P D vwCl ws H) (hS : va_S A s.heap H locs) (hsize : ls.size = c.maxLocals) (d0 : decode cc pc = .ok (.new 208, 3)) (d3 : decode cc (pc + 3) = .ok (.dup, 1)) (d4 : decode cc (pc + 4) = .ok (.ldc 210, 2)) (d6 : decode cc (pc + 6) = .ok (.invokespecial 212, 3)) (d9 : decode cc (pc + 9) = .ok (.athrow, 1)) (hno : ∀ x ∈ c.exceptionTable.toList, False) (hf : 2 + 3 < R.frames) (hlo : (rest.map fun v => v.category).sum + (13 * (2 + 1) + 43) ≤ R.locals) (hce : 0 + 1 ≤ R.cells) (hsl : 0 + 6 ≤ R.slots) (hlk : meth.locks = false) : W p l e R s m args below meth c H locs 0 0 (vx_MQ below Qc (gXC D "java/lang/IllegalStateException" ws A) args s 1 6 A) (F0 m pc ls rest) := by
  obtain ⟨sa, hstr⟩ := hE.2.2.1 ("Swapmere", 210, "there would be too many touches") (by decide +kernel)
  exact vx_throwS (names := ["java/lang/RuntimeException", "java/lang/Exception"]) (cls := "java/lang/IllegalStateException") hexec hb hl0 hown (by decide +kernel) (by decide +kernel) (hts _ q_436) (hts _ q_38) hstr (vx_hat (fun w h => hts w (List.mem_filter.mpr ⟨at_X9_212_g w h, (List.mem_filter.mp h).2⟩)) at_X9_212_b (at_X9_212_c hE.2.1)) at_X9_212_o hZ.1 hZ.2 hS hsize d0 d3 d4 d6 d9 (fun x h => (hno x h).elim) hf hlo hce hsl hlk (fun t _ hz hk => ⟨rfl, fun k q hq => (hP k q hq).kept (hk _ (hP k q hq).lt), ⟨Nat.le_trans hS.1 (Nat.le_of_lt hz), fun q h1 h2 => (hk q (Nat.lt_of_lt_of_le h1 hS.1)).trans (hS.2.1 q h1 h2)⟩, Nat.lt_of_le_of_lt hS.1 hz⟩) hS.2.2 (Nat.le_refl _) (Nat.le_refl _)
set_option maxRecDepth 100000 in
theorem at_X9_63_g : ∀ w ∈ (vx_atS RX9 63 "java/lang/IllegalArgumentException" ["java/lang/RuntimeException", "java/lang/Exception"]).filter goodWord, w ∈ lw_tbl := by decide +kernel
set_option maxRecDepth 100000 in
theorem at_X9_63_b : ∀ w ∈ (vx_atS RX9 63 "java/lang/IllegalArgumentException" ["java/lang/RuntimeException", "java/lang/Exception"]).filter (fun w => !goodWord w), w ∈ [Cond.castable "java/lang/IllegalArgumentException" "java/lang/IllegalArgumentException", Cond.declares ⟨"java/lang/RuntimeException", "<init>", "(Ljava/lang/String;)V"⟩, Cond.declares ⟨"java/lang/Exception", "<init>", "(Ljava/lang/String;)V"⟩, Cond.declares ⟨"java/lang/Throwable", "<init>", "(Ljava/lang/String;)V"⟩] := by decide +kernel
set_option maxRecDepth 100000 in
theorem at_X9_63_o : ∀ w ∈ Cond.classLink RX9 59 "java/lang/IllegalArgumentException" :: Cond.initialized "java/lang/IllegalArgumentException" :: (vx_atS RX9 63 "java/lang/IllegalArgumentException" ["java/lang/RuntimeException", "java/lang/Exception"]), vx_ot w = true := by decide +kernel
theorem at_X9_63_c {s : State} {args : Array Value} (h : ∀ w ∈ wN, va_Nw w s) : ∀ w ∈ [Cond.castable "java/lang/IllegalArgumentException" "java/lang/IllegalArgumentException", Cond.declares ⟨"java/lang/RuntimeException", "<init>", "(Ljava/lang/String;)V"⟩, Cond.declares ⟨"java/lang/Exception", "<init>", "(Ljava/lang/String;)V"⟩, Cond.declares ⟨"java/lang/Throwable", "<init>", "(Ljava/lang/String;)V"⟩], w.before args s = true := vx_c (va_Nw.use rfl (h _ qn_330)) (vx_c (va_Nw.use rfl (h _ qn_332)) (vx_c (va_Nw.use rfl (h _ qn_334)) (vx_c (va_Nw.use rfl (h _ qn_336)) vx_n)))
theorem th_X9_59_184 (hexec : p.tables.exec = Jvm.exec) (hb : c.code = cc) (hl0 : l.stackTraces = false) (hts : ∀ w ∈ wA, w.before args s = true) (hown : s.vm.findClass RX9 = some m.cls) (hE : gE D kI kZ kJ kD s) (hZ : gZ A s s.heap) (hP : va_P D vwCl ws H) (hS : va_S A s.heap H locs) (hsize : ls.size = c.maxLocals) (d0 : decode cc pc = .ok (.new 59, 3)) (d3 : decode cc (pc + 3) = .ok (.dup, 1)) (d4 : decode cc (pc + 4) = .ok (.ldc 184, 2)) (d6 : decode cc (pc + 6) = .ok (.invokespecial 63, 3)) (d9 : decode cc (pc + 9) = .ok (.athrow, 1)) (hno : ∀ x ∈ c.exceptionTable.toList, False) (hf : 2 + 3 < R.frames) (hlo : (rest.map fun v => v.category).sum + (13 * (2 + 1) + 43) ≤ R.locals) (hce : 0 + 1 ≤ R.cells) (hsl : 0 + 6 ≤ R.slots) (hlk : meth.locks = false) : W p l e R s m args below meth c H locs 0 0 (vx_MQ below Qc (gXC D "java/lang/IllegalArgumentException" ws A) args s 1 6 A) (F0 m pc ls rest) := by
  obtain ⟨sa, hstr⟩ := hE.2.2.1 ("Swapmere", 184, "the policy is out of range") (by decide +kernel)
  exact vx_throwS (names := ["java/lang/RuntimeException", "java/lang/Exception"]) (cls := "java/lang/IllegalArgumentException") hexec hb hl0 hown (by decide +kernel) (by decide +kernel) (hts _ q_328) (hts _ q_37) hstr (vx_hat (fun w h => hts w (List.mem_filter.mpr ⟨at_X9_63_g w h, (List.mem_filter.mp h).2⟩)) at_X9_63_b (at_X9_63_c hE.2.1)) at_X9_63_o hZ.1 hZ.2 hS hsize d0 d3 d4 d6 d9 (fun x h => (hno x h).elim) hf hlo hce hsl hlk (fun t _ hz hk => ⟨rfl, fun k q hq => (hP k q hq).kept (hk _ (hP k q hq).lt), ⟨Nat.le_trans hS.1 (Nat.le_of_lt hz), fun q h1 h2 => (hk q (Nat.lt_of_lt_of_le h1 hS.1)).trans (hS.2.1 q h1 h2)⟩, Nat.lt_of_le_of_lt hS.1 hz⟩) hS.2.2 (Nat.le_refl _) (Nat.le_refl _)
theorem th_X9_59_204 (hexec : p.tables.exec = Jvm.exec) (hb : c.code = cc) (hl0 : l.stackTraces = false) (hts : ∀ w ∈ wA, w.before args s = true) (hown : s.vm.findClass RX9 = some m.cls) (hE : gE D kI kZ kJ kD s) (hZ : gZ A s s.heap) (hP : va_P D vwCl ws H) (hS : va_S A s.heap H locs) (hsize : ls.size = c.maxLocals) (d0 : decode cc pc = .ok (.new 59, 3)) (d3 : decode cc (pc + 3) = .ok (.dup, 1)) (d4 : decode cc (pc + 4) = .ok (.ldc 204, 2)) (d6 : decode cc (pc + 6) = .ok (.invokespecial 63, 3)) (d9 : decode cc (pc + 9) = .ok (.athrow, 1)) (hno : ∀ x ∈ c.exceptionTable.toList, False) (hf : 2 + 3 < R.frames) (hlo : (rest.map fun v => v.category).sum + (13 * (2 + 1) + 43) ≤ R.locals) (hce : 0 + 1 ≤ R.cells) (hsl : 0 + 6 ≤ R.slots) (hlk : meth.locks = false) : W p l e R s m args below meth c H locs 0 0 (vx_MQ below Qc (gXC D "java/lang/IllegalArgumentException" ws A) args s 1 6 A) (F0 m pc ls rest) := by
  obtain ⟨sa, hstr⟩ := hE.2.2.1 ("Swapmere", 204, "a page is out of range") (by decide +kernel)
  exact vx_throwS (names := ["java/lang/RuntimeException", "java/lang/Exception"]) (cls := "java/lang/IllegalArgumentException") hexec hb hl0 hown (by decide +kernel) (by decide +kernel) (hts _ q_328) (hts _ q_37) hstr (vx_hat (fun w h => hts w (List.mem_filter.mpr ⟨at_X9_63_g w h, (List.mem_filter.mp h).2⟩)) at_X9_63_b (at_X9_63_c hE.2.1)) at_X9_63_o hZ.1 hZ.2 hS hsize d0 d3 d4 d6 d9 (fun x h => (hno x h).elim) hf hlo hce hsl hlk (fun t _ hz hk => ⟨rfl, fun k q hq => (hP k q hq).kept (hk _ (hP k q hq).lt), ⟨Nat.le_trans hS.1 (Nat.le_of_lt hz), fun q h1 h2 => (hk q (Nat.lt_of_lt_of_le h1 hS.1)).trans (hS.2.1 q h1 h2)⟩, Nat.lt_of_le_of_lt hS.1 hz⟩) hS.2.2 (Nat.le_refl _) (Nat.le_refl _)
theorem th_X9_59_206 (hexec : p.tables.exec = Jvm.exec) (hb : c.code = cc) (hl0 : l.stackTraces = false) (hts : ∀ w ∈ wA, w.before args s = true) (hown : s.vm.findClass RX9 = some m.cls) (hE : gE D kI kZ kJ kD s) (hZ : gZ A s s.heap) (hP : va_P D vwCl ws H) (hS : va_S A s.heap H locs) (hsize : ls.size = c.maxLocals) (d0 : decode cc pc = .ok (.new 59, 3)) (d3 : decode cc (pc + 3) = .ok (.dup, 1)) (d4 : decode cc (pc + 4) = .ok (.ldc 206, 2)) (d6 : decode cc (pc + 6) = .ok (.invokespecial 63, 3)) (d9 : decode cc (pc + 9) = .ok (.athrow, 1)) (hno : ∀ x ∈ c.exceptionTable.toList, False) (hf : 2 + 3 < R.frames) (hlo : (rest.map fun v => v.category).sum + (13 * (2 + 1) + 43) ≤ R.locals) (hce : 0 + 1 ≤ R.cells) (hsl : 0 + 6 ≤ R.slots) (hlk : meth.locks = false) : W p l e R s m args below meth c H locs 0 0 (vx_MQ below Qc (gXC D "java/lang/IllegalArgumentException" ws A) args s 1 6 A) (F0 m pc ls rest) := by
  obtain ⟨sa, hstr⟩ := hE.2.2.1 ("Swapmere", 206, "the number of frames is out of range") (by decide +kernel)
  exact vx_throwS (names := ["java/lang/RuntimeException", "java/lang/Exception"]) (cls := "java/lang/IllegalArgumentException") hexec hb hl0 hown (by decide +kernel) (by decide +kernel) (hts _ q_328) (hts _ q_37) hstr (vx_hat (fun w h => hts w (List.mem_filter.mpr ⟨at_X9_63_g w h, (List.mem_filter.mp h).2⟩)) at_X9_63_b (at_X9_63_c hE.2.1)) at_X9_63_o hZ.1 hZ.2 hS hsize d0 d3 d4 d6 d9 (fun x h => (hno x h).elim) hf hlo hce hsl hlk (fun t _ hz hk => ⟨rfl, fun k q hq => (hP k q hq).kept (hk _ (hP k q hq).lt), ⟨Nat.le_trans hS.1 (Nat.le_of_lt hz), fun q h1 h2 => (hk q (Nat.lt_of_lt_of_le h1 hS.1)).trans (hS.2.1 q h1 h2)⟩, Nat.lt_of_le_of_lt hS.1 hz⟩) hS.2.2 (Nat.le_refl _) (Nat.le_refl _)
theorem th_X9_59_61 (hexec : p.tables.exec = Jvm.exec) (hb : c.code = cc) (hl0 : l.stackTraces = false) (hts : ∀ w ∈ wA, w.before args s = true) (hown : s.vm.findClass RX9 = some m.cls) (hE : gE D kI kZ kJ kD s) (hZ : gZ A s s.heap) (hP : va_P D vwCl ws H) (hS : va_S A s.heap H locs) (hsize : ls.size = c.maxLocals) (d0 : decode cc pc = .ok (.new 59, 3)) (d3 : decode cc (pc + 3) = .ok (.dup, 1)) (d4 : decode cc (pc + 4) = .ok (.ldc 61, 2)) (d6 : decode cc (pc + 6) = .ok (.invokespecial 63, 3)) (d9 : decode cc (pc + 9) = .ok (.athrow, 1)) (hno : ∀ x ∈ c.exceptionTable.toList, False) (hf : 2 + 3 < R.frames) (hlo : (rest.map fun v => v.category).sum + (13 * (2 + 1) + 43) ≤ R.locals) (hce : 0 + 1 ≤ R.cells) (hsl : 0 + 6 ≤ R.slots) (hlk : meth.locks = false) : W p l e R s m args below meth c H locs 0 0 (vx_MQ below Qc (gXC D "java/lang/IllegalArgumentException" ws A) args s 1 6 A) (F0 m pc ls rest) := by
  obtain ⟨sa, hstr⟩ := hE.2.2.1 ("Swapmere", 61, "the window is out of range") (by decide +kernel)
  exact vx_throwS (names := ["java/lang/RuntimeException", "java/lang/Exception"]) (cls := "java/lang/IllegalArgumentException") hexec hb hl0 hown (by decide +kernel) (by decide +kernel) (hts _ q_328) (hts _ q_37) hstr (vx_hat (fun w h => hts w (List.mem_filter.mpr ⟨at_X9_63_g w h, (List.mem_filter.mp h).2⟩)) at_X9_63_b (at_X9_63_c hE.2.1)) at_X9_63_o hZ.1 hZ.2 hS hsize d0 d3 d4 d6 d9 (fun x h => (hno x h).elim) hf hlo hce hsl hlk (fun t _ hz hk => ⟨rfl, fun k q hq => (hP k q hq).kept (hk _ (hP k q hq).lt), ⟨Nat.le_trans hS.1 (Nat.le_of_lt hz), fun q h1 h2 => (hk q (Nat.lt_of_lt_of_le h1 hS.1)).trans (hS.2.1 q h1 h2)⟩, Nat.lt_of_le_of_lt hS.1 hz⟩) hS.2.2 (Nat.le_refl _) (Nat.le_refl _)
theorem th_X9_59_76 (hexec : p.tables.exec = Jvm.exec) (hb : c.code = cc) (hl0 : l.stackTraces = false) (hts : ∀ w ∈ wA, w.before args s = true) (hown : s.vm.findClass RX9 = some m.cls) (hE : gE D kI kZ kJ kD s) (hZ : gZ A s s.heap) (hP : va_P D vwCl ws H) (hS : va_S A s.heap H locs) (hsize : ls.size = c.maxLocals) (d0 : decode cc pc = .ok (.new 59, 3)) (d3 : decode cc (pc + 3) = .ok (.dup, 1)) (d4 : decode cc (pc + 4) = .ok (.ldc 76, 2)) (d6 : decode cc (pc + 6) = .ok (.invokespecial 63, 3)) (d9 : decode cc (pc + 9) = .ok (.athrow, 1)) (hno : ∀ x ∈ c.exceptionTable.toList, False) (hf : 2 + 3 < R.frames) (hlo : (rest.map fun v => v.category).sum + (13 * (2 + 1) + 43) ≤ R.locals) (hce : 0 + 1 ≤ R.cells) (hsl : 0 + 6 ≤ R.slots) (hlk : meth.locks = false) : W p l e R s m args below meth c H locs 0 0 (vx_MQ below Qc (gXC D "java/lang/IllegalArgumentException" ws A) args s 1 6 A) (F0 m pc ls rest) := by
  obtain ⟨sa, hstr⟩ := hE.2.2.1 ("Swapmere", 76, "the step or the count is out of range") (by decide +kernel)
  exact vx_throwS (names := ["java/lang/RuntimeException", "java/lang/Exception"]) (cls := "java/lang/IllegalArgumentException") hexec hb hl0 hown (by decide +kernel) (by decide +kernel) (hts _ q_328) (hts _ q_37) hstr (vx_hat (fun w h => hts w (List.mem_filter.mpr ⟨at_X9_63_g w h, (List.mem_filter.mp h).2⟩)) at_X9_63_b (at_X9_63_c hE.2.1)) at_X9_63_o hZ.1 hZ.2 hS hsize d0 d3 d4 d6 d9 (fun x h => (hno x h).elim) hf hlo hce hsl hlk (fun t _ hz hk => ⟨rfl, fun k q hq => (hP k q hq).kept (hk _ (hP k q hq).lt), ⟨Nat.le_trans hS.1 (Nat.le_of_lt hz), fun q h1 h2 => (hk q (Nat.lt_of_lt_of_le h1 hS.1)).trans (hS.2.1 q h1 h2)⟩, Nat.lt_of_le_of_lt hS.1 hz⟩) hS.2.2 (Nat.le_refl _) (Nat.le_refl _)
end TH
