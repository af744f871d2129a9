/-! NoSuchElementException: its constructor links its superclass's by another entry than the other exceptions do -/
abbrev zNS : String := "java/util/NoSuchElementException"
abbrev zRE : String := "java/lang/RuntimeException"
def zN1 : List Cond := Bundle.passSAtoms zNS zRE 13 prog_34_method_4_code
def zN2 : List Cond := Bundle.chainSAtoms zRE ["java/lang/Exception"]
def zN3 (own : String) (ic : Nat) : List Cond := [.methodLink own ic (Bundle.initS zNS), .instantiable zNS 6, .selects zNS Bundle.tFill0 Bundle.tFill0, .selects zNS Bundle.tFill Bundle.tFill, .lays zNS Bundle.tN "cause" "Ljava/lang/Throwable;", .lays zNS Bundle.tN "stackTrace" Bundle.steD, .lays zNS Bundle.tN "suppressedExceptions" Bundle.listD, .lays zNS Bundle.tN "detailMessage" "Ljava/lang/String;", .lays zNS Bundle.tN "backtrace" "Ljava/lang/Object;", .fieldLink Bundle.tN 198 Bundle.tN "backtrace" "Ljava/lang/Object;", .lays Bundle.tN Bundle.tN "backtrace" "Ljava/lang/Object;", .isRef (.static Bundle.tN "UNASSIGNED_STACK" Bundle.steD), .isRef (.static Bundle.tN "SUPPRESSED_SENTINEL" Bundle.listD)]
def zN (own : String) (ic : Nat) : List Cond := Bundle.throwableAtoms ++ (Bundle.throwableSAtoms ++ (zN1 ++ (zN2 ++ zN3 own ic)))
theorem ns_0 : decode prog_34_method_4_code 0 = .ok (.aload_n 0, 1) := by decide +kernel
theorem ns_1 : decode prog_34_method_4_code 1 = .ok (.aload_n 1, 1) := by decide +kernel
theorem ns_2 : decode prog_34_method_4_code 2 = .ok (.invokespecial 13, 3) := by decide +kernel
theorem ns_5 : decode prog_34_method_4_code 5 = .ok (.return_, 1) := by decide +kernel
section ZNS
variable {p : Program} {l : Launch} {e : Env} {R : Room} {s : State} {m : MethodId} {args : Array Value} {below : List Frame} {meth : Method} {c : Code} {T0 : State} {cells slots : Nat}
set_option maxHeartbeats 4000000 in
theorem z_ctorNS (X : Stand p l e R s m args below meth c T0 [] cells slots) (hx : p.tables.exec = Jvm.exec) (htr : e.platform.stackTraces = false) {own : String} {ic : Nat} (hown : s.vm.findClass own = some m.cls) (h : ∀ w ∈ zN own ic, w.before args s = true)
    {a : Addr} {cX : ClassId} {kX : Class} (hfX : s.vm.findClass zNS = some cX) (hkX : s.vm.classes[cX]? = some kX) (hcell : T0.heap[a]? = some (freshCell cX kX)) (hnew : s.heap.size ≤ a) {msg : Value} (hmsg : msg.isRef = true) {g : JFrame} (hg : g.method = m) (hsz : g.locals.size = c.maxLocals) (hlk : g.locked = none) (hen : g.entered = []) {rest : List Value} (hst : g.stack = msg :: .ref a :: .ref a :: rest)
    (d6 : decode c.code g.pc = .ok (.invokespecial ic, 3)) (d9 : decode c.code (g.pc + 3) = .ok (.athrow, 1)) (hout : ∀ x ∈ c.exceptionTable.toList, covers x (g.pc + 3) = false) (hRf : 6 ≤ R.frames) (hRl : 2 * g.monitorRoom + ((Value.ref a :: rest).map fun v => v.category).sum + 81 ≤ R.locals) (hlocks : meth.locks = false) :
    ∃ U : State, Steps p.tables e below (T0.setTop g) U ∧ U.status = .running ∧ Ended U below (.threw a) ∧ s.WarmedH U.vm ∧ s.sameButNew ({ U with vm := s.vm } : State) [] cells slots ∧ ∃ ce : Cell, U.heap[a]? = some ce ∧ ce.vm = .none ∧ ce.cls = cX := by
  have pl1 : e.platform.frameOwnsMonitors = true := by rw [X.admits.platform]
  have pl2 : e.platform.finalization = false := by rw [X.admits.platform]
  have pl3 : e.platform.magicAccessors = ({} : Platform).magicAccessors := by rw [X.admits.platform]
  have h0 : ∀ w ∈ Bundle.throwableAtoms, w.before args s = true := fun w hw => h w (List.mem_append_left _ hw)
  have h1 : ∀ w ∈ Bundle.throwableSAtoms, w.before args s = true := fun w hw => h w (List.mem_append_right _ (List.mem_append_left _ hw))
  have h2 : ∀ w ∈ zN1, w.before args s = true := fun w hw => h w (List.mem_append_right _ (List.mem_append_right _ (List.mem_append_left _ hw)))
  have h3 : ∀ w ∈ zN2, w.before args s = true := fun w hw => h w (List.mem_append_right _ (List.mem_append_right _ (List.mem_append_right _ (List.mem_append_left _ hw))))
  have h4 : ∀ w ∈ zN3 own ic, w.before args s = true := fun w hw => h w (List.mem_append_right _ (List.mem_append_right _ (List.mem_append_right _ (List.mem_append_right _ hw))))
  have at4 : ∀ (i : Nat) {w : Cond}, (zN3 own ic)[i]? = some w → w.before args s = true := fun i {w} hi => h4 w (List.mem_of_getElem? hi)
  obtain ⟨T, Z0, L, -, Y⟩ := ThrowableC.of_atoms (args := args) pl1 pl2 pl3 h0
  obtain ⟨Z, M, LZ, LM, hZ⟩ := Init0T.ofS_atoms (args := args) pl3 L Y h1
  obtain ⟨P2, Ps, hlen, LP2, LPs, hP2, hs2, hpass⟩ := Bundle.chainS (args := args) pl3 hZ ["java/lang/Exception"] zRE (by decide +kernel) (by decide +kernel) h3
  obtain ⟨P1, LP1, hP1, hP1s⟩ := PassC.ofS_atoms (args := args) (s := s) pl3 (X := zNS) (Y := zRE) (by decide +kernel) (by decide +kernel) ns_0 ns_1 ns_2 ns_5 h2
  have hsup : P1.sup = P2.m := Option.some.inj (hP1s.symm.trans hP2)
  have hfd : s.vm.findClass zNS = some P1.m.cls := findClass_of_methodNamed hP1
  have hcX : cX = P1.m.cls := Option.some.inj (hfX.symm.trans hfd)
  subst hcX
  obtain ⟨c1, k1, hc1, hk1, hord, -, -, hn6⟩ := Cond.instantiable_spec (at4 1 rfl)
  have hc1' : c1 = P1.m.cls := Option.some.inj (hc1.symm.trans hfd)
  subst hc1'
  have hk1' : k1 = kX := Option.some.inj (hk1.symm.trans hkX)
  subst hk1'
  have sel : ∀ {y : MethodName} {my : MethodId}, (Cond.selects zNS y y).before args s = true → s.methodNamed? y = some my → s.methodFound? y.cls y.name y.desc = some my → selectMethod e.platform s.vm P1.m.cls my = .method my := fun {y my} hw hn hf => by
    obtain ⟨c2, r2, m2, q1, q2, q3, q4, -⟩ := Cond.selects_spec hw
    rw [hfd] at q1
    rw [hf] at q2
    rw [hn] at q3
    cases q1; cases q2; cases q3
    rw [Launch.admits_selectMethod X.admits]
    exact q4
  have sel0 := sel (at4 2 rfl) Y.fill0 (State.methodFound?_of_named Y.fill0 (by decide))
  have selF := sel (at4 3 rfl) Y.fill (State.methodFound?_of_named Y.fill (by decide))
  obtain ⟨cS, hcS, hiS⟩ := Y.statics
  obtain ⟨u0, hu0⟩ := Cond.staticRefV Y.unassigned L.unassignedStatic L.statics hcS hiS (at4 11 rfl)
  obtain ⟨sn, hsn⟩ := Cond.staticRefV Y.sentinel L.sentinelStatic L.statics hcS hiS (at4 12 rfl)
  obtain ⟨ci, iB, fB, b1, b2, b3, b4, -, nB, tB, ffB⟩ := Cond.ownField (t := .object "java/lang/Object") Y.found L.cls (by decide +kernel) (at4 9 rfl) (at4 10 rfl) e.platform pl3
  obtain ⟨cS', hcS', eS, -, kS⟩ := X.same.2.2.2.2.2 T.aS cS hcS
  have hS0 : T0.heap[T.aS]? = some cS' := hcS'
  have hSn : cS'.vm ≠ .unknown := by
    rw [eS]
    intro hu
    rw [show cS.vm = .unknown from hu] at hiS
    cases hiS
  have hSa : T.aS ≠ a := Nat.ne_of_lt (Nat.lt_of_lt_of_le (Array.getElem?_eq_some_iff.mp hcS).1 hnew)
  obtain ⟨iM, ffM⟩ := Y.msg
  obtain ⟨tC, dC, eC, nC⟩ := Cond.laysAt hfd hkX Y.cause (at4 4 rfl)
  obtain ⟨tS, dS, eS2, nS⟩ := Cond.laysAt hfd hkX Y.stack (at4 5 rfl)
  obtain ⟨tP, dP, eP, nP⟩ := Cond.laysAt hfd hkX Y.supp (at4 6 rfl)
  obtain ⟨tM, -⟩ := Cond.laysAt hfd hkX ffM (at4 7 rfl)
  obtain ⟨tBk, dB, eB, nBk⟩ := Cond.laysAt hfd hkX ffB (at4 8 rfl)
  have x1 := Cond.laysApart eB eC nBk nC (by rw [nB, Y.causeName]; decide)
  have x2 := Cond.laysApart eB eS2 nBk nS (by rw [nB, Y.stackName]; decide)
  have x3 := Cond.laysApart eB eP nBk nP (by rw [nB, Y.suppName]; decide)
  have hskip : SkipFacts T e.platform s (fun u => u) u0 ((preparedCellV T.toThrowableT (freshCell P1.m.cls k1) a u0 sn).withEntry T0.cur) :=
    ⟨{ ci198 := ci, i198 := iB, fBack := fB }, ⟨b1, b2, b3, b4⟩, by
      have q := fresh_default (c := P1.m.cls) tBk
      rw [tB] at q
      simpa [preparedCellV, Cell.setSlot, Cell.withEntry, Array.getElem?_setIfInBounds, x1, x2, x3, x1.symm, x2.symm, x3.symm, defaultValue] using q, fun _ _ => rfl⟩
  obtain ⟨tm, mC, cdC, kC, vm1, hnC, -, -, -, -, -, -, -, hW1, go1⟩ := Steps.initColdS (tb := p.tables) (e := e) (below := below) (s := s) (U := T0) X.here hx X.warmed pl3 hown (t := Bundle.initS zNS) rfl rfl (by decide +kernel) (at4 0 rfl) (h2 (.instanceMethod (Bundle.initS zNS)) (List.mem_of_getElem? (i := 0) rfl)) (bytes := prog_34_method_4_code) (maxL := 2) (h2 (.code (Bundle.initS zNS) prog_34_method_4_code 2 none) (List.mem_of_getElem? (i := 1) rfl)) (f := g) hg (a := a) (msg := msg) (rest := .ref a :: rest) hst d6
  have htm : tm = P1.m := Option.some.inj (hnC.symm.trans hP1)
  subst htm
  have X1 := X.noted hW1
  obtain ⟨vm2, X2, go2⟩ := X1.ctorMessageOffV hx (g := { g with stack := .ref a :: rest }) hg hsz T L Z LZ M LM (P1 :: P2 :: Ps)
    (fun P hP => by
      rcases List.mem_cons.mp hP with rfl | hP
      · exact LP1
      · rcases List.mem_cons.mp hP with rfl | hP
        · exact LP2
        · exact LPs P hP) ⟨hsup, hs2, hpass⟩ (u0 := u0) (sen := sn) (self := a) hmsg (cell := freshCell P1.m.cls k1) (cellS := cS')
    hcell (fun _ => by simp) (by simp) rfl rfl sel0 selF hS0 hSa hSn (by rw [kS _ (fun q => nomatch q)]; exact hu0) (by rw [kS _ (fun q => nomatch q)]; exact hsn)
    (Takes.of_laid hkX hord tC (by rw [Y.causeType]; rfl)) (Takes.of_laid hkX hord tS (by rw [Y.stackType]; exact fits_refV_array _ u0)) (Takes.of_laid hkX hord tP (by rw [Y.suppType]; exact fits_refV_object _ sn))
    (Takes.of_laid hkX hord tM (by rw [Y.msgType]; exact fits_refV_object _ ⟨msg, hmsg⟩)) Y.objLocals hskip htr [] d6
    (by simp only [List.length_cons, hlen, List.length_nil]; omega) (by simp only [List.length_cons, hlen, List.length_nil]; exact hRl)
  obtain ⟨hwalk, hrun, hend, hWU, hsm⟩ := X2.athrowLeaves hx (g := { g with stack := .ref a :: rest, pc := g.pc + 3 }) hg hlk hen hout (a := a) (rest := rest) rfl d9
  have hlt : a < ((T0.setVm vm1).setVm vm2).heap.size := (Array.getElem?_eq_some_iff.mp hcell).1
  have hU := heapAt_setCell_self (s := (T0.setVm vm1).setVm vm2) (plainBareV T.toThrowableT (freshCell P1.m.cls k1) a u0 sn msg) hlt
  refine ⟨_, go1 _ (fun acts => ?_), hrun, hend, hWU, hsm.weaken (fun y hy hlt' => ?_) (Nat.le_refl _) (Nat.le_refl _), _, hU, rfl, rfl⟩
  · rw [doInvoke_state]
    exact go2 _ hwalk
  · exfalso
    have hb : y.base = a := by
      simp only [List.nil_append, List.mem_cons, List.not_mem_nil, or_false] at hy
      rcases hy with rfl | rfl | rfl | rfl | rfl <;> rfl
    rw [hb] at hlt'
    exact Nat.not_lt.mpr hnew hlt'
end ZNS
