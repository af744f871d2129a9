/-! MACHINE, 1: a throw caught by name, behind rows that are passed; the rows' classes cold or warm -/
section ZCA
variable {Q : Handler → Pre} {E : CtlPost} {e : Env} {d : Bool} {acts : List Action} {s : State} {f : JFrame} {a : Addr}
/-- a row of the table that covers the place and names a class that can be linked: it takes the object, or the search goes on, the link noted -/
theorem zc_row {x : ExceptionTableEntry} {t : List ExceptionTableEntry} {k : ClassId} {cell : Cell} (hx : covers x f.pc = true) (h0 : x.catchType ≠ 0) (hl : s.vm.ClassLinks e.platform f.method.cls x.catchType k) (hcell : s.heap[a]? = some cell) (hobj : ∀ j, cell.vm ≠ .statics j)
    (hk : ∃ j, s.vm.classes[cell.cls]? = some j) (hc : ∃ j, s.vm.classes[k]? = some j) : wp (findHandler.go f a (x :: t)) Q E e d acts s ↔ if s.vm.assignable cell.cls k = true then Q (.found x.handlerPc) d acts (s.setVm (s.vm.noted f.method.cls x.catchType (.cls k))) else wp (findHandler.go f a t) Q E e d acts (s.setVm (s.vm.noted f.method.cls x.catchType (.cls k))) := by
  simp only [covers] at hx
  obtain ⟨ha, ht⟩ := (resolveClass_links e.toSetting hl).op (op := VmOp.resolveClass f.method.cls x.catchType) rfl
  have hal : s.vm.Alike (s.vm.noted f.method.cls x.catchType (.cls k)) := (Vm.Alike.refl s.vm).noted _ _ _
  obtain ⟨k1, hk1⟩ := hk
  obtain ⟨k2, hk2⟩ := hc
  obtain ⟨k1', hk1', -⟩ := hal.2.2 _ _ hk1
  obtain ⟨k2', hk2', -⟩ := hal.2.2 _ _ hk2
  by_cases hfit : s.vm.assignable cell.cls k = true
  · have hfit' : (s.vm.noted f.method.cls x.catchType (.cls k)).assignable cell.cls k = true := by rw [hal.assignable]; exact hfit
    rw [if_pos hfit]
    simp [findHandler.go, hx, h0, ha, ht, hcell, hobj, hk1', hk2', hfit', VmOp.dirties, VmOp.acts]
  · have hfit' : (s.vm.noted f.method.cls x.catchType (.cls k)).assignable cell.cls k = false := by
      rw [hal.assignable]
      cases h : s.vm.assignable cell.cls k with
      | true => exact absurd h hfit
      | false => rfl
    rw [if_neg hfit]
    simp [findHandler.go, hx, h0, ha, ht, hcell, hobj, hk1', hk2', hfit', VmOp.dirties, VmOp.acts]
end ZCA
/-- the search through a table: rows ahead are passed, the row x takes the object -/
theorem zc_find {e : Env} {s0 : State} {f : JFrame} {a : Addr} {cell : Cell} (hobj : ∀ j, cell.vm ≠ .statics j) (hk0 : ∃ j, s0.vm.classes[cell.cls]? = some j) (x : ExceptionTableEntry) (rest : List ExceptionTableEntry) (hx : covers x f.pc = true) (h0 : x.catchType ≠ 0) {k : ClassId} (hl : s0.vm.ClassLinks e.platform f.method.cls x.catchType k) (hfit : s0.vm.assignable cell.cls k = true) :
    ∀ (pre : List ExceptionTableEntry) (S : State), s0.WarmedH S.vm → S.heap[a]? = some cell → (∀ y ∈ pre, covers y f.pc = true ∧ y.catchType ≠ 0 ∧ ∃ j, s0.vm.ClassLinks e.platform f.method.cls y.catchType j ∧ s0.vm.assignable cell.cls j = false) →
      ∃ vm', s0.WarmedH vm' ∧ ∀ (Q : Handler → Pre) (E : CtlPost) (d : Bool) (acts : List Action), wp (findHandler.go f a (pre ++ x :: rest)) Q E e d acts S ↔ Q (.found x.handlerPc) d acts (S.setVm vm')
  | [], S, hW, hcell, _ => by
    obtain ⟨j0, hj0⟩ := hk0
    obtain ⟨j1, hj1, -⟩ := hW.alike.2.2 _ _ hj0
    obtain ⟨dk, _, _, kt, hd, _, _, _, _, hkt, _, hopen⟩ := hl.here
    obtain ⟨kt', hkt', -⟩ := hW.alike.2.2 _ _ hkt
    refine ⟨_, hW.noted hd hopen (State.rightAt_cls hl), fun Q E d acts => ?_⟩
    rw [List.nil_append, zc_row hx h0 (hW.classLinks hl) hcell hobj ⟨j1, hj1⟩ ⟨kt', hkt'⟩, if_pos (by rw [hW.alike.assignable]; exact hfit)]
  | y :: ys, S, hW, hcell, hp => by
    obtain ⟨j0, hj0⟩ := hk0
    obtain ⟨j1, hj1, -⟩ := hW.alike.2.2 _ _ hj0
    obtain ⟨hy, hy0, j, hlj, hno⟩ := hp y (List.mem_cons_self ..)
    obtain ⟨dk, _, _, kt, hd, _, _, _, _, hkt, _, hopen⟩ := hlj.here
    obtain ⟨kt', hkt', -⟩ := hW.alike.2.2 _ _ hkt
    obtain ⟨vm', hW', hq⟩ := zc_find hobj ⟨j0, hj0⟩ x rest hx h0 hl hfit ys (S.setVm (S.vm.noted f.method.cls y.catchType (.cls j))) (hW.noted hd hopen (State.rightAt_cls hlj)) hcell (fun z hz => hp z (List.mem_cons_of_mem _ hz))
    refine ⟨vm', hW', fun Q E d acts => ?_⟩
    rw [List.cons_append, zc_row hy hy0 (hW.classLinks hlj) hcell hobj ⟨j1, hj1⟩ ⟨kt', hkt'⟩, if_neg (by rw [hW.alike.assignable, hno]; exact Bool.false_ne_true)]
    exact hq Q E d acts
section ZCB
variable {p : Program} {l : Launch} {e : Env} {R : Room} {s : State} {m : MethodId} {args : Array Value} {below : List Frame} {meth : Method} {c : Code} {H : Heap} {locs : List Loc} {cells slots : Nat} {Q : State → Prop}
variable {pc : Nat} {ls : Array Slot} {rest : List Value}
/-- caught: the walk goes on at the handler, the object alone on the stack -/
theorem zc_catch {own name : String} {E : String} {ce : Cell} {q : Addr} (hown : s.vm.findClass own = some m.cls) (pre : List ExceptionTableEntry) (x : ExceptionTableEntry) (suf : List ExceptionTableEntry) (hsplit : c.exceptionTable.toList = pre ++ x :: suf)
    (hpass : ∀ z ∈ pre, covers z pc = true ∧ z.catchType ≠ 0 ∧ ∃ nm : String, (Cond.classLink own z.catchType nm).before args s = true ∧ va_Nc E nm s) (hx : covers x pc = true) (h0 : x.catchType ≠ 0)
    (hlink : (Cond.classLink own x.catchType name).before args s = true) (hcast : (Cond.castable E name).before args s = true) (hcell : H[q]? = some ce) (hv : ce.vm = .none) (hcl : s.vm.findClass E = some ce.cls)
    (kk : W p l e R s m args below meth c H locs cells slots Q (F0 m x.handlerPc ls [.ref q])) : vx_W p l e R s m args below meth c H locs cells slots Q (F0 m pc ls rest) q := by
  intro T hT X
  have hpl : e.platform.magicAccessors = ({} : Platform).magicAccessors := by rw [X.admits.platform]
  obtain ⟨c3, c4, hc3, hc4, hasg⟩ := Cond.castable_spec hcast
  cases Option.some.inj (hc3.symm.trans hcl)
  obtain ⟨c5, hc5, hcl5⟩ := Cond.classLink_spec hown hlink e.platform hpl
  cases Option.some.inj (hc4.symm.trans hc5)
  have hcT : T.heap[q]? = some ce := by rw [hT]; exact hcell
  obtain ⟨vm', hW', hq⟩ := zc_find (e := e) (s0 := s) (f := F0 m pc ls rest) (a := q) (cell := ce) (fun j => by rw [hv]; exact fun h => by cases h) (by obtain ⟨k9, h9, -⟩ := Vm.findClass_spec hcl; exact ⟨k9, h9⟩) x suf hx h0 hcl5 hasg pre ((T.setTop (F0 m pc ls rest)).pushFrame (.throwing q)) X.warmed hcT (fun z hz => by
    obtain ⟨z1, z2, nm, hl1, hn1⟩ := hpass z hz
    obtain ⟨c6, hc6, hcl6⟩ := Cond.classLink_spec hown hl1 e.platform hpl
    obtain ⟨a8, b8, h1, h2, h3⟩ := hn1
    cases Option.some.inj (h1.symm.trans hcl)
    cases Option.some.inj (h2.symm.trans hc6)
    exact ⟨z1, z2, _, hcl6, h3⟩)
  obtain ⟨t, a1, b1⟩ := kk (T.setVm vm') hT (X.noted hW')
  refine ⟨t, ?_, b1⟩
  have hAt : At T (F0 m pc ls rest).method c below := X.here
  have hm' : ((T.setTop (F0 m pc ls rest)).pushFrame (.throwing q)).vm.method? (F0 m pc ls rest).method = some meth := X.method'
  obtain ⟨hgo, hw⟩ := hAt.throwing q
  refine Steps.head hgo hw ?_
  have hstep : (stepThrowing e ((T.setTop (F0 m pc ls rest)).pushFrame (.throwing q)) q (.java (F0 m pc ls rest) :: T.frames.tail)).Is ((((T.setTop (F0 m pc ls rest)).pushFrame (.throwing q)).setVm vm').setFrames (.java { F0 m pc ls rest with pc := x.handlerPc, stack := [.ref q] } :: T.frames.tail)) [] := by
    simp only [stepThrowing, searchFrame, vmDo]
    generalize hr : Sem.go _ e false [] ((T.setTop (F0 m pc ls rest)).pushFrame (.throwing q)) = res
    obtain ⟨as, rfl, ha⟩ := Sem.eq_ok_of hr (a := Handler.found x.handlerPc) (s' := ((T.setTop (F0 m pc ls rest)).pushFrame (.throwing q)).setVm vm') (acts' := []) (by
      have hfind : ∀ (Q : Handler → Pre) (E : CtlPost) (d : Bool) (acts : List Action), wp (findHandler (F0 m pc ls rest) q) Q E e d acts ((T.setTop (F0 m pc ls rest)).pushFrame (.throwing q)) ↔ Q (.found x.handlerPc) d acts (((T.setTop (F0 m pc ls rest)).pushFrame (.throwing q)).setVm vm') := fun Q E d acts => by
        rw [W.findHandler_eq hm' X.code, hsplit]; exact hq Q E d acts
      simp [hfind])
    exact ⟨rfl, ha⟩
  rw [stepThread_throwing (frames_entered hAt.top _), hstep.1]
  obtain ⟨g0, hg⟩ := Option.isSome_iff_exists.mp hAt.top
  obtain ⟨r, hr⟩ := State.topJava?_eq_some.mp hg
  have hr' : (T.setVm vm').frames = .java g0 :: r := hr
  have a1 : Steps p.tables e below ((T.setVm vm').setTop { F0 m pc ls rest with pc := x.handlerPc, stack := [.ref q] }) t := a1
  rw [State.setTop_of_frames _ hr'] at a1
  have hfs : ∀ (u : State) (F G : List Frame), ((u.setFrames F).setVm vm').setFrames G = (u.setVm vm').setFrames G := fun u F G => by
    rw [show (u.setFrames F).setVm vm' = (u.setVm vm').setFrames F from rfl, State.setFrames_setFrames]
  rw [hr, List.tail_cons, State.pushFrame, hfs, State.setTop_of_frames _ hr, hfs]
  exact a1
end ZCB
