/-! MACHINE, 3: the law's own small methods: try a call, keep its answer, or tell which exception came -/
def AL (A1 : Nat → Prop) (ob : Nat) : Nat → Prop := fun q => A1 q ∨ q = ob
/-- the row 'out' of one long -/
def oC (dJ : ClassId) (ob : Nat) (H : Heap) (x : Int64) : Prop := ∃ f : Nat → Value, H[ob]? = some (arrV dJ 1 f) ∧ f 0 = .long x
def wP (D : zD) (A1 : Nat → Prop) (b ob : Nat) (dJ : ClassId) (g : zG) (as : List Value) (u : zU) : Array Value → State → Prop := fun v U => v = as.toArray ∧ z_K D (AL A1 ob) U ∧ z_K2 U ∧ z_W D A1 b g u U.heap ∧ ArrOfT U dJ .long ∧ (∃ x, oC dJ ob U.heap x) ∧ ¬ A1 ob ∧ ∀ q : Nat, U.heap.size ≤ q → A1 q
def wQ (D : zD) (A1 : Nat → Prop) (b ob : Nat) (dJ : ClassId) (k : Int32) (ow : Option Int32) (Φ : zG → zq → zU → Prop) : Array Value → State → Outcome → State → Prop := fun _ st o t => o = .returned (some (.int k)) ∧ ((∃ G' q' u', z_W D A1 b (zg G' q') u' t.heap ∧ zTop G' q' ∧ Φ G' q' u') ∧ ∃ x, oC dJ ob t.heap x ∧ ∀ w, ow = some w → x = w.toInt64) ∧ va_F (AL A1 ob) st t
abbrev wRm : Room := { frames := 45, cells := 8, slots := 1644, locals := 1500 }
def wM (l : Launch) (D : zD) (A1 : Nat → Prop) (b ob : Nat) (dJ : ClassId) (y : MethodName) (cc : ByteArray) (maxL : Nat) (hh : List (Nat × Nat × Nat × Nat)) (as : List Value) (G : zG) (q : zq) (u : zU) (k : Int32) (ow : Option Int32) (Φ : zG → zq → zU → Prop) : Prop :=
  vx_Met l y (.codeWith y cc maxL (some .int) hh :: wsA) wRm (wP D A1 b ob dJ (zg G q) as u) (wQ D A1 b ob dJ k ow Φ) (fun _ _ _ => False) 8 1644 (AL A1 ob)
theorem w_blind {D : zD} {A1 : Nat → Prop} {b ob : Nat} {dJ : ClassId} {g : zG} {as : List Value} {u : zU} : FrameBlind (wP D A1 b ob dJ g as u) := fun a U g mk q => ⟨q.1, q.2.1.calling g mk a, ⟨q.2.2.1.1.moved (u := U) (U := U.calling g mk a) (Vm.Alike.refl U.vm), q.2.2.1.2.same rfl rfl⟩, q.2.2.2.1, arrOfT_moved (u := U) (E := U.calling g mk a) (Vm.Alike.refl U.vm) q.2.2.2.2.1, q.2.2.2.2.2.1, q.2.2.2.2.2.2.1, q.2.2.2.2.2.2.2⟩
abbrev wEnd (D : zD) (A1 : Nat → Prop) (b ob : Nat) (dJ : ClassId) (below : List Frame) (args : Array Value) (s : State) (k : Int32) (ow : Option Int32) (Φ : zG → zq → zU → Prop) : State → Prop := vx_MQ below (wQ D A1 b ob dJ k ow Φ) (fun _ _ _ => False) args s 8 1644 (AL A1 ob)
/-- what holds all along such a method -/
def wC (p : Program) (c : Code) (cc : ByteArray) (s : State) (m : MethodId) (args : Array Value) (own : String) (D : zD) (A1 : Nat → Prop) (ob : Nat) (dJ : ClassId) (meth : Method) (maxL : Nat) (hh : List (Nat × Nat × Nat × Nat)) : Prop :=
  z_C p c cc s m args own D (AL A1 ob) ∧ z_K2 s ∧ c.exceptionTable.toList = tableOf hh ∧ meth.sig.returnType = some .int ∧ c.maxLocals = maxL ∧ meth.locks = false ∧ ArrOfT s dJ .long ∧ ¬ A1 ob ∧ ∀ q : Nat, s.heap.size ≤ q → A1 q
theorem w_enter {l : Launch} {D : zD} {A1 : Nat → Prop} {b ob : Nat} {dJ : ClassId} {y : MethodName} {cc : ByteArray} {maxL : Nat} {hh : List (Nat × Nat × Nat × Nat)} {as : List Value} {G : zG} {q : zq} {u : zU} {k : Int32} {ow : Option Int32} {Φ : zG → zq → zU → Prop} (hy : plainName y.cls = true) (hn : (lg_sl as).length ≤ maxL)
    (body : ∀ (p : Program) (e : Env) (s : State) (m : MethodId) (below : List Frame) (meth : Method) (c : Code) (ls : Array Slot), wC p c cc s m as.toArray y.cls D A1 ob dJ meth maxL hh → z_W D A1 b (zg G q) u s.heap → (∃ x, oC dJ ob s.heap x) → lv_has ls maxL (lv_args 0 as) →
      W p l e wRm s m as.toArray below meth c s.heap [] 0 0 (wEnd D A1 b ob dJ below as.toArray s k ow Φ) (F0 m 0 ls [])) : wM l D A1 b ob dJ y cc maxL hh as G q u k ow Φ := by
  unfold wM
  refine vx_ofWH (cc := cc) (maxL := maxL) (ret := some .int) (hh := hh) hy rfl ?_
  intro p e s m vals below meth c s₁ B hml hv
  obtain ⟨rfl, hK, hK2, hW, hA, hO, hn1, hn2⟩ := hv
  have hts : ∀ w ∈ Cond.codeWith y cc maxL (some .int) hh :: wsA, w.before as.toArray s = true := atoms_spec (ws := Cond.codeWith y cc maxL (some .int) hh :: wsA) B.pre
  have hown : s.vm.findClass y.cls = some m.cls := findClass_of_methodNamed B.named
  have hl := lv_entry as (n := maxL) hn
  rw [lg_entry_eq]
  exact body p e s m below meth c _ ⟨⟨B.exec, B.bytes, fun w h => hts w (List.mem_cons_of_mem _ h), hown, hK⟩, hK2, vx_table (x := y) B (hts _ List.mem_cons_self), B.returns, hml, B.notSynchronized, hA, hn1, hn2⟩ hW hO hl
theorem z_W.oth {D : zD} {A1 : Nat → Prop} {b : Nat} {g : zG} {u : zU} {H H1 : Heap} (h : z_W D A1 b g u H) (hq : ∀ q : Nat, A1 q → H1[q]? = H[q]?) : z_W D A1 b g u H1 := by
  intro r
  refine ⟨?_, (h r).2⟩
  by_cases h0 : (g r).1 = 0
  · unfold z_at; rw [h0]; exact trivial
  · exact (h r).1.kept (hq _ ((h r).2 h0))
section ZW
variable {p : Program} {l : Launch} {e : Env} {s : State} {m : MethodId} {args : Array Value} {below : List Frame} {meth : Method} {c : Code} {H : Heap} {locs : List Loc} {cells slots : Nat}
variable {cc : ByteArray} {pc : Nat} {ls : Array Slot} {D : zD} {A1 : Nat → Prop} {b ob maxL : Nat} {dJ : ClassId} {own : String} {hh : List (Nat × Nat × Nat × Nat)} {k : Int32} {ow : Option Int32} {Φ : zG → zq → zU → Prop}
/-- the end: a number told -/
theorem w_ret (C : wC p c cc s m args own D A1 ob dJ meth maxL hh) (hS : va_S (AL A1 ob) s.heap H locs) (hΨ : ∃ G' q' u', z_W D A1 b (zg G' q') u' H ∧ zTop G' q' ∧ Φ G' q' u') {x : Int64} (hO : oC dJ ob H x) (hx : ∀ w, ow = some w → x = w.toInt64) (h1 : cells ≤ 8) (h2 : slots ≤ 1644) (hdg : decode cc pc = .ok (.ireturn, 1)) :
    W p l e wRm s m args below meth c H locs cells slots (wEnd D A1 b ob dJ below args s k ow Φ) (F0 m pc ls [.int k]) := by
  obtain ⟨C0, -, -, hr, -, hlk, -⟩ := C
  exact W.widen h1 h2 (vx_ret (W.iret (v := k) C0.1 C0.2.1 hr (fun t ht _ => ⟨rfl, ⟨by rw [ht]; exact hΨ, x, by rw [ht]; exact hO, hx⟩, hS.F ht⟩) hS.2.2 hdg hlk))
/-- the call returned: its answer is kept, 0 is told -/
theorem w_ok (C : wC p c cc s m args own D A1 ob dJ meth maxL hh) (hS : va_S (AL A1 ob) s.heap H locs) {v : Int32} (hΨ : ∃ G' q' u', z_W D A1 b (zg G' q') u' H ∧ zTop G' q' ∧ Φ G' q' u') (hO : ∃ x, oC dJ ob H x) (hk : k = 0) (how : ∀ w, ow = some w → w = v) (h1 : cells ≤ 8) (h2 : slots ≤ 1644)
    (d1 : decode cc pc = .ok (.i2l, 1)) (d2 : decode cc (pc + 1) = .ok (.lastore, 1)) {off : Int} {tgt : Nat} (d3 : decode cc (pc + 1 + 1) = .ok (.goto off, 3)) (ht : ((pc + 1 + 1 : Nat) : Int) + off = (tgt : Int)) (d4 : decode cc tgt = .ok (.iconst 0, 1)) (d5 : decode cc (tgt + 1) = .ok (.ireturn, 1)) :
    W p l e wRm s m args below meth c H locs cells slots (wEnd D A1 b ob dJ below args s k ow Φ) (F0 m pc ls [.int v, .int 0, .ref ob]) := by
  have hx := C.1.1
  have hb := C.1.2.1
  obtain ⟨x0, f, hf, -⟩ := hO
  refine lv_i2l (v := v.toInt64) hx hb d1 rfl ?_
  refine W.last (x := v.toInt64) (j := 0) hx hb hf (C.2.2.2.2.2.2.1 1 f) (fun q => by cases q) (by show ¬ ((0 : Int32) < 0 ∨ (arrV _ _ _).slots.size ≤ _); rw [arrV_size]; decide) rfl rfl d2 fun H1 e1 z1 o1 => ?_
  have hS1 := hS.put z1 o1 (Or.inr rfl : AL A1 ob ob) (k := (0 : Int32).toNatClampNeg)
  have hn := C.2.2.2.2.2.2.2.1
  obtain ⟨G', q', u', w1, w2, w3⟩ := hΨ
  have hO1 : oC dJ ob H1 v.toInt64 := ⟨updV f (0 : Int32).toNatClampNeg (.long v.toInt64), by rw [e1, arrV_store], rfl⟩
  refine lv_goto hx hb d3 ht ?_
  refine lv_iconst (v := (0 : Int32)) hx hb d4 (by decide) ?_
  rw [hk]
  exact w_ret C hS1 ⟨G', q', u', w1.oth (fun q hq => o1 q (fun e => hn (by rw [← e]; exact hq))), w2, w3⟩ hO1 (fun w hw => by rw [how w hw]) h1 h2 d5
/-- the call threw, and it was caught: which it was is told -/
theorem w_no (C : wC p c cc s m args own D A1 ob dJ meth maxL hh) (hS : va_S (AL A1 ob) s.heap H locs) (hΨ : ∃ G' q' u', z_W D A1 b (zg G' q') u' H ∧ zTop G' q' ∧ Φ G' q' u') (hO : ∃ x, oC dJ ob H x) (how : ow = none) (h1 : cells ≤ 8) (h2 : slots ≤ 1644) {n : Int} (hk : Int32.ofInt n = k) (d4 : decode cc pc = .ok (.iconst n, 1)) (d5 : decode cc (pc + 1) = .ok (.ireturn, 1)) :
    W p l e wRm s m args below meth c H locs cells slots (wEnd D A1 b ob dJ below args s k ow Φ) (F0 m pc ls []) := by
  obtain ⟨x, hO⟩ := hO
  refine lv_iconst (v := k) C.1.1 C.1.2.1 d4 hk ?_
  exact w_ret C hS hΨ hO (fun w hw => by rw [how] at hw; cases hw) h1 h2 d5
end ZW
