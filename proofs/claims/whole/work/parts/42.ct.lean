/-! contracts of what makes; calls of constructors -/
def z_PN (D : zD) (A : Nat → Prop) (b : Nat) (g : zG) (n : Nat) (as : List Value) (u : zU) : Array Value → State → Prop := fun v U => z_Pc D A b g as u v U ∧ z_K2 U ∧ U.heap.size = b + n ∧ ∀ q : Nat, U.heap.size ≤ q → A q
def z_QN (D : zD) (A : Nat → Prop) (b : Nat) (g' : zG) (n' : Nat) (v : Option Value) (u' : zU) : Array Value → State → Outcome → State → Prop := fun _ st o t => o = .returned v ∧ z_W D A b g' u' t.heap ∧ va_F A st t ∧ t.heap.size = b + n'
def z_MN (l : Launch) (D : zD) (A : Nat → Prop) (b : Nat) (g : zG) (n : Nat) (y : MethodName) (cc : ByteArray) (maxL : Nat) (ret : Option FieldType) (fr lo mc ms : Nat) (as : List Value) (u : zU) (v : Option Value) (g' : zG) (n' : Nat) (u' : zU) : Prop :=
  Met l y (.code y cc maxL ret :: wsA) { frames := fr, cells := mc, slots := ms, locals := lo } (z_PN D A b g n as u) (z_QN D A b g' n' v u') mc ms A
theorem z_blindN {D : zD} {A : Nat → Prop} {b n : Nat} {g : zG} {as : List Value} {u : zU} : FrameBlind (z_PN D A b g n as u) := fun a U g mk q => ⟨⟨q.1.1, q.1.2.1.calling g mk a, q.1.2.2⟩, ⟨q.2.1.1.moved (u := U) (U := U.calling g mk a) (Vm.Alike.refl U.vm), q.2.1.2.same rfl rfl⟩, q.2.2.1, q.2.2.2⟩
abbrev z_EndN (D : zD) (A : Nat → Prop) (b : Nat) (g' : zG) (n' mc ms : Nat) (below : List Frame) (args : Array Value) (s : State) (v : Option Value) (u' : zU) : State → Prop := MQ below (z_QN D A b g' n' v u') args s mc ms A
theorem z_enterN {l : Launch} {D : zD} {A : Nat → Prop} {b n n' : Nat} {g g' : zG} {y : MethodName} {cc : ByteArray} {maxL : Nat} {ret : Option FieldType} {fr lo mc ms : Nat} {as : List Value} {u : zU} {v : Option Value} {u' : zU} (hy : plainName y.cls = true) (hn : (lg_sl as).length ≤ maxL)
    (body : ∀ (p : Program) (e : Env) (s : State) (m : MethodId) (below : List Frame) (meth : Method) (c : Code) (ls : Array Slot), z_C p c cc s m as.toArray y.cls D A → meth.sig.returnType = ret → c.maxLocals = maxL → meth.locks = false → meth.name = y.name → z_K2 s → s.heap.size = b + n → (∀ q : Nat, s.heap.size ≤ q → A q) → z_W D A b g u s.heap → va_S A s.heap s.heap [] → lv_has ls maxL (lv_args 0 as) →
      W p l e { frames := fr, cells := mc, slots := ms, locals := lo } s m as.toArray below meth c s.heap [] 0 0 (z_EndN D A b g' n' mc ms below as.toArray s v u') (F0 m 0 ls [])) : z_MN l D A b g n y cc maxL ret fr lo mc ms as u v g' n' u' := by
  unfold z_MN
  refine Met.ofW (cc := cc) (maxL := maxL) (ret := ret) hy rfl ?_
  intro p e s m vals below meth c s₁ B hml hv
  obtain ⟨⟨rfl, hK, hW⟩, hK2, hZ, hA⟩ := hv
  have hts : ∀ w ∈ Cond.code y cc maxL ret :: wsA, w.before as.toArray s = true := atoms_spec (ws := Cond.code y cc maxL ret :: wsA) B.pre
  have hown : s.vm.findClass y.cls = some m.cls := findClass_of_methodNamed B.named
  have hl := lv_entry as (n := maxL) hn
  rw [lg_entry_eq]
  exact body p e s m below meth c _ ⟨B.exec, B.bytes, fun w h => hts w (List.mem_cons_of_mem _ h), hown, hK⟩ B.returns hml B.notSynchronized (name_of_methodNamed B.named B.method).1 hK2 hZ hA hW va_S.rf hl
/-- for methods outside the class's own package (Arrays.copyOf) -/
theorem z_enterNF {l : Launch} {D : zD} {A : Nat → Prop} {b n n' : Nat} {g g' : zG} {y : MethodName} {cc : ByteArray} {maxL : Nat} {ret : Option FieldType} {fr lo mc ms : Nat} {as : List Value} {u : zU} {v : Option Value} {u' : zU} (hy : plainFor y = true) (hn : (lg_sl as).length ≤ maxL)
    (body : ∀ (p : Program) (e : Env) (s : State) (m : MethodId) (below : List Frame) (meth : Method) (c : Code) (ls : Array Slot), z_C p c cc s m as.toArray y.cls D A → meth.sig.returnType = ret → c.maxLocals = maxL → meth.locks = false → z_K2 s → s.heap.size = b + n → (∀ q : Nat, s.heap.size ≤ q → A q) → z_W D A b g u s.heap → va_S A s.heap s.heap [] → lv_has ls maxL (lv_args 0 as) →
      W p l e { frames := fr, cells := mc, slots := ms, locals := lo } s m as.toArray below meth c s.heap [] 0 0 (z_EndN D A b g' n' mc ms below as.toArray s v u') (F0 m 0 ls [])) : z_MN l D A b g n y cc maxL ret fr lo mc ms as u v g' n' u' := by
  unfold z_MN
  refine va_MetF (cc := cc) (maxL := maxL) (ret := ret) hy rfl ?_
  intro p e s m vals below meth c s₁ B hml hv
  obtain ⟨⟨rfl, hK, hW⟩, hK2, hZ, hA⟩ := hv
  have hts : ∀ w ∈ Cond.code y cc maxL ret :: wsA, w.before as.toArray s = true := atoms_spec (ws := Cond.code y cc maxL ret :: wsA) B.pre
  have hown : s.vm.findClass y.cls = some m.cls := findClass_of_methodNamed B.named
  have hl := lv_entry as (n := maxL) hn
  rw [lg_entry_eq]
  exact body p e s m below meth c _ ⟨B.exec, B.bytes, fun w h => hts w (List.mem_cons_of_mem _ h), hown, hK⟩ B.returns hml B.notSynchronized hK2 hZ hA hW va_S.rf hl
/-- a constructor's row -/
def z_YI (own : String) (index : Nat) (y : MethodName) (cc : ByteArray) (maxL n : Nat) : Prop :=
  (Cond.code y cc maxL none ∈ wsA ∧ Cond.initialized y.cls ∈ wsA ∧ Cond.instanceMethod y ∈ wsA) ∧ (y.name = "<init>" ∧ y.cls ≠ "java/lang/invoke/MethodHandle" ∧ y.cls ≠ "java/lang/invoke/VarHandle" ∧ (parseMethodDescriptor y.desc).map (fun d => d.parameters.length) = some n) ∧ (Cond.methodLink own index y ∈ wsA ∨ ∃ host, (own, index, y, host) ∈ zNst)
section ZCN
variable {p : Program} {l : Launch} {e : Env} {R : Room} {s : State} {m : MethodId} {args : Array Value} {below : List Frame} {meth : Method} {c : Code} {H : Heap} {locs : List Loc} {cells slots : Nat} {Q : State → Prop}
variable {cc : ByteArray} {pc n n' : Nat} {ls : Array Slot} {rest : List Value} {D : zD} {A : Nat → Prop} {b : Nat} {g g' : zG} {u u' : zU} {own : String} {st : List Value} {H0 : Heap}
variable {y : MethodName} {cy : ByteArray} {maxL nL k index fr lo mc ms r0 : Nat} {ret : Option FieldType} {As : List Value} {v : Option Value}
theorem z_backN {a : Array Value} (hr : va_Run p l e R s m args below meth c H locs cells slots mc ms (F0 m pc ls st) rest (z_QN D A b g' n' v u' a) A) (hS : va_S A s.heap H locs)
    (kk : ∀ (H1 : Heap) (locs1 : List Loc), z_W D A b g' u' H1 → va_S A s.heap H1 locs1 → H1.size = b + n' → W p l e R s m args below meth c H1 locs1 (cells + mc) (slots + ms) Q (F0 m (pc + 3) ls (v.toList ++ rest))) : W p l e R s m args below meth c H locs cells slots Q (F0 m pc ls st) := by
  intro T hT X
  obtain ⟨v', st₀, t, T', L, h0, X', hL, e1, e2, ⟨hv, hw, ⟨hz, hk⟩, hn⟩, go⟩ := hr T hT X
  cases hv
  rw [h0] at hz hk
  obtain ⟨t2, a1, b1⟩ := kk T'.heap (locs ++ L) (by rw [e1]; exact hw) ⟨Nat.le_trans hS.1 (by rw [e1]; exact hz), fun q h1 h2 => by rw [e1, hk q (Nat.lt_of_lt_of_le h1 hS.1) h2]; exact hS.2.1 q h1 h2, fun q hq => by
      rcases List.mem_append.mp hq with h | h
      · exact hS.2.2 q h
      · exact hL q h⟩ (by rw [e1]; exact hn) T' rfl X'
  exact ⟨t2, go t2 a1, b1⟩
theorem z_cI (C0 : z_C p c cc s m args own D A) (hK2 : z_K2 s) (hml : c.maxLocals = nL) (hl : ls.size = nL) (hW : z_W D A b g u H) (hS : va_S A s.heap H locs) (hZ : H.size = b + n) (hA : ∀ q : Nat, s.heap.size ≤ q → A q) (hM : z_MN l D A b g n y cy maxL none fr lo mc ms (.ref (b + r0) :: As) u none g' n' u') (Y : z_YI own index y cy maxL k)
    (hR : fr + 1 ≤ R.frames ∧ 8 + (maxL + 11) + lo ≤ R.locals) (hRc : cells + mc ≤ R.cells ∧ slots + ms ≤ R.slots) (hst : st = As.reverse ++ .ref (b + r0) :: rest) (hn : As.length = k) (hw : (rest.map fun v => v.category).sum ≤ 8) (hdg : decode cc pc = .ok (.invokespecial index, 3))
    (kk : ∀ (H1 : Heap) (locs1 : List Loc), z_W D A b g' u' H1 → va_S A s.heap H1 locs1 → H1.size = b + n' → W p l e R s m args below meth c H1 locs1 (cells + mc) (slots + ms) Q (F0 m (pc + 3) ls rest)) : W p l e R s m args below meth c H locs cells slots Q (F0 m pc ls st) := by
  obtain ⟨hx, hb, hts, hown, hK⟩ := C0
  obtain ⟨⟨w1, w2, w3⟩, ⟨hin, hd⟩, hlk⟩ := Y
  have hG : GoodIn wsA (Cond.code y cy maxL none :: wsA) := fun w hw => by
    rcases List.mem_cons.mp hw with h | h
    · rw [h]; exact wsA_good _ w1
    · exact wsA_good _ h
  have hp : PreS s H (z_PN D A b g n (.ref (b + r0) :: As) u) (.ref (b + r0) :: As) := ⟨z_blindN, fun U hU hW2 => ⟨⟨rfl, hK.at hW2 hU hS, by rw [hU]; exact hW⟩, hK2.at hW2, by rw [hU]; exact hZ, fun q hq => hA q (Nat.le_trans hS.1 (by rw [hU] at hq; exact hq))⟩⟩
  rcases hlk with h | ⟨host, h⟩
  · exact z_backN (v := none) (va_runI (bytes := cy) (maxL := maxL) (n := k) ⟨hx, hb, hml, hown, hts⟩ hM (cwI k hts hG rfl rfl rfl (hts _ w2) (hts _ h) (hts _ w3) hin hd hR) hp rfl hn hl hst (lv_room hw) hdg hRc) hS kk
  · exact z_backN (v := none) (va_runIN (host := host) (bytes := cy) (maxL := maxL) (n := k) ⟨hx, hb, hml, hown, hts⟩ hM ⟨va_cnB k hts hG rfl rfl rfl (hK.2.2.2.2.2.2.2.2.2.2 _ h) (hts _ w2) hd hR, hin, hts _ w3⟩ hp rfl hn hl hst (lv_room hw) hdg hRc) hS kk
theorem z_csN (C0 : z_C p c cc s m args own D A) (hK2 : z_K2 s) (hml : c.maxLocals = nL) (hl : ls.size = nL) (hW : z_W D A b g u H) (hS : va_S A s.heap H locs) (hZ : H.size = b + n) (hA : ∀ q : Nat, s.heap.size ≤ q → A q) (hM : z_MN l D A b g n y cy maxL ret fr lo mc ms As u v g' n' u') (Y : z_YS own index y cy maxL ret k)
    (hR : fr + 1 ≤ R.frames ∧ 8 + (maxL + 11) + lo ≤ R.locals) (hRc : cells + mc ≤ R.cells ∧ slots + ms ≤ R.slots) (hst : st = As.reverse ++ rest) (hn : As.length = k) (hw : (rest.map fun v => v.category).sum ≤ 8) (hdg : decode cc pc = .ok (.invokestatic index, 3))
    (kk : ∀ (H1 : Heap) (locs1 : List Loc), z_W D A b g' u' H1 → va_S A s.heap H1 locs1 → H1.size = b + n' → W p l e R s m args below meth c H1 locs1 (cells + mc) (slots + ms) Q (F0 m (pc + 3) ls (v.toList ++ rest))) : W p l e R s m args below meth c H locs cells slots Q (F0 m pc ls st) := by
  obtain ⟨hx, hb, hts, hown, hK⟩ := C0
  obtain ⟨hG, hd⟩ := Y
  exact z_backN (va_runS (bytes := cy) (maxL := maxL) (ret := ret) (n := k) ⟨hx, hb, hml, hown, hts⟩ hM (va_cwS k hts hG rfl rfl rfl hd hR) ⟨z_blindN, fun U hU hW2 => ⟨⟨rfl, hK.at hW2 hU hS, by rw [hU]; exact hW⟩, hK2.at hW2, by rw [hU]; exact hZ, fun q hq => hA q (Nat.le_trans hS.1 (by rw [hU] at hq; exact hq))⟩⟩ rfl hn hl hst (lv_room hw) hdg hRc) hS kk
theorem z_cvN (C0 : z_C p c cc s m args own D A) (hK2 : z_K2 s) (hml : c.maxLocals = nL) (hl : ls.size = nL) (hW : z_W D A b g u H) (hS : va_S A s.heap H locs) (hZ : H.size = b + n) (hA : ∀ q : Nat, s.heap.size ≤ q → A q) {ci : Nat} (hM : z_MN l D A b g n y cy maxL ret fr lo mc ms (.ref (b + r0) :: As) u v g' n' u') (Y : z_YV own index y cy maxL ret ci k) (hg : (g r0).1 = ci + 4)
    (hR : fr + 1 ≤ R.frames ∧ 8 + (maxL + 11) + lo ≤ R.locals) (hRc : cells + mc ≤ R.cells ∧ slots + ms ≤ R.slots) (hst : st = As.reverse ++ .ref (b + r0) :: rest) (hn : As.length = k) (hw : (rest.map fun v => v.category).sum ≤ 8) (hdg : decode cc pc = .ok (.invokevirtual index, 3))
    (kk : ∀ (H1 : Heap) (locs1 : List Loc), z_W D A b g' u' H1 → va_S A s.heap H1 locs1 → H1.size = b + n' → W p l e R s m args below meth c H1 locs1 (cells + mc) (slots + ms) Q (F0 m (pc + 3) ls (v.toList ++ rest))) : W p l e R s m args below meth c H locs cells slots Q (F0 m pc ls st) := by
  obtain ⟨hx, hb, hts, hown, hK⟩ := C0
  obtain ⟨hG, hd, T, N, hc⟩ := Y
  obtain ⟨cell, q1, q2, q3, -⟩ := z_ob hW hg
  obtain ⟨-, hfc, -⟩ := hK.1.1 ci _ hc
  exact z_backN (va_runV (C := y.cls) (bytes := cy) (maxL := maxL) (ret := ret) (n := k) ⟨hx, hb, hml, hown, hts⟩ hM (cwV k hts hG rfl rfl rfl ⟨rfl, hd⟩ hR) ⟨z_blindN, ⟨cell, q1, by rw [q3]; rfl, by rw [q2]; exact hfc⟩, fun U hU hW2 => ⟨⟨rfl, hK.at hW2 hU hS, by rw [hU]; exact hW⟩, hK2.at hW2, by rw [hU]; exact hZ, fun q hq => hA q (Nat.le_trans hS.1 (by rw [hU] at hq; exact hq))⟩⟩ rfl hn hl hst (lv_room hw) hdg hRc) hS kk
theorem z_vretN (C0 : z_C p c cc s m args own D A) (hr : meth.sig.returnType = none) (hlk : meth.locks = false) (hW : z_W D A b g u H) (hS : va_S A s.heap H locs) (hZ : H.size = b + n) (hdg : decode cc pc = .ok (.return_, 1)) : W p l e R s m args below meth c H locs cells slots (z_EndN D A b g n cells slots below args s none u) (F0 m pc ls []) :=
  W.vret C0.1 C0.2.1 hr (fun t ht _ => ⟨rfl, by rw [ht]; exact hW, hS.F ht, by rw [ht]; exact hZ⟩) hS.2.2 hdg hlk
theorem z_putN0 (C0 : z_C p c cc s m args own D A) (hW : z_W D A b g u H) {ci k r : Nat} {ty : FieldType} (F : z_FL own index ci k ty false) (hg : (g r).1 = ci + 4) {v : Value} (hn : narrow ty v = v) (hfit : fits ty v = true) (hdg : decode cc pc = .ok (.putfield index, 3))
    (kk : ∀ (H1 : Heap) (sl : Nat), t_OB (b + r) (D.1.1 ci) (zNF ci) (D.1.2 ci) H1 (updV (z_V b ci (g r).2.2 (u r)) k v) → H1.size = H.size → (∀ q : Nat, q ≠ b + r → H1[q]? = H[q]?) → W p l e R s m args below meth c H1 (locs ++ [⟨b + r, sl⟩]) cells slots Q (F0 m (pc + 3) ls rest)) : W p l e R s m args below meth c H locs cells slots Q (F0 m pc ls (v :: .ref (b + r) :: rest)) := by
  obtain ⟨hx, hb, hts, hown, hK⟩ := C0
  obtain ⟨C, T, N, ref, ty0, hc, hin, hk, hlink, hsame, hty, hnm, hty2, hfin⟩ := F
  have hap := va_apart (own := own) hts hin ty0 hty hnm hK.1 hc
  obtain ⟨cell, q1, q2, q3, q4⟩ := z_ob hW hg
  rw [z_NF hc] at q4
  obtain ⟨hS, hfc, kC, hkC, hkind⟩ := hK.1.1 ci _ hc
  obtain ⟨cf, kf, fi, f, hi, hsl⟩ := hS k hk
  have hi2 : s.fieldFound? ref (T k).2.1 (T k).2.2.1 = some (cf, kf, fi, f) := by
    rcases hsame with h | h
    · rw [h]; exact hi
    · exact u_same (hts _ h) _ hi
  have hlay := hts _ (hin _ (u_in_lay hk))
  unfold u_lay at hlay
  rw [if_neg (by rw [hfin]; decide)] at hlay
  have hst := (u_facts hfc hkC (u_lays hts hin hk) hi).1
  have h6 := u_store hfc hkC hkind hlay hi ((hty k hk).trans (congrArg some hty2)) hn hfit
  refine W.putK hx hb (f := f) ⟨hown, hts _ hlink, ⟨_, _, _, hi2⟩, hst⟩ (by rw [q2]; exact h6) q1 q3 (by rw [hsl]; exact k2_hasslot (q4 k hk)) rfl rfl hdg fun H' e1 e2 e3 => ?_
  rw [hsl] at e1 ⊢
  refine kk H' _ ?_ e2 e3
  rw [z_NF hc]
  exact ⟨_, e1, q2, q3, t_set q4 hap hk v⟩
theorem z_putiN (C0 : z_C p c cc s m args own D A) (hW : z_W D A b g u H) (hS0 : va_S A H0 H locs) (hZ : H.size = b + n) {ci k r : Nat} {ty : FieldType} (F : z_FL own index ci k ty false) (hg : (g r).1 = ci + 4) (hf : zRf ci k = false) {v : Int32} (hn : narrow ty (.int v) = .int v) (hfit : fits ty (.int v) = true) (hdg : decode cc pc = .ok (.putfield index, 3))
    (kk : ∀ (H1 : Heap) (locs1 : List Loc), z_W D A b g (z_up u r k v) H1 → va_S A H0 H1 locs1 → H1.size = b + n → W p l e R s m args below meth c H1 locs1 cells slots Q (F0 m (pc + 3) ls rest)) : W p l e R s m args below meth c H locs cells slots Q (F0 m pc ls (.int v :: .ref (b + r) :: rest)) := by
  refine z_putN0 C0 hW F hg hn hfit hdg fun H1 sl e1 e2 e3 => kk H1 _ (hW.put ?_ e3) (hS0.put e2 e3 (z_in4 hW (k := ci + 3) hg)) (by omega)
  unfold z_at
  rw [hg]
  exact t_OB.to e1 (fun j _ => z_V_set hf j)
theorem z_putrN (C0 : z_C p c cc s m args own D A) (hW : z_W D A b g u H) (hS0 : va_S A H0 H locs) (hZ : H.size = b + n) {ci k r o : Nat} {ty : FieldType} (F : z_FL own index ci k ty false) (hg : (g r).1 = ci + 4) (hf : zRf ci k = true) (hn : narrow ty (.ref (b + o)) = .ref (b + o)) (hfit : fits ty (.ref (b + o)) = true) (hdg : decode cc pc = .ok (.putfield index, 3))
    (kk : ∀ (H1 : Heap) (locs1 : List Loc), z_W D A b (zgs g r k o) u H1 → va_S A H0 H1 locs1 → H1.size = b + n → W p l e R s m args below meth c H1 locs1 cells slots Q (F0 m (pc + 3) ls rest)) : W p l e R s m args below meth c H locs cells slots Q (F0 m pc ls (.ref (b + o) :: .ref (b + r) :: rest)) :=
  z_putN0 C0 hW F hg hn hfit hdg fun H1 sl e1 e2 e3 => kk H1 _ (z_W_setr hW hg hf e1 e3) (hS0.put e2 e3 (z_in4 hW (k := ci + 3) hg)) (by omega)
theorem z_iastN (C0 : z_C p c cc s m args own D A) (hW : z_W D A b g u H) (hS0 : va_S A H0 H locs) (hZ : H.size = b + n) {r N k : Nat} (hg : (g r).1 = 1) (hn : (g r).2.1 = N) {i v : Int32} (hin : z_in i N = true) (hk : i.toNatClampNeg = k) (hdg : decode cc pc = .ok (.iastore, 1))
    (kk : ∀ (H1 : Heap) (locs1 : List Loc), z_W D A b g (z_up u r k v) H1 → va_S A H0 H1 locs1 → H1.size = b + n → W p l e R s m args below meth c H1 locs1 cells slots Q (F0 m (pc + 1) ls rest)) : W p l e R s m args below meth c H locs cells slots Q (F0 m pc ls (.int v :: .int i :: .ref (b + r) :: rest)) := by
  subst hk; subst hn
  obtain ⟨hx, hb, hts, hown, hK⟩ := C0
  have h := (hW r).1
  unfold z_at at h
  rw [hg] at h
  have hin := z_in_vp hin
  refine W.iast hx hb h ((hK.1.2 0 _ rfl).1 (g r).2.1 (fun j => .int (u r j))) (fun q => by cases q) (by show ¬ (i < 0 ∨ (arrV _ _ _).slots.size ≤ _); rw [arrV_size]; exact hin) rfl rfl hdg fun H1 e1 z oq => ?_
  refine kk H1 _ (hW.put ?_ oq) (hS0.put z oq (z_in4 hW (k := 0) hg)) (by omega)
  unfold z_at
  rw [hg]
  show H1[b + r]? = _
  rw [e1, z_arr_set]
theorem z_aastN (C0 : z_C p c cc s m args own D A) (hW : z_W D A b g u H) (hS0 : va_S A H0 H locs) (hZ : H.size = b + n) {r N k o : Nat} (hg : (g r).1 = 3) (hn : (g r).2.1 = N) (ho : (g o).1 = 7) {i : Int32} (hin : z_in i N = true) (hk : i.toNatClampNeg = k) (hdg : decode cc pc = .ok (.aastore, 1))
    (kk : ∀ (H1 : Heap) (locs1 : List Loc), z_W D A b (zgs g r k o) u H1 → va_S A H0 H1 locs1 → H1.size = b + n → W p l e R s m args below meth c H1 locs1 cells slots Q (F0 m (pc + 1) ls rest)) : W p l e R s m args below meth c H locs cells slots Q (F0 m pc ls (.ref (b + o) :: .int i :: .ref (b + r) :: rest)) := by
  subst hk; subst hn
  obtain ⟨hx, hb, hts, hown, hK⟩ := C0
  have h := (hW r).1
  unfold z_at at h
  rw [hg] at h
  have hlt := z_in_lt hin
  have hin := z_in_vp hin
  obtain ⟨cellV, g1, g2, g3, -⟩ := z_ob hW (ci := 3) ho
  have hcls := (hK.1.1 3 _ rfl).2
  obtain ⟨kA, comp, k1, k2, k3, -⟩ := (hK.1.2 2 _ rfl).2
  have hcomp : comp = D.1.1 3 := Option.some.inj (k3.symm.trans hcls.1)
  subst hcomp
  obtain ⟨kC, hkC, -⟩ := hcls.2
  refine W.aast hx hb h (fun q h => by cases h) (fun h => by cases h) k1 k2 rfl hkC ⟨fun q => hin (Or.inl q), by show _ < (arrV _ _ _).slots.size; rw [arrV_size]; exact hlt⟩ g1 (fun q h => by rw [g3] at h; cases h) (by rw [g2]; exact hkC) (by rw [g2]; exact va_assign hcls) rfl rfl hdg fun H1 e1 z oq => ?_
  refine kk H1 _ (fun r' => ?_) (hS0.put z oq (z_in4 hW (k := 2) hg)) (by omega)
  unfold zgs
  by_cases er : r' = r
  · subst er
    rw [if_pos rfl]
    refine ⟨?_, (hW r').2⟩
    unfold z_at
    show (match (g r').1 with | 0 => True | 1 => _ | 2 => _ | 3 => _ | k + 4 => _)
    rw [hg]
    show H1[b + r']? = _
    rw [e1, arrV_store]
    congr 2
    funext q
    by_cases hq : q = i.toNatClampNeg
    · subst hq
      simp [updV, va_rf]
    · simp [updV, hq]
  · rw [if_neg er]
    exact ⟨(hW r').1.kept (oq _ (fun h => er (Nat.add_left_cancel h))), (hW r').2⟩
end ZCN
