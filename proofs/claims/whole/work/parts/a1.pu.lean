/-! MACHINE, 2: calls out of a method whose own cells are more than the callee's -/
theorem z_K.narrow {D : zD} {A B : Nat → Prop} {U : State} (h : z_K D A U) (hAB : ∀ q, B q → A q) : z_K D B U := by
  obtain ⟨h0, h1, h2, h3, h4, h5, h6, h7⟩ := h
  exact ⟨h0, h1.narrow hAB, h2.narrow hAB, h3.narrow hAB, h4, h5.narrow hAB, h6.narrow hAB, h7⟩
section ZL
variable {p : Program} {l : Launch} {e : Env} {R : Room} {s : State} {m : MethodId} {args : Array Value} {below : List Frame} {meth : Method} {c : Code} {H : Heap} {locs : List Loc} {cells slots : Nat} {Q : State → Prop}
variable {cc : ByteArray} {pc : Nat} {ls : Array Slot} {rest : List Value} {D : zD} {A A1 : Nat → Prop} {b : Nat} {g : zG} {u : zU} {own : String} {st : List Value}
variable {y : MethodName} {cy : ByteArray} {maxL nL n index fr lo ci r0 mc ms : Nat} {ret : Option FieldType} {As : List Value} {Pc : Array Value → State → Prop} {Qc : Array Value → State → Outcome → State → Prop} {XC : String → State → State → Prop}
theorem zL_kept {st0 t : State} {T' : State} {L : List Loc} (h0 : st0.heap = H) (e1 : T'.heap = t.heap) (hF : va_F A1 st0 t) (hAA : ∀ q, A1 q → A q) (hL : ∀ q ∈ L, A1 q.base) (hS : va_S A s.heap H locs) : H.size ≤ T'.heap.size ∧ (∀ q : Nat, q < H.size → ¬ A1 q → T'.heap[q]? = H[q]?) ∧ va_S A s.heap T'.heap (locs ++ L) := by
  obtain ⟨hz, hk⟩ := hF
  rw [h0] at hz hk
  refine ⟨by rw [e1]; exact hz, fun q h1 h2 => by rw [e1]; exact hk q h1 h2, Nat.le_trans hS.1 (by rw [e1]; exact hz), fun q h1 h2 => ?_, fun q hq => ?_⟩
  · rw [e1, hk q (Nat.lt_of_lt_of_le h1 hS.1) (fun h => h2 (hAA q h))]; exact hS.2.1 q h1 h2
  · rcases List.mem_append.mp hq with h | h
    · exact hS.2.2 q h
    · exact hAA _ (hL q h)
theorem zL_cv (C0 : z_C p c cc s m args own D A) (hml : c.maxLocals = nL) (hl : ls.size = nL) (hW : z_W D A1 b g u H) (hS : va_S A s.heap H locs) (hM : Met l y (.code y cy maxL ret :: wsA) { frames := fr, cells := mc, slots := ms, locals := lo } Pc Qc mc ms A1) (hbl : FrameBlind Pc) (hPc : ∀ U : State, U.heap = H → s.WarmedH U.vm → Pc (Value.ref (b + r0) :: As).toArray U)
    (Y : z_YV own index y cy maxL ret ci n) (hg : (g r0).1 = ci + 4) (hR : fr + 1 ≤ R.frames ∧ 8 + (maxL + 11) + lo ≤ R.locals) (hf : cells + mc ≤ R.cells ∧ slots + ms ≤ R.slots) (hst : st = As.reverse ++ .ref (b + r0) :: rest) (hn : As.length = n) (hw : (rest.map fun v => v.category).sum ≤ 8) (hdg : decode cc pc = .ok (.invokevirtual index, 3)) (hAA : ∀ q, A1 q → A q)
    {v : Option Value} {Ψ : Heap → Prop} (hQ : ∀ st0 o t, Qc (Value.ref (b + r0) :: As).toArray st0 o t → o = .returned v ∧ Ψ t.heap ∧ va_F A1 st0 t)
    (kk : ∀ (H1 : Heap) (locs1 : List Loc), Ψ H1 → H.size ≤ H1.size → (∀ q : Nat, q < H.size → ¬ A1 q → H1[q]? = H[q]?) → va_S A s.heap H1 locs1 → W p l e R s m args below meth c H1 locs1 (cells + mc) (slots + ms) Q (F0 m (pc + 3) ls (v.toList ++ rest))) : W p l e R s m args below meth c H locs cells slots Q (F0 m pc ls st) := by
  obtain ⟨hx, hb, hts, hown, hK⟩ := C0
  obtain ⟨hG, hd, T, N, hc⟩ := Y
  obtain ⟨cell, q1, q2, q3, -⟩ := z_ob hW hg
  obtain ⟨-, hfc, -⟩ := hK.1.1 ci _ hc
  have hr := va_runV (C := y.cls) (bytes := cy) (maxL := maxL) (ret := ret) (n := n) (locs := locs) (cells := cells) (slots := slots) (p := p) (l := l) (e := e) (R := R) (below := below) (meth := meth) (H := H) (g := F0 m pc ls st) (rest := rest) ⟨hx, hb, hml, hown, hts⟩ hM (cwV n hts hG rfl rfl rfl ⟨rfl, hd⟩ hR) ⟨hbl, ⟨cell, q1, by rw [q3]; rfl, by rw [q2]; exact hfc⟩, hPc⟩ rfl hn hl hst (lv_room hw) hdg hf
  intro T hT X
  obtain ⟨v', st₀, t, T', L, h0, X', hL, e1, e2, hq, go⟩ := hr T hT X
  obtain ⟨hv, hΨ, hF⟩ := hQ _ _ _ hq
  cases hv
  obtain ⟨k1, k2, k3⟩ := zL_kept h0 e1 hF hAA hL hS
  obtain ⟨t2, a1, b1⟩ := kk T'.heap (locs ++ L) (by rw [e1]; exact hΨ) k1 k2 k3 T' rfl X'
  exact ⟨t2, go t2 a1, b1⟩
theorem zL_cvX (C0 : z_C p c cc s m args own D A) (hml : c.maxLocals = nL) (hl : ls.size = nL) (hW : z_W D A1 b g u H) (hS : va_S A s.heap H locs) (hM : vx_Met l y (.code y cy maxL ret :: wsA) { frames := fr, cells := mc, slots := ms, locals := lo } Pc z_No XC mc ms A1) (hbl : FrameBlind Pc) (hPc : ∀ U : State, U.heap = H → s.WarmedH U.vm → Pc (Value.ref (b + r0) :: As).toArray U)
    (Y : z_YV own index y cy maxL ret ci n) (hg : (g r0).1 = ci + 4) (hR : fr + 1 ≤ R.frames ∧ 8 + (maxL + 11) + lo ≤ R.locals) (hf : cells + mc ≤ R.cells ∧ slots + ms ≤ R.slots) (hst : st = As.reverse ++ .ref (b + r0) :: rest) (hn : As.length = n) (hw : (rest.map fun v => v.category).sum ≤ 8) (hdg : decode cc pc = .ok (.invokevirtual index, 3)) (hAA : ∀ q, A1 q → A q)
    {E0 : String} {Ψ : Heap → Prop} (hX : ∀ E st0 t, XC E st0 t → E = E0 ∧ Ψ t.heap ∧ va_F A1 st0 t)
    (kx : ∀ (ce : Cell) (q9 : Addr) (H1 : Heap) (locs1 : List Loc), Ψ H1 → H.size ≤ H1.size → (∀ q : Nat, q < H.size → ¬ A1 q → H1[q]? = H[q]?) → va_S A s.heap H1 locs1 → H1[q9]? = some ce → ce.vm = .none → s.vm.findClass E0 = some ce.cls → vx_W p l e R s m args below meth c H1 locs1 (cells + mc) (slots + ms) Q (F0 m pc ls rest) q9) : W p l e R s m args below meth c H locs cells slots Q (F0 m pc ls st) := by
  obtain ⟨hx, hb, hts, hown, hK⟩ := C0
  obtain ⟨hG, hd, T, N, hc⟩ := Y
  obtain ⟨cell, q1, q2, q3, -⟩ := z_ob hW hg
  obtain ⟨-, hfc, -⟩ := hK.1.1 ci _ hc
  have hr := vx_runV (C := y.cls) (bytes := cy) (maxL := maxL) (ret := ret) (n := n) (locs := locs) (cells := cells) (slots := slots) (p := p) (l := l) (e := e) (R := R) (below := below) (meth := meth) (H := H) (g := F0 m pc ls st) (rest := rest) ⟨hx, hb, hml, hown, hts⟩ hM (cwV n hts hG rfl rfl rfl ⟨rfl, hd⟩ hR) ⟨hbl, ⟨cell, q1, by rw [q3]; rfl, by rw [q2]; exact hfc⟩, hPc⟩ rfl hn hl hst (lv_room hw) hdg hf
  intro T hT X
  rcases hr T hT X with ⟨v', st₀, t, T', L, h0, X', hL, e1, e2, hq, go⟩ | ⟨q, st₀, t, T', L, E, ce, h0, X', hL, e1, e2, hq, hce, hcv, hcl, go⟩
  · exact hq.elim
  · obtain ⟨rfl, hΨ, hF⟩ := hX _ _ _ hq
    obtain ⟨k1, k2, k3⟩ := zL_kept h0 e1 hF hAA hL hS
    obtain ⟨t2, a1, b1⟩ := kx ce q T'.heap (locs ++ L) (by rw [e1]; exact hΨ) k1 k2 k3 (by rw [e1]; exact hce) hcv hcl T' rfl X'
    exact ⟨t2, go.trans a1, b1⟩
/-- a static method with a table of its own, that doesn't throw -/
theorem zL_cs {hh : List (Nat × Nat × Nat × Nat)} (C0 : z_C p c cc s m args own D A) (hml : c.maxLocals = nL) (hl : ls.size = nL) (hS : va_S A s.heap H locs) (hM : vx_Met l y (.codeWith y cy maxL ret hh :: wsA) { frames := fr, cells := mc, slots := ms, locals := lo } Pc Qc (fun _ _ _ => False) mc ms A1) (hbl : FrameBlind Pc) (hPc : ∀ U : State, U.heap = H → s.WarmedH U.vm → Pc As.toArray U)
    (Y : GoodIn wsA (va_wsS own index y (.codeWith y cy maxL ret hh :: wsA)) ∧ (y.cls ≠ "java/lang/invoke/MethodHandle" ∧ y.cls ≠ "java/lang/invoke/VarHandle" ∧ (parseMethodDescriptor y.desc).map (fun d => d.parameters.length) = some n)) (hR : fr + 1 ≤ R.frames ∧ 8 + (maxL + 11) + lo ≤ R.locals) (hf : cells + mc ≤ R.cells ∧ slots + ms ≤ R.slots) (hst : st = As.reverse ++ rest) (hn : As.length = n) (hw : (rest.map fun v => v.category).sum ≤ 8) (hdg : decode cc pc = .ok (.invokestatic index, 3)) (hAA : ∀ q, A1 q → A q)
    {v : Option Value} {Ψ : Heap → Prop} (hQ : ∀ st0 o t, Qc As.toArray st0 o t → o = .returned v ∧ Ψ t.heap ∧ va_F A1 st0 t)
    (kk : ∀ (H1 : Heap) (locs1 : List Loc), Ψ H1 → H.size ≤ H1.size → (∀ q : Nat, q < H.size → ¬ A1 q → H1[q]? = H[q]?) → va_S A s.heap H1 locs1 → W p l e R s m args below meth c H1 locs1 (cells + mc) (slots + ms) Q (F0 m (pc + 3) ls (v.toList ++ rest))) : W p l e R s m args below meth c H locs cells slots Q (F0 m pc ls st) := by
  obtain ⟨hx, hb, hts, hown, hK⟩ := C0
  have hr := vx_runSX (bytes := cy) (maxL := maxL) (ret := ret) (n := n) (hh := hh) (locs := locs) (cells := cells) (slots := slots) (p := p) (l := l) (e := e) (R := R) (below := below) (meth := meth) (H := H) (g := F0 m pc ls st) (rest := rest) ⟨hx, hb, hml, hown, hts⟩ hM (vx_cwSW n hts Y.1 rfl rfl rfl Y.2 hR) ⟨hbl, hPc⟩ rfl hn hl hst (lv_room hw) hdg hf
  intro T hT X
  rcases hr T hT X with ⟨v', st₀, t, T', L, h0, X', hL, e1, e2, hq, go⟩ | ⟨q, st₀, t, T', L, E, ce, h0, X', hL, e1, e2, hq, -⟩
  · obtain ⟨hv, hΨ, hF⟩ := hQ _ _ _ hq
    cases hv
    obtain ⟨k1, k2, k3⟩ := zL_kept h0 e1 hF hAA hL hS
    obtain ⟨t2, a1, b1⟩ := kk T'.heap (locs ++ L) (by rw [e1]; exact hΨ) k1 k2 k3 T' rfl X'
    exact ⟨t2, go t2 a1, b1⟩
  · exact hq.elim
end ZL
