/-! calls of an inherited method, and of one whose name is abstract; the ring's latest keep -/
def z_YU (own : String) (index : Nat) (C owner : String) (x y : MethodName) (cc : ByteArray) (maxL : Nat) (ret : Option FieldType) (ci n : Nat) : Prop :=
  GoodIn wsA (va_wsU own index C owner x y (.code y cc maxL ret :: wsA)) ∧ (owner ≠ "java/lang/invoke/MethodHandle" ∧ owner ≠ "java/lang/invoke/VarHandle" ∧ (parseMethodDescriptor x.desc).map (fun d => d.parameters.length) = some n) ∧ ∃ (T : u_T) (N : Nat), vwCl[ci]? = some (C, T, N)
theorem z_YU.of {own : String} {index : Nat} {C owner : String} {x y : MethodName} {cc : ByteArray} {maxL : Nat} {ret : Option FieldType} {ci n : Nat} {T : u_T} {N : Nat} (h1 : ∀ w ∈ [Cond.methodLink own index x, .sameMethod x.cls owner x.name x.desc, .selects C x y, .instanceMethod y, .initialized y.cls, .code y cc maxL ret], w ∈ wsA)
    (hd : owner ≠ "java/lang/invoke/MethodHandle" ∧ owner ≠ "java/lang/invoke/VarHandle" ∧ (parseMethodDescriptor x.desc).map (fun d => d.parameters.length) = some n) (hc : vwCl[ci]? = some (C, T, N)) : z_YU own index C owner x y cc maxL ret ci n := by
  refine ⟨fun w hw => wsA_good w ?_, hd, T, N, hc⟩
  unfold va_wsU at hw
  rcases List.mem_append.mp hw with h | h
  · exact h1 w (by simp only [List.mem_cons, List.not_mem_nil, or_false] at h ⊢; rcases h with h | h | h | h | h <;> simp [h])
  · rcases List.mem_cons.mp h with h | h
    · exact h1 w (by simp [h])
    · exact h
section ZCU
variable {p : Program} {l : Launch} {e : Env} {R : Room} {s : State} {m : MethodId} {args : Array Value} {below : List Frame} {meth : Method} {c : Code} {H : Heap} {locs : List Loc} {Q : State → Prop}
variable {cc : ByteArray} {pc : Nat} {ls : Array Slot} {rest : List Value} {D : zD} {A : Nat → Prop} {b : Nat} {g : zG} {u u' : zU} {own C owner : String} {st : List Value}
variable {x y : MethodName} {cy : ByteArray} {maxL nL n index fr lo ci r0 : Nat} {ret : Option FieldType} {As : List Value}
theorem z_cuv (C0 : z_C p c cc s m args own D A) (hml : c.maxLocals = nL) (hl : ls.size = nL) (hW : z_W D A b g u H) (hS : va_S A s.heap H locs) (hM : z_M l D A b g y cy maxL ret fr lo (.ref (b + r0) :: As) u none u') (Y : z_YU own index C owner x y cy maxL ret ci n) (hyx : y = ⟨owner, x.name, x.desc⟩) (hg : (g r0).1 = ci + 4)
    (hR : fr + 1 ≤ R.frames ∧ 8 + (maxL + 11) + lo ≤ R.locals) (hst : st = As.reverse ++ .ref (b + r0) :: rest) (hn : As.length = n) (hw : (rest.map fun v => v.category).sum ≤ 8) (hdg : decode cc pc = .ok (.invokevirtual index, 3))
    (kk : ∀ (H1 : Heap) (locs1 : List Loc), z_W D A b g u' H1 → va_S A s.heap H1 locs1 → W p l e R s m args below meth c H1 locs1 0 0 Q (F0 m (pc + 3) ls rest)) : W p l e R s m args below meth c H locs 0 0 Q (F0 m pc ls st) := by
  obtain ⟨hx, hb, hts, hown, hK⟩ := C0
  obtain ⟨hG, hd, T, N, hc⟩ := Y
  obtain ⟨cell, q1, q2, q3, -⟩ := z_ob hW hg
  obtain ⟨-, hfc, -⟩ := hK.1.1 ci _ hc
  exact z_back (v := none) (va_runU (C := C) (owner := owner) (bytes := cy) (maxL := maxL) (ret := ret) (n := n) ⟨hx, hb, hml, hown, hts⟩ hM (va_cwU n hts hG rfl rfl rfl hyx hd hR) ⟨z_blind, ⟨cell, q1, by rw [q3]; rfl, by rw [q2]; exact hfc⟩, fun U hU hW2 => ⟨rfl, hK.at hW2 hU hS, by rw [hU]; exact hW⟩⟩ rfl hn hl hst (lv_room hw) hdg ⟨Nat.zero_le _, Nat.zero_le _⟩) hS kk
theorem z_cav (C0 : z_C p c cc s m args own D A) (hml : c.maxLocals = nL) (hl : ls.size = nL) (hW : z_W D A b g u H) (hS : va_S A s.heap H locs) (hM : z_M l D A b g y cy maxL ret fr lo (.ref (b + r0) :: As) u none u') (Y : z_YU own index C owner x y cy maxL ret ci n) (hyx : (⟨owner, x.name, x.desc⟩ : MethodName) = ⟨"TopWheel$Reader", "readLine", "()V"⟩) (hg : (g r0).1 = ci + 4)
    (hR : fr + 1 ≤ R.frames ∧ 8 + (maxL + 11) + lo ≤ R.locals) (hst : st = As.reverse ++ .ref (b + r0) :: rest) (hn : As.length = n) (hw : (rest.map fun v => v.category).sum ≤ 8) (hdg : decode cc pc = .ok (.invokevirtual index, 3))
    (kk : ∀ (H1 : Heap) (locs1 : List Loc), z_W D A b g u' H1 → va_S A s.heap H1 locs1 → W p l e R s m args below meth c H1 locs1 0 0 Q (F0 m (pc + 3) ls rest)) : W p l e R s m args below meth c H locs 0 0 Q (F0 m pc ls st) := by
  obtain ⟨hx, hb, hts, hown, hK⟩ := C0
  obtain ⟨hG, hd, T, N, hc⟩ := Y
  obtain ⟨cell, q1, q2, q3, -⟩ := z_ob hW hg
  obtain ⟨-, hfc, -⟩ := hK.1.1 ci _ hc
  exact z_back (v := none) (va_runU (C := C) (owner := owner) (bytes := cy) (maxL := maxL) (ret := ret) (n := n) ⟨hx, hb, hml, hown, hts⟩ hM (va_cwA n hts hG rfl rfl rfl (by rw [hyx]; exact hK.2.2.2.2.2.2.2.2.2.1) hd hR) ⟨z_blind, ⟨cell, q1, by rw [q3]; rfl, by rw [q2]; exact hfc⟩, fun U hU hW2 => ⟨rfl, hK.at hW2 hU hS, by rw [hU]; exact hW⟩⟩ rfl hn hl hst (lv_room hw) hdg ⟨Nat.zero_le _, Nat.zero_le _⟩) hS kk
end ZCU
