/-! MACHINE, 13: what all methods ask holds at the start -/
theorem l_arr {args : Array Value} {s : State} {ty : FieldType} (h : (Cond.arrayClass ty).before args s = true) : ∃ cA : ClassId, ArrOfT s cA ty ∧ s.vm.findClass ("[" ++ ty.toString) = some cA := by
  obtain ⟨c, k, comp, h1, h2, h3⟩ := Cond.arrayClass_spec h
  exact ⟨c, fun n z => ⟨fun k h => (by cases h), k, h2, comp, h3⟩, h1⟩
theorem l_arrO {args : Array Value} {s : State} {C : String} (h : (Cond.arrayOver (.object C)).before args s = true) : ∃ cA : ClassId, ArrOfT s cA (.object C) ∧ va_RA s cA (.object C) := by
  obtain ⟨comp, c, k, h1, h2, h3, h4, h5⟩ := Cond.arrayOver_spec h
  exact ⟨c, fun n z => ⟨fun k h => (by cases h), k, h3, comp, h4⟩, k, comp, h3, h4, h1, h5⟩
theorem l_ex {args : Array Value} {s : State} {C : String} {n : Nat} (h : (Cond.instantiable C n).before args s = true) : ∃ c : ClassId, s.vm.findClass C = some c ∧ s.vm.assignable c c = true := by
  obtain ⟨c, k, h1, h2, h3, -⟩ := Cond.instantiable_spec h
  exact ⟨c, h1, va_assign (s := s) (C := C) ⟨h1, k, h2, h3⟩⟩
theorem l_zq {args : Array Value} {s : State} {C n d : String} {A : Nat → Prop} (hl : (Cond.laysStatic C n d).before args s = true) (hini : (Cond.initialized C).before args s = true) (h : (Cond.isRef (.static C n d)).before args s = true) (hA : ∀ a : Nat, a < s.heap.size → ¬ A a) : vx_Zq C n d A s s.heap := by
  refine ⟨va_Zqof hl hini h hA, ?_⟩
  obtain ⟨c, k, i, f, a, cell, h1, h2, h3, h4, h5, h6, h7, h8, h9⟩ := Cond.laysStatic_spec hl
  exact ⟨c, k, i, f, a, cell, h1, h2, h3, h4, h5, h6, h7, h8, h9, hA a (Array.getElem?_eq_some_iff.mp h5).1⟩
theorem l_cls {args : Array Value} {s : State} (hts : ∀ w ∈ wsA, w.before args s = true) : ∃ (dC : Nat → ClassId) (dI : Nat → Nat → Nat), ∀ (k : Nat) (q : vw_C), vwCl[k]? = some q → u_Kn s q.1 q.2.1 q.2.2 (dC k) (dI k) := by
  obtain ⟨c0, i0, h0⟩ := u_known (C := RX0) (T := TX0) (N := 3) (n := 3) hts in_X0 (hts _ w_is_X0)
  obtain ⟨c1, i1, h1⟩ := u_known (C := RX1) (T := TX1) (N := 3) (n := 3) hts in_X1 (hts _ w_is_X1)
  obtain ⟨c2, i2, h2⟩ := u_known (C := RX2) (T := TX2) (N := 3) (n := 3) hts in_X2 (hts _ w_is_X2)
  obtain ⟨c3, i3, h3⟩ := u_known (C := RX3) (T := TX3) (N := 3) (n := 3) hts in_X3 (hts _ w_is_X3)
  obtain ⟨c4, i4, h4⟩ := u_known (C := RX4) (T := TX4) (N := 8) (n := 8) hts in_X4 (hts _ w_is_X4)
  obtain ⟨c5, i5, h5⟩ := u_known (C := RX5) (T := TX5) (N := 10) (n := 10) hts in_X5 (hts _ w_is_X5)
  obtain ⟨c6, i6, h6⟩ := u_known (C := RX7) (T := TX7) (N := 2) (n := 2) hts in_X7 (hts _ w_is_X7)
  obtain ⟨c7, i7, h7⟩ := u_known (C := RX8) (T := TX8) (N := 6) (n := 6) hts in_X8 (hts _ w_is_X8)
  obtain ⟨c8, i8, h8⟩ := u_known (C := RX9) (T := TX9) (N := 20) (n := 20) hts in_X9 (hts _ w_is_X9)
  obtain ⟨c9, i9, h9⟩ := u_known (C := RX10) (T := TX10) (N := 12) (n := 12) hts in_X10 (hts _ w_is_X10)
  obtain ⟨c10, i10, h10⟩ := u_known (C := RX11) (T := TX11) (N := 23) (n := 23) hts in_X11 (hts _ w_is_X11)
  refine ⟨fun k => [c0, c1, c2, c3, c4, c5, c6, c7, c8, c9, c10].getD k c0, fun k => [i0, i1, i2, i3, i4, i5, i6, i7, i8, i9, i10].getD k i0, fun k q hq => ?_⟩
  match k, hq with
  | 0, hq => cases hq; exact h0
  | 1, hq => cases hq; exact h1
  | 2, hq => cases hq; exact h2
  | 3, hq => cases hq; exact h3
  | 4, hq => cases hq; exact h4
  | 5, hq => cases hq; exact h5
  | 6, hq => cases hq; exact h6
  | 7, hq => cases hq; exact h7
  | 8, hq => cases hq; exact h8
  | 9, hq => cases hq; exact h9
  | 10, hq => cases hq; exact h10
  | k + 11, hq => exact absurd hq (by simp [vwCl])
theorem l_start {args : Array Value} {s : State} (hts : ∀ w ∈ lw_tbl, w.before args s = true) (h : (Cond.and given_1 narrow_1).before args s = true) : (∃ D : zD, z_K D (A0 s) s) ∧ z_K2 s := by
  have hA : ∀ a : Nat, a < s.heap.size → ¬ A0 s a := fun a h h2 => absurd h (Nat.not_lt.mpr h2)
  have hwA : ∀ w ∈ wsA, w.before args s = true := fun w hw => hts w (List.mem_filter.mp hw).1
  obtain ⟨dC, dI, hC⟩ := l_cls hwA
  obtain ⟨cI, hI1, hI2⟩ := l_arr (ty := .int) (hwA _ w_ai)
  obtain ⟨cZ, hZ1, hZ2⟩ := l_arr (ty := .boolean) (hwA _ w_az)
  have hov : (Cond.arrayOver (.object "TopWheel$Keep")).before args s = true := l_tb hts 294 (by decide +kernel)
  obtain ⟨cK, hK1, hK2⟩ := l_arrO hov
  obtain ⟨adK, adV, hS1, hS2⟩ := l_S hts h hA
  refine ⟨⟨((dC, dI), cI, cZ, cK, adK, adV), ⟨hC, fun k q hq => ?_⟩, ?_, ?_, hS1, hS2, ?_, ?_, ?_, ?_, ?_, ?_⟩, va_AO.of hov, va_Nw.of rfl (l_tb hts 892 (by decide +kernel))⟩
  · match k, hq with
    | 0, hq => cases hq; exact ⟨hI1, hI2⟩
    | 1, hq => cases hq; exact ⟨hZ1, hZ2⟩
    | 2, hq => cases hq; exact ⟨hK1, hK2⟩
    | k + 3, hq => exact absurd hq (by simp)
  · exact va_Zof (l_tb hts 633 (by decide +kernel)) (l_tb hts 14 (by decide +kernel)) (va_eqt (l_fl h 4 (by decide +kernel))) hA
  · exact va_Zqof (l_tb hts 649 (by decide +kernel)) (l_tb hts 16 (by decide +kernel)) (l_fl h 5 (by decide +kernel)) hA
  · exact l_zq (l_tb hts 807 (by decide +kernel)) (l_tb hts 19 (by decide +kernel)) (l_fl h 9 (by decide +kernel)) hA
  · exact l_zq (l_tb hts 809 (by decide +kernel)) (l_tb hts 19 (by decide +kernel)) (l_fl h 10 (by decide +kernel)) hA
  · intro X hX
    obtain ⟨i, n, hi⟩ := ex_all X hX
    exact l_ex (l_tb hts i hi)
  · intro q hq
    obtain ⟨i, hi⟩ := nc_all q hq
    exact va_Nc.of (l_fl h i hi)
  · exact va_Nw.of rfl (l_tb hts 614 (by decide +kernel))
  · intro q hq
    obtain ⟨i, hi⟩ := ns_all q hq
    exact va_Nw.of rfl (l_tb hts i hi)
section ZST
variable {p : Program} {l : Launch} {e : Env} {R : Room} {s : State} {m : MethodId} {args : Array Value} {below : List Frame} {meth : Method} {c : Code} {H : Heap} {locs : List Loc} {cells slots : Nat} {Q : State → Prop}
variable {cc : ByteArray} {pc n n' : Nat} {ls : Array Slot} {rest : List Value} {D : zD} {A A1 : Nat → Prop} {b : Nat} {g g' : zG} {u u' : zU} {own : String} {st : List Value} {H0 : Heap}
variable {y : MethodName} {cy : ByteArray} {maxL nL k index fr lo mc ms r0 : Nat} {As : List Value}
/-- a making beside what stands -/
theorem zL_new (C0 : z_C p c cc s m args own D A) (hS : va_S A s.heap H locs) (hZ : H.size = b) {ci N : Nat} (nw : z_NW own index ci N) (hR : cells + 1 ≤ R.cells ∧ slots + N ≤ R.slots) (hdg : decode cc pc = .ok (.new index, 3)) (hA1 : A1 b)
    (kk : ∀ H1 : Heap, z_W D A1 b (zal g00 0 (ci + 4, 0, zNo)) (zst u00 0 zO0) H1 → va_S A s.heap H1 locs → H1.size = b + 1 → (∀ q : Nat, q < H.size → H1[q]? = H[q]?) → W p l e R s m args below meth c H1 locs (cells + 1) (slots + N) Q (F0 m (pc + 3) ls (.ref (b + 0) :: rest))) : W p l e R s m args below meth c H locs cells slots Q (F0 m pc ls rest) := by
  obtain ⟨hx, hb, hts, hown, hK⟩ := C0
  obtain ⟨C, T, ty, hc, hin, hty, wl, wi, wn, hdf⟩ := nw
  have hKn := hK.1.1 ci _ hc
  have hW0 : z_W D A1 b g00 u00 H := fun r => ⟨by unfold z_at; exact trivial, fun h => absurd rfl h⟩
  have hZ0 : H.size = b + 0 := hZ
  refine W.newcK (g := F0 m pc ls rest) hx hb hown (hts _ wl) (hts _ wi) (hts _ wn) rfl hdg hR.1 hR.2 hKn.2.1 hZ0 fun H1 kC hkC e1 z1 o1 => ?_
  refine kk H1 (hW0.al hZ0 (fun q hq => o1 q (by omega)) ?_ hA1) ⟨Nat.le_trans hS.1 (by omega), fun q h1 h2 => (o1 q (by have := hS.1; omega)).trans (hS.2.1 q h1 h2), hS.2.2⟩ (by omega) (fun q hq => o1 q (by omega))
  show t_OB _ _ _ _ _ _
  rw [z_NF hc]
  refine (u_born ty hts hin hKn hkC e1 hty).to (fun j hj => ?_)
  rw [hdf j hj]
  unfold z_V
  rfl
/-- a constructor's call beside what stands -/
theorem zL_cI (C0 : z_C p c cc s m args own D A) (hK2 : z_K2 s) (hml : c.maxLocals = nL) (hl : ls.size = nL) (hW : z_W D A1 b g u H) (hS : va_S A s.heap H locs) (hZ : H.size = b + n) (hAA : ∀ q, A1 q → A q) (hA : ∀ q : Nat, H.size ≤ q → A1 q) (hM : z_MN l D A1 b g n y cy maxL none fr lo mc ms (.ref (b + r0) :: As) u none g' n' u') (h1 : Cond.methodLink own index y ∈ wsA) (Y : z_YI own index y cy maxL k)
    (hR : fr + 1 ≤ R.frames ∧ 8 + (maxL + 11) + lo ≤ R.locals) (hRc : cells + mc ≤ R.cells ∧ slots + ms ≤ R.slots) (hst : st = As.reverse ++ .ref (b + r0) :: rest) (hn : As.length = k) (hw : (rest.map fun v => v.category).sum ≤ 8) (hdg : decode cc pc = .ok (.invokespecial index, 3))
    (kk : ∀ (H1 : Heap) (locs1 : List Loc), z_W D A1 b g' u' H1 → va_S A s.heap H1 locs1 → H1.size = b + n' → (∀ q : Nat, q < H.size → ¬ A1 q → H1[q]? = H[q]?) → W p l e R s m args below meth c H1 locs1 (cells + mc) (slots + ms) Q (F0 m (pc + 3) ls rest)) : W p l e R s m args below meth c H locs cells slots Q (F0 m pc ls st) := by
  obtain ⟨hx, hb, hts, hown, hK⟩ := C0
  obtain ⟨⟨w1, w2, w3⟩, ⟨hin, hd⟩, -⟩ := Y
  have hG : GoodIn wsA (Cond.code y cy maxL none :: wsA) := fun w hw => by
    rcases List.mem_cons.mp hw with h | h
    · rw [h]; exact wsA_good _ w1
    · exact wsA_good _ h
  have hp : PreS s H (z_PN D A1 b g n (.ref (b + r0) :: As) u) (.ref (b + r0) :: As) := ⟨z_blindN, fun U hU hW2 => ⟨⟨rfl, (hK.at hW2 hU hS).narrow hAA, by rw [hU]; exact hW⟩, hK2.at hW2, by rw [hU]; exact hZ, fun q hq => hA q (by rw [hU] at hq; exact hq)⟩⟩
  have hr := va_runI (bytes := cy) (maxL := maxL) (n := k) (locs := locs) (cells := cells) (slots := slots) (p := p) (l := l) (e := e) (R := R) (below := below) (meth := meth) (H := H) (g := F0 m pc ls st) (rest := rest) ⟨hx, hb, hml, hown, hts⟩ hM (cwI k hts hG rfl rfl rfl (hts _ w2) (hts _ h1) (hts _ w3) hin hd hR) hp rfl hn hl hst (lv_room hw) hdg hRc
  intro T hT X
  obtain ⟨v', st₀, t, T', L, h0, X', hL, e1, e2, ⟨hv, hw2, hF, hn2⟩, go⟩ := hr T hT X
  cases hv
  obtain ⟨k1, k2, k3⟩ := zL_kept h0 e1 hF hAA hL hS
  obtain ⟨t2, a1, b1⟩ := kk T'.heap (locs ++ L) (by rw [e1]; exact hw2) k3 (by rw [e1]; exact hn2) k2 T' rfl X'
  exact ⟨t2, go t2 a1, b1⟩
end ZST
