/-! THE CLASS'S WORLD: what stands at which region, and rows for what the class's methods use besides -/
abbrev z_min (x y : Int32) : Int32 := if y < x then y else x
abbrev z_max (x y : Int32) : Int32 := if x < y then y else x
abbrev z_abs (x : Int32) : Int32 := if 0 ≤ x then x else 0 - x
/-- a law: L 0 its object, L 1 .. L 7 its arrays (act, amount, until: L 8 long; kind, left, right, results: L 9 long) -/
def zLw (g : zG) (L : Nat → Nat) : Prop := (g (L 0)).1 = 8 ∧ ∀ j, 0 < j → j < 8 → (g (L 0)).2.2 j = some (L j) ∧ (g (L j)).1 = 1 ∧ (g (L j)).2.1 = (if j < 4 then L 8 else L 9)
def zWl (j : Nat) : Nat := [8, 8, 8, 8, 8, 8, 4, 9].getD j 0
/-- a wheel at the region w, its eight arrays behind it, its law L -/
def zWh (g : zG) (w : Nat) (L : Nat → Nat) : Prop := (g w).1 = 12 ∧ (∀ j, j < 8 → (g w).2.2 j = some (w + (1 + j)) ∧ (g (w + (1 + j))).1 = 1 ∧ (g (w + (1 + j))).2.1 = zWl j) ∧ (g w).2.2 19 = some (L 0) ∧ zLw g L
/-- a journal at the region j, its row behind it -/
def zJn (g : zG) (j : Nat) : Prop := (g j).1 = 6 ∧ (g j).2.2 0 = some (j + 1) ∧ (g (j + 1)).1 = 1 ∧ (g (j + 1)).2.1 = 240
/-- the regions whose shape never changes -/
def gS : zG := fun r => match r with
  | 0 => (13, 0, fun j => match j with
    | 0 => some 1
    | 1 => some 3
    | 2 => some 6
    | 3 => some 17
    | 4 => some 28
    | 5 => some 29
    | 6 => some 36
    | 7 => some 38
    | 8 => some 208
    | _ => none)
  | 1 => (10, 0, fun j => match j with
    | 0 => some 2
    | _ => none)
  | 2 => (1, 400, fun _ => none)
  | 3 => (11, 0, fun j => match j with
    | 0 => some 1
    | 1 => some 4
    | 2 => some 5
    | _ => none)
  | 4 => (1, 401, fun _ => none)
  | 5 => (1, 401, fun _ => none)
  | 28 => (5, 0, fun j => match j with
    | 0 => some 3
    | 2 => some 17
    | _ => none)
  | 29 => (9, 0, fun j => match j with
    | 0 => some 3
    | 2 => some 30
    | 3 => some 31
    | 4 => some 32
    | 5 => some 33
    | 6 => some 34
    | 7 => some 35
    | _ => none)
  | 30 => (1, 12, fun _ => none)
  | 31 => (1, 12, fun _ => none)
  | 32 => (1, 12, fun _ => none)
  | 33 => (1, 400, fun _ => none)
  | 34 => (1, 400, fun _ => none)
  | 35 => (1, 400, fun _ => none)
  | 38 => (4, 0, fun j => match j with
    | 0 => some 39
    | _ => none)
  | 39 => (3, 12, fun j => some (40 + 14 * j))
  | _ => (0, 0, fun _ => none)
abbrev zStL : List Nat := [0, 1, 2, 3, 4, 5, 28, 29, 30, 31, 32, 33, 34, 35, 38, 39]
def zSt (g : zG) : Prop := ∀ r, r ∈ zStL → g r = gS r
theorem zk1 {g : zG} {r : Nat} {q : zQ} (h : g r = q) : (g r).1 = q.1 := by rw [h]
theorem zk2 {g : zG} {r : Nat} {q : zQ} (h : g r = q) : (g r).2.1 = q.2.1 := by rw [h]
theorem zk3 {g : zG} {r : Nat} {q : zQ} (h : g r = q) (k : Nat) : (g r).2.2 k = q.2.2 k := by rw [h]
theorem z_sw {x : Int32} (lo hi : Int) (h0 : 0 ≤ lo) (h : ∀ k : Nat, lo ≤ (k : Int) → (k : Int) ≤ hi → ¬ x = nI k) : x.toInt < lo ∨ hi < x.toInt := by
  by_cases h1 : x.toInt < lo
  · exact Or.inl h1
  · by_cases h2 : hi < x.toInt
    · exact Or.inr h2
    · exfalso
      have hr : x.toInt < 2147483648 := by have := x.toInt_lt; simpa using this
      refine h x.toInt.toNat (by omega) (by omega) (Int32.toInt_inj.mp ?_)
      rw [nI_toInt (by omega)]
      omega
theorem z_swa {x k : Int32} (h : x = k) (lo hi : Int) (m : Nat) (hk : ¬ k.toInt < lo ∧ ¬ hi < k.toInt ∧ (k.toInt - lo).toNat = m) : ¬ x.toInt < lo ∧ ¬ hi < x.toInt ∧ (x.toInt - lo).toNat = m := h ▸ hk
theorem z_enterF {l : Launch} {D : zD} {A : Nat → Prop} {b : Nat} {g : zG} {y : MethodName} {cc : ByteArray} {maxL : Nat} {ret : Option FieldType} {fr lo : Nat} {as : List Value} {u : zU} {v : Option Value} {u' : zU} (hy : plainFor y = true) (hn : (lg_sl as).length ≤ maxL)
    (body : ∀ (p : Program) (e : Env) (s : State) (m : MethodId) (below : List Frame) (meth : Method) (c : Code) (ls : Array Slot), z_C p c cc s m as.toArray y.cls D A → meth.sig.returnType = ret → c.maxLocals = maxL → meth.locks = false → z_W D A b g u s.heap → va_S A s.heap s.heap [] → lv_has ls maxL (lv_args 0 as) →
      W p l e { frames := fr, cells := 0, slots := 0, locals := lo } s m as.toArray below meth c s.heap [] 0 0 (z_End D A b g below as.toArray s v u') (F0 m 0 ls [])) : z_M l D A b g y cc maxL ret fr lo as u v u' := by
  unfold z_M
  refine va_MetF (cc := cc) (maxL := maxL) (ret := ret) hy rfl ?_
  intro p e s m vals below meth c s₁ B hml hv
  obtain ⟨rfl, hK, hW⟩ := hv
  have hts : ∀ w ∈ Cond.code y cc maxL ret :: wsA, w.before as.toArray s = true := atoms_spec (ws := Cond.code y cc maxL ret :: wsA) B.pre
  have hown : s.vm.findClass y.cls = some m.cls := findClass_of_methodNamed B.named
  have hl := lv_entry as (n := maxL) hn
  rw [lg_entry_eq]
  exact body p e s m below meth c _ ⟨B.exec, B.bytes, fun w h => hts w (List.mem_cons_of_mem _ h), hown, hK⟩ B.returns hml B.notSynchronized hW va_S.rf hl
def z_cp (u : zU) (r0 r1 n : Nat) : zU := fun r => if r = r1 then (fun i => if i < n then u r0 i else u r1 i) else u r
def z_AC (own : String) (index : Nat) : Prop := Cond.methodLink own index arraycopyName ∈ wsA ∧ Cond.native arraycopyName ∈ wsA ∧ Cond.static arraycopyName ∈ wsA ∧ Cond.initialized "java/lang/System" ∈ wsA
section ZCP
variable {p : Program} {l : Launch} {e : Env} {R : Room} {s : State} {m : MethodId} {args : Array Value} {below : List Frame} {meth : Method} {c : Code} {H : Heap} {locs : List Loc} {cells slots : Nat} {Q : State → Prop}
variable {cc : ByteArray} {pc nL : Nat} {ls : Array Slot} {rest : List Value} {D : zD} {A : Nat → Prop} {b : Nat} {g : zG} {u : zU} {own : String} {H0 : Heap}
theorem z_copyi {n r0 r1 n0 n1 index : Nat} {v : Int32} (C0 : z_C p c cc s m args own D A) (hml : c.maxLocals = nL) (hl : ls.size = nL) (hW : z_W D A b g u H) (hS : va_S A H0 H locs) (k0 : (g r0).1 = 1) (l0 : (g r0).2.1 = n0) (k1 : (g r1).1 = 1) (l1 : (g r1).2.1 = n1) (h0 : n ≤ n0 ∧ n ≤ n1) (hv : v.toNatClampNeg = n ∧ ¬ v < 0) (wd : z_AC own index)
    (hframes : 1 ≤ R.frames) (hlocals : (rest.map fun v => v.category).sum + 18 ≤ R.locals) (hdg : decode cc pc = .ok (.invokestatic index, 3))
    (kk : ∀ (H1 : Heap) (locs1 : List Loc) (u1 : zU), u1 = z_cp u r0 r1 n → z_W D A b g u1 H1 → va_S A H0 H1 locs1 → W p l e R s m args below meth c H1 locs1 cells slots Q (F0 m (pc + 3) ls rest)) : W p l e R s m args below meth c H locs cells slots Q (F0 m pc ls (.int v :: .int 0 :: .ref (b + r1) :: .int 0 :: .ref (b + r0) :: rest)) := by
  obtain ⟨hx, hb, hts, hown, hK⟩ := C0
  obtain ⟨w1, w2, w3, w4⟩ := wd
  subst l0; subst l1
  obtain ⟨hv, hp⟩ := hv
  have z0 : (0 : Int32).toNatClampNeg = 0 := by decide
  have z0I : (0 : Int32).toInt = 0 := by decide
  have hnw : nativeFrameWords "java/lang/System" "arraycopy" 5 = 7 := by decide
  have hvI : v.toInt = (n : Int) := by
    have hz0 : (0 : Int) ≤ v.toInt := by simpa using Int32.le_iff_toInt_le.mp (Int32.not_lt.mp hp)
    have : v.toInt.toNat = n := hv
    omega
  have hc0 : H[b + r0]? = some (vp_cell D.2.1 ((g r0).2.1, .inl (u r0))) := by have h := (hW r0).1; unfold z_at at h; rw [k0] at h; exact h
  have hc1 : H[b + r1]? = some (vp_cell D.2.1 ((g r1).2.1, .inl (u r1))) := by have h := (hW r1).1; unfold z_at at h; rw [k1] at h; exact h
  intro T hT X
  obtain ⟨-, q0, hk0, cm0, hkk0⟩ := (hK.1.2 0 _ rfl).1 (g r0).2.1 (fun j => .int (u r0 j))
  obtain ⟨-, q1, hk1, cm1, hkk1⟩ := (hK.1.2 0 _ rfl).1 (g r1).2.1 (fun j => .int (u r1 j))
  obtain ⟨vm', X', step⟩ := X.arraycopy hx hown (hts _ w1) (hts _ w2) (hts _ w3) (hts _ w4) (src := b + r0) (dst := b + r1) (cs := vp_cell D.2.1 ((g r0).2.1, .inl (u r0))) (cd := vp_cell D.2.1 ((g r1).2.1, .inl (u r1))) (srcPos := 0) (destPos := 0) (n := v) (by rw [hT]; exact hc0) (by rw [hT]; exact hc1)
    (fun _ h => by cases h) (fun _ h => by cases h) (fun h => by cases h) (fun h => by cases h) hk0 hk1 hkk0 hkk1 rfl (by decide) (by decide) hp
    (by rw [hvI]; show ¬ _ > ((arrV D.2.1 (g r0).2.1 (fun j => .int (u r0 j))).slots.size : Int); rw [arrV_size]; omega)
    (by rw [hvI]; show ¬ _ > ((arrV D.2.1 (g r1).2.1 (fun j => .int (u r1 j))).slots.size : Int); rw [arrV_size]; omega)
    (fun vm₁ _ i hi => by
      have e : (vp_cell D.2.1 ((g r0).2.1, .inl (u r0))).slots.getD ((0 : Int32).toNatClampNeg + i) .null = .int (u r0 i) := by
        show (arrV D.2.1 (g r0).2.1 (fun j => .int (u r0 j))).slots.getD _ _ = _
        rw [z0, Nat.zero_add, Array.getD_eq_getD_getElem?, arrV_read _ _ (by omega)]
        rfl
      refine ⟨?_, ?_⟩
      · rw [e]; rfl
      · rw [e]
        exact trivial)
    (g := F0 m pc ls (.int v :: .int 0 :: .ref (b + r1) :: .int 0 :: .ref (b + r0) :: rest)) rfl (by rw [hml]; exact hl) (rest := rest) rfl (by rw [hb]; exact hdg) hframes (by show 2 * 0 + _ + _ ≤ _; omega)
  have e1 : copied (vp_cell D.2.1 ((g r0).2.1, .inl (u r0))) (vp_cell D.2.1 ((g r1).2.1, .inl (u r1))) 0 0 v = vp_cell D.2.1 ((g r1).2.1, .inl (va_cpy (u r0) (u r1) (0 : Int32).toNatClampNeg (0 : Int32).toNatClampNeg v.toNatClampNeg)) := va_copied (fun z => .int z) D.2.1 D.2.1 (u r0) (u r1) (by rw [hv, z0]; omega)
  rw [e1] at X' step
  have hlt : b + r1 < H.size := (Array.getElem?_eq_some_iff.mp hc1).1
  have hheap : ((T.setVm vm').setCell (b + r1) (vp_cell D.2.1 ((g r1).2.1, .inl (va_cpy (u r0) (u r1) (0 : Int32).toNatClampNeg (0 : Int32).toNatClampNeg v.toNatClampNeg)))).heap = H.setIfInBounds (b + r1) (vp_cell D.2.1 ((g r1).2.1, .inl (va_cpy (u r0) (u r1) (0 : Int32).toNatClampNeg (0 : Int32).toNatClampNeg v.toNatClampNeg))) := by rw [← hT]; rfl
  have oq : ∀ q : Nat, q ≠ b + r1 → (H.setIfInBounds (b + r1) (vp_cell D.2.1 ((g r1).2.1, .inl (va_cpy (u r0) (u r1) (0 : Int32).toNatClampNeg (0 : Int32).toNatClampNeg v.toNatClampNeg))))[q]? = H[q]? := fun q hq => by simp [Array.getElem?_setIfInBounds, Ne.symm hq]
  have hA : A (b + r1) := z_in4 hW (k := 0) k1
  obtain ⟨t, a1, b1⟩ := kk _ _ _ rfl (fun r => by
      by_cases er : r = r1
      · subst er
        refine ⟨?_, (hW r).2⟩
        unfold z_at
        rw [k1]
        show (H.setIfInBounds (b + r) _)[b + r]? = some _
        simp only [Array.getElem?_setIfInBounds, hlt, if_true]
        rw [vp_cell_i]
        congr 2
        funext j
        unfold z_cp
        rw [if_pos rfl]
        simp only [va_cpy, z0, hv, Nat.zero_le, Nat.zero_add, true_and, Nat.sub_zero]
      · refine ⟨?_, (hW r).2⟩
        unfold z_cp
        rw [if_neg er]
        exact (hW r).1.kept (oq _ (by omega))) ⟨by simp; exact hS.1, fun q g1 g2 => by
      rw [oq q (fun e => g2 (by rw [e]; exact hA))]
      exact hS.2.1 q g1 g2, fun q hq => by
      rcases List.mem_append.mp hq with h | h
      · exact hS.2.2 q h
      · obtain ⟨z, -, hz⟩ := List.mem_map.mp h
        rw [← hz]
        exact hA⟩ _ hheap X'
  exact ⟨t, step t a1, b1⟩
end ZCP
