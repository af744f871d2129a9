/-! Arrays.copyOf: a row's clone, a row's beginning -/
def z_CW (own : String) (index : Nat) : Prop := Cond.methodLink own index ⟨"[I", "clone", "()Ljava/lang/Object;"⟩ ∈ wsA ∧ Cond.sameMethod "[I" "java/lang/Object" "clone" "()Ljava/lang/Object;" ∈ wsA ∧ Cond.native ⟨"java/lang/Object", "clone", "()Ljava/lang/Object;"⟩ ∈ wsA ∧ Cond.instanceMethod ⟨"java/lang/Object", "clone", "()Ljava/lang/Object;"⟩ ∈ wsA ∧ Cond.selects "[I" ⟨"[I", "clone", "()Ljava/lang/Object;"⟩ ⟨"java/lang/Object", "clone", "()Ljava/lang/Object;"⟩ ∈ wsA
section ZCLN
variable {p : Program} {l : Launch} {e : Env} {R : Room} {s : State} {m : MethodId} {args : Array Value} {below : List Frame} {meth : Method} {c : Code} {H : Heap} {locs : List Loc} {cells slots : Nat} {Q : State → Prop}
variable {cc : ByteArray} {pc n nL : Nat} {ls : Array Slot} {rest : List Value} {D : zD} {A : Nat → Prop} {b : Nat} {g : zG} {u : zU} {own : String} {H0 : Heap}
theorem z_nmI (hK : z_K D A s) : s.vm.findClass "[I" = some D.2.1 := (hK.1.2 0 _ rfl).2
theorem z_castI (C0 : z_C p c cc s m args own D A) (hW : z_W D A b g u H) {r index : Nat} (hg : (g r).1 = 1) (wl : Cond.classLink own index "[I" ∈ wsA) (hdg : decode cc pc = .ok (.checkcast index, 3))
    (k : W p l e R s m args below meth c H locs cells slots Q (F0 m (pc + 3) ls (.ref (b + r) :: rest))) : W p l e R s m args below meth c H locs cells slots Q (F0 m pc ls (.ref (b + r) :: rest)) := by
  obtain ⟨hx, hb, hts, hown, hK⟩ := C0
  have h := (hW r).1
  unfold z_at at h
  rw [hg] at h
  intro T hT X
  obtain ⟨vm', X', st⟩ := X.checkcastYes hx hown (hts _ wl) (by rw [hT]; exact h) rfl (z_nmI hK) (va_asg _ _) (g := F0 m pc ls (.ref (b + r) :: rest)) rfl rfl (by rw [hb]; exact hdg)
  obtain ⟨t, a1, b1⟩ := k (T.setVm vm') hT X'
  exact ⟨t, st t a1, b1⟩
theorem z_clone (C0 : z_C p c cc s m args own D A) (hK2 : z_K2 s) (hml : c.maxLocals = ls.size) (hW : z_W D A b g u H) (hS : va_S A H0 H locs) (hA : ∀ q, H0.size ≤ q → A q) (hZ : H.size = b + n) {r N index : Nat} (hg : (g r).1 = 1) (hn : (g r).2.1 = N) (cw : z_CW own index)
    (hR : 1 ≤ R.frames ∧ (rest.map fun v => v.category).sum + 14 ≤ R.locals) (hRc : cells + 1 ≤ R.cells ∧ slots + N ≤ R.slots) (hdg : decode cc pc = .ok (.invokevirtual index, 3))
    (kk : ∀ H1 : Heap, z_W D A b (zal g n (1, N, zNo)) (zst u n (u r)) H1 → va_S A H0 H1 locs → H1.size = b + (n + 1) → W p l e R s m args below meth c H1 locs (cells + 1) (slots + N) Q (F0 m (pc + 3) ls (.ref (b + n) :: rest))) : W p l e R s m args below meth c H locs cells slots Q (F0 m pc ls (.ref (b + r) :: rest)) := by
  subst hn
  obtain ⟨hx, hb, hts, hown, hK⟩ := C0
  obtain ⟨w1, w2, w3, w4, w5⟩ := cw
  have h := (hW r).1
  unfold z_at at h
  rw [hg] at h
  obtain ⟨c0, t0', f1, f2, f3⟩ := Cond.castable_spec (va_Nw.use (A := args) rfl hK2.2)
  cases (z_nmI hK).symm.trans f1
  intro T hT X
  have hcellT : T.heap[b + r]? = some (arrV D.2.1 (g r).2.1 (fun j => .int (u r j))) := by rw [hT]; exact h
  obtain ⟨-, kA, hkA, comp, hkind⟩ := State.isArrayOf_alike X.warmed.alike ((hK.1.2 0 _ rfl).1 0 (fun _ => .null))
  obtain ⟨-, kS, hkS, compS, hkindS⟩ := (hK.1.2 0 _ rfl).1 0 (fun _ => .null)
  obtain ⟨vm', X', st⟩ := X.cloneArray hx hown (hts _ w1) (hts _ w2) (hts _ w3) (hts _ w4) (hts _ w5) (a := b + r) (cell := arrV D.2.1 (g r).2.1 (fun j => .int (u r j))) hcellT (fun k h => by cases h) (fun h => by cases h) (z_nmI hK) f2 f3
    (fun i v hv => by
      have hk' : T.vm.classes[D.2.1]? = some kA := hkA
      have hv' : v = .int (u r i) := by
        by_cases hi : i < (g r).2.1
        · rw [arrV_read _ _ hi] at hv; exact (Option.some.inj hv).symm
        · rw [Array.getElem?_eq_none (by rw [arrV_size]; omega)] at hv; cases hv
      show State.fitsSlot T D.2.1 _ i v = true
      rw [hv']
      simp [State.fitsSlot, State.slotType?, hk', hkind, fits])
    (g := F0 m pc ls (.ref (b + r) :: rest)) rfl (by rw [hml]) rfl (by rw [hb]; exact hdg) hR.1 (by show 2 * 0 + _ + 14 ≤ _; have := hR.2; omega) hRc.1 (by rw [arrV_size]; exact hRc.2) (hloader := Vm.clonesLoader_of_array hkS hkindS)
  rw [arrV_size] at X'
  generalize hH1 : H.push (arrV D.2.1 (g r).2.1 (fun j => .int (u r j))) = H1
  have z1 : H1.size = H.size + 1 := by rw [← hH1, Array.size_push]
  have e1 : H1[H.size]? = some (arrV D.2.1 (g r).2.1 (fun j => .int (u r j))) := by rw [← hH1, Array.getElem?_push_size]
  have o1 : ∀ q : Nat, q < H.size → H1[q]? = H[q]? := fun q hq => by rw [← hH1, Array.getElem?_push, if_neg (Nat.ne_of_lt hq)]
  obtain ⟨t, b1, b2⟩ := kk H1 (hW.al hZ o1 (by rw [← hZ]; exact e1) (hA _ (by rw [← hZ]; exact hS.1))) ⟨Nat.le_trans hS.1 (by omega), fun y h1 h2 => (o1 y (Nat.lt_of_lt_of_le h1 hS.1)).trans (hS.2.1 y h1 h2), hS.2.2⟩ (by omega)
    ((T.setVm vm').pushCell (arrV D.2.1 (g r).2.1 (fun j => .int (u r j)))) (by rw [← hH1, ← hT]; rfl) X'
  refine ⟨t, st t ?_, b2⟩
  rw [← hZ] at b1
  rw [hT]
  exact b1
end ZCLN
