section ZCQ
variable {p : Program} {l : Launch} {e : Env} {R : Room} {s : State} {m : MethodId} {args : Array Value} {below : List Frame} {meth : Method} {c : Code} {H : Heap} {locs : List Loc} {cells slots : Nat} {Q : State → Prop}
variable {cc : ByteArray} {pc nL : Nat} {ls : Array Slot} {rest : List Value} {D : zD} {A : Nat → Prop} {b : Nat} {g : zG} {u : zU} {own : String} {H0 : Heap}
theorem z_copyN {n r0 r1 n0 n1 index : Nat} {v : Int32} (C0 : z_C p c cc s m args own D A) (hml : c.maxLocals = nL) (hl : ls.size = nL) (hW : z_W D A b g u H) (hS : va_S A H0 H locs) (k0 : (g r0).1 = 1) (l0 : (g r0).2.1 = n0) (k1 : (g r1).1 = 1) (l1 : (g r1).2.1 = n1) (h0 : n ≤ n0 ∧ n ≤ n1) (hv : v.toNatClampNeg = n ∧ ¬ v < 0) (wd : z_AC own index)
    (hframes : 1 ≤ R.frames) (hlocals : (rest.map fun v => v.category).sum + 18 ≤ R.locals) (hdg : decode cc pc = .ok (.invokestatic index, 3))
    (kk : ∀ (H1 : Heap) (locs1 : List Loc) (u1 : zU), u1 = z_cp u r0 r1 n → z_W D A b g u1 H1 → va_S A H0 H1 locs1 → H1.size = H.size → W p l e R s m args below meth c H1 locs1 cells slots Q (F0 m (pc + 3) ls rest)) : W p l e R s m args below meth c H locs cells slots Q (F0 m pc ls (.int v :: .int 0 :: .ref (b + r1) :: .int 0 :: .ref (b + r0) :: rest)) := by
  obtain ⟨hx, hb, hts, hown, hK⟩ := C0
  obtain ⟨w1, w2, w3, w4⟩ := wd
  subst l0; subst l1
  obtain ⟨hv, hp⟩ := hv
  have z0 : (0 : Int32).toNatClampNeg = 0 := by decide
  have z0I : (0 : Int32).toInt = 0 := by decide
  have hnw : nativeFrameWords "java/lang/System" "arraycopy" 5 = 7 := by decide
  have hvI : v.toInt = (n : Int) := by
    have hz0 : (0 : Int) ≤ v.toInt := by simpa using Int32.le_iff_toInt_le.mp (Int32.not_lt.mp hp)
    have : v.toInt.toNat = n := hv
    omega
  have hc0 : H[b + r0]? = some (vp_cell D.2.1 ((g r0).2.1, .inl (u r0))) := by have h := (hW r0).1; unfold z_at at h; rw [k0] at h; exact h
  have hc1 : H[b + r1]? = some (vp_cell D.2.1 ((g r1).2.1, .inl (u r1))) := by have h := (hW r1).1; unfold z_at at h; rw [k1] at h; exact h
  intro T hT X
  obtain ⟨-, q0, hk0, cm0, hkk0⟩ := (hK.1.2 0 _ rfl).1 (g r0).2.1 (fun j => .int (u r0 j))
  obtain ⟨-, q1, hk1, cm1, hkk1⟩ := (hK.1.2 0 _ rfl).1 (g r1).2.1 (fun j => .int (u r1 j))
  obtain ⟨vm', X', step⟩ := X.arraycopy hx hown (hts _ w1) (hts _ w2) (hts _ w3) (hts _ w4) (src := b + r0) (dst := b + r1) (cs := vp_cell D.2.1 ((g r0).2.1, .inl (u r0))) (cd := vp_cell D.2.1 ((g r1).2.1, .inl (u r1))) (srcPos := 0) (destPos := 0) (n := v) (by rw [hT]; exact hc0) (by rw [hT]; exact hc1)
    (fun _ h => by cases h) (fun _ h => by cases h) (fun h => by cases h) (fun h => by cases h) hk0 hk1 hkk0 hkk1 rfl (by decide) (by decide) hp
    (by rw [hvI]; show ¬ _ > ((arrV D.2.1 (g r0).2.1 (fun j => .int (u r0 j))).slots.size : Int); rw [arrV_size]; omega)
    (by rw [hvI]; show ¬ _ > ((arrV D.2.1 (g r1).2.1 (fun j => .int (u r1 j))).slots.size : Int); rw [arrV_size]; omega)
    (fun vm₁ _ i hi => by
      have e : (vp_cell D.2.1 ((g r0).2.1, .inl (u r0))).slots.getD ((0 : Int32).toNatClampNeg + i) .null = .int (u r0 i) := by
        show (arrV D.2.1 (g r0).2.1 (fun j => .int (u r0 j))).slots.getD _ _ = _
        rw [z0, Nat.zero_add, Array.getD_eq_getD_getElem?, arrV_read _ _ (by omega)]
        rfl
      refine ⟨?_, ?_⟩
      · rw [e]; rfl
      · rw [e]
        exact trivial)
    (g := F0 m pc ls (.int v :: .int 0 :: .ref (b + r1) :: .int 0 :: .ref (b + r0) :: rest)) rfl (by rw [hml]; exact hl) (rest := rest) rfl (by rw [hb]; exact hdg) hframes (by show 2 * 0 + _ + _ ≤ _; omega)
  have e1 : copied (vp_cell D.2.1 ((g r0).2.1, .inl (u r0))) (vp_cell D.2.1 ((g r1).2.1, .inl (u r1))) 0 0 v = vp_cell D.2.1 ((g r1).2.1, .inl (va_cpy (u r0) (u r1) (0 : Int32).toNatClampNeg (0 : Int32).toNatClampNeg v.toNatClampNeg)) := va_copied (fun z => .int z) D.2.1 D.2.1 (u r0) (u r1) (by rw [hv, z0]; omega)
  rw [e1] at X' step
  have hlt : b + r1 < H.size := (Array.getElem?_eq_some_iff.mp hc1).1
  have hheap : ((T.setVm vm').setCell (b + r1) (vp_cell D.2.1 ((g r1).2.1, .inl (va_cpy (u r0) (u r1) (0 : Int32).toNatClampNeg (0 : Int32).toNatClampNeg v.toNatClampNeg)))).heap = H.setIfInBounds (b + r1) (vp_cell D.2.1 ((g r1).2.1, .inl (va_cpy (u r0) (u r1) (0 : Int32).toNatClampNeg (0 : Int32).toNatClampNeg v.toNatClampNeg))) := by rw [← hT]; rfl
  have oq : ∀ q : Nat, q ≠ b + r1 → (H.setIfInBounds (b + r1) (vp_cell D.2.1 ((g r1).2.1, .inl (va_cpy (u r0) (u r1) (0 : Int32).toNatClampNeg (0 : Int32).toNatClampNeg v.toNatClampNeg))))[q]? = H[q]? := fun q hq => by simp [Array.getElem?_setIfInBounds, Ne.symm hq]
  have hA : A (b + r1) := z_in4 hW (k := 0) k1
  obtain ⟨t, a1, b1⟩ := kk _ _ _ rfl (fun r => by
      by_cases er : r = r1
      · subst er
        refine ⟨?_, (hW r).2⟩
        unfold z_at
        rw [k1]
        show (H.setIfInBounds (b + r) _)[b + r]? = some _
        simp only [Array.getElem?_setIfInBounds, hlt, if_true]
        rw [vp_cell_i]
        congr 2
        funext j
        unfold z_cp
        rw [if_pos rfl]
        simp only [va_cpy, z0, hv, Nat.zero_le, Nat.zero_add, true_and, Nat.sub_zero]
      · refine ⟨?_, (hW r).2⟩
        unfold z_cp
        rw [if_neg er]
        exact (hW r).1.kept (oq _ (by omega))) ⟨by simp; exact hS.1, fun q g1 g2 => by
      rw [oq q (fun e => g2 (by rw [e]; exact hA))]
      exact hS.2.1 q g1 g2, fun q hq => by
      rcases List.mem_append.mp hq with h | h
      · exact hS.2.2 q h
      · obtain ⟨z, -, hz⟩ := List.mem_map.mp h
        rw [← hz]
        exact hA⟩ (by simp) _ hheap X'
  exact ⟨t, step t a1, b1⟩
end ZCQ
theorem z_W.ext1 {D : zD} {A : Nat → Prop} {b : Nat} {g : zG} {u : zU} {H : Heap} (hW : z_W D A b g u H) {r N : Nat} (hg : (g r).1 = 1) (hn : (g r).2.1 = N) {f : Nat → Int32} (hf : ∀ i, i < N → f i = u r i) : z_W D A b g (zst u r f) H := by
  intro r'
  unfold zst
  by_cases e : r' = r
  · subst e
    rw [if_pos rfl]
    refine ⟨?_, (hW r').2⟩
    have h := (hW r').1
    unfold z_at at h ⊢
    rw [hg] at h ⊢
    show H[b + r']? = some (arrV _ _ _)
    rw [arrV_ext _ _ (f := fun j => .int (u r' j)) (fun j hj => by rw [hf j (by omega)])]
    exact h
  · rw [if_neg e]
    exact hW r'
theorem zst_zst (u : zU) (n : Nat) (f f' : Nat → Int32) : zst (zst u n f) n f' = zst u n f' := by
  funext r
  unfold zst
  by_cases e : r = n
  · rw [if_pos e, if_pos e]
  · rw [if_neg e, if_neg e, if_neg e]
set_option maxRecDepth 100000 in
theorem c_J7_copyOf (l : Launch) (D : zD) (A : Nat → Prop) (b : Nat) (g : zG) (u : zU) (n r N0 N : Nat) (x : Int32) (hg : (g r).1 = 1) (hn0 : (g r).2.1 = N0) (hrn : r < n) (hN : x.toNatClampNeg = N ∧ ¬ x < 0) (hle : N ≤ N0) (hN0 : N0 ≤ 100000) :
    z_MN l D A b g n yJ7_copyOf_59c91 cJ7_copyOf_59c91 3 (some (.array .int)) 1 40 1 N [.ref (b + r), .int x] u (some (.ref (b + n))) (zal g n (1, N, zNo)) (n + 1) (zst u n (u r)) := by
  refine z_enterNF (by decide +kernel) (Nat.le_of_ble_eq_true rfl) ?_
  intro p e s m below meth c ls C0 hr hml hlk hK2 hZ hA hW hS hl
  have hl : lv_has ls 3 [(0, .ref (b + r)), (1, .int x)] := hl
  have hx := C0.1
  have hb := C0.2.1
  have hxI : x.toInt = (N : Int) := by
    have hz0 : (0 : Int) ≤ x.toInt := by simpa using Int32.le_iff_toInt_le.mp (Int32.not_lt.mp hN.2)
    have : x.toInt.toNat = N := hN.1
    omega
  have hnI : (Int32.ofNat N0).toInt = (N0 : Int) := nI_toInt (by omega)
  refine lv_iload_n hx hb dJ7_copyOf_59c91_0 rfl (lv_at hl 1 rfl) ?_
  refine lv_aload_n hx hb dJ7_copyOf_59c91_1 rfl (lv_at hl 0 rfl) ?_
  refine z_alen C0 hW hg hn0 rfl dJ7_copyOf_59c91_2 ?_
  refine lv_icmp_ne (tgt := 14) hx hb dJ7_copyOf_59c91_3 (by decide) (fun hc => ?_) (fun hc => ?_)
  · refine lv_iload_n hx hb dJ7_copyOf_59c91_14 rfl (lv_at hl 1 rfl) ?_
    refine z_newI (N := N) C0 hW hS hA hZ w_ai ⟨hN.1, hN.2, by omega⟩ ⟨Nat.le_refl _, by show 0 + N ≤ N; omega⟩ dJ7_copyOf_59c91_15 (fun H hW hS hZ => ?_)
    have hW0 := hW
    refine lv_astore_n (lv' := [(2, .ref (b + n)), (0, .ref (b + r)), (1, .int x)]) hx hb dJ7_copyOf_59c91_17 rfl hl (by decide) rfl (fun ls hl => ?_)
    refine lv_aload_n hx hb dJ7_copyOf_59c91_18 rfl (lv_at hl 1 rfl) ?_
    refine lv_iconst (v := (0 : Int32)) hx hb dJ7_copyOf_59c91_19 (by decide) ?_
    refine lv_aload_n hx hb dJ7_copyOf_59c91_20 rfl (lv_at hl 0 rfl) ?_
    refine lv_iconst (v := (0 : Int32)) hx hb dJ7_copyOf_59c91_21 (by decide) ?_
    refine lv_aload_n hx hb dJ7_copyOf_59c91_22 rfl (lv_at hl 1 rfl) ?_
    have hne : r ≠ n := Nat.ne_of_lt hrn
    refine z_alen (n := N0) C0 hW (by rw [zal_n1 _ _ hne]; exact hg) (by rw [zal_n2 _ _ hne]; exact hn0) rfl dJ7_copyOf_59c91_23 ?_
    refine lv_iload_n hx hb dJ7_copyOf_59c91_24 rfl (lv_at hl 2 rfl) ?_
    refine va_mmin hx hb (hml.trans hl.1.symm) C0.2.2.2.1 (C0.2.2.1 _ w_mm_J7_304) (C0.2.2.1 _ w_mst_min) (C0.2.2.1 _ w_min_Math) (C0.2.2.1 _ w_mco_min) (Nat.le_of_ble_eq_true rfl) (Nat.le_of_ble_eq_true rfl) (Nat.le_refl _) (by show 0 + N ≤ N; omega) dJ7_copyOf_59c91_25 ?_
    have hmin : (if x < Int32.ofNat N0 then x else Int32.ofNat N0) = x := by
      refine if_pos (Int32.lt_iff_toInt_lt.mpr ?_)
      rw [hxI, hnI]
      have : N ≠ N0 := fun h => hc (Int32.toInt_inj.mp (by rw [hxI, hnI, h]))
      omega
    rw [hmin]
    refine z_copyN (n := N) (n0 := N0) (n1 := N) C0 hml hl.1 hW hS (by rw [zal_n1 _ _ hne]; exact hg) (by rw [zal_n2 _ _ hne]; exact hn0) (by rw [zal_e1]) (by rw [zal_e2]) ⟨hle, Nat.le_refl _⟩ hN w_ac_J7_150 (Nat.le_of_ble_eq_true rfl) (Nat.le_of_ble_eq_true rfl) dJ7_copyOf_59c91_28 (fun H1 locs u1 e1 hW hS hz => ?_)
    refine lv_aload_n hx hb dJ7_copyOf_59c91_31 rfl (lv_at hl 0 rfl) ?_
    have hW' : z_W D A b (zal g n (1, N, zNo)) (zst u n (u r)) H1 := by
      have q := hW.ext1 (r := n) (N := N) (by rw [zal_e1]) (by rw [zal_e2]) (f := u r) (fun i hi => by
        rw [e1]
        unfold z_cp zst
        rw [if_pos rfl, if_pos hi, if_neg hne])
      have e2 : zst u1 n (u r) = zst u n (u r) := by
        rw [e1]
        funext r'
        unfold zst z_cp
        by_cases e : r' = n
        · rw [if_pos e, if_pos e]
        · rw [if_neg e, if_neg e, if_neg e]
          exact if_neg e
      rw [e2] at q
      exact q
    refine W.widen (k := 1) (n := N) (Nat.le_refl _) (by show 0 + N ≤ N; omega) ?_
    exact W.aret hx hb hr (Or.inr ⟨_, rfl⟩) (Or.inr ⟨_, rfl⟩) (fun t ht _ => ⟨rfl, by rw [ht]; exact hW', hS.F ht, by rw [ht]; omega⟩) hS.2.2 dJ7_copyOf_59c91_32 hlk
  · have hNN : N0 = N := by
      have : (x.toInt : Int) = N0 := by rw [hc, hnI]
      omega
    subst hNN
    refine lv_aload_n hx hb dJ7_copyOf_59c91_6 rfl (lv_at hl 0 rfl) ?_
    refine z_clone (N := N0) C0 hK2 (hml.trans hl.1.symm) hW hS hA hZ hg hn0 w_cn ⟨Nat.le_of_ble_eq_true rfl, Nat.le_of_ble_eq_true rfl⟩ ⟨Nat.le_refl _, by show 0 + N0 ≤ N0; omega⟩ dJ7_copyOf_59c91_7 (fun H hW hS hZ => ?_)
    refine z_castI C0 hW (by rw [zal_e1]) w_cl_J7_317 dJ7_copyOf_59c91_10 ?_
    refine W.widen (k := 1) (n := N0) (Nat.le_refl _) (by show 0 + N0 ≤ N0; omega) ?_
    exact W.aret hx hb hr (Or.inr ⟨_, rfl⟩) (Or.inr ⟨_, rfl⟩) (fun t ht _ => ⟨rfl, by rw [ht]; exact hW, hS.F ht, by rw [ht]; exact hZ⟩) hS.2.2 dJ7_copyOf_59c91_13 hlk
