/-! MACHINE, 8: behind the two calls -/
abbrev lsL (b b1 : Nat) (i : Int32) : List (Nat × Value) := [(4, .int i), (3, .ref (b1 + 232)), (2, .ref (b1 + 222 + 0)), (1, .ref (b1 + 0)), (0, .ref b)]
/-- one kind of call: from its place in the switch to the loop's end -/
def LCase (pc : Nat) : Prop := ∀ (l : Launch) (p : Program) (e : Env) (s : State) (m : MethodId) (below : List Frame) (meth : Method) (c : Code) (b L : Nat) (xs : Nat → Int32) (D : zD) (dJ : ClassId) (b1 : Nat) (H : Heap) (locs : List Loc) (cells slots : Nat) (Q : State → Prop) (G : zG) (q : zq) (u r : zU) (x : Int64) (ls : Array Slot) (i : Int32), LX l p s m c b L xs D dJ b1 → Lw D dJ b1 s G q u r x H locs → RR q u r → lv_has ls 7 (lsL b b1 i) → (vp_in (i + 1) L ∧ vp_in (i + 2) L ∧ vp_in (i + 3) L ∧ vp_in (i + 4) L ∧ vp_in (i + 5) L) → (cells + 8 ≤ 823376 ∧ slots + 1644 ≤ 6625975) →
  (∀ (G : zG) (q : zq) (u r : zU) (x : Int64) (H : Heap) (locs : List Loc) (ls : Array Slot), Lw D dJ b1 s G q u r x H locs → RR q u r → lv_has ls 7 (lsL b b1 i) → W p l e room_1 s m #[Value.ref b] below meth c H locs (cells + 8) (slots + 1644) Q (F0 m 2569 ls [])) → W p l e room_1 s m #[Value.ref b] below meth c H locs cells slots Q (F0 m pc ls [])
theorem lg_cmp_rfl (x : Int64) : lg_cmp x x = 0 := by
  unfold lg_cmp
  simp
theorem lv_has.drop {ls : Array Slot} {n : Nat} {a : Nat × Value} {l : List (Nat × Value)} (h : lv_has ls n (a :: l)) : lv_has ls n l := ⟨h.1, h.2.1, fun q hq => h.2.2 q (List.mem_cons_of_mem _ hq)⟩
theorem l_rw {G : zG} {q : zq} {u r : zU} (hT : zTop G q) (hR : RR q u r) {u1 : zU} (h1 : ∀ a, (zg G q a).1 ≠ 0 → u1 a = u a) : RW u1 6 (r 1) := by
  intro k o i hk
  have ho := kap_o hk
  have h0 : o < 8 := ho
  have hw : zWh (zg G q) 6 (q 0) := hT.2.1 0 (by decide)
  rw [h1 (6 + o) ?_]
  · exact hR.rw k o i hk
  · by_cases e : o = 0
    · subst e; rw [show (zg G q (6 + 0)).1 = 12 from hw.1]; decide
    · have := (hw.2.1 (o - 1) (by omega)).2.1
      rw [show 6 + (1 + (o - 1)) = 6 + o by omega] at this
      rw [this]; decide
theorem l_op {G : zG} {q : zq} {u r : zU} (hT : zTop G q) (hR : RR q u r) : ∀ u1 : zU, (∀ a, (zg G q a).1 ≠ 0 → u1 a = u a) → ∀ c, f_X9_isOpen 6 (q 0) c u1 = some (opA (r 1) c) := fun _ h1 c => pc_isOpenA (l_rw hT hR h1) hR.iv (q 0) c
theorem l_fi {G : zG} {q : zq} {u r : zU} (hT : zTop G q) (hR : RR q u r) : ∀ u1 : zU, (∀ a, (zg G q a).1 ≠ 0 → u1 a = u a) → ∀ c, f_X9_firstIn 6 (q 0) c u1 = some (sFirst (r 1) c) := fun _ h1 c => pc_firstIn (l_rw hT hR h1) hR.iv (q 0) c
theorem l_q14 {G : zG} {q : zq} (hT : zTop G q) {n : Nat} (h : ∀ a, (G a).1 ≠ 0 → a < n) : ∀ j, j < 8 → q 14 j < n := by
  intro j hj
  have hw : zLw (zg G q) (q 14) := (hT.2.1 14 (by decide)).2.2.2
  refine h _ ?_
  rw [← zg_1 G q]
  by_cases e : j = 0
  · subst e; rw [hw.1]; decide
  · rw [(hw.2 j (by omega) hj).2.1]; decide
section LAW
variable {l : Launch} {p : Program} {e : Env} {s : State} {m : MethodId} {below : List Frame} {meth : Method} {c : Code} {b L : Nat} {xs : Nat → Int32} {D : zD} {dJ : ClassId} {b1 : Nat} {H : Heap} {locs : List Loc} {cells slots : Nat} {Q : State → Prop}
variable {G : zG} {q : zq} {u r : zU} {x : Int64} {pc : Nat} {ls : Array Slot}
/-- the numbers of both are the same -/
theorem l_tail (X : LX l p s m c b L xs D dJ b1) (h : Lw D dJ b1 s G q u r x H locs) {i k v : Int32} (hl : lv_has ls 7 ((6, .int v) :: (5, .int k) :: lsL b b1 i)) (hk : r 0 0 = k) (hv : k = 0 → x = v.toInt64) (hf : cells ≤ 823376 ∧ slots ≤ 6625975) {o : Int}
    (d0 : decode cL_law_ pc = .ok (.aload_n 2, 1)) (d1 : decode cL_law_ (pc + 1) = .ok (.invokevirtual 138, 3)) (d4 : decode cL_law_ (pc + 1 + 3) = .ok (.iload 5, 2)) (d6 : decode cL_law_ (pc + 1 + 3 + 2) = .ok (.if_icmp .eq 5, 3)) (d11 : decode cL_law_ (pc + 11) = .ok (.iload 5, 2)) (d13 : decode cL_law_ (pc + 11 + 2) = .ok (.ifCond .ne 15, 3))
    (d16 : decode cL_law_ (pc + 11 + 2 + 3) = .ok (.aload_n 3, 1)) (d17 : decode cL_law_ (pc + 11 + 2 + 3 + 1) = .ok (.iconst 0, 1)) (d18 : decode cL_law_ (pc + 11 + 2 + 3 + 1 + 1) = .ok (.laload, 1)) (d19 : decode cL_law_ (pc + 11 + 2 + 3 + 1 + 1 + 1) = .ok (.iload 6, 2)) (d21 : decode cL_law_ (pc + 11 + 2 + 3 + 1 + 1 + 1 + 2) = .ok (.i2l, 1)) (d22 : decode cL_law_ (pc + 11 + 2 + 3 + 1 + 1 + 1 + 2 + 1) = .ok (.lcmp, 1)) (d23 : decode cL_law_ (pc + 11 + 2 + 3 + 1 + 1 + 1 + 2 + 1 + 1) = .ok (.ifCond .eq 5, 3))
    (d28 : decode cL_law_ (pc + 28) = .ok (.goto o, 3)) (ho : ((pc + 28 : Nat) : Int) + o = ((2569 : Nat) : Int))
    (kk : ∀ (H1 : Heap) (locs1 : List Loc), Lw D dJ b1 s G q u r x H1 locs1 → W p l e room_1 s m #[Value.ref b] below meth c H1 locs1 cells slots Q (F0 m 2569 ls [])) : W p l e room_1 s m #[Value.ref b] below meth c H locs cells slots Q (F0 m pc ls []) := by
  have hx := X.1.1
  have hb := X.1.2.1
  refine lv_aload_n hx hb d0 rfl (lv_at hl 4 rfl) ?_
  refine l_cm (As := []) (rest := []) (v := some (.int (r 0 0))) X h hl.1 (c_X11_thrown l D (Am b1) (b1 + 222) r rfl) mv_L_138 ⟨Nat.le_of_ble_eq_true rfl, Nat.le_of_ble_eq_true rfl⟩ hf rfl rfl (Nat.le_of_ble_eq_true rfl) d1 fun H1 locs1 h1 => ?_
  show W p l e room_1 s m #[Value.ref b] below meth c H1 locs1 cells slots Q (F0 m (pc + 1 + 3) ls [.int (r 0 0)])
  refine lv_iload hx hb d4 (lv_at hl 1 rfl) ?_
  refine lv_icmp_eq (tgt := pc + 11) hx hb d6 (by omega) (fun _ => ?_) (fun hne => absurd hk hne)
  refine lv_iload hx hb d11 (lv_at hl 1 rfl) ?_
  have kk2 : W p l e room_1 s m #[Value.ref b] below meth c H1 locs1 cells slots Q (F0 m (pc + 28) ls []) := lv_goto (tgt := 2569) hx hb d28 ho (kk H1 locs1 h1)
  refine lv_if_ne (tgt := pc + 28) hx hb d13 (by omega) (fun _ => kk2) (fun h0 => ?_)
  have h0 : k = 0 := Classical.byContradiction fun e => by first | exact h0 e | exact e h0
  refine lv_aload_n hx hb d16 rfl (lv_at hl 3 rfl) ?_
  refine lv_iconst (v := (0 : Int32)) hx hb d17 (by decide) ?_
  obtain ⟨f, hf1, hf2⟩ := h1.2.2.2.1
  refine W.lald (j := 0) (v := .long x) hx hb hf1 (X.2.2.1 1 f) (fun q => by cases q) (by show ¬ ((0 : Int32) < 0 ∨ (arrV _ _ _).slots.size ≤ _); rw [arrV_size]; decide) (by rw [← hf2]; rfl) rfl rfl d18 ?_
  show W p l e room_1 s m #[Value.ref b] below meth c H1 locs1 cells slots Q (F0 m (pc + 11 + 2 + 3 + 1 + 1 + 1) ls [.long x])
  refine lv_iload hx hb d19 (lv_at hl 0 rfl) ?_
  refine lv_i2l (v := v.toInt64) hx hb d21 rfl ?_
  refine W.lcmp hx hb d22 ?_
  rw [hv h0, lg_cmp_rfl]
  exact lv_if_eq (tgt := pc + 28) hx hb d23 (by omega) (fun _ => kk2) (fun h0 => absurd rfl h0)
end LAW
