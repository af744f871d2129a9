/-! MACHINE, 14: the law from its entry -/
theorem z_W.re {D : zD} {A A1 : Nat → Prop} {b : Nat} {g : zG} {u : zU} {H H1 : Heap} (h : z_W D A b g u H) (hA : ∀ r, (g r).1 ≠ 0 → A1 (b + r)) (hq : ∀ r, (g r).1 ≠ 0 → H1[b + r]? = H[b + r]?) : z_W D A1 b g u H1 := by
  intro r
  refine ⟨?_, hA r⟩
  by_cases h0 : (g r).1 = 0
  · unfold z_at; rw [h0]; exact trivial
  · exact (h r).1.kept (hq r h0)
theorem whole_start {p : Program} {e : Env} {s : State} {m : MethodId} {below : List Frame} {meth : Method} {c : Code} (l : Launch) (hst : l.stackTraces = false) {b L : Nat} {xs : Nat → Int32} (hL : L ≤ 3072) (C0 : lw_At p s m meth c b L xs) : W p l e room_1 s m #[Value.ref b] below meth c s.heap [] 0 0 (lw_Z below #[Value.ref b] s) (entryFrame m ([Value.ref b] : List Value).toArray 7) := by
  obtain ⟨hx, hb, hr, hml, hown, hts, hX, hbl, hlocks, hgv⟩ := id C0
  obtain ⟨⟨D, hK⟩, hK2⟩ := l_start hts hgv
  have C1 : z_C p c cL_law_ s m #[Value.ref b] RL D (A0 s) := ⟨hx, hb, fun w hw => hts w (List.mem_filter.mp hw).1, hown, hK⟩
  have hl := lv_entry ([.ref b]) (n := 7) (Nat.le_of_ble_eq_true rfl)
  rw [lg_entry_eq]
  generalize (lg_sl ([.ref b]) ++ List.replicate (7 - (lg_sl ([.ref b])).length) Slot.unset).toArray = ls at hl ⊢
  have hl : lv_has ls 7 [(0, .ref b)] := hl
  have hb : c.code = cL_law_ := hb
  obtain ⟨b1, hb1⟩ : ∃ b1 : Nat, b1 = s.heap.size := ⟨_, rfl⟩
  have hA0 : ∀ q : Nat, b1 ≤ q → A0 s q := fun q h => by show s.heap.size ≤ q; omega
  refine zL_new (R := room_1) (A1 := A0 s) (b := b1) C1 va_S.rf hb1.symm nw_L_8 ⟨Nat.le_of_ble_eq_true rfl, Nat.le_of_ble_eq_true rfl⟩ dL_law__0 (hA0 b1 (Nat.le_refl _)) fun H1 hW1 hS1 hz1 hk1 => ?_
  refine lv_dup hx hb dL_law__3 rfl ?_
  refine zL_cI (R := room_1) (A1 := A0 s) (b := b1) (r0 := 0) (As := []) (rest := [.ref (b1 + 0)]) C1 hK2 hml hl.1 hW1 hS1 hz1 (fun _ h => h) (fun q h => hA0 q (by omega)) (c_X10_init l D (A0 s) b1) w_ml_L_118 yi_L_118 ⟨Nat.le_of_ble_eq_true rfl, Nat.le_of_ble_eq_true rfl⟩ ⟨Nat.le_of_ble_eq_true rfl, Nat.le_of_ble_eq_true rfl⟩ rfl rfl (Nat.le_of_ble_eq_true rfl) dL_law__4 fun H2 locs2 hW2 hS2 hz2 hk2 => ?_
  refine lv_astore_n hx hb dL_law__7 rfl hl (by decide) rfl (fun ls hl => ?_)
  refine zL_new (R := room_1) (A1 := fun q => b1 + 222 ≤ q) (b := b1 + 222) C1 hS2 hz2 nw_L_119 ⟨Nat.le_of_ble_eq_true rfl, Nat.le_of_ble_eq_true rfl⟩ dL_law__8 (Nat.le_refl _) fun H3 hW3 hS3 hz3 hk3 => ?_
  refine lv_dup hx hb dL_law__11 rfl ?_
  refine zL_cI (R := room_1) (A1 := fun q => b1 + 222 ≤ q) (b := b1 + 222) (r0 := 0) (As := []) (rest := [.ref (b1 + 222 + 0)]) C1 hK2 hml hl.1 hW3 hS3 hz3 (fun q h => hA0 q (by omega)) (fun q h => by show b1 + 222 ≤ q; omega) (c_X11_init l D (fun q => b1 + 222 ≤ q) (b1 + 222)) w_ml_L_121 yi_L_121 ⟨Nat.le_of_ble_eq_true rfl, Nat.le_of_ble_eq_true rfl⟩ ⟨Nat.le_of_ble_eq_true rfl, Nat.le_of_ble_eq_true rfl⟩ rfl rfl (Nat.le_of_ble_eq_true rfl) dL_law__12 fun H4 locs4 hW4 hS4 hz4 hk4 => ?_
  refine lv_astore_n hx hb dL_law__15 rfl hl (by decide) rfl (fun ls hl => ?_)
  refine lv_iconst (v := (1 : Int32)) hx hb dL_law__16 (by decide) ?_
  refine va_newaK (R := room_1) (atype := .long) (N := 1) (h := b1 + 232) hx hb (l_tb hts 1897 (by decide +kernel)) rfl dL_law__17 rfl (by decide) (by decide) (by decide) (Nat.le_of_ble_eq_true rfl) (Nat.le_of_ble_eq_true rfl) (by omega) fun H5 dJ e5 z5 o5 hAr hNm => ?_
  show W p l e room_1 s m #[Value.ref b] below meth c H5 locs4 _ _ (lw_Z below #[Value.ref b] s) (F0 m 19 ls [.ref (b1 + 232)])
  refine lv_astore_n hx hb dL_law__19 rfl hl (by decide) rfl (fun ls hl => ?_)
  refine lv_iconst (v := (0 : Int32)) hx hb dL_law__20 (by decide) ?_
  refine lv_istore hx hb dL_law__21 hl (by decide) rfl (fun ls hl => ?_)
  have hS5 : va_S (A0 s) s.heap H5 locs4 := ⟨Nat.le_trans hS4.1 (by omega), fun q h1 h2 => (o5 q (by omega)).trans (hS4.2.1 q h1 h2), hS4.2.2⟩
  have hC5 : z_W D (Ax b1) b1 gI_X10_init uI_X10_init H5 := hW2.re (fun r hr0 => by have := hW2.ltn hz2 hr0; unfold Ax; omega) (fun r hr0 => by
    have := hW2.ltn hz2 hr0
    rw [o5 (b1 + r) (by omega), hk4 (b1 + r) (by omega) (by omega), hk3 (b1 + r) (by omega)])
  have hM5 : z_W D (Am b1) (b1 + 222) gI_X11_init uI_X11_init H5 := hW4.re (fun r hr0 => by have := hW4.ltn hz4 hr0; unfold Am; omega) (fun r hr0 => by
    have := hW4.ltn hz4 hr0
    rw [o5 (b1 + 222 + r) (by omega)])
  have hO5 : oC dJ (b1 + 232) H5 0 := ⟨fun _ => .long 0, e5, rfl⟩
  exact l_loop ⟨C1, hK2, hAr, hml, hX, hbl, hst, hb1⟩ hr hlocks hL 512 0 _ _ G00 q00 uI_X10_init uI_X11_init 0 H5 locs4 ls (by omega) (by omega) (Nat.le_of_ble_eq_true rfl) (Nat.le_of_ble_eq_true rfl) ⟨z_W00 hC5, zTop00, z_WM hM5, hO5, hS5, by omega⟩ RR.start (by rw [nI_0]; exact hl)
