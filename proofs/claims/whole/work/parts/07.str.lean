/-! String.length() and charAt(i) of the program's constants -/
abbrev sA (D : zD) (i : Nat) : Nat := D.2.2.2.2.1 i
abbrev sV (D : zD) (i : Nat) : Nat := D.2.2.2.2.2 i
def sCh (i k : Nat) : Int32 := (sByt.getD i []).getD k 0 &&& 255
def z_YJ (own : String) (index : Nat) (y : MethodName) (cc : ByteArray) (maxL : Nat) (ret : Option FieldType) (n : Nat) : Prop :=
  GoodIn wsA (wsV own index y.cls y (.code y cc maxL ret :: wsA)) ∧ (y.cls ≠ "java/lang/invoke/MethodHandle" ∧ y.cls ≠ "java/lang/invoke/VarHandle" ∧ (parseMethodDescriptor y.desc).map (fun d => d.parameters.length) = some n) ∧ y.cls = "java/lang/String"
theorem z_YJ.of {own : String} {index : Nat} {y : MethodName} {cc : ByteArray} {maxL : Nat} {ret : Option FieldType} {n : Nat} (h1 : ∀ w ∈ [Cond.methodLink own index y, .instanceMethod y, .selects y.cls y y, .initialized y.cls, .code y cc maxL ret], w ∈ wsA)
    (hd : y.cls ≠ "java/lang/invoke/MethodHandle" ∧ y.cls ≠ "java/lang/invoke/VarHandle" ∧ (parseMethodDescriptor y.desc).map (fun d => d.parameters.length) = some n) (hc : y.cls = "java/lang/String") : z_YJ own index y cc maxL ret n := by
  refine ⟨fun w hw => wsA_good w ?_, hd, hc⟩
  unfold wsV at hw
  rcases List.mem_append.mp hw with h | h
  · exact h1 w (by simp only [List.mem_cons, List.not_mem_nil, or_false] at h ⊢; rcases h with h | h | h | h <;> simp [h])
  · rcases List.mem_cons.mp h with h | h
    · exact h1 w (by simp [h])
    · exact h
section ZJ
variable {p : Program} {l : Launch} {e : Env} {R : Room} {s : State} {m : MethodId} {args : Array Value} {below : List Frame} {meth : Method} {c : Code} {H : Heap} {locs : List Loc} {Q : State → Prop}
variable {cc : ByteArray} {pc : Nat} {ls : Array Slot} {rest : List Value} {D : zD} {A : Nat → Prop} {b : Nat} {g : zG} {u u' : zU} {own : String} {st : List Value}
variable {y : MethodName} {cy : ByteArray} {maxL nL n index fr lo i : Nat} {ret : Option FieldType} {As : List Value} {x : Int32}
theorem z_cji (C0 : z_C p c cc s m args own D A) (hml : c.maxLocals = nL) (hl : ls.size = nL) (hW : z_W D A b g u H) (hS : va_S A s.heap H locs) (hi : i < sN) (hM : z_M l D A b g y cy maxL ret fr lo (.ref (sA D i) :: As) u (some (.int x)) u') (Y : z_YJ own index y cy maxL ret n)
    (hR : fr + 1 ≤ R.frames ∧ 8 + (maxL + 11) + lo ≤ R.locals) (hst : st = As.reverse ++ .ref (sA D i) :: rest) (hn : As.length = n) (hw : (rest.map fun v => v.category).sum ≤ 8) (hdg : decode cc pc = .ok (.invokevirtual index, 3))
    (kk : ∀ (H1 : Heap) (locs1 : List Loc), z_W D A b g u' H1 → va_S A s.heap H1 locs1 → W p l e R s m args below meth c H1 locs1 0 0 Q (F0 m (pc + 3) ls (.int x :: rest))) : W p l e R s m args below meth c H locs 0 0 Q (F0 m pc ls st) := by
  obtain ⟨hx, hb, hts, hown, hK⟩ := C0
  obtain ⟨hG, hd, hc⟩ := Y
  obtain ⟨cell, q1, q2, q3⟩ := vk_recv hK.2.2.2.1 hi hS
  exact z_back (v := some (.int x)) (va_runV (C := y.cls) (bytes := cy) (maxL := maxL) (ret := ret) (n := n) ⟨hx, hb, hml, hown, hts⟩ hM (cwV n hts hG rfl rfl rfl ⟨rfl, hd⟩ hR) ⟨z_blind, ⟨cell, q1, q2, by rw [hc]; exact q3⟩, fun U hU hW2 => ⟨rfl, hK.at hW2 hU hS, by rw [hU]; exact hW⟩⟩ rfl hn hl hst (lv_room hw) hdg ⟨Nat.zero_le _, Nat.zero_le _⟩) hS kk
theorem z_nret (C0 : z_C p c cc s m args own D A) {ty : FieldType} (hr : meth.sig.returnType = some ty) (hlk : meth.locks = false) (hW : z_W D A b g u H) (hS : va_S A s.heap H locs) {x : Int32} (hn : narrow ty (.int x) = .int x) (hdg : decode cc pc = .ok (.ireturn, 1)) : W p l e R s m args below meth c H locs 0 0 (z_End D A b g below args s (some (.int x)) u) (F0 m pc ls [.int x]) :=
  W.zret (v := x) C0.1 C0.2.1 hr hn (fun t ht _ => ⟨rfl, by rw [ht]; exact hW, hS.F ht⟩) hS.2.2 hdg hlk
theorem z_ldcS (C0 : z_C p c cc s m args own D A) {index k : Nat} {tx : String} (hq : (own, index, tx, k) ∈ sEnt) (hdg : decode cc pc = .ok (.ldc index, 2)) {cells slots : Nat}
    (kk : W p l e R s m args below meth c H locs cells slots Q (F0 m (pc + 2) ls (.ref (sA D k) :: rest))) : W p l e R s m args below meth c H locs cells slots Q (F0 m pc ls rest) :=
  va_ldcS C0.1 C0.2.1 C0.2.2.2.1 (C0.2.2.2.2.2.2.2.2.1 _ hq) hdg kk
end ZJ
set_option maxRecDepth 100000 in
theorem mj_J0_335 : z_YJ RJ0 335 yJ0_coder_7d493 cJ0_coder_7d493 1 (some .byte) 0 := z_YJ.of (List.forall_mem_cons.mpr ⟨w_ml_J0_335, List.forall_mem_cons.mpr ⟨w_im_J0_coder_7d493, List.forall_mem_cons.mpr ⟨w_se_J0_coder_7d493, List.forall_mem_cons.mpr ⟨w_in_J0, List.forall_mem_cons.mpr ⟨w_co_J0_coder_7d493, fun _ h => absurd h List.not_mem_nil⟩⟩⟩⟩⟩) (by decide +kernel) rfl
theorem mj_J0_492 : z_YJ RJ0 492 yJ0_isLatin1_aae02 cJ0_isLatin1_aae02 1 (some .boolean) 0 := z_YJ.of (List.forall_mem_cons.mpr ⟨w_ml_J0_492, List.forall_mem_cons.mpr ⟨w_im_J0_isLatin1_aae02, List.forall_mem_cons.mpr ⟨w_se_J0_isLatin1_aae02, List.forall_mem_cons.mpr ⟨w_in_J0, List.forall_mem_cons.mpr ⟨w_co_J0_isLatin1_aae02, fun _ h => absurd h List.not_mem_nil⟩⟩⟩⟩⟩) (by decide +kernel) rfl
theorem ms_J0_495 : z_YS RJ0 495 yJ1_charAt_3b067 cJ1_charAt_3b067 2 (some .char) 2 := z_YS.of (List.forall_mem_cons.mpr ⟨w_ml_J0_495, List.forall_mem_cons.mpr ⟨w_st_J1_charAt_3b067, List.forall_mem_cons.mpr ⟨w_in_J1, List.forall_mem_cons.mpr ⟨w_co_J1_charAt_3b067, fun _ h => absurd h List.not_mem_nil⟩⟩⟩⟩) (by decide +kernel)
theorem ms_J0_1059 : z_YS RJ0 1059 yJ3_checkIndex_8e157 cJ3_checkIndex_8e157 3 (some .int) 3 := z_YS.of (List.forall_mem_cons.mpr ⟨w_ml_J0_1059, List.forall_mem_cons.mpr ⟨w_st_J3_checkIndex_8e157, List.forall_mem_cons.mpr ⟨w_in_J3, List.forall_mem_cons.mpr ⟨w_co_J3_checkIndex_8e157, fun _ h => absurd h List.not_mem_nil⟩⟩⟩⟩) (by decide +kernel)
theorem ms_J1_9 : z_YS RJ1 9 yJ0_checkIndex_df160 cJ0_checkIndex_df160 2 none 2 := z_YS.of (List.forall_mem_cons.mpr ⟨w_ml_J1_9, List.forall_mem_cons.mpr ⟨w_st_J0_checkIndex_df160, List.forall_mem_cons.mpr ⟨w_in_J0, List.forall_mem_cons.mpr ⟨w_co_J0_checkIndex_df160, fun _ h => absurd h List.not_mem_nil⟩⟩⟩⟩) (by decide +kernel)
section ZJD
variable (l : Launch) (D : zD) (A : Nat → Prop) (b : Nat) (g : zG) (u : zU)
set_option maxRecDepth 100000 in
set_option maxHeartbeats 4000000 in
theorem c_J0_coder {i : Nat} (hi : i < sN) : z_M l D A b g yJ0_coder_7d493 cJ0_coder_7d493 1 (some .byte) 0 0 [.ref (sA D i)] u (some (.int 0)) u := by
  refine z_enter (by decide) (Nat.le_of_ble_eq_true rfl) ?_
  intro p e s m below meth c ls C0 hr hml hlk hW hS hl
  have hl : lv_has ls 1 [(0, .ref (sA D i))] := hl
  have hx := C0.1
  have hb := C0.2.1
  obtain ⟨-, hZ, hF, hE, hR⟩ := C0.2.2.2.2
  refine va_gets hx hb hZ hS C0.2.2.2.1 (C0.2.2.1 _ w_fl_J0_38) (fun _ h => h) dJ0_coder_7d493_0 ?_
  refine lv_if_eq (tgt := 13) hx hb dJ0_coder_7d493_3 (by decide) (fun hc => absurd hc (by decide)) (fun hc => ?_)
  refine lv_aload_n hx hb dJ0_coder_7d493_6 rfl (lv_at hl 0 rfl) ?_
  refine vk_getf hx hb (hE.1 i hi).2.1 hS C0.2.2.2.1 (C0.2.2.1 _ w_fl_J0_15) (fun _ h => h) dJ0_coder_7d493_7 ?_
  refine lv_goto (tgt := 14) hx hb dJ0_coder_7d493_10 (by decide) ?_
  exact z_nret C0 hr hlk hW hS rfl dJ0_coder_7d493_14
set_option maxRecDepth 100000 in
set_option maxHeartbeats 4000000 in
theorem c_J0_isLatin1 {i : Nat} (hi : i < sN) : z_M l D A b g yJ0_isLatin1_aae02 cJ0_isLatin1_aae02 1 (some .boolean) 0 0 [.ref (sA D i)] u (some (.int 1)) u := by
  refine z_enter (by decide) (Nat.le_of_ble_eq_true rfl) ?_
  intro p e s m below meth c ls C0 hr hml hlk hW hS hl
  have hl : lv_has ls 1 [(0, .ref (sA D i))] := hl
  have hx := C0.1
  have hb := C0.2.1
  obtain ⟨-, hZ, hF, hE, hR⟩ := C0.2.2.2.2
  refine va_gets hx hb hZ hS C0.2.2.2.1 (C0.2.2.1 _ w_fl_J0_38) (fun _ h => h) dJ0_isLatin1_aae02_0 ?_
  refine lv_if_eq (tgt := 17) hx hb dJ0_isLatin1_aae02_3 (by decide) (fun hc => absurd hc (by decide)) (fun hc => ?_)
  refine lv_aload_n hx hb dJ0_isLatin1_aae02_6 rfl (lv_at hl 0 rfl) ?_
  refine vk_getf hx hb (hE.1 i hi).2.1 hS C0.2.2.2.1 (C0.2.2.1 _ w_fl_J0_15) (fun _ h => h) dJ0_isLatin1_aae02_7 ?_
  refine lv_if_ne (tgt := 17) hx hb dJ0_isLatin1_aae02_10 (by decide) (fun hc => absurd rfl hc) (fun hc => ?_)
  refine lv_iconst (v := (1 : Int32)) hx hb dJ0_isLatin1_aae02_13 (by decide) ?_
  refine lv_goto (tgt := 18) hx hb dJ0_isLatin1_aae02_14 (by decide) ?_
  exact z_nret C0 hr hlk hW hS rfl dJ0_isLatin1_aae02_18
set_option maxRecDepth 100000 in
set_option maxHeartbeats 4000000 in
theorem c_J0_length {i : Nat} (hi : i < sN) : z_M l D A b g yJ0_length_8abf5 cJ0_length_8abf5 1 (some .int) 1 20 [.ref (sA D i)] u (some (.int (nI (sLen.getD i 0)))) u := by
  refine z_enter (by decide) (Nat.le_of_ble_eq_true rfl) ?_
  intro p e s m below meth c ls C0 hr hml hlk hW hS hl
  have hl : lv_has ls 1 [(0, .ref (sA D i))] := hl
  have hx := C0.1
  have hb := C0.2.1
  obtain ⟨-, hZ, hF, hE, hR⟩ := C0.2.2.2.2
  refine lv_aload_n hx hb dJ0_length_8abf5_0 rfl (lv_at hl 0 rfl) ?_
  refine vk_getf hx hb (hE.1 i hi).2.2.1 hS C0.2.2.2.1 (C0.2.2.1 _ w_fl_J0_9) (fun _ h => h) dJ0_length_8abf5_1 ?_
  refine va_tlen (v := nI (sLen.getD i 0)) hx hb (hE.1 i hi).2.2.2 hS rfl dJ0_length_8abf5_4 ?_
  refine lv_aload_n hx hb dJ0_length_8abf5_5 rfl (lv_at hl 0 rfl) ?_
  refine z_cji (As := []) C0 hml hl.1 hW hS hi (c_J0_coder l D A b g u hi) mj_J0_335 ⟨Nat.le_of_ble_eq_true rfl, Nat.le_of_ble_eq_true rfl⟩ rfl rfl (Nat.le_of_ble_eq_true rfl) dJ0_length_8abf5_6 (fun H locs hW hS => ?_)
  refine lv_ishr hx hb dJ0_length_8abf5_9 ?_
  refine z_as (sb_shr0 _) ?_
  exact z_iret C0 hr hlk hW hS dJ0_length_8abf5_10
set_option maxRecDepth 100000 in
set_option maxHeartbeats 4000000 in
theorem c_J3_checkIndex {i n : Int32} {f : Value} (hf : f = .null ∨ ∃ t, f = .ref t) (h0 : ¬ i < 0) (hn : i < n) : z_M l D A b g yJ3_checkIndex_8e157 cJ3_checkIndex_8e157 3 (some .int) 0 0 [.int i, .int n, f] u (some (.int i)) u := by
  have hcat : f.category = 1 := by rcases hf with h | ⟨t, h⟩ <;> subst h <;> rfl
  refine z_enter (by decide) (by rcases hf with h | ⟨t, h⟩ <;> subst h <;> exact Nat.le_of_ble_eq_true rfl) ?_
  intro p e s m below meth c ls C0 hr hml hlk hW hS hl
  have hl : lv_has ls 3 [(0, .int i), (1, .int n), (2, f)] := by rcases hf with h | ⟨t, h⟩ <;> subst h <;> exact hl
  have hx := C0.1
  have hb := C0.2.1
  refine lv_iload_n hx hb dJ3_checkIndex_8e157_0 rfl (lv_at hl 0 rfl) ?_
  refine lv_if_lt (tgt := 9) hx hb dJ3_checkIndex_8e157_1 (by decide) (fun hc => absurd hc h0) (fun hc => ?_)
  refine lv_iload_n hx hb dJ3_checkIndex_8e157_4 rfl (lv_at hl 0 rfl) ?_
  refine lv_iload_n hx hb dJ3_checkIndex_8e157_5 rfl (lv_at hl 1 rfl) ?_
  refine lv_icmp_lt (tgt := 16) hx hb dJ3_checkIndex_8e157_6 (by decide) (fun hc => ?_) (fun hc => absurd hn hc)
  refine lv_iload_n hx hb dJ3_checkIndex_8e157_16 rfl (lv_at hl 0 rfl) ?_
  exact z_iret C0 hr hlk hW hS dJ3_checkIndex_8e157_17
set_option maxRecDepth 100000 in
set_option maxHeartbeats 4000000 in
theorem c_J0_checkIndex {i n : Int32} (h0 : ¬ i < 0) (hn : i < n) : z_M l D A b g yJ0_checkIndex_df160 cJ0_checkIndex_df160 2 none 1 22 [.int i, .int n] u none u := by
  refine z_enter (by decide) (Nat.le_of_ble_eq_true rfl) ?_
  intro p e s m below meth c ls C0 hr hml hlk hW hS hl
  have hl : lv_has ls 2 [(0, .int i), (1, .int n)] := hl
  have hx := C0.1
  have hb := C0.2.1
  obtain ⟨-, hZ, hF, hE, hR⟩ := C0.2.2.2.2
  refine lv_iload_n hx hb dJ0_checkIndex_df160_0 rfl (lv_at hl 0 rfl) ?_
  refine lv_iload_n hx hb dJ0_checkIndex_df160_1 rfl (lv_at hl 1 rfl) ?_
  obtain ⟨f, hf, hFv⟩ : ∃ f : Value, (f = .null ∨ ∃ t, f = .ref t) ∧ va_Z "jdk/internal/util/Preconditions" "SIOOBE_FORMATTER" "Ljava/util/function/BiFunction;" f A s s.heap := by
    rcases hF with h | ⟨t, h⟩
    · exact ⟨_, Or.inl rfl, h⟩
    · exact ⟨_, Or.inr ⟨t, rfl⟩, h⟩
  refine va_gets hx hb hFv hS C0.2.2.2.1 (C0.2.2.1 _ w_fl_J0_1053) (fun _ h => h) dJ0_checkIndex_df160_2 ?_
  refine z_csi (As := [.int i, .int n, f]) C0 hml hl.1 hW hS (c_J3_checkIndex l D A b g u hf h0 hn) ms_J0_1059 ⟨Nat.le_of_ble_eq_true rfl, Nat.le_of_ble_eq_true rfl⟩ rfl rfl (Nat.le_of_ble_eq_true rfl) dJ0_checkIndex_df160_5 (fun H locs hW hS => ?_)
  refine lv_pop hx hb dJ0_checkIndex_df160_8 rfl ?_
  exact z_vret C0 hr hlk hW hS dJ0_checkIndex_df160_9
set_option maxRecDepth 100000 in
set_option maxHeartbeats 4000000 in
theorem c_J1_charAt {k : Nat} {i : Int32} (hk : k < sN) (hi : z_in i (sLen.getD k 0) = true) (hL : sLen.getD k 0 < 2 ^ 31) : z_M l D A b g yJ1_charAt_3b067 cJ1_charAt_3b067 2 (some .char) 2 43 [.ref (sV D k), .int i] u (some (.int (sCh k i.toNatClampNeg))) u := by
  refine z_enter (by decide) (Nat.le_of_ble_eq_true rfl) ?_
  intro p e s m below meth c ls C0 hr hml hlk hW hS hl
  have hl : lv_has ls 2 [(0, .ref (sV D k)), (1, .int i)] := hl
  have hx := C0.1
  have hb := C0.2.1
  obtain ⟨-, hZ, hF, hE, hR⟩ := C0.2.2.2.2
  have hv := z_in_vp hi
  have h0 : ¬ i < 0 := fun h => hv (Or.inl h)
  obtain ⟨j, hj, e1⟩ := vp_in_of hv hL
  have hn : i < nI (sLen.getD k 0) := by rw [e1]; exact nI_lt hj hL
  refine lv_iload_n hx hb dJ1_charAt_3b067_0 rfl (lv_at hl 1 rfl) ?_
  refine lv_aload_n hx hb dJ1_charAt_3b067_1 rfl (lv_at hl 0 rfl) ?_
  refine va_tlen (v := nI (sLen.getD k 0)) hx hb (hE.1 k hk).2.2.2 hS rfl dJ1_charAt_3b067_2 ?_
  refine z_csv (As := [.int i, .int (nI (sLen.getD k 0))]) C0 hml hl.1 hW hS (c_J0_checkIndex l D A b g u h0 hn) ms_J1_9 ⟨Nat.le_of_ble_eq_true rfl, Nat.le_of_ble_eq_true rfl⟩ rfl rfl (Nat.le_of_ble_eq_true rfl) dJ1_charAt_3b067_3 (fun H locs hW hS => ?_)
  refine lv_aload_n hx hb dJ1_charAt_3b067_6 rfl (lv_at hl 0 rfl) ?_
  refine lv_iload_n hx hb dJ1_charAt_3b067_7 rfl (lv_at hl 1 rfl) ?_
  refine va_tb (v := .int ((sByt.getD k []).getD i.toNatClampNeg 0)) hx hb (hE.1 k hk).2.2.2 hS hv rfl dJ1_charAt_3b067_8 ?_
  refine lv_sipush (v := (255 : Int32)) hx hb dJ1_charAt_3b067_9 (by decide) ?_
  refine lv_iand hx hb dJ1_charAt_3b067_12 ?_
  refine lv_i2c (v := sCh k i.toNatClampNeg) hx hb dJ1_charAt_3b067_13 (sc_c2 _) ?_
  exact z_nret C0 hr hlk hW hS (sc_nar _) dJ1_charAt_3b067_14
set_option maxRecDepth 100000 in
set_option maxHeartbeats 4000000 in
theorem c_J0_charAt {k : Nat} {i : Int32} (hk : k < sN) (hi : z_in i (sLen.getD k 0) = true) (hL : sLen.getD k 0 < 2 ^ 31) : z_M l D A b g yJ0_charAt_5068e cJ0_charAt_5068e 2 (some .char) 3 64 [.ref (sA D k), .int i] u (some (.int (sCh k i.toNatClampNeg))) u := by
  refine z_enter (by decide) (Nat.le_of_ble_eq_true rfl) ?_
  intro p e s m below meth c ls C0 hr hml hlk hW hS hl
  have hl : lv_has ls 2 [(0, .ref (sA D k)), (1, .int i)] := hl
  have hx := C0.1
  have hb := C0.2.1
  obtain ⟨-, hZ, hF, hE, hR⟩ := C0.2.2.2.2
  refine lv_aload_n hx hb dJ0_charAt_5068e_0 rfl (lv_at hl 0 rfl) ?_
  refine z_cji (As := []) C0 hml hl.1 hW hS hk (c_J0_isLatin1 l D A b g u hk) mj_J0_492 ⟨Nat.le_of_ble_eq_true rfl, Nat.le_of_ble_eq_true rfl⟩ rfl rfl (Nat.le_of_ble_eq_true rfl) dJ0_charAt_5068e_1 (fun H locs hW hS => ?_)
  refine lv_if_eq (tgt := 16) hx hb dJ0_charAt_5068e_4 (by decide) (fun hc => absurd hc (by decide)) (fun hc => ?_)
  refine lv_aload_n hx hb dJ0_charAt_5068e_7 rfl (lv_at hl 0 rfl) ?_
  refine vk_getf hx hb (hE.1 k hk).2.2.1 hS C0.2.2.2.1 (C0.2.2.1 _ w_fl_J0_9) (fun _ h => h) dJ0_charAt_5068e_8 ?_
  refine lv_iload_n hx hb dJ0_charAt_5068e_11 rfl (lv_at hl 1 rfl) ?_
  refine z_csi (As := [.ref (sV D k), .int i]) C0 hml hl.1 hW hS (c_J1_charAt l D A b g u hk hi hL) ms_J0_495 ⟨Nat.le_of_ble_eq_true rfl, Nat.le_of_ble_eq_true rfl⟩ rfl rfl (Nat.le_of_ble_eq_true rfl) dJ0_charAt_5068e_12 (fun H locs hW hS => ?_)
  exact z_nret C0 hr hlk hW hS (sc_nar _) dJ0_charAt_5068e_15
end ZJD
