section ZOL
variable {p : Program} {l : Launch} {e : Env} {R : Room} {s : State} {m : MethodId} {args : Array Value} {below : List Frame} {meth : Method} {c : Code} {Q : State → Prop}
variable {D : zD} {A : Nat → Prop} {b : Nat} {g : zG} {u : zU} {n : Nat}
theorem lo_l {cells slots N rw : Nat} {al : Int32} {res : Nat → Int32} (C0 : z_C p c cX10_oddsBy s m args RX10 D A) (kk : ∀ (H1 : Heap) (locs1 : List Loc) (ls1 : Array Slot), zOW D A b g u n N rw res H1 → va_S A s.heap H1 locs1 → lv_has ls1 8 [(2, .ref (b + rw))] → W p l e R s m args below meth c H1 locs1 cells slots Q (F0 m 143 ls1 [])) : ∀ (k : Nat) (i : Int32) (ways : Nat → Int32) (H : Heap) (locs : List Loc) (ls : Array Slot), od_l al k i ways = some res → zOW D A b g u n N rw ways H → va_S A s.heap H locs →
    lv_has ls 8 [(4, .int i), (3, .int al), (2, .ref (b + rw))] →
    W p l e R s m args below meth c H locs cells slots Q (F0 m 112 ls []) := by
  intro k
  induction k with
  | zero => intro i ways H locs ls h; cases h
  | succ k ih =>
    intro i ways H locs ls h hO hS hl
    have hx := C0.1
    have hb := C0.2.1
    unfold od_l at h
    refine lv_iload hx hb dX10_oddsBy_112 (lv_at hl 0 rfl) ?_
    refine lv_bipush (v := (8 : Int32)) hx hb dX10_oddsBy_114 (by decide) ?_
    refine lv_icmp_ge (tgt := 143) hx hb dX10_oddsBy_116 (by decide) (fun hc => ?_) (fun hc => ?_)
    · rw [if_pos hc] at h
      cases h
      exact kk H locs ls hO hS (lv_sub hl [2] rfl)
    · rw [if_neg hc] at h
      refine lv_iload_n hx hb dX10_oddsBy_119 rfl (lv_at hl 1 rfl) ?_
      refine lv_if_le (tgt := 143) hx hb dX10_oddsBy_120 (by decide) (fun hd => ?_) (fun hd => ?_)
      · rw [if_pos hd] at h
        cases h
        exact kk H locs ls hO hS (lv_sub hl [2] rfl)
      · rw [if_neg hd] at h
        replace h := z_if h
        obtain ⟨⟨hi, hne⟩, h⟩ := h
        obtain ⟨g1, u1, hW, hZ, hlow, hr, hgw, huw⟩ := hO
        refine lv_aload_n hx hb dX10_oddsBy_123 rfl (lv_at hl 2 rfl) ?_
        refine lv_iload hx hb dX10_oddsBy_124 (lv_at hl 0 rfl) ?_
        refine lv_aload_n hx hb dX10_oddsBy_126 rfl (lv_at hl 2 rfl) ?_
        refine lv_iload hx hb dX10_oddsBy_127 (lv_at hl 0 rfl) ?_
        refine z_iald (n := 8) C0 hW (zk1 hgw) (zk2 hgw) hi rfl dX10_oddsBy_129 ?_
        refine lv_sipush (v := (10000 : Int32)) hx hb dX10_oddsBy_130 (by decide) ?_
        refine lv_imul hx hb dX10_oddsBy_133 ?_
        refine lv_iload_n hx hb dX10_oddsBy_134 rfl (lv_at hl 1 rfl) ?_
        refine lv_idiv hx hb dX10_oddsBy_135 hne ?_
        refine z_iastN (N := 8) C0 hW hS hZ (zk1 hgw) (zk2 hgw) hi rfl dX10_oddsBy_136 (fun H locs hW hS hZ => ?_)
        refine lv_iinc (v := i + 1) (lv' := [(4, .int (i + 1)), (3, .int al), (2, .ref (b + rw))]) hx hb dX10_oddsBy_137 hl (k := 0) rfl rfl (by decide) rfl (fun ls hl => ?_)
        refine lv_goto (tgt := 112) hx hb dX10_oddsBy_140 (by decide) ?_
        refine ih _ _ H locs ls h ⟨g1, _, hW, hZ, fun r hlt => ?_, hr, hgw, ?_⟩ hS hl
        · exact ⟨(hlow r hlt).1, by rw [z_up_ne (by omega)]; exact (hlow r hlt).2⟩
        · rw [z_up_eq, huw]
end ZOL
theorem z_enterG {l : Launch} {D : zD} {A : Nat → Prop} {b n : Nat} {g : zG} {y : MethodName} {cc : ByteArray} {maxL : Nat} {ret : Option FieldType} {fr lo mc ms : Nat} {as : List Value} {u : zU} {Qc : Array Value → State → Outcome → State → Prop} (hy : plainName y.cls = true) (hn : (lg_sl as).length ≤ maxL)
    (body : ∀ (p : Program) (e : Env) (s : State) (m : MethodId) (below : List Frame) (meth : Method) (c : Code) (ls : Array Slot), z_C p c cc s m as.toArray y.cls D A → meth.sig.returnType = ret → c.maxLocals = maxL → meth.locks = false → z_K2 s → s.heap.size = b + n → (∀ q : Nat, s.heap.size ≤ q → A q) → z_W D A b g u s.heap → va_S A s.heap s.heap [] → lv_has ls maxL (lv_args 0 as) →
      W p l e { frames := fr, cells := mc, slots := ms, locals := lo } s m as.toArray below meth c s.heap [] 0 0 (MQ below Qc as.toArray s mc ms A) (F0 m 0 ls [])) : Met l y (.code y cc maxL ret :: wsA) { frames := fr, cells := mc, slots := ms, locals := lo } (z_PN D A b g n as u) Qc mc ms A := by
  refine Met.ofW (cc := cc) (maxL := maxL) (ret := ret) hy rfl ?_
  intro p e s m vals below meth c s₁ B hml hv
  obtain ⟨⟨rfl, hK, hW⟩, hK2, hZ, hA⟩ := hv
  have hts : ∀ w ∈ Cond.code y cc maxL ret :: wsA, w.before as.toArray s = true := atoms_spec (ws := Cond.code y cc maxL ret :: wsA) B.pre
  have hown : s.vm.findClass y.cls = some m.cls := findClass_of_methodNamed B.named
  have hl := lv_entry as (n := maxL) hn
  rw [lg_entry_eq]
  exact body p e s m below meth c _ ⟨B.exec, B.bytes, fun w h => hts w (List.mem_cons_of_mem _ h), hown, hK⟩ B.returns hml B.notSynchronized hK2 hZ hA hW va_S.rf hl
def z_QO (D : zD) (A : Nat → Prop) (b : Nat) (g : zG) (n : Nat) (u : zU) (v : Nat → Int32) : Array Value → State → Outcome → State → Prop := fun _ st o t => ∃ (r : Nat) (g1 : zG) (u1 : zU), o = .returned (some (.ref (b + r))) ∧ z_W D A b g1 u1 t.heap ∧ (∀ r', r' < n → g1 r' = g r' ∧ u1 r' = u r') ∧ n ≤ r ∧ (g1 r = (1, 8, zNo) ∧ u1 r = v) ∧ va_F A st t
def z_MO (l : Launch) (D : zD) (A : Nat → Prop) (b : Nat) (g : zG) (n : Nat) (a1 : Int32) (u : zU) (v : Nat → Int32) : Prop :=
  Met l yX10_oddsBy (.code yX10_oddsBy cX10_oddsBy 8 (some (.array .int)) :: wsA) { frames := 0, cells := 7, slots := 56, locals := 20 } (z_PN D A b g n [.ref (b + 0), .int a1] u) (z_QO D A b g n u v) 7 56 A
theorem c_X10_oddsBy (l : Launch) (D : zD) (A : Nat → Prop) (b : Nat) (g : zG) (n : Nat) (k0 : (g 0).1 = 13) (f0 : (g 0).2.2 2 = some 6) (k6 : (g 6).1 = 12) (a1 : Int32) (u : zU) {v : Nat → Int32} (h : f_X10_oddsBy a1 u = some v) : z_MO l D A b g n a1 u v := by
  unfold z_MO
  refine z_enterG (by decide) (Nat.le_of_ble_eq_true rfl) ?_
  intro p e s m below meth c ls C0 hr hml hlk hK2 hZ hA hW hS hl
  have hl : lv_has ls 8 [(0, .ref (b + 0)), (1, .int a1)] := hl
  have hx := C0.1
  have hb := C0.2.1
  have h6 : 6 < n := hW.ltn hZ (by rw [k6]; decide)
  unfold f_X10_oddsBy at h
  replace h := z_if h
  obtain ⟨hi, h⟩ := h
  refine lv_bipush (v := (8 : Int32)) hx hb dX10_oddsBy_0 (by decide) ?_
  refine z_newI (N := 8) C0 hW hS hA hZ w_ai ⟨by decide, by decide, by decide⟩ ⟨Nat.le_of_ble_eq_true rfl, Nat.le_of_ble_eq_true rfl⟩ dX10_oddsBy_2 (fun H hW hS hZ => ?_)
  refine lv_astore_n (lv' := [(2, .ref (b + n)), (0, .ref (b + 0)), (1, .int a1)]) hx hb dX10_oddsBy_4 rfl hl (by decide) rfl (fun ls hl => ?_)
  refine lv_aload_n hx hb dX10_oddsBy_5 rfl (lv_at hl 0 rfl) ?_
  refine lv_aload_n hx hb dX10_oddsBy_6 rfl (lv_at hl 1 rfl) ?_
  have e0 : zal g n (1, 8, zNo) 0 = g 0 := zal_n _ _ (by omega)
  have e6 : zal g n (1, 8, zNo) 6 = g 6 := zal_n _ _ (by omega)
  have e6u : zst u n zO0 6 = u 6 := if_neg (by omega)
  refine z_getr (o := 6) C0 hW fl_X10_28 (by rw [e0]; exact k0) rfl (by rw [e0]; exact f0) dX10_oddsBy_7 ?_
  refine z_geti C0 hW fl_X10_211 (by rw [e6]; exact k6) rfl dX10_oddsBy_10 ?_
  rw [e6u]
  refine lv_bipush (v := (7 : Int32)) hx hb dX10_oddsBy_13 (by decide) ?_
  refine lv_iand hx hb dX10_oddsBy_15 ?_
  refine lv_iconst (v := (1 : Int32)) hx hb dX10_oddsBy_16 (by decide) ?_
  refine z_iastN (N := 8) C0 hW hS hZ (by rw [zal_e]) (by rw [zal_e]) hi rfl dX10_oddsBy_17 (fun H locs hW hS hZ => ?_)
  refine lv_iconst (v := (1 : Int32)) hx hb dX10_oddsBy_18 (by decide) ?_
  refine lv_istore_n (lv' := [(3, .int 1), (2, .ref (b + n)), (0, .ref (b + 0)), (1, .int a1)]) hx hb dX10_oddsBy_19 rfl hl (by decide) rfl (fun ls hl => ?_)
  refine lv_iconst (v := (0 : Int32)) hx hb dX10_oddsBy_20 (by decide) ?_
  refine lv_istore (lv' := [(4, .int 0), (3, .int 1), (2, .ref (b + n)), (0, .ref (b + 0)), (1, .int a1)]) hx hb dX10_oddsBy_21 hl (by decide) rfl (fun ls hl => ?_)
  refine lo_n (g := g) (u := u) (n := n) (N := n + 1) (rw := n) (a1 := a1) C0 hA k0 f0 k6 h6 ⟨Nat.le_of_ble_eq_true rfl, Nat.le_of_ble_eq_true rfl⟩ 6 0 1 (upd zO0 (u 6 14 &&& 7).toNatClampNeg 1) (cells := 0 + 1) (slots := 0 + 8) H locs ls h (by omega) (by omega) ⟨_, _, hW, hZ, fun r hlt => ⟨zal_n _ _ (by omega), ?_⟩, ⟨by omega, by omega⟩, zal_e _ _ _, ?_⟩ hS (lv_sub hl [0, 1, 2, 4, 3] rfl) (fun H locs ls N rw al i ways h hO hS hl => ?_)
  · rw [z_up_ne (by omega)]; exact if_neg (by omega)
  · rw [z_up_eq]; unfold zst; rw [if_pos rfl]
  · refine lv_iconst (v := (0 : Int32)) hx hb dX10_oddsBy_109 (by decide) ?_
    refine lv_istore (lv' := [(4, .int 0), (3, .int al), (2, .ref (b + rw)), (1, .int a1), (0, .ref (b + 0))]) hx hb dX10_oddsBy_110 hl (by decide) rfl (fun ls hl => ?_)
    refine lo_l C0 (fun H locs ls hO hS hl => ?_) 5000 0 ways H locs ls h hO hS (lv_sub hl [0, 1, 2] rfl)
    refine lv_aload_n hx hb dX10_oddsBy_143 rfl (lv_at hl 0 rfl) ?_
    obtain ⟨g1, u1, hW, hZ, hlow, hrw, hgw, huw⟩ := hO
    exact W.aret hx hb hr (Or.inr ⟨_, rfl⟩) (Or.inr ⟨_, rfl⟩) (fun t ht _ => ⟨rw, g1, u1, rfl, by rw [ht]; exact hW, hlow, hrw.1, ⟨hgw, huw⟩, hS.F ht⟩) hS.2.2 dX10_oddsBy_144 hlk
section ZCO
variable {p : Program} {l : Launch} {e : Env} {R : Room} {s : State} {m : MethodId} {args : Array Value} {below : List Frame} {meth : Method} {c : Code} {H : Heap} {locs : List Loc} {Q : State → Prop}
variable {cc : ByteArray} {pc nL n : Nat} {ls : Array Slot} {rest : List Value} {D : zD} {A : Nat → Prop} {b : Nat} {g : zG} {u : zU} {own : String} {a1 : Int32} {v : Nat → Int32}
theorem z_cO (C0 : z_C p c cc s m args RX10 D A) (hK2 : z_K2 s) (hml : c.maxLocals = nL) (hl : ls.size = nL) (hW : z_W D A b g u H) (hS : va_S A s.heap H locs) (hZ : H.size = b + n) (hA : ∀ q : Nat, s.heap.size ≤ q → A q) (hM : z_MO l D A b g n a1 u v) (hg : (g 0).1 = 13)
    (hR : 1 ≤ R.frames ∧ 50 ≤ R.locals) (hRc : 7 ≤ R.cells ∧ 56 ≤ R.slots) (hw : (rest.map fun v => v.category).sum ≤ 8) (hdg : decode cc pc = .ok (.invokevirtual 346, 3))
    (kk : ∀ (H1 : Heap) (locs1 : List Loc) (r : Nat) (g1 : zG) (u1 : zU), z_W D A b g1 u1 H1 → va_S A s.heap H1 locs1 → (∀ r', r' < n → g1 r' = g r' ∧ u1 r' = u r') → n ≤ r → g1 r = (1, 8, zNo) → u1 r = v → W p l e R s m args below meth c H1 locs1 7 56 Q (F0 m (pc + 3) ls (.ref (b + r) :: rest))) : W p l e R s m args below meth c H locs 0 0 Q (F0 m pc ls (.int a1 :: .ref (b + 0) :: rest)) := by
  obtain ⟨hx, hb, hts, hown, hK⟩ := C0
  obtain ⟨hG, hd, T, N, hc⟩ := mv_X10_346
  obtain ⟨cell, q1, q2, q3, -⟩ := z_ob hW (ci := 9) hg
  obtain ⟨-, hfc, -⟩ := hK.1.1 9 _ hc
  have hr := va_runV (C := yX10_oddsBy.cls) (bytes := cX10_oddsBy) (maxL := 8) (ret := some (.array .int)) (n := 1) (b := b + 0) (As := [.int a1]) (rest := rest) (g := F0 m pc ls (.int a1 :: .ref (b + 0) :: rest)) (locs := locs) (cells := 0) (slots := 0) (H := H) (l := l) (e := e) (below := below) (meth := meth) ⟨hx, hb, hml, hown, hts⟩ hM (cwV 1 hts hG rfl rfl rfl ⟨rfl, hd⟩ ⟨show 0 + 1 ≤ R.frames by omega, show 8 + (8 + 11) + 20 ≤ R.locals by omega⟩) ⟨z_blindN, ⟨cell, q1, by rw [q3]; rfl, by rw [q2]; exact hfc⟩, fun U hU hW2 => ⟨⟨rfl, hK.at hW2 hU hS, by rw [hU]; exact hW⟩, hK2.at hW2, by rw [hU]; exact hZ, fun q hq => hA q (Nat.le_trans hS.1 (by rw [hU] at hq; exact hq))⟩⟩ rfl rfl hl rfl (lv_room hw) hdg ⟨by omega, by omega⟩
  intro T hT X
  obtain ⟨v', st₀, t, T', L, h0, X', hL, e1, e2, ⟨r, g1, u1, hv, hw1, hlow, hn, ⟨hgr, hur⟩, ⟨hz, hk⟩⟩, go⟩ := hr T hT X
  cases hv
  rw [h0] at hz hk
  obtain ⟨t2, a1, b1⟩ := kk T'.heap (locs ++ L) r g1 u1 (by rw [e1]; exact hw1) ⟨Nat.le_trans hS.1 (by rw [e1]; exact hz), fun q h1 h2 => by rw [e1, hk q (Nat.lt_of_lt_of_le h1 hS.1) h2]; exact hS.2.1 q h1 h2, fun q hq => by
      rcases List.mem_append.mp hq with h | h
      · exact hS.2.2 q h
      · exact hL q h⟩ hlow hn hgr hur T' rfl (by simpa using X')
  exact ⟨t2, go t2 a1, b1⟩
end ZCO
