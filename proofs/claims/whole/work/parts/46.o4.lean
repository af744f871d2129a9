section ZCG
variable {p : Program} {l : Launch} {e : Env} {R : Room} {s : State} {m : MethodId} {args : Array Value} {below : List Frame} {meth : Method} {c : Code} {H : Heap} {locs : List Loc} {cells slots : Nat} {Q : State → Prop}
variable {cc : ByteArray} {pc : Nat} {ls : Array Slot} {rest : List Value} {D : zD} {A : Nat → Prop} {b : Nat} {g : zG} {u u' : zU} {own : String} {st : List Value}
variable {y : MethodName} {cy : ByteArray} {maxL nL n index fr lo ci r0 : Nat} {ret : Option FieldType} {As : List Value} {v : Option Value}
/-- a call behind which rows were made already -/
theorem z_cvG (C0 : z_C p c cc s m args own D A) (hml : c.maxLocals = nL) (hl : ls.size = nL) (hW : z_W D A b g u H) (hS : va_S A s.heap H locs) (hM : z_M l D A b g y cy maxL ret fr lo (.ref (b + r0) :: As) u v u') (Y : z_YV own index y cy maxL ret ci n) (hg : (g r0).1 = ci + 4)
    (hR : fr + 1 ≤ R.frames ∧ 8 + (maxL + 11) + lo ≤ R.locals) (hRc : cells ≤ R.cells ∧ slots ≤ R.slots) (hst : st = As.reverse ++ .ref (b + r0) :: rest) (hn : As.length = n) (hw : (rest.map fun v => v.category).sum ≤ 8) (hdg : decode cc pc = .ok (.invokevirtual index, 3))
    (kk : ∀ (H1 : Heap) (locs1 : List Loc), z_W D A b g u' H1 → va_S A s.heap H1 locs1 → W p l e R s m args below meth c H1 locs1 cells slots Q (F0 m (pc + 3) ls (v.toList ++ rest))) : W p l e R s m args below meth c H locs cells slots Q (F0 m pc ls st) := by
  obtain ⟨hx, hb, hts, hown, hK⟩ := C0
  obtain ⟨hG, hd, T, N, hc⟩ := Y
  obtain ⟨cell, q1, q2, q3, -⟩ := z_ob hW hg
  obtain ⟨-, hfc, -⟩ := hK.1.1 ci _ hc
  have hr := va_runV (C := y.cls) (bytes := cy) (maxL := maxL) (ret := ret) (n := n) (g := F0 m pc ls st) (rest := rest) (locs := locs) (cells := cells) (slots := slots) (H := H) (e := e) (below := below) (meth := meth) ⟨hx, hb, hml, hown, hts⟩ hM (cwV n hts hG rfl rfl rfl ⟨rfl, hd⟩ hR) ⟨z_blind, ⟨cell, q1, by rw [q3]; rfl, by rw [q2]; exact hfc⟩, fun U hU hW2 => ⟨rfl, hK.at hW2 hU hS, by rw [hU]; exact hW⟩⟩ rfl hn hl hst (lv_room hw) hdg ⟨by omega, by omega⟩
  intro T hT X
  obtain ⟨v', st₀, t, T', L, h0, X', hL, e1, e2, ⟨hv, hw, hz, hk⟩, go⟩ := hr T hT X
  cases hv
  rw [h0] at hz hk
  obtain ⟨t2, a1, b1⟩ := kk T'.heap (locs ++ L) (by rw [e1]; exact hw) ⟨Nat.le_trans hS.1 (by rw [e1]; exact hz), fun q h1 h2 => by rw [e1, hk q (Nat.lt_of_lt_of_le h1 hS.1) h2]; exact hS.2.1 q h1 h2, fun q hq => by
      rcases List.mem_append.mp hq with h | h
      · exact hS.2.2 q h
      · exact hL q h⟩ T' rfl X'
  exact ⟨t2, go t2 a1, b1⟩
end ZCG
theorem f_needNumber_eq {q q' : zq} {a0 a1 a2 : Int32} {u u' : zU} {w : Unit} (h : f_X10_needNumber q a0 a1 a2 u = some (.inr w, q', u')) : q = q' ∧ u = u' := by
  unfold f_X10_needNumber at h
  split at h
  · cases h
  · split at h
    · cases h; exact ⟨rfl, rfl⟩
    · cases h
theorem f_needParty_eq {q q' : zq} {a0 : Int32} {u u' : zU} {w : Unit} (h : f_X10_needParty q a0 u = some (.inr w, q', u')) : q = q' ∧ u = u' := by
  unfold f_X10_needParty at h
  split at h
  · cases h
  · split at h
    · cases h; exact ⟨rfl, rfl⟩
    · cases h
def f_best (op : Int32 → Bool) (v : Nat → Int32) : Nat → Int32 → Int32 → Option Int32
  | 0, _, _ => none
  | k + 1, fo, c => if 8 ≤ c then some fo else if op c = true then (if fo = -1 then f_best op v k c (c + 1) else if z_in c 8 = true ∧ z_in fo 8 = true then (if v c.toNatClampNeg ≤ v fo.toNatClampNeg then f_best op v k fo (c + 1) else f_best op v k c (c + 1)) else none) else f_best op v k fo (c + 1)
def f_X10_best (op : Int32 → Bool) (q : zq) (a1 : Int32) (u : zU) : Option ((String ⊕ Int32) × zq × zU) :=
  z_bx (f_X10_needNumber q a1 1 5 u) (fun _ q1 u1 => (f_X10_oddsBy a1 u1).bind (fun v => (f_best op v 5000 (-1) 0).bind (fun r => some (.inr r, q1, u1))))
def f_rules (fi : Int32 → Int32) (sd : Nat → Int32) (a1 : Int32) (v : Nat → Int32) : Nat → Int32 → Int32 → Option Int32
  | 0, _, _ => none
  | k + 1, sm, c => if 8 ≤ c then some sm else if fi c = -1 then f_rules fi sd a1 v k sm (c + 1) else if z_in (fi c) 8 = true ∧ z_in c 8 = true then (if sd (fi c).toNatClampNeg = a1 then f_rules fi sd a1 v k (sm + v c.toNatClampNeg) (c + 1) else f_rules fi sd a1 v k sm (c + 1)) else none
def f_X10_rules (fi : Int32 → Int32) (q : zq) (a1 a2 : Int32) (u : zU) : Option ((String ⊕ Int32) × zq × zU) :=
  z_bx (f_X10_needParty q a1 u) (fun _ q1 u1 => z_bx (f_X10_needNumber q1 a2 1 5 u1) (fun _ q2 u2 => (f_X10_oddsBy a2 u2).bind (fun v => (f_rules fi (u2 10) a1 v 5000 0 0).bind (fun r => some (.inr r, q2, u2)))))
section ZBL
variable {p : Program} {l : Launch} {e : Env} {R : Room} {s : State} {m : MethodId} {args : Array Value} {below : List Frame} {meth : Method} {c : Code} {Q : State → Prop}
variable {D : zD} {A : Nat → Prop} {b : Nat} {g1 : zG} {u1 : zU}
theorem lo_best {op : Int32 → Bool} {r : Nat} {L : Nat → Nat} {a1 : Int32} {v : Nat → Int32} {res : Int32} (C0 : z_C p c cX10_best s m args RX10 D A) (hml : c.maxLocals = 5) (hR : 3 ≤ R.frames ∧ 60 ≤ R.locals) (hRc : 7 ≤ R.cells ∧ 56 ≤ R.slots) (k0 : (g1 0).1 = 13) (f0 : (g1 0).2.2 2 = some 6) (hw : zWh g1 6 L) (hop : ∀ c, f_X9_isOpen 6 L c u1 = some (op c)) (hgr : g1 r = (1, 8, zNo)) (hur : u1 r = v)
    (kk : ∀ (H1 : Heap) (locs1 : List Loc) (ls1 : Array Slot), z_W D A b g1 u1 H1 → va_S A s.heap H1 locs1 → lv_has ls1 5 [(3, .int res)] → W p l e R s m args below meth c H1 locs1 7 56 Q (F0 m 60 ls1 [])) : ∀ (k : Nat) (fo cv : Int32) (H : Heap) (locs : List Loc) (ls : Array Slot), f_best op v k fo cv = some res → z_W D A b g1 u1 H → va_S A s.heap H locs →
    lv_has ls 5 [(4, .int cv), (3, .int fo), (2, .ref (b + r)), (0, .ref (b + 0)), (1, .int a1)] →
    W p l e R s m args below meth c H locs 7 56 Q (F0 m 17 ls []) := by
  intro k
  induction k with
  | zero => intro fo cv H locs ls h; cases h
  | succ k ih =>
    intro fo cv H locs ls h hW hS hl
    have hx := C0.1
    have hb := C0.2.1
    unfold f_best at h
    refine lv_iload hx hb dX10_best_17 (lv_at hl 0 rfl) ?_
    refine lv_bipush (v := (8 : Int32)) hx hb dX10_best_19 (by decide) ?_
    refine lv_icmp_ge (tgt := 60) hx hb dX10_best_21 (by decide) (fun hc => ?_) (fun hc => ?_)
    · rw [if_pos hc] at h
      cases h
      exact kk H locs ls hW hS (lv_sub hl [1] rfl)
    · rw [if_neg hc] at h
      refine lv_aload_n hx hb dX10_best_24 rfl (lv_at hl 3 rfl) ?_
      refine z_getr (o := 6) C0 hW fl_X10_28 k0 rfl f0 dX10_best_25 ?_
      refine lv_iload hx hb dX10_best_28 (lv_at hl 0 rfl) ?_
      refine z_cvG (v := some (.int (bI (op cv)))) (As := [.int cv]) (rest := []) C0 hml hl.1 hW hS (c_X9_isOpen l D A b g1 6 L hw cv u1 (hop cv)) mv_X10_227 hw.1 ⟨by omega, by omega⟩ hRc rfl rfl (Nat.le_of_ble_eq_true rfl) dX10_best_30 (fun H locs hW hS => ?_)
      show W p l e R s m args below meth c H locs 7 56 Q (F0 m 33 ls [.int (bI (op cv))])
      have next : ∀ (fo' : Int32) (H : Heap) (locs : List Loc) (ls : Array Slot), f_best op v k fo' (cv + 1) = some res → z_W D A b g1 u1 H → va_S A s.heap H locs → lv_has ls 5 [(4, .int cv), (3, .int fo'), (2, .ref (b + r)), (0, .ref (b + 0)), (1, .int a1)] → W p l e R s m args below meth c H locs 7 56 Q (F0 m 54 ls []) := by
        intro fo' H locs ls h hW hS hl
        refine lv_iinc (v := cv + 1) (lv' := [(4, .int (cv + 1)), (3, .int fo'), (2, .ref (b + r)), (0, .ref (b + 0)), (1, .int a1)]) hx hb dX10_best_54 hl (k := 0) rfl rfl (by decide) rfl (fun ls hl => ?_)
        refine lv_goto (tgt := 17) hx hb dX10_best_57 (by decide) ?_
        exact ih fo' (cv + 1) H locs ls h hW hS hl
      have take : f_best op v k cv (cv + 1) = some res → W p l e R s m args below meth c H locs 7 56 Q (F0 m 51 ls []) := by
        intro h
        refine lv_iload hx hb dX10_best_51 (lv_at hl 0 rfl) ?_
        refine lv_istore_n (lv' := [(3, .int cv), (4, .int cv), (2, .ref (b + r)), (0, .ref (b + 0)), (1, .int a1)]) hx hb dX10_best_53 rfl hl (by decide) rfl (fun ls hl => ?_)
        exact next cv H locs ls h hW hS (lv_sub hl [1, 0, 2, 3, 4] rfl)
      refine lv_if_eq (tgt := 54) hx hb dX10_best_33 (by decide) (fun hd => ?_) (fun hd => ?_)
      · rw [bI_0] at hd
        rw [hd, if_neg (by decide)] at h
        exact next fo H locs ls h hW hS hl
      · rw [bI_1] at hd
        rw [if_pos hd] at h
        refine lv_iload_n hx hb dX10_best_36 rfl (lv_at hl 1 rfl) ?_
        refine lv_iconst (v := (-1 : Int32)) hx hb dX10_best_37 (by decide) ?_
        refine lv_icmp_eq (tgt := 51) hx hb dX10_best_38 (by decide) (fun he => ?_) (fun he => ?_)
        · rw [if_pos he] at h
          exact take h
        · rw [if_neg he] at h
          replace h := z_if h
          obtain ⟨⟨hi1, hi2⟩, h⟩ := h
          refine lv_aload_n hx hb dX10_best_41 rfl (lv_at hl 2 rfl) ?_
          refine lv_iload hx hb dX10_best_42 (lv_at hl 0 rfl) ?_
          refine z_iald (n := 8) C0 hW (zk1 hgr) (zk2 hgr) hi1 rfl dX10_best_44 ?_
          refine lv_aload_n hx hb dX10_best_45 rfl (lv_at hl 2 rfl) ?_
          refine lv_iload_n hx hb dX10_best_46 rfl (lv_at hl 1 rfl) ?_
          refine z_iald (n := 8) C0 hW (zk1 hgr) (zk2 hgr) hi2 rfl dX10_best_47 ?_
          rw [hur]
          refine lv_icmp_le (tgt := 54) hx hb dX10_best_48 (by decide) (fun hf => ?_) (fun hf => ?_)
          · rw [if_pos hf] at h
            exact next fo H locs ls h hW hS hl
          · rw [if_neg hf] at h
            exact take h
theorem lo_rules {fi : Int32 → Int32} {r : Nat} {L : Nat → Nat} {a1 a2 : Int32} {v : Nat → Int32} {res : Int32} (C0 : z_C p c cX10_rules s m args RX10 D A) (hml : c.maxLocals = 7) (hR : 3 ≤ R.frames ∧ 60 ≤ R.locals) (hRc : 7 ≤ R.cells ∧ 56 ≤ R.slots) (k0 : (g1 0).1 = 13) (f0 : (g1 0).2.2 2 = some 6) (hw : zWh g1 6 L) (hfi : ∀ c, f_X9_firstIn 6 L c u1 = some (fi c)) (hgr : g1 r = (1, 8, zNo)) (hur : u1 r = v)
    (kk : ∀ (H1 : Heap) (locs1 : List Loc) (ls1 : Array Slot), z_W D A b g1 u1 H1 → va_S A s.heap H1 locs1 → lv_has ls1 7 [(4, .int res)] → W p l e R s m args below meth c H1 locs1 7 56 Q (F0 m 75 ls1 [])) : ∀ (k : Nat) (sm cv : Int32) (H : Heap) (locs : List Loc) (ls : Array Slot), f_rules fi (u1 10) a1 v k sm cv = some res → z_W D A b g1 u1 H → va_S A s.heap H locs →
    lv_has ls 7 [(5, .int cv), (4, .int sm), (3, .ref (b + r)), (0, .ref (b + 0)), (1, .int a1), (2, .int a2)] →
    W p l e R s m args below meth c H locs 7 56 Q (F0 m 22 ls []) := by
  intro k
  induction k with
  | zero => intro sm cv H locs ls h; cases h
  | succ k ih =>
    intro sm cv H locs ls h hW hS hl
    have hx := C0.1
    have hb := C0.2.1
    unfold f_rules at h
    refine lv_iload hx hb dX10_rules_22 (lv_at hl 0 rfl) ?_
    refine lv_bipush (v := (8 : Int32)) hx hb dX10_rules_24 (by decide) ?_
    refine lv_icmp_ge (tgt := 75) hx hb dX10_rules_26 (by decide) (fun hc => ?_) (fun hc => ?_)
    · rw [if_pos hc] at h
      cases h
      exact kk H locs ls hW hS (lv_sub hl [1] rfl)
    · rw [if_neg hc] at h
      refine lv_aload_n hx hb dX10_rules_29 rfl (lv_at hl 3 rfl) ?_
      refine z_getr (o := 6) C0 hW fl_X10_28 k0 rfl f0 dX10_rules_30 ?_
      refine lv_iload hx hb dX10_rules_33 (lv_at hl 0 rfl) ?_
      refine z_cvG (v := some (.int (fi cv))) (As := [.int cv]) (rest := []) C0 hml hl.1 hW hS (c_X9_firstIn l D A b g1 6 L hw cv u1 (hfi cv)) mv_X10_214 hw.1 ⟨by omega, by omega⟩ hRc rfl rfl (Nat.le_of_ble_eq_true rfl) dX10_rules_35 (fun H locs hW hS => ?_)
      show W p l e R s m args below meth c H locs 7 56 Q (F0 m 38 ls [.int (fi cv)])
      refine lv_istore (lv' := [(6, .int (fi cv)), (5, .int cv), (4, .int sm), (3, .ref (b + r)), (0, .ref (b + 0)), (1, .int a1), (2, .int a2)]) hx hb dX10_rules_38 hl (by decide) rfl (fun ls hl => ?_)
      have next : ∀ (sm' : Int32) (H : Heap) (locs : List Loc) (ls : Array Slot), f_rules fi (u1 10) a1 v k sm' (cv + 1) = some res → z_W D A b g1 u1 H → va_S A s.heap H locs → lv_has ls 7 [(5, .int cv), (4, .int sm'), (3, .ref (b + r)), (0, .ref (b + 0)), (1, .int a1), (2, .int a2)] → W p l e R s m args below meth c H locs 7 56 Q (F0 m 69 ls []) := by
        intro sm' H locs ls h hW hS hl
        refine lv_iinc (v := cv + 1) (lv' := [(5, .int (cv + 1)), (4, .int sm'), (3, .ref (b + r)), (0, .ref (b + 0)), (1, .int a1), (2, .int a2)]) hx hb dX10_rules_69 hl (k := 0) rfl rfl (by decide) rfl (fun ls hl => ?_)
        refine lv_goto (tgt := 22) hx hb dX10_rules_72 (by decide) ?_
        exact ih sm' (cv + 1) H locs ls h hW hS hl
      refine lv_iload hx hb dX10_rules_40 (lv_at hl 0 rfl) ?_
      refine lv_iconst (v := (-1 : Int32)) hx hb dX10_rules_42 (by decide) ?_
      refine lv_icmp_eq (tgt := 69) hx hb dX10_rules_43 (by decide) (fun he => ?_) (fun he => ?_)
      · rw [if_pos he] at h
        exact next sm H locs ls h hW hS (lv_sub hl [1, 2, 3, 4, 5, 6] rfl)
      · rw [if_neg he] at h
        replace h := z_if h
        obtain ⟨⟨hi1, hi2⟩, h⟩ := h
        refine lv_aload_n hx hb dX10_rules_46 rfl (lv_at hl 4 rfl) ?_
        refine z_getr (o := 6) C0 hW fl_X10_28 k0 rfl f0 dX10_rules_47 ?_
        refine z_getr (o := 10) C0 hW fl_X10_149 hw.1 rfl (hw.2.1 3 (by decide)).1 dX10_rules_50 ?_
        refine lv_iload hx hb dX10_rules_53 (lv_at hl 0 rfl) ?_
        refine z_iald (n := 8) C0 hW (hw.2.1 3 (by decide)).2.1 (hw.2.1 3 (by decide)).2.2 hi1 rfl dX10_rules_55 ?_
        refine lv_iload_n hx hb dX10_rules_56 rfl (lv_at hl 5 rfl) ?_
        refine lv_icmp_ne (tgt := 69) hx hb dX10_rules_57 (by decide) (fun hf => ?_) (fun hf => ?_)
        · rw [if_neg hf] at h
          exact next sm H locs ls h hW hS (lv_sub hl [1, 2, 3, 4, 5, 6] rfl)
        · rw [if_pos hf] at h
          refine lv_iload hx hb dX10_rules_60 (lv_at hl 2 rfl) ?_
          refine lv_aload_n hx hb dX10_rules_62 rfl (lv_at hl 3 rfl) ?_
          refine lv_iload hx hb dX10_rules_63 (lv_at hl 1 rfl) ?_
          refine z_iald (n := 8) C0 hW (zk1 hgr) (zk2 hgr) hi2 rfl dX10_rules_65 ?_
          rw [hur]
          refine lv_iadd hx hb dX10_rules_66 ?_
          refine lv_istore (lv' := [(4, .int (sm + v cv.toNatClampNeg)), (6, .int (fi cv)), (5, .int cv), (3, .ref (b + r)), (0, .ref (b + 0)), (1, .int a1), (2, .int a2)]) hx hb dX10_rules_67 hl (by decide) rfl (fun ls hl => ?_)
          exact next _ H locs ls h hW hS (lv_sub hl [2, 0, 3, 4, 5, 6] rfl)
end ZBL
