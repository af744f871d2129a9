/-! oddsBy(): rows that are made anew; what it answers hangs on the top and the reach alone -/
def od_in (ways : Nat → Int32) (reach c : Int32) : Nat → Int32 → (Nat → Int32) → Option (Nat → Int32)
  | 0, _, _ => none
  | k + 1, s, next => if reach < s then some next else if z_in ((c + s) &&& 7) 8 = true ∧ z_in c 8 = true then od_in ways reach c k (s + 1) (upd next ((c + s) &&& 7).toNatClampNeg (next ((c + s) &&& 7).toNatClampNeg + ways c.toNatClampNeg)) else none
def od_c (ways : Nat → Int32) (reach : Int32) : Nat → Int32 → (Nat → Int32) → Option (Nat → Int32)
  | 0, _, _ => none
  | k + 1, c, next => if 8 ≤ c then some next else (od_in ways reach c 5000 1 next).bind (fun x => od_c ways reach k (c + 1) x)
def od_n (a1 reach : Int32) : Nat → Int32 → Int32 → (Nat → Int32) → Option (Int32 × (Nat → Int32))
  | 0, _, _, _ => none
  | k + 1, i, al, ways => if a1 ≤ i then some (al, ways) else (od_c ways reach 5000 0 zO0).bind (fun x => od_n a1 reach k (i + 1) (al * reach) x)
def od_l (al : Int32) : Nat → Int32 → (Nat → Int32) → Option (Nat → Int32)
  | 0, _, _ => none
  | k + 1, c, ways => if 8 ≤ c then some ways else if al ≤ 0 then some ways else if z_in c 8 = true ∧ ¬ al = 0 then od_l al k (c + 1) (upd ways c.toNatClampNeg (ways c.toNatClampNeg * 10000 / al)) else none
def f_X10_oddsBy (a1 : Int32) (u : zU) : Option (Nat → Int32) :=
  if z_in (u 6 14 &&& 7) 8 = true then (od_n a1 (u 6 12) 6 0 1 (upd zO0 (u 6 14 &&& 7).toNatClampNeg 1)).bind (fun x => od_l x.1 5000 0 x.2) else none
/-- the world g, u with rows beside it: rw (ways), and the newest N - 1 -/
def zOW (D : zD) (A : Nat → Prop) (b : Nat) (g : zG) (u : zU) (n N rw : Nat) (ways : Nat → Int32) (H : Heap) : Prop := ∃ (g1 : zG) (u1 : zU), z_W D A b g1 u1 H ∧ H.size = b + N ∧ (∀ r, r < n → g1 r = g r ∧ u1 r = u r) ∧ (n ≤ rw ∧ rw < N) ∧ g1 rw = (1, 8, zNo) ∧ u1 rw = ways
def zOX (D : zD) (A : Nat → Prop) (b : Nat) (g : zG) (u : zU) (n rn rw : Nat) (ways next : Nat → Int32) (H : Heap) : Prop := ∃ (g1 : zG) (u1 : zU), z_W D A b g1 u1 H ∧ H.size = b + (rn + 1) ∧ (∀ r, r < n → g1 r = g r ∧ u1 r = u r) ∧ (n ≤ rw ∧ rw < rn) ∧ (g1 rw = (1, 8, zNo) ∧ u1 rw = ways) ∧ g1 rn = (1, 8, zNo) ∧ u1 rn = next
section ZOD
variable {p : Program} {l : Launch} {e : Env} {R : Room} {s : State} {m : MethodId} {args : Array Value} {below : List Frame} {meth : Method} {c : Code} {Q : State → Prop}
variable {D : zD} {A : Nat → Prop} {b : Nat} {g : zG} {u : zU} {n : Nat}
theorem lo_in {cells slots rn rw : Nat} {ways : Nat → Int32} {cv i al a1 : Int32} (C0 : z_C p c cX10_oddsBy s m args RX10 D A) (k0 : (g 0).1 = 13) (f0 : (g 0).2.2 2 = some 6) (k6 : (g 6).1 = 12) (h6 : 6 < n) : ∀ (k : Nat) (sv : Int32) (next next' : Nat → Int32) (H : Heap) (locs : List Loc) (ls : Array Slot), od_in ways (u 6 12) cv k sv next = some next' → zOX D A b g u n rn rw ways next H → va_S A s.heap H locs →
    lv_has ls 8 [(7, .int sv), (6, .int cv), (5, .ref (b + rn)), (4, .int i), (3, .int al), (2, .ref (b + rw)), (1, .int a1), (0, .ref (b + 0))] →
    (∀ (H1 : Heap) (locs1 : List Loc) (ls1 : Array Slot), zOX D A b g u n rn rw ways next' H1 → va_S A s.heap H1 locs1 → lv_has ls1 8 [(6, .int cv), (5, .ref (b + rn)), (4, .int i), (3, .int al), (2, .ref (b + rw)), (1, .int a1), (0, .ref (b + 0))] → W p l e R s m args below meth c H1 locs1 cells slots Q (F0 m 84 ls1 [])) →
    W p l e R s m args below meth c H locs cells slots Q (F0 m 48 ls []) := by
  intro k
  induction k with
  | zero => intro sv next next' H locs ls h; cases h
  | succ k ih =>
    intro sv next next' H locs ls h hO hS hl kk
    have hx := C0.1
    have hb := C0.2.1
    unfold od_in at h
    obtain ⟨g1, u1, hW, hZ, hlow, hr, ⟨hgw, huw⟩, hgn, hun⟩ := hO
    have e0 := hlow 0 (by omega)
    have e6 := hlow 6 h6
    refine lv_iload hx hb dX10_oddsBy_48 (lv_at hl 0 rfl) ?_
    refine lv_aload_n hx hb dX10_oddsBy_50 rfl (lv_at hl 7 rfl) ?_
    refine z_getr (o := 6) C0 hW fl_X10_28 (by rw [e0.1]; exact k0) rfl (by rw [e0.1]; exact f0) dX10_oddsBy_51 ?_
    refine z_geti C0 hW fl_X10_242 (by rw [e6.1]; exact k6) rfl dX10_oddsBy_54 ?_
    rw [e6.2]
    refine lv_icmp_gt (tgt := 84) hx hb dX10_oddsBy_57 (by decide) (fun hc => ?_) (fun hc => ?_)
    · rw [if_pos hc] at h
      cases h
      exact kk H locs ls ⟨g1, u1, hW, hZ, hlow, hr, ⟨hgw, huw⟩, hgn, hun⟩ hS (lv_sub hl [1, 2, 3, 4, 5, 6, 7] rfl)
    · rw [if_neg hc] at h
      replace h := z_if h
      obtain ⟨⟨hi1, hi2⟩, h⟩ := h
      refine lv_aload hx hb dX10_oddsBy_60 (lv_at hl 2 rfl) ?_
      refine lv_iload hx hb dX10_oddsBy_62 (lv_at hl 1 rfl) ?_
      refine lv_iload hx hb dX10_oddsBy_64 (lv_at hl 0 rfl) ?_
      refine lv_iadd hx hb dX10_oddsBy_66 ?_
      refine lv_bipush (v := (7 : Int32)) hx hb dX10_oddsBy_67 (by decide) ?_
      refine lv_iand hx hb dX10_oddsBy_69 ?_
      refine lv_dup2_11 hx hb dX10_oddsBy_70 rfl rfl ?_
      refine z_iald (n := 8) C0 hW (zk1 hgn) (zk2 hgn) hi1 rfl dX10_oddsBy_71 ?_
      refine lv_aload_n hx hb dX10_oddsBy_72 rfl (lv_at hl 5 rfl) ?_
      refine lv_iload hx hb dX10_oddsBy_73 (lv_at hl 1 rfl) ?_
      refine z_iald (n := 8) C0 hW (zk1 hgw) (zk2 hgw) hi2 rfl dX10_oddsBy_75 ?_
      refine lv_iadd hx hb dX10_oddsBy_76 ?_
      refine z_iastN (N := 8) C0 hW hS hZ (zk1 hgn) (zk2 hgn) hi1 rfl dX10_oddsBy_77 (fun H locs hW hS hZ => ?_)
      refine lv_iinc (v := sv + 1) (lv' := [(7, .int (sv + 1)), (6, .int cv), (5, .ref (b + rn)), (4, .int i), (3, .int al), (2, .ref (b + rw)), (1, .int a1), (0, .ref (b + 0))]) hx hb dX10_oddsBy_78 hl (k := 0) rfl rfl (by decide) rfl (fun ls hl => ?_)
      refine lv_goto (tgt := 48) hx hb dX10_oddsBy_81 (by decide) ?_
      refine ih _ _ _ H locs ls h ⟨g1, _, hW, hZ, fun r hlt => ?_, hr, ⟨hgw, ?_⟩, hgn, ?_⟩ hS hl kk
      · exact ⟨(hlow r hlt).1, by rw [z_up_ne (by omega)]; exact (hlow r hlt).2⟩
      · rw [z_up_ne (by omega)]; exact huw
      · rw [z_up_eq, hun, huw]
theorem lo_c {cells slots rn rw : Nat} {ways : Nat → Int32} {i al a1 : Int32} (C0 : z_C p c cX10_oddsBy s m args RX10 D A) (k0 : (g 0).1 = 13) (f0 : (g 0).2.2 2 = some 6) (k6 : (g 6).1 = 12) (h6 : 6 < n) : ∀ (k : Nat) (cv : Int32) (next next' : Nat → Int32) (H : Heap) (locs : List Loc) (ls : Array Slot), od_c ways (u 6 12) k cv next = some next' → zOX D A b g u n rn rw ways next H → va_S A s.heap H locs →
    lv_has ls 8 [(6, .int cv), (5, .ref (b + rn)), (4, .int i), (3, .int al), (2, .ref (b + rw)), (1, .int a1), (0, .ref (b + 0))] →
    (∀ (H1 : Heap) (locs1 : List Loc) (ls1 : Array Slot), zOX D A b g u n rn rw ways next' H1 → va_S A s.heap H1 locs1 → lv_has ls1 8 [(5, .ref (b + rn)), (4, .int i), (3, .int al), (2, .ref (b + rw)), (1, .int a1), (0, .ref (b + 0))] → W p l e R s m args below meth c H1 locs1 cells slots Q (F0 m 90 ls1 [])) →
    W p l e R s m args below meth c H locs cells slots Q (F0 m 38 ls []) := by
  intro k
  induction k with
  | zero => intro cv next next' H locs ls h; cases h
  | succ k ih =>
    intro cv next next' H locs ls h hO hS hl kk
    have hx := C0.1
    have hb := C0.2.1
    unfold od_c at h
    refine lv_iload hx hb dX10_oddsBy_38 (lv_at hl 0 rfl) ?_
    refine lv_bipush (v := (8 : Int32)) hx hb dX10_oddsBy_40 (by decide) ?_
    refine lv_icmp_ge (tgt := 90) hx hb dX10_oddsBy_42 (by decide) (fun hc => ?_) (fun hc => ?_)
    · rw [if_pos hc] at h
      cases h
      exact kk H locs ls hO hS (lv_sub hl [1, 2, 3, 4, 5, 6] rfl)
    · rw [if_neg hc] at h
      replace h := z_bd h
      obtain ⟨x, hq, h⟩ := h
      refine lv_iconst (v := (1 : Int32)) hx hb dX10_oddsBy_45 (by decide) ?_
      refine lv_istore (lv' := [(7, .int 1), (6, .int cv), (5, .ref (b + rn)), (4, .int i), (3, .int al), (2, .ref (b + rw)), (1, .int a1), (0, .ref (b + 0))]) hx hb dX10_oddsBy_46 hl (by decide) rfl (fun ls hl => ?_)
      refine lo_in C0 k0 f0 k6 h6 5000 1 next x H locs ls hq hO hS hl (fun H locs ls hO hS hl => ?_)
      refine lv_iinc (v := cv + 1) (lv' := [(6, .int (cv + 1)), (5, .ref (b + rn)), (4, .int i), (3, .int al), (2, .ref (b + rw)), (1, .int a1), (0, .ref (b + 0))]) hx hb dX10_oddsBy_84 hl (k := 0) rfl rfl (by decide) rfl (fun ls hl => ?_)
      refine lv_goto (tgt := 38) hx hb dX10_oddsBy_87 (by decide) ?_
      exact ih _ _ _ H locs ls h hO hS hl kk
theorem lo_n {a1 : Int32} (C0 : z_C p c cX10_oddsBy s m args RX10 D A) (hA : ∀ q : Nat, s.heap.size ≤ q → A q) (k0 : (g 0).1 = 13) (f0 : (g 0).2.2 2 = some 6) (k6 : (g 6).1 = 12) (h6 : 6 < n) (hRc : 7 ≤ R.cells ∧ 56 ≤ R.slots) {res : Nat → Int32} : ∀ (k : Nat) (i al : Int32) (ways : Nat → Int32) (N rw cells slots : Nat) (H : Heap) (locs : List Loc) (ls : Array Slot), (od_n a1 (u 6 12) k i al ways).bind (fun x => od_l x.1 5000 0 x.2) = some res → cells + k ≤ 7 → slots + 8 * k ≤ 56 → zOW D A b g u n N rw ways H → va_S A s.heap H locs →
    lv_has ls 8 [(4, .int i), (3, .int al), (2, .ref (b + rw)), (1, .int a1), (0, .ref (b + 0))] → (∀ (H1 : Heap) (locs1 : List Loc) (ls1 : Array Slot) (N rw : Nat) (al i : Int32) (ways : Nat → Int32), od_l al 5000 0 ways = some res → zOW D A b g u n N rw ways H1 → va_S A s.heap H1 locs1 → lv_has ls1 8 [(4, .int i), (3, .int al), (2, .ref (b + rw)), (1, .int a1), (0, .ref (b + 0))] → W p l e R s m args below meth c H1 locs1 7 56 Q (F0 m 109 ls1 [])) →
    W p l e R s m args below meth c H locs cells slots Q (F0 m 23 ls []) := by
  intro k
  induction k with
  | zero => intro i al ways N rw cells slots H locs ls h; cases h
  | succ k ih =>
    intro i al ways N rw cells slots H locs ls h hc0 hs0 hO hS hl kk2
    have hx := C0.1
    have hb := C0.2.1
    unfold od_n at h
    refine lv_iload hx hb dX10_oddsBy_23 (lv_at hl 0 rfl) ?_
    refine lv_iload_n hx hb dX10_oddsBy_25 rfl (lv_at hl 3 rfl) ?_
    refine lv_icmp_ge (tgt := 109) hx hb dX10_oddsBy_26 (by decide) (fun hc => ?_) (fun hc => ?_)
    · rw [if_pos hc, Option.bind_some] at h
      refine W.widen (k := 7) (n := 56) (by omega) (by omega) ?_
      exact kk2 H locs ls N rw al i ways h hO hS hl
    · rw [if_neg hc, Option.bind_assoc] at h
      replace h := z_bd h
      obtain ⟨x, hq, h⟩ := h
      refine lv_bipush (v := (8 : Int32)) hx hb dX10_oddsBy_29 (by decide) ?_
      obtain ⟨g1, u1, hW, hZ, hlow, hr, hgw, huw⟩ := hO
      refine z_newI (N := 8) C0 hW hS hA hZ w_ai ⟨by decide, by decide, by decide⟩ ⟨by omega, by omega⟩ dX10_oddsBy_31 (fun H hW hS hZ => ?_)
      refine lv_astore (lv' := [(5, .ref (b + N)), (4, .int i), (3, .int al), (2, .ref (b + rw)), (1, .int a1), (0, .ref (b + 0))]) hx hb dX10_oddsBy_33 hl (by decide) rfl (fun ls hl => ?_)
      refine lv_iconst (v := (0 : Int32)) hx hb dX10_oddsBy_35 (by decide) ?_
      refine lv_istore (lv' := [(6, .int 0), (5, .ref (b + N)), (4, .int i), (3, .int al), (2, .ref (b + rw)), (1, .int a1), (0, .ref (b + 0))]) hx hb dX10_oddsBy_36 hl (by decide) rfl (fun ls hl => ?_)
      refine lo_c (rn := N) (rw := rw) (ways := ways) C0 k0 f0 k6 h6 5000 0 zO0 x H locs ls hq ⟨_, _, hW, hZ, fun r hlt => ?_, hr, ⟨?_, ?_⟩, zal_e _ _ _, ?_⟩ hS hl (fun H locs ls hO hS hl => ?_)
      · exact ⟨by rw [zal_n _ _ (by omega)]; exact (hlow r hlt).1, by unfold zst; rw [if_neg (by omega)]; exact (hlow r hlt).2⟩
      · rw [zal_n _ _ (by omega)]; exact hgw
      · unfold zst; rw [if_neg (by omega)]; exact huw
      · unfold zst; rw [if_pos rfl]
      · obtain ⟨g2, u2, hW, hZ, hlow, hr, -, hgn, hun⟩ := hO
        have e0 := hlow 0 (by omega)
        have e6 := hlow 6 h6
        refine lv_aload hx hb dX10_oddsBy_90 (lv_at hl 0 rfl) ?_
        refine lv_astore_n (lv' := [(2, .ref (b + N)), (5, .ref (b + N)), (4, .int i), (3, .int al), (1, .int a1), (0, .ref (b + 0))]) hx hb dX10_oddsBy_92 rfl hl (by decide) rfl (fun ls hl => ?_)
        refine lv_iload_n hx hb dX10_oddsBy_93 rfl (lv_at hl 3 rfl) ?_
        refine lv_aload_n hx hb dX10_oddsBy_94 rfl (lv_at hl 5 rfl) ?_
        refine z_getr (o := 6) C0 hW fl_X10_28 (by rw [e0.1]; exact k0) rfl (by rw [e0.1]; exact f0) dX10_oddsBy_95 ?_
        refine z_geti C0 hW fl_X10_242 (by rw [e6.1]; exact k6) rfl dX10_oddsBy_98 ?_
        rw [e6.2]
        refine lv_imul hx hb dX10_oddsBy_101 ?_
        refine lv_istore_n (lv' := [(3, .int (al * u 6 12)), (2, .ref (b + N)), (5, .ref (b + N)), (4, .int i), (1, .int a1), (0, .ref (b + 0))]) hx hb dX10_oddsBy_102 rfl hl (by decide) rfl (fun ls hl => ?_)
        refine lv_iinc (v := i + 1) (lv' := [(4, .int (i + 1)), (3, .int (al * u 6 12)), (2, .ref (b + N)), (5, .ref (b + N)), (1, .int a1), (0, .ref (b + 0))]) hx hb dX10_oddsBy_103 hl (k := 3) rfl rfl (by decide) rfl (fun ls hl => ?_)
        refine lv_goto (tgt := 23) hx hb dX10_oddsBy_106 (by decide) ?_
        exact ih _ _ x (N + 1) N (cells + 1) (slots + 8) H locs ls h (by omega) (by omega) ⟨g2, u2, hW, hZ, hlow, ⟨by omega, by omega⟩, hgn, hun⟩ hS (lv_sub hl [0, 1, 2, 4, 5] rfl) kk2
end ZOD
