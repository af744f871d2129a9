def f_X5_readAtom : Nat → Int32 → zU → Option (Int32 × zU)
  | 0, _, _ => none
  | n + 1, a1, u =>
    if (6 : Int32) ≤ a1 then (z_b2 (f_X8_takes 38 u) (fun t1 u2 => if t1 = true then (z_b2 (f_X5_node (1 : Int32) (7 : Int32) (-1 : Int32) u2) (fun r20 u21 => some (r20, u21))) else (z_b2 (f_X8_takes 39 u2) (fun t3 u4 => if t3 = true then (z_b2 (f_X5_node (1 : Int32) (8 : Int32) (-1 : Int32) u4) (fun r18 u19 => some (r18, u19))) else (z_b2 (f_X5_readSum u4) (fun r5 u6 => z_b2 (f_X8_takes 40 u6) (fun t7 u8 => if t7 = true then (z_b2 (f_X5_readSum u8) (fun r14 u15 => z_b2 (f_X5_node (3 : Int32) r5 r14 u15) (fun r16 u17 => some (r16, u17)))) else ((f_X8_must 41 u8).bind (fun u9 => z_b2 (f_X5_readSum u9) (fun r10 u11 => z_b2 (f_X5_node (4 : Int32) r5 r10 u11) (fun r12 u13 => some (r12, u13)))))))))))) else (z_b2 (f_X8_takes 35 u) (fun t22 u23 => if t22 = true then (z_b2 (f_X5_readAtom n (a1 + (1 : Int32)) u23) (fun r50 u51 => z_b2 (f_X5_node (5 : Int32) r50 (-1 : Int32) u51) (fun r52 u53 => some (r52, u53)))) else (z_b2 (f_X8_takes 36 u23) (fun t24 u25 => if t24 = true then (z_b2 (f_X5_readCondition (f_X5_readAtom n) (a1 + (1 : Int32)) u25) (fun r47 u48 => (f_X8_must 37 u48).bind (fun u49 => some (r47, u49)))) else (z_b2 (f_X8_takes 38 u25) (fun t26 u27 => if t26 = true then (z_b2 (f_X5_node (1 : Int32) (7 : Int32) (-1 : Int32) u27) (fun r45 u46 => some (r45, u46))) else (z_b2 (f_X8_takes 39 u27) (fun t28 u29 => if t28 = true then (z_b2 (f_X5_node (1 : Int32) (8 : Int32) (-1 : Int32) u29) (fun r43 u44 => some (r43, u44))) else (z_b2 (f_X5_readSum u29) (fun r30 u31 => z_b2 (f_X8_takes 40 u31) (fun t32 u33 => if t32 = true then (z_b2 (f_X5_readSum u33) (fun r39 u40 => z_b2 (f_X5_node (3 : Int32) r30 r39 u40) (fun r41 u42 => some (r41, u42)))) else ((f_X8_must 41 u33).bind (fun u34 => z_b2 (f_X5_readSum u34) (fun r35 u36 => z_b2 (f_X5_node (4 : Int32) r30 r35 u36) (fun r37 u38 => some (r37, u38))))))))))))))))
theorem f_X5_readAtom_e (n : Nat) (a1 : Int32) (u : zU) : f_X5_readAtom (n + 1) a1 u = if (6 : Int32) ≤ a1 then (z_b2 (f_X8_takes 38 u) (fun t1 u2 => if t1 = true then (z_b2 (f_X5_node (1 : Int32) (7 : Int32) (-1 : Int32) u2) (fun r20 u21 => some (r20, u21))) else (z_b2 (f_X8_takes 39 u2) (fun t3 u4 => if t3 = true then (z_b2 (f_X5_node (1 : Int32) (8 : Int32) (-1 : Int32) u4) (fun r18 u19 => some (r18, u19))) else (z_b2 (f_X5_readSum u4) (fun r5 u6 => z_b2 (f_X8_takes 40 u6) (fun t7 u8 => if t7 = true then (z_b2 (f_X5_readSum u8) (fun r14 u15 => z_b2 (f_X5_node (3 : Int32) r5 r14 u15) (fun r16 u17 => some (r16, u17)))) else ((f_X8_must 41 u8).bind (fun u9 => z_b2 (f_X5_readSum u9) (fun r10 u11 => z_b2 (f_X5_node (4 : Int32) r5 r10 u11) (fun r12 u13 => some (r12, u13)))))))))))) else (z_b2 (f_X8_takes 35 u) (fun t22 u23 => if t22 = true then (z_b2 (f_X5_readAtom n (a1 + (1 : Int32)) u23) (fun r50 u51 => z_b2 (f_X5_node (5 : Int32) r50 (-1 : Int32) u51) (fun r52 u53 => some (r52, u53)))) else (z_b2 (f_X8_takes 36 u23) (fun t24 u25 => if t24 = true then (z_b2 (f_X5_readCondition (f_X5_readAtom n) (a1 + (1 : Int32)) u25) (fun r47 u48 => (f_X8_must 37 u48).bind (fun u49 => some (r47, u49)))) else (z_b2 (f_X8_takes 38 u25) (fun t26 u27 => if t26 = true then (z_b2 (f_X5_node (1 : Int32) (7 : Int32) (-1 : Int32) u27) (fun r45 u46 => some (r45, u46))) else (z_b2 (f_X8_takes 39 u27) (fun t28 u29 => if t28 = true then (z_b2 (f_X5_node (1 : Int32) (8 : Int32) (-1 : Int32) u29) (fun r43 u44 => some (r43, u44))) else (z_b2 (f_X5_readSum u29) (fun r30 u31 => z_b2 (f_X8_takes 40 u31) (fun t32 u33 => if t32 = true then (z_b2 (f_X5_readSum u33) (fun r39 u40 => z_b2 (f_X5_node (3 : Int32) r30 r39 u40) (fun r41 u42 => some (r41, u42)))) else ((f_X8_must 41 u33).bind (fun u34 => z_b2 (f_X5_readSum u34) (fun r35 u36 => z_b2 (f_X5_node (4 : Int32) r30 r35 u36) (fun r37 u38 => some (r37, u38)))))))))))))))) := rfl
set_option maxRecDepth 100000 in
set_option maxHeartbeats 4000000 in
theorem c_X5_readAtom (l : Launch) (D : zD) (A : Nat → Prop) (b : Nat) (g : zG) (hs : zSt g) : ∀ (n : Nat) (a1 : Int32) (u : zU) (v : Int32) (u' : zU), f_X5_readAtom n a1 u = some (v, u') → z_M l D A b g yX5_readAtom cX5_readAtom 4 (some .int) (zFA n) (zLA n) [.ref (b + 29), .int a1] u (some (.int v)) u' := by
  intro n
  induction n with
  | zero => intro a1 u v u' h; cases h
  | succ n ih =>
    intro a1 u v u' h
    have hfr : 12 ≤ zFA n := by unfold zFA; omega
    have hlo : 400 ≤ zLA n := by unfold zLA; omega
    have eF : zFA (n + 1) = zFA n + 3 := by unfold zFA; omega
    have eL : zLA (n + 1) = zLA n + 100 := by unfold zLA; omega
    rw [eF, eL]
    refine z_enter (by decide) (Nat.le_of_ble_eq_true rfl) ?_
    intro p e s m below meth c ls C0 hr hml hlk hW hS hl
    have hl : lv_has ls 4 [(0, .ref (b + 29)), (1, .int a1)] := hl
    have hx := C0.1
    have hb := C0.2.1
    rw [f_X5_readAtom_e] at h
    refine lv_iload_n hx hb dX5_readAtom_0 rfl (lv_at hl 1 rfl) ?_
    refine lv_bipush (v := (6 : Int32)) hx hb dX5_readAtom_1 (by decide) ?_
    refine lv_icmp_ge (tgt := 10) hx hb dX5_readAtom_3 (by decide) (fun hc => ?_) (fun hc => ?_)
    · replace h := z_t h hc
      clear hc
      refine lv_iconst (v := (0 : Int32)) hx hb dX5_readAtom_10 (by decide) ?_
      refine lv_istore_n (lv' := [(2, .int (0 : Int32)), (0, .ref (b + 29)), (1, .int a1)]) hx hb dX5_readAtom_11 rfl hl (by decide) rfl (fun ls hl => ?_)
      refine lv_iload_n hx hb dX5_readAtom_12 rfl (lv_at hl 0 rfl) ?_
      refine lv_if_eq (tgt := 42) hx hb dX5_readAtom_13 (by decide) (fun hc => ?_) (fun hc => ?_)
      · clear hc
        refine lv_iload_n hx hb dX5_readAtom_42 rfl (lv_at hl 0 rfl) ?_
        refine lv_if_eq (tgt := 77) hx hb dX5_readAtom_43 (by decide) (fun hc => ?_) (fun hc => ?_)
        · clear hc
          refine lv_aload_n hx hb dX5_readAtom_77 rfl (lv_at hl 1 rfl) ?_
          refine z_getr (o := 3) C0 hW fl_X5_37 (zk1 (hs 29 (by decide))) rfl (zk3 (hs 29 (by decide)) 0) dX5_readAtom_78 ?_
          refine z_ldcS (k := 38) (tx := "rich") C0 (List.mem_of_getElem? (i := 38) rfl) dX5_readAtom_81 ?_
          replace h := z_bd2 h
          obtain ⟨t1, u2, hq, h⟩ := h
          refine z_cvi (As := [.ref (sA D 38)]) C0 hml hl.1 hW hS (c_X8_takes l D A b g hs 38 (by decide) u hq) mv_X5_43 (zk1 (hs 3 (by decide))) ⟨(show 4 + 1 ≤ zFA n + 3 by omega), (show 8 + (5 + 11) + (85) ≤ zLA n + 100 by omega)⟩ rfl rfl (Nat.le_of_ble_eq_true rfl) dX5_readAtom_83 (fun H locs hW hS => ?_)
          clear hq
          refine z_ifeqZ C0 (tgt := 98) dX5_readAtom_86 (by decide) (fun hc => ?_) (fun hc => ?_)
          · replace h := z_ff h hc
            clear hc
            refine lv_aload_n hx hb dX5_readAtom_98 rfl (lv_at hl 1 rfl) ?_
            refine z_getr (o := 3) C0 hW fl_X5_37 (zk1 (hs 29 (by decide))) rfl (zk3 (hs 29 (by decide)) 0) dX5_readAtom_99 ?_
            refine z_ldcS (k := 39) (tx := "alone") C0 (List.mem_of_getElem? (i := 39) rfl) dX5_readAtom_102 ?_
            replace h := z_bd2 h
            obtain ⟨t3, u4, hq, h⟩ := h
            refine z_cvi (As := [.ref (sA D 39)]) C0 hml hl.1 hW hS (c_X8_takes l D A b g hs 39 (by decide) u2 hq) mv_X5_43 (zk1 (hs 3 (by decide))) ⟨(show 4 + 1 ≤ zFA n + 3 by omega), (show 8 + (5 + 11) + (85) ≤ zLA n + 100 by omega)⟩ rfl rfl (Nat.le_of_ble_eq_true rfl) dX5_readAtom_104 (fun H locs hW hS => ?_)
            clear hq
            refine z_ifeqZ C0 (tgt := 119) dX5_readAtom_107 (by decide) (fun hc => ?_) (fun hc => ?_)
            · replace h := z_ff h hc
              clear hc
              refine lv_aload_n hx hb dX5_readAtom_119 rfl (lv_at hl 1 rfl) ?_
              replace h := z_bd2 h
              obtain ⟨r5, u6, hq, h⟩ := h
              refine z_cvi (As := []) C0 hml hl.1 hW hS (c_X5_readSum l D A b g hs u4 hq) mv_X5_94 (zk1 (hs 29 (by decide))) ⟨(show 6 + 1 ≤ zFA n + 3 by omega), (show 8 + (3 + 11) + (131) ≤ zLA n + 100 by omega)⟩ rfl rfl (Nat.le_of_ble_eq_true rfl) dX5_readAtom_120 (fun H locs hW hS => ?_)
              clear hq
              refine lv_istore_n (lv' := [(3, .int r5), (2, .int (0 : Int32)), (0, .ref (b + 29)), (1, .int a1)]) hx hb dX5_readAtom_123 rfl hl (by decide) rfl (fun ls hl => ?_)
              refine lv_aload_n hx hb dX5_readAtom_124 rfl (lv_at hl 2 rfl) ?_
              refine z_getr (o := 3) C0 hW fl_X5_37 (zk1 (hs 29 (by decide))) rfl (zk3 (hs 29 (by decide)) 0) dX5_readAtom_125 ?_
              refine z_ldcS (k := 40) (tx := "<") C0 (List.mem_of_getElem? (i := 40) rfl) dX5_readAtom_128 ?_
              replace h := z_bd2 h
              obtain ⟨t7, u8, hq, h⟩ := h
              refine z_cvi (As := [.ref (sA D 40)]) C0 hml hl.1 hW hS (c_X8_takes l D A b g hs 40 (by decide) u6 hq) mv_X5_43 (zk1 (hs 3 (by decide))) ⟨(show 4 + 1 ≤ zFA n + 3 by omega), (show 8 + (5 + 11) + (85) ≤ zLA n + 100 by omega)⟩ rfl rfl (Nat.le_of_ble_eq_true rfl) dX5_readAtom_130 (fun H locs hW hS => ?_)
              clear hq
              refine z_ifeqZ C0 (tgt := 147) dX5_readAtom_133 (by decide) (fun hc => ?_) (fun hc => ?_)
              · replace h := z_ff h hc
                clear hc
                refine lv_aload_n hx hb dX5_readAtom_147 rfl (lv_at hl 2 rfl) ?_
                refine z_getr (o := 3) C0 hW fl_X5_37 (zk1 (hs 29 (by decide))) rfl (zk3 (hs 29 (by decide)) 0) dX5_readAtom_148 ?_
                refine z_ldcS (k := 41) (tx := ">") C0 (List.mem_of_getElem? (i := 41) rfl) dX5_readAtom_151 ?_
                replace h := z_bd h
                obtain ⟨u9, hq, h⟩ := h
                refine z_cvv (As := [.ref (sA D 41)]) C0 hml hl.1 hW hS (c_X8_must l D A b g hs 41 (by decide) u8 hq) mv_X5_86 (zk1 (hs 3 (by decide))) ⟨(show 5 + 1 ≤ zFA n + 3 by omega), (show 8 + (2 + 11) + (109) ≤ zLA n + 100 by omega)⟩ rfl rfl (Nat.le_of_ble_eq_true rfl) dX5_readAtom_153 (fun H locs hW hS => ?_)
                clear hq
                refine lv_aload_n hx hb dX5_readAtom_156 rfl (lv_at hl 2 rfl) ?_
                refine lv_iconst (v := (4 : Int32)) hx hb dX5_readAtom_157 (by decide) ?_
                refine lv_iload_n hx hb dX5_readAtom_158 rfl (lv_at hl 0 rfl) ?_
                refine lv_aload_n hx hb dX5_readAtom_159 rfl (lv_at hl 2 rfl) ?_
                replace h := z_bd2 h
                obtain ⟨r10, u11, hq, h⟩ := h
                refine z_cvi (As := []) C0 hml hl.1 hW hS (c_X5_readSum l D A b g hs u9 hq) mv_X5_94 (zk1 (hs 29 (by decide))) ⟨(show 6 + 1 ≤ zFA n + 3 by omega), (show 8 + (3 + 11) + (131) ≤ zLA n + 100 by omega)⟩ rfl rfl (Nat.le_of_ble_eq_true rfl) dX5_readAtom_160 (fun H locs hW hS => ?_)
                clear hq
                replace h := z_bd2 h
                obtain ⟨r12, u13, hq, h⟩ := h
                refine z_cvi (As := [.int (4 : Int32), .int r5, .int r10]) C0 hml hl.1 hW hS (c_X5_node l D A b g hs (4 : Int32) r5 r10 u11 hq) mv_X5_76 (zk1 (hs 29 (by decide))) ⟨(show 0 + 1 ≤ zFA n + 3 by omega), (show 8 + (4 + 11) + (0) ≤ zLA n + 100 by omega)⟩ rfl rfl (Nat.le_of_ble_eq_true rfl) dX5_readAtom_163 (fun H locs hW hS => ?_)
                clear hq
                cases h
                exact z_iret C0 hr hlk hW hS dX5_readAtom_166
              · replace h := z_t h hc
                clear hc
                refine lv_aload_n hx hb dX5_readAtom_136 rfl (lv_at hl 2 rfl) ?_
                refine lv_iconst (v := (3 : Int32)) hx hb dX5_readAtom_137 (by decide) ?_
                refine lv_iload_n hx hb dX5_readAtom_138 rfl (lv_at hl 0 rfl) ?_
                refine lv_aload_n hx hb dX5_readAtom_139 rfl (lv_at hl 2 rfl) ?_
                replace h := z_bd2 h
                obtain ⟨r14, u15, hq, h⟩ := h
                refine z_cvi (As := []) C0 hml hl.1 hW hS (c_X5_readSum l D A b g hs u8 hq) mv_X5_94 (zk1 (hs 29 (by decide))) ⟨(show 6 + 1 ≤ zFA n + 3 by omega), (show 8 + (3 + 11) + (131) ≤ zLA n + 100 by omega)⟩ rfl rfl (Nat.le_of_ble_eq_true rfl) dX5_readAtom_140 (fun H locs hW hS => ?_)
                clear hq
                replace h := z_bd2 h
                obtain ⟨r16, u17, hq, h⟩ := h
                refine z_cvi (As := [.int (3 : Int32), .int r5, .int r14]) C0 hml hl.1 hW hS (c_X5_node l D A b g hs (3 : Int32) r5 r14 u15 hq) mv_X5_76 (zk1 (hs 29 (by decide))) ⟨(show 0 + 1 ≤ zFA n + 3 by omega), (show 8 + (4 + 11) + (0) ≤ zLA n + 100 by omega)⟩ rfl rfl (Nat.le_of_ble_eq_true rfl) dX5_readAtom_143 (fun H locs hW hS => ?_)
                clear hq
                cases h
                exact z_iret C0 hr hlk hW hS dX5_readAtom_146
            · replace h := z_t h hc
              clear hc
              refine lv_aload_n hx hb dX5_readAtom_110 rfl (lv_at hl 1 rfl) ?_
              refine lv_iconst (v := (1 : Int32)) hx hb dX5_readAtom_111 (by decide) ?_
              refine lv_bipush (v := (8 : Int32)) hx hb dX5_readAtom_112 (by decide) ?_
              refine lv_iconst (v := (-1 : Int32)) hx hb dX5_readAtom_114 (by decide) ?_
              replace h := z_bd2 h
              obtain ⟨r18, u19, hq, h⟩ := h
              refine z_cvi (As := [.int (1 : Int32), .int (8 : Int32), .int (-1 : Int32)]) C0 hml hl.1 hW hS (c_X5_node l D A b g hs (1 : Int32) (8 : Int32) (-1 : Int32) u4 hq) mv_X5_76 (zk1 (hs 29 (by decide))) ⟨(show 0 + 1 ≤ zFA n + 3 by omega), (show 8 + (4 + 11) + (0) ≤ zLA n + 100 by omega)⟩ rfl rfl (Nat.le_of_ble_eq_true rfl) dX5_readAtom_115 (fun H locs hW hS => ?_)
              clear hq
              cases h
              exact z_iret C0 hr hlk hW hS dX5_readAtom_118
          · replace h := z_t h hc
            clear hc
            refine lv_aload_n hx hb dX5_readAtom_89 rfl (lv_at hl 1 rfl) ?_
            refine lv_iconst (v := (1 : Int32)) hx hb dX5_readAtom_90 (by decide) ?_
            refine lv_bipush (v := (7 : Int32)) hx hb dX5_readAtom_91 (by decide) ?_
            refine lv_iconst (v := (-1 : Int32)) hx hb dX5_readAtom_93 (by decide) ?_
            replace h := z_bd2 h
            obtain ⟨r20, u21, hq, h⟩ := h
            refine z_cvi (As := [.int (1 : Int32), .int (7 : Int32), .int (-1 : Int32)]) C0 hml hl.1 hW hS (c_X5_node l D A b g hs (1 : Int32) (7 : Int32) (-1 : Int32) u2 hq) mv_X5_76 (zk1 (hs 29 (by decide))) ⟨(show 0 + 1 ≤ zFA n + 3 by omega), (show 8 + (4 + 11) + (0) ≤ zLA n + 100 by omega)⟩ rfl rfl (Nat.le_of_ble_eq_true rfl) dX5_readAtom_94 (fun H locs hW hS => ?_)
            clear hq
            cases h
            exact z_iret C0 hr hlk hW hS dX5_readAtom_97
        · exact absurd hc (by decide)
      · exact absurd hc (by decide)
    · replace h := z_f h hc
      clear hc
      refine lv_iconst (v := (1 : Int32)) hx hb dX5_readAtom_6 (by decide) ?_
      refine lv_goto (tgt := 11) hx hb dX5_readAtom_7 (by decide) ?_
      refine lv_istore_n (lv' := [(2, .int (1 : Int32)), (0, .ref (b + 29)), (1, .int a1)]) hx hb dX5_readAtom_11 rfl hl (by decide) rfl (fun ls hl => ?_)
      refine lv_iload_n hx hb dX5_readAtom_12 rfl (lv_at hl 0 rfl) ?_
      refine lv_if_eq (tgt := 42) hx hb dX5_readAtom_13 (by decide) (fun hc => ?_) (fun hc => ?_)
      · exact absurd hc (by decide)
      · clear hc
        refine lv_aload_n hx hb dX5_readAtom_16 rfl (lv_at hl 1 rfl) ?_
        refine z_getr (o := 3) C0 hW fl_X5_37 (zk1 (hs 29 (by decide))) rfl (zk3 (hs 29 (by decide)) 0) dX5_readAtom_17 ?_
        refine z_ldcS (k := 35) (tx := "not") C0 (List.mem_of_getElem? (i := 35) rfl) dX5_readAtom_20 ?_
        replace h := z_bd2 h
        obtain ⟨t22, u23, hq, h⟩ := h
        refine z_cvi (As := [.ref (sA D 35)]) C0 hml hl.1 hW hS (c_X8_takes l D A b g hs 35 (by decide) u hq) mv_X5_43 (zk1 (hs 3 (by decide))) ⟨(show 4 + 1 ≤ zFA n + 3 by omega), (show 8 + (5 + 11) + (85) ≤ zLA n + 100 by omega)⟩ rfl rfl (Nat.le_of_ble_eq_true rfl) dX5_readAtom_22 (fun H locs hW hS => ?_)
        clear hq
        refine z_ifeqZ C0 (tgt := 42) dX5_readAtom_25 (by decide) (fun hc => ?_) (fun hc => ?_)
        · replace h := z_ff h hc
          clear hc
          refine lv_iload_n hx hb dX5_readAtom_42 rfl (lv_at hl 0 rfl) ?_
          refine lv_if_eq (tgt := 77) hx hb dX5_readAtom_43 (by decide) (fun hc => ?_) (fun hc => ?_)
          · exact absurd hc (by decide)
          · clear hc
            refine lv_aload_n hx hb dX5_readAtom_46 rfl (lv_at hl 1 rfl) ?_
            refine z_getr (o := 3) C0 hW fl_X5_37 (zk1 (hs 29 (by decide))) rfl (zk3 (hs 29 (by decide)) 0) dX5_readAtom_47 ?_
            refine z_ldcS (k := 36) (tx := "(") C0 (List.mem_of_getElem? (i := 36) rfl) dX5_readAtom_50 ?_
            replace h := z_bd2 h
            obtain ⟨t24, u25, hq, h⟩ := h
            refine z_cvi (As := [.ref (sA D 36)]) C0 hml hl.1 hW hS (c_X8_takes l D A b g hs 36 (by decide) u23 hq) mv_X5_43 (zk1 (hs 3 (by decide))) ⟨(show 4 + 1 ≤ zFA n + 3 by omega), (show 8 + (5 + 11) + (85) ≤ zLA n + 100 by omega)⟩ rfl rfl (Nat.le_of_ble_eq_true rfl) dX5_readAtom_52 (fun H locs hW hS => ?_)
            clear hq
            refine z_ifeqZ C0 (tgt := 77) dX5_readAtom_55 (by decide) (fun hc => ?_) (fun hc => ?_)
            · replace h := z_ff h hc
              clear hc
              refine lv_aload_n hx hb dX5_readAtom_77 rfl (lv_at hl 1 rfl) ?_
              refine z_getr (o := 3) C0 hW fl_X5_37 (zk1 (hs 29 (by decide))) rfl (zk3 (hs 29 (by decide)) 0) dX5_readAtom_78 ?_
              refine z_ldcS (k := 38) (tx := "rich") C0 (List.mem_of_getElem? (i := 38) rfl) dX5_readAtom_81 ?_
              replace h := z_bd2 h
              obtain ⟨t26, u27, hq, h⟩ := h
              refine z_cvi (As := [.ref (sA D 38)]) C0 hml hl.1 hW hS (c_X8_takes l D A b g hs 38 (by decide) u25 hq) mv_X5_43 (zk1 (hs 3 (by decide))) ⟨(show 4 + 1 ≤ zFA n + 3 by omega), (show 8 + (5 + 11) + (85) ≤ zLA n + 100 by omega)⟩ rfl rfl (Nat.le_of_ble_eq_true rfl) dX5_readAtom_83 (fun H locs hW hS => ?_)
              clear hq
              refine z_ifeqZ C0 (tgt := 98) dX5_readAtom_86 (by decide) (fun hc => ?_) (fun hc => ?_)
              · replace h := z_ff h hc
                clear hc
                refine lv_aload_n hx hb dX5_readAtom_98 rfl (lv_at hl 1 rfl) ?_
                refine z_getr (o := 3) C0 hW fl_X5_37 (zk1 (hs 29 (by decide))) rfl (zk3 (hs 29 (by decide)) 0) dX5_readAtom_99 ?_
                refine z_ldcS (k := 39) (tx := "alone") C0 (List.mem_of_getElem? (i := 39) rfl) dX5_readAtom_102 ?_
                replace h := z_bd2 h
                obtain ⟨t28, u29, hq, h⟩ := h
                refine z_cvi (As := [.ref (sA D 39)]) C0 hml hl.1 hW hS (c_X8_takes l D A b g hs 39 (by decide) u27 hq) mv_X5_43 (zk1 (hs 3 (by decide))) ⟨(show 4 + 1 ≤ zFA n + 3 by omega), (show 8 + (5 + 11) + (85) ≤ zLA n + 100 by omega)⟩ rfl rfl (Nat.le_of_ble_eq_true rfl) dX5_readAtom_104 (fun H locs hW hS => ?_)
                clear hq
                refine z_ifeqZ C0 (tgt := 119) dX5_readAtom_107 (by decide) (fun hc => ?_) (fun hc => ?_)
                · replace h := z_ff h hc
                  clear hc
                  refine lv_aload_n hx hb dX5_readAtom_119 rfl (lv_at hl 1 rfl) ?_
                  replace h := z_bd2 h
                  obtain ⟨r30, u31, hq, h⟩ := h
                  refine z_cvi (As := []) C0 hml hl.1 hW hS (c_X5_readSum l D A b g hs u29 hq) mv_X5_94 (zk1 (hs 29 (by decide))) ⟨(show 6 + 1 ≤ zFA n + 3 by omega), (show 8 + (3 + 11) + (131) ≤ zLA n + 100 by omega)⟩ rfl rfl (Nat.le_of_ble_eq_true rfl) dX5_readAtom_120 (fun H locs hW hS => ?_)
                  clear hq
                  refine lv_istore_n (lv' := [(3, .int r30), (2, .int (1 : Int32)), (0, .ref (b + 29)), (1, .int a1)]) hx hb dX5_readAtom_123 rfl hl (by decide) rfl (fun ls hl => ?_)
                  refine lv_aload_n hx hb dX5_readAtom_124 rfl (lv_at hl 2 rfl) ?_
                  refine z_getr (o := 3) C0 hW fl_X5_37 (zk1 (hs 29 (by decide))) rfl (zk3 (hs 29 (by decide)) 0) dX5_readAtom_125 ?_
                  refine z_ldcS (k := 40) (tx := "<") C0 (List.mem_of_getElem? (i := 40) rfl) dX5_readAtom_128 ?_
                  replace h := z_bd2 h
                  obtain ⟨t32, u33, hq, h⟩ := h
                  refine z_cvi (As := [.ref (sA D 40)]) C0 hml hl.1 hW hS (c_X8_takes l D A b g hs 40 (by decide) u31 hq) mv_X5_43 (zk1 (hs 3 (by decide))) ⟨(show 4 + 1 ≤ zFA n + 3 by omega), (show 8 + (5 + 11) + (85) ≤ zLA n + 100 by omega)⟩ rfl rfl (Nat.le_of_ble_eq_true rfl) dX5_readAtom_130 (fun H locs hW hS => ?_)
                  clear hq
                  refine z_ifeqZ C0 (tgt := 147) dX5_readAtom_133 (by decide) (fun hc => ?_) (fun hc => ?_)
                  · replace h := z_ff h hc
                    clear hc
                    refine lv_aload_n hx hb dX5_readAtom_147 rfl (lv_at hl 2 rfl) ?_
                    refine z_getr (o := 3) C0 hW fl_X5_37 (zk1 (hs 29 (by decide))) rfl (zk3 (hs 29 (by decide)) 0) dX5_readAtom_148 ?_
                    refine z_ldcS (k := 41) (tx := ">") C0 (List.mem_of_getElem? (i := 41) rfl) dX5_readAtom_151 ?_
                    replace h := z_bd h
                    obtain ⟨u34, hq, h⟩ := h
                    refine z_cvv (As := [.ref (sA D 41)]) C0 hml hl.1 hW hS (c_X8_must l D A b g hs 41 (by decide) u33 hq) mv_X5_86 (zk1 (hs 3 (by decide))) ⟨(show 5 + 1 ≤ zFA n + 3 by omega), (show 8 + (2 + 11) + (109) ≤ zLA n + 100 by omega)⟩ rfl rfl (Nat.le_of_ble_eq_true rfl) dX5_readAtom_153 (fun H locs hW hS => ?_)
                    clear hq
                    refine lv_aload_n hx hb dX5_readAtom_156 rfl (lv_at hl 2 rfl) ?_
                    refine lv_iconst (v := (4 : Int32)) hx hb dX5_readAtom_157 (by decide) ?_
                    refine lv_iload_n hx hb dX5_readAtom_158 rfl (lv_at hl 0 rfl) ?_
                    refine lv_aload_n hx hb dX5_readAtom_159 rfl (lv_at hl 2 rfl) ?_
                    replace h := z_bd2 h
                    obtain ⟨r35, u36, hq, h⟩ := h
                    refine z_cvi (As := []) C0 hml hl.1 hW hS (c_X5_readSum l D A b g hs u34 hq) mv_X5_94 (zk1 (hs 29 (by decide))) ⟨(show 6 + 1 ≤ zFA n + 3 by omega), (show 8 + (3 + 11) + (131) ≤ zLA n + 100 by omega)⟩ rfl rfl (Nat.le_of_ble_eq_true rfl) dX5_readAtom_160 (fun H locs hW hS => ?_)
                    clear hq
                    replace h := z_bd2 h
                    obtain ⟨r37, u38, hq, h⟩ := h
                    refine z_cvi (As := [.int (4 : Int32), .int r30, .int r35]) C0 hml hl.1 hW hS (c_X5_node l D A b g hs (4 : Int32) r30 r35 u36 hq) mv_X5_76 (zk1 (hs 29 (by decide))) ⟨(show 0 + 1 ≤ zFA n + 3 by omega), (show 8 + (4 + 11) + (0) ≤ zLA n + 100 by omega)⟩ rfl rfl (Nat.le_of_ble_eq_true rfl) dX5_readAtom_163 (fun H locs hW hS => ?_)
                    clear hq
                    cases h
                    exact z_iret C0 hr hlk hW hS dX5_readAtom_166
                  · replace h := z_t h hc
                    clear hc
                    refine lv_aload_n hx hb dX5_readAtom_136 rfl (lv_at hl 2 rfl) ?_
                    refine lv_iconst (v := (3 : Int32)) hx hb dX5_readAtom_137 (by decide) ?_
                    refine lv_iload_n hx hb dX5_readAtom_138 rfl (lv_at hl 0 rfl) ?_
                    refine lv_aload_n hx hb dX5_readAtom_139 rfl (lv_at hl 2 rfl) ?_
                    replace h := z_bd2 h
                    obtain ⟨r39, u40, hq, h⟩ := h
                    refine z_cvi (As := []) C0 hml hl.1 hW hS (c_X5_readSum l D A b g hs u33 hq) mv_X5_94 (zk1 (hs 29 (by decide))) ⟨(show 6 + 1 ≤ zFA n + 3 by omega), (show 8 + (3 + 11) + (131) ≤ zLA n + 100 by omega)⟩ rfl rfl (Nat.le_of_ble_eq_true rfl) dX5_readAtom_140 (fun H locs hW hS => ?_)
                    clear hq
                    replace h := z_bd2 h
                    obtain ⟨r41, u42, hq, h⟩ := h
                    refine z_cvi (As := [.int (3 : Int32), .int r30, .int r39]) C0 hml hl.1 hW hS (c_X5_node l D A b g hs (3 : Int32) r30 r39 u40 hq) mv_X5_76 (zk1 (hs 29 (by decide))) ⟨(show 0 + 1 ≤ zFA n + 3 by omega), (show 8 + (4 + 11) + (0) ≤ zLA n + 100 by omega)⟩ rfl rfl (Nat.le_of_ble_eq_true rfl) dX5_readAtom_143 (fun H locs hW hS => ?_)
                    clear hq
                    cases h
                    exact z_iret C0 hr hlk hW hS dX5_readAtom_146
                · replace h := z_t h hc
                  clear hc
                  refine lv_aload_n hx hb dX5_readAtom_110 rfl (lv_at hl 1 rfl) ?_
                  refine lv_iconst (v := (1 : Int32)) hx hb dX5_readAtom_111 (by decide) ?_
                  refine lv_bipush (v := (8 : Int32)) hx hb dX5_readAtom_112 (by decide) ?_
                  refine lv_iconst (v := (-1 : Int32)) hx hb dX5_readAtom_114 (by decide) ?_
                  replace h := z_bd2 h
                  obtain ⟨r43, u44, hq, h⟩ := h
                  refine z_cvi (As := [.int (1 : Int32), .int (8 : Int32), .int (-1 : Int32)]) C0 hml hl.1 hW hS (c_X5_node l D A b g hs (1 : Int32) (8 : Int32) (-1 : Int32) u29 hq) mv_X5_76 (zk1 (hs 29 (by decide))) ⟨(show 0 + 1 ≤ zFA n + 3 by omega), (show 8 + (4 + 11) + (0) ≤ zLA n + 100 by omega)⟩ rfl rfl (Nat.le_of_ble_eq_true rfl) dX5_readAtom_115 (fun H locs hW hS => ?_)
                  clear hq
                  cases h
                  exact z_iret C0 hr hlk hW hS dX5_readAtom_118
              · replace h := z_t h hc
                clear hc
                refine lv_aload_n hx hb dX5_readAtom_89 rfl (lv_at hl 1 rfl) ?_
                refine lv_iconst (v := (1 : Int32)) hx hb dX5_readAtom_90 (by decide) ?_
                refine lv_bipush (v := (7 : Int32)) hx hb dX5_readAtom_91 (by decide) ?_
                refine lv_iconst (v := (-1 : Int32)) hx hb dX5_readAtom_93 (by decide) ?_
                replace h := z_bd2 h
                obtain ⟨r45, u46, hq, h⟩ := h
                refine z_cvi (As := [.int (1 : Int32), .int (7 : Int32), .int (-1 : Int32)]) C0 hml hl.1 hW hS (c_X5_node l D A b g hs (1 : Int32) (7 : Int32) (-1 : Int32) u27 hq) mv_X5_76 (zk1 (hs 29 (by decide))) ⟨(show 0 + 1 ≤ zFA n + 3 by omega), (show 8 + (4 + 11) + (0) ≤ zLA n + 100 by omega)⟩ rfl rfl (Nat.le_of_ble_eq_true rfl) dX5_readAtom_94 (fun H locs hW hS => ?_)
                clear hq
                cases h
                exact z_iret C0 hr hlk hW hS dX5_readAtom_97
            · replace h := z_t h hc
              clear hc
              refine lv_aload_n hx hb dX5_readAtom_58 rfl (lv_at hl 1 rfl) ?_
              refine lv_iload_n hx hb dX5_readAtom_59 rfl (lv_at hl 2 rfl) ?_
              refine lv_iconst (v := (1 : Int32)) hx hb dX5_readAtom_60 (by decide) ?_
              refine lv_iadd hx hb dX5_readAtom_61 ?_
              replace h := z_bd2 h
              obtain ⟨r47, u48, hq, h⟩ := h
              refine z_cvi (As := [.int (a1 + (1 : Int32))]) C0 hml hl.1 hW hS (c_X5_readCondition l D A b g hs hfr hlo (fun q0 q1 q2 q3 h => ih q0 q1 q2 q3 h) (a1 + (1 : Int32)) u25 hq) mv_X5_63 (zk1 (hs 29 (by decide))) ⟨(show zFA n + 1 + 1 ≤ zFA n + 3 by omega), (show 8 + (6 + 11) + (zLA n + 60) ≤ zLA n + 100 by omega)⟩ rfl rfl (Nat.le_of_ble_eq_true rfl) dX5_readAtom_62 (fun H locs hW hS => ?_)
              clear hq
              refine lv_istore_n (lv' := [(3, .int r47), (2, .int (1 : Int32)), (0, .ref (b + 29)), (1, .int a1)]) hx hb dX5_readAtom_65 rfl hl (by decide) rfl (fun ls hl => ?_)
              refine lv_aload_n hx hb dX5_readAtom_66 rfl (lv_at hl 2 rfl) ?_
              refine z_getr (o := 3) C0 hW fl_X5_37 (zk1 (hs 29 (by decide))) rfl (zk3 (hs 29 (by decide)) 0) dX5_readAtom_67 ?_
              refine z_ldcS (k := 37) (tx := ")") C0 (List.mem_of_getElem? (i := 37) rfl) dX5_readAtom_70 ?_
              replace h := z_bd h
              obtain ⟨u49, hq, h⟩ := h
              refine z_cvv (As := [.ref (sA D 37)]) C0 hml hl.1 hW hS (c_X8_must l D A b g hs 37 (by decide) u48 hq) mv_X5_86 (zk1 (hs 3 (by decide))) ⟨(show 5 + 1 ≤ zFA n + 3 by omega), (show 8 + (2 + 11) + (109) ≤ zLA n + 100 by omega)⟩ rfl rfl (Nat.le_of_ble_eq_true rfl) dX5_readAtom_72 (fun H locs hW hS => ?_)
              clear hq
              refine lv_iload_n hx hb dX5_readAtom_75 rfl (lv_at hl 0 rfl) ?_
              cases h
              exact z_iret C0 hr hlk hW hS dX5_readAtom_76
        · replace h := z_t h hc
          clear hc
          refine lv_aload_n hx hb dX5_readAtom_28 rfl (lv_at hl 1 rfl) ?_
          refine lv_iconst (v := (5 : Int32)) hx hb dX5_readAtom_29 (by decide) ?_
          refine lv_aload_n hx hb dX5_readAtom_30 rfl (lv_at hl 1 rfl) ?_
          refine lv_iload_n hx hb dX5_readAtom_31 rfl (lv_at hl 2 rfl) ?_
          refine lv_iconst (v := (1 : Int32)) hx hb dX5_readAtom_32 (by decide) ?_
          refine lv_iadd hx hb dX5_readAtom_33 ?_
          replace h := z_bd2 h
          obtain ⟨r50, u51, hq, h⟩ := h
          refine z_cvi (As := [.int (a1 + (1 : Int32))]) C0 hml hl.1 hW hS (ih _ _ _ _ hq) mv_X5_69 (zk1 (hs 29 (by decide))) ⟨(show zFA n + 1 ≤ zFA n + 3 by omega), (show 8 + (4 + 11) + (zLA n) ≤ zLA n + 100 by omega)⟩ rfl rfl (Nat.le_of_ble_eq_true rfl) dX5_readAtom_34 (fun H locs hW hS => ?_)
          clear hq
          refine lv_iconst (v := (-1 : Int32)) hx hb dX5_readAtom_37 (by decide) ?_
          replace h := z_bd2 h
          obtain ⟨r52, u53, hq, h⟩ := h
          refine z_cvi (As := [.int (5 : Int32), .int r50, .int (-1 : Int32)]) C0 hml hl.1 hW hS (c_X5_node l D A b g hs (5 : Int32) r50 (-1 : Int32) u51 hq) mv_X5_76 (zk1 (hs 29 (by decide))) ⟨(show 0 + 1 ≤ zFA n + 3 by omega), (show 8 + (4 + 11) + (0) ≤ zLA n + 100 by omega)⟩ rfl rfl (Nat.le_of_ble_eq_true rfl) dX5_readAtom_38 (fun H locs hW hS => ?_)
          clear hq
          cases h
          exact z_iret C0 hr hlk hW hS dX5_readAtom_41
def f_X5_readLine  (u : zU) : Option (zU) :=
  z_b2 (f_X8_takes 29 u) (fun t1 u2 => if t1 = true then (z_b2 (f_X8_number (0 : Int32) (30 : Int32) u2) (fun r50 u51 => z_b2 (f_X8_takes 32 u51) (fun t52 u53 => if t52 = true then (z_b2 (f_X5_readCondition (f_X5_readAtom 8) (0 : Int32) u53) (fun r58 u59 => if (12 : Int32) ≤ (u59 29 8) then (some u59) else (if z_in (u59 29 8) 12 = true then (z_let (z_up u59 30 (u59 29 8).toNatClampNeg (0 : Int32)) (fun u60 => if z_in (u60 29 8) 12 = true then (z_let (z_up u60 31 (u60 29 8).toNatClampNeg r50) (fun u61 => if z_in (u61 29 8) 12 = true then (z_let (z_up u61 32 (u61 29 8).toNatClampNeg (u61 29 9)) (fun u62 => z_let (z_up u62 29 8 ((u62 29 8) + (1 : Int32))) (fun u63 => some u63))) else none)) else none)) else none))) else (if (12 : Int32) ≤ (u53 29 8) then (some u53) else (if z_in (u53 29 8) 12 = true then (z_let (z_up u53 30 (u53 29 8).toNatClampNeg (0 : Int32)) (fun u54 => if z_in (u54 29 8) 12 = true then (z_let (z_up u54 31 (u54 29 8).toNatClampNeg r50) (fun u55 => if z_in (u55 29 8) 12 = true then (z_let (z_up u55 32 (u55 29 8).toNatClampNeg (u55 29 9)) (fun u56 => z_let (z_up u56 29 8 ((u56 29 8) + (1 : Int32))) (fun u57 => some u57))) else none)) else none)) else none))))) else (z_b2 (f_X8_takes 30 u2) (fun t3 u4 => if t3 = true then (z_b2 (f_X8_number (0 : Int32) (30 : Int32) u4) (fun r36 u37 => z_b2 (f_X8_takes 32 u37) (fun t38 u39 => if t38 = true then (z_b2 (f_X5_readCondition (f_X5_readAtom 8) (0 : Int32) u39) (fun r44 u45 => if (12 : Int32) ≤ (u45 29 8) then (some u45) else (if z_in (u45 29 8) 12 = true then (z_let (z_up u45 30 (u45 29 8).toNatClampNeg (1 : Int32)) (fun u46 => if z_in (u46 29 8) 12 = true then (z_let (z_up u46 31 (u46 29 8).toNatClampNeg r36) (fun u47 => if z_in (u47 29 8) 12 = true then (z_let (z_up u47 32 (u47 29 8).toNatClampNeg (u47 29 9)) (fun u48 => z_let (z_up u48 29 8 ((u48 29 8) + (1 : Int32))) (fun u49 => some u49))) else none)) else none)) else none))) else (if (12 : Int32) ≤ (u39 29 8) then (some u39) else (if z_in (u39 29 8) 12 = true then (z_let (z_up u39 30 (u39 29 8).toNatClampNeg (1 : Int32)) (fun u40 => if z_in (u40 29 8) 12 = true then (z_let (z_up u40 31 (u40 29 8).toNatClampNeg r36) (fun u41 => if z_in (u41 29 8) 12 = true then (z_let (z_up u41 32 (u41 29 8).toNatClampNeg (u41 29 9)) (fun u42 => z_let (z_up u42 29 8 ((u42 29 8) + (1 : Int32))) (fun u43 => some u43))) else none)) else none)) else none))))) else (z_b2 (f_X8_takes 31 u4) (fun t5 u6 => if t5 = true then (z_b2 (f_X8_number (0 : Int32) (30 : Int32) u6) (fun r22 u23 => z_b2 (f_X8_takes 32 u23) (fun t24 u25 => if t24 = true then (z_b2 (f_X5_readCondition (f_X5_readAtom 8) (0 : Int32) u25) (fun r30 u31 => if (12 : Int32) ≤ (u31 29 8) then (some u31) else (if z_in (u31 29 8) 12 = true then (z_let (z_up u31 30 (u31 29 8).toNatClampNeg (2 : Int32)) (fun u32 => if z_in (u32 29 8) 12 = true then (z_let (z_up u32 31 (u32 29 8).toNatClampNeg r22) (fun u33 => if z_in (u33 29 8) 12 = true then (z_let (z_up u33 32 (u33 29 8).toNatClampNeg (u33 29 9)) (fun u34 => z_let (z_up u34 29 8 ((u34 29 8) + (1 : Int32))) (fun u35 => some u35))) else none)) else none)) else none))) else (if (12 : Int32) ≤ (u25 29 8) then (some u25) else (if z_in (u25 29 8) 12 = true then (z_let (z_up u25 30 (u25 29 8).toNatClampNeg (2 : Int32)) (fun u26 => if z_in (u26 29 8) 12 = true then (z_let (z_up u26 31 (u26 29 8).toNatClampNeg r22) (fun u27 => if z_in (u27 29 8) 12 = true then (z_let (z_up u27 32 (u27 29 8).toNatClampNeg (u27 29 9)) (fun u28 => z_let (z_up u28 29 8 ((u28 29 8) + (1 : Int32))) (fun u29 => some u29))) else none)) else none)) else none))))) else ((f_X8_refuse u6).bind (fun u7 => z_b2 (f_X8_number (0 : Int32) (30 : Int32) u7) (fun r8 u9 => z_b2 (f_X8_takes 32 u9) (fun t10 u11 => if t10 = true then (z_b2 (f_X5_readCondition (f_X5_readAtom 8) (0 : Int32) u11) (fun r16 u17 => if (12 : Int32) ≤ (u17 29 8) then (some u17) else (if z_in (u17 29 8) 12 = true then (z_let (z_up u17 30 (u17 29 8).toNatClampNeg (-1 : Int32)) (fun u18 => if z_in (u18 29 8) 12 = true then (z_let (z_up u18 31 (u18 29 8).toNatClampNeg r8) (fun u19 => if z_in (u19 29 8) 12 = true then (z_let (z_up u19 32 (u19 29 8).toNatClampNeg (u19 29 9)) (fun u20 => z_let (z_up u20 29 8 ((u20 29 8) + (1 : Int32))) (fun u21 => some u21))) else none)) else none)) else none))) else (if (12 : Int32) ≤ (u11 29 8) then (some u11) else (if z_in (u11 29 8) 12 = true then (z_let (z_up u11 30 (u11 29 8).toNatClampNeg (-1 : Int32)) (fun u12 => if z_in (u12 29 8) 12 = true then (z_let (z_up u12 31 (u12 29 8).toNatClampNeg r8) (fun u13 => if z_in (u13 29 8) 12 = true then (z_let (z_up u13 32 (u13 29 8).toNatClampNeg (u13 29 9)) (fun u14 => z_let (z_up u14 29 8 ((u14 29 8) + (1 : Int32))) (fun u15 => some u15))) else none)) else none)) else none)))))))))))
theorem f_X5_readLine_e  (u : zU) : f_X5_readLine u = z_b2 (f_X8_takes 29 u) (fun t1 u2 => if t1 = true then (z_b2 (f_X8_number (0 : Int32) (30 : Int32) u2) (fun r50 u51 => z_b2 (f_X8_takes 32 u51) (fun t52 u53 => if t52 = true then (z_b2 (f_X5_readCondition (f_X5_readAtom 8) (0 : Int32) u53) (fun r58 u59 => if (12 : Int32) ≤ (u59 29 8) then (some u59) else (if z_in (u59 29 8) 12 = true then (z_let (z_up u59 30 (u59 29 8).toNatClampNeg (0 : Int32)) (fun u60 => if z_in (u60 29 8) 12 = true then (z_let (z_up u60 31 (u60 29 8).toNatClampNeg r50) (fun u61 => if z_in (u61 29 8) 12 = true then (z_let (z_up u61 32 (u61 29 8).toNatClampNeg (u61 29 9)) (fun u62 => z_let (z_up u62 29 8 ((u62 29 8) + (1 : Int32))) (fun u63 => some u63))) else none)) else none)) else none))) else (if (12 : Int32) ≤ (u53 29 8) then (some u53) else (if z_in (u53 29 8) 12 = true then (z_let (z_up u53 30 (u53 29 8).toNatClampNeg (0 : Int32)) (fun u54 => if z_in (u54 29 8) 12 = true then (z_let (z_up u54 31 (u54 29 8).toNatClampNeg r50) (fun u55 => if z_in (u55 29 8) 12 = true then (z_let (z_up u55 32 (u55 29 8).toNatClampNeg (u55 29 9)) (fun u56 => z_let (z_up u56 29 8 ((u56 29 8) + (1 : Int32))) (fun u57 => some u57))) else none)) else none)) else none))))) else (z_b2 (f_X8_takes 30 u2) (fun t3 u4 => if t3 = true then (z_b2 (f_X8_number (0 : Int32) (30 : Int32) u4) (fun r36 u37 => z_b2 (f_X8_takes 32 u37) (fun t38 u39 => if t38 = true then (z_b2 (f_X5_readCondition (f_X5_readAtom 8) (0 : Int32) u39) (fun r44 u45 => if (12 : Int32) ≤ (u45 29 8) then (some u45) else (if z_in (u45 29 8) 12 = true then (z_let (z_up u45 30 (u45 29 8).toNatClampNeg (1 : Int32)) (fun u46 => if z_in (u46 29 8) 12 = true then (z_let (z_up u46 31 (u46 29 8).toNatClampNeg r36) (fun u47 => if z_in (u47 29 8) 12 = true then (z_let (z_up u47 32 (u47 29 8).toNatClampNeg (u47 29 9)) (fun u48 => z_let (z_up u48 29 8 ((u48 29 8) + (1 : Int32))) (fun u49 => some u49))) else none)) else none)) else none))) else (if (12 : Int32) ≤ (u39 29 8) then (some u39) else (if z_in (u39 29 8) 12 = true then (z_let (z_up u39 30 (u39 29 8).toNatClampNeg (1 : Int32)) (fun u40 => if z_in (u40 29 8) 12 = true then (z_let (z_up u40 31 (u40 29 8).toNatClampNeg r36) (fun u41 => if z_in (u41 29 8) 12 = true then (z_let (z_up u41 32 (u41 29 8).toNatClampNeg (u41 29 9)) (fun u42 => z_let (z_up u42 29 8 ((u42 29 8) + (1 : Int32))) (fun u43 => some u43))) else none)) else none)) else none))))) else (z_b2 (f_X8_takes 31 u4) (fun t5 u6 => if t5 = true then (z_b2 (f_X8_number (0 : Int32) (30 : Int32) u6) (fun r22 u23 => z_b2 (f_X8_takes 32 u23) (fun t24 u25 => if t24 = true then (z_b2 (f_X5_readCondition (f_X5_readAtom 8) (0 : Int32) u25) (fun r30 u31 => if (12 : Int32) ≤ (u31 29 8) then (some u31) else (if z_in (u31 29 8) 12 = true then (z_let (z_up u31 30 (u31 29 8).toNatClampNeg (2 : Int32)) (fun u32 => if z_in (u32 29 8) 12 = true then (z_let (z_up u32 31 (u32 29 8).toNatClampNeg r22) (fun u33 => if z_in (u33 29 8) 12 = true then (z_let (z_up u33 32 (u33 29 8).toNatClampNeg (u33 29 9)) (fun u34 => z_let (z_up u34 29 8 ((u34 29 8) + (1 : Int32))) (fun u35 => some u35))) else none)) else none)) else none))) else (if (12 : Int32) ≤ (u25 29 8) then (some u25) else (if z_in (u25 29 8) 12 = true then (z_let (z_up u25 30 (u25 29 8).toNatClampNeg (2 : Int32)) (fun u26 => if z_in (u26 29 8) 12 = true then (z_let (z_up u26 31 (u26 29 8).toNatClampNeg r22) (fun u27 => if z_in (u27 29 8) 12 = true then (z_let (z_up u27 32 (u27 29 8).toNatClampNeg (u27 29 9)) (fun u28 => z_let (z_up u28 29 8 ((u28 29 8) + (1 : Int32))) (fun u29 => some u29))) else none)) else none)) else none))))) else ((f_X8_refuse u6).bind (fun u7 => z_b2 (f_X8_number (0 : Int32) (30 : Int32) u7) (fun r8 u9 => z_b2 (f_X8_takes 32 u9) (fun t10 u11 => if t10 = true then (z_b2 (f_X5_readCondition (f_X5_readAtom 8) (0 : Int32) u11) (fun r16 u17 => if (12 : Int32) ≤ (u17 29 8) then (some u17) else (if z_in (u17 29 8) 12 = true then (z_let (z_up u17 30 (u17 29 8).toNatClampNeg (-1 : Int32)) (fun u18 => if z_in (u18 29 8) 12 = true then (z_let (z_up u18 31 (u18 29 8).toNatClampNeg r8) (fun u19 => if z_in (u19 29 8) 12 = true then (z_let (z_up u19 32 (u19 29 8).toNatClampNeg (u19 29 9)) (fun u20 => z_let (z_up u20 29 8 ((u20 29 8) + (1 : Int32))) (fun u21 => some u21))) else none)) else none)) else none))) else (if (12 : Int32) ≤ (u11 29 8) then (some u11) else (if z_in (u11 29 8) 12 = true then (z_let (z_up u11 30 (u11 29 8).toNatClampNeg (-1 : Int32)) (fun u12 => if z_in (u12 29 8) 12 = true then (z_let (z_up u12 31 (u12 29 8).toNatClampNeg r8) (fun u13 => if z_in (u13 29 8) 12 = true then (z_let (z_up u13 32 (u13 29 8).toNatClampNeg (u13 29 9)) (fun u14 => z_let (z_up u14 29 8 ((u14 29 8) + (1 : Int32))) (fun u15 => some u15))) else none)) else none)) else none))))))))))) := rfl
set_option maxRecDepth 100000 in
set_option maxHeartbeats 4000000 in
theorem c_X5_readLine (l : Launch) (D : zD) (A : Nat → Prop) (b : Nat) (g : zG) (hs : zSt g)  (u : zU) {u' : zU} (h : f_X5_readLine u = some u') : z_M l D A b g yX5_readLine cX5_readLine 3 none 38 1285 [.ref (b + 29)] u none u' := by
  refine z_enter (by decide) (Nat.le_of_ble_eq_true rfl) ?_
  intro p e s m below meth c ls C0 hr hml hlk hW hS hl
  have hl : lv_has ls 3 [(0, .ref (b + 29))] := hl
  have hx := C0.1
  have hb := C0.2.1
  rw [f_X5_readLine_e] at h
  refine lv_iconst (v := (-1 : Int32)) hx hb dX5_readLine_0 (by decide) ?_
  refine lv_istore_n (lv' := [(1, .int (-1 : Int32)), (0, .ref (b + 29))]) hx hb dX5_readLine_1 rfl hl (by decide) rfl (fun ls hl => ?_)
  refine lv_aload_n hx hb dX5_readLine_2 rfl (lv_at hl 1 rfl) ?_
  refine z_getr (o := 3) C0 hW fl_X5_37 (zk1 (hs 29 (by decide))) rfl (zk3 (hs 29 (by decide)) 0) dX5_readLine_3 ?_
  refine z_ldcS (k := 29) (tx := "go") C0 (List.mem_of_getElem? (i := 29) rfl) dX5_readLine_6 ?_
  replace h := z_bd2 h
  obtain ⟨t1, u2, hq, h⟩ := h
  refine z_cvi (As := [.ref (sA D 29)]) C0 hml hl.1 hW hS (c_X8_takes l D A b g hs 29 (by decide) u hq) mv_X5_43 (zk1 (hs 3 (by decide))) ⟨Nat.le_of_ble_eq_true rfl, Nat.le_of_ble_eq_true rfl⟩ rfl rfl (Nat.le_of_ble_eq_true rfl) dX5_readLine_8 (fun H locs hW hS => ?_)
  clear hq
  refine z_ifeqZ C0 (tgt := 19) dX5_readLine_11 (by decide) (fun hc => ?_) (fun hc => ?_)
  · replace h := z_ff h hc
    clear hc
    refine lv_aload_n hx hb dX5_readLine_19 rfl (lv_at hl 1 rfl) ?_
    refine z_getr (o := 3) C0 hW fl_X5_37 (zk1 (hs 29 (by decide))) rfl (zk3 (hs 29 (by decide)) 0) dX5_readLine_20 ?_
    refine z_ldcS (k := 30) (tx := "more") C0 (List.mem_of_getElem? (i := 30) rfl) dX5_readLine_23 ?_
    replace h := z_bd2 h
    obtain ⟨t3, u4, hq, h⟩ := h
    refine z_cvi (As := [.ref (sA D 30)]) C0 hml hl.1 hW hS (c_X8_takes l D A b g hs 30 (by decide) u2 hq) mv_X5_43 (zk1 (hs 3 (by decide))) ⟨Nat.le_of_ble_eq_true rfl, Nat.le_of_ble_eq_true rfl⟩ rfl rfl (Nat.le_of_ble_eq_true rfl) dX5_readLine_25 (fun H locs hW hS => ?_)
    clear hq
    refine z_ifeqZ C0 (tgt := 36) dX5_readLine_28 (by decide) (fun hc => ?_) (fun hc => ?_)
    · replace h := z_ff h hc
      clear hc
      refine lv_aload_n hx hb dX5_readLine_36 rfl (lv_at hl 1 rfl) ?_
      refine z_getr (o := 3) C0 hW fl_X5_37 (zk1 (hs 29 (by decide))) rfl (zk3 (hs 29 (by decide)) 0) dX5_readLine_37 ?_
      refine z_ldcS (k := 31) (tx := "less") C0 (List.mem_of_getElem? (i := 31) rfl) dX5_readLine_40 ?_
      replace h := z_bd2 h
      obtain ⟨t5, u6, hq, h⟩ := h
      refine z_cvi (As := [.ref (sA D 31)]) C0 hml hl.1 hW hS (c_X8_takes l D A b g hs 31 (by decide) u4 hq) mv_X5_43 (zk1 (hs 3 (by decide))) ⟨Nat.le_of_ble_eq_true rfl, Nat.le_of_ble_eq_true rfl⟩ rfl rfl (Nat.le_of_ble_eq_true rfl) dX5_readLine_42 (fun H locs hW hS => ?_)
      clear hq
      refine z_ifeqZ C0 (tgt := 53) dX5_readLine_45 (by decide) (fun hc => ?_) (fun hc => ?_)
      · replace h := z_ff h hc
        clear hc
        refine lv_aload_n hx hb dX5_readLine_53 rfl (lv_at hl 1 rfl) ?_
        refine z_getr (o := 3) C0 hW fl_X5_37 (zk1 (hs 29 (by decide))) rfl (zk3 (hs 29 (by decide)) 0) dX5_readLine_54 ?_
        replace h := z_bd h
        obtain ⟨u7, hq, h⟩ := h
        refine z_cvv (As := []) C0 hml hl.1 hW hS (c_X8_refuse l D A b g hs u6 hq) mv_X5_53 (zk1 (hs 3 (by decide))) ⟨Nat.le_of_ble_eq_true rfl, Nat.le_of_ble_eq_true rfl⟩ rfl rfl (Nat.le_of_ble_eq_true rfl) dX5_readLine_57 (fun H locs hW hS => ?_)
        clear hq
        refine lv_aload_n hx hb dX5_readLine_60 rfl (lv_at hl 1 rfl) ?_
        refine z_getr (o := 3) C0 hW fl_X5_37 (zk1 (hs 29 (by decide))) rfl (zk3 (hs 29 (by decide)) 0) dX5_readLine_61 ?_
        refine lv_iconst (v := (0 : Int32)) hx hb dX5_readLine_64 (by decide) ?_
        refine lv_bipush (v := (30 : Int32)) hx hb dX5_readLine_65 (by decide) ?_
        replace h := z_bd2 h
        obtain ⟨r8, u9, hq, h⟩ := h
        refine z_cvi (As := [.int (0 : Int32), .int (30 : Int32)]) C0 hml hl.1 hW hS (c_X8_number l D A b g hs (0 : Int32) (30 : Int32) u7 hq) mv_X5_57 (zk1 (hs 3 (by decide))) ⟨Nat.le_of_ble_eq_true rfl, Nat.le_of_ble_eq_true rfl⟩ rfl rfl (Nat.le_of_ble_eq_true rfl) dX5_readLine_67 (fun H locs hW hS => ?_)
        clear hq
        refine lv_istore_n (lv' := [(2, .int r8), (1, .int (-1 : Int32)), (0, .ref (b + 29))]) hx hb dX5_readLine_70 rfl hl (by decide) rfl (fun ls hl => ?_)
        refine lv_aload_n hx hb dX5_readLine_71 rfl (lv_at hl 2 rfl) ?_
        refine z_getr (o := 3) C0 hW fl_X5_37 (zk1 (hs 29 (by decide))) rfl (zk3 (hs 29 (by decide)) 0) dX5_readLine_72 ?_
        refine z_ldcS (k := 32) (tx := "if") C0 (List.mem_of_getElem? (i := 32) rfl) dX5_readLine_75 ?_
        replace h := z_bd2 h
        obtain ⟨t10, u11, hq, h⟩ := h
        refine z_cvi (As := [.ref (sA D 32)]) C0 hml hl.1 hW hS (c_X8_takes l D A b g hs 32 (by decide) u9 hq) mv_X5_43 (zk1 (hs 3 (by decide))) ⟨Nat.le_of_ble_eq_true rfl, Nat.le_of_ble_eq_true rfl⟩ rfl rfl (Nat.le_of_ble_eq_true rfl) dX5_readLine_77 (fun H locs hW hS => ?_)
        clear hq
        refine z_ifeqZ C0 (tgt := 89) dX5_readLine_80 (by decide) (fun hc => ?_) (fun hc => ?_)
        · replace h := z_ff h hc
          clear hc
          refine lv_aload_n hx hb dX5_readLine_89 rfl (lv_at hl 2 rfl) ?_
          refine z_geti C0 hW fl_X5_30 (zk1 (hs 29 (by decide))) rfl dX5_readLine_90 ?_
          refine lv_bipush (v := (12 : Int32)) hx hb dX5_readLine_93 (by decide) ?_
          refine lv_icmp_ge (tgt := 141) hx hb dX5_readLine_95 (by decide) (fun hc => ?_) (fun hc => ?_)
          · replace h := z_t h hc
            clear hc
            cases h
            exact z_vret C0 hr hlk hW hS dX5_readLine_141
          · replace h := z_f h hc
            clear hc
            refine lv_aload_n hx hb dX5_readLine_98 rfl (lv_at hl 2 rfl) ?_
            refine z_getr (o := 30) C0 hW fl_X5_11 (zk1 (hs 29 (by decide))) rfl (zk3 (hs 29 (by decide)) 2) dX5_readLine_99 ?_
            refine lv_aload_n hx hb dX5_readLine_102 rfl (lv_at hl 2 rfl) ?_
            refine z_geti C0 hW fl_X5_30 (zk1 (hs 29 (by decide))) rfl dX5_readLine_103 ?_
            refine lv_iload_n hx hb dX5_readLine_106 rfl (lv_at hl 1 rfl) ?_
            replace h := z_if h
            obtain ⟨hin, h⟩ := h
            refine z_iast (n := 12) C0 hW hS (zk1 (hs 30 (by decide))) (zk2 (hs 30 (by decide))) hin rfl dX5_readLine_107 (fun H locs u12 e1 hW hS => ?_)
            replace h := z_ly h e1
            clear e1
            refine lv_aload_n hx hb dX5_readLine_108 rfl (lv_at hl 2 rfl) ?_
            refine z_getr (o := 31) C0 hW fl_X5_15 (zk1 (hs 29 (by decide))) rfl (zk3 (hs 29 (by decide)) 3) dX5_readLine_109 ?_
            refine lv_aload_n hx hb dX5_readLine_112 rfl (lv_at hl 2 rfl) ?_
            refine z_geti C0 hW fl_X5_30 (zk1 (hs 29 (by decide))) rfl dX5_readLine_113 ?_
            refine lv_iload_n hx hb dX5_readLine_116 rfl (lv_at hl 0 rfl) ?_
            replace h := z_if h
            obtain ⟨hin, h⟩ := h
            refine z_iast (n := 12) C0 hW hS (zk1 (hs 31 (by decide))) (zk2 (hs 31 (by decide))) hin rfl dX5_readLine_117 (fun H locs u13 e1 hW hS => ?_)
            replace h := z_ly h e1
            clear e1
            refine lv_aload_n hx hb dX5_readLine_118 rfl (lv_at hl 2 rfl) ?_
            refine z_getr (o := 32) C0 hW fl_X5_18 (zk1 (hs 29 (by decide))) rfl (zk3 (hs 29 (by decide)) 4) dX5_readLine_119 ?_
            refine lv_aload_n hx hb dX5_readLine_122 rfl (lv_at hl 2 rfl) ?_
            refine z_geti C0 hW fl_X5_30 (zk1 (hs 29 (by decide))) rfl dX5_readLine_123 ?_
            refine lv_aload_n hx hb dX5_readLine_126 rfl (lv_at hl 2 rfl) ?_
            refine z_geti C0 hW fl_X5_34 (zk1 (hs 29 (by decide))) rfl dX5_readLine_127 ?_
            replace h := z_if h
            obtain ⟨hin, h⟩ := h
            refine z_iast (n := 12) C0 hW hS (zk1 (hs 32 (by decide))) (zk2 (hs 32 (by decide))) hin rfl dX5_readLine_130 (fun H locs u14 e1 hW hS => ?_)
            replace h := z_ly h e1
            clear e1
            refine lv_aload_n hx hb dX5_readLine_131 rfl (lv_at hl 2 rfl) ?_
            refine lv_dup hx hb dX5_readLine_132 rfl ?_
            refine z_geti C0 hW fl_X5_30 (zk1 (hs 29 (by decide))) rfl dX5_readLine_133 ?_
            refine lv_iconst (v := (1 : Int32)) hx hb dX5_readLine_136 (by decide) ?_
            refine lv_iadd hx hb dX5_readLine_137 ?_
            refine z_puti C0 hW hS fl_X5_30 (zk1 (hs 29 (by decide))) rfl rfl rfl dX5_readLine_138 (fun H locs u15 e1 hW hS => ?_)
            replace h := z_ly h e1
            clear e1
            cases h
            exact z_vret C0 hr hlk hW hS dX5_readLine_141
        · replace h := z_t h hc
          clear hc
          refine lv_aload_n hx hb dX5_readLine_83 rfl (lv_at hl 2 rfl) ?_
          refine lv_iconst (v := (0 : Int32)) hx hb dX5_readLine_84 (by decide) ?_
          replace h := z_bd2 h
          obtain ⟨r16, u17, hq, h⟩ := h
          refine z_cvi (As := [.int (0 : Int32)]) C0 hml hl.1 hW hS (c_X5_readCondition l D A b g hs (fr := zFA 8) (lo := zLA 8) (by decide) (by decide) (fun q0 q1 q2 q3 h => c_X5_readAtom l D A b g hs 8 q0 q1 q2 q3 h) (0 : Int32) u11 hq) mv_X5_63 (zk1 (hs 29 (by decide))) ⟨Nat.le_of_ble_eq_true rfl, Nat.le_of_ble_eq_true rfl⟩ rfl rfl (Nat.le_of_ble_eq_true rfl) dX5_readLine_85 (fun H locs hW hS => ?_)
          clear hq
          refine lv_pop hx hb dX5_readLine_88 rfl ?_
          refine lv_aload_n hx hb dX5_readLine_89 rfl (lv_at hl 2 rfl) ?_
          refine z_geti C0 hW fl_X5_30 (zk1 (hs 29 (by decide))) rfl dX5_readLine_90 ?_
          refine lv_bipush (v := (12 : Int32)) hx hb dX5_readLine_93 (by decide) ?_
          refine lv_icmp_ge (tgt := 141) hx hb dX5_readLine_95 (by decide) (fun hc => ?_) (fun hc => ?_)
          · replace h := z_t h hc
            clear hc
            cases h
            exact z_vret C0 hr hlk hW hS dX5_readLine_141
          · replace h := z_f h hc
            clear hc
            refine lv_aload_n hx hb dX5_readLine_98 rfl (lv_at hl 2 rfl) ?_
            refine z_getr (o := 30) C0 hW fl_X5_11 (zk1 (hs 29 (by decide))) rfl (zk3 (hs 29 (by decide)) 2) dX5_readLine_99 ?_
            refine lv_aload_n hx hb dX5_readLine_102 rfl (lv_at hl 2 rfl) ?_
            refine z_geti C0 hW fl_X5_30 (zk1 (hs 29 (by decide))) rfl dX5_readLine_103 ?_
            refine lv_iload_n hx hb dX5_readLine_106 rfl (lv_at hl 1 rfl) ?_
            replace h := z_if h
            obtain ⟨hin, h⟩ := h
            refine z_iast (n := 12) C0 hW hS (zk1 (hs 30 (by decide))) (zk2 (hs 30 (by decide))) hin rfl dX5_readLine_107 (fun H locs u18 e1 hW hS => ?_)
            replace h := z_ly h e1
            clear e1
            refine lv_aload_n hx hb dX5_readLine_108 rfl (lv_at hl 2 rfl) ?_
            refine z_getr (o := 31) C0 hW fl_X5_15 (zk1 (hs 29 (by decide))) rfl (zk3 (hs 29 (by decide)) 3) dX5_readLine_109 ?_
            refine lv_aload_n hx hb dX5_readLine_112 rfl (lv_at hl 2 rfl) ?_
            refine z_geti C0 hW fl_X5_30 (zk1 (hs 29 (by decide))) rfl dX5_readLine_113 ?_
            refine lv_iload_n hx hb dX5_readLine_116 rfl (lv_at hl 0 rfl) ?_
            replace h := z_if h
            obtain ⟨hin, h⟩ := h
            refine z_iast (n := 12) C0 hW hS (zk1 (hs 31 (by decide))) (zk2 (hs 31 (by decide))) hin rfl dX5_readLine_117 (fun H locs u19 e1 hW hS => ?_)
            replace h := z_ly h e1
            clear e1
            refine lv_aload_n hx hb dX5_readLine_118 rfl (lv_at hl 2 rfl) ?_
            refine z_getr (o := 32) C0 hW fl_X5_18 (zk1 (hs 29 (by decide))) rfl (zk3 (hs 29 (by decide)) 4) dX5_readLine_119 ?_
            refine lv_aload_n hx hb dX5_readLine_122 rfl (lv_at hl 2 rfl) ?_
            refine z_geti C0 hW fl_X5_30 (zk1 (hs 29 (by decide))) rfl dX5_readLine_123 ?_
            refine lv_aload_n hx hb dX5_readLine_126 rfl (lv_at hl 2 rfl) ?_
            refine z_geti C0 hW fl_X5_34 (zk1 (hs 29 (by decide))) rfl dX5_readLine_127 ?_
            replace h := z_if h
            obtain ⟨hin, h⟩ := h
            refine z_iast (n := 12) C0 hW hS (zk1 (hs 32 (by decide))) (zk2 (hs 32 (by decide))) hin rfl dX5_readLine_130 (fun H locs u20 e1 hW hS => ?_)
            replace h := z_ly h e1
            clear e1
            refine lv_aload_n hx hb dX5_readLine_131 rfl (lv_at hl 2 rfl) ?_
            refine lv_dup hx hb dX5_readLine_132 rfl ?_
            refine z_geti C0 hW fl_X5_30 (zk1 (hs 29 (by decide))) rfl dX5_readLine_133 ?_
            refine lv_iconst (v := (1 : Int32)) hx hb dX5_readLine_136 (by decide) ?_
            refine lv_iadd hx hb dX5_readLine_137 ?_
            refine z_puti C0 hW hS fl_X5_30 (zk1 (hs 29 (by decide))) rfl rfl rfl dX5_readLine_138 (fun H locs u21 e1 hW hS => ?_)
            replace h := z_ly h e1
            clear e1
            cases h
            exact z_vret C0 hr hlk hW hS dX5_readLine_141
      · replace h := z_t h hc
        clear hc
        refine lv_iconst (v := (2 : Int32)) hx hb dX5_readLine_48 (by decide) ?_
        refine lv_istore_n (lv' := [(1, .int (2 : Int32)), (0, .ref (b + 29))]) hx hb dX5_readLine_49 rfl hl (by decide) rfl (fun ls hl => ?_)
        refine lv_goto (tgt := 60) hx hb dX5_readLine_50 (by decide) ?_
        refine lv_aload_n hx hb dX5_readLine_60 rfl (lv_at hl 1 rfl) ?_
        refine z_getr (o := 3) C0 hW fl_X5_37 (zk1 (hs 29 (by decide))) rfl (zk3 (hs 29 (by decide)) 0) dX5_readLine_61 ?_
        refine lv_iconst (v := (0 : Int32)) hx hb dX5_readLine_64 (by decide) ?_
        refine lv_bipush (v := (30 : Int32)) hx hb dX5_readLine_65 (by decide) ?_
        replace h := z_bd2 h
        obtain ⟨r22, u23, hq, h⟩ := h
        refine z_cvi (As := [.int (0 : Int32), .int (30 : Int32)]) C0 hml hl.1 hW hS (c_X8_number l D A b g hs (0 : Int32) (30 : Int32) u6 hq) mv_X5_57 (zk1 (hs 3 (by decide))) ⟨Nat.le_of_ble_eq_true rfl, Nat.le_of_ble_eq_true rfl⟩ rfl rfl (Nat.le_of_ble_eq_true rfl) dX5_readLine_67 (fun H locs hW hS => ?_)
        clear hq
        refine lv_istore_n (lv' := [(2, .int r22), (1, .int (2 : Int32)), (0, .ref (b + 29))]) hx hb dX5_readLine_70 rfl hl (by decide) rfl (fun ls hl => ?_)
        refine lv_aload_n hx hb dX5_readLine_71 rfl (lv_at hl 2 rfl) ?_
        refine z_getr (o := 3) C0 hW fl_X5_37 (zk1 (hs 29 (by decide))) rfl (zk3 (hs 29 (by decide)) 0) dX5_readLine_72 ?_
        refine z_ldcS (k := 32) (tx := "if") C0 (List.mem_of_getElem? (i := 32) rfl) dX5_readLine_75 ?_
        replace h := z_bd2 h
        obtain ⟨t24, u25, hq, h⟩ := h
        refine z_cvi (As := [.ref (sA D 32)]) C0 hml hl.1 hW hS (c_X8_takes l D A b g hs 32 (by decide) u23 hq) mv_X5_43 (zk1 (hs 3 (by decide))) ⟨Nat.le_of_ble_eq_true rfl, Nat.le_of_ble_eq_true rfl⟩ rfl rfl (Nat.le_of_ble_eq_true rfl) dX5_readLine_77 (fun H locs hW hS => ?_)
        clear hq
        refine z_ifeqZ C0 (tgt := 89) dX5_readLine_80 (by decide) (fun hc => ?_) (fun hc => ?_)
        · replace h := z_ff h hc
          clear hc
          refine lv_aload_n hx hb dX5_readLine_89 rfl (lv_at hl 2 rfl) ?_
          refine z_geti C0 hW fl_X5_30 (zk1 (hs 29 (by decide))) rfl dX5_readLine_90 ?_
          refine lv_bipush (v := (12 : Int32)) hx hb dX5_readLine_93 (by decide) ?_
          refine lv_icmp_ge (tgt := 141) hx hb dX5_readLine_95 (by decide) (fun hc => ?_) (fun hc => ?_)
          · replace h := z_t h hc
            clear hc
            cases h
            exact z_vret C0 hr hlk hW hS dX5_readLine_141
          · replace h := z_f h hc
            clear hc
            refine lv_aload_n hx hb dX5_readLine_98 rfl (lv_at hl 2 rfl) ?_
            refine z_getr (o := 30) C0 hW fl_X5_11 (zk1 (hs 29 (by decide))) rfl (zk3 (hs 29 (by decide)) 2) dX5_readLine_99 ?_
            refine lv_aload_n hx hb dX5_readLine_102 rfl (lv_at hl 2 rfl) ?_
            refine z_geti C0 hW fl_X5_30 (zk1 (hs 29 (by decide))) rfl dX5_readLine_103 ?_
            refine lv_iload_n hx hb dX5_readLine_106 rfl (lv_at hl 1 rfl) ?_
            replace h := z_if h
            obtain ⟨hin, h⟩ := h
            refine z_iast (n := 12) C0 hW hS (zk1 (hs 30 (by decide))) (zk2 (hs 30 (by decide))) hin rfl dX5_readLine_107 (fun H locs u26 e1 hW hS => ?_)
            replace h := z_ly h e1
            clear e1
            refine lv_aload_n hx hb dX5_readLine_108 rfl (lv_at hl 2 rfl) ?_
            refine z_getr (o := 31) C0 hW fl_X5_15 (zk1 (hs 29 (by decide))) rfl (zk3 (hs 29 (by decide)) 3) dX5_readLine_109 ?_
            refine lv_aload_n hx hb dX5_readLine_112 rfl (lv_at hl 2 rfl) ?_
            refine z_geti C0 hW fl_X5_30 (zk1 (hs 29 (by decide))) rfl dX5_readLine_113 ?_
            refine lv_iload_n hx hb dX5_readLine_116 rfl (lv_at hl 0 rfl) ?_
            replace h := z_if h
            obtain ⟨hin, h⟩ := h
            refine z_iast (n := 12) C0 hW hS (zk1 (hs 31 (by decide))) (zk2 (hs 31 (by decide))) hin rfl dX5_readLine_117 (fun H locs u27 e1 hW hS => ?_)
            replace h := z_ly h e1
            clear e1
            refine lv_aload_n hx hb dX5_readLine_118 rfl (lv_at hl 2 rfl) ?_
            refine z_getr (o := 32) C0 hW fl_X5_18 (zk1 (hs 29 (by decide))) rfl (zk3 (hs 29 (by decide)) 4) dX5_readLine_119 ?_
            refine lv_aload_n hx hb dX5_readLine_122 rfl (lv_at hl 2 rfl) ?_
            refine z_geti C0 hW fl_X5_30 (zk1 (hs 29 (by decide))) rfl dX5_readLine_123 ?_
            refine lv_aload_n hx hb dX5_readLine_126 rfl (lv_at hl 2 rfl) ?_
            refine z_geti C0 hW fl_X5_34 (zk1 (hs 29 (by decide))) rfl dX5_readLine_127 ?_
            replace h := z_if h
            obtain ⟨hin, h⟩ := h
            refine z_iast (n := 12) C0 hW hS (zk1 (hs 32 (by decide))) (zk2 (hs 32 (by decide))) hin rfl dX5_readLine_130 (fun H locs u28 e1 hW hS => ?_)
            replace h := z_ly h e1
            clear e1
            refine lv_aload_n hx hb dX5_readLine_131 rfl (lv_at hl 2 rfl) ?_
            refine lv_dup hx hb dX5_readLine_132 rfl ?_
            refine z_geti C0 hW fl_X5_30 (zk1 (hs 29 (by decide))) rfl dX5_readLine_133 ?_
            refine lv_iconst (v := (1 : Int32)) hx hb dX5_readLine_136 (by decide) ?_
            refine lv_iadd hx hb dX5_readLine_137 ?_
            refine z_puti C0 hW hS fl_X5_30 (zk1 (hs 29 (by decide))) rfl rfl rfl dX5_readLine_138 (fun H locs u29 e1 hW hS => ?_)
            replace h := z_ly h e1
            clear e1
            cases h
            exact z_vret C0 hr hlk hW hS dX5_readLine_141
        · replace h := z_t h hc
          clear hc
          refine lv_aload_n hx hb dX5_readLine_83 rfl (lv_at hl 2 rfl) ?_
          refine lv_iconst (v := (0 : Int32)) hx hb dX5_readLine_84 (by decide) ?_
          replace h := z_bd2 h
          obtain ⟨r30, u31, hq, h⟩ := h
          refine z_cvi (As := [.int (0 : Int32)]) C0 hml hl.1 hW hS (c_X5_readCondition l D A b g hs (fr := zFA 8) (lo := zLA 8) (by decide) (by decide) (fun q0 q1 q2 q3 h => c_X5_readAtom l D A b g hs 8 q0 q1 q2 q3 h) (0 : Int32) u25 hq) mv_X5_63 (zk1 (hs 29 (by decide))) ⟨Nat.le_of_ble_eq_true rfl, Nat.le_of_ble_eq_true rfl⟩ rfl rfl (Nat.le_of_ble_eq_true rfl) dX5_readLine_85 (fun H locs hW hS => ?_)
          clear hq
          refine lv_pop hx hb dX5_readLine_88 rfl ?_
          refine lv_aload_n hx hb dX5_readLine_89 rfl (lv_at hl 2 rfl) ?_
          refine z_geti C0 hW fl_X5_30 (zk1 (hs 29 (by decide))) rfl dX5_readLine_90 ?_
          refine lv_bipush (v := (12 : Int32)) hx hb dX5_readLine_93 (by decide) ?_
          refine lv_icmp_ge (tgt := 141) hx hb dX5_readLine_95 (by decide) (fun hc => ?_) (fun hc => ?_)
          · replace h := z_t h hc
            clear hc
            cases h
            exact z_vret C0 hr hlk hW hS dX5_readLine_141
          · replace h := z_f h hc
            clear hc
            refine lv_aload_n hx hb dX5_readLine_98 rfl (lv_at hl 2 rfl) ?_
            refine z_getr (o := 30) C0 hW fl_X5_11 (zk1 (hs 29 (by decide))) rfl (zk3 (hs 29 (by decide)) 2) dX5_readLine_99 ?_
            refine lv_aload_n hx hb dX5_readLine_102 rfl (lv_at hl 2 rfl) ?_
            refine z_geti C0 hW fl_X5_30 (zk1 (hs 29 (by decide))) rfl dX5_readLine_103 ?_
            refine lv_iload_n hx hb dX5_readLine_106 rfl (lv_at hl 1 rfl) ?_
            replace h := z_if h
            obtain ⟨hin, h⟩ := h
            refine z_iast (n := 12) C0 hW hS (zk1 (hs 30 (by decide))) (zk2 (hs 30 (by decide))) hin rfl dX5_readLine_107 (fun H locs u32 e1 hW hS => ?_)
            replace h := z_ly h e1
            clear e1
            refine lv_aload_n hx hb dX5_readLine_108 rfl (lv_at hl 2 rfl) ?_
            refine z_getr (o := 31) C0 hW fl_X5_15 (zk1 (hs 29 (by decide))) rfl (zk3 (hs 29 (by decide)) 3) dX5_readLine_109 ?_
            refine lv_aload_n hx hb dX5_readLine_112 rfl (lv_at hl 2 rfl) ?_
            refine z_geti C0 hW fl_X5_30 (zk1 (hs 29 (by decide))) rfl dX5_readLine_113 ?_
            refine lv_iload_n hx hb dX5_readLine_116 rfl (lv_at hl 0 rfl) ?_
            replace h := z_if h
            obtain ⟨hin, h⟩ := h
            refine z_iast (n := 12) C0 hW hS (zk1 (hs 31 (by decide))) (zk2 (hs 31 (by decide))) hin rfl dX5_readLine_117 (fun H locs u33 e1 hW hS => ?_)
            replace h := z_ly h e1
            clear e1
            refine lv_aload_n hx hb dX5_readLine_118 rfl (lv_at hl 2 rfl) ?_
            refine z_getr (o := 32) C0 hW fl_X5_18 (zk1 (hs 29 (by decide))) rfl (zk3 (hs 29 (by decide)) 4) dX5_readLine_119 ?_
            refine lv_aload_n hx hb dX5_readLine_122 rfl (lv_at hl 2 rfl) ?_
            refine z_geti C0 hW fl_X5_30 (zk1 (hs 29 (by decide))) rfl dX5_readLine_123 ?_
            refine lv_aload_n hx hb dX5_readLine_126 rfl (lv_at hl 2 rfl) ?_
            refine z_geti C0 hW fl_X5_34 (zk1 (hs 29 (by decide))) rfl dX5_readLine_127 ?_
            replace h := z_if h
            obtain ⟨hin, h⟩ := h
            refine z_iast (n := 12) C0 hW hS (zk1 (hs 32 (by decide))) (zk2 (hs 32 (by decide))) hin rfl dX5_readLine_130 (fun H locs u34 e1 hW hS => ?_)
            replace h := z_ly h e1
            clear e1
            refine lv_aload_n hx hb dX5_readLine_131 rfl (lv_at hl 2 rfl) ?_
            refine lv_dup hx hb dX5_readLine_132 rfl ?_
            refine z_geti C0 hW fl_X5_30 (zk1 (hs 29 (by decide))) rfl dX5_readLine_133 ?_
            refine lv_iconst (v := (1 : Int32)) hx hb dX5_readLine_136 (by decide) ?_
            refine lv_iadd hx hb dX5_readLine_137 ?_
            refine z_puti C0 hW hS fl_X5_30 (zk1 (hs 29 (by decide))) rfl rfl rfl dX5_readLine_138 (fun H locs u35 e1 hW hS => ?_)
            replace h := z_ly h e1
            clear e1
            cases h
            exact z_vret C0 hr hlk hW hS dX5_readLine_141
    · replace h := z_t h hc
      clear hc
      refine lv_iconst (v := (1 : Int32)) hx hb dX5_readLine_31 (by decide) ?_
      refine lv_istore_n (lv' := [(1, .int (1 : Int32)), (0, .ref (b + 29))]) hx hb dX5_readLine_32 rfl hl (by decide) rfl (fun ls hl => ?_)
      refine lv_goto (tgt := 60) hx hb dX5_readLine_33 (by decide) ?_
      refine lv_aload_n hx hb dX5_readLine_60 rfl (lv_at hl 1 rfl) ?_
      refine z_getr (o := 3) C0 hW fl_X5_37 (zk1 (hs 29 (by decide))) rfl (zk3 (hs 29 (by decide)) 0) dX5_readLine_61 ?_
      refine lv_iconst (v := (0 : Int32)) hx hb dX5_readLine_64 (by decide) ?_
      refine lv_bipush (v := (30 : Int32)) hx hb dX5_readLine_65 (by decide) ?_
      replace h := z_bd2 h
      obtain ⟨r36, u37, hq, h⟩ := h
      refine z_cvi (As := [.int (0 : Int32), .int (30 : Int32)]) C0 hml hl.1 hW hS (c_X8_number l D A b g hs (0 : Int32) (30 : Int32) u4 hq) mv_X5_57 (zk1 (hs 3 (by decide))) ⟨Nat.le_of_ble_eq_true rfl, Nat.le_of_ble_eq_true rfl⟩ rfl rfl (Nat.le_of_ble_eq_true rfl) dX5_readLine_67 (fun H locs hW hS => ?_)
      clear hq
      refine lv_istore_n (lv' := [(2, .int r36), (1, .int (1 : Int32)), (0, .ref (b + 29))]) hx hb dX5_readLine_70 rfl hl (by decide) rfl (fun ls hl => ?_)
      refine lv_aload_n hx hb dX5_readLine_71 rfl (lv_at hl 2 rfl) ?_
      refine z_getr (o := 3) C0 hW fl_X5_37 (zk1 (hs 29 (by decide))) rfl (zk3 (hs 29 (by decide)) 0) dX5_readLine_72 ?_
      refine z_ldcS (k := 32) (tx := "if") C0 (List.mem_of_getElem? (i := 32) rfl) dX5_readLine_75 ?_
      replace h := z_bd2 h
      obtain ⟨t38, u39, hq, h⟩ := h
      refine z_cvi (As := [.ref (sA D 32)]) C0 hml hl.1 hW hS (c_X8_takes l D A b g hs 32 (by decide) u37 hq) mv_X5_43 (zk1 (hs 3 (by decide))) ⟨Nat.le_of_ble_eq_true rfl, Nat.le_of_ble_eq_true rfl⟩ rfl rfl (Nat.le_of_ble_eq_true rfl) dX5_readLine_77 (fun H locs hW hS => ?_)
      clear hq
      refine z_ifeqZ C0 (tgt := 89) dX5_readLine_80 (by decide) (fun hc => ?_) (fun hc => ?_)
      · replace h := z_ff h hc
        clear hc
        refine lv_aload_n hx hb dX5_readLine_89 rfl (lv_at hl 2 rfl) ?_
        refine z_geti C0 hW fl_X5_30 (zk1 (hs 29 (by decide))) rfl dX5_readLine_90 ?_
        refine lv_bipush (v := (12 : Int32)) hx hb dX5_readLine_93 (by decide) ?_
        refine lv_icmp_ge (tgt := 141) hx hb dX5_readLine_95 (by decide) (fun hc => ?_) (fun hc => ?_)
        · replace h := z_t h hc
          clear hc
          cases h
          exact z_vret C0 hr hlk hW hS dX5_readLine_141
        · replace h := z_f h hc
          clear hc
          refine lv_aload_n hx hb dX5_readLine_98 rfl (lv_at hl 2 rfl) ?_
          refine z_getr (o := 30) C0 hW fl_X5_11 (zk1 (hs 29 (by decide))) rfl (zk3 (hs 29 (by decide)) 2) dX5_readLine_99 ?_
          refine lv_aload_n hx hb dX5_readLine_102 rfl (lv_at hl 2 rfl) ?_
          refine z_geti C0 hW fl_X5_30 (zk1 (hs 29 (by decide))) rfl dX5_readLine_103 ?_
          refine lv_iload_n hx hb dX5_readLine_106 rfl (lv_at hl 1 rfl) ?_
          replace h := z_if h
          obtain ⟨hin, h⟩ := h
          refine z_iast (n := 12) C0 hW hS (zk1 (hs 30 (by decide))) (zk2 (hs 30 (by decide))) hin rfl dX5_readLine_107 (fun H locs u40 e1 hW hS => ?_)
          replace h := z_ly h e1
          clear e1
          refine lv_aload_n hx hb dX5_readLine_108 rfl (lv_at hl 2 rfl) ?_
          refine z_getr (o := 31) C0 hW fl_X5_15 (zk1 (hs 29 (by decide))) rfl (zk3 (hs 29 (by decide)) 3) dX5_readLine_109 ?_
          refine lv_aload_n hx hb dX5_readLine_112 rfl (lv_at hl 2 rfl) ?_
          refine z_geti C0 hW fl_X5_30 (zk1 (hs 29 (by decide))) rfl dX5_readLine_113 ?_
          refine lv_iload_n hx hb dX5_readLine_116 rfl (lv_at hl 0 rfl) ?_
          replace h := z_if h
          obtain ⟨hin, h⟩ := h
          refine z_iast (n := 12) C0 hW hS (zk1 (hs 31 (by decide))) (zk2 (hs 31 (by decide))) hin rfl dX5_readLine_117 (fun H locs u41 e1 hW hS => ?_)
          replace h := z_ly h e1
          clear e1
          refine lv_aload_n hx hb dX5_readLine_118 rfl (lv_at hl 2 rfl) ?_
          refine z_getr (o := 32) C0 hW fl_X5_18 (zk1 (hs 29 (by decide))) rfl (zk3 (hs 29 (by decide)) 4) dX5_readLine_119 ?_
          refine lv_aload_n hx hb dX5_readLine_122 rfl (lv_at hl 2 rfl) ?_
          refine z_geti C0 hW fl_X5_30 (zk1 (hs 29 (by decide))) rfl dX5_readLine_123 ?_
          refine lv_aload_n hx hb dX5_readLine_126 rfl (lv_at hl 2 rfl) ?_
          refine z_geti C0 hW fl_X5_34 (zk1 (hs 29 (by decide))) rfl dX5_readLine_127 ?_
          replace h := z_if h
          obtain ⟨hin, h⟩ := h
          refine z_iast (n := 12) C0 hW hS (zk1 (hs 32 (by decide))) (zk2 (hs 32 (by decide))) hin rfl dX5_readLine_130 (fun H locs u42 e1 hW hS => ?_)
          replace h := z_ly h e1
          clear e1
          refine lv_aload_n hx hb dX5_readLine_131 rfl (lv_at hl 2 rfl) ?_
          refine lv_dup hx hb dX5_readLine_132 rfl ?_
          refine z_geti C0 hW fl_X5_30 (zk1 (hs 29 (by decide))) rfl dX5_readLine_133 ?_
          refine lv_iconst (v := (1 : Int32)) hx hb dX5_readLine_136 (by decide) ?_
          refine lv_iadd hx hb dX5_readLine_137 ?_
          refine z_puti C0 hW hS fl_X5_30 (zk1 (hs 29 (by decide))) rfl rfl rfl dX5_readLine_138 (fun H locs u43 e1 hW hS => ?_)
          replace h := z_ly h e1
          clear e1
          cases h
          exact z_vret C0 hr hlk hW hS dX5_readLine_141
      · replace h := z_t h hc
        clear hc
        refine lv_aload_n hx hb dX5_readLine_83 rfl (lv_at hl 2 rfl) ?_
        refine lv_iconst (v := (0 : Int32)) hx hb dX5_readLine_84 (by decide) ?_
        replace h := z_bd2 h
        obtain ⟨r44, u45, hq, h⟩ := h
        refine z_cvi (As := [.int (0 : Int32)]) C0 hml hl.1 hW hS (c_X5_readCondition l D A b g hs (fr := zFA 8) (lo := zLA 8) (by decide) (by decide) (fun q0 q1 q2 q3 h => c_X5_readAtom l D A b g hs 8 q0 q1 q2 q3 h) (0 : Int32) u39 hq) mv_X5_63 (zk1 (hs 29 (by decide))) ⟨Nat.le_of_ble_eq_true rfl, Nat.le_of_ble_eq_true rfl⟩ rfl rfl (Nat.le_of_ble_eq_true rfl) dX5_readLine_85 (fun H locs hW hS => ?_)
        clear hq
        refine lv_pop hx hb dX5_readLine_88 rfl ?_
        refine lv_aload_n hx hb dX5_readLine_89 rfl (lv_at hl 2 rfl) ?_
        refine z_geti C0 hW fl_X5_30 (zk1 (hs 29 (by decide))) rfl dX5_readLine_90 ?_
        refine lv_bipush (v := (12 : Int32)) hx hb dX5_readLine_93 (by decide) ?_
        refine lv_icmp_ge (tgt := 141) hx hb dX5_readLine_95 (by decide) (fun hc => ?_) (fun hc => ?_)
        · replace h := z_t h hc
          clear hc
          cases h
          exact z_vret C0 hr hlk hW hS dX5_readLine_141
        · replace h := z_f h hc
          clear hc
          refine lv_aload_n hx hb dX5_readLine_98 rfl (lv_at hl 2 rfl) ?_
          refine z_getr (o := 30) C0 hW fl_X5_11 (zk1 (hs 29 (by decide))) rfl (zk3 (hs 29 (by decide)) 2) dX5_readLine_99 ?_
          refine lv_aload_n hx hb dX5_readLine_102 rfl (lv_at hl 2 rfl) ?_
          refine z_geti C0 hW fl_X5_30 (zk1 (hs 29 (by decide))) rfl dX5_readLine_103 ?_
          refine lv_iload_n hx hb dX5_readLine_106 rfl (lv_at hl 1 rfl) ?_
          replace h := z_if h
          obtain ⟨hin, h⟩ := h
          refine z_iast (n := 12) C0 hW hS (zk1 (hs 30 (by decide))) (zk2 (hs 30 (by decide))) hin rfl dX5_readLine_107 (fun H locs u46 e1 hW hS => ?_)
          replace h := z_ly h e1
          clear e1
          refine lv_aload_n hx hb dX5_readLine_108 rfl (lv_at hl 2 rfl) ?_
          refine z_getr (o := 31) C0 hW fl_X5_15 (zk1 (hs 29 (by decide))) rfl (zk3 (hs 29 (by decide)) 3) dX5_readLine_109 ?_
          refine lv_aload_n hx hb dX5_readLine_112 rfl (lv_at hl 2 rfl) ?_
          refine z_geti C0 hW fl_X5_30 (zk1 (hs 29 (by decide))) rfl dX5_readLine_113 ?_
          refine lv_iload_n hx hb dX5_readLine_116 rfl (lv_at hl 0 rfl) ?_
          replace h := z_if h
          obtain ⟨hin, h⟩ := h
          refine z_iast (n := 12) C0 hW hS (zk1 (hs 31 (by decide))) (zk2 (hs 31 (by decide))) hin rfl dX5_readLine_117 (fun H locs u47 e1 hW hS => ?_)
          replace h := z_ly h e1
          clear e1
          refine lv_aload_n hx hb dX5_readLine_118 rfl (lv_at hl 2 rfl) ?_
          refine z_getr (o := 32) C0 hW fl_X5_18 (zk1 (hs 29 (by decide))) rfl (zk3 (hs 29 (by decide)) 4) dX5_readLine_119 ?_
          refine lv_aload_n hx hb dX5_readLine_122 rfl (lv_at hl 2 rfl) ?_
          refine z_geti C0 hW fl_X5_30 (zk1 (hs 29 (by decide))) rfl dX5_readLine_123 ?_
          refine lv_aload_n hx hb dX5_readLine_126 rfl (lv_at hl 2 rfl) ?_
          refine z_geti C0 hW fl_X5_34 (zk1 (hs 29 (by decide))) rfl dX5_readLine_127 ?_
          replace h := z_if h
          obtain ⟨hin, h⟩ := h
          refine z_iast (n := 12) C0 hW hS (zk1 (hs 32 (by decide))) (zk2 (hs 32 (by decide))) hin rfl dX5_readLine_130 (fun H locs u48 e1 hW hS => ?_)
          replace h := z_ly h e1
          clear e1
          refine lv_aload_n hx hb dX5_readLine_131 rfl (lv_at hl 2 rfl) ?_
          refine lv_dup hx hb dX5_readLine_132 rfl ?_
          refine z_geti C0 hW fl_X5_30 (zk1 (hs 29 (by decide))) rfl dX5_readLine_133 ?_
          refine lv_iconst (v := (1 : Int32)) hx hb dX5_readLine_136 (by decide) ?_
          refine lv_iadd hx hb dX5_readLine_137 ?_
          refine z_puti C0 hW hS fl_X5_30 (zk1 (hs 29 (by decide))) rfl rfl rfl dX5_readLine_138 (fun H locs u49 e1 hW hS => ?_)
          replace h := z_ly h e1
          clear e1
          cases h
          exact z_vret C0 hr hlk hW hS dX5_readLine_141
  · replace h := z_t h hc
    clear hc
    refine lv_iconst (v := (0 : Int32)) hx hb dX5_readLine_14 (by decide) ?_
    refine lv_istore_n (lv' := [(1, .int (0 : Int32)), (0, .ref (b + 29))]) hx hb dX5_readLine_15 rfl hl (by decide) rfl (fun ls hl => ?_)
    refine lv_goto (tgt := 60) hx hb dX5_readLine_16 (by decide) ?_
    refine lv_aload_n hx hb dX5_readLine_60 rfl (lv_at hl 1 rfl) ?_
    refine z_getr (o := 3) C0 hW fl_X5_37 (zk1 (hs 29 (by decide))) rfl (zk3 (hs 29 (by decide)) 0) dX5_readLine_61 ?_
    refine lv_iconst (v := (0 : Int32)) hx hb dX5_readLine_64 (by decide) ?_
    refine lv_bipush (v := (30 : Int32)) hx hb dX5_readLine_65 (by decide) ?_
    replace h := z_bd2 h
    obtain ⟨r50, u51, hq, h⟩ := h
    refine z_cvi (As := [.int (0 : Int32), .int (30 : Int32)]) C0 hml hl.1 hW hS (c_X8_number l D A b g hs (0 : Int32) (30 : Int32) u2 hq) mv_X5_57 (zk1 (hs 3 (by decide))) ⟨Nat.le_of_ble_eq_true rfl, Nat.le_of_ble_eq_true rfl⟩ rfl rfl (Nat.le_of_ble_eq_true rfl) dX5_readLine_67 (fun H locs hW hS => ?_)
    clear hq
    refine lv_istore_n (lv' := [(2, .int r50), (1, .int (0 : Int32)), (0, .ref (b + 29))]) hx hb dX5_readLine_70 rfl hl (by decide) rfl (fun ls hl => ?_)
    refine lv_aload_n hx hb dX5_readLine_71 rfl (lv_at hl 2 rfl) ?_
    refine z_getr (o := 3) C0 hW fl_X5_37 (zk1 (hs 29 (by decide))) rfl (zk3 (hs 29 (by decide)) 0) dX5_readLine_72 ?_
    refine z_ldcS (k := 32) (tx := "if") C0 (List.mem_of_getElem? (i := 32) rfl) dX5_readLine_75 ?_
    replace h := z_bd2 h
    obtain ⟨t52, u53, hq, h⟩ := h
    refine z_cvi (As := [.ref (sA D 32)]) C0 hml hl.1 hW hS (c_X8_takes l D A b g hs 32 (by decide) u51 hq) mv_X5_43 (zk1 (hs 3 (by decide))) ⟨Nat.le_of_ble_eq_true rfl, Nat.le_of_ble_eq_true rfl⟩ rfl rfl (Nat.le_of_ble_eq_true rfl) dX5_readLine_77 (fun H locs hW hS => ?_)
    clear hq
    refine z_ifeqZ C0 (tgt := 89) dX5_readLine_80 (by decide) (fun hc => ?_) (fun hc => ?_)
    · replace h := z_ff h hc
      clear hc
      refine lv_aload_n hx hb dX5_readLine_89 rfl (lv_at hl 2 rfl) ?_
      refine z_geti C0 hW fl_X5_30 (zk1 (hs 29 (by decide))) rfl dX5_readLine_90 ?_
      refine lv_bipush (v := (12 : Int32)) hx hb dX5_readLine_93 (by decide) ?_
      refine lv_icmp_ge (tgt := 141) hx hb dX5_readLine_95 (by decide) (fun hc => ?_) (fun hc => ?_)
      · replace h := z_t h hc
        clear hc
        cases h
        exact z_vret C0 hr hlk hW hS dX5_readLine_141
      · replace h := z_f h hc
        clear hc
        refine lv_aload_n hx hb dX5_readLine_98 rfl (lv_at hl 2 rfl) ?_
        refine z_getr (o := 30) C0 hW fl_X5_11 (zk1 (hs 29 (by decide))) rfl (zk3 (hs 29 (by decide)) 2) dX5_readLine_99 ?_
        refine lv_aload_n hx hb dX5_readLine_102 rfl (lv_at hl 2 rfl) ?_
        refine z_geti C0 hW fl_X5_30 (zk1 (hs 29 (by decide))) rfl dX5_readLine_103 ?_
        refine lv_iload_n hx hb dX5_readLine_106 rfl (lv_at hl 1 rfl) ?_
        replace h := z_if h
        obtain ⟨hin, h⟩ := h
        refine z_iast (n := 12) C0 hW hS (zk1 (hs 30 (by decide))) (zk2 (hs 30 (by decide))) hin rfl dX5_readLine_107 (fun H locs u54 e1 hW hS => ?_)
        replace h := z_ly h e1
        clear e1
        refine lv_aload_n hx hb dX5_readLine_108 rfl (lv_at hl 2 rfl) ?_
        refine z_getr (o := 31) C0 hW fl_X5_15 (zk1 (hs 29 (by decide))) rfl (zk3 (hs 29 (by decide)) 3) dX5_readLine_109 ?_
        refine lv_aload_n hx hb dX5_readLine_112 rfl (lv_at hl 2 rfl) ?_
        refine z_geti C0 hW fl_X5_30 (zk1 (hs 29 (by decide))) rfl dX5_readLine_113 ?_
        refine lv_iload_n hx hb dX5_readLine_116 rfl (lv_at hl 0 rfl) ?_
        replace h := z_if h
        obtain ⟨hin, h⟩ := h
        refine z_iast (n := 12) C0 hW hS (zk1 (hs 31 (by decide))) (zk2 (hs 31 (by decide))) hin rfl dX5_readLine_117 (fun H locs u55 e1 hW hS => ?_)
        replace h := z_ly h e1
        clear e1
        refine lv_aload_n hx hb dX5_readLine_118 rfl (lv_at hl 2 rfl) ?_
        refine z_getr (o := 32) C0 hW fl_X5_18 (zk1 (hs 29 (by decide))) rfl (zk3 (hs 29 (by decide)) 4) dX5_readLine_119 ?_
        refine lv_aload_n hx hb dX5_readLine_122 rfl (lv_at hl 2 rfl) ?_
        refine z_geti C0 hW fl_X5_30 (zk1 (hs 29 (by decide))) rfl dX5_readLine_123 ?_
        refine lv_aload_n hx hb dX5_readLine_126 rfl (lv_at hl 2 rfl) ?_
        refine z_geti C0 hW fl_X5_34 (zk1 (hs 29 (by decide))) rfl dX5_readLine_127 ?_
        replace h := z_if h
        obtain ⟨hin, h⟩ := h
        refine z_iast (n := 12) C0 hW hS (zk1 (hs 32 (by decide))) (zk2 (hs 32 (by decide))) hin rfl dX5_readLine_130 (fun H locs u56 e1 hW hS => ?_)
        replace h := z_ly h e1
        clear e1
        refine lv_aload_n hx hb dX5_readLine_131 rfl (lv_at hl 2 rfl) ?_
        refine lv_dup hx hb dX5_readLine_132 rfl ?_
        refine z_geti C0 hW fl_X5_30 (zk1 (hs 29 (by decide))) rfl dX5_readLine_133 ?_
        refine lv_iconst (v := (1 : Int32)) hx hb dX5_readLine_136 (by decide) ?_
        refine lv_iadd hx hb dX5_readLine_137 ?_
        refine z_puti C0 hW hS fl_X5_30 (zk1 (hs 29 (by decide))) rfl rfl rfl dX5_readLine_138 (fun H locs u57 e1 hW hS => ?_)
        replace h := z_ly h e1
        clear e1
        cases h
        exact z_vret C0 hr hlk hW hS dX5_readLine_141
    · replace h := z_t h hc
      clear hc
      refine lv_aload_n hx hb dX5_readLine_83 rfl (lv_at hl 2 rfl) ?_
      refine lv_iconst (v := (0 : Int32)) hx hb dX5_readLine_84 (by decide) ?_
      replace h := z_bd2 h
      obtain ⟨r58, u59, hq, h⟩ := h
      refine z_cvi (As := [.int (0 : Int32)]) C0 hml hl.1 hW hS (c_X5_readCondition l D A b g hs (fr := zFA 8) (lo := zLA 8) (by decide) (by decide) (fun q0 q1 q2 q3 h => c_X5_readAtom l D A b g hs 8 q0 q1 q2 q3 h) (0 : Int32) u53 hq) mv_X5_63 (zk1 (hs 29 (by decide))) ⟨Nat.le_of_ble_eq_true rfl, Nat.le_of_ble_eq_true rfl⟩ rfl rfl (Nat.le_of_ble_eq_true rfl) dX5_readLine_85 (fun H locs hW hS => ?_)
      clear hq
      refine lv_pop hx hb dX5_readLine_88 rfl ?_
      refine lv_aload_n hx hb dX5_readLine_89 rfl (lv_at hl 2 rfl) ?_
      refine z_geti C0 hW fl_X5_30 (zk1 (hs 29 (by decide))) rfl dX5_readLine_90 ?_
      refine lv_bipush (v := (12 : Int32)) hx hb dX5_readLine_93 (by decide) ?_
      refine lv_icmp_ge (tgt := 141) hx hb dX5_readLine_95 (by decide) (fun hc => ?_) (fun hc => ?_)
      · replace h := z_t h hc
        clear hc
        cases h
        exact z_vret C0 hr hlk hW hS dX5_readLine_141
      · replace h := z_f h hc
        clear hc
        refine lv_aload_n hx hb dX5_readLine_98 rfl (lv_at hl 2 rfl) ?_
        refine z_getr (o := 30) C0 hW fl_X5_11 (zk1 (hs 29 (by decide))) rfl (zk3 (hs 29 (by decide)) 2) dX5_readLine_99 ?_
        refine lv_aload_n hx hb dX5_readLine_102 rfl (lv_at hl 2 rfl) ?_
        refine z_geti C0 hW fl_X5_30 (zk1 (hs 29 (by decide))) rfl dX5_readLine_103 ?_
        refine lv_iload_n hx hb dX5_readLine_106 rfl (lv_at hl 1 rfl) ?_
        replace h := z_if h
        obtain ⟨hin, h⟩ := h
        refine z_iast (n := 12) C0 hW hS (zk1 (hs 30 (by decide))) (zk2 (hs 30 (by decide))) hin rfl dX5_readLine_107 (fun H locs u60 e1 hW hS => ?_)
        replace h := z_ly h e1
        clear e1
        refine lv_aload_n hx hb dX5_readLine_108 rfl (lv_at hl 2 rfl) ?_
        refine z_getr (o := 31) C0 hW fl_X5_15 (zk1 (hs 29 (by decide))) rfl (zk3 (hs 29 (by decide)) 3) dX5_readLine_109 ?_
        refine lv_aload_n hx hb dX5_readLine_112 rfl (lv_at hl 2 rfl) ?_
        refine z_geti C0 hW fl_X5_30 (zk1 (hs 29 (by decide))) rfl dX5_readLine_113 ?_
        refine lv_iload_n hx hb dX5_readLine_116 rfl (lv_at hl 0 rfl) ?_
        replace h := z_if h
        obtain ⟨hin, h⟩ := h
        refine z_iast (n := 12) C0 hW hS (zk1 (hs 31 (by decide))) (zk2 (hs 31 (by decide))) hin rfl dX5_readLine_117 (fun H locs u61 e1 hW hS => ?_)
        replace h := z_ly h e1
        clear e1
        refine lv_aload_n hx hb dX5_readLine_118 rfl (lv_at hl 2 rfl) ?_
        refine z_getr (o := 32) C0 hW fl_X5_18 (zk1 (hs 29 (by decide))) rfl (zk3 (hs 29 (by decide)) 4) dX5_readLine_119 ?_
        refine lv_aload_n hx hb dX5_readLine_122 rfl (lv_at hl 2 rfl) ?_
        refine z_geti C0 hW fl_X5_30 (zk1 (hs 29 (by decide))) rfl dX5_readLine_123 ?_
        refine lv_aload_n hx hb dX5_readLine_126 rfl (lv_at hl 2 rfl) ?_
        refine z_geti C0 hW fl_X5_34 (zk1 (hs 29 (by decide))) rfl dX5_readLine_127 ?_
        replace h := z_if h
        obtain ⟨hin, h⟩ := h
        refine z_iast (n := 12) C0 hW hS (zk1 (hs 32 (by decide))) (zk2 (hs 32 (by decide))) hin rfl dX5_readLine_130 (fun H locs u62 e1 hW hS => ?_)
        replace h := z_ly h e1
        clear e1
        refine lv_aload_n hx hb dX5_readLine_131 rfl (lv_at hl 2 rfl) ?_
        refine lv_dup hx hb dX5_readLine_132 rfl ?_
        refine z_geti C0 hW fl_X5_30 (zk1 (hs 29 (by decide))) rfl dX5_readLine_133 ?_
        refine lv_iconst (v := (1 : Int32)) hx hb dX5_readLine_136 (by decide) ?_
        refine lv_iadd hx hb dX5_readLine_137 ?_
        refine z_puti C0 hW hS fl_X5_30 (zk1 (hs 29 (by decide))) rfl rfl rfl dX5_readLine_138 (fun H locs u63 e1 hW hS => ?_)
        replace h := z_ly h e1
        clear e1
        cases h
        exact z_vret C0 hr hlk hW hS dX5_readLine_141
