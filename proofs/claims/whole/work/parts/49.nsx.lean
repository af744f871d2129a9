set_option maxRecDepth 100000 in
set_option maxHeartbeats 4000000 in
theorem t_X10_rider (l : Launch) (D : zD) (A : Nat → Prop) (b : Nat) (G : zG) (q : zq) (hT : zTop G q) (hst : l.stackTraces = false) (a1 : Int32) (a2 : Int32) (u : zU) {E : String} {q' : zq} {u' : zU} (h : f_X10_rider q a1 a2 u = some (.inl E, q', u')) : z_TX l D A b G yX10_rider cX10_rider 4 (some .int) 7 111 [.ref (b + 0), .int a1, .int a2] q u E q' u' := by
  refine z_enterX (by decide) (Nat.le_of_ble_eq_true rfl) ?_
  intro p e s m below meth c ls C0 hex hml hlk hW hS hl
  have hl : lv_has ls 4 [(0, .ref (b + 0)), (1, .int a1), (2, .int a2)] := hl
  have hx := C0.1
  have hb := C0.2.1
  have hs := hT.1
  rw [f_X10_rider_e] at h
  refine lv_aload_n hx hb dX10_rider_0 rfl (lv_at hl 0 rfl) ?_
  refine lv_iload_n hx hb dX10_rider_1 rfl (lv_at hl 1 rfl) ?_
  replace h := z_bxd h
  rcases h with ⟨E1, hq, hE⟩ | ⟨w1, q3, u2, hq, h⟩
  · cases hE
    exact z_cvX (As := [.int a1]) C0 hml hl.1 hW hS hex hlk (t_X10_needRider l D A b G (q) hT hst a1 u hq) mv_X10_136 (zk1 (hs 0 (by decide))) ⟨Nat.le_of_ble_eq_true rfl, Nat.le_of_ble_eq_true rfl⟩ ⟨Nat.le_of_ble_eq_true rfl, Nat.le_of_ble_eq_true rfl⟩ rfl rfl (Nat.le_of_ble_eq_true rfl) dX10_rider_2
  · refine z_cvTv (As := [.int a1]) C0 hml hl.1 hW hS (c_X10_needRider l D A b G (q) hT a1 u hq) mv_X10_136 (zk1 (hs 0 (by decide))) ⟨Nat.le_of_ble_eq_true rfl, Nat.le_of_ble_eq_true rfl⟩ rfl rfl (Nat.le_of_ble_eq_true rfl) dX10_rider_2 (fun H locs hW hS hT => ?_)
    clear hq
    have hs := hT.1
    refine lv_aload_n hx hb dX10_rider_5 rfl (lv_at hl 0 rfl) ?_
    refine z_getr (o := 6) C0 hW fl_X10_28 (zk1 (hs 0 (by decide))) rfl (zk3 (hs 0 (by decide)) 2) dX10_rider_6 ?_
    refine z_getr (o := 7) C0 hW fl_X10_139 (zT0 hT).1 rfl ((zT0 hT).2.1 0 (by decide)).1 dX10_rider_9 ?_
    refine lv_iload_n hx hb dX10_rider_12 rfl (lv_at hl 1 rfl) ?_
    replace h := z_if h
    obtain ⟨hin, h⟩ := h
    refine z_iald (n := 8) C0 hW ((zT0 hT).2.1 0 (by decide)).2.1 ((zT0 hT).2.1 0 (by decide)).2.2 hin rfl dX10_rider_13 ?_
    clear hin
    refine lv_topi (fun z4 e1 => ?_)
    replace h := z_ly h e1
    clear e1
    refine lv_istore_n (lv' := [(3, .int z4), (0, .ref (b + 0)), (1, .int a1), (2, .int a2)]) hx hb dX10_rider_14 rfl hl (by decide) rfl (fun ls hl => ?_)
    refine lv_iload_n hx hb dX10_rider_15 rfl (lv_at hl 3 rfl) ?_
    by_cases hn0 : a2 = (0 : Int32)
    · replace h := z_t h hn0
      refine lv_tableIn (off := 48) (tgt := 64) hx hb dX10_rider_16 (z_swa hn0 0 7 0 (by decide)).1 (z_swa hn0 0 7 0 (by decide)).2.1 (by rw [(z_swa hn0 0 7 0 (by decide)).2.2]; rfl) (by decide) ?_
      refine lv_iload_n hx hb dX10_rider_64 rfl (lv_at hl 0 rfl) ?_
      cases h
    · replace h := z_f h hn0
      by_cases hn1 : a2 = (1 : Int32)
      · replace h := z_t h hn1
        refine lv_tableIn (off := 50) (tgt := 66) hx hb dX10_rider_16 (z_swa hn1 0 7 1 (by decide)).1 (z_swa hn1 0 7 1 (by decide)).2.1 (by rw [(z_swa hn1 0 7 1 (by decide)).2.2]; rfl) (by decide) ?_
        refine lv_aload_n hx hb dX10_rider_66 rfl (lv_at hl 1 rfl) ?_
        refine z_getr (o := 6) C0 hW fl_X10_28 (zk1 (hs 0 (by decide))) rfl (zk3 (hs 0 (by decide)) 2) dX10_rider_67 ?_
        refine z_getr (o := 8) C0 hW fl_X10_143 (zT0 hT).1 rfl ((zT0 hT).2.1 1 (by decide)).1 dX10_rider_70 ?_
        refine lv_iload_n hx hb dX10_rider_73 rfl (lv_at hl 2 rfl) ?_
        replace h := z_if h
        obtain ⟨hin, h⟩ := h
        refine z_iald (n := 8) C0 hW ((zT0 hT).2.1 1 (by decide)).2.1 ((zT0 hT).2.1 1 (by decide)).2.2 hin rfl dX10_rider_74 ?_
        clear hin
        refine lv_topi (fun z12 e1 => ?_)
        replace h := z_ly h e1
        clear e1
        cases h
      · replace h := z_f h hn1
        by_cases hn2 : a2 = (2 : Int32)
        · replace h := z_t h hn2
          refine lv_tableIn (off := 60) (tgt := 76) hx hb dX10_rider_16 (z_swa hn2 0 7 2 (by decide)).1 (z_swa hn2 0 7 2 (by decide)).2.1 (by rw [(z_swa hn2 0 7 2 (by decide)).2.2]; rfl) (by decide) ?_
          refine lv_aload_n hx hb dX10_rider_76 rfl (lv_at hl 1 rfl) ?_
          refine z_getr (o := 6) C0 hW fl_X10_28 (zk1 (hs 0 (by decide))) rfl (zk3 (hs 0 (by decide)) 2) dX10_rider_77 ?_
          refine z_getr (o := 9) C0 hW fl_X10_146 (zT0 hT).1 rfl ((zT0 hT).2.1 2 (by decide)).1 dX10_rider_80 ?_
          refine lv_iload_n hx hb dX10_rider_83 rfl (lv_at hl 2 rfl) ?_
          replace h := z_if h
          obtain ⟨hin, h⟩ := h
          refine z_iald (n := 8) C0 hW ((zT0 hT).2.1 2 (by decide)).2.1 ((zT0 hT).2.1 2 (by decide)).2.2 hin rfl dX10_rider_84 ?_
          clear hin
          refine lv_topi (fun z11 e1 => ?_)
          replace h := z_ly h e1
          clear e1
          cases h
        · replace h := z_f h hn2
          by_cases hn3 : a2 = (3 : Int32)
          · replace h := z_t h hn3
            refine lv_tableIn (off := 70) (tgt := 86) hx hb dX10_rider_16 (z_swa hn3 0 7 3 (by decide)).1 (z_swa hn3 0 7 3 (by decide)).2.1 (by rw [(z_swa hn3 0 7 3 (by decide)).2.2]; rfl) (by decide) ?_
            refine lv_aload_n hx hb dX10_rider_86 rfl (lv_at hl 1 rfl) ?_
            refine z_getr (o := 6) C0 hW fl_X10_28 (zk1 (hs 0 (by decide))) rfl (zk3 (hs 0 (by decide)) 2) dX10_rider_87 ?_
            refine z_getr (o := 10) C0 hW fl_X10_149 (zT0 hT).1 rfl ((zT0 hT).2.1 3 (by decide)).1 dX10_rider_90 ?_
            refine lv_iload_n hx hb dX10_rider_93 rfl (lv_at hl 2 rfl) ?_
            replace h := z_if h
            obtain ⟨hin, h⟩ := h
            refine z_iald (n := 8) C0 hW ((zT0 hT).2.1 3 (by decide)).2.1 ((zT0 hT).2.1 3 (by decide)).2.2 hin rfl dX10_rider_94 ?_
            clear hin
            refine lv_topi (fun z10 e1 => ?_)
            replace h := z_ly h e1
            clear e1
            cases h
          · replace h := z_f h hn3
            by_cases hn4 : a2 = (4 : Int32)
            · replace h := z_t h hn4
              refine lv_tableIn (off := 80) (tgt := 96) hx hb dX10_rider_16 (z_swa hn4 0 7 4 (by decide)).1 (z_swa hn4 0 7 4 (by decide)).2.1 (by rw [(z_swa hn4 0 7 4 (by decide)).2.2]; rfl) (by decide) ?_
              refine lv_iload_n hx hb dX10_rider_96 rfl (lv_at hl 0 rfl) ?_
              refine lv_iconst (v := (-1 : Int32)) hx hb dX10_rider_97 (by decide) ?_
              refine lv_icmp_ne (tgt := 105) hx hb dX10_rider_98 (by decide) (fun hc => ?_) (fun hc => ?_)
              · replace h := z_f h hc
                clear hc
                refine lv_aload_n hx hb dX10_rider_105 rfl (lv_at hl 1 rfl) ?_
                refine z_getr (o := 6) C0 hW fl_X10_28 (zk1 (hs 0 (by decide))) rfl (zk3 (hs 0 (by decide)) 2) dX10_rider_106 ?_
                refine lv_iload_n hx hb dX10_rider_109 rfl (lv_at hl 2 rfl) ?_
                refine lv_aload_n hx hb dX10_rider_110 rfl (lv_at hl 1 rfl) ?_
                refine z_getr (o := 6) C0 hW fl_X10_28 (zk1 (hs 0 (by decide))) rfl (zk3 (hs 0 (by decide)) 2) dX10_rider_111 ?_
                refine z_geti C0 hW fl_X10_152 (zT0 hT).1 rfl dX10_rider_114 ?_
                replace h := z_bd2 h
                obtain ⟨r8, u9, hq, h⟩ := h
                refine z_cvi (As := [.int a1, .int (u2 6 10)]) C0 hml hl.1 hW hS (c_X9_owesBy l D A b (zg G q3) 6 (q3 0) (zT0 hT) a1 (u2 6 10) u2 hq) mv_X10_155 (zT0 hT).1 ⟨Nat.le_of_ble_eq_true rfl, Nat.le_of_ble_eq_true rfl⟩ rfl rfl (Nat.le_of_ble_eq_true rfl) dX10_rider_117 (fun H locs hW hS => ?_)
                clear hq
                cases h
              · replace h := z_t h hc
                clear hc
                refine lv_iconst (v := (0 : Int32)) hx hb dX10_rider_101 (by decide) ?_
                refine lv_goto (tgt := 120) hx hb dX10_rider_102 (by decide) ?_
                cases h
            · replace h := z_f h hn4
              by_cases hn5 : a2 = (5 : Int32)
              · replace h := z_t h hn5
                refine lv_tableIn (off := 105) (tgt := 121) hx hb dX10_rider_16 (z_swa hn5 0 7 5 (by decide)).1 (z_swa hn5 0 7 5 (by decide)).2.1 (by rw [(z_swa hn5 0 7 5 (by decide)).2.2]; rfl) (by decide) ?_
                refine lv_iload_n hx hb dX10_rider_121 rfl (lv_at hl 0 rfl) ?_
                refine lv_iconst (v := (-1 : Int32)) hx hb dX10_rider_122 (by decide) ?_
                refine lv_icmp_ne (tgt := 130) hx hb dX10_rider_123 (by decide) (fun hc => ?_) (fun hc => ?_)
                · replace h := z_f h hc
                  clear hc
                  refine lv_aload_n hx hb dX10_rider_130 rfl (lv_at hl 1 rfl) ?_
                  refine z_getr (o := 6) C0 hW fl_X10_28 (zk1 (hs 0 (by decide))) rfl (zk3 (hs 0 (by decide)) 2) dX10_rider_131 ?_
                  refine lv_iload_n hx hb dX10_rider_134 rfl (lv_at hl 0 rfl) ?_
                  obtain ⟨r7, hq⟩ : ∃ y, f_X9_height 6 (q3 0) z4 u2 = y := ⟨_, rfl⟩
                  replace h := z_lz h hq
                  refine z_cvi (As := [.int z4]) C0 hml hl.1 hW hS (c_X9_height l D A b (zg G q3) 6 (q3 0) (zT0 hT) z4 u2 hq) mv_X10_159 (zT0 hT).1 ⟨Nat.le_of_ble_eq_true rfl, Nat.le_of_ble_eq_true rfl⟩ rfl rfl (Nat.le_of_ble_eq_true rfl) dX10_rider_135 (fun H locs hW hS => ?_)
                  clear hq
                  cases h
                · replace h := z_t h hc
                  clear hc
                  refine lv_iconst (v := (-1 : Int32)) hx hb dX10_rider_126 (by decide) ?_
                  refine lv_goto (tgt := 138) hx hb dX10_rider_127 (by decide) ?_
                  cases h
              · replace h := z_f h hn5
                by_cases hn6 : a2 = (6 : Int32)
                · replace h := z_t h hn6
                  refine lv_tableIn (off := 123) (tgt := 139) hx hb dX10_rider_16 (z_swa hn6 0 7 6 (by decide)).1 (z_swa hn6 0 7 6 (by decide)).2.1 (by rw [(z_swa hn6 0 7 6 (by decide)).2.2]; rfl) (by decide) ?_
                  refine lv_aload_n hx hb dX10_rider_139 rfl (lv_at hl 1 rfl) ?_
                  refine lv_iload_n hx hb dX10_rider_140 rfl (lv_at hl 2 rfl) ?_
                  replace h := z_bd h
                  obtain ⟨r6, hq, h⟩ := h
                  refine z_cvi (As := [.int a1]) C0 hml hl.1 hW hS (c_X10_levelWith l D A b G (q3) hT a1 u2 hq) mv_X10_163 (zk1 (hs 0 (by decide))) ⟨Nat.le_of_ble_eq_true rfl, Nat.le_of_ble_eq_true rfl⟩ rfl rfl (Nat.le_of_ble_eq_true rfl) dX10_rider_141 (fun H locs hW hS => ?_)
                  clear hq
                  cases h
                · replace h := z_f h hn6
                  by_cases hn7 : a2 = (7 : Int32)
                  · replace h := z_t h hn7
                    refine lv_tableIn (off := 129) (tgt := 145) hx hb dX10_rider_16 (z_swa hn7 0 7 7 (by decide)).1 (z_swa hn7 0 7 7 (by decide)).2.1 (by rw [(z_swa hn7 0 7 7 (by decide)).2.2]; rfl) (by decide) ?_
                    refine lv_aload_n hx hb dX10_rider_145 rfl (lv_at hl 1 rfl) ?_
                    refine z_getr (o := 6) C0 hW fl_X10_28 (zk1 (hs 0 (by decide))) rfl (zk3 (hs 0 (by decide)) 2) dX10_rider_146 ?_
                    refine lv_iload_n hx hb dX10_rider_149 rfl (lv_at hl 2 rfl) ?_
                    replace h := z_bd h
                    obtain ⟨r5, hq, h⟩ := h
                    refine z_cvi (As := [.int a1]) C0 hml hl.1 hW hS (c_X9_queuedAt l D A b (zg G q3) 6 (q3 0) (zT0 hT) a1 u2 hq) mv_X10_166 (zT0 hT).1 ⟨Nat.le_of_ble_eq_true rfl, Nat.le_of_ble_eq_true rfl⟩ rfl rfl (Nat.le_of_ble_eq_true rfl) dX10_rider_150 (fun H locs hW hS => ?_)
                    clear hq
                    cases h
                  · replace h := z_f h hn7
                    refine lv_tableOut (tgt := 154) hx hb dX10_rider_16 (z_sw 0 7 (by decide) (fun k h1 h2 => ?_)) (by decide) ?_
                    · rcases (show k = 0 ∨ k = 1 ∨ k = 2 ∨ k = 3 ∨ k = 4 ∨ k = 5 ∨ k = 6 ∨ k = 7 by omega) with rfl | rfl | rfl | rfl | rfl | rfl | rfl | rfl
                      · exact hn0
                      · exact hn1
                      · exact hn2
                      · exact hn3
                      · exact hn4
                      · exact hn5
                      · exact hn6
                      · exact hn7
                    · cases h
                      exact z_thrN (k := 2) (tx := "a rider has no such thing") C0 hst hml hl.1 hW hS hT hex hlk twn_169_173 (List.mem_of_getElem? (i := 2) rfl) ⟨Nat.le_of_ble_eq_true rfl, Nat.le_of_ble_eq_true rfl⟩ ⟨Nat.le_of_ble_eq_true rfl, Nat.le_of_ble_eq_true rfl⟩ dX10_rider_154 dX10_rider_157 dX10_rider_158 dX10_rider_160 dX10_rider_163
set_option maxRecDepth 100000 in
set_option maxHeartbeats 4000000 in
theorem t_X10_cradle (l : Launch) (D : zD) (A : Nat → Prop) (b : Nat) (G : zG) (q : zq) (hT : zTop G q) (hst : l.stackTraces = false) (a1 : Int32) (a2 : Int32) (u : zU) {E : String} {q' : zq} {u' : zU} (h : f_X10_cradle q a1 a2 u = some (.inl E, q', u')) : z_TX l D A b G yX10_cradle cX10_cradle 3 (some .int) 7 110 [.ref (b + 0), .int a1, .int a2] q u E q' u' := by
  refine z_enterX (by decide) (Nat.le_of_ble_eq_true rfl) ?_
  intro p e s m below meth c ls C0 hex hml hlk hW hS hl
  have hl : lv_has ls 3 [(0, .ref (b + 0)), (1, .int a1), (2, .int a2)] := hl
  have hx := C0.1
  have hb := C0.2.1
  have hs := hT.1
  rw [f_X10_cradle_e] at h
  refine lv_iload_n hx hb dX10_cradle_0 rfl (lv_at hl 1 rfl) ?_
  replace h := z_bxd h
  rcases h with ⟨E1, hq, hE⟩ | ⟨w1, q3, u2, hq, h⟩
  · cases hE
    exact z_csX (As := [.int a1]) C0 hml hl.1 hW hS hex hlk (t_X10_needCradle l D A b G (q) hT hst a1 u hq) ms_X10_174 ⟨Nat.le_of_ble_eq_true rfl, Nat.le_of_ble_eq_true rfl⟩ ⟨Nat.le_of_ble_eq_true rfl, Nat.le_of_ble_eq_true rfl⟩ rfl rfl (Nat.le_of_ble_eq_true rfl) dX10_cradle_1
  · refine z_csTv (As := [.int a1]) C0 hml hl.1 hW hS (c_X10_needCradle l D A b G (q) hT a1 u hq) ms_X10_174 ⟨Nat.le_of_ble_eq_true rfl, Nat.le_of_ble_eq_true rfl⟩ rfl rfl (Nat.le_of_ble_eq_true rfl) dX10_cradle_1 (fun H locs hW hS hT => ?_)
    clear hq
    have hs := hT.1
    refine lv_iload_n hx hb dX10_cradle_4 rfl (lv_at hl 2 rfl) ?_
    by_cases hn0 : a2 = (0 : Int32)
    · replace h := z_t h hn0
      refine lv_tableIn (off := 39) (tgt := 44) hx hb dX10_cradle_5 (z_swa hn0 0 5 0 (by decide)).1 (z_swa hn0 0 5 0 (by decide)).2.1 (by rw [(z_swa hn0 0 5 0 (by decide)).2.2]; rfl) (by decide) ?_
      refine lv_aload_n hx hb dX10_cradle_44 rfl (lv_at hl 0 rfl) ?_
      refine z_getr (o := 6) C0 hW fl_X10_28 (zk1 (hs 0 (by decide))) rfl (zk3 (hs 0 (by decide)) 2) dX10_cradle_45 ?_
      refine z_getr (o := 12) C0 hW fl_X10_177 (zT0 hT).1 rfl ((zT0 hT).2.1 5 (by decide)).1 dX10_cradle_48 ?_
      refine lv_iload_n hx hb dX10_cradle_51 rfl (lv_at hl 1 rfl) ?_
      replace h := z_if h
      obtain ⟨hin, h⟩ := h
      refine z_iald (n := 8) C0 hW ((zT0 hT).2.1 5 (by decide)).2.1 ((zT0 hT).2.1 5 (by decide)).2.2 hin rfl dX10_cradle_52 ?_
      clear hin
      refine lv_topi (fun z10 e1 => ?_)
      replace h := z_ly h e1
      clear e1
      cases h
    · replace h := z_f h hn0
      by_cases hn1 : a2 = (1 : Int32)
      · replace h := z_t h hn1
        refine lv_tableIn (off := 49) (tgt := 54) hx hb dX10_cradle_5 (z_swa hn1 0 5 1 (by decide)).1 (z_swa hn1 0 5 1 (by decide)).2.1 (by rw [(z_swa hn1 0 5 1 (by decide)).2.2]; rfl) (by decide) ?_
        refine lv_aload_n hx hb dX10_cradle_54 rfl (lv_at hl 0 rfl) ?_
        refine z_getr (o := 6) C0 hW fl_X10_28 (zk1 (hs 0 (by decide))) rfl (zk3 (hs 0 (by decide)) 2) dX10_cradle_55 ?_
        refine lv_iload_n hx hb dX10_cradle_58 rfl (lv_at hl 1 rfl) ?_
        replace h := z_bd h
        obtain ⟨r9, hq, h⟩ := h
        refine z_cvi (As := [.int a1]) C0 hml hl.1 hW hS (c_X9_ridersIn l D A b (zg G q3) 6 (q3 0) (zT0 hT) a1 u2 hq) mv_X10_180 (zT0 hT).1 ⟨Nat.le_of_ble_eq_true rfl, Nat.le_of_ble_eq_true rfl⟩ rfl rfl (Nat.le_of_ble_eq_true rfl) dX10_cradle_59 (fun H locs hW hS => ?_)
        clear hq
        cases h
      · replace h := z_f h hn1
        by_cases hn2 : a2 = (2 : Int32)
        · replace h := z_t h hn2
          refine lv_tableIn (off := 58) (tgt := 63) hx hb dX10_cradle_5 (z_swa hn2 0 5 2 (by decide)).1 (z_swa hn2 0 5 2 (by decide)).2.1 (by rw [(z_swa hn2 0 5 2 (by decide)).2.2]; rfl) (by decide) ?_
          refine lv_aload_n hx hb dX10_cradle_63 rfl (lv_at hl 0 rfl) ?_
          refine z_getr (o := 6) C0 hW fl_X10_28 (zk1 (hs 0 (by decide))) rfl (zk3 (hs 0 (by decide)) 2) dX10_cradle_64 ?_
          refine lv_iload_n hx hb dX10_cradle_67 rfl (lv_at hl 1 rfl) ?_
          obtain ⟨r8, hq⟩ : ∃ y, f_X9_places 6 (q3 0) a1 u2 = y := ⟨_, rfl⟩
          replace h := z_lz h hq
          refine z_cvi (As := [.int a1]) C0 hml hl.1 hW hS (c_X9_places l D A b (zg G q3) 6 (q3 0) (zT0 hT) a1 u2 hq) mv_X10_183 (zT0 hT).1 ⟨Nat.le_of_ble_eq_true rfl, Nat.le_of_ble_eq_true rfl⟩ rfl rfl (Nat.le_of_ble_eq_true rfl) dX10_cradle_68 (fun H locs hW hS => ?_)
          clear hq
          cases h
        · replace h := z_f h hn2
          by_cases hn3 : a2 = (3 : Int32)
          · replace h := z_t h hn3
            refine lv_tableIn (off := 67) (tgt := 72) hx hb dX10_cradle_5 (z_swa hn3 0 5 3 (by decide)).1 (z_swa hn3 0 5 3 (by decide)).2.1 (by rw [(z_swa hn3 0 5 3 (by decide)).2.2]; rfl) (by decide) ?_
            refine lv_aload_n hx hb dX10_cradle_72 rfl (lv_at hl 0 rfl) ?_
            refine z_getr (o := 6) C0 hW fl_X10_28 (zk1 (hs 0 (by decide))) rfl (zk3 (hs 0 (by decide)) 2) dX10_cradle_73 ?_
            refine lv_iload_n hx hb dX10_cradle_76 rfl (lv_at hl 1 rfl) ?_
            obtain ⟨r7, hq⟩ : ∃ y, f_X9_height 6 (q3 0) a1 u2 = y := ⟨_, rfl⟩
            replace h := z_lz h hq
            refine z_cvi (As := [.int a1]) C0 hml hl.1 hW hS (c_X9_height l D A b (zg G q3) 6 (q3 0) (zT0 hT) a1 u2 hq) mv_X10_159 (zT0 hT).1 ⟨Nat.le_of_ble_eq_true rfl, Nat.le_of_ble_eq_true rfl⟩ rfl rfl (Nat.le_of_ble_eq_true rfl) dX10_cradle_77 (fun H locs hW hS => ?_)
            clear hq
            cases h
          · replace h := z_f h hn3
            by_cases hn4 : a2 = (4 : Int32)
            · replace h := z_t h hn4
              refine lv_tableIn (off := 76) (tgt := 81) hx hb dX10_cradle_5 (z_swa hn4 0 5 4 (by decide)).1 (z_swa hn4 0 5 4 (by decide)).2.1 (by rw [(z_swa hn4 0 5 4 (by decide)).2.2]; rfl) (by decide) ?_
              refine lv_aload_n hx hb dX10_cradle_81 rfl (lv_at hl 0 rfl) ?_
              refine lv_aload_n hx hb dX10_cradle_82 rfl (lv_at hl 0 rfl) ?_
              refine z_getr (o := 6) C0 hW fl_X10_28 (zk1 (hs 0 (by decide))) rfl (zk3 (hs 0 (by decide)) 2) dX10_cradle_83 ?_
              refine lv_iload_n hx hb dX10_cradle_86 rfl (lv_at hl 1 rfl) ?_
              replace h := z_bd h
              obtain ⟨r5, hq, h⟩ := h
              refine z_cvi (As := [.int a1]) C0 hml hl.1 hW hS (c_X9_ridersIn l D A b (zg G q3) 6 (q3 0) (zT0 hT) a1 u2 hq) mv_X10_180 (zT0 hT).1 ⟨Nat.le_of_ble_eq_true rfl, Nat.le_of_ble_eq_true rfl⟩ rfl rfl (Nat.le_of_ble_eq_true rfl) dX10_cradle_87 (fun H locs hW hS => ?_)
              clear hq
              replace h := z_bd h
              obtain ⟨r6, hq, h⟩ := h
              refine z_cvi (As := [.int r5]) C0 hml hl.1 hW hS (c_X10_weightOf l D A b G (q3) hT r5 u2 hq) mv_X10_186 (zk1 (hs 0 (by decide))) ⟨Nat.le_of_ble_eq_true rfl, Nat.le_of_ble_eq_true rfl⟩ rfl rfl (Nat.le_of_ble_eq_true rfl) dX10_cradle_90 (fun H locs hW hS => ?_)
              clear hq
              cases h
            · replace h := z_f h hn4
              by_cases hn5 : a2 = (5 : Int32)
              · replace h := z_t h hn5
                refine lv_tableIn (off := 89) (tgt := 94) hx hb dX10_cradle_5 (z_swa hn5 0 5 5 (by decide)).1 (z_swa hn5 0 5 5 (by decide)).2.1 (by rw [(z_swa hn5 0 5 5 (by decide)).2.2]; rfl) (by decide) ?_
                refine lv_aload_n hx hb dX10_cradle_94 rfl (lv_at hl 0 rfl) ?_
                refine z_getr (o := 6) C0 hW fl_X10_28 (zk1 (hs 0 (by decide))) rfl (zk3 (hs 0 (by decide)) 2) dX10_cradle_95 ?_
                refine lv_iload_n hx hb dX10_cradle_98 rfl (lv_at hl 1 rfl) ?_
                obtain ⟨r4, hq⟩ : ∃ y, f_X9_costOf 6 (q3 0) a1 u2 = y := ⟨_, rfl⟩
                replace h := z_lz h hq
                refine z_cvi (As := [.int a1]) C0 hml hl.1 hW hS (c_X9_costOf l D A b (zg G q3) 6 (q3 0) (zT0 hT) a1 u2 hq) mv_X10_189 (zT0 hT).1 ⟨Nat.le_of_ble_eq_true rfl, Nat.le_of_ble_eq_true rfl⟩ rfl rfl (Nat.le_of_ble_eq_true rfl) dX10_cradle_99 (fun H locs hW hS => ?_)
                clear hq
                cases h
              · replace h := z_f h hn5
                refine lv_tableOut (tgt := 103) hx hb dX10_cradle_5 (z_sw 0 5 (by decide) (fun k h1 h2 => ?_)) (by decide) ?_
                · rcases (show k = 0 ∨ k = 1 ∨ k = 2 ∨ k = 3 ∨ k = 4 ∨ k = 5 by omega) with rfl | rfl | rfl | rfl | rfl | rfl
                  · exact hn0
                  · exact hn1
                  · exact hn2
                  · exact hn3
                  · exact hn4
                  · exact hn5
                · cases h
                  exact z_thrN (k := 3) (tx := "a cradle has no such thing") C0 hst hml hl.1 hW hS hT hex hlk twn_169_173 (List.mem_of_getElem? (i := 3) rfl) ⟨Nat.le_of_ble_eq_true rfl, Nat.le_of_ble_eq_true rfl⟩ ⟨Nat.le_of_ble_eq_true rfl, Nat.le_of_ble_eq_true rfl⟩ dX10_cradle_103 dX10_cradle_106 dX10_cradle_107 dX10_cradle_109 dX10_cradle_112
set_option maxRecDepth 100000 in
set_option maxHeartbeats 4000000 in
theorem t_X10_party (l : Launch) (D : zD) (A : Nat → Prop) (b : Nat) (G : zG) (q : zq) (hT : zTop G q) (hst : l.stackTraces = false) (a1 : Int32) (a2 : Int32) (u : zU) {E : String} {q' : zq} {u' : zU} (h : f_X10_party q a1 a2 u = some (.inl E, q', u')) : z_TX l D A b G yX10_party cX10_party 3 (some .int) 7 110 [.ref (b + 0), .int a1, .int a2] q u E q' u' := by
  refine z_enterX (by decide) (Nat.le_of_ble_eq_true rfl) ?_
  intro p e s m below meth c ls C0 hex hml hlk hW hS hl
  have hl : lv_has ls 3 [(0, .ref (b + 0)), (1, .int a1), (2, .int a2)] := hl
  have hx := C0.1
  have hb := C0.2.1
  have hs := hT.1
  rw [f_X10_party_e] at h
  refine lv_iload_n hx hb dX10_party_0 rfl (lv_at hl 1 rfl) ?_
  replace h := z_bxd h
  rcases h with ⟨E1, hq, hE⟩ | ⟨w1, q3, u2, hq, h⟩
  · cases hE
    exact z_csX (As := [.int a1]) C0 hml hl.1 hW hS hex hlk (t_X10_needParty l D A b G (q) hT hst a1 u hq) ms_X10_194 ⟨Nat.le_of_ble_eq_true rfl, Nat.le_of_ble_eq_true rfl⟩ ⟨Nat.le_of_ble_eq_true rfl, Nat.le_of_ble_eq_true rfl⟩ rfl rfl (Nat.le_of_ble_eq_true rfl) dX10_party_1
  · refine z_csTv (As := [.int a1]) C0 hml hl.1 hW hS (c_X10_needParty l D A b G (q) hT a1 u hq) ms_X10_194 ⟨Nat.le_of_ble_eq_true rfl, Nat.le_of_ble_eq_true rfl⟩ rfl rfl (Nat.le_of_ble_eq_true rfl) dX10_party_1 (fun H locs hW hS hT => ?_)
    clear hq
    have hs := hT.1
    refine lv_iload_n hx hb dX10_party_4 rfl (lv_at hl 2 rfl) ?_
    by_cases hn0 : a2 = (0 : Int32)
    · replace h := z_t h hn0
      refine lv_tableIn (off := 31) (tgt := 36) hx hb dX10_party_5 (z_swa hn0 0 3 0 (by decide)).1 (z_swa hn0 0 3 0 (by decide)).2.1 (by rw [(z_swa hn0 0 3 0 (by decide)).2.2]; rfl) (by decide) ?_
      refine lv_aload_n hx hb dX10_party_36 rfl (lv_at hl 0 rfl) ?_
      refine z_getr (o := 6) C0 hW fl_X10_28 (zk1 (hs 0 (by decide))) rfl (zk3 (hs 0 (by decide)) 2) dX10_party_37 ?_
      refine z_getr (o := 13) C0 hW fl_X10_197 (zT0 hT).1 rfl ((zT0 hT).2.1 6 (by decide)).1 dX10_party_40 ?_
      refine lv_iload_n hx hb dX10_party_43 rfl (lv_at hl 1 rfl) ?_
      replace h := z_if h
      obtain ⟨hin, h⟩ := h
      refine z_iald (n := 4) C0 hW ((zT0 hT).2.1 6 (by decide)).2.1 ((zT0 hT).2.1 6 (by decide)).2.2 hin rfl dX10_party_44 ?_
      clear hin
      refine lv_topi (fun z7 e1 => ?_)
      replace h := z_ly h e1
      clear e1
      cases h
    · replace h := z_f h hn0
      by_cases hn1 : a2 = (1 : Int32)
      · replace h := z_t h hn1
        refine lv_tableIn (off := 41) (tgt := 46) hx hb dX10_party_5 (z_swa hn1 0 3 1 (by decide)).1 (z_swa hn1 0 3 1 (by decide)).2.1 (by rw [(z_swa hn1 0 3 1 (by decide)).2.2]; rfl) (by decide) ?_
        refine lv_aload_n hx hb dX10_party_46 rfl (lv_at hl 0 rfl) ?_
        refine lv_iconst (v := (1 : Int32)) hx hb dX10_party_47 (by decide) ?_
        refine lv_iload_n hx hb dX10_party_48 rfl (lv_at hl 1 rfl) ?_
        refine lv_ishl hx hb dX10_party_49 ?_
        replace h := z_bd h
        obtain ⟨r6, hq, h⟩ := h
        refine z_cvi (As := [.int ((1 : Int32) <<< (a1 &&& 31))]) C0 hml hl.1 hW hS (c_X10_ridersOf l D A b G (q3) hT ((1 : Int32) <<< (a1 &&& 31)) u2 hq) mv_X10_200 (zk1 (hs 0 (by decide))) ⟨Nat.le_of_ble_eq_true rfl, Nat.le_of_ble_eq_true rfl⟩ rfl rfl (Nat.le_of_ble_eq_true rfl) dX10_party_50 (fun H locs hW hS => ?_)
        clear hq
        cases h
      · replace h := z_f h hn1
        by_cases hn2 : a2 = (2 : Int32)
        · replace h := z_t h hn2
          refine lv_tableIn (off := 49) (tgt := 54) hx hb dX10_party_5 (z_swa hn2 0 3 2 (by decide)).1 (z_swa hn2 0 3 2 (by decide)).2.1 (by rw [(z_swa hn2 0 3 2 (by decide)).2.2]; rfl) (by decide) ?_
          refine lv_aload_n hx hb dX10_party_54 rfl (lv_at hl 0 rfl) ?_
          refine lv_iconst (v := (1 : Int32)) hx hb dX10_party_55 (by decide) ?_
          refine lv_iload_n hx hb dX10_party_56 rfl (lv_at hl 1 rfl) ?_
          refine lv_ishl hx hb dX10_party_57 ?_
          replace h := z_bd h
          obtain ⟨r5, hq, h⟩ := h
          refine z_cvi (As := [.int ((1 : Int32) <<< (a1 &&& 31))]) C0 hml hl.1 hW hS (c_X10_seatedWeight l D A b G (q3) hT ((1 : Int32) <<< (a1 &&& 31)) u2 hq) mv_X10_203 (zk1 (hs 0 (by decide))) ⟨Nat.le_of_ble_eq_true rfl, Nat.le_of_ble_eq_true rfl⟩ rfl rfl (Nat.le_of_ble_eq_true rfl) dX10_party_58 (fun H locs hW hS => ?_)
          clear hq
          cases h
        · replace h := z_f h hn2
          by_cases hn3 : a2 = (3 : Int32)
          · replace h := z_t h hn3
            refine lv_tableIn (off := 57) (tgt := 62) hx hb dX10_party_5 (z_swa hn3 0 3 3 (by decide)).1 (z_swa hn3 0 3 3 (by decide)).2.1 (by rw [(z_swa hn3 0 3 3 (by decide)).2.2]; rfl) (by decide) ?_
            refine lv_aload_n hx hb dX10_party_62 rfl (lv_at hl 0 rfl) ?_
            refine lv_iconst (v := (1 : Int32)) hx hb dX10_party_63 (by decide) ?_
            refine lv_iload_n hx hb dX10_party_64 rfl (lv_at hl 1 rfl) ?_
            refine lv_ishl hx hb dX10_party_65 ?_
            replace h := z_bd h
            obtain ⟨r4, hq, h⟩ := h
            refine z_cvi (As := [.int ((1 : Int32) <<< (a1 &&& 31))]) C0 hml hl.1 hW hS (c_X10_powerOf l D A b G (q3) hT ((1 : Int32) <<< (a1 &&& 31)) u2 hq) mv_X10_206 (zk1 (hs 0 (by decide))) ⟨Nat.le_of_ble_eq_true rfl, Nat.le_of_ble_eq_true rfl⟩ rfl rfl (Nat.le_of_ble_eq_true rfl) dX10_party_66 (fun H locs hW hS => ?_)
            clear hq
            cases h
          · replace h := z_f h hn3
            refine lv_tableOut (tgt := 70) hx hb dX10_party_5 (z_sw 0 3 (by decide) (fun k h1 h2 => ?_)) (by decide) ?_
            · rcases (show k = 0 ∨ k = 1 ∨ k = 2 ∨ k = 3 by omega) with rfl | rfl | rfl | rfl
              · exact hn0
              · exact hn1
              · exact hn2
              · exact hn3
            · cases h
              exact z_thrN (k := 4) (tx := "a party has no such thing") C0 hst hml hl.1 hW hS hT hex hlk twn_169_173 (List.mem_of_getElem? (i := 4) rfl) ⟨Nat.le_of_ble_eq_true rfl, Nat.le_of_ble_eq_true rfl⟩ ⟨Nat.le_of_ble_eq_true rfl, Nat.le_of_ble_eq_true rfl⟩ dX10_party_70 dX10_party_73 dX10_party_74 dX10_party_76 dX10_party_79
set_option maxRecDepth 100000 in
set_option maxHeartbeats 4000000 in
theorem t_X10_log (l : Launch) (D : zD) (A : Nat → Prop) (b : Nat) (G : zG) (q : zq) (hT : zTop G q) (hst : l.stackTraces = false) (a1 : Int32) (a2 : Int32) (u : zU) {E : String} {q' : zq} {u' : zU} (h : f_X10_log q a1 a2 u = some (.inl E, q', u')) : z_TX l D A b G yX10_log cX10_log 3 (some .int) 6 90 [.ref (b + 0), .int a1, .int a2] q u E q' u' := by
  refine z_enterX (by decide) (Nat.le_of_ble_eq_true rfl) ?_
  intro p e s m below meth c ls C0 hex hml hlk hW hS hl
  have hl : lv_has ls 3 [(0, .ref (b + 0)), (1, .int a1), (2, .int a2)] := hl
  have hx := C0.1
  have hb := C0.2.1
  have hs := hT.1
  rw [f_X10_log_e] at h
  refine lv_iload_n hx hb dX10_log_0 rfl (lv_at hl 2 rfl) ?_
  refine lv_if_lt (tgt := 9) hx hb dX10_log_1 (by decide) (fun hc => ?_) (fun hc => ?_)
  · replace h := z_t h hc
    clear hc
    cases h
    exact z_thrNW (k := 10) (tx := "a row has no such thing") C0 hst hml hl.1 hW hS hT hex hlk twn_169_173 (List.mem_of_getElem? (i := 10) rfl) ⟨Nat.le_of_ble_eq_true rfl, Nat.le_of_ble_eq_true rfl⟩ ⟨Nat.le_of_ble_eq_true rfl, Nat.le_of_ble_eq_true rfl⟩ dX10_log_9 dX10_log_12 dX10_log_13 dX10_log_16 dX10_log_19
  · replace h := z_f h hc
    clear hc
    refine lv_iload_n hx hb dX10_log_4 rfl (lv_at hl 2 rfl) ?_
    refine lv_iconst (v := (4 : Int32)) hx hb dX10_log_5 (by decide) ?_
    refine lv_icmp_lt (tgt := 20) hx hb dX10_log_6 (by decide) (fun hc => ?_) (fun hc => ?_)
    · replace h := z_t h hc
      clear hc
      refine lv_aload_n hx hb dX10_log_20 rfl (lv_at hl 0 rfl) ?_
      refine z_getr (o := 36) C0 hW fl_X10_56 (zk1 (hs 0 (by decide))) rfl (zk3 (hs 0 (by decide)) 6) dX10_log_21 ?_
      refine lv_iload_n hx hb dX10_log_24 rfl (lv_at hl 1 rfl) ?_
      refine lv_iload_n hx hb dX10_log_25 rfl (lv_at hl 2 rfl) ?_
      replace h := z_bd h
      obtain ⟨r1, hq, h⟩ := h
      refine z_cvi (As := [.int a1, .int a2]) C0 hml hl.1 hW hS (c_X2_told l D A b (zg G q) 36 hT.2.2.1 a1 a2 u hq) mv_X10_341 hT.2.2.1.1 ⟨Nat.le_of_ble_eq_true rfl, Nat.le_of_ble_eq_true rfl⟩ rfl rfl (Nat.le_of_ble_eq_true rfl) dX10_log_26 (fun H locs hW hS => ?_)
      clear hq
      cases h
    · replace h := z_f h hc
      clear hc
      cases h
      exact z_thrNW (k := 10) (tx := "a row has no such thing") C0 hst hml hl.1 hW hS hT hex hlk twn_169_173 (List.mem_of_getElem? (i := 10) rfl) ⟨Nat.le_of_ble_eq_true rfl, Nat.le_of_ble_eq_true rfl⟩ ⟨Nat.le_of_ble_eq_true rfl, Nat.le_of_ble_eq_true rfl⟩ dX10_log_9 dX10_log_12 dX10_log_13 dX10_log_16 dX10_log_19
set_option maxRecDepth 100000 in
set_option maxHeartbeats 4000000 in
theorem t_X10_ahead (l : Launch) (D : zD) (A : Nat → Prop) (b : Nat) (G : zG) (q : zq) (hT : zTop G q) (hst : l.stackTraces = false) (a1 : Int32) (a2 : Int32) (a3 : Int32) (u : zU) {E : String} {q' : zq} {u' : zU} (h : f_X10_ahead q a1 a2 a3 u = some (.inl E, q', u')) : z_TX l D A b G yX10_ahead cX10_ahead 4 (some .int) 8 172 [.ref (b + 0), .int a1, .int a2, .int a3] q u E q' u' := by
  refine z_enterX (by decide) (Nat.le_of_ble_eq_true rfl) ?_
  intro p e s m below meth c ls C0 hex hml hlk hW hS hl
  have hl : lv_has ls 4 [(0, .ref (b + 0)), (1, .int a1), (2, .int a2), (3, .int a3)] := hl
  have hx := C0.1
  have hb := C0.2.1
  have hs := hT.1
  rw [f_X10_ahead_e] at h
  refine lv_aload_n hx hb dX10_ahead_0 rfl (lv_at hl 0 rfl) ?_
  refine lv_iload_n hx hb dX10_ahead_1 rfl (lv_at hl 1 rfl) ?_
  replace h := z_bxd h
  rcases h with ⟨E1, hq, hE⟩ | ⟨w1, q3, u2, hq, h⟩
  · cases hE
    exact z_cvX (As := [.int a1]) C0 hml hl.1 hW hS hex hlk (t_X10_needDraw l D A b G (q) hT hst a1 u hq) mv_X10_411 (zk1 (hs 0 (by decide))) ⟨Nat.le_of_ble_eq_true rfl, Nat.le_of_ble_eq_true rfl⟩ ⟨Nat.le_of_ble_eq_true rfl, Nat.le_of_ble_eq_true rfl⟩ rfl rfl (Nat.le_of_ble_eq_true rfl) dX10_ahead_2
  · refine z_cvTv (As := [.int a1]) C0 hml hl.1 hW hS (c_X10_needDraw l D A b G (q) hT a1 u hq) mv_X10_411 (zk1 (hs 0 (by decide))) ⟨Nat.le_of_ble_eq_true rfl, Nat.le_of_ble_eq_true rfl⟩ rfl rfl (Nat.le_of_ble_eq_true rfl) dX10_ahead_2 (fun H locs hW hS hT => ?_)
    clear hq
    have hs := hT.1
    refine lv_iload_n hx hb dX10_ahead_5 rfl (lv_at hl 2 rfl) ?_
    refine lv_iconst (v := (0 : Int32)) hx hb dX10_ahead_6 (by decide) ?_
    refine lv_bipush (v := (100 : Int32)) hx hb dX10_ahead_7 (by decide) ?_
    replace h := z_bxd h
    rcases h with ⟨E1, hq, hE⟩ | ⟨w4, q6, u5, hq, h⟩
    · cases hE
      exact z_csX (As := [.int a2, .int (0 : Int32), .int (100 : Int32)]) C0 hml hl.1 hW hS hex hlk (t_X10_needNumber l D A b G (q3) hT hst a2 (0 : Int32) (100 : Int32) u2 hq) ms_X10_287 ⟨Nat.le_of_ble_eq_true rfl, Nat.le_of_ble_eq_true rfl⟩ ⟨Nat.le_of_ble_eq_true rfl, Nat.le_of_ble_eq_true rfl⟩ rfl rfl (Nat.le_of_ble_eq_true rfl) dX10_ahead_9
    · refine z_csTv (As := [.int a2, .int (0 : Int32), .int (100 : Int32)]) C0 hml hl.1 hW hS (c_X10_needNumber l D A b G (q3) hT a2 (0 : Int32) (100 : Int32) u2 hq) ms_X10_287 ⟨Nat.le_of_ble_eq_true rfl, Nat.le_of_ble_eq_true rfl⟩ rfl rfl (Nat.le_of_ble_eq_true rfl) dX10_ahead_9 (fun H locs hW hS hT => ?_)
      clear hq
      have hs := hT.1
      refine lv_iload_n hx hb dX10_ahead_12 rfl (lv_at hl 3 rfl) ?_
      refine lv_if_lt (tgt := 21) hx hb dX10_ahead_13 (by decide) (fun hc => ?_) (fun hc => ?_)
      · replace h := z_t h hc
        clear hc
        cases h
        exact z_thrNW (k := 13) (tx := "there is no such thing ahead") C0 hst hml hl.1 hW hS hT hex hlk twn_169_173 (List.mem_of_getElem? (i := 13) rfl) ⟨Nat.le_of_ble_eq_true rfl, Nat.le_of_ble_eq_true rfl⟩ ⟨Nat.le_of_ble_eq_true rfl, Nat.le_of_ble_eq_true rfl⟩ dX10_ahead_21 dX10_ahead_24 dX10_ahead_25 dX10_ahead_28 dX10_ahead_31
      · replace h := z_f h hc
        clear hc
        refine lv_iload_n hx hb dX10_ahead_16 rfl (lv_at hl 3 rfl) ?_
        refine lv_iconst (v := (2 : Int32)) hx hb dX10_ahead_17 (by decide) ?_
        refine lv_icmp_le (tgt := 32) hx hb dX10_ahead_18 (by decide) (fun hc => ?_) (fun hc => ?_)
        · replace h := z_t h hc
          clear hc
          refine lv_aload_n hx hb dX10_ahead_32 rfl (lv_at hl 0 rfl) ?_
          refine lv_iload_n hx hb dX10_ahead_33 rfl (lv_at hl 1 rfl) ?_
          refine lv_iload_n hx hb dX10_ahead_34 rfl (lv_at hl 2 rfl) ?_
          replace h := z_bd3 h
          obtain ⟨w7, q9, u8, hq, h⟩ := h
          refine z_cvTv (As := [.int a1, .int a2]) C0 hml hl.1 hW hS (c_X10_goAhead l D A b G (q6) hT a1 a2 u5 hq) mv_X10_418 (zk1 (hs 0 (by decide))) ⟨Nat.le_of_ble_eq_true rfl, Nat.le_of_ble_eq_true rfl⟩ rfl rfl (Nat.le_of_ble_eq_true rfl) dX10_ahead_35 (fun H locs hW hS hT => ?_)
          clear hq
          have hs := hT.1
          refine lv_iload_n hx hb dX10_ahead_38 rfl (lv_at hl 3 rfl) ?_
          refine lv_if_ne (tgt := 50) hx hb dX10_ahead_39 (by decide) (fun hc => ?_) (fun hc => ?_)
          · replace h := z_f h hc
            clear hc
            refine lv_iload_n hx hb dX10_ahead_50 rfl (lv_at hl 3 rfl) ?_
            refine lv_iconst (v := (1 : Int32)) hx hb dX10_ahead_51 (by decide) ?_
            refine lv_icmp_ne (tgt := 72) hx hb dX10_ahead_52 (by decide) (fun hc => ?_) (fun hc => ?_)
            · replace h := z_f h hc
              clear hc
              refine lv_aload_n hx hb dX10_ahead_72 rfl (lv_at hl 0 rfl) ?_
              refine z_getr (o := 17) C0 hW fl_X10_32 (zk1 (hs 0 (by decide))) rfl (zk3 (hs 0 (by decide)) 3) dX10_ahead_73 ?_
              refine z_geti C0 hW fl_X10_239 (zT1 hT).1 rfl dX10_ahead_76 ?_
              cases h
            · replace h := z_t h hc
              clear hc
              refine lv_aload_n hx hb dX10_ahead_55 rfl (lv_at hl 0 rfl) ?_
              refine z_getr (o := 17) C0 hW fl_X10_32 (zk1 (hs 0 (by decide))) rfl (zk3 (hs 0 (by decide)) 3) dX10_ahead_56 ?_
              refine lv_aload_n hx hb dX10_ahead_59 rfl (lv_at hl 0 rfl) ?_
              refine z_getr (o := 17) C0 hW fl_X10_32 (zk1 (hs 0 (by decide))) rfl (zk3 (hs 0 (by decide)) 3) dX10_ahead_60 ?_
              refine z_geti C0 hW fl_X10_211 (zT1 hT).1 rfl dX10_ahead_63 ?_
              replace h := z_bd h
              obtain ⟨r10, hq, h⟩ := h
              refine z_cvi (As := [.int (u8 17 14)]) C0 hml hl.1 hW hS (c_X9_firstIn l D A b (zg G q9) 17 (q9 1) (zT1 hT) (u8 17 14) u8 hq) mv_X10_214 (zT1 hT).1 ⟨Nat.le_of_ble_eq_true rfl, Nat.le_of_ble_eq_true rfl⟩ rfl rfl (Nat.le_of_ble_eq_true rfl) dX10_ahead_66 (fun H locs hW hS => ?_)
              clear hq
              refine lv_goto (tgt := 79) hx hb dX10_ahead_69 (by decide) ?_
              cases h
          · replace h := z_t h hc
            clear hc
            refine lv_aload_n hx hb dX10_ahead_42 rfl (lv_at hl 0 rfl) ?_
            refine z_getr (o := 17) C0 hW fl_X10_32 (zk1 (hs 0 (by decide))) rfl (zk3 (hs 0 (by decide)) 3) dX10_ahead_43 ?_
            refine z_geti C0 hW fl_X10_211 (zT1 hT).1 rfl dX10_ahead_46 ?_
            cases h
        · replace h := z_f h hc
          clear hc
          cases h
          exact z_thrNW (k := 13) (tx := "there is no such thing ahead") C0 hst hml hl.1 hW hS hT hex hlk twn_169_173 (List.mem_of_getElem? (i := 13) rfl) ⟨Nat.le_of_ble_eq_true rfl, Nat.le_of_ble_eq_true rfl⟩ ⟨Nat.le_of_ble_eq_true rfl, Nat.le_of_ble_eq_true rfl⟩ dX10_ahead_21 dX10_ahead_24 dX10_ahead_25 dX10_ahead_28 dX10_ahead_31
