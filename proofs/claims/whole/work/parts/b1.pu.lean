/-! MACHINE, 10: the loop over the calls -/
abbrev lOf : Array Int := #[216, 289, 314, 358, 402, 415, 483, 551, 619, 632, 645, 713, 797, 853, 909, 977, 1033, 1089, 1145, 1213, 1269, 1337, 1350, 1406, 1419, 1432, 1500, 1513, 1526, 1598, 1642, 1686, 1730, 1798, 1866, 1922, 1990, 2070, 2083, 2096, 2109, 2122, 2206, 2290, 2374, 2442, 2467, 2480, 2491, 2504]
theorem l_cases : ∀ j, j < 50 → ∃ (off : Int) (tgt : Nat), lOf[j]? = some off ∧ ((40 : Nat) : Int) + off = (tgt : Int) ∧ LCase tgt := by
  intro j hj
  match j, hj with
  | 0, _ => exact ⟨216, 256, rfl, rfl, l_case_0⟩
  | 1, _ => exact ⟨289, 329, rfl, rfl, l_case_1⟩
  | 2, _ => exact ⟨314, 354, rfl, rfl, l_case_2⟩
  | 3, _ => exact ⟨358, 398, rfl, rfl, l_case_3⟩
  | 4, _ => exact ⟨402, 442, rfl, rfl, l_case_4⟩
  | 5, _ => exact ⟨415, 455, rfl, rfl, l_case_5⟩
  | 6, _ => exact ⟨483, 523, rfl, rfl, l_case_6⟩
  | 7, _ => exact ⟨551, 591, rfl, rfl, l_case_7⟩
  | 8, _ => exact ⟨619, 659, rfl, rfl, l_case_8⟩
  | 9, _ => exact ⟨632, 672, rfl, rfl, l_case_9⟩
  | 10, _ => exact ⟨645, 685, rfl, rfl, l_case_10⟩
  | 11, _ => exact ⟨713, 753, rfl, rfl, l_case_11⟩
  | 12, _ => exact ⟨797, 837, rfl, rfl, l_case_12⟩
  | 13, _ => exact ⟨853, 893, rfl, rfl, l_case_13⟩
  | 14, _ => exact ⟨909, 949, rfl, rfl, l_case_14⟩
  | 15, _ => exact ⟨977, 1017, rfl, rfl, l_case_15⟩
  | 16, _ => exact ⟨1033, 1073, rfl, rfl, l_case_16⟩
  | 17, _ => exact ⟨1089, 1129, rfl, rfl, l_case_17⟩
  | 18, _ => exact ⟨1145, 1185, rfl, rfl, l_case_18⟩
  | 19, _ => exact ⟨1213, 1253, rfl, rfl, l_case_19⟩
  | 20, _ => exact ⟨1269, 1309, rfl, rfl, l_case_20⟩
  | 21, _ => exact ⟨1337, 1377, rfl, rfl, l_case_21⟩
  | 22, _ => exact ⟨1350, 1390, rfl, rfl, l_case_22⟩
  | 23, _ => exact ⟨1406, 1446, rfl, rfl, l_case_23⟩
  | 24, _ => exact ⟨1419, 1459, rfl, rfl, l_case_24⟩
  | 25, _ => exact ⟨1432, 1472, rfl, rfl, l_case_25⟩
  | 26, _ => exact ⟨1500, 1540, rfl, rfl, l_case_26⟩
  | 27, _ => exact ⟨1513, 1553, rfl, rfl, l_case_27⟩
  | 28, _ => exact ⟨1526, 1566, rfl, rfl, l_case_28⟩
  | 29, _ => exact ⟨1598, 1638, rfl, rfl, l_case_29⟩
  | 30, _ => exact ⟨1642, 1682, rfl, rfl, l_case_30⟩
  | 31, _ => exact ⟨1686, 1726, rfl, rfl, l_case_31⟩
  | 32, _ => exact ⟨1730, 1770, rfl, rfl, l_case_32⟩
  | 33, _ => exact ⟨1798, 1838, rfl, rfl, l_case_33⟩
  | 34, _ => exact ⟨1866, 1906, rfl, rfl, l_case_34⟩
  | 35, _ => exact ⟨1922, 1962, rfl, rfl, l_case_35⟩
  | 36, _ => exact ⟨1990, 2030, rfl, rfl, l_case_36⟩
  | 37, _ => exact ⟨2070, 2110, rfl, rfl, l_case_37⟩
  | 38, _ => exact ⟨2083, 2123, rfl, rfl, l_case_38⟩
  | 39, _ => exact ⟨2096, 2136, rfl, rfl, l_case_39⟩
  | 40, _ => exact ⟨2109, 2149, rfl, rfl, l_case_40⟩
  | 41, _ => exact ⟨2122, 2162, rfl, rfl, l_case_41⟩
  | 42, _ => exact ⟨2206, 2246, rfl, rfl, l_case_42⟩
  | 43, _ => exact ⟨2290, 2330, rfl, rfl, l_case_43⟩
  | 44, _ => exact ⟨2374, 2414, rfl, rfl, l_case_44⟩
  | 45, _ => exact ⟨2442, 2482, rfl, rfl, l_case_45⟩
  | 46, _ => exact ⟨2467, 2507, rfl, rfl, l_case_46⟩
  | 47, _ => exact ⟨2480, 2520, rfl, rfl, l_case_47⟩
  | 48, _ => exact ⟨2491, 2531, rfl, rfl, l_case_48⟩
  | 49, _ => exact ⟨2504, 2544, rfl, rfl, l_case_49⟩
  | n + 50, h => exact absurd h (by omega)
theorem lw_st {l : Launch} (h : l.flags = flags0) : l.stackTraces = false := by
  unfold Launch.stackTraces
  rw [h]
  decide +kernel
theorem l_gt {k L : Nat} (hk : k < 2 ^ 20) (hL : L ≤ 3072) : Int32.ofNat L - 6 < nI k ↔ L < k + 6 := by
  rw [Int32.lt_iff_toInt_lt, nI_toInt (by omega), Int32.toInt_sub, show (Int32.ofNat L).toInt = (L : Int) from nI_toInt (n := L) (by omega), show (6 : Int32).toInt = 6 from rfl, Int.bmod_eq_of_le (by omega) (by omega)]
  omega
section LAW
variable {l : Launch} {p : Program} {e : Env} {s : State} {m : MethodId} {below : List Frame} {meth : Method} {c : Code} {b L : Nat} {xs : Nat → Int32} {D : zD} {dJ : ClassId} {b1 : Nat}
theorem l_loop (X : LX l p s m c b L xs D dJ b1) (hr : meth.sig.returnType = ret) (hlk : meth.locks = false) (hL : L ≤ 3072) : ∀ (n k cells slots : Nat) (G : zG) (q : zq) (u r : zU) (x : Int64) (H : Heap) (locs : List Loc) (ls : Array Slot), L < k + 6 * n + 6 → k + 6 * n ≤ 100000 → cells + 8 * n ≤ 823376 → slots + 1644 * n ≤ 6625975 → Lw D dJ b1 s G q u r x H locs → RR q u r → lv_has ls 7 (lsL b b1 (nI k)) → W p l e room_1 s m #[Value.ref b] below meth c H locs cells slots (lw_Z below #[Value.ref b] s) (F0 m 23 ls []) := by
  have hx := X.1.1
  have hb : c.code = cL_law_ := X.1.2.1
  have hbA : ¬ A0 s b := by show ¬ s.heap.size ≤ b; have := X.2.2.2.2.2.1; omega
  intro n
  induction n with
  | zero =>
    intro k cells slots G q u r x H locs ls h1 h2 h3 h4 h hR hl
    refine lv_iload hx hb dL_law__23 (lv_at hl 0 rfl) ?_
    refine lv_aload_n hx hb dL_law__25 rfl (lv_at hl 4 rfl) ?_
    refine va_slen hx hb X.2.2.2.2.1 X.2.2.2.2.2.1 hbA h.2.2.2.2.1 dL_law__26 ?_
    refine lv_bipush (v := 6) hx hb dL_law__27 rfl ?_
    refine lv_isub hx hb dL_law__29 ?_
    refine lv_icmp_gt (tgt := 2575) hx hb dL_law__30 rfl (fun _ => ?_) (fun hn => absurd ((l_gt (by omega) hL).mpr (by omega)) hn)
    refine lv_iconst (v := (1 : Int32)) hx hb dL_law__2575 (by decide) ?_
    exact va_forget h.2.2.2.2.1.2.2 (W.widen (by omega) (by omega) (lw_ret hx hb hr hlk dL_law__2576))
  | succ n ih =>
    intro k cells slots G q u r x H locs ls h1 h2 h3 h4 h hR hl
    refine lv_iload hx hb dL_law__23 (lv_at hl 0 rfl) ?_
    refine lv_aload_n hx hb dL_law__25 rfl (lv_at hl 4 rfl) ?_
    refine va_slen hx hb X.2.2.2.2.1 X.2.2.2.2.2.1 hbA h.2.2.2.2.1 dL_law__26 ?_
    refine lv_bipush (v := 6) hx hb dL_law__27 rfl ?_
    refine lv_isub hx hb dL_law__29 ?_
    refine lv_icmp_gt (tgt := 2575) hx hb dL_law__30 rfl (fun _ => ?_) (fun hn => ?_)
    · refine lv_iconst (v := (1 : Int32)) hx hb dL_law__2575 (by decide) ?_
      exact va_forget h.2.2.2.2.1.2.2 (W.widen (by omega) (by omega) (lw_ret hx hb hr hlk dL_law__2576))
    · have hkL : k + 6 ≤ L := Nat.not_lt.mp (fun e => hn ((l_gt (k := k) (by omega) hL).mpr e))
      have hin : ∀ j, j < 6 → vp_in (nI k + nI j) L := fun j hj => by
        rw [nI_add]
        exact nI_in (by omega) (by omega)
      have hv : vp_in (nI k + 1) L ∧ vp_in (nI k + 2) L ∧ vp_in (nI k + 3) L ∧ vp_in (nI k + 4) L ∧ vp_in (nI k + 5) L := ⟨hin 1 (by omega), hin 2 (by omega), hin 3 (by omega), hin 4 (by omega), hin 5 (by omega)⟩
      have hend : ∀ (G : zG) (q : zq) (u r : zU) (x : Int64) (H : Heap) (locs : List Loc) (ls : Array Slot), Lw D dJ b1 s G q u r x H locs → RR q u r → lv_has ls 7 (lsL b b1 (nI k)) → W p l e room_1 s m #[Value.ref b] below meth c H locs (cells + 8) (slots + 1644) (lw_Z below #[Value.ref b] s) (F0 m 2569 ls []) := by
        intro G q u r x H locs ls h hR hl
        refine lv_iinc (k := 0) (v := nI (k + 6)) hx hb dL_law__2569 hl rfl (nI_add k 6) (by decide) rfl (fun ls hl => ?_)
        refine lv_goto (tgt := 23) hx hb dL_law__2572 rfl ?_
        exact ih (k + 6) (cells + 8) (slots + 1644) G q u r x H locs ls (by omega) (by omega) (by omega) (by omega) h hR hl
      refine lv_aload_n hx hb dL_law__33 rfl (lv_at hl 4 rfl) ?_
      refine lv_iload hx hb dL_law__34 (lv_at hl 0 rfl) ?_
      refine va_sld hx hb X.2.2.2.2.1 X.2.2.2.2.2.1 hbA h.2.2.2.2.1 (nI_in (by omega) (by omega)) dL_law__36 ?_
      refine lv_bipush (v := 63) hx hb dL_law__37 rfl ?_
      refine lv_iand hx hb dL_law__39 ?_
      have hf : cells + 8 ≤ 823376 ∧ slots + 1644 ≤ 6625975 := ⟨by omega, Nat.le_trans (Nat.add_le_add_left (Nat.le_mul_of_pos_right 1644 (Nat.succ_pos n)) slots) h4⟩
      by_cases hj : ∃ j : Nat, j < 50 ∧ xs (nI k).toNatClampNeg &&& 63 = nI j
      · obtain ⟨j, j1, j2⟩ := hj
        rw [j2]
        obtain ⟨off, tgt, t1, t2, t3⟩ := l_cases j j1
        have e := nI_toInt (n := j) (by omega)
        refine lv_tableIn (off := off) (tgt := tgt) hx hb dL_law__40 (by rw [e]; omega) (by rw [e]; omega) (by rw [e, show ((j : Int) - 0).toNat = j by omega]; exact t1) t2 ?_
        exact t3 l p _ s m below meth c b L xs D dJ b1 H locs cells slots _ G q u r x ls (nI k) X h hR hl hv hf hend
      · have hout : (xs (nI k).toNatClampNeg &&& 63).toInt < 0 ∨ 49 < (xs (nI k).toNatClampNeg &&& 63).toInt := by
          refine z_sw 0 49 (by omega) ?_
          intro j a1 a2 e9
          exact hj (Exists.intro j (And.intro (by omega) e9))
        refine lv_tableOut (tgt := 2569) hx hb dL_law__40 hout rfl ?_
        exact W.widen (Nat.le_add_right _ _) (Nat.le_add_right _ _) (hend G q u r x H locs ls h hR hl)
end LAW
