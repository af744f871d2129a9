/-! MACHINE, 9: the kinds of calls (printed by lawcase.py) -/
theorem l_case_10 : LCase 685 := by
  intro l p e s m below meth c b L xs D dJ b1 H locs cells slots Q G q u r x ls i X h hRR hl hv hf kk
  have hx := X.1.1
  have hb := X.1.2.1
  refine lv_aload_n hx hb dL_law__685 rfl (lv_at hl 3 rfl) ?_
  refine l_arg (kv := 1) X h.2.2.2.2.1 (lv_at hl 4 rfl) (lv_at hl 0 rfl) hv.1 rfl dL_law__686 dL_law__687 dL_law__689 dL_law__690 dL_law__691 ?_
  refine l_arg (kv := 2) X h.2.2.2.2.1 (lv_at hl 4 rfl) (lv_at hl 0 rfl) hv.2.1 rfl dL_law__692 dL_law__693 dL_law__695 dL_law__696 dL_law__697 ?_
  refine lv_aload_n hx hb dL_law__698 rfl (lv_at hl 1 rfl) ?_
  obtain ⟨o, q', u', y, r', e1, e2, hR2, hA⟩ := s_board hRR (xs (i + 1).toNatClampNeg) (xs (i + 2).toNatClampNeg)
  refine l_cs (As := [.ref (b1 + 0), .int (xs (i + 1).toNatClampNeg), .int (xs (i + 2).toNatClampNeg), .ref (b1 + 232)]) (rest := []) (Φ := fun _ q' u' => RR q' u' r') X h hl.1 (c_L_board l X.2.2.2.2.2.2.1 D (Ax b1) b1 (b1 + 232) dJ G q h.2.1 (xs (i + 1).toNatClampNeg) (xs (i + 2).toNatClampNeg) u e1 hA hR2) sv_L_166 (by decide) hf rfl rfl (Nat.le_of_ble_eq_true rfl) dL_law__699 fun G1 q1 u1 x1 H1 locs1 hR3 hw h1 => ?_
  show W p l e room_1 s m #[Value.ref b] below meth c H1 locs1 (cells + 8) (slots + 1644) Q (F0 m 702 ls [.int (r' 0 0)])
  refine lv_istore hx hb dL_law__702 hl (by decide) rfl (fun ls hl => ?_)
  refine lv_aload_n hx hb dL_law__704 rfl (lv_at hl 3 rfl) ?_
  refine l_arg (kv := 1) X h1.2.2.2.2.1 (lv_at hl 5 rfl) (lv_at hl 1 rfl) hv.1 rfl dL_law__705 dL_law__706 dL_law__708 dL_law__709 dL_law__710 ?_
  refine l_arg (kv := 2) X h1.2.2.2.2.1 (lv_at hl 5 rfl) (lv_at hl 1 rfl) hv.2.1 rfl dL_law__711 dL_law__712 dL_law__714 dL_law__715 dL_law__716 ?_
  refine l_cm (As := [.int (xs (i + 1).toNatClampNeg), .int (xs (i + 2).toNatClampNeg)]) (rest := []) (v := some (.int y)) X h1 hl.1 (c_X11_board l D (Am b1) (b1 + 222) (xs (i + 1).toNatClampNeg) (xs (i + 2).toNatClampNeg) r e2) mv_L_168 ⟨Nat.le_of_ble_eq_true rfl, Nat.le_of_ble_eq_true rfl⟩ hf rfl rfl (Nat.le_of_ble_eq_true rfl) dL_law__717 fun H2 locs2 h2 => ?_
  show W p l e room_1 s m #[Value.ref b] below meth c H2 locs2 (cells + 8) (slots + 1644) Q (F0 m 720 ls [.int y])
  refine lv_istore hx hb dL_law__720 hl (by decide) rfl (fun ls hl => ?_)
  exact l_tail X h2 hl rfl (fun h0 => hw _ (if_pos h0)) hf dL_law__722 dL_law__723 dL_law__726 dL_law__728 dL_law__733 dL_law__735 dL_law__738 dL_law__739 dL_law__740 dL_law__741 dL_law__743 dL_law__744 dL_law__745 dL_law__750 rfl fun H3 locs3 h3 => kk _ _ _ _ _ _ _ _ h3 hR3 hl.drop.drop
theorem l_case_11 : LCase 753 := by
  intro l p e s m below meth c b L xs D dJ b1 H locs cells slots Q G q u r x ls i X h hRR hl hv hf kk
  have hx := X.1.1
  have hb := X.1.2.1
  refine lv_aload_n hx hb dL_law__753 rfl (lv_at hl 3 rfl) ?_
  refine l_arg (kv := 1) X h.2.2.2.2.1 (lv_at hl 4 rfl) (lv_at hl 0 rfl) hv.1 rfl dL_law__754 dL_law__755 dL_law__757 dL_law__758 dL_law__759 ?_
  refine l_arg (kv := 2) X h.2.2.2.2.1 (lv_at hl 4 rfl) (lv_at hl 0 rfl) hv.2.1 rfl dL_law__760 dL_law__761 dL_law__763 dL_law__764 dL_law__765 ?_
  refine l_argZ (t1 := 773) (t2 := 774) X dL_law__766 rfl dL_law__769 dL_law__770 rfl dL_law__773 rfl ?_
  refine lv_aload_n hx hb dL_law__774 rfl (lv_at hl 1 rfl) ?_
  obtain ⟨o, q', u', y, r', e1, e2, hR2, hA⟩ := s_move hRR (xs (i + 1).toNatClampNeg) (decide (xs (i + 2).toNatClampNeg ≠ 0))
  refine l_cs (As := [.ref (b1 + 0), .int (xs (i + 1).toNatClampNeg), .int (bI (decide (xs (i + 2).toNatClampNeg ≠ 0))), .ref (b1 + 232)]) (rest := []) (Φ := fun _ q' u' => RR q' u' r') X h hl.1 (c_L_move l X.2.2.2.2.2.2.1 D (Ax b1) b1 (b1 + 232) dJ G q h.2.1 (xs (i + 1).toNatClampNeg) (decide (xs (i + 2).toNatClampNeg ≠ 0)) u e1 hA hR2) sv_L_169 (by decide) hf rfl rfl (Nat.le_of_ble_eq_true rfl) dL_law__775 fun G1 q1 u1 x1 H1 locs1 hR3 hw h1 => ?_
  show W p l e room_1 s m #[Value.ref b] below meth c H1 locs1 (cells + 8) (slots + 1644) Q (F0 m 778 ls [.int (r' 0 0)])
  refine lv_istore hx hb dL_law__778 hl (by decide) rfl (fun ls hl => ?_)
  refine lv_aload_n hx hb dL_law__780 rfl (lv_at hl 3 rfl) ?_
  refine l_arg (kv := 1) X h1.2.2.2.2.1 (lv_at hl 5 rfl) (lv_at hl 1 rfl) hv.1 rfl dL_law__781 dL_law__782 dL_law__784 dL_law__785 dL_law__786 ?_
  refine l_arg (kv := 2) X h1.2.2.2.2.1 (lv_at hl 5 rfl) (lv_at hl 1 rfl) hv.2.1 rfl dL_law__787 dL_law__788 dL_law__790 dL_law__791 dL_law__792 ?_
  refine l_argZ (t1 := 800) (t2 := 801) X dL_law__793 rfl dL_law__796 dL_law__797 rfl dL_law__800 rfl ?_
  refine l_cm (As := [.int (xs (i + 1).toNatClampNeg), .int (bI (decide (xs (i + 2).toNatClampNeg ≠ 0)))]) (rest := []) (v := some (.int y)) X h1 hl.1 (c_X11_move l D (Am b1) (b1 + 222) (xs (i + 1).toNatClampNeg) (decide (xs (i + 2).toNatClampNeg ≠ 0)) r e2) mv_L_172 ⟨Nat.le_of_ble_eq_true rfl, Nat.le_of_ble_eq_true rfl⟩ hf rfl rfl (Nat.le_of_ble_eq_true rfl) dL_law__801 fun H2 locs2 h2 => ?_
  show W p l e room_1 s m #[Value.ref b] below meth c H2 locs2 (cells + 8) (slots + 1644) Q (F0 m 804 ls [.int y])
  refine lv_istore hx hb dL_law__804 hl (by decide) rfl (fun ls hl => ?_)
  exact l_tail X h2 hl rfl (fun h0 => hw _ (if_pos h0)) hf dL_law__806 dL_law__807 dL_law__810 dL_law__812 dL_law__817 dL_law__819 dL_law__822 dL_law__823 dL_law__824 dL_law__825 dL_law__827 dL_law__828 dL_law__829 dL_law__834 rfl fun H3 locs3 h3 => kk _ _ _ _ _ _ _ _ h3 hR3 hl.drop.drop
theorem l_case_12 : LCase 837 := by
  intro l p e s m below meth c b L xs D dJ b1 H locs cells slots Q G q u r x ls i X h hRR hl hv hf kk
  have hx := X.1.1
  have hb := X.1.2.1
  refine lv_aload_n hx hb dL_law__837 rfl (lv_at hl 3 rfl) ?_
  refine l_arg (kv := 1) X h.2.2.2.2.1 (lv_at hl 4 rfl) (lv_at hl 0 rfl) hv.1 rfl dL_law__838 dL_law__839 dL_law__841 dL_law__842 dL_law__843 ?_
  refine lv_aload_n hx hb dL_law__844 rfl (lv_at hl 1 rfl) ?_
  obtain ⟨o, q', u', y, r', e1, e2, hR2, hA⟩ := s_off hRR (xs (i + 1).toNatClampNeg)
  refine l_cs (As := [.ref (b1 + 0), .int (xs (i + 1).toNatClampNeg), .ref (b1 + 232)]) (rest := []) (Φ := fun _ q' u' => RR q' u' r') X h hl.1 (c_L_off l X.2.2.2.2.2.2.1 D (Ax b1) b1 (b1 + 232) dJ G q h.2.1 (xs (i + 1).toNatClampNeg) u e1 hA hR2) sv_L_173 (by decide) hf rfl rfl (Nat.le_of_ble_eq_true rfl) dL_law__845 fun G1 q1 u1 x1 H1 locs1 hR3 hw h1 => ?_
  show W p l e room_1 s m #[Value.ref b] below meth c H1 locs1 (cells + 8) (slots + 1644) Q (F0 m 848 ls [.int (r' 0 0)])
  refine lv_istore hx hb dL_law__848 hl (by decide) rfl (fun ls hl => ?_)
  refine lv_aload_n hx hb dL_law__850 rfl (lv_at hl 3 rfl) ?_
  refine l_arg (kv := 1) X h1.2.2.2.2.1 (lv_at hl 5 rfl) (lv_at hl 1 rfl) hv.1 rfl dL_law__851 dL_law__852 dL_law__854 dL_law__855 dL_law__856 ?_
  refine l_cm (As := [.int (xs (i + 1).toNatClampNeg)]) (rest := []) (v := some (.int y)) X h1 hl.1 (c_X11_off l D (Am b1) (b1 + 222) (xs (i + 1).toNatClampNeg) r e2) mv_L_176 ⟨Nat.le_of_ble_eq_true rfl, Nat.le_of_ble_eq_true rfl⟩ hf rfl rfl (Nat.le_of_ble_eq_true rfl) dL_law__857 fun H2 locs2 h2 => ?_
  show W p l e room_1 s m #[Value.ref b] below meth c H2 locs2 (cells + 8) (slots + 1644) Q (F0 m 860 ls [.int y])
  refine lv_istore hx hb dL_law__860 hl (by decide) rfl (fun ls hl => ?_)
  exact l_tail X h2 hl rfl (fun h0 => hw _ (if_pos h0)) hf dL_law__862 dL_law__863 dL_law__866 dL_law__868 dL_law__873 dL_law__875 dL_law__878 dL_law__879 dL_law__880 dL_law__881 dL_law__883 dL_law__884 dL_law__885 dL_law__890 rfl fun H3 locs3 h3 => kk _ _ _ _ _ _ _ _ h3 hR3 hl.drop.drop
theorem l_case_13 : LCase 893 := by
  intro l p e s m below meth c b L xs D dJ b1 H locs cells slots Q G q u r x ls i X h hRR hl hv hf kk
  have hx := X.1.1
  have hb := X.1.2.1
  refine lv_aload_n hx hb dL_law__893 rfl (lv_at hl 3 rfl) ?_
  refine l_arg (kv := 1) X h.2.2.2.2.1 (lv_at hl 4 rfl) (lv_at hl 0 rfl) hv.1 rfl dL_law__894 dL_law__895 dL_law__897 dL_law__898 dL_law__899 ?_
  refine lv_aload_n hx hb dL_law__900 rfl (lv_at hl 1 rfl) ?_
  obtain ⟨o, q', u', y, r', e1, e2, hR2, hA⟩ := s_bolt hRR (xs (i + 1).toNatClampNeg)
  refine l_cs (As := [.ref (b1 + 0), .int (xs (i + 1).toNatClampNeg), .ref (b1 + 232)]) (rest := []) (Φ := fun _ q' u' => RR q' u' r') X h hl.1 (c_L_bolt l X.2.2.2.2.2.2.1 D (Ax b1) b1 (b1 + 232) dJ G q h.2.1 (xs (i + 1).toNatClampNeg) u e1 hA hR2) sv_L_177 (by decide) hf rfl rfl (Nat.le_of_ble_eq_true rfl) dL_law__901 fun G1 q1 u1 x1 H1 locs1 hR3 hw h1 => ?_
  show W p l e room_1 s m #[Value.ref b] below meth c H1 locs1 (cells + 8) (slots + 1644) Q (F0 m 904 ls [.int (r' 0 0)])
  refine lv_istore hx hb dL_law__904 hl (by decide) rfl (fun ls hl => ?_)
  refine lv_aload_n hx hb dL_law__906 rfl (lv_at hl 3 rfl) ?_
  refine l_arg (kv := 1) X h1.2.2.2.2.1 (lv_at hl 5 rfl) (lv_at hl 1 rfl) hv.1 rfl dL_law__907 dL_law__908 dL_law__910 dL_law__911 dL_law__912 ?_
  refine l_cm (As := [.int (xs (i + 1).toNatClampNeg)]) (rest := []) (v := some (.int y)) X h1 hl.1 (c_X11_bolt l D (Am b1) (b1 + 222) (xs (i + 1).toNatClampNeg) r e2) mv_L_179 ⟨Nat.le_of_ble_eq_true rfl, Nat.le_of_ble_eq_true rfl⟩ hf rfl rfl (Nat.le_of_ble_eq_true rfl) dL_law__913 fun H2 locs2 h2 => ?_
  show W p l e room_1 s m #[Value.ref b] below meth c H2 locs2 (cells + 8) (slots + 1644) Q (F0 m 916 ls [.int y])
  refine lv_istore hx hb dL_law__916 hl (by decide) rfl (fun ls hl => ?_)
  exact l_tail X h2 hl rfl (fun h0 => hw _ (if_pos h0)) hf dL_law__918 dL_law__919 dL_law__922 dL_law__924 dL_law__929 dL_law__931 dL_law__934 dL_law__935 dL_law__936 dL_law__937 dL_law__939 dL_law__940 dL_law__941 dL_law__946 rfl fun H3 locs3 h3 => kk _ _ _ _ _ _ _ _ h3 hR3 hl.drop.drop
theorem l_case_14 : LCase 949 := by
  intro l p e s m below meth c b L xs D dJ b1 H locs cells slots Q G q u r x ls i X h hRR hl hv hf kk
  have hx := X.1.1
  have hb := X.1.2.1
  refine lv_aload_n hx hb dL_law__949 rfl (lv_at hl 3 rfl) ?_
  refine l_arg (kv := 1) X h.2.2.2.2.1 (lv_at hl 4 rfl) (lv_at hl 0 rfl) hv.1 rfl dL_law__950 dL_law__951 dL_law__953 dL_law__954 dL_law__955 ?_
  refine l_arg (kv := 2) X h.2.2.2.2.1 (lv_at hl 4 rfl) (lv_at hl 0 rfl) hv.2.1 rfl dL_law__956 dL_law__957 dL_law__959 dL_law__960 dL_law__961 ?_
  refine lv_aload_n hx hb dL_law__962 rfl (lv_at hl 1 rfl) ?_
  obtain ⟨o, q', u', y, r', e1, e2, hR2, hA⟩ := s_dole hRR (xs (i + 1).toNatClampNeg) (xs (i + 2).toNatClampNeg)
  refine l_cs (As := [.ref (b1 + 0), .int (xs (i + 1).toNatClampNeg), .int (xs (i + 2).toNatClampNeg), .ref (b1 + 232)]) (rest := []) (Φ := fun _ q' u' => RR q' u' r') X h hl.1 (c_L_dole l X.2.2.2.2.2.2.1 D (Ax b1) b1 (b1 + 232) dJ G q h.2.1 (xs (i + 1).toNatClampNeg) (xs (i + 2).toNatClampNeg) u e1 hA hR2) sv_L_180 (by decide) hf rfl rfl (Nat.le_of_ble_eq_true rfl) dL_law__963 fun G1 q1 u1 x1 H1 locs1 hR3 hw h1 => ?_
  show W p l e room_1 s m #[Value.ref b] below meth c H1 locs1 (cells + 8) (slots + 1644) Q (F0 m 966 ls [.int (r' 0 0)])
  refine lv_istore hx hb dL_law__966 hl (by decide) rfl (fun ls hl => ?_)
  refine lv_aload_n hx hb dL_law__968 rfl (lv_at hl 3 rfl) ?_
  refine l_arg (kv := 1) X h1.2.2.2.2.1 (lv_at hl 5 rfl) (lv_at hl 1 rfl) hv.1 rfl dL_law__969 dL_law__970 dL_law__972 dL_law__973 dL_law__974 ?_
  refine l_arg (kv := 2) X h1.2.2.2.2.1 (lv_at hl 5 rfl) (lv_at hl 1 rfl) hv.2.1 rfl dL_law__975 dL_law__976 dL_law__978 dL_law__979 dL_law__980 ?_
  refine l_cm (As := [.int (xs (i + 1).toNatClampNeg), .int (xs (i + 2).toNatClampNeg)]) (rest := []) (v := some (.int y)) X h1 hl.1 (c_X11_dole l D (Am b1) (b1 + 222) (xs (i + 1).toNatClampNeg) (xs (i + 2).toNatClampNeg) r e2) mv_L_182 ⟨Nat.le_of_ble_eq_true rfl, Nat.le_of_ble_eq_true rfl⟩ hf rfl rfl (Nat.le_of_ble_eq_true rfl) dL_law__981 fun H2 locs2 h2 => ?_
  show W p l e room_1 s m #[Value.ref b] below meth c H2 locs2 (cells + 8) (slots + 1644) Q (F0 m 984 ls [.int y])
  refine lv_istore hx hb dL_law__984 hl (by decide) rfl (fun ls hl => ?_)
  exact l_tail X h2 hl rfl (fun h0 => hw _ (if_pos h0)) hf dL_law__986 dL_law__987 dL_law__990 dL_law__992 dL_law__997 dL_law__999 dL_law__1002 dL_law__1003 dL_law__1004 dL_law__1005 dL_law__1007 dL_law__1008 dL_law__1009 dL_law__1014 rfl fun H3 locs3 h3 => kk _ _ _ _ _ _ _ _ h3 hR3 hl.drop.drop
theorem l_case_15 : LCase 1017 := by
  intro l p e s m below meth c b L xs D dJ b1 H locs cells slots Q G q u r x ls i X h hRR hl hv hf kk
  have hx := X.1.1
  have hb := X.1.2.1
  refine lv_aload_n hx hb dL_law__1017 rfl (lv_at hl 3 rfl) ?_
  refine l_arg (kv := 1) X h.2.2.2.2.1 (lv_at hl 4 rfl) (lv_at hl 0 rfl) hv.1 rfl dL_law__1018 dL_law__1019 dL_law__1021 dL_law__1022 dL_law__1023 ?_
  refine lv_aload_n hx hb dL_law__1024 rfl (lv_at hl 1 rfl) ?_
  obtain ⟨o, q', u', y, r', e1, e2, hR2, hA⟩ := s_fare hRR (xs (i + 1).toNatClampNeg)
  refine l_cs (As := [.ref (b1 + 0), .int (xs (i + 1).toNatClampNeg), .ref (b1 + 232)]) (rest := []) (Φ := fun _ q' u' => RR q' u' r') X h hl.1 (c_L_fare l X.2.2.2.2.2.2.1 D (Ax b1) b1 (b1 + 232) dJ G q h.2.1 (xs (i + 1).toNatClampNeg) u e1 hA hR2) sv_L_183 (by decide) hf rfl rfl (Nat.le_of_ble_eq_true rfl) dL_law__1025 fun G1 q1 u1 x1 H1 locs1 hR3 hw h1 => ?_
  show W p l e room_1 s m #[Value.ref b] below meth c H1 locs1 (cells + 8) (slots + 1644) Q (F0 m 1028 ls [.int (r' 0 0)])
  refine lv_istore hx hb dL_law__1028 hl (by decide) rfl (fun ls hl => ?_)
  refine lv_aload_n hx hb dL_law__1030 rfl (lv_at hl 3 rfl) ?_
  refine l_arg (kv := 1) X h1.2.2.2.2.1 (lv_at hl 5 rfl) (lv_at hl 1 rfl) hv.1 rfl dL_law__1031 dL_law__1032 dL_law__1034 dL_law__1035 dL_law__1036 ?_
  refine l_cm (As := [.int (xs (i + 1).toNatClampNeg)]) (rest := []) (v := some (.int y)) X h1 hl.1 (c_X11_fare l D (Am b1) (b1 + 222) (xs (i + 1).toNatClampNeg) r e2) mv_L_185 ⟨Nat.le_of_ble_eq_true rfl, Nat.le_of_ble_eq_true rfl⟩ hf rfl rfl (Nat.le_of_ble_eq_true rfl) dL_law__1037 fun H2 locs2 h2 => ?_
  show W p l e room_1 s m #[Value.ref b] below meth c H2 locs2 (cells + 8) (slots + 1644) Q (F0 m 1040 ls [.int y])
  refine lv_istore hx hb dL_law__1040 hl (by decide) rfl (fun ls hl => ?_)
  exact l_tail X h2 hl rfl (fun h0 => hw _ (if_pos h0)) hf dL_law__1042 dL_law__1043 dL_law__1046 dL_law__1048 dL_law__1053 dL_law__1055 dL_law__1058 dL_law__1059 dL_law__1060 dL_law__1061 dL_law__1063 dL_law__1064 dL_law__1065 dL_law__1070 rfl fun H3 locs3 h3 => kk _ _ _ _ _ _ _ _ h3 hR3 hl.drop.drop
theorem l_case_16 : LCase 1073 := by
  intro l p e s m below meth c b L xs D dJ b1 H locs cells slots Q G q u r x ls i X h hRR hl hv hf kk
  have hx := X.1.1
  have hb := X.1.2.1
  refine lv_aload_n hx hb dL_law__1073 rfl (lv_at hl 3 rfl) ?_
  refine l_arg (kv := 1) X h.2.2.2.2.1 (lv_at hl 4 rfl) (lv_at hl 0 rfl) hv.1 rfl dL_law__1074 dL_law__1075 dL_law__1077 dL_law__1078 dL_law__1079 ?_
  refine lv_aload_n hx hb dL_law__1080 rfl (lv_at hl 1 rfl) ?_
  obtain ⟨o, q', u', y, r', e1, e2, hR2, hA⟩ := s_bribe hRR (xs (i + 1).toNatClampNeg)
  refine l_cs (As := [.ref (b1 + 0), .int (xs (i + 1).toNatClampNeg), .ref (b1 + 232)]) (rest := []) (Φ := fun _ q' u' => RR q' u' r') X h hl.1 (c_L_bribe l X.2.2.2.2.2.2.1 D (Ax b1) b1 (b1 + 232) dJ G q h.2.1 (xs (i + 1).toNatClampNeg) u e1 hA hR2) sv_L_186 (by decide) hf rfl rfl (Nat.le_of_ble_eq_true rfl) dL_law__1081 fun G1 q1 u1 x1 H1 locs1 hR3 hw h1 => ?_
  show W p l e room_1 s m #[Value.ref b] below meth c H1 locs1 (cells + 8) (slots + 1644) Q (F0 m 1084 ls [.int (r' 0 0)])
  refine lv_istore hx hb dL_law__1084 hl (by decide) rfl (fun ls hl => ?_)
  refine lv_aload_n hx hb dL_law__1086 rfl (lv_at hl 3 rfl) ?_
  refine l_arg (kv := 1) X h1.2.2.2.2.1 (lv_at hl 5 rfl) (lv_at hl 1 rfl) hv.1 rfl dL_law__1087 dL_law__1088 dL_law__1090 dL_law__1091 dL_law__1092 ?_
  refine l_cm (As := [.int (xs (i + 1).toNatClampNeg)]) (rest := []) (v := some (.int y)) X h1 hl.1 (c_X11_bribe l D (Am b1) (b1 + 222) (xs (i + 1).toNatClampNeg) r e2) mv_L_188 ⟨Nat.le_of_ble_eq_true rfl, Nat.le_of_ble_eq_true rfl⟩ hf rfl rfl (Nat.le_of_ble_eq_true rfl) dL_law__1093 fun H2 locs2 h2 => ?_
  show W p l e room_1 s m #[Value.ref b] below meth c H2 locs2 (cells + 8) (slots + 1644) Q (F0 m 1096 ls [.int y])
  refine lv_istore hx hb dL_law__1096 hl (by decide) rfl (fun ls hl => ?_)
  exact l_tail X h2 hl rfl (fun h0 => hw _ (if_pos h0)) hf dL_law__1098 dL_law__1099 dL_law__1102 dL_law__1104 dL_law__1109 dL_law__1111 dL_law__1114 dL_law__1115 dL_law__1116 dL_law__1117 dL_law__1119 dL_law__1120 dL_law__1121 dL_law__1126 rfl fun H3 locs3 h3 => kk _ _ _ _ _ _ _ _ h3 hR3 hl.drop.drop
theorem l_case_17 : LCase 1129 := by
  intro l p e s m below meth c b L xs D dJ b1 H locs cells slots Q G q u r x ls i X h hRR hl hv hf kk
  have hx := X.1.1
  have hb := X.1.2.1
  refine lv_aload_n hx hb dL_law__1129 rfl (lv_at hl 3 rfl) ?_
  refine l_arg (kv := 1) X h.2.2.2.2.1 (lv_at hl 4 rfl) (lv_at hl 0 rfl) hv.1 rfl dL_law__1130 dL_law__1131 dL_law__1133 dL_law__1134 dL_law__1135 ?_
  refine lv_aload_n hx hb dL_law__1136 rfl (lv_at hl 1 rfl) ?_
  obtain ⟨o, q', u', y, r', e1, e2, hR2, hA⟩ := s_stops hRR (xs (i + 1).toNatClampNeg)
  refine l_cs (As := [.ref (b1 + 0), .int (xs (i + 1).toNatClampNeg), .ref (b1 + 232)]) (rest := []) (Φ := fun _ q' u' => RR q' u' r') X h hl.1 (c_L_stops l X.2.2.2.2.2.2.1 D (Ax b1) b1 (b1 + 232) dJ G q h.2.1 (xs (i + 1).toNatClampNeg) u e1 hA hR2) sv_L_189 (by decide) hf rfl rfl (Nat.le_of_ble_eq_true rfl) dL_law__1137 fun G1 q1 u1 x1 H1 locs1 hR3 hw h1 => ?_
  show W p l e room_1 s m #[Value.ref b] below meth c H1 locs1 (cells + 8) (slots + 1644) Q (F0 m 1140 ls [.int (r' 0 0)])
  refine lv_istore hx hb dL_law__1140 hl (by decide) rfl (fun ls hl => ?_)
  refine lv_aload_n hx hb dL_law__1142 rfl (lv_at hl 3 rfl) ?_
  refine l_arg (kv := 1) X h1.2.2.2.2.1 (lv_at hl 5 rfl) (lv_at hl 1 rfl) hv.1 rfl dL_law__1143 dL_law__1144 dL_law__1146 dL_law__1147 dL_law__1148 ?_
  refine l_cm (As := [.int (xs (i + 1).toNatClampNeg)]) (rest := []) (v := some (.int y)) X h1 hl.1 (c_X11_stops l D (Am b1) (b1 + 222) (xs (i + 1).toNatClampNeg) r e2) mv_L_191 ⟨Nat.le_of_ble_eq_true rfl, Nat.le_of_ble_eq_true rfl⟩ hf rfl rfl (Nat.le_of_ble_eq_true rfl) dL_law__1149 fun H2 locs2 h2 => ?_
  show W p l e room_1 s m #[Value.ref b] below meth c H2 locs2 (cells + 8) (slots + 1644) Q (F0 m 1152 ls [.int y])
  refine lv_istore hx hb dL_law__1152 hl (by decide) rfl (fun ls hl => ?_)
  exact l_tail X h2 hl rfl (fun h0 => hw _ (if_pos h0)) hf dL_law__1154 dL_law__1155 dL_law__1158 dL_law__1160 dL_law__1165 dL_law__1167 dL_law__1170 dL_law__1171 dL_law__1172 dL_law__1173 dL_law__1175 dL_law__1176 dL_law__1177 dL_law__1182 rfl fun H3 locs3 h3 => kk _ _ _ _ _ _ _ _ h3 hR3 hl.drop.drop
theorem l_case_18 : LCase 1185 := by
  intro l p e s m below meth c b L xs D dJ b1 H locs cells slots Q G q u r x ls i X h hRR hl hv hf kk
  have hx := X.1.1
  have hb := X.1.2.1
  refine lv_aload_n hx hb dL_law__1185 rfl (lv_at hl 3 rfl) ?_
  refine l_arg (kv := 1) X h.2.2.2.2.1 (lv_at hl 4 rfl) (lv_at hl 0 rfl) hv.1 rfl dL_law__1186 dL_law__1187 dL_law__1189 dL_law__1190 dL_law__1191 ?_
  refine l_arg (kv := 2) X h.2.2.2.2.1 (lv_at hl 4 rfl) (lv_at hl 0 rfl) hv.2.1 rfl dL_law__1192 dL_law__1193 dL_law__1195 dL_law__1196 dL_law__1197 ?_
  refine lv_aload_n hx hb dL_law__1198 rfl (lv_at hl 1 rfl) ?_
  obtain ⟨o, y, r', e1, e2, hR2, hA⟩ := s_odds hRR (xs (i + 1).toNatClampNeg) (xs (i + 2).toNatClampNeg)
  refine l_cs (As := [.ref (b1 + 0), .int (xs (i + 1).toNatClampNeg), .int (xs (i + 2).toNatClampNeg), .ref (b1 + 232)]) (rest := []) (Φ := fun _ q' u' => RR q' u' r') X h hl.1 (c_L_odds l X.2.2.2.2.2.2.1 D (Ax b1) b1 (b1 + 232) dJ G q h.2.1 (xs (i + 1).toNatClampNeg) (xs (i + 2).toNatClampNeg) u e1 hA hR2) sv_L_192 (by decide) hf rfl rfl (Nat.le_of_ble_eq_true rfl) dL_law__1199 fun G1 q1 u1 x1 H1 locs1 hR3 hw h1 => ?_
  show W p l e room_1 s m #[Value.ref b] below meth c H1 locs1 (cells + 8) (slots + 1644) Q (F0 m 1202 ls [.int (r' 0 0)])
  refine lv_istore hx hb dL_law__1202 hl (by decide) rfl (fun ls hl => ?_)
  refine lv_aload_n hx hb dL_law__1204 rfl (lv_at hl 3 rfl) ?_
  refine l_arg (kv := 1) X h1.2.2.2.2.1 (lv_at hl 5 rfl) (lv_at hl 1 rfl) hv.1 rfl dL_law__1205 dL_law__1206 dL_law__1208 dL_law__1209 dL_law__1210 ?_
  refine l_arg (kv := 2) X h1.2.2.2.2.1 (lv_at hl 5 rfl) (lv_at hl 1 rfl) hv.2.1 rfl dL_law__1211 dL_law__1212 dL_law__1214 dL_law__1215 dL_law__1216 ?_
  refine l_cm (As := [.int (xs (i + 1).toNatClampNeg), .int (xs (i + 2).toNatClampNeg)]) (rest := []) (v := some (.int y)) X h1 hl.1 (c_X11_odds l D (Am b1) (b1 + 222) (xs (i + 1).toNatClampNeg) (xs (i + 2).toNatClampNeg) r e2) mv_L_194 ⟨Nat.le_of_ble_eq_true rfl, Nat.le_of_ble_eq_true rfl⟩ hf rfl rfl (Nat.le_of_ble_eq_true rfl) dL_law__1217 fun H2 locs2 h2 => ?_
  show W p l e room_1 s m #[Value.ref b] below meth c H2 locs2 (cells + 8) (slots + 1644) Q (F0 m 1220 ls [.int y])
  refine lv_istore hx hb dL_law__1220 hl (by decide) rfl (fun ls hl => ?_)
  exact l_tail X h2 hl rfl (fun h0 => hw _ (if_pos h0)) hf dL_law__1222 dL_law__1223 dL_law__1226 dL_law__1228 dL_law__1233 dL_law__1235 dL_law__1238 dL_law__1239 dL_law__1240 dL_law__1241 dL_law__1243 dL_law__1244 dL_law__1245 dL_law__1250 rfl fun H3 locs3 h3 => kk _ _ _ _ _ _ _ _ h3 hR3 hl.drop.drop
theorem l_case_19 : LCase 1253 := by
  intro l p e s m below meth c b L xs D dJ b1 H locs cells slots Q G q u r x ls i X h hRR hl hv hf kk
  have hx := X.1.1
  have hb := X.1.2.1
  refine lv_aload_n hx hb dL_law__1253 rfl (lv_at hl 3 rfl) ?_
  refine l_arg (kv := 1) X h.2.2.2.2.1 (lv_at hl 4 rfl) (lv_at hl 0 rfl) hv.1 rfl dL_law__1254 dL_law__1255 dL_law__1257 dL_law__1258 dL_law__1259 ?_
  refine lv_aload_n hx hb dL_law__1260 rfl (lv_at hl 1 rfl) ?_
  obtain ⟨o, y, r', e1, e2, hR2, hA⟩ := s_best hRR (xs (i + 1).toNatClampNeg)
  refine l_cs (As := [.ref (b1 + 0), .int (xs (i + 1).toNatClampNeg), .ref (b1 + 232)]) (rest := []) (Φ := fun _ q' u' => RR q' u' r') X h hl.1 (c_L_best l X.2.2.2.2.2.2.1 D (Ax b1) b1 (b1 + 232) dJ G q h.2.1 (xs (i + 1).toNatClampNeg) u (opA (r 1)) (l_op h.2.1 hRR) e1 hA hR2) sv_L_195 (by decide) hf rfl rfl (Nat.le_of_ble_eq_true rfl) dL_law__1261 fun G1 q1 u1 x1 H1 locs1 hR3 hw h1 => ?_
  show W p l e room_1 s m #[Value.ref b] below meth c H1 locs1 (cells + 8) (slots + 1644) Q (F0 m 1264 ls [.int (r' 0 0)])
  refine lv_istore hx hb dL_law__1264 hl (by decide) rfl (fun ls hl => ?_)
  refine lv_aload_n hx hb dL_law__1266 rfl (lv_at hl 3 rfl) ?_
  refine l_arg (kv := 1) X h1.2.2.2.2.1 (lv_at hl 5 rfl) (lv_at hl 1 rfl) hv.1 rfl dL_law__1267 dL_law__1268 dL_law__1270 dL_law__1271 dL_law__1272 ?_
  refine l_cm (As := [.int (xs (i + 1).toNatClampNeg)]) (rest := []) (v := some (.int y)) X h1 hl.1 (c_X11_best l D (Am b1) (b1 + 222) (xs (i + 1).toNatClampNeg) r e2) mv_L_197 ⟨Nat.le_of_ble_eq_true rfl, Nat.le_of_ble_eq_true rfl⟩ hf rfl rfl (Nat.le_of_ble_eq_true rfl) dL_law__1273 fun H2 locs2 h2 => ?_
  show W p l e room_1 s m #[Value.ref b] below meth c H2 locs2 (cells + 8) (slots + 1644) Q (F0 m 1276 ls [.int y])
  refine lv_istore hx hb dL_law__1276 hl (by decide) rfl (fun ls hl => ?_)
  exact l_tail X h2 hl rfl (fun h0 => hw _ (if_pos h0)) hf dL_law__1278 dL_law__1279 dL_law__1282 dL_law__1284 dL_law__1289 dL_law__1291 dL_law__1294 dL_law__1295 dL_law__1296 dL_law__1297 dL_law__1299 dL_law__1300 dL_law__1301 dL_law__1306 rfl fun H3 locs3 h3 => kk _ _ _ _ _ _ _ _ h3 hR3 hl.drop.drop
