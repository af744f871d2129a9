/-! MACHINE, 9: the kinds of calls (printed by lawcase.py) -/
theorem l_case_30 : LCase 1682 := by
  intro l p e s m below meth c b L xs D dJ b1 H locs cells slots Q G q u r x ls i X h hRR hl hv hf kk
  have hx := X.1.1
  have hb := X.1.2.1
  refine lv_aload_n hx hb dL_law__1682 rfl (lv_at hl 3 rfl) ?_
  refine lv_aload_n hx hb dL_law__1683 rfl (lv_at hl 1 rfl) ?_
  obtain ⟨o, u', y, r', e1, e2, hR2, hA⟩ := s_fire hRR
  refine l_cs (As := [.ref (b1 + 0), .ref (b1 + 232)]) (rest := []) (Φ := fun _ q' u' => RR q' u' r') X h hl.1 (c_L_fire l X.2.2.2.2.2.2.1 D (Ax b1) b1 (b1 + 232) dJ G q h.2.1 u e1 hA hR2) sv_L_234 (by decide) hf rfl rfl (Nat.le_of_ble_eq_true rfl) dL_law__1684 fun G1 q1 u1 x1 H1 locs1 hR3 hw h1 => ?_
  show W p l e room_1 s m #[Value.ref b] below meth c H1 locs1 (cells + 8) (slots + 1644) Q (F0 m 1687 ls [.int (r' 0 0)])
  refine lv_istore hx hb dL_law__1687 hl (by decide) rfl (fun ls hl => ?_)
  refine lv_aload_n hx hb dL_law__1689 rfl (lv_at hl 3 rfl) ?_
  refine l_cm (As := []) (rest := []) (v := some (.int y)) X h1 hl.1 (c_X11_fire l D (Am b1) (b1 + 222) r e2) mv_L_236 ⟨Nat.le_of_ble_eq_true rfl, Nat.le_of_ble_eq_true rfl⟩ hf rfl rfl (Nat.le_of_ble_eq_true rfl) dL_law__1690 fun H2 locs2 h2 => ?_
  show W p l e room_1 s m #[Value.ref b] below meth c H2 locs2 (cells + 8) (slots + 1644) Q (F0 m 1693 ls [.int y])
  refine lv_istore hx hb dL_law__1693 hl (by decide) rfl (fun ls hl => ?_)
  exact l_tail X h2 hl rfl (fun h0 => hw _ (if_pos h0)) hf dL_law__1695 dL_law__1696 dL_law__1699 dL_law__1701 dL_law__1706 dL_law__1708 dL_law__1711 dL_law__1712 dL_law__1713 dL_law__1714 dL_law__1716 dL_law__1717 dL_law__1718 dL_law__1723 rfl fun H3 locs3 h3 => kk _ _ _ _ _ _ _ _ h3 hR3 hl.drop.drop
theorem l_case_31 : LCase 1726 := by
  intro l p e s m below meth c b L xs D dJ b1 H locs cells slots Q G q u r x ls i X h hRR hl hv hf kk
  have hx := X.1.1
  have hb := X.1.2.1
  refine lv_aload_n hx hb dL_law__1726 rfl (lv_at hl 3 rfl) ?_
  refine lv_aload_n hx hb dL_law__1727 rfl (lv_at hl 1 rfl) ?_
  obtain ⟨o, u', y, r', e1, e2, hR2, hA⟩ := s_ask hRR
  refine l_cs (As := [.ref (b1 + 0), .ref (b1 + 232)]) (rest := []) (Φ := fun _ q' u' => RR q' u' r') X h hl.1 (c_L_ask l X.2.2.2.2.2.2.1 D (Ax b1) b1 (b1 + 232) dJ G q h.2.1 u e1 hA hR2) sv_L_237 (by decide) hf rfl rfl (Nat.le_of_ble_eq_true rfl) dL_law__1728 fun G1 q1 u1 x1 H1 locs1 hR3 hw h1 => ?_
  show W p l e room_1 s m #[Value.ref b] below meth c H1 locs1 (cells + 8) (slots + 1644) Q (F0 m 1731 ls [.int (r' 0 0)])
  refine lv_istore hx hb dL_law__1731 hl (by decide) rfl (fun ls hl => ?_)
  refine lv_aload_n hx hb dL_law__1733 rfl (lv_at hl 3 rfl) ?_
  refine l_cm (As := []) (rest := []) (v := some (.int y)) X h1 hl.1 (c_X11_ask l D (Am b1) (b1 + 222) r e2) mv_L_239 ⟨Nat.le_of_ble_eq_true rfl, Nat.le_of_ble_eq_true rfl⟩ hf rfl rfl (Nat.le_of_ble_eq_true rfl) dL_law__1734 fun H2 locs2 h2 => ?_
  show W p l e room_1 s m #[Value.ref b] below meth c H2 locs2 (cells + 8) (slots + 1644) Q (F0 m 1737 ls [.int y])
  refine lv_istore hx hb dL_law__1737 hl (by decide) rfl (fun ls hl => ?_)
  exact l_tail X h2 hl rfl (fun h0 => hw _ (if_pos h0)) hf dL_law__1739 dL_law__1740 dL_law__1743 dL_law__1745 dL_law__1750 dL_law__1752 dL_law__1755 dL_law__1756 dL_law__1757 dL_law__1758 dL_law__1760 dL_law__1761 dL_law__1762 dL_law__1767 rfl fun H3 locs3 h3 => kk _ _ _ _ _ _ _ _ h3 hR3 hl.drop.drop
theorem l_case_32 : LCase 1770 := by
  intro l p e s m below meth c b L xs D dJ b1 H locs cells slots Q G q u r x ls i X h hRR hl hv hf kk
  have hx := X.1.1
  have hb := X.1.2.1
  refine lv_aload_n hx hb dL_law__1770 rfl (lv_at hl 3 rfl) ?_
  refine l_arg (kv := 1) X h.2.2.2.2.1 (lv_at hl 4 rfl) (lv_at hl 0 rfl) hv.1 rfl dL_law__1771 dL_law__1772 dL_law__1774 dL_law__1775 dL_law__1776 ?_
  refine l_arg (kv := 2) X h.2.2.2.2.1 (lv_at hl 4 rfl) (lv_at hl 0 rfl) hv.2.1 rfl dL_law__1777 dL_law__1778 dL_law__1780 dL_law__1781 dL_law__1782 ?_
  refine lv_aload_n hx hb dL_law__1783 rfl (lv_at hl 1 rfl) ?_
  obtain ⟨o, q', u', y, r', e1, e2, hR2, hA⟩ := s_boards hRR (xs (i + 1).toNatClampNeg) (xs (i + 2).toNatClampNeg)
  refine l_cs (As := [.ref (b1 + 0), .int (xs (i + 1).toNatClampNeg), .int (xs (i + 2).toNatClampNeg), .ref (b1 + 232)]) (rest := []) (Φ := fun _ q' u' => RR q' u' r') X h hl.1 (c_L_boards l X.2.2.2.2.2.2.1 D (Ax b1) b1 (b1 + 232) dJ G q h.2.1 (xs (i + 1).toNatClampNeg) (xs (i + 2).toNatClampNeg) u e1 hA hR2) sv_L_240 (by decide) hf rfl rfl (Nat.le_of_ble_eq_true rfl) dL_law__1784 fun G1 q1 u1 x1 H1 locs1 hR3 hw h1 => ?_
  show W p l e room_1 s m #[Value.ref b] below meth c H1 locs1 (cells + 8) (slots + 1644) Q (F0 m 1787 ls [.int (r' 0 0)])
  refine lv_istore hx hb dL_law__1787 hl (by decide) rfl (fun ls hl => ?_)
  refine lv_aload_n hx hb dL_law__1789 rfl (lv_at hl 3 rfl) ?_
  refine l_arg (kv := 1) X h1.2.2.2.2.1 (lv_at hl 5 rfl) (lv_at hl 1 rfl) hv.1 rfl dL_law__1790 dL_law__1791 dL_law__1793 dL_law__1794 dL_law__1795 ?_
  refine l_arg (kv := 2) X h1.2.2.2.2.1 (lv_at hl 5 rfl) (lv_at hl 1 rfl) hv.2.1 rfl dL_law__1796 dL_law__1797 dL_law__1799 dL_law__1800 dL_law__1801 ?_
  refine l_cm (As := [.int (xs (i + 1).toNatClampNeg), .int (xs (i + 2).toNatClampNeg)]) (rest := []) (v := some (.int y)) X h1 hl.1 (c_X11_boards l D (Am b1) (b1 + 222) (xs (i + 1).toNatClampNeg) (xs (i + 2).toNatClampNeg) r e2) mv_L_242 ⟨Nat.le_of_ble_eq_true rfl, Nat.le_of_ble_eq_true rfl⟩ hf rfl rfl (Nat.le_of_ble_eq_true rfl) dL_law__1802 fun H2 locs2 h2 => ?_
  show W p l e room_1 s m #[Value.ref b] below meth c H2 locs2 (cells + 8) (slots + 1644) Q (F0 m 1805 ls [.int y])
  refine lv_istore hx hb dL_law__1805 hl (by decide) rfl (fun ls hl => ?_)
  exact l_tail X h2 hl rfl (fun h0 => hw _ (if_pos h0)) hf dL_law__1807 dL_law__1808 dL_law__1811 dL_law__1813 dL_law__1818 dL_law__1820 dL_law__1823 dL_law__1824 dL_law__1825 dL_law__1826 dL_law__1828 dL_law__1829 dL_law__1830 dL_law__1835 rfl fun H3 locs3 h3 => kk _ _ _ _ _ _ _ _ h3 hR3 hl.drop.drop
theorem l_case_33 : LCase 1838 := by
  intro l p e s m below meth c b L xs D dJ b1 H locs cells slots Q G q u r x ls i X h hRR hl hv hf kk
  have hx := X.1.1
  have hb := X.1.2.1
  refine lv_aload_n hx hb dL_law__1838 rfl (lv_at hl 3 rfl) ?_
  refine l_arg (kv := 1) X h.2.2.2.2.1 (lv_at hl 4 rfl) (lv_at hl 0 rfl) hv.1 rfl dL_law__1839 dL_law__1840 dL_law__1842 dL_law__1843 dL_law__1844 ?_
  refine l_arg (kv := 2) X h.2.2.2.2.1 (lv_at hl 4 rfl) (lv_at hl 0 rfl) hv.2.1 rfl dL_law__1845 dL_law__1846 dL_law__1848 dL_law__1849 dL_law__1850 ?_
  refine lv_aload_n hx hb dL_law__1851 rfl (lv_at hl 1 rfl) ?_
  obtain ⟨o, q', u', y, r', e1, e2, hR2, hA⟩ := s_ruled hRR (xs (i + 1).toNatClampNeg) (xs (i + 2).toNatClampNeg)
  refine l_cs (As := [.ref (b1 + 0), .int (xs (i + 1).toNatClampNeg), .int (xs (i + 2).toNatClampNeg), .ref (b1 + 232)]) (rest := []) (Φ := fun _ q' u' => RR q' u' r') X h hl.1 (c_L_ruled l X.2.2.2.2.2.2.1 D (Ax b1) b1 (b1 + 232) dJ G q h.2.1 (xs (i + 1).toNatClampNeg) (xs (i + 2).toNatClampNeg) u e1 hA hR2) sv_L_243 (by decide) hf rfl rfl (Nat.le_of_ble_eq_true rfl) dL_law__1852 fun G1 q1 u1 x1 H1 locs1 hR3 hw h1 => ?_
  show W p l e room_1 s m #[Value.ref b] below meth c H1 locs1 (cells + 8) (slots + 1644) Q (F0 m 1855 ls [.int (r' 0 0)])
  refine lv_istore hx hb dL_law__1855 hl (by decide) rfl (fun ls hl => ?_)
  refine lv_aload_n hx hb dL_law__1857 rfl (lv_at hl 3 rfl) ?_
  refine l_arg (kv := 1) X h1.2.2.2.2.1 (lv_at hl 5 rfl) (lv_at hl 1 rfl) hv.1 rfl dL_law__1858 dL_law__1859 dL_law__1861 dL_law__1862 dL_law__1863 ?_
  refine l_arg (kv := 2) X h1.2.2.2.2.1 (lv_at hl 5 rfl) (lv_at hl 1 rfl) hv.2.1 rfl dL_law__1864 dL_law__1865 dL_law__1867 dL_law__1868 dL_law__1869 ?_
  refine l_cm (As := [.int (xs (i + 1).toNatClampNeg), .int (xs (i + 2).toNatClampNeg)]) (rest := []) (v := some (.int y)) X h1 hl.1 (c_X11_ruled l D (Am b1) (b1 + 222) (xs (i + 1).toNatClampNeg) (xs (i + 2).toNatClampNeg) r e2) mv_L_245 ⟨Nat.le_of_ble_eq_true rfl, Nat.le_of_ble_eq_true rfl⟩ hf rfl rfl (Nat.le_of_ble_eq_true rfl) dL_law__1870 fun H2 locs2 h2 => ?_
  show W p l e room_1 s m #[Value.ref b] below meth c H2 locs2 (cells + 8) (slots + 1644) Q (F0 m 1873 ls [.int y])
  refine lv_istore hx hb dL_law__1873 hl (by decide) rfl (fun ls hl => ?_)
  exact l_tail X h2 hl rfl (fun h0 => hw _ (if_pos h0)) hf dL_law__1875 dL_law__1876 dL_law__1879 dL_law__1881 dL_law__1886 dL_law__1888 dL_law__1891 dL_law__1892 dL_law__1893 dL_law__1894 dL_law__1896 dL_law__1897 dL_law__1898 dL_law__1903 rfl fun H3 locs3 h3 => kk _ _ _ _ _ _ _ _ h3 hR3 hl.drop.drop
theorem l_case_34 : LCase 1906 := by
  intro l p e s m below meth c b L xs D dJ b1 H locs cells slots Q G q u r x ls i X h hRR hl hv hf kk
  have hx := X.1.1
  have hb := X.1.2.1
  refine lv_aload_n hx hb dL_law__1906 rfl (lv_at hl 3 rfl) ?_
  refine l_arg (kv := 1) X h.2.2.2.2.1 (lv_at hl 4 rfl) (lv_at hl 0 rfl) hv.1 rfl dL_law__1907 dL_law__1908 dL_law__1910 dL_law__1911 dL_law__1912 ?_
  refine lv_aload_n hx hb dL_law__1913 rfl (lv_at hl 1 rfl) ?_
  obtain ⟨o, q', u', y, r', e1, e2, hR2, hA⟩ := s_round hRR (xs (i + 1).toNatClampNeg)
  refine l_cs (As := [.ref (b1 + 0), .int (xs (i + 1).toNatClampNeg), .ref (b1 + 232)]) (rest := []) (Φ := fun _ q' u' => RR q' u' r') X h hl.1 (c_L_round l X.2.2.2.2.2.2.1 D (Ax b1) b1 (b1 + 232) dJ G q h.2.1 (xs (i + 1).toNatClampNeg) u e1 hA hR2) sv_L_246 (by decide) hf rfl rfl (Nat.le_of_ble_eq_true rfl) dL_law__1914 fun G1 q1 u1 x1 H1 locs1 hR3 hw h1 => ?_
  show W p l e room_1 s m #[Value.ref b] below meth c H1 locs1 (cells + 8) (slots + 1644) Q (F0 m 1917 ls [.int (r' 0 0)])
  refine lv_istore hx hb dL_law__1917 hl (by decide) rfl (fun ls hl => ?_)
  refine lv_aload_n hx hb dL_law__1919 rfl (lv_at hl 3 rfl) ?_
  refine l_arg (kv := 1) X h1.2.2.2.2.1 (lv_at hl 5 rfl) (lv_at hl 1 rfl) hv.1 rfl dL_law__1920 dL_law__1921 dL_law__1923 dL_law__1924 dL_law__1925 ?_
  refine l_cm (As := [.int (xs (i + 1).toNatClampNeg)]) (rest := []) (v := some (.int y)) X h1 hl.1 (c_X11_round l D (Am b1) (b1 + 222) (xs (i + 1).toNatClampNeg) r e2) mv_L_248 ⟨Nat.le_of_ble_eq_true rfl, Nat.le_of_ble_eq_true rfl⟩ hf rfl rfl (Nat.le_of_ble_eq_true rfl) dL_law__1926 fun H2 locs2 h2 => ?_
  show W p l e room_1 s m #[Value.ref b] below meth c H2 locs2 (cells + 8) (slots + 1644) Q (F0 m 1929 ls [.int y])
  refine lv_istore hx hb dL_law__1929 hl (by decide) rfl (fun ls hl => ?_)
  exact l_tail X h2 hl rfl (fun h0 => hw _ (if_pos h0)) hf dL_law__1931 dL_law__1932 dL_law__1935 dL_law__1937 dL_law__1942 dL_law__1944 dL_law__1947 dL_law__1948 dL_law__1949 dL_law__1950 dL_law__1952 dL_law__1953 dL_law__1954 dL_law__1959 rfl fun H3 locs3 h3 => kk _ _ _ _ _ _ _ _ h3 hR3 hl.drop.drop
theorem l_case_35 : LCase 1962 := by
  intro l p e s m below meth c b L xs D dJ b1 H locs cells slots Q G q u r x ls i X h hRR hl hv hf kk
  have hx := X.1.1
  have hb := X.1.2.1
  refine lv_aload_n hx hb dL_law__1962 rfl (lv_at hl 3 rfl) ?_
  refine l_arg (kv := 1) X h.2.2.2.2.1 (lv_at hl 4 rfl) (lv_at hl 0 rfl) hv.1 rfl dL_law__1963 dL_law__1964 dL_law__1966 dL_law__1967 dL_law__1968 ?_
  refine l_arg (kv := 2) X h.2.2.2.2.1 (lv_at hl 4 rfl) (lv_at hl 0 rfl) hv.2.1 rfl dL_law__1969 dL_law__1970 dL_law__1972 dL_law__1973 dL_law__1974 ?_
  refine lv_aload_n hx hb dL_law__1975 rfl (lv_at hl 1 rfl) ?_
  obtain ⟨o, q', u', y, r', e1, e2, hR2, hA⟩ := s_ruin hRR (xs (i + 1).toNatClampNeg) (xs (i + 2).toNatClampNeg)
  refine l_cs (As := [.ref (b1 + 0), .int (xs (i + 1).toNatClampNeg), .int (xs (i + 2).toNatClampNeg), .ref (b1 + 232)]) (rest := []) (Φ := fun _ q' u' => RR q' u' r') X h hl.1 (c_L_ruin l X.2.2.2.2.2.2.1 D (Ax b1) b1 (b1 + 232) dJ G q h.2.1 (xs (i + 1).toNatClampNeg) (xs (i + 2).toNatClampNeg) u e1 hA hR2) sv_L_249 (by decide) hf rfl rfl (Nat.le_of_ble_eq_true rfl) dL_law__1976 fun G1 q1 u1 x1 H1 locs1 hR3 hw h1 => ?_
  show W p l e room_1 s m #[Value.ref b] below meth c H1 locs1 (cells + 8) (slots + 1644) Q (F0 m 1979 ls [.int (r' 0 0)])
  refine lv_istore hx hb dL_law__1979 hl (by decide) rfl (fun ls hl => ?_)
  refine lv_aload_n hx hb dL_law__1981 rfl (lv_at hl 3 rfl) ?_
  refine l_arg (kv := 1) X h1.2.2.2.2.1 (lv_at hl 5 rfl) (lv_at hl 1 rfl) hv.1 rfl dL_law__1982 dL_law__1983 dL_law__1985 dL_law__1986 dL_law__1987 ?_
  refine l_arg (kv := 2) X h1.2.2.2.2.1 (lv_at hl 5 rfl) (lv_at hl 1 rfl) hv.2.1 rfl dL_law__1988 dL_law__1989 dL_law__1991 dL_law__1992 dL_law__1993 ?_
  refine l_cm (As := [.int (xs (i + 1).toNatClampNeg), .int (xs (i + 2).toNatClampNeg)]) (rest := []) (v := some (.int y)) X h1 hl.1 (c_X11_ruin l D (Am b1) (b1 + 222) (xs (i + 1).toNatClampNeg) (xs (i + 2).toNatClampNeg) r e2) mv_L_251 ⟨Nat.le_of_ble_eq_true rfl, Nat.le_of_ble_eq_true rfl⟩ hf rfl rfl (Nat.le_of_ble_eq_true rfl) dL_law__1994 fun H2 locs2 h2 => ?_
  show W p l e room_1 s m #[Value.ref b] below meth c H2 locs2 (cells + 8) (slots + 1644) Q (F0 m 1997 ls [.int y])
  refine lv_istore hx hb dL_law__1997 hl (by decide) rfl (fun ls hl => ?_)
  exact l_tail X h2 hl rfl (fun h0 => hw _ (if_pos h0)) hf dL_law__1999 dL_law__2000 dL_law__2003 dL_law__2005 dL_law__2010 dL_law__2012 dL_law__2015 dL_law__2016 dL_law__2017 dL_law__2018 dL_law__2020 dL_law__2021 dL_law__2022 dL_law__2027 rfl fun H3 locs3 h3 => kk _ _ _ _ _ _ _ _ h3 hR3 hl.drop.drop
theorem l_case_36 : LCase 2030 := by
  intro l p e s m below meth c b L xs D dJ b1 H locs cells slots Q G q u r x ls i X h hRR hl hv hf kk
  have hx := X.1.1
  have hb := X.1.2.1
  refine lv_aload_n hx hb dL_law__2030 rfl (lv_at hl 3 rfl) ?_
  refine l_arg (kv := 1) X h.2.2.2.2.1 (lv_at hl 4 rfl) (lv_at hl 0 rfl) hv.1 rfl dL_law__2031 dL_law__2032 dL_law__2034 dL_law__2035 dL_law__2036 ?_
  refine l_arg (kv := 2) X h.2.2.2.2.1 (lv_at hl 4 rfl) (lv_at hl 0 rfl) hv.2.1 rfl dL_law__2037 dL_law__2038 dL_law__2040 dL_law__2041 dL_law__2042 ?_
  refine l_arg (kv := 3) X h.2.2.2.2.1 (lv_at hl 4 rfl) (lv_at hl 0 rfl) hv.2.2.1 rfl dL_law__2043 dL_law__2044 dL_law__2046 dL_law__2047 dL_law__2048 ?_
  refine lv_aload_n hx hb dL_law__2049 rfl (lv_at hl 1 rfl) ?_
  obtain ⟨o, q', u', y, r', e1, e2, hR2, hA⟩ := s_ahead hRR (xs (i + 1).toNatClampNeg) (xs (i + 2).toNatClampNeg) (xs (i + 3).toNatClampNeg)
  refine l_cs (As := [.ref (b1 + 0), .int (xs (i + 1).toNatClampNeg), .int (xs (i + 2).toNatClampNeg), .int (xs (i + 3).toNatClampNeg), .ref (b1 + 232)]) (rest := []) (Φ := fun _ q' u' => RR q' u' r') X h hl.1 (c_L_ahead l X.2.2.2.2.2.2.1 D (Ax b1) b1 (b1 + 232) dJ G q h.2.1 (xs (i + 1).toNatClampNeg) (xs (i + 2).toNatClampNeg) (xs (i + 3).toNatClampNeg) u e1 hA hR2) sv_L_252 (by decide) hf rfl rfl (Nat.le_of_ble_eq_true rfl) dL_law__2050 fun G1 q1 u1 x1 H1 locs1 hR3 hw h1 => ?_
  show W p l e room_1 s m #[Value.ref b] below meth c H1 locs1 (cells + 8) (slots + 1644) Q (F0 m 2053 ls [.int (r' 0 0)])
  refine lv_istore hx hb dL_law__2053 hl (by decide) rfl (fun ls hl => ?_)
  refine lv_aload_n hx hb dL_law__2055 rfl (lv_at hl 3 rfl) ?_
  refine l_arg (kv := 1) X h1.2.2.2.2.1 (lv_at hl 5 rfl) (lv_at hl 1 rfl) hv.1 rfl dL_law__2056 dL_law__2057 dL_law__2059 dL_law__2060 dL_law__2061 ?_
  refine l_arg (kv := 2) X h1.2.2.2.2.1 (lv_at hl 5 rfl) (lv_at hl 1 rfl) hv.2.1 rfl dL_law__2062 dL_law__2063 dL_law__2065 dL_law__2066 dL_law__2067 ?_
  refine l_arg (kv := 3) X h1.2.2.2.2.1 (lv_at hl 5 rfl) (lv_at hl 1 rfl) hv.2.2.1 rfl dL_law__2068 dL_law__2069 dL_law__2071 dL_law__2072 dL_law__2073 ?_
  refine l_cm (As := [.int (xs (i + 1).toNatClampNeg), .int (xs (i + 2).toNatClampNeg), .int (xs (i + 3).toNatClampNeg)]) (rest := []) (v := some (.int y)) X h1 hl.1 (c_X11_ahead l D (Am b1) (b1 + 222) (xs (i + 1).toNatClampNeg) (xs (i + 2).toNatClampNeg) (xs (i + 3).toNatClampNeg) r e2) mv_L_255 ⟨Nat.le_of_ble_eq_true rfl, Nat.le_of_ble_eq_true rfl⟩ hf rfl rfl (Nat.le_of_ble_eq_true rfl) dL_law__2074 fun H2 locs2 h2 => ?_
  show W p l e room_1 s m #[Value.ref b] below meth c H2 locs2 (cells + 8) (slots + 1644) Q (F0 m 2077 ls [.int y])
  refine lv_istore hx hb dL_law__2077 hl (by decide) rfl (fun ls hl => ?_)
  exact l_tail X h2 hl rfl (fun h0 => hw _ (if_pos h0)) hf dL_law__2079 dL_law__2080 dL_law__2083 dL_law__2085 dL_law__2090 dL_law__2092 dL_law__2095 dL_law__2096 dL_law__2097 dL_law__2098 dL_law__2100 dL_law__2101 dL_law__2102 dL_law__2107 rfl fun H3 locs3 h3 => kk _ _ _ _ _ _ _ _ h3 hR3 hl.drop.drop
theorem l_case_37 : LCase 2110 := by
  intro l p e s m below meth c b L xs D dJ b1 H locs cells slots Q G q u r x ls i X h hRR hl hv hf kk
  have hx := X.1.1
  have hb := X.1.2.1
  refine lv_aload_n hx hb dL_law__2110 rfl (lv_at hl 3 rfl) ?_
  obtain ⟨y, e1, e2, hR2⟩ := s_richest hRR
  refine l_cx (As := []) (rest := []) (v := some (.int y)) X h hl.1 (c_X10_richest l D (Ax b1) b1 G q h.2.1 u e1) mv_L_256 ⟨Nat.le_of_ble_eq_true rfl, Nat.le_of_ble_eq_true rfl⟩ hf rfl rfl (Nat.le_of_ble_eq_true rfl) dL_law__2111 fun H1 locs1 h1 => ?_
  show W p l e room_1 s m #[Value.ref b] below meth c H1 locs1 cells slots Q (F0 m 2114 ls [.int (y)])
  refine lv_aload_n hx hb dL_law__2114 rfl (lv_at hl 2 rfl) ?_
  refine l_cm (As := []) (rest := [.int (y)]) (v := some (.int y)) X h1 hl.1 (c_X11_richest l D (Am b1) (b1 + 222) r e2) mv_L_259 ⟨Nat.le_of_ble_eq_true rfl, Nat.le_of_ble_eq_true rfl⟩ ⟨by omega, by omega⟩ rfl rfl (Nat.le_of_ble_eq_true rfl) dL_law__2115 fun H2 locs2 h2 => ?_
  refine W.widen (Nat.le_add_right cells 8) (Nat.le_add_right slots 1644) ?_
  exact lv_icmp_eq (tgt := 2569) hx hb dL_law__2118 rfl (fun _ => kk _ _ _ _ _ _ _ _ h2 hR2 hl) (fun hne => absurd rfl hne)
theorem l_case_38 : LCase 2123 := by
  intro l p e s m below meth c b L xs D dJ b1 H locs cells slots Q G q u r x ls i X h hRR hl hv hf kk
  have hx := X.1.1
  have hb := X.1.2.1
  refine lv_aload_n hx hb dL_law__2123 rfl (lv_at hl 3 rfl) ?_
  obtain ⟨y, e1, e2, hR2⟩ := s_room hRR
  refine l_cx (As := []) (rest := []) (v := some (.int y)) X h hl.1 (c_X10_room l D (Ax b1) b1 G q h.2.1 u e1) mv_L_260 ⟨Nat.le_of_ble_eq_true rfl, Nat.le_of_ble_eq_true rfl⟩ hf rfl rfl (Nat.le_of_ble_eq_true rfl) dL_law__2124 fun H1 locs1 h1 => ?_
  show W p l e room_1 s m #[Value.ref b] below meth c H1 locs1 cells slots Q (F0 m 2127 ls [.int (y)])
  refine lv_aload_n hx hb dL_law__2127 rfl (lv_at hl 2 rfl) ?_
  refine l_cm (As := []) (rest := [.int (y)]) (v := some (.int y)) X h1 hl.1 (c_X11_room l D (Am b1) (b1 + 222) r e2) mv_L_263 ⟨Nat.le_of_ble_eq_true rfl, Nat.le_of_ble_eq_true rfl⟩ ⟨by omega, by omega⟩ rfl rfl (Nat.le_of_ble_eq_true rfl) dL_law__2128 fun H2 locs2 h2 => ?_
  refine W.widen (Nat.le_add_right cells 8) (Nat.le_add_right slots 1644) ?_
  exact lv_icmp_eq (tgt := 2569) hx hb dL_law__2131 rfl (fun _ => kk _ _ _ _ _ _ _ _ h2 hR2 hl) (fun hne => absurd rfl hne)
theorem l_case_39 : LCase 2136 := by
  intro l p e s m below meth c b L xs D dJ b1 H locs cells slots Q G q u r x ls i X h hRR hl hv hf kk
  have hx := X.1.1
  have hb := X.1.2.1
  refine lv_aload_n hx hb dL_law__2136 rfl (lv_at hl 3 rfl) ?_
  obtain ⟨y, e1, e2, hR2⟩ := s_pairs hRR
  refine l_cx (As := []) (rest := []) (v := some (.int y)) X h hl.1 (c_X10_pairs l D (Ax b1) b1 G q h.2.1 u e1) mv_L_264 ⟨Nat.le_of_ble_eq_true rfl, Nat.le_of_ble_eq_true rfl⟩ hf rfl rfl (Nat.le_of_ble_eq_true rfl) dL_law__2137 fun H1 locs1 h1 => ?_
  show W p l e room_1 s m #[Value.ref b] below meth c H1 locs1 cells slots Q (F0 m 2140 ls [.int (y)])
  refine lv_aload_n hx hb dL_law__2140 rfl (lv_at hl 2 rfl) ?_
  refine l_cm (As := []) (rest := [.int (y)]) (v := some (.int y)) X h1 hl.1 (c_X11_pairs l D (Am b1) (b1 + 222) r e2) mv_L_267 ⟨Nat.le_of_ble_eq_true rfl, Nat.le_of_ble_eq_true rfl⟩ ⟨by omega, by omega⟩ rfl rfl (Nat.le_of_ble_eq_true rfl) dL_law__2141 fun H2 locs2 h2 => ?_
  refine W.widen (Nat.le_add_right cells 8) (Nat.le_add_right slots 1644) ?_
  exact lv_icmp_eq (tgt := 2569) hx hb dL_law__2144 rfl (fun _ => kk _ _ _ _ _ _ _ _ h2 hR2 hl) (fun hne => absurd rfl hne)
