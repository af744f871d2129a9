theorem in_X11 : ∀ w ∈ u_ws RX11 TX11 23, w ∈ wsA := w_us [1349, 1351, 1353, 1355, 1357, 1359, 1361, 1363, 1365, 1367, 1369, 1371, 1373, 1375, 1377, 1379, 1381, 1383, 1385, 1387, 1389, 1391, 1393] (by decide +kernel)
theorem w_fl_X11_7 : Cond.fieldLink RX11 7 "TopWheelModel" "m" "[I" ∈ wsA := w_in 1327 (by decide +kernel) (by decide +kernel)
theorem fl_X11_7 : z_FL RX11 7 10 1 (.array .int) true := ⟨RX11, TX11, 23, "TopWheelModel", tyX11, rfl, in_X11, by decide, w_fl_X11_7, Or.inl rfl, tyX11_ok, nmX11, rfl, rfl⟩
theorem w_fl_X11_13 : Cond.fieldLink RX11 13 "TopWheelModel" "kept" "[I" ∈ wsA := w_in 1328 (by decide +kernel) (by decide +kernel)
theorem fl_X11_13 : z_FL RX11 13 10 2 (.array .int) true := ⟨RX11, TX11, 23, "TopWheelModel", tyX11, rfl, in_X11, by decide, w_fl_X11_13, Or.inl rfl, tyX11_ok, nmX11, rfl, rfl⟩
theorem w_fl_X11_16 : Cond.fieldLink RX11 16 "TopWheelModel" "aside" "[I" ∈ wsA := w_in 1330 (by decide +kernel) (by decide +kernel)
theorem fl_X11_16 : z_FL RX11 16 10 4 (.array .int) true := ⟨RX11, TX11, 23, "TopWheelModel", tyX11, rfl, in_X11, by decide, w_fl_X11_16, Or.inl rfl, tyX11_ok, nmX11, rfl, rfl⟩
theorem w_fl_X11_19 : Cond.fieldLink RX11 19 "TopWheelModel" "acts" "[I" ∈ wsA := w_in 1331 (by decide +kernel) (by decide +kernel)
theorem fl_X11_19 : z_FL RX11 19 10 5 (.array .int) true := ⟨RX11, TX11, 23, "TopWheelModel", tyX11, rfl, in_X11, by decide, w_fl_X11_19, Or.inl rfl, tyX11_ok, nmX11, rfl, rfl⟩
theorem w_fl_X11_22 : Cond.fieldLink RX11 22 "TopWheelModel" "tape" "[I" ∈ wsA := w_in 1333 (by decide +kernel) (by decide +kernel)
theorem fl_X11_22 : z_FL RX11 22 10 7 (.array .int) true := ⟨RX11, TX11, 23, "TopWheelModel", tyX11, rfl, in_X11, by decide, w_fl_X11_22, Or.inl rfl, tyX11_ok, nmX11, rfl, rfl⟩
theorem w_fl_X11_25 : Cond.fieldLink RX11 25 "TopWheelModel" "fault" "I" ∈ wsA := w_in 1338 (by decide +kernel) (by decide +kernel)
theorem fl_X11_25 : z_FL RX11 25 10 12 .int false := ⟨RX11, TX11, 23, "TopWheelModel", tyX11, rfl, in_X11, by decide, w_fl_X11_25, Or.inl rfl, tyX11_ok, nmX11, rfl, rfl⟩
theorem w_fl_X11_29 : Cond.fieldLink RX11 29 "TopWheelModel" "fact" "[I" ∈ wsA := w_in 1340 (by decide +kernel) (by decide +kernel)
theorem fl_X11_29 : z_FL RX11 29 10 14 (.array .int) true := ⟨RX11, TX11, 23, "TopWheelModel", tyX11, rfl, in_X11, by decide, w_fl_X11_29, Or.inl rfl, tyX11_ok, nmX11, rfl, rfl⟩
theorem w_fl_X11_32 : Cond.fieldLink RX11 32 "TopWheelModel" "ways" "[I" ∈ wsA := w_in 1346 (by decide +kernel) (by decide +kernel)
theorem fl_X11_32 : z_FL RX11 32 10 20 (.array .int) true := ⟨RX11, TX11, 23, "TopWheelModel", tyX11, rfl, in_X11, by decide, w_fl_X11_32, Or.inl rfl, tyX11_ok, nmX11, rfl, rfl⟩
theorem w_fl_X11_35 : Cond.fieldLink RX11 35 "TopWheelModel" "then" "[I" ∈ wsA := w_in 1347 (by decide +kernel) (by decide +kernel)
theorem fl_X11_35 : z_FL RX11 35 10 21 (.array .int) true := ⟨RX11, TX11, 23, "TopWheelModel", tyX11, rfl, in_X11, by decide, w_fl_X11_35, Or.inl rfl, tyX11_ok, nmX11, rfl, rfl⟩
theorem w_fl_X11_38 : Cond.fieldLink RX11 38 "TopWheelModel" "can" "[Z" ∈ wsA := w_in 1348 (by decide +kernel) (by decide +kernel)
theorem fl_X11_38 : z_FL RX11 38 10 22 (.array .boolean) true := ⟨RX11, TX11, 23, "TopWheelModel", tyX11, rfl, in_X11, by decide, w_fl_X11_38, Or.inl rfl, tyX11_ok, nmX11, rfl, rfl⟩
theorem w_fl_X11_42 : Cond.fieldLink RX11 42 "TopWheelModel" "thrown" "I" ∈ wsA := w_in 1326 (by decide +kernel) (by decide +kernel)
theorem fl_X11_42 : z_FL RX11 42 10 0 .int false := ⟨RX11, TX11, 23, "TopWheelModel", tyX11, rfl, in_X11, by decide, w_fl_X11_42, Or.inl rfl, tyX11_ok, nmX11, rfl, rfl⟩
theorem w_fl_X11_73 : Cond.fieldLink RX11 73 "TopWheelModel" "taped" "I" ∈ wsA := w_in 1334 (by decide +kernel) (by decide +kernel)
theorem fl_X11_73 : z_FL RX11 73 10 8 .int false := ⟨RX11, TX11, 23, "TopWheelModel", tyX11, rfl, in_X11, by decide, w_fl_X11_73, Or.inl rfl, tyX11_ok, nmX11, rfl, rfl⟩
theorem w_fl_X11_76 : Cond.fieldLink RX11 76 "TopWheelModel" "base" "I" ∈ wsA := w_in 1335 (by decide +kernel) (by decide +kernel)
theorem fl_X11_76 : z_FL RX11 76 10 9 .int false := ⟨RX11, TX11, 23, "TopWheelModel", tyX11, rfl, in_X11, by decide, w_fl_X11_76, Or.inl rfl, tyX11_ok, nmX11, rfl, rfl⟩
theorem w_fl_X11_79 : Cond.fieldLink RX11 79 "TopWheelModel" "at" "I" ∈ wsA := w_in 1337 (by decide +kernel) (by decide +kernel)
theorem fl_X11_79 : z_FL RX11 79 10 11 .int false := ⟨RX11, TX11, 23, "TopWheelModel", tyX11, rfl, in_X11, by decide, w_fl_X11_79, Or.inl rfl, tyX11_ok, nmX11, rfl, rfl⟩
theorem w_fl_X11_82 : Cond.fieldLink RX11 82 "TopWheelModel" "end" "I" ∈ wsA := w_in 1336 (by decide +kernel) (by decide +kernel)
theorem fl_X11_82 : z_FL RX11 82 10 10 .int false := ⟨RX11, TX11, 23, "TopWheelModel", tyX11, rfl, in_X11, by decide, w_fl_X11_82, Or.inl rfl, tyX11_ok, nmX11, rfl, rfl⟩
theorem w_fl_X11_157 : Cond.fieldLink RX11 157 "TopWheelModel" "deep" "I" ∈ wsA := w_in 1339 (by decide +kernel) (by decide +kernel)
theorem fl_X11_157 : z_FL RX11 157 10 13 .int false := ⟨RX11, TX11, 23, "TopWheelModel", tyX11, rfl, in_X11, by decide, w_fl_X11_157, Or.inl rfl, tyX11_ok, nmX11, rfl, rfl⟩
theorem w_fl_X11_182 : Cond.fieldLink RX11 182 "TopWheelModel" "acted" "I" ∈ wsA := w_in 1332 (by decide +kernel) (by decide +kernel)
theorem fl_X11_182 : z_FL RX11 182 10 6 .int false := ⟨RX11, TX11, 23, "TopWheelModel", tyX11, rfl, in_X11, by decide, w_fl_X11_182, Or.inl rfl, tyX11_ok, nmX11, rfl, rfl⟩
theorem w_fl_X11_196 : Cond.fieldLink RX11 196 "TopWheelModel" "isRich" "Z" ∈ wsA := w_in 1341 (by decide +kernel) (by decide +kernel)
theorem fl_X11_196 : z_FL RX11 196 10 15 .boolean false := ⟨RX11, TX11, 23, "TopWheelModel", tyX11, rfl, in_X11, by decide, w_fl_X11_196, Or.inl rfl, tyX11_ok, nmX11, rfl, rfl⟩
theorem w_fl_X11_202 : Cond.fieldLink RX11 202 "TopWheelModel" "isAlone" "Z" ∈ wsA := w_in 1342 (by decide +kernel) (by decide +kernel)
theorem fl_X11_202 : z_FL RX11 202 10 16 .boolean false := ⟨RX11, TX11, 23, "TopWheelModel", tyX11, rfl, in_X11, by decide, w_fl_X11_202, Or.inl rfl, tyX11_ok, nmX11, rfl, rfl⟩
theorem w_fl_X11_235 : Cond.fieldLink RX11 235 "TopWheelModel" "isNobody" "Z" ∈ wsA := w_in 1343 (by decide +kernel) (by decide +kernel)
theorem fl_X11_235 : z_FL RX11 235 10 17 .boolean false := ⟨RX11, TX11, 23, "TopWheelModel", tyX11, rfl, in_X11, by decide, w_fl_X11_235, Or.inl rfl, tyX11_ok, nmX11, rfl, rfl⟩
theorem w_fl_X11_238 : Cond.fieldLink RX11 238 "TopWheelModel" "farther" "I" ∈ wsA := w_in 1344 (by decide +kernel) (by decide +kernel)
theorem fl_X11_238 : z_FL RX11 238 10 18 .int false := ⟨RX11, TX11, 23, "TopWheelModel", tyX11, rfl, in_X11, by decide, w_fl_X11_238, Or.inl rfl, tyX11_ok, nmX11, rfl, rfl⟩
theorem w_fl_X11_241 : Cond.fieldLink RX11 241 "TopWheelModel" "more" "I" ∈ wsA := w_in 1345 (by decide +kernel) (by decide +kernel)
theorem fl_X11_241 : z_FL RX11 241 10 19 .int false := ⟨RX11, TX11, 23, "TopWheelModel", tyX11, rfl, in_X11, by decide, w_fl_X11_241, Or.inl rfl, tyX11_ok, nmX11, rfl, rfl⟩
theorem w_fl_X11_360 : Cond.fieldLink RX11 360 "TopWheelModel" "hasImage" "Z" ∈ wsA := w_in 1329 (by decide +kernel) (by decide +kernel)
theorem fl_X11_360 : z_FL RX11 360 10 3 .boolean false := ⟨RX11, TX11, 23, "TopWheelModel", tyX11, rfl, in_X11, by decide, w_fl_X11_360, Or.inl rfl, tyX11_ok, nmX11, rfl, rfl⟩
theorem k_X11_261 : Cond.constant RX11 261 (1103515245 : Int32) ∈ wsA := w_in 1711 (by decide +kernel) (by decide +kernel)
theorem k_X11_330 : Cond.constant RX11 330 (2000000000 : Int32) ∈ wsA := w_in 1756 (by decide +kernel) (by decide +kernel)
theorem w_co_X11_isIn : Cond.code yX11_isIn cX11_isIn 3 (some .boolean) ∈ wsA := w_in 1411 (by decide +kernel) (by decide +kernel)
theorem w_st_X11_isIn : Cond.static yX11_isIn ∈ wsA := w_in 1410 (by decide +kernel) (by decide +kernel)
theorem w_in_X11 : Cond.initialized RX11 ∈ wsA := w_in 12 (by decide +kernel) (by decide +kernel)
theorem w_ml_X11_45 : Cond.methodLink RX11 45 yX11_isIn ∈ wsA := w_in 1409 (by decide +kernel) (by decide +kernel)
theorem ms_X11_45 : z_YS RX11 45 yX11_isIn cX11_isIn 3 (some .boolean) 3 := z_YS.of (List.forall_mem_cons.mpr ⟨w_ml_X11_45, List.forall_mem_cons.mpr ⟨w_st_X11_isIn, List.forall_mem_cons.mpr ⟨w_in_X11, List.forall_mem_cons.mpr ⟨w_co_X11_isIn, fun _ h => absurd h List.not_mem_nil⟩⟩⟩⟩) (by decide +kernel)
theorem w_co_X11_bits : Cond.code yX11_bits cX11_bits 3 (some .int) ∈ wsA := w_in 1531 (by decide +kernel) (by decide +kernel)
theorem w_st_X11_bits : Cond.static yX11_bits ∈ wsA := w_in 1530 (by decide +kernel) (by decide +kernel)
theorem w_ml_X11_57 : Cond.methodLink RX11 57 yX11_bits ∈ wsA := w_in 1529 (by decide +kernel) (by decide +kernel)
theorem ms_X11_57 : z_YS RX11 57 yX11_bits cX11_bits 3 (some .int) 1 := z_YS.of (List.forall_mem_cons.mpr ⟨w_ml_X11_57, List.forall_mem_cons.mpr ⟨w_st_X11_bits, List.forall_mem_cons.mpr ⟨w_in_X11, List.forall_mem_cons.mpr ⟨w_co_X11_bits, fun _ h => absurd h List.not_mem_nil⟩⟩⟩⟩) (by decide +kernel)
theorem w_co_X11_lesser : Cond.code yX11_lesser cX11_lesser 2 (some .int) ∈ wsA := w_in 1594 (by decide +kernel) (by decide +kernel)
theorem w_st_X11_lesser : Cond.static yX11_lesser ∈ wsA := w_in 1593 (by decide +kernel) (by decide +kernel)
theorem w_ml_X11_63 : Cond.methodLink RX11 63 yX11_lesser ∈ wsA := w_in 1592 (by decide +kernel) (by decide +kernel)
theorem ms_X11_63 : z_YS RX11 63 yX11_lesser cX11_lesser 2 (some .int) 2 := z_YS.of (List.forall_mem_cons.mpr ⟨w_ml_X11_63, List.forall_mem_cons.mpr ⟨w_st_X11_lesser, List.forall_mem_cons.mpr ⟨w_in_X11, List.forall_mem_cons.mpr ⟨w_co_X11_lesser, fun _ h => absurd h List.not_mem_nil⟩⟩⟩⟩) (by decide +kernel)
theorem w_co_X11_greater : Cond.code yX11_greater cX11_greater 2 (some .int) ∈ wsA := w_in 1597 (by decide +kernel) (by decide +kernel)
theorem w_st_X11_greater : Cond.static yX11_greater ∈ wsA := w_in 1596 (by decide +kernel) (by decide +kernel)
theorem w_ml_X11_258 : Cond.methodLink RX11 258 yX11_greater ∈ wsA := w_in 1595 (by decide +kernel) (by decide +kernel)
theorem ms_X11_258 : z_YS RX11 258 yX11_greater cX11_greater 2 (some .int) 2 := z_YS.of (List.forall_mem_cons.mpr ⟨w_ml_X11_258, List.forall_mem_cons.mpr ⟨w_st_X11_greater, List.forall_mem_cons.mpr ⟨w_in_X11, List.forall_mem_cons.mpr ⟨w_co_X11_greater, fun _ h => absurd h List.not_mem_nil⟩⟩⟩⟩) (by decide +kernel)
theorem w_co_X11_isOf : Cond.code yX11_isOf cX11_isOf 2 (some .boolean) ∈ wsA := w_in 1615 (by decide +kernel) (by decide +kernel)
theorem w_st_X11_isOf : Cond.static yX11_isOf ∈ wsA := w_in 1614 (by decide +kernel) (by decide +kernel)
theorem w_ml_X11_262 : Cond.methodLink RX11 262 yX11_isOf ∈ wsA := w_in 1613 (by decide +kernel) (by decide +kernel)
theorem ms_X11_262 : z_YS RX11 262 yX11_isOf cX11_isOf 2 (some .boolean) 2 := z_YS.of (List.forall_mem_cons.mpr ⟨w_ml_X11_262, List.forall_mem_cons.mpr ⟨w_st_X11_isOf, List.forall_mem_cons.mpr ⟨w_in_X11, List.forall_mem_cons.mpr ⟨w_co_X11_isOf, fun _ h => absurd h List.not_mem_nil⟩⟩⟩⟩) (by decide +kernel)
theorem w_co_X11_isCradle : Cond.code yX11_isCradle cX11_isCradle 1 (some .boolean) ∈ wsA := w_in 1608 (by decide +kernel) (by decide +kernel)
theorem w_st_X11_isCradle : Cond.static yX11_isCradle ∈ wsA := w_in 1607 (by decide +kernel) (by decide +kernel)
theorem w_ml_X11_294 : Cond.methodLink RX11 294 yX11_isCradle ∈ wsA := w_in 1606 (by decide +kernel) (by decide +kernel)
theorem ms_X11_294 : z_YS RX11 294 yX11_isCradle cX11_isCradle 1 (some .boolean) 1 := z_YS.of (List.forall_mem_cons.mpr ⟨w_ml_X11_294, List.forall_mem_cons.mpr ⟨w_st_X11_isCradle, List.forall_mem_cons.mpr ⟨w_in_X11, List.forall_mem_cons.mpr ⟨w_co_X11_isCradle, fun _ h => absurd h List.not_mem_nil⟩⟩⟩⟩) (by decide +kernel)
theorem w_co_X11_isParty : Cond.code yX11_isParty cX11_isParty 1 (some .boolean) ∈ wsA := w_in 1626 (by decide +kernel) (by decide +kernel)
theorem w_st_X11_isParty : Cond.static yX11_isParty ∈ wsA := w_in 1625 (by decide +kernel) (by decide +kernel)
theorem w_ml_X11_312 : Cond.methodLink RX11 312 yX11_isParty ∈ wsA := w_in 1624 (by decide +kernel) (by decide +kernel)
theorem ms_X11_312 : z_YS RX11 312 yX11_isParty cX11_isParty 1 (some .boolean) 1 := z_YS.of (List.forall_mem_cons.mpr ⟨w_ml_X11_312, List.forall_mem_cons.mpr ⟨w_st_X11_isParty, List.forall_mem_cons.mpr ⟨w_in_X11, List.forall_mem_cons.mpr ⟨w_co_X11_isParty, fun _ h => absurd h List.not_mem_nil⟩⟩⟩⟩) (by decide +kernel)
theorem w_co_X11_canBe : Cond.code yX11_canBe cX11_canBe 3 (some .boolean) ∈ wsA := w_in 1792 (by decide +kernel) (by decide +kernel)
theorem w_st_X11_canBe : Cond.static yX11_canBe ∈ wsA := w_in 1791 (by decide +kernel) (by decide +kernel)
theorem w_ml_X11_338 : Cond.methodLink RX11 338 yX11_canBe ∈ wsA := w_in 1790 (by decide +kernel) (by decide +kernel)
theorem ms_X11_338 : z_YS RX11 338 yX11_canBe cX11_canBe 3 (some .boolean) 2 := z_YS.of (List.forall_mem_cons.mpr ⟨w_ml_X11_338, List.forall_mem_cons.mpr ⟨w_st_X11_canBe, List.forall_mem_cons.mpr ⟨w_in_X11, List.forall_mem_cons.mpr ⟨w_co_X11_canBe, fun _ h => absurd h List.not_mem_nil⟩⟩⟩⟩) (by decide +kernel)
theorem w_co_X11_of : Cond.code yX11_of cX11_of 3 (some .int) ∈ wsA := w_in 1528 (by decide +kernel) (by decide +kernel)
theorem w_im_X11_of : Cond.instanceMethod yX11_of ∈ wsA := w_in 1527 (by decide +kernel) (by decide +kernel)
theorem w_se_X11_of : Cond.selects yX11_of.cls yX11_of yX11_of ∈ wsA := w_pr 62 (by decide +kernel) (by decide +kernel)
theorem w_ml_X11_49 : Cond.methodLink RX11 49 yX11_of ∈ wsA := w_in 1525 (by decide +kernel) (by decide +kernel)
theorem mv_X11_49 : z_YV RX11 49 yX11_of cX11_of 3 (some .int) 10 2 := z_YV.of (T := TX11) (N := 23) (List.forall_mem_cons.mpr ⟨w_ml_X11_49, List.forall_mem_cons.mpr ⟨w_im_X11_of, List.forall_mem_cons.mpr ⟨w_se_X11_of, List.forall_mem_cons.mpr ⟨w_in_X11, List.forall_mem_cons.mpr ⟨w_co_X11_of, fun _ h => absurd h List.not_mem_nil⟩⟩⟩⟩⟩) (by decide +kernel) rfl
theorem w_co_X11_those : Cond.code yX11_those cX11_those 4 (some .int) ∈ wsA := w_in 1524 (by decide +kernel) (by decide +kernel)
theorem w_im_X11_those : Cond.instanceMethod yX11_those ∈ wsA := w_in 1523 (by decide +kernel) (by decide +kernel)
theorem w_se_X11_those : Cond.selects yX11_those.cls yX11_those yX11_those ∈ wsA := w_pr 61 (by decide +kernel) (by decide +kernel)
theorem w_ml_X11_53 : Cond.methodLink RX11 53 yX11_those ∈ wsA := w_in 1521 (by decide +kernel) (by decide +kernel)
theorem mv_X11_53 : z_YV RX11 53 yX11_those cX11_those 4 (some .int) 10 1 := z_YV.of (T := TX11) (N := 23) (List.forall_mem_cons.mpr ⟨w_ml_X11_53, List.forall_mem_cons.mpr ⟨w_im_X11_those, List.forall_mem_cons.mpr ⟨w_se_X11_those, List.forall_mem_cons.mpr ⟨w_in_X11, List.forall_mem_cons.mpr ⟨w_co_X11_those, fun _ h => absurd h List.not_mem_nil⟩⟩⟩⟩⟩) (by decide +kernel) rfl
theorem w_co_X11_placesOf : Cond.code yX11_placesOf cX11_placesOf 2 (some .int) ∈ wsA := w_in 1591 (by decide +kernel) (by decide +kernel)
theorem w_im_X11_placesOf : Cond.instanceMethod yX11_placesOf ∈ wsA := w_in 1590 (by decide +kernel) (by decide +kernel)
theorem w_se_X11_placesOf : Cond.selects yX11_placesOf.cls yX11_placesOf yX11_placesOf ∈ wsA := w_pr 73 (by decide +kernel) (by decide +kernel)
theorem w_ml_X11_60 : Cond.methodLink RX11 60 yX11_placesOf ∈ wsA := w_in 1588 (by decide +kernel) (by decide +kernel)
theorem mv_X11_60 : z_YV RX11 60 yX11_placesOf cX11_placesOf 2 (some .int) 10 1 := z_YV.of (T := TX11) (N := 23) (List.forall_mem_cons.mpr ⟨w_ml_X11_60, List.forall_mem_cons.mpr ⟨w_im_X11_placesOf, List.forall_mem_cons.mpr ⟨w_se_X11_placesOf, List.forall_mem_cons.mpr ⟨w_in_X11, List.forall_mem_cons.mpr ⟨w_co_X11_placesOf, fun _ h => absurd h List.not_mem_nil⟩⟩⟩⟩⟩) (by decide +kernel) rfl
theorem w_co_X11_put : Cond.code yX11_put cX11_put 4 none ∈ wsA := w_in 1535 (by decide +kernel) (by decide +kernel)
theorem w_im_X11_put : Cond.instanceMethod yX11_put ∈ wsA := w_in 1534 (by decide +kernel) (by decide +kernel)
theorem w_se_X11_put : Cond.selects yX11_put.cls yX11_put yX11_put ∈ wsA := w_pr 63 (by decide +kernel) (by decide +kernel)
theorem w_ml_X11_66 : Cond.methodLink RX11 66 yX11_put ∈ wsA := w_in 1532 (by decide +kernel) (by decide +kernel)
theorem mv_X11_66 : z_YV RX11 66 yX11_put cX11_put 4 none 10 3 := z_YV.of (T := TX11) (N := 23) (List.forall_mem_cons.mpr ⟨w_ml_X11_66, List.forall_mem_cons.mpr ⟨w_im_X11_put, List.forall_mem_cons.mpr ⟨w_se_X11_put, List.forall_mem_cons.mpr ⟨w_in_X11, List.forall_mem_cons.mpr ⟨w_co_X11_put, fun _ h => absurd h List.not_mem_nil⟩⟩⟩⟩⟩) (by decide +kernel) rfl
theorem w_co_X11_aheadOf : Cond.code yX11_aheadOf cX11_aheadOf 3 (some .int) ∈ wsA := w_in 1601 (by decide +kernel) (by decide +kernel)
theorem w_im_X11_aheadOf : Cond.instanceMethod yX11_aheadOf ∈ wsA := w_in 1600 (by decide +kernel) (by decide +kernel)
theorem w_se_X11_aheadOf : Cond.selects yX11_aheadOf.cls yX11_aheadOf yX11_aheadOf ∈ wsA := w_pr 74 (by decide +kernel) (by decide +kernel)
theorem w_ml_X11_70 : Cond.methodLink RX11 70 yX11_aheadOf ∈ wsA := w_in 1598 (by decide +kernel) (by decide +kernel)
theorem mv_X11_70 : z_YV RX11 70 yX11_aheadOf cX11_aheadOf 3 (some .int) 10 1 := z_YV.of (T := TX11) (N := 23) (List.forall_mem_cons.mpr ⟨w_ml_X11_70, List.forall_mem_cons.mpr ⟨w_im_X11_aheadOf, List.forall_mem_cons.mpr ⟨w_se_X11_aheadOf, List.forall_mem_cons.mpr ⟨w_in_X11, List.forall_mem_cons.mpr ⟨w_co_X11_aheadOf, fun _ h => absurd h List.not_mem_nil⟩⟩⟩⟩⟩) (by decide +kernel) rfl
theorem w_co_X11_letter : Cond.code yX11_letter cX11_letter 2 (some .int) ∈ wsA := w_in 1435 (by decide +kernel) (by decide +kernel)
theorem w_im_X11_letter : Cond.instanceMethod yX11_letter ∈ wsA := w_in 1434 (by decide +kernel) (by decide +kernel)
theorem w_se_X11_letter : Cond.selects yX11_letter.cls yX11_letter yX11_letter ∈ wsA := w_pr 44 (by decide +kernel) (by decide +kernel)
theorem w_ml_X11_85 : Cond.methodLink RX11 85 yX11_letter ∈ wsA := w_in 1432 (by decide +kernel) (by decide +kernel)
theorem mv_X11_85 : z_YV RX11 85 yX11_letter cX11_letter 2 (some .int) 10 1 := z_YV.of (T := TX11) (N := 23) (List.forall_mem_cons.mpr ⟨w_ml_X11_85, List.forall_mem_cons.mpr ⟨w_im_X11_letter, List.forall_mem_cons.mpr ⟨w_se_X11_letter, List.forall_mem_cons.mpr ⟨w_in_X11, List.forall_mem_cons.mpr ⟨w_co_X11_letter, fun _ h => absurd h List.not_mem_nil⟩⟩⟩⟩⟩) (by decide +kernel) rfl
theorem w_co_X11_skip : Cond.code yX11_skip cX11_skip 1 none ∈ wsA := w_in 1431 (by decide +kernel) (by decide +kernel)
theorem w_im_X11_skip : Cond.instanceMethod yX11_skip ∈ wsA := w_in 1430 (by decide +kernel) (by decide +kernel)
theorem w_se_X11_skip : Cond.selects yX11_skip.cls yX11_skip yX11_skip ∈ wsA := w_pr 43 (by decide +kernel) (by decide +kernel)
theorem w_ml_X11_88 : Cond.methodLink RX11 88 yX11_skip ∈ wsA := w_in 1428 (by decide +kernel) (by decide +kernel)
theorem mv_X11_88 : z_YV RX11 88 yX11_skip cX11_skip 1 none 10 0 := z_YV.of (T := TX11) (N := 23) (List.forall_mem_cons.mpr ⟨w_ml_X11_88, List.forall_mem_cons.mpr ⟨w_im_X11_skip, List.forall_mem_cons.mpr ⟨w_se_X11_skip, List.forall_mem_cons.mpr ⟨w_in_X11, List.forall_mem_cons.mpr ⟨w_co_X11_skip, fun _ h => absurd h List.not_mem_nil⟩⟩⟩⟩⟩) (by decide +kernel) rfl
theorem w_ml_X11_91 : Cond.methodLink RX11 91 yJ0_length_8abf5 ∈ wsA := w_in 1449 (by decide +kernel) (by decide +kernel)
theorem mj_X11_91 : z_YJ RX11 91 yJ0_length_8abf5 cJ0_length_8abf5 1 (some .int) 0 := z_YJ.of (List.forall_mem_cons.mpr ⟨w_ml_X11_91, List.forall_mem_cons.mpr ⟨w_im_J0_length_8abf5, List.forall_mem_cons.mpr ⟨w_se_J0_length_8abf5, List.forall_mem_cons.mpr ⟨w_in_J0, List.forall_mem_cons.mpr ⟨w_co_J0_length_8abf5, fun _ h => absurd h List.not_mem_nil⟩⟩⟩⟩⟩) (by decide +kernel) rfl
theorem w_ml_X11_97 : Cond.methodLink RX11 97 yJ0_charAt_5068e ∈ wsA := w_in 1450 (by decide +kernel) (by decide +kernel)
theorem mj_X11_97 : z_YJ RX11 97 yJ0_charAt_5068e cJ0_charAt_5068e 2 (some .char) 1 := z_YJ.of (List.forall_mem_cons.mpr ⟨w_ml_X11_97, List.forall_mem_cons.mpr ⟨w_im_J0_charAt_5068e, List.forall_mem_cons.mpr ⟨w_se_J0_charAt_5068e, List.forall_mem_cons.mpr ⟨w_in_J0, List.forall_mem_cons.mpr ⟨w_co_J0_charAt_5068e, fun _ h => absurd h List.not_mem_nil⟩⟩⟩⟩⟩) (by decide +kernel) rfl
theorem w_co_X11_place : Cond.code yX11_place cX11_place 1 (some .int) ∈ wsA := w_in 1460 (by decide +kernel) (by decide +kernel)
theorem w_im_X11_place : Cond.instanceMethod yX11_place ∈ wsA := w_in 1459 (by decide +kernel) (by decide +kernel)
theorem w_se_X11_place : Cond.selects yX11_place.cls yX11_place yX11_place ∈ wsA := w_pr 49 (by decide +kernel) (by decide +kernel)
theorem w_ml_X11_101 : Cond.methodLink RX11 101 yX11_place ∈ wsA := w_in 1457 (by decide +kernel) (by decide +kernel)
theorem mv_X11_101 : z_YV RX11 101 yX11_place cX11_place 1 (some .int) 10 0 := z_YV.of (T := TX11) (N := 23) (List.forall_mem_cons.mpr ⟨w_ml_X11_101, List.forall_mem_cons.mpr ⟨w_im_X11_place, List.forall_mem_cons.mpr ⟨w_se_X11_place, List.forall_mem_cons.mpr ⟨w_in_X11, List.forall_mem_cons.mpr ⟨w_co_X11_place, fun _ h => absurd h List.not_mem_nil⟩⟩⟩⟩⟩) (by decide +kernel) rfl
theorem w_co_X11_wrong : Cond.code yX11_wrong cX11_wrong 2 none ∈ wsA := w_in 1439 (by decide +kernel) (by decide +kernel)
theorem w_im_X11_wrong : Cond.instanceMethod yX11_wrong ∈ wsA := w_in 1438 (by decide +kernel) (by decide +kernel)
theorem w_se_X11_wrong : Cond.selects yX11_wrong.cls yX11_wrong yX11_wrong ∈ wsA := w_pr 45 (by decide +kernel) (by decide +kernel)
theorem w_ml_X11_104 : Cond.methodLink RX11 104 yX11_wrong ∈ wsA := w_in 1436 (by decide +kernel) (by decide +kernel)
theorem mv_X11_104 : z_YV RX11 104 yX11_wrong cX11_wrong 2 none 10 1 := z_YV.of (T := TX11) (N := 23) (List.forall_mem_cons.mpr ⟨w_ml_X11_104, List.forall_mem_cons.mpr ⟨w_im_X11_wrong, List.forall_mem_cons.mpr ⟨w_se_X11_wrong, List.forall_mem_cons.mpr ⟨w_in_X11, List.forall_mem_cons.mpr ⟨w_co_X11_wrong, fun _ h => absurd h List.not_mem_nil⟩⟩⟩⟩⟩) (by decide +kernel) rfl
theorem w_co_X11_has : Cond.code yX11_has cX11_has 4 (some .boolean) ∈ wsA := w_in 1448 (by decide +kernel) (by decide +kernel)
theorem w_im_X11_has : Cond.instanceMethod yX11_has ∈ wsA := w_in 1447 (by decide +kernel) (by decide +kernel)
theorem w_se_X11_has : Cond.selects yX11_has.cls yX11_has yX11_has ∈ wsA := w_pr 47 (by decide +kernel) (by decide +kernel)
theorem w_ml_X11_108 : Cond.methodLink RX11 108 yX11_has ∈ wsA := w_in 1445 (by decide +kernel) (by decide +kernel)
theorem mv_X11_108 : z_YV RX11 108 yX11_has cX11_has 4 (some .boolean) 10 1 := z_YV.of (T := TX11) (N := 23) (List.forall_mem_cons.mpr ⟨w_ml_X11_108, List.forall_mem_cons.mpr ⟨w_im_X11_has, List.forall_mem_cons.mpr ⟨w_se_X11_has, List.forall_mem_cons.mpr ⟨w_in_X11, List.forall_mem_cons.mpr ⟨w_co_X11_has, fun _ h => absurd h List.not_mem_nil⟩⟩⟩⟩⟩) (by decide +kernel) rfl
theorem w_co_X11_figures : Cond.code yX11_figures cX11_figures 5 (some .int) ∈ wsA := w_in 1456 (by decide +kernel) (by decide +kernel)
theorem w_im_X11_figures : Cond.instanceMethod yX11_figures ∈ wsA := w_in 1455 (by decide +kernel) (by decide +kernel)
theorem w_se_X11_figures : Cond.selects yX11_figures.cls yX11_figures yX11_figures ∈ wsA := w_pr 48 (by decide +kernel) (by decide +kernel)
theorem w_ml_X11_112 : Cond.methodLink RX11 112 yX11_figures ∈ wsA := w_in 1453 (by decide +kernel) (by decide +kernel)
theorem mv_X11_112 : z_YV RX11 112 yX11_figures cX11_figures 5 (some .int) 10 2 := z_YV.of (T := TX11) (N := 23) (List.forall_mem_cons.mpr ⟨w_ml_X11_112, List.forall_mem_cons.mpr ⟨w_im_X11_figures, List.forall_mem_cons.mpr ⟨w_se_X11_figures, List.forall_mem_cons.mpr ⟨w_in_X11, List.forall_mem_cons.mpr ⟨w_co_X11_figures, fun _ h => absurd h List.not_mem_nil⟩⟩⟩⟩⟩) (by decide +kernel) rfl
theorem w_co_X11_after : Cond.code yX11_after cX11_after 4 (some .int) ∈ wsA := w_in 1514 (by decide +kernel) (by decide +kernel)
theorem w_im_X11_after : Cond.instanceMethod yX11_after ∈ wsA := w_in 1513 (by decide +kernel) (by decide +kernel)
theorem w_se_X11_after : Cond.selects yX11_after.cls yX11_after yX11_after ∈ wsA := w_pr 59 (by decide +kernel) (by decide +kernel)
theorem w_ml_X11_117 : Cond.methodLink RX11 117 yX11_after ∈ wsA := w_in 1511 (by decide +kernel) (by decide +kernel)
theorem mv_X11_117 : z_YV RX11 117 yX11_after cX11_after 4 (some .int) 10 3 := z_YV.of (T := TX11) (N := 23) (List.forall_mem_cons.mpr ⟨w_ml_X11_117, List.forall_mem_cons.mpr ⟨w_im_X11_after, List.forall_mem_cons.mpr ⟨w_se_X11_after, List.forall_mem_cons.mpr ⟨w_in_X11, List.forall_mem_cons.mpr ⟨w_co_X11_after, fun _ h => absurd h List.not_mem_nil⟩⟩⟩⟩⟩) (by decide +kernel) rfl
theorem w_co_X11_hasRoom : Cond.code yX11_hasRoom cX11_hasRoom 2 (some .boolean) ∈ wsA := w_in 1520 (by decide +kernel) (by decide +kernel)
theorem w_im_X11_hasRoom : Cond.instanceMethod yX11_hasRoom ∈ wsA := w_in 1519 (by decide +kernel) (by decide +kernel)
theorem w_se_X11_hasRoom : Cond.selects yX11_hasRoom.cls yX11_hasRoom yX11_hasRoom ∈ wsA := w_pr 60 (by decide +kernel) (by decide +kernel)
theorem w_ml_X11_127 : Cond.methodLink RX11 127 yX11_hasRoom ∈ wsA := w_in 1517 (by decide +kernel) (by decide +kernel)
theorem mv_X11_127 : z_YV RX11 127 yX11_hasRoom cX11_hasRoom 2 (some .boolean) 10 1 := z_YV.of (T := TX11) (N := 23) (List.forall_mem_cons.mpr ⟨w_ml_X11_127, List.forall_mem_cons.mpr ⟨w_im_X11_hasRoom, List.forall_mem_cons.mpr ⟨w_se_X11_hasRoom, List.forall_mem_cons.mpr ⟨w_in_X11, List.forall_mem_cons.mpr ⟨w_co_X11_hasRoom, fun _ h => absurd h List.not_mem_nil⟩⟩⟩⟩⟩) (by decide +kernel) rfl
theorem w_co_X11_queues : Cond.code yX11_queues cX11_queues 2 none ∈ wsA := w_in 1539 (by decide +kernel) (by decide +kernel)
theorem w_im_X11_queues : Cond.instanceMethod yX11_queues ∈ wsA := w_in 1538 (by decide +kernel) (by decide +kernel)
theorem w_se_X11_queues : Cond.selects yX11_queues.cls yX11_queues yX11_queues ∈ wsA := w_pr 64 (by decide +kernel) (by decide +kernel)
theorem w_ml_X11_131 : Cond.methodLink RX11 131 yX11_queues ∈ wsA := w_in 1536 (by decide +kernel) (by decide +kernel)
theorem mv_X11_131 : z_YV RX11 131 yX11_queues cX11_queues 2 none 10 1 := z_YV.of (T := TX11) (N := 23) (List.forall_mem_cons.mpr ⟨w_ml_X11_131, List.forall_mem_cons.mpr ⟨w_im_X11_queues, List.forall_mem_cons.mpr ⟨w_se_X11_queues, List.forall_mem_cons.mpr ⟨w_in_X11, List.forall_mem_cons.mpr ⟨w_co_X11_queues, fun _ h => absurd h List.not_mem_nil⟩⟩⟩⟩⟩) (by decide +kernel) rfl
theorem w_co_X11_riderLine : Cond.code yX11_riderLine cX11_riderLine 7 none ∈ wsA := w_in 1510 (by decide +kernel) (by decide +kernel)
theorem w_im_X11_riderLine : Cond.instanceMethod yX11_riderLine ∈ wsA := w_in 1509 (by decide +kernel) (by decide +kernel)
theorem w_se_X11_riderLine : Cond.selects yX11_riderLine.cls yX11_riderLine yX11_riderLine ∈ wsA := w_pr 58 (by decide +kernel) (by decide +kernel)
theorem w_ml_X11_136 : Cond.methodLink RX11 136 yX11_riderLine ∈ wsA := w_in 1507 (by decide +kernel) (by decide +kernel)
theorem mv_X11_136 : z_YV RX11 136 yX11_riderLine cX11_riderLine 7 none 10 1 := z_YV.of (T := TX11) (N := 23) (List.forall_mem_cons.mpr ⟨w_ml_X11_136, List.forall_mem_cons.mpr ⟨w_im_X11_riderLine, List.forall_mem_cons.mpr ⟨w_se_X11_riderLine, List.forall_mem_cons.mpr ⟨w_in_X11, List.forall_mem_cons.mpr ⟨w_co_X11_riderLine, fun _ h => absurd h List.not_mem_nil⟩⟩⟩⟩⟩) (by decide +kernel) rfl
theorem w_co_X11_boltsLine : Cond.code yX11_boltsLine cX11_boltsLine 3 none ∈ wsA := w_in 1543 (by decide +kernel) (by decide +kernel)
theorem w_im_X11_boltsLine : Cond.instanceMethod yX11_boltsLine ∈ wsA := w_in 1542 (by decide +kernel) (by decide +kernel)
theorem w_se_X11_boltsLine : Cond.selects yX11_boltsLine.cls yX11_boltsLine yX11_boltsLine ∈ wsA := w_pr 65 (by decide +kernel) (by decide +kernel)
theorem w_ml_X11_141 : Cond.methodLink RX11 141 yX11_boltsLine ∈ wsA := w_in 1540 (by decide +kernel) (by decide +kernel)
theorem mv_X11_141 : z_YV RX11 141 yX11_boltsLine cX11_boltsLine 3 none 10 0 := z_YV.of (T := TX11) (N := 23) (List.forall_mem_cons.mpr ⟨w_ml_X11_141, List.forall_mem_cons.mpr ⟨w_im_X11_boltsLine, List.forall_mem_cons.mpr ⟨w_se_X11_boltsLine, List.forall_mem_cons.mpr ⟨w_in_X11, List.forall_mem_cons.mpr ⟨w_co_X11_boltsLine, fun _ h => absurd h List.not_mem_nil⟩⟩⟩⟩⟩) (by decide +kernel) rfl
theorem w_co_X11_tells : Cond.code yX11_tells cX11_tells 5 none ∈ wsA := w_in 1548 (by decide +kernel) (by decide +kernel)
theorem w_im_X11_tells : Cond.instanceMethod yX11_tells ∈ wsA := w_in 1547 (by decide +kernel) (by decide +kernel)
theorem w_se_X11_tells : Cond.selects yX11_tells.cls yX11_tells yX11_tells ∈ wsA := w_pr 66 (by decide +kernel) (by decide +kernel)
theorem w_ml_X11_146 : Cond.methodLink RX11 146 yX11_tells ∈ wsA := w_in 1545 (by decide +kernel) (by decide +kernel)
theorem mv_X11_146 : z_YV RX11 146 yX11_tells cX11_tells 5 none 10 3 := z_YV.of (T := TX11) (N := 23) (List.forall_mem_cons.mpr ⟨w_ml_X11_146, List.forall_mem_cons.mpr ⟨w_im_X11_tells, List.forall_mem_cons.mpr ⟨w_se_X11_tells, List.forall_mem_cons.mpr ⟨w_in_X11, List.forall_mem_cons.mpr ⟨w_co_X11_tells, fun _ h => absurd h List.not_mem_nil⟩⟩⟩⟩⟩) (by decide +kernel) rfl
theorem w_co_X11_lawLine : Cond.code yX11_lawLine cX11_lawLine 4 none ∈ wsA := w_in 1443 (by decide +kernel) (by decide +kernel)
theorem w_im_X11_lawLine : Cond.instanceMethod yX11_lawLine ∈ wsA := w_in 1442 (by decide +kernel) (by decide +kernel)
theorem w_se_X11_lawLine : Cond.selects yX11_lawLine.cls yX11_lawLine yX11_lawLine ∈ wsA := w_pr 46 (by decide +kernel) (by decide +kernel)
theorem w_ml_X11_160 : Cond.methodLink RX11 160 yX11_lawLine ∈ wsA := w_in 1440 (by decide +kernel) (by decide +kernel)
theorem mv_X11_160 : z_YV RX11 160 yX11_lawLine cX11_lawLine 4 none 10 0 := z_YV.of (T := TX11) (N := 23) (List.forall_mem_cons.mpr ⟨w_ml_X11_160, List.forall_mem_cons.mpr ⟨w_im_X11_lawLine, List.forall_mem_cons.mpr ⟨w_se_X11_lawLine, List.forall_mem_cons.mpr ⟨w_in_X11, List.forall_mem_cons.mpr ⟨w_co_X11_lawLine, fun _ h => absurd h List.not_mem_nil⟩⟩⟩⟩⟩) (by decide +kernel) rfl
theorem w_co_X11_fairLine : Cond.code yX11_fairLine cX11_fairLine 2 none ∈ wsA := w_in 1505 (by decide +kernel) (by decide +kernel)
theorem w_im_X11_fairLine : Cond.instanceMethod yX11_fairLine ∈ wsA := w_in 1504 (by decide +kernel) (by decide +kernel)
theorem w_se_X11_fairLine : Cond.selects yX11_fairLine.cls yX11_fairLine yX11_fairLine ∈ wsA := w_pr 57 (by decide +kernel) (by decide +kernel)
theorem w_ml_X11_163 : Cond.methodLink RX11 163 yX11_fairLine ∈ wsA := w_in 1502 (by decide +kernel) (by decide +kernel)
theorem mv_X11_163 : z_YV RX11 163 yX11_fairLine cX11_fairLine 2 none 10 0 := z_YV.of (T := TX11) (N := 23) (List.forall_mem_cons.mpr ⟨w_ml_X11_163, List.forall_mem_cons.mpr ⟨w_im_X11_fairLine, List.forall_mem_cons.mpr ⟨w_se_X11_fairLine, List.forall_mem_cons.mpr ⟨w_in_X11, List.forall_mem_cons.mpr ⟨w_co_X11_fairLine, fun _ h => absurd h List.not_mem_nil⟩⟩⟩⟩⟩) (by decide +kernel) rfl
theorem w_co_X11_isSign : Cond.code yX11_isSign cX11_isSign 2 (some .boolean) ∈ wsA := w_in 1478 (by decide +kernel) (by decide +kernel)
theorem w_im_X11_isSign : Cond.instanceMethod yX11_isSign ∈ wsA := w_in 1477 (by decide +kernel) (by decide +kernel)
theorem w_se_X11_isSign : Cond.selects yX11_isSign.cls yX11_isSign yX11_isSign ∈ wsA := w_pr 53 (by decide +kernel) (by decide +kernel)
theorem w_ml_X11_166 : Cond.methodLink RX11 166 yX11_isSign ∈ wsA := w_in 1475 (by decide +kernel) (by decide +kernel)
theorem mv_X11_166 : z_YV RX11 166 yX11_isSign cX11_isSign 2 (some .boolean) 10 1 := z_YV.of (T := TX11) (N := 23) (List.forall_mem_cons.mpr ⟨w_ml_X11_166, List.forall_mem_cons.mpr ⟨w_im_X11_isSign, List.forall_mem_cons.mpr ⟨w_se_X11_isSign, List.forall_mem_cons.mpr ⟨w_in_X11, List.forall_mem_cons.mpr ⟨w_co_X11_isSign, fun _ h => absurd h List.not_mem_nil⟩⟩⟩⟩⟩) (by decide +kernel) rfl
theorem w_co_X11_putsAside : Cond.code yX11_putsAside cX11_putsAside 2 none ∈ wsA := w_in 1419 (by decide +kernel) (by decide +kernel)
theorem w_im_X11_putsAside : Cond.instanceMethod yX11_putsAside ∈ wsA := w_in 1418 (by decide +kernel) (by decide +kernel)
theorem w_se_X11_putsAside : Cond.selects yX11_putsAside.cls yX11_putsAside yX11_putsAside ∈ wsA := w_pr 40 (by decide +kernel) (by decide +kernel)
theorem w_ml_X11_169 : Cond.methodLink RX11 169 yX11_putsAside ∈ wsA := w_in 1416 (by decide +kernel) (by decide +kernel)
theorem mv_X11_169 : z_YV RX11 169 yX11_putsAside cX11_putsAside 2 none 10 0 := z_YV.of (T := TX11) (N := 23) (List.forall_mem_cons.mpr ⟨w_ml_X11_169, List.forall_mem_cons.mpr ⟨w_im_X11_putsAside, List.forall_mem_cons.mpr ⟨w_se_X11_putsAside, List.forall_mem_cons.mpr ⟨w_in_X11, List.forall_mem_cons.mpr ⟨w_co_X11_putsAside, fun _ h => absurd h List.not_mem_nil⟩⟩⟩⟩⟩) (by decide +kernel) rfl
theorem w_co_X11_begins : Cond.code yX11_begins cX11_begins 1 none ∈ wsA := w_in 1423 (by decide +kernel) (by decide +kernel)
theorem w_im_X11_begins : Cond.instanceMethod yX11_begins ∈ wsA := w_in 1422 (by decide +kernel) (by decide +kernel)
theorem w_se_X11_begins : Cond.selects yX11_begins.cls yX11_begins yX11_begins ∈ wsA := w_pr 41 (by decide +kernel) (by decide +kernel)
theorem w_ml_X11_172 : Cond.methodLink RX11 172 yX11_begins ∈ wsA := w_in 1420 (by decide +kernel) (by decide +kernel)
theorem mv_X11_172 : z_YV RX11 172 yX11_begins cX11_begins 1 none 10 0 := z_YV.of (T := TX11) (N := 23) (List.forall_mem_cons.mpr ⟨w_ml_X11_172, List.forall_mem_cons.mpr ⟨w_im_X11_begins, List.forall_mem_cons.mpr ⟨w_se_X11_begins, List.forall_mem_cons.mpr ⟨w_in_X11, List.forall_mem_cons.mpr ⟨w_co_X11_begins, fun _ h => absurd h List.not_mem_nil⟩⟩⟩⟩⟩) (by decide +kernel) rfl
theorem w_co_X11_read : Cond.code yX11_read cX11_read 4 (some .int) ∈ wsA := w_in 1427 (by decide +kernel) (by decide +kernel)
theorem w_im_X11_read : Cond.instanceMethod yX11_read ∈ wsA := w_in 1426 (by decide +kernel) (by decide +kernel)
theorem w_se_X11_read : Cond.selects yX11_read.cls yX11_read yX11_read ∈ wsA := w_pr 42 (by decide +kernel) (by decide +kernel)
theorem w_ml_X11_175 : Cond.methodLink RX11 175 yX11_read ∈ wsA := w_in 1424 (by decide +kernel) (by decide +kernel)
theorem mv_X11_175 : z_YV RX11 175 yX11_read cX11_read 4 (some .int) 10 1 := z_YV.of (T := TX11) (N := 23) (List.forall_mem_cons.mpr ⟨w_ml_X11_175, List.forall_mem_cons.mpr ⟨w_im_X11_read, List.forall_mem_cons.mpr ⟨w_se_X11_read, List.forall_mem_cons.mpr ⟨w_in_X11, List.forall_mem_cons.mpr ⟨w_co_X11_read, fun _ h => absurd h List.not_mem_nil⟩⟩⟩⟩⟩) (by decide +kernel) rfl
theorem w_co_X11_comesBack : Cond.code yX11_comesBack cX11_comesBack 2 none ∈ wsA := w_in 1555 (by decide +kernel) (by decide +kernel)
theorem w_im_X11_comesBack : Cond.instanceMethod yX11_comesBack ∈ wsA := w_in 1554 (by decide +kernel) (by decide +kernel)
theorem w_se_X11_comesBack : Cond.selects yX11_comesBack.cls yX11_comesBack yX11_comesBack ∈ wsA := w_pr 67 (by decide +kernel) (by decide +kernel)
theorem w_ml_X11_179 : Cond.methodLink RX11 179 yX11_comesBack ∈ wsA := w_in 1552 (by decide +kernel) (by decide +kernel)
theorem mv_X11_179 : z_YV RX11 179 yX11_comesBack cX11_comesBack 2 none 10 0 := z_YV.of (T := TX11) (N := 23) (List.forall_mem_cons.mpr ⟨w_ml_X11_179, List.forall_mem_cons.mpr ⟨w_im_X11_comesBack, List.forall_mem_cons.mpr ⟨w_se_X11_comesBack, List.forall_mem_cons.mpr ⟨w_in_X11, List.forall_mem_cons.mpr ⟨w_co_X11_comesBack, fun _ h => absurd h List.not_mem_nil⟩⟩⟩⟩⟩) (by decide +kernel) rfl
theorem w_co_X11_part : Cond.code yX11_part cX11_part 2 (some .int) ∈ wsA := w_in 1492 (by decide +kernel) (by decide +kernel)
theorem w_im_X11_part : Cond.instanceMethod yX11_part ∈ wsA := w_in 1491 (by decide +kernel) (by decide +kernel)
theorem w_se_X11_part : Cond.selects yX11_part.cls yX11_part yX11_part ∈ wsA := w_pr 56 (by decide +kernel) (by decide +kernel)
theorem w_ml_X11_191 : Cond.methodLink RX11 191 yX11_part ∈ wsA := w_in 1489 (by decide +kernel) (by decide +kernel)
theorem mv_X11_191 : z_YV RX11 191 yX11_part cX11_part 2 (some .int) 10 0 := z_YV.of (T := TX11) (N := 23) (List.forall_mem_cons.mpr ⟨w_ml_X11_191, List.forall_mem_cons.mpr ⟨w_im_X11_part, List.forall_mem_cons.mpr ⟨w_se_X11_part, List.forall_mem_cons.mpr ⟨w_in_X11, List.forall_mem_cons.mpr ⟨w_co_X11_part, fun _ h => absurd h List.not_mem_nil⟩⟩⟩⟩⟩) (by decide +kernel) rfl
theorem w_co_X11_sum : Cond.code yX11_sum cX11_sum 2 (some .int) ∈ wsA := w_in 1488 (by decide +kernel) (by decide +kernel)
theorem w_im_X11_sum : Cond.instanceMethod yX11_sum ∈ wsA := w_in 1487 (by decide +kernel) (by decide +kernel)
theorem w_se_X11_sum : Cond.selects yX11_sum.cls yX11_sum yX11_sum ∈ wsA := w_pr 55 (by decide +kernel) (by decide +kernel)
theorem w_ml_X11_205 : Cond.methodLink RX11 205 yX11_sum ∈ wsA := w_in 1485 (by decide +kernel) (by decide +kernel)
theorem mv_X11_205 : z_YV RX11 205 yX11_sum cX11_sum 2 (some .int) 10 0 := z_YV.of (T := TX11) (N := 23) (List.forall_mem_cons.mpr ⟨w_ml_X11_205, List.forall_mem_cons.mpr ⟨w_im_X11_sum, List.forall_mem_cons.mpr ⟨w_se_X11_sum, List.forall_mem_cons.mpr ⟨w_in_X11, List.forall_mem_cons.mpr ⟨w_co_X11_sum, fun _ h => absurd h List.not_mem_nil⟩⟩⟩⟩⟩) (by decide +kernel) rfl
theorem w_co_X11_plain : Cond.code yX11_plain cX11_plain 4 (some .boolean) ∈ wsA := w_in 1482 (by decide +kernel) (by decide +kernel)
theorem w_im_X11_plain : Cond.instanceMethod yX11_plain ∈ wsA := w_in 1481 (by decide +kernel) (by decide +kernel)
theorem w_se_X11_plain : Cond.selects yX11_plain.cls yX11_plain yX11_plain ∈ wsA := w_pr 54 (by decide +kernel) (by decide +kernel)
theorem w_ml_X11_210 : Cond.methodLink RX11 210 yX11_plain ∈ wsA := w_in 1479 (by decide +kernel) (by decide +kernel)
theorem mv_X11_210 : z_YV RX11 210 yX11_plain cX11_plain 4 (some .boolean) 10 0 := z_YV.of (T := TX11) (N := 23) (List.forall_mem_cons.mpr ⟨w_ml_X11_210, List.forall_mem_cons.mpr ⟨w_im_X11_plain, List.forall_mem_cons.mpr ⟨w_se_X11_plain, List.forall_mem_cons.mpr ⟨w_in_X11, List.forall_mem_cons.mpr ⟨w_co_X11_plain, fun _ h => absurd h List.not_mem_nil⟩⟩⟩⟩⟩) (by decide +kernel) rfl
theorem w_co_X11_atom : Cond.code yX11_atom cX11_atom 4 (some .boolean) ∈ wsA := w_in 1473 (by decide +kernel) (by decide +kernel)
theorem w_im_X11_atom : Cond.instanceMethod yX11_atom ∈ wsA := w_in 1472 (by decide +kernel) (by decide +kernel)
theorem w_se_X11_atom : Cond.selects yX11_atom.cls yX11_atom yX11_atom ∈ wsA := w_pr 52 (by decide +kernel) (by decide +kernel)
theorem w_ml_X11_214 : Cond.methodLink RX11 214 yX11_atom ∈ wsA := w_in 1470 (by decide +kernel) (by decide +kernel)
theorem mv_X11_214 : z_YV RX11 214 yX11_atom cX11_atom 4 (some .boolean) 10 0 := z_YV.of (T := TX11) (N := 23) (List.forall_mem_cons.mpr ⟨w_ml_X11_214, List.forall_mem_cons.mpr ⟨w_im_X11_atom, List.forall_mem_cons.mpr ⟨w_se_X11_atom, List.forall_mem_cons.mpr ⟨w_in_X11, List.forall_mem_cons.mpr ⟨w_co_X11_atom, fun _ h => absurd h List.not_mem_nil⟩⟩⟩⟩⟩) (by decide +kernel) rfl
theorem w_co_X11_some : Cond.code yX11_some cX11_some 3 (some .boolean) ∈ wsA := w_in 1465 (by decide +kernel) (by decide +kernel)
theorem w_im_X11_some : Cond.instanceMethod yX11_some ∈ wsA := w_in 1464 (by decide +kernel) (by decide +kernel)
theorem w_se_X11_some : Cond.selects yX11_some.cls yX11_some yX11_some ∈ wsA := w_pr 50 (by decide +kernel) (by decide +kernel)
theorem w_ml_X11_217 : Cond.methodLink RX11 217 yX11_some ∈ wsA := w_in 1462 (by decide +kernel) (by decide +kernel)
theorem mv_X11_217 : z_YV RX11 217 yX11_some cX11_some 3 (some .boolean) 10 0 := z_YV.of (T := TX11) (N := 23) (List.forall_mem_cons.mpr ⟨w_ml_X11_217, List.forall_mem_cons.mpr ⟨w_im_X11_some, List.forall_mem_cons.mpr ⟨w_se_X11_some, List.forall_mem_cons.mpr ⟨w_in_X11, List.forall_mem_cons.mpr ⟨w_co_X11_some, fun _ h => absurd h List.not_mem_nil⟩⟩⟩⟩⟩) (by decide +kernel) rfl
theorem w_co_X11_every : Cond.code yX11_every cX11_every 3 (some .boolean) ∈ wsA := w_in 1469 (by decide +kernel) (by decide +kernel)
theorem w_im_X11_every : Cond.instanceMethod yX11_every ∈ wsA := w_in 1468 (by decide +kernel) (by decide +kernel)
theorem w_se_X11_every : Cond.selects yX11_every.cls yX11_every yX11_every ∈ wsA := w_pr 51 (by decide +kernel) (by decide +kernel)
theorem w_ml_X11_222 : Cond.methodLink RX11 222 yX11_every ∈ wsA := w_in 1466 (by decide +kernel) (by decide +kernel)
theorem mv_X11_222 : z_YV RX11 222 yX11_every cX11_every 3 (some .boolean) 10 0 := z_YV.of (T := TX11) (N := 23) (List.forall_mem_cons.mpr ⟨w_ml_X11_222, List.forall_mem_cons.mpr ⟨w_im_X11_every, List.forall_mem_cons.mpr ⟨w_se_X11_every, List.forall_mem_cons.mpr ⟨w_in_X11, List.forall_mem_cons.mpr ⟨w_co_X11_every, fun _ h => absurd h List.not_mem_nil⟩⟩⟩⟩⟩) (by decide +kernel) rfl
theorem w_co_X11_heightOf : Cond.code yX11_heightOf cX11_heightOf 3 (some .int) ∈ wsA := w_in 1587 (by decide +kernel) (by decide +kernel)
theorem w_im_X11_heightOf : Cond.instanceMethod yX11_heightOf ∈ wsA := w_in 1586 (by decide +kernel) (by decide +kernel)
theorem w_se_X11_heightOf : Cond.selects yX11_heightOf.cls yX11_heightOf yX11_heightOf ∈ wsA := w_pr 72 (by decide +kernel) (by decide +kernel)
theorem w_ml_X11_243 : Cond.methodLink RX11 243 yX11_heightOf ∈ wsA := w_in 1584 (by decide +kernel) (by decide +kernel)
theorem mv_X11_243 : z_YV RX11 243 yX11_heightOf cX11_heightOf 3 (some .int) 10 1 := z_YV.of (T := TX11) (N := 23) (List.forall_mem_cons.mpr ⟨w_ml_X11_243, List.forall_mem_cons.mpr ⟨w_im_X11_heightOf, List.forall_mem_cons.mpr ⟨w_se_X11_heightOf, List.forall_mem_cons.mpr ⟨w_in_X11, List.forall_mem_cons.mpr ⟨w_co_X11_heightOf, fun _ h => absurd h List.not_mem_nil⟩⟩⟩⟩⟩) (by decide +kernel) rfl
theorem w_co_X11_firstIn : Cond.code yX11_firstIn cX11_firstIn 3 (some .int) ∈ wsA := w_in 1654 (by decide +kernel) (by decide +kernel)
theorem w_im_X11_firstIn : Cond.instanceMethod yX11_firstIn ∈ wsA := w_in 1653 (by decide +kernel) (by decide +kernel)
theorem w_se_X11_firstIn : Cond.selects yX11_firstIn.cls yX11_firstIn yX11_firstIn ∈ wsA := w_pr 82 (by decide +kernel) (by decide +kernel)
theorem w_ml_X11_246 : Cond.methodLink RX11 246 yX11_firstIn ∈ wsA := w_in 1651 (by decide +kernel) (by decide +kernel)
theorem mv_X11_246 : z_YV RX11 246 yX11_firstIn cX11_firstIn 3 (some .int) 10 1 := z_YV.of (T := TX11) (N := 23) (List.forall_mem_cons.mpr ⟨w_ml_X11_246, List.forall_mem_cons.mpr ⟨w_im_X11_firstIn, List.forall_mem_cons.mpr ⟨w_se_X11_firstIn, List.forall_mem_cons.mpr ⟨w_in_X11, List.forall_mem_cons.mpr ⟨w_co_X11_firstIn, fun _ h => absurd h List.not_mem_nil⟩⟩⟩⟩⟩) (by decide +kernel) rfl
theorem w_co_X11_governorNow : Cond.code yX11_governorNow cX11_governorNow 1 (some .int) ∈ wsA := w_in 1650 (by decide +kernel) (by decide +kernel)
theorem w_im_X11_governorNow : Cond.instanceMethod yX11_governorNow ∈ wsA := w_in 1649 (by decide +kernel) (by decide +kernel)
theorem w_se_X11_governorNow : Cond.selects yX11_governorNow.cls yX11_governorNow yX11_governorNow ∈ wsA := w_pr 81 (by decide +kernel) (by decide +kernel)
theorem w_ml_X11_249 : Cond.methodLink RX11 249 yX11_governorNow ∈ wsA := w_in 1647 (by decide +kernel) (by decide +kernel)
theorem mv_X11_249 : z_YV RX11 249 yX11_governorNow cX11_governorNow 1 (some .int) 10 0 := z_YV.of (T := TX11) (N := 23) (List.forall_mem_cons.mpr ⟨w_ml_X11_249, List.forall_mem_cons.mpr ⟨w_im_X11_governorNow, List.forall_mem_cons.mpr ⟨w_se_X11_governorNow, List.forall_mem_cons.mpr ⟨w_in_X11, List.forall_mem_cons.mpr ⟨w_co_X11_governorNow, fun _ h => absurd h List.not_mem_nil⟩⟩⟩⟩⟩) (by decide +kernel) rfl
theorem w_co_X11_asks : Cond.code yX11_asks cX11_asks 4 none ∈ wsA := w_in 1583 (by decide +kernel) (by decide +kernel)
theorem w_im_X11_asks : Cond.instanceMethod yX11_asks ∈ wsA := w_in 1582 (by decide +kernel) (by decide +kernel)
theorem w_se_X11_asks : Cond.selects yX11_asks.cls yX11_asks yX11_asks ∈ wsA := w_pr 71 (by decide +kernel) (by decide +kernel)
theorem w_ml_X11_252 : Cond.methodLink RX11 252 yX11_asks ∈ wsA := w_in 1580 (by decide +kernel) (by decide +kernel)
theorem mv_X11_252 : z_YV RX11 252 yX11_asks cX11_asks 4 none 10 1 := z_YV.of (T := TX11) (N := 23) (List.forall_mem_cons.mpr ⟨w_ml_X11_252, List.forall_mem_cons.mpr ⟨w_im_X11_asks, List.forall_mem_cons.mpr ⟨w_se_X11_asks, List.forall_mem_cons.mpr ⟨w_in_X11, List.forall_mem_cons.mpr ⟨w_co_X11_asks, fun _ h => absurd h List.not_mem_nil⟩⟩⟩⟩⟩) (by decide +kernel) rfl
theorem w_co_X11_waits : Cond.code yX11_waits cX11_waits 2 (some .boolean) ∈ wsA := w_in 1579 (by decide +kernel) (by decide +kernel)
theorem w_im_X11_waits : Cond.instanceMethod yX11_waits ∈ wsA := w_in 1578 (by decide +kernel) (by decide +kernel)
theorem w_se_X11_waits : Cond.selects yX11_waits.cls yX11_waits yX11_waits ∈ wsA := w_pr 70 (by decide +kernel) (by decide +kernel)
theorem w_ml_X11_255 : Cond.methodLink RX11 255 yX11_waits ∈ wsA := w_in 1576 (by decide +kernel) (by decide +kernel)
theorem mv_X11_255 : z_YV RX11 255 yX11_waits cX11_waits 2 (some .boolean) 10 1 := z_YV.of (T := TX11) (N := 23) (List.forall_mem_cons.mpr ⟨w_ml_X11_255, List.forall_mem_cons.mpr ⟨w_im_X11_waits, List.forall_mem_cons.mpr ⟨w_se_X11_waits, List.forall_mem_cons.mpr ⟨w_in_X11, List.forall_mem_cons.mpr ⟨w_co_X11_waits, fun _ h => absurd h List.not_mem_nil⟩⟩⟩⟩⟩) (by decide +kernel) rfl
theorem w_co_X11_owesBy : Cond.code yX11_owesBy cX11_owesBy 3 (some .int) ∈ wsA := w_in 1575 (by decide +kernel) (by decide +kernel)
theorem w_im_X11_owesBy : Cond.instanceMethod yX11_owesBy ∈ wsA := w_in 1574 (by decide +kernel) (by decide +kernel)
theorem w_se_X11_owesBy : Cond.selects yX11_owesBy.cls yX11_owesBy yX11_owesBy ∈ wsA := w_pr 69 (by decide +kernel) (by decide +kernel)
theorem w_ml_X11_266 : Cond.methodLink RX11 266 yX11_owesBy ∈ wsA := w_in 1572 (by decide +kernel) (by decide +kernel)
theorem mv_X11_266 : z_YV RX11 266 yX11_owesBy cX11_owesBy 3 (some .int) 10 2 := z_YV.of (T := TX11) (N := 23) (List.forall_mem_cons.mpr ⟨w_ml_X11_266, List.forall_mem_cons.mpr ⟨w_im_X11_owesBy, List.forall_mem_cons.mpr ⟨w_se_X11_owesBy, List.forall_mem_cons.mpr ⟨w_in_X11, List.forall_mem_cons.mpr ⟨w_co_X11_owesBy, fun _ h => absurd h List.not_mem_nil⟩⟩⟩⟩⟩) (by decide +kernel) rfl
theorem w_co_X11_draw : Cond.code yX11_draw cX11_draw 2 (some .int) ∈ wsA := w_in 1710 (by decide +kernel) (by decide +kernel)
theorem w_im_X11_draw : Cond.instanceMethod yX11_draw ∈ wsA := w_in 1709 (by decide +kernel) (by decide +kernel)
theorem w_se_X11_draw : Cond.selects yX11_draw.cls yX11_draw yX11_draw ∈ wsA := w_pr 87 (by decide +kernel) (by decide +kernel)
theorem w_ml_X11_269 : Cond.methodLink RX11 269 yX11_draw ∈ wsA := w_in 1707 (by decide +kernel) (by decide +kernel)
theorem mv_X11_269 : z_YV RX11 269 yX11_draw cX11_draw 2 (some .int) 10 1 := z_YV.of (T := TX11) (N := 23) (List.forall_mem_cons.mpr ⟨w_ml_X11_269, List.forall_mem_cons.mpr ⟨w_im_X11_draw, List.forall_mem_cons.mpr ⟨w_se_X11_draw, List.forall_mem_cons.mpr ⟨w_in_X11, List.forall_mem_cons.mpr ⟨w_co_X11_draw, fun _ h => absurd h List.not_mem_nil⟩⟩⟩⟩⟩) (by decide +kernel) rfl
theorem w_co_X11_fartherNow : Cond.code yX11_fartherNow cX11_fartherNow 1 (some .int) ∈ wsA := w_in 1662 (by decide +kernel) (by decide +kernel)
theorem w_im_X11_fartherNow : Cond.instanceMethod yX11_fartherNow ∈ wsA := w_in 1661 (by decide +kernel) (by decide +kernel)
theorem w_se_X11_fartherNow : Cond.selects yX11_fartherNow.cls yX11_fartherNow yX11_fartherNow ∈ wsA := w_pr 83 (by decide +kernel) (by decide +kernel)
theorem w_ml_X11_272 : Cond.methodLink RX11 272 yX11_fartherNow ∈ wsA := w_in 1659 (by decide +kernel) (by decide +kernel)
theorem mv_X11_272 : z_YV RX11 272 yX11_fartherNow cX11_fartherNow 1 (some .int) 10 0 := z_YV.of (T := TX11) (N := 23) (List.forall_mem_cons.mpr ⟨w_ml_X11_272, List.forall_mem_cons.mpr ⟨w_im_X11_fartherNow, List.forall_mem_cons.mpr ⟨w_se_X11_fartherNow, List.forall_mem_cons.mpr ⟨w_in_X11, List.forall_mem_cons.mpr ⟨w_co_X11_fartherNow, fun _ h => absurd h List.not_mem_nil⟩⟩⟩⟩⟩) (by decide +kernel) rfl
theorem w_co_X11_collects : Cond.code yX11_collects cX11_collects 6 (some .int) ∈ wsA := w_in 1715 (by decide +kernel) (by decide +kernel)
theorem w_im_X11_collects : Cond.instanceMethod yX11_collects ∈ wsA := w_in 1714 (by decide +kernel) (by decide +kernel)
theorem w_se_X11_collects : Cond.selects yX11_collects.cls yX11_collects yX11_collects ∈ wsA := w_pr 88 (by decide +kernel) (by decide +kernel)
theorem w_ml_X11_275 : Cond.methodLink RX11 275 yX11_collects ∈ wsA := w_in 1712 (by decide +kernel) (by decide +kernel)
theorem mv_X11_275 : z_YV RX11 275 yX11_collects cX11_collects 6 (some .int) 10 1 := z_YV.of (T := TX11) (N := 23) (List.forall_mem_cons.mpr ⟨w_ml_X11_275, List.forall_mem_cons.mpr ⟨w_im_X11_collects, List.forall_mem_cons.mpr ⟨w_se_X11_collects, List.forall_mem_cons.mpr ⟨w_in_X11, List.forall_mem_cons.mpr ⟨w_co_X11_collects, fun _ h => absurd h List.not_mem_nil⟩⟩⟩⟩⟩) (by decide +kernel) rfl
theorem w_co_X11_firstWaiting : Cond.code yX11_firstWaiting cX11_firstWaiting 2 (some .int) ∈ wsA := w_in 1719 (by decide +kernel) (by decide +kernel)
theorem w_im_X11_firstWaiting : Cond.instanceMethod yX11_firstWaiting ∈ wsA := w_in 1718 (by decide +kernel) (by decide +kernel)
theorem w_se_X11_firstWaiting : Cond.selects yX11_firstWaiting.cls yX11_firstWaiting yX11_firstWaiting ∈ wsA := w_pr 89 (by decide +kernel) (by decide +kernel)
theorem w_ml_X11_278 : Cond.methodLink RX11 278 yX11_firstWaiting ∈ wsA := w_in 1716 (by decide +kernel) (by decide +kernel)
theorem mv_X11_278 : z_YV RX11 278 yX11_firstWaiting cX11_firstWaiting 2 (some .int) 10 0 := z_YV.of (T := TX11) (N := 23) (List.forall_mem_cons.mpr ⟨w_ml_X11_278, List.forall_mem_cons.mpr ⟨w_im_X11_firstWaiting, List.forall_mem_cons.mpr ⟨w_se_X11_firstWaiting, List.forall_mem_cons.mpr ⟨w_in_X11, List.forall_mem_cons.mpr ⟨w_co_X11_firstWaiting, fun _ h => absurd h List.not_mem_nil⟩⟩⟩⟩⟩) (by decide +kernel) rfl
theorem w_co_X11_gets : Cond.code yX11_gets cX11_gets 4 none ∈ wsA := w_in 1674 (by decide +kernel) (by decide +kernel)
theorem w_im_X11_gets : Cond.instanceMethod yX11_gets ∈ wsA := w_in 1673 (by decide +kernel) (by decide +kernel)
theorem w_se_X11_gets : Cond.selects yX11_gets.cls yX11_gets yX11_gets ∈ wsA := w_pr 85 (by decide +kernel) (by decide +kernel)
theorem w_ml_X11_281 : Cond.methodLink RX11 281 yX11_gets ∈ wsA := w_in 1671 (by decide +kernel) (by decide +kernel)
theorem mv_X11_281 : z_YV RX11 281 yX11_gets cX11_gets 4 none 10 2 := z_YV.of (T := TX11) (N := 23) (List.forall_mem_cons.mpr ⟨w_ml_X11_281, List.forall_mem_cons.mpr ⟨w_im_X11_gets, List.forall_mem_cons.mpr ⟨w_se_X11_gets, List.forall_mem_cons.mpr ⟨w_in_X11, List.forall_mem_cons.mpr ⟨w_co_X11_gets, fun _ h => absurd h List.not_mem_nil⟩⟩⟩⟩⟩) (by decide +kernel) rfl
theorem w_co_X11_blows : Cond.code yX11_blows cX11_blows 4 none ∈ wsA := w_in 1723 (by decide +kernel) (by decide +kernel)
theorem w_im_X11_blows : Cond.instanceMethod yX11_blows ∈ wsA := w_in 1722 (by decide +kernel) (by decide +kernel)
theorem w_se_X11_blows : Cond.selects yX11_blows.cls yX11_blows yX11_blows ∈ wsA := w_pr 90 (by decide +kernel) (by decide +kernel)
theorem w_ml_X11_285 : Cond.methodLink RX11 285 yX11_blows ∈ wsA := w_in 1720 (by decide +kernel) (by decide +kernel)
theorem mv_X11_285 : z_YV RX11 285 yX11_blows cX11_blows 4 none 10 0 := z_YV.of (T := TX11) (N := 23) (List.forall_mem_cons.mpr ⟨w_ml_X11_285, List.forall_mem_cons.mpr ⟨w_im_X11_blows, List.forall_mem_cons.mpr ⟨w_se_X11_blows, List.forall_mem_cons.mpr ⟨w_in_X11, List.forall_mem_cons.mpr ⟨w_co_X11_blows, fun _ h => absurd h List.not_mem_nil⟩⟩⟩⟩⟩) (by decide +kernel) rfl
theorem w_co_X11_logs : Cond.code yX11_logs cX11_logs 4 none ∈ wsA := w_in 1727 (by decide +kernel) (by decide +kernel)
theorem w_im_X11_logs : Cond.instanceMethod yX11_logs ∈ wsA := w_in 1726 (by decide +kernel) (by decide +kernel)
theorem w_se_X11_logs : Cond.selects yX11_logs.cls yX11_logs yX11_logs ∈ wsA := w_pr 91 (by decide +kernel) (by decide +kernel)
theorem w_ml_X11_288 : Cond.methodLink RX11 288 yX11_logs ∈ wsA := w_in 1724 (by decide +kernel) (by decide +kernel)
theorem mv_X11_288 : z_YV RX11 288 yX11_logs cX11_logs 4 none 10 2 := z_YV.of (T := TX11) (N := 23) (List.forall_mem_cons.mpr ⟨w_ml_X11_288, List.forall_mem_cons.mpr ⟨w_im_X11_logs, List.forall_mem_cons.mpr ⟨w_se_X11_logs, List.forall_mem_cons.mpr ⟨w_in_X11, List.forall_mem_cons.mpr ⟨w_co_X11_logs, fun _ h => absurd h List.not_mem_nil⟩⟩⟩⟩⟩) (by decide +kernel) rfl
theorem w_co_X11_isRider : Cond.code yX11_isRider cX11_isRider 2 (some .boolean) ∈ wsA := w_in 1571 (by decide +kernel) (by decide +kernel)
theorem w_im_X11_isRider : Cond.instanceMethod yX11_isRider ∈ wsA := w_in 1570 (by decide +kernel) (by decide +kernel)
theorem w_se_X11_isRider : Cond.selects yX11_isRider.cls yX11_isRider yX11_isRider ∈ wsA := w_pr 68 (by decide +kernel) (by decide +kernel)
theorem w_ml_X11_291 : Cond.methodLink RX11 291 yX11_isRider ∈ wsA := w_in 1568 (by decide +kernel) (by decide +kernel)
theorem mv_X11_291 : z_YV RX11 291 yX11_isRider cX11_isRider 2 (some .boolean) 10 1 := z_YV.of (T := TX11) (N := 23) (List.forall_mem_cons.mpr ⟨w_ml_X11_291, List.forall_mem_cons.mpr ⟨w_im_X11_isRider, List.forall_mem_cons.mpr ⟨w_se_X11_isRider, List.forall_mem_cons.mpr ⟨w_in_X11, List.forall_mem_cons.mpr ⟨w_co_X11_isRider, fun _ h => absurd h List.not_mem_nil⟩⟩⟩⟩⟩) (by decide +kernel) rfl
theorem w_co_X11_weightOf : Cond.code yX11_weightOf cX11_weightOf 4 (some .int) ∈ wsA := w_in 1612 (by decide +kernel) (by decide +kernel)
theorem w_im_X11_weightOf : Cond.instanceMethod yX11_weightOf ∈ wsA := w_in 1611 (by decide +kernel) (by decide +kernel)
theorem w_se_X11_weightOf : Cond.selects yX11_weightOf.cls yX11_weightOf yX11_weightOf ∈ wsA := w_pr 75 (by decide +kernel) (by decide +kernel)
theorem w_ml_X11_297 : Cond.methodLink RX11 297 yX11_weightOf ∈ wsA := w_in 1609 (by decide +kernel) (by decide +kernel)
theorem mv_X11_297 : z_YV RX11 297 yX11_weightOf cX11_weightOf 4 (some .int) 10 1 := z_YV.of (T := TX11) (N := 23) (List.forall_mem_cons.mpr ⟨w_ml_X11_297, List.forall_mem_cons.mpr ⟨w_im_X11_weightOf, List.forall_mem_cons.mpr ⟨w_se_X11_weightOf, List.forall_mem_cons.mpr ⟨w_in_X11, List.forall_mem_cons.mpr ⟨w_co_X11_weightOf, fun _ h => absurd h List.not_mem_nil⟩⟩⟩⟩⟩) (by decide +kernel) rfl
theorem w_co_X11_costOf : Cond.code yX11_costOf cX11_costOf 2 (some .int) ∈ wsA := w_in 1619 (by decide +kernel) (by decide +kernel)
theorem w_im_X11_costOf : Cond.instanceMethod yX11_costOf ∈ wsA := w_in 1618 (by decide +kernel) (by decide +kernel)
theorem w_se_X11_costOf : Cond.selects yX11_costOf.cls yX11_costOf yX11_costOf ∈ wsA := w_pr 76 (by decide +kernel) (by decide +kernel)
theorem w_ml_X11_300 : Cond.methodLink RX11 300 yX11_costOf ∈ wsA := w_in 1616 (by decide +kernel) (by decide +kernel)
theorem mv_X11_300 : z_YV RX11 300 yX11_costOf cX11_costOf 2 (some .int) 10 1 := z_YV.of (T := TX11) (N := 23) (List.forall_mem_cons.mpr ⟨w_ml_X11_300, List.forall_mem_cons.mpr ⟨w_im_X11_costOf, List.forall_mem_cons.mpr ⟨w_se_X11_costOf, List.forall_mem_cons.mpr ⟨w_in_X11, List.forall_mem_cons.mpr ⟨w_co_X11_costOf, fun _ h => absurd h List.not_mem_nil⟩⟩⟩⟩⟩) (by decide +kernel) rfl
theorem w_co_X11_ridersOf : Cond.code yX11_ridersOf cX11_ridersOf 4 (some .int) ∈ wsA := w_in 1630 (by decide +kernel) (by decide +kernel)
theorem w_im_X11_ridersOf : Cond.instanceMethod yX11_ridersOf ∈ wsA := w_in 1629 (by decide +kernel) (by decide +kernel)
theorem w_se_X11_ridersOf : Cond.selects yX11_ridersOf.cls yX11_ridersOf yX11_ridersOf ∈ wsA := w_pr 77 (by decide +kernel) (by decide +kernel)
theorem w_ml_X11_303 : Cond.methodLink RX11 303 yX11_ridersOf ∈ wsA := w_in 1627 (by decide +kernel) (by decide +kernel)
theorem mv_X11_303 : z_YV RX11 303 yX11_ridersOf cX11_ridersOf 4 (some .int) 10 1 := z_YV.of (T := TX11) (N := 23) (List.forall_mem_cons.mpr ⟨w_ml_X11_303, List.forall_mem_cons.mpr ⟨w_im_X11_ridersOf, List.forall_mem_cons.mpr ⟨w_se_X11_ridersOf, List.forall_mem_cons.mpr ⟨w_in_X11, List.forall_mem_cons.mpr ⟨w_co_X11_ridersOf, fun _ h => absurd h List.not_mem_nil⟩⟩⟩⟩⟩) (by decide +kernel) rfl
theorem w_co_X11_seated : Cond.code yX11_seated cX11_seated 3 (some .int) ∈ wsA := w_in 1634 (by decide +kernel) (by decide +kernel)
theorem w_im_X11_seated : Cond.instanceMethod yX11_seated ∈ wsA := w_in 1633 (by decide +kernel) (by decide +kernel)
theorem w_se_X11_seated : Cond.selects yX11_seated.cls yX11_seated yX11_seated ∈ wsA := w_pr 78 (by decide +kernel) (by decide +kernel)
theorem w_ml_X11_306 : Cond.methodLink RX11 306 yX11_seated ∈ wsA := w_in 1631 (by decide +kernel) (by decide +kernel)
theorem mv_X11_306 : z_YV RX11 306 yX11_seated cX11_seated 3 (some .int) 10 0 := z_YV.of (T := TX11) (N := 23) (List.forall_mem_cons.mpr ⟨w_ml_X11_306, List.forall_mem_cons.mpr ⟨w_im_X11_seated, List.forall_mem_cons.mpr ⟨w_se_X11_seated, List.forall_mem_cons.mpr ⟨w_in_X11, List.forall_mem_cons.mpr ⟨w_co_X11_seated, fun _ h => absurd h List.not_mem_nil⟩⟩⟩⟩⟩) (by decide +kernel) rfl
theorem w_co_X11_isMajor : Cond.code yX11_isMajor cX11_isMajor 4 (some .boolean) ∈ wsA := w_in 1642 (by decide +kernel) (by decide +kernel)
theorem w_im_X11_isMajor : Cond.instanceMethod yX11_isMajor ∈ wsA := w_in 1641 (by decide +kernel) (by decide +kernel)
theorem w_se_X11_isMajor : Cond.selects yX11_isMajor.cls yX11_isMajor yX11_isMajor ∈ wsA := w_pr 80 (by decide +kernel) (by decide +kernel)
theorem w_ml_X11_309 : Cond.methodLink RX11 309 yX11_isMajor ∈ wsA := w_in 1639 (by decide +kernel) (by decide +kernel)
theorem mv_X11_309 : z_YV RX11 309 yX11_isMajor cX11_isMajor 4 (some .boolean) 10 1 := z_YV.of (T := TX11) (N := 23) (List.forall_mem_cons.mpr ⟨w_ml_X11_309, List.forall_mem_cons.mpr ⟨w_im_X11_isMajor, List.forall_mem_cons.mpr ⟨w_se_X11_isMajor, List.forall_mem_cons.mpr ⟨w_in_X11, List.forall_mem_cons.mpr ⟨w_co_X11_isMajor, fun _ h => absurd h List.not_mem_nil⟩⟩⟩⟩⟩) (by decide +kernel) rfl
theorem w_co_X11_power : Cond.code yX11_power cX11_power 4 (some .int) ∈ wsA := w_in 1638 (by decide +kernel) (by decide +kernel)
theorem w_im_X11_power : Cond.instanceMethod yX11_power ∈ wsA := w_in 1637 (by decide +kernel) (by decide +kernel)
theorem w_se_X11_power : Cond.selects yX11_power.cls yX11_power yX11_power ∈ wsA := w_pr 79 (by decide +kernel) (by decide +kernel)
theorem w_ml_X11_315 : Cond.methodLink RX11 315 yX11_power ∈ wsA := w_in 1635 (by decide +kernel) (by decide +kernel)
theorem mv_X11_315 : z_YV RX11 315 yX11_power cX11_power 4 (some .int) 10 1 := z_YV.of (T := TX11) (N := 23) (List.forall_mem_cons.mpr ⟨w_ml_X11_315, List.forall_mem_cons.mpr ⟨w_im_X11_power, List.forall_mem_cons.mpr ⟨w_se_X11_power, List.forall_mem_cons.mpr ⟨w_in_X11, List.forall_mem_cons.mpr ⟨w_co_X11_power, fun _ h => absurd h List.not_mem_nil⟩⟩⟩⟩⟩) (by decide +kernel) rfl
theorem w_co_X11_remembers : Cond.code yX11_remembers cX11_remembers 2 none ∈ wsA := w_in 1670 (by decide +kernel) (by decide +kernel)
theorem w_im_X11_remembers : Cond.instanceMethod yX11_remembers ∈ wsA := w_in 1669 (by decide +kernel) (by decide +kernel)
theorem w_se_X11_remembers : Cond.selects yX11_remembers.cls yX11_remembers yX11_remembers ∈ wsA := w_pr 84 (by decide +kernel) (by decide +kernel)
theorem w_ml_X11_318 : Cond.methodLink RX11 318 yX11_remembers ∈ wsA := w_in 1667 (by decide +kernel) (by decide +kernel)
theorem mv_X11_318 : z_YV RX11 318 yX11_remembers cX11_remembers 2 none 10 0 := z_YV.of (T := TX11) (N := 23) (List.forall_mem_cons.mpr ⟨w_ml_X11_318, List.forall_mem_cons.mpr ⟨w_im_X11_remembers, List.forall_mem_cons.mpr ⟨w_se_X11_remembers, List.forall_mem_cons.mpr ⟨w_in_X11, List.forall_mem_cons.mpr ⟨w_co_X11_remembers, fun _ h => absurd h List.not_mem_nil⟩⟩⟩⟩⟩) (by decide +kernel) rfl
theorem w_co_X11_goes : Cond.code yX11_goes cX11_goes 10 (some .int) ∈ wsA := w_in 1706 (by decide +kernel) (by decide +kernel)
theorem w_im_X11_goes : Cond.instanceMethod yX11_goes ∈ wsA := w_in 1705 (by decide +kernel) (by decide +kernel)
theorem w_se_X11_goes : Cond.selects yX11_goes.cls yX11_goes yX11_goes ∈ wsA := w_pr 86 (by decide +kernel) (by decide +kernel)
theorem w_ml_X11_321 : Cond.methodLink RX11 321 yX11_goes ∈ wsA := w_in 1703 (by decide +kernel) (by decide +kernel)
theorem mv_X11_321 : z_YV RX11 321 yX11_goes cX11_goes 10 (some .int) 10 2 := z_YV.of (T := TX11) (N := 23) (List.forall_mem_cons.mpr ⟨w_ml_X11_321, List.forall_mem_cons.mpr ⟨w_im_X11_goes, List.forall_mem_cons.mpr ⟨w_se_X11_goes, List.forall_mem_cons.mpr ⟨w_in_X11, List.forall_mem_cons.mpr ⟨w_co_X11_goes, fun _ h => absurd h List.not_mem_nil⟩⟩⟩⟩⟩) (by decide +kernel) rfl
theorem w_co_X11_counts : Cond.code yX11_counts cX11_counts 6 (some .int) ∈ wsA := w_in 1735 (by decide +kernel) (by decide +kernel)
theorem w_im_X11_counts : Cond.instanceMethod yX11_counts ∈ wsA := w_in 1734 (by decide +kernel) (by decide +kernel)
theorem w_se_X11_counts : Cond.selects yX11_counts.cls yX11_counts yX11_counts ∈ wsA := w_pr 92 (by decide +kernel) (by decide +kernel)
theorem w_ml_X11_324 : Cond.methodLink RX11 324 yX11_counts ∈ wsA := w_in 1732 (by decide +kernel) (by decide +kernel)
theorem mv_X11_324 : z_YV RX11 324 yX11_counts cX11_counts 6 (some .int) 10 1 := z_YV.of (T := TX11) (N := 23) (List.forall_mem_cons.mpr ⟨w_ml_X11_324, List.forall_mem_cons.mpr ⟨w_im_X11_counts, List.forall_mem_cons.mpr ⟨w_se_X11_counts, List.forall_mem_cons.mpr ⟨w_in_X11, List.forall_mem_cons.mpr ⟨w_co_X11_counts, fun _ h => absurd h List.not_mem_nil⟩⟩⟩⟩⟩) (by decide +kernel) rfl
theorem w_co_X11_leanBy : Cond.code yX11_leanBy cX11_leanBy 5 (some .int) ∈ wsA := w_in 1751 (by decide +kernel) (by decide +kernel)
theorem w_im_X11_leanBy : Cond.instanceMethod yX11_leanBy ∈ wsA := w_in 1750 (by decide +kernel) (by decide +kernel)
theorem w_se_X11_leanBy : Cond.selects yX11_leanBy.cls yX11_leanBy yX11_leanBy ∈ wsA := w_pr 93 (by decide +kernel) (by decide +kernel)
theorem w_ml_X11_327 : Cond.methodLink RX11 327 yX11_leanBy ∈ wsA := w_in 1748 (by decide +kernel) (by decide +kernel)
theorem mv_X11_327 : z_YV RX11 327 yX11_leanBy cX11_leanBy 5 (some .int) 10 1 := z_YV.of (T := TX11) (N := 23) (List.forall_mem_cons.mpr ⟨w_ml_X11_327, List.forall_mem_cons.mpr ⟨w_im_X11_leanBy, List.forall_mem_cons.mpr ⟨w_se_X11_leanBy, List.forall_mem_cons.mpr ⟨w_in_X11, List.forall_mem_cons.mpr ⟨w_co_X11_leanBy, fun _ h => absurd h List.not_mem_nil⟩⟩⟩⟩⟩) (by decide +kernel) rfl
theorem w_co_X11_keeps : Cond.code yX11_keeps cX11_keeps 7 (some .int) ∈ wsA := w_in 1772 (by decide +kernel) (by decide +kernel)
theorem w_im_X11_keeps : Cond.instanceMethod yX11_keeps ∈ wsA := w_in 1771 (by decide +kernel) (by decide +kernel)
theorem w_se_X11_keeps : Cond.selects yX11_keeps.cls yX11_keeps yX11_keeps ∈ wsA := w_pr 94 (by decide +kernel) (by decide +kernel)
theorem w_ml_X11_331 : Cond.methodLink RX11 331 yX11_keeps ∈ wsA := w_in 1769 (by decide +kernel) (by decide +kernel)
theorem mv_X11_331 : z_YV RX11 331 yX11_keeps cX11_keeps 7 (some .int) 10 3 := z_YV.of (T := TX11) (N := 23) (List.forall_mem_cons.mpr ⟨w_ml_X11_331, List.forall_mem_cons.mpr ⟨w_im_X11_keeps, List.forall_mem_cons.mpr ⟨w_se_X11_keeps, List.forall_mem_cons.mpr ⟨w_in_X11, List.forall_mem_cons.mpr ⟨w_co_X11_keeps, fun _ h => absurd h List.not_mem_nil⟩⟩⟩⟩⟩) (by decide +kernel) rfl
theorem w_co_X11_affords : Cond.code yX11_affords cX11_affords 3 (some .int) ∈ wsA := w_in 1776 (by decide +kernel) (by decide +kernel)
theorem w_im_X11_affords : Cond.instanceMethod yX11_affords ∈ wsA := w_in 1774 (by decide +kernel) (by decide +kernel)
theorem w_se_X11_affords : Cond.selects yX11_affords.cls yX11_affords yX11_affords ∈ wsA := w_in 1775 (by decide +kernel) (by decide +kernel)
theorem w_ml_X11_335 : Cond.methodLink RX11 335 yX11_affords ∈ wsA := w_in 1781 (by decide +kernel) (by decide +kernel)
theorem mv_X11_335 : z_YV RX11 335 yX11_affords cX11_affords 3 (some .int) 10 0 := z_YV.of (T := TX11) (N := 23) (List.forall_mem_cons.mpr ⟨w_ml_X11_335, List.forall_mem_cons.mpr ⟨w_im_X11_affords, List.forall_mem_cons.mpr ⟨w_se_X11_affords, List.forall_mem_cons.mpr ⟨w_in_X11, List.forall_mem_cons.mpr ⟨w_co_X11_affords, fun _ h => absurd h List.not_mem_nil⟩⟩⟩⟩⟩) (by decide +kernel) rfl
theorem w_co_X11_heard : Cond.code yX11_heard cX11_heard 6 (some .int) ∈ wsA := w_in 1789 (by decide +kernel) (by decide +kernel)
theorem w_im_X11_heard : Cond.instanceMethod yX11_heard ∈ wsA := w_in 1788 (by decide +kernel) (by decide +kernel)
theorem w_se_X11_heard : Cond.selects yX11_heard.cls yX11_heard yX11_heard ∈ wsA := w_pr 95 (by decide +kernel) (by decide +kernel)
theorem w_ml_X11_341 : Cond.methodLink RX11 341 yX11_heard ∈ wsA := w_in 1786 (by decide +kernel) (by decide +kernel)
theorem mv_X11_341 : z_YV RX11 341 yX11_heard cX11_heard 6 (some .int) 10 0 := z_YV.of (T := TX11) (N := 23) (List.forall_mem_cons.mpr ⟨w_ml_X11_341, List.forall_mem_cons.mpr ⟨w_im_X11_heard, List.forall_mem_cons.mpr ⟨w_se_X11_heard, List.forall_mem_cons.mpr ⟨w_in_X11, List.forall_mem_cons.mpr ⟨w_co_X11_heard, fun _ h => absurd h List.not_mem_nil⟩⟩⟩⟩⟩) (by decide +kernel) rfl
theorem w_co_X11_heights : Cond.code yX11_heights cX11_heights 7 (some .int) ∈ wsA := w_in 1804 (by decide +kernel) (by decide +kernel)
theorem w_im_X11_heights : Cond.instanceMethod yX11_heights ∈ wsA := w_in 1803 (by decide +kernel) (by decide +kernel)
theorem w_se_X11_heights : Cond.selects yX11_heights.cls yX11_heights yX11_heights ∈ wsA := w_pr 96 (by decide +kernel) (by decide +kernel)
theorem w_ml_X11_344 : Cond.methodLink RX11 344 yX11_heights ∈ wsA := w_in 1801 (by decide +kernel) (by decide +kernel)
theorem mv_X11_344 : z_YV RX11 344 yX11_heights cX11_heights 7 (some .int) 10 0 := z_YV.of (T := TX11) (N := 23) (List.forall_mem_cons.mpr ⟨w_ml_X11_344, List.forall_mem_cons.mpr ⟨w_im_X11_heights, List.forall_mem_cons.mpr ⟨w_se_X11_heights, List.forall_mem_cons.mpr ⟨w_in_X11, List.forall_mem_cons.mpr ⟨w_co_X11_heights, fun _ h => absurd h List.not_mem_nil⟩⟩⟩⟩⟩) (by decide +kernel) rfl
theorem w_co_X11_isDraw : Cond.code yX11_isDraw cX11_isDraw 2 (some .boolean) ∈ wsA := w_in 1816 (by decide +kernel) (by decide +kernel)
theorem w_im_X11_isDraw : Cond.instanceMethod yX11_isDraw ∈ wsA := w_in 1815 (by decide +kernel) (by decide +kernel)
theorem w_se_X11_isDraw : Cond.selects yX11_isDraw.cls yX11_isDraw yX11_isDraw ∈ wsA := w_pr 97 (by decide +kernel) (by decide +kernel)
theorem w_ml_X11_347 : Cond.methodLink RX11 347 yX11_isDraw ∈ wsA := w_in 1813 (by decide +kernel) (by decide +kernel)
theorem mv_X11_347 : z_YV RX11 347 yX11_isDraw cX11_isDraw 2 (some .boolean) 10 1 := z_YV.of (T := TX11) (N := 23) (List.forall_mem_cons.mpr ⟨w_ml_X11_347, List.forall_mem_cons.mpr ⟨w_im_X11_isDraw, List.forall_mem_cons.mpr ⟨w_se_X11_isDraw, List.forall_mem_cons.mpr ⟨w_in_X11, List.forall_mem_cons.mpr ⟨w_co_X11_isDraw, fun _ h => absurd h List.not_mem_nil⟩⟩⟩⟩⟩) (by decide +kernel) rfl
theorem w_co_X11_firstBy : Cond.code yX11_firstBy cX11_firstBy 7 (some .int) ∈ wsA := w_in 1820 (by decide +kernel) (by decide +kernel)
theorem w_im_X11_firstBy : Cond.instanceMethod yX11_firstBy ∈ wsA := w_in 1819 (by decide +kernel) (by decide +kernel)
theorem w_se_X11_firstBy : Cond.selects yX11_firstBy.cls yX11_firstBy yX11_firstBy ∈ wsA := w_pr 98 (by decide +kernel) (by decide +kernel)
theorem w_ml_X11_350 : Cond.methodLink RX11 350 yX11_firstBy ∈ wsA := w_in 1817 (by decide +kernel) (by decide +kernel)
theorem mv_X11_350 : z_YV RX11 350 yX11_firstBy cX11_firstBy 7 (some .int) 10 3 := z_YV.of (T := TX11) (N := 23) (List.forall_mem_cons.mpr ⟨w_ml_X11_350, List.forall_mem_cons.mpr ⟨w_im_X11_firstBy, List.forall_mem_cons.mpr ⟨w_se_X11_firstBy, List.forall_mem_cons.mpr ⟨w_in_X11, List.forall_mem_cons.mpr ⟨w_co_X11_firstBy, fun _ h => absurd h List.not_mem_nil⟩⟩⟩⟩⟩) (by decide +kernel) rfl
theorem w_co_X11_isSame : Cond.code yX11_isSame cX11_isSame 2 (some .boolean) ∈ wsA := w_in 1832 (by decide +kernel) (by decide +kernel)
theorem w_im_X11_isSame : Cond.instanceMethod yX11_isSame ∈ wsA := w_in 1831 (by decide +kernel) (by decide +kernel)
theorem w_se_X11_isSame : Cond.selects yX11_isSame.cls yX11_isSame yX11_isSame ∈ wsA := w_pr 99 (by decide +kernel) (by decide +kernel)
theorem w_ml_X11_354 : Cond.methodLink RX11 354 yX11_isSame ∈ wsA := w_in 1829 (by decide +kernel) (by decide +kernel)
theorem mv_X11_354 : z_YV RX11 354 yX11_isSame cX11_isSame 2 (some .boolean) 10 0 := z_YV.of (T := TX11) (N := 23) (List.forall_mem_cons.mpr ⟨w_ml_X11_354, List.forall_mem_cons.mpr ⟨w_im_X11_isSame, List.forall_mem_cons.mpr ⟨w_se_X11_isSame, List.forall_mem_cons.mpr ⟨w_in_X11, List.forall_mem_cons.mpr ⟨w_co_X11_isSame, fun _ h => absurd h List.not_mem_nil⟩⟩⟩⟩⟩) (by decide +kernel) rfl
theorem w_co_X11_logged : Cond.code yX11_logged cX11_logged 3 (some .int) ∈ wsA := w_in 1872 (by decide +kernel) (by decide +kernel)
theorem w_im_X11_logged : Cond.instanceMethod yX11_logged ∈ wsA := w_in 1871 (by decide +kernel) (by decide +kernel)
theorem w_se_X11_logged : Cond.selects yX11_logged.cls yX11_logged yX11_logged ∈ wsA := w_pr 100 (by decide +kernel) (by decide +kernel)
theorem w_ml_X11_357 : Cond.methodLink RX11 357 yX11_logged ∈ wsA := w_in 1869 (by decide +kernel) (by decide +kernel)
theorem mv_X11_357 : z_YV RX11 357 yX11_logged cX11_logged 3 (some .int) 10 2 := z_YV.of (T := TX11) (N := 23) (List.forall_mem_cons.mpr ⟨w_ml_X11_357, List.forall_mem_cons.mpr ⟨w_im_X11_logged, List.forall_mem_cons.mpr ⟨w_se_X11_logged, List.forall_mem_cons.mpr ⟨w_in_X11, List.forall_mem_cons.mpr ⟨w_co_X11_logged, fun _ h => absurd h List.not_mem_nil⟩⟩⟩⟩⟩) (by decide +kernel) rfl
theorem z_sl : ∀ i, i < sN → sLen.getD i 0 < 2 ^ 31 := by decide +kernel
def zFA (n : Nat) : Nat := 12 + 3 * n
def zLA (n : Nat) : Nat := 400 + 100 * n
