theorem in_X0 : ∀ w ∈ u_ws RX0 TX0 3, w ∈ wsA := w_us [321, 323, 325] (by decide +kernel)
theorem in_X3 : ∀ w ∈ u_ws RX3 TX3 3, w ∈ wsA := w_us [310, 312, 314] (by decide +kernel)
theorem in_X10 : ∀ w ∈ u_ws RX10 TX10 12, w ∈ wsA := w_us [342, 344, 346, 348, 350, 352, 354, 356, 358, 360, 362, 364] (by decide +kernel)
theorem w_fl_X10_10 : Cond.fieldLink RX10 10 "TopWheel" "tape" "LTopWheel$Tape;" ∈ wsA := w_in 330 (by decide +kernel) (by decide +kernel)
theorem fl_X10_10 : z_FL RX10 10 9 0 (.object "TopWheel$Tape") true := ⟨RX10, TX10, 12, "TopWheel", tyX10, rfl, in_X10, by decide, w_fl_X10_10, Or.inl rfl, tyX10_ok, nmX10, rfl, rfl⟩
theorem w_fl_X10_21 : Cond.fieldLink RX10 21 "TopWheel" "things" "LTopWheel$Things;" ∈ wsA := w_in 331 (by decide +kernel) (by decide +kernel)
theorem fl_X10_21 : z_FL RX10 21 9 1 (.object "TopWheel$Things") true := ⟨RX10, TX10, 12, "TopWheel", tyX10, rfl, in_X10, by decide, w_fl_X10_21, Or.inl rfl, tyX10_ok, nmX10, rfl, rfl⟩
theorem w_fl_X10_28 : Cond.fieldLink RX10 28 "TopWheel" "wheel" "LTopWheel$Wheel;" ∈ wsA := w_in 332 (by decide +kernel) (by decide +kernel)
theorem fl_X10_28 : z_FL RX10 28 9 2 (.object "TopWheel$Wheel") true := ⟨RX10, TX10, 12, "TopWheel", tyX10, rfl, in_X10, by decide, w_fl_X10_28, Or.inl rfl, tyX10_ok, nmX10, rfl, rfl⟩
theorem w_fl_X10_32 : Cond.fieldLink RX10 32 "TopWheel" "spare" "LTopWheel$Wheel;" ∈ wsA := w_in 333 (by decide +kernel) (by decide +kernel)
theorem fl_X10_32 : z_FL RX10 32 9 3 (.object "TopWheel$Wheel") true := ⟨RX10, TX10, 12, "TopWheel", tyX10, rfl, in_X10, by decide, w_fl_X10_32, Or.inl rfl, tyX10_ok, nmX10, rfl, rfl⟩
theorem w_fl_X10_40 : Cond.fieldLink RX10 40 "TopWheel" "fairReader" "LTopWheel$FairReader;" ∈ wsA := w_in 334 (by decide +kernel) (by decide +kernel)
theorem fl_X10_40 : z_FL RX10 40 9 4 (.object "TopWheel$FairReader") true := ⟨RX10, TX10, 12, "TopWheel", tyX10, rfl, in_X10, by decide, w_fl_X10_40, Or.inl rfl, tyX10_ok, nmX10, rfl, rfl⟩
theorem w_fl_X10_49 : Cond.fieldLink RX10 49 "TopWheel" "lawReader" "LTopWheel$LawReader;" ∈ wsA := w_in 335 (by decide +kernel) (by decide +kernel)
theorem fl_X10_49 : z_FL RX10 49 9 5 (.object "TopWheel$LawReader") true := ⟨RX10, TX10, 12, "TopWheel", tyX10, rfl, in_X10, by decide, w_fl_X10_49, Or.inl rfl, tyX10_ok, nmX10, rfl, rfl⟩
theorem w_fl_X10_56 : Cond.fieldLink RX10 56 "TopWheel" "journal" "LTopWheel$Journal;" ∈ wsA := w_in 336 (by decide +kernel) (by decide +kernel)
theorem fl_X10_56 : z_FL RX10 56 9 6 (.object "TopWheel$Journal") true := ⟨RX10, TX10, 12, "TopWheel", tyX10, rfl, in_X10, by decide, w_fl_X10_56, Or.inl rfl, tyX10_ok, nmX10, rfl, rfl⟩
theorem w_fl_X10_63 : Cond.fieldLink RX10 63 "TopWheel" "acts" "LTopWheel$Acts;" ∈ wsA := w_in 337 (by decide +kernel) (by decide +kernel)
theorem fl_X10_63 : z_FL RX10 63 9 7 (.object "TopWheel$Acts") true := ⟨RX10, TX10, 12, "TopWheel", tyX10, rfl, in_X10, by decide, w_fl_X10_63, Or.inl rfl, tyX10_ok, nmX10, rfl, rfl⟩
theorem w_fl_X10_70 : Cond.fieldLink RX10 70 "TopWheel" "picture" "LTopWheel$Keep;" ∈ wsA := w_in 338 (by decide +kernel) (by decide +kernel)
theorem fl_X10_70 : z_FL RX10 70 9 8 (.object "TopWheel$Keep") true := ⟨RX10, TX10, 12, "TopWheel", tyX10, rfl, in_X10, by decide, w_fl_X10_70, Or.inl rfl, tyX10_ok, nmX10, rfl, rfl⟩
theorem w_fl_X10_74 : Cond.fieldLink RX10 74 "TopWheel" "pictured" "Z" ∈ wsA := w_in 339 (by decide +kernel) (by decide +kernel)
theorem fl_X10_74 : z_FL RX10 74 9 9 .boolean false := ⟨RX10, TX10, 12, "TopWheel", tyX10, rfl, in_X10, by decide, w_fl_X10_74, Or.inl rfl, tyX10_ok, nmX10, rfl, rfl⟩
theorem w_fl_X10_78 : Cond.fieldLink RX10 78 "TopWheel" "texts" "I" ∈ wsA := w_in 340 (by decide +kernel) (by decide +kernel)
theorem fl_X10_78 : z_FL RX10 78 9 10 .int false := ⟨RX10, TX10, 12, "TopWheel", tyX10, rfl, in_X10, by decide, w_fl_X10_78, Or.inl rfl, tyX10_ok, nmX10, rfl, rfl⟩
theorem w_fl_X10_82 : Cond.fieldLink RX10 82 "TopWheel" "wrongByte" "I" ∈ wsA := w_in 341 (by decide +kernel) (by decide +kernel)
theorem fl_X10_82 : z_FL RX10 82 9 11 .int false := ⟨RX10, TX10, 12, "TopWheel", tyX10, rfl, in_X10, by decide, w_fl_X10_82, Or.inl rfl, tyX10_ok, nmX10, rfl, rfl⟩
theorem w_fl_X10_85 : Cond.fieldLink RX10 85 "TopWheel$Tape" "length" "I" ∈ wsA := w_in 47 (by decide +kernel) (by decide +kernel)
theorem fl_X10_85 : z_FL RX10 85 6 1 .int false := ⟨RX7, TX7, 2, "TopWheel$Tape", tyX7, rfl, in_X7, by decide, w_fl_X10_85, Or.inl rfl, tyX7_ok, nmX7, rfl, rfl⟩
theorem w_fl_X10_121 : Cond.fieldLink RX10 121 "TopWheel$Wheel" "rule" "LTopWheel$Law;" ∈ wsA := w_in 164 (by decide +kernel) (by decide +kernel)
theorem fl_X10_121 : z_FL RX10 121 8 19 (.object "TopWheel$Law") false := ⟨RX9, TX9, 20, "TopWheel$Wheel", tyX9, rfl, in_X9, by decide, w_fl_X10_121, Or.inl rfl, tyX9_ok, nmX9, rfl, rfl⟩
theorem w_fl_X10_125 : Cond.fieldLink RX10 125 "TopWheel$Law" "lines" "I" ∈ wsA := w_in 95 (by decide +kernel) (by decide +kernel)
theorem fl_X10_125 : z_FL RX10 125 4 0 .int true := ⟨RX4, TX4, 8, "TopWheel$Law", tyX4, rfl, in_X4, by decide, w_fl_X10_125, Or.inl rfl, tyX4_ok, nmX4, rfl, rfl⟩
theorem w_fl_X10_128 : Cond.fieldLink RX10 128 "TopWheel$Things" "wrong" "I" ∈ wsA := w_in 68 (by decide +kernel) (by decide +kernel)
theorem fl_X10_128 : z_FL RX10 128 7 5 .int false := ⟨RX8, TX8, 6, "TopWheel$Things", tyX8, rfl, in_X8, by decide, w_fl_X10_128, Or.inl rfl, tyX8_ok, nmX8, rfl, rfl⟩
theorem w_fl_X10_139 : Cond.fieldLink RX10 139 "TopWheel$Wheel" "place" "[I" ∈ wsA := w_in 121 (by decide +kernel) (by decide +kernel)
theorem fl_X10_139 : z_FL RX10 139 8 0 (.array .int) true := ⟨RX9, TX9, 20, "TopWheel$Wheel", tyX9, rfl, in_X9, by decide, w_fl_X10_139, Or.inl rfl, tyX9_ok, nmX9, rfl, rfl⟩
theorem w_fl_X10_143 : Cond.fieldLink RX10 143 "TopWheel$Wheel" "weight" "[I" ∈ wsA := w_in 123 (by decide +kernel) (by decide +kernel)
theorem fl_X10_143 : z_FL RX10 143 8 1 (.array .int) true := ⟨RX9, TX9, 20, "TopWheel$Wheel", tyX9, rfl, in_X9, by decide, w_fl_X10_143, Or.inl rfl, tyX9_ok, nmX9, rfl, rfl⟩
theorem w_fl_X10_146 : Cond.fieldLink RX10 146 "TopWheel$Wheel" "purse" "[I" ∈ wsA := w_in 125 (by decide +kernel) (by decide +kernel)
theorem fl_X10_146 : z_FL RX10 146 8 2 (.array .int) true := ⟨RX9, TX9, 20, "TopWheel$Wheel", tyX9, rfl, in_X9, by decide, w_fl_X10_146, Or.inl rfl, tyX9_ok, nmX9, rfl, rfl⟩
theorem w_fl_X10_149 : Cond.fieldLink RX10 149 "TopWheel$Wheel" "side" "[I" ∈ wsA := w_in 127 (by decide +kernel) (by decide +kernel)
theorem fl_X10_149 : z_FL RX10 149 8 3 (.array .int) true := ⟨RX9, TX9, 20, "TopWheel$Wheel", tyX9, rfl, in_X9, by decide, w_fl_X10_149, Or.inl rfl, tyX9_ok, nmX9, rfl, rfl⟩
theorem w_fl_X10_152 : Cond.fieldLink RX10 152 "TopWheel$Wheel" "price" "I" ∈ wsA := w_in 142 (by decide +kernel) (by decide +kernel)
theorem fl_X10_152 : z_FL RX10 152 8 10 .int false := ⟨RX9, TX9, 20, "TopWheel$Wheel", tyX9, rfl, in_X9, by decide, w_fl_X10_152, Or.inl rfl, tyX9_ok, nmX9, rfl, rfl⟩
theorem w_fl_X10_177 : Cond.fieldLink RX10 177 "TopWheel$Wheel" "bolts" "[I" ∈ wsA := w_in 131 (by decide +kernel) (by decide +kernel)
theorem fl_X10_177 : z_FL RX10 177 8 5 (.array .int) true := ⟨RX9, TX9, 20, "TopWheel$Wheel", tyX9, rfl, in_X9, by decide, w_fl_X10_177, Or.inl rfl, tyX9_ok, nmX9, rfl, rfl⟩
theorem w_fl_X10_197 : Cond.fieldLink RX10 197 "TopWheel$Wheel" "terms" "[I" ∈ wsA := w_in 133 (by decide +kernel) (by decide +kernel)
theorem fl_X10_197 : z_FL RX10 197 8 6 (.array .int) true := ⟨RX9, TX9, 20, "TopWheel$Wheel", tyX9, rfl, in_X9, by decide, w_fl_X10_197, Or.inl rfl, tyX9_ok, nmX9, rfl, rfl⟩
theorem w_fl_X10_211 : Cond.fieldLink RX10 211 "TopWheel$Wheel" "top" "I" ∈ wsA := w_in 154 (by decide +kernel) (by decide +kernel)
theorem fl_X10_211 : z_FL RX10 211 8 14 .int false := ⟨RX9, TX9, 20, "TopWheel$Wheel", tyX9, rfl, in_X9, by decide, w_fl_X10_211, Or.inl rfl, tyX9_ok, nmX9, rfl, rfl⟩
theorem w_fl_X10_221 : Cond.fieldLink RX10 221 "TopWheel$Wheel" "riders" "I" ∈ wsA := w_in 137 (by decide +kernel) (by decide +kernel)
theorem fl_X10_221 : z_FL RX10 221 8 8 .int false := ⟨RX9, TX9, 20, "TopWheel$Wheel", tyX9, rfl, in_X9, by decide, w_fl_X10_221, Or.inl rfl, tyX9_ok, nmX9, rfl, rfl⟩
theorem w_fl_X10_236 : Cond.fieldLink RX10 236 "TopWheel$Wheel" "stop" "I" ∈ wsA := w_in 156 (by decide +kernel) (by decide +kernel)
theorem fl_X10_236 : z_FL RX10 236 8 15 .int false := ⟨RX9, TX9, 20, "TopWheel$Wheel", tyX9, rfl, in_X9, by decide, w_fl_X10_236, Or.inl rfl, tyX9_ok, nmX9, rfl, rfl⟩
theorem w_fl_X10_239 : Cond.fieldLink RX10 239 "TopWheel$Wheel" "chest" "I" ∈ wsA := w_in 145 (by decide +kernel) (by decide +kernel)
theorem fl_X10_239 : z_FL RX10 239 8 11 .int false := ⟨RX9, TX9, 20, "TopWheel$Wheel", tyX9, rfl, in_X9, by decide, w_fl_X10_239, Or.inl rfl, tyX9_ok, nmX9, rfl, rfl⟩
theorem w_fl_X10_242 : Cond.fieldLink RX10 242 "TopWheel$Wheel" "reach" "I" ∈ wsA := w_in 148 (by decide +kernel) (by decide +kernel)
theorem fl_X10_242 : z_FL RX10 242 8 12 .int false := ⟨RX9, TX9, 20, "TopWheel$Wheel", tyX9, rfl, in_X9, by decide, w_fl_X10_242, Or.inl rfl, tyX9_ok, nmX9, rfl, rfl⟩
theorem w_fl_X10_245 : Cond.fieldLink RX10 245 "TopWheel$Wheel" "wind" "I" ∈ wsA := w_in 151 (by decide +kernel) (by decide +kernel)
theorem fl_X10_245 : z_FL RX10 245 8 13 .int false := ⟨RX9, TX9, 20, "TopWheel$Wheel", tyX9, rfl, in_X9, by decide, w_fl_X10_245, Or.inl rfl, tyX9_ok, nmX9, rfl, rfl⟩
theorem w_fl_X10_248 : Cond.fieldLink RX10 248 "TopWheel$Wheel" "waiting" "I" ∈ wsA := w_in 139 (by decide +kernel) (by decide +kernel)
theorem fl_X10_248 : z_FL RX10 248 8 9 .int false := ⟨RX9, TX9, 20, "TopWheel$Wheel", tyX9, rfl, in_X9, by decide, w_fl_X10_248, Or.inl rfl, tyX9_ok, nmX9, rfl, rfl⟩
theorem w_fl_X10_260 : Cond.fieldLink RX10 260 "TopWheel$Journal" "rows" "I" ∈ wsA := w_in 279 (by decide +kernel) (by decide +kernel)
theorem fl_X10_260 : z_FL RX10 260 2 2 .int false := ⟨RX2, TX2, 3, "TopWheel$Journal", tyX2, rfl, in_X2, by decide, w_fl_X10_260, Or.inl rfl, tyX2_ok, nmX2, rfl, rfl⟩
theorem w_fl_X10_263 : Cond.fieldLink RX10 263 "TopWheel$Acts" "kept" "I" ∈ wsA := w_in 320 (by decide +kernel) (by decide +kernel)
theorem fl_X10_263 : z_FL RX10 263 0 2 .int false := ⟨RX0, TX0, 3, "TopWheel$Acts", tyX0, rfl, in_X0, by decide, w_fl_X10_263, Or.inl rfl, tyX0_ok, nmX0, rfl, rfl⟩
theorem w_fl_X10_305 : Cond.fieldLink RX10 305 "TopWheel$Wheel" "head" "I" ∈ wsA := w_in 160 (by decide +kernel) (by decide +kernel)
theorem fl_X10_305 : z_FL RX10 305 8 17 .int false := ⟨RX9, TX9, 20, "TopWheel$Wheel", tyX9, rfl, in_X9, by decide, w_fl_X10_305, Or.inl rfl, tyX9_ok, nmX9, rfl, rfl⟩
theorem w_fl_X10_308 : Cond.fieldLink RX10 308 "TopWheel$Wheel" "paid" "I" ∈ wsA := w_in 162 (by decide +kernel) (by decide +kernel)
theorem fl_X10_308 : z_FL RX10 308 8 18 .int false := ⟨RX9, TX9, 20, "TopWheel$Wheel", tyX9, rfl, in_X9, by decide, w_fl_X10_308, Or.inl rfl, tyX9_ok, nmX9, rfl, rfl⟩
theorem w_fl_X10_314 : Cond.fieldLink RX10 314 "TopWheel$Wheel" "grain" "I" ∈ wsA := w_in 158 (by decide +kernel) (by decide +kernel)
theorem fl_X10_314 : z_FL RX10 314 8 16 .int false := ⟨RX9, TX9, 20, "TopWheel$Wheel", tyX9, rfl, in_X9, by decide, w_fl_X10_314, Or.inl rfl, tyX9_ok, nmX9, rfl, rfl⟩
theorem w_fl_X10_335 : Cond.fieldLink RX10 335 "TopWheel$Keep" "wheel" "LTopWheel$Wheel;" ∈ wsA := w_in 305 (by decide +kernel) (by decide +kernel)
theorem fl_X10_335 : z_FL RX10 335 3 0 (.object "TopWheel$Wheel") true := ⟨RX3, TX3, 3, "TopWheel$Keep", tyX3, rfl, in_X3, by decide, w_fl_X10_335, Or.inl rfl, tyX3_ok, nmX3, rfl, rfl⟩
theorem w_fl_X10_336 : Cond.fieldLink RX10 336 "TopWheel$Keep" "journal" "LTopWheel$Journal;" ∈ wsA := w_in 307 (by decide +kernel) (by decide +kernel)
theorem fl_X10_336 : z_FL RX10 336 3 1 (.object "TopWheel$Journal") true := ⟨RX3, TX3, 3, "TopWheel$Keep", tyX3, rfl, in_X3, by decide, w_fl_X10_336, Or.inl rfl, tyX3_ok, nmX3, rfl, rfl⟩
theorem w_fl_X10_340 : Cond.fieldLink RX10 340 "TopWheel$Keep" "texts" "I" ∈ wsA := w_in 309 (by decide +kernel) (by decide +kernel)
theorem fl_X10_340 : z_FL RX10 340 3 2 .int false := ⟨RX3, TX3, 3, "TopWheel$Keep", tyX3, rfl, in_X3, by decide, w_fl_X10_340, Or.inl rfl, tyX3_ok, nmX3, rfl, rfl⟩
theorem w_fl_X10_402 : Cond.fieldLink RX10 402 "TopWheel$Tape" "bytes" "[I" ∈ wsA := w_in 45 (by decide +kernel) (by decide +kernel)
theorem fl_X10_402 : z_FL RX10 402 6 0 (.array .int) true := ⟨RX7, TX7, 2, "TopWheel$Tape", tyX7, rfl, in_X7, by decide, w_fl_X10_402, Or.inl rfl, tyX7_ok, nmX7, rfl, rfl⟩
theorem w_fl_X0_11 : Cond.fieldLink RX0 11 "TopWheel$Acts" "ring" "[LTopWheel$Keep;" ∈ wsA := w_in 317 (by decide +kernel) (by decide +kernel)
theorem fl_X0_11 : z_FL RX0 11 0 0 (.array (.object "TopWheel$Keep")) true := ⟨RX0, TX0, 3, "TopWheel$Acts", tyX0, rfl, in_X0, by decide, w_fl_X0_11, Or.inl rfl, tyX0_ok, nmX0, rfl, rfl⟩
theorem w_fl_X0_15 : Cond.fieldLink RX0 15 "TopWheel$Acts" "next" "I" ∈ wsA := w_in 318 (by decide +kernel) (by decide +kernel)
theorem fl_X0_15 : z_FL RX0 15 0 1 .int false := ⟨RX0, TX0, 3, "TopWheel$Acts", tyX0, rfl, in_X0, by decide, w_fl_X0_15, Or.inl rfl, tyX0_ok, nmX0, rfl, rfl⟩
theorem w_fl_X0_19 : Cond.fieldLink RX0 19 "TopWheel$Acts" "kept" "I" ∈ wsA := w_in 319 (by decide +kernel) (by decide +kernel)
theorem fl_X0_19 : z_FL RX0 19 0 2 .int false := ⟨RX0, TX0, 3, "TopWheel$Acts", tyX0, rfl, in_X0, by decide, w_fl_X0_19, Or.inl rfl, tyX0_ok, nmX0, rfl, rfl⟩
theorem w_fl_X3_10 : Cond.fieldLink RX3 10 "TopWheel$Keep" "wheel" "LTopWheel$Wheel;" ∈ wsA := w_in 304 (by decide +kernel) (by decide +kernel)
theorem fl_X3_10 : z_FL RX3 10 3 0 (.object "TopWheel$Wheel") true := ⟨RX3, TX3, 3, "TopWheel$Keep", tyX3, rfl, in_X3, by decide, w_fl_X3_10, Or.inl rfl, tyX3_ok, nmX3, rfl, rfl⟩
theorem w_fl_X3_19 : Cond.fieldLink RX3 19 "TopWheel$Keep" "journal" "LTopWheel$Journal;" ∈ wsA := w_in 306 (by decide +kernel) (by decide +kernel)
theorem fl_X3_19 : z_FL RX3 19 3 1 (.object "TopWheel$Journal") true := ⟨RX3, TX3, 3, "TopWheel$Keep", tyX3, rfl, in_X3, by decide, w_fl_X3_19, Or.inl rfl, tyX3_ok, nmX3, rfl, rfl⟩
theorem w_fl_X3_23 : Cond.fieldLink RX3 23 "TopWheel$Keep" "texts" "I" ∈ wsA := w_in 308 (by decide +kernel) (by decide +kernel)
theorem fl_X3_23 : z_FL RX3 23 3 2 .int false := ⟨RX3, TX3, 3, "TopWheel$Keep", tyX3, rfl, in_X3, by decide, w_fl_X3_23, Or.inl rfl, tyX3_ok, nmX3, rfl, rfl⟩
theorem w_co_X10_needCradle : Cond.code yX10_needCradle cX10_needCradle 1 none ∈ wsA := w_in 966 (by decide +kernel) (by decide +kernel)
theorem w_st_X10_needCradle : Cond.static yX10_needCradle ∈ wsA := w_in 965 (by decide +kernel) (by decide +kernel)
theorem w_in_X10 : Cond.initialized RX10 ∈ wsA := w_in 1 (by decide +kernel) (by decide +kernel)
theorem w_ml_X10_174 : Cond.methodLink RX10 174 yX10_needCradle ∈ wsA := w_in 964 (by decide +kernel) (by decide +kernel)
theorem ms_X10_174 : z_YS RX10 174 yX10_needCradle cX10_needCradle 1 none 1 := z_YS.of (List.forall_mem_cons.mpr ⟨w_ml_X10_174, List.forall_mem_cons.mpr ⟨w_st_X10_needCradle, List.forall_mem_cons.mpr ⟨w_in_X10, List.forall_mem_cons.mpr ⟨w_co_X10_needCradle, fun _ h => absurd h List.not_mem_nil⟩⟩⟩⟩) (by decide +kernel)
theorem w_co_X10_needParty : Cond.code yX10_needParty cX10_needParty 1 none ∈ wsA := w_in 979 (by decide +kernel) (by decide +kernel)
theorem w_st_X10_needParty : Cond.static yX10_needParty ∈ wsA := w_in 978 (by decide +kernel) (by decide +kernel)
theorem w_ml_X10_194 : Cond.methodLink RX10 194 yX10_needParty ∈ wsA := w_in 977 (by decide +kernel) (by decide +kernel)
theorem ms_X10_194 : z_YS RX10 194 yX10_needParty cX10_needParty 1 none 1 := z_YS.of (List.forall_mem_cons.mpr ⟨w_ml_X10_194, List.forall_mem_cons.mpr ⟨w_st_X10_needParty, List.forall_mem_cons.mpr ⟨w_in_X10, List.forall_mem_cons.mpr ⟨w_co_X10_needParty, fun _ h => absurd h List.not_mem_nil⟩⟩⟩⟩) (by decide +kernel)
theorem w_ml_X10_231 : Cond.methodLink RX10 231 yJ6_bitCount_0f7a4 ∈ wsA := w_in 462 (by decide +kernel) (by decide +kernel)
theorem ms_X10_231 : z_YS RX10 231 yJ6_bitCount_0f7a4 cJ6_bitCount_0f7a4 1 (some .int) 1 := z_YS.of (List.forall_mem_cons.mpr ⟨w_ml_X10_231, List.forall_mem_cons.mpr ⟨w_st_J6_bitCount_0f7a4, List.forall_mem_cons.mpr ⟨w_in_J6, List.forall_mem_cons.mpr ⟨w_co_J6_bitCount_0f7a4, fun _ h => absurd h List.not_mem_nil⟩⟩⟩⟩) (by decide +kernel)
theorem w_co_X10_needNumber : Cond.code yX10_needNumber cX10_needNumber 3 none ∈ wsA := w_in 1059 (by decide +kernel) (by decide +kernel)
theorem w_st_X10_needNumber : Cond.static yX10_needNumber ∈ wsA := w_in 1058 (by decide +kernel) (by decide +kernel)
theorem w_ml_X10_287 : Cond.methodLink RX10 287 yX10_needNumber ∈ wsA := w_in 1057 (by decide +kernel) (by decide +kernel)
theorem ms_X10_287 : z_YS RX10 287 yX10_needNumber cX10_needNumber 3 none 3 := z_YS.of (List.forall_mem_cons.mpr ⟨w_ml_X10_287, List.forall_mem_cons.mpr ⟨w_st_X10_needNumber, List.forall_mem_cons.mpr ⟨w_in_X10, List.forall_mem_cons.mpr ⟨w_co_X10_needNumber, fun _ h => absurd h List.not_mem_nil⟩⟩⟩⟩) (by decide +kernel)
theorem w_co_X10_leastReach : Cond.code yX10_leastReach cX10_leastReach 4 (some .int) ∈ wsA := w_in 1198 (by decide +kernel) (by decide +kernel)
theorem w_st_X10_leastReach : Cond.static yX10_leastReach ∈ wsA := w_in 1197 (by decide +kernel) (by decide +kernel)
theorem w_ml_X10_385 : Cond.methodLink RX10 385 yX10_leastReach ∈ wsA := w_in 1196 (by decide +kernel) (by decide +kernel)
theorem ms_X10_385 : z_YS RX10 385 yX10_leastReach cX10_leastReach 4 (some .int) 2 := z_YS.of (List.forall_mem_cons.mpr ⟨w_ml_X10_385, List.forall_mem_cons.mpr ⟨w_st_X10_leastReach, List.forall_mem_cons.mpr ⟨w_in_X10, List.forall_mem_cons.mpr ⟨w_co_X10_leastReach, fun _ h => absurd h List.not_mem_nil⟩⟩⟩⟩) (by decide +kernel)
theorem w_co_X10_fittingPairs : Cond.code yX10_fittingPairs cX10_fittingPairs 7 (some .int) ∈ wsA := w_in 1204 (by decide +kernel) (by decide +kernel)
theorem w_st_X10_fittingPairs : Cond.static yX10_fittingPairs ∈ wsA := w_in 1203 (by decide +kernel) (by decide +kernel)
theorem w_ml_X10_388 : Cond.methodLink RX10 388 yX10_fittingPairs ∈ wsA := w_in 1202 (by decide +kernel) (by decide +kernel)
theorem ms_X10_388 : z_YS RX10 388 yX10_fittingPairs cX10_fittingPairs 7 (some .int) 3 := z_YS.of (List.forall_mem_cons.mpr ⟨w_ml_X10_388, List.forall_mem_cons.mpr ⟨w_st_X10_fittingPairs, List.forall_mem_cons.mpr ⟨w_in_X10, List.forall_mem_cons.mpr ⟨w_co_X10_fittingPairs, fun _ h => absurd h List.not_mem_nil⟩⟩⟩⟩) (by decide +kernel)
theorem w_co_X10_canMove : Cond.code yX10_canMove cX10_canMove 4 (some .boolean) ∈ wsA := w_in 1201 (by decide +kernel) (by decide +kernel)
theorem w_st_X10_canMove : Cond.static yX10_canMove ∈ wsA := w_in 1200 (by decide +kernel) (by decide +kernel)
theorem w_ml_X10_398 : Cond.methodLink RX10 398 yX10_canMove ∈ wsA := w_in 1199 (by decide +kernel) (by decide +kernel)
theorem ms_X10_398 : z_YS RX10 398 yX10_canMove cX10_canMove 4 (some .boolean) 4 := z_YS.of (List.forall_mem_cons.mpr ⟨w_ml_X10_398, List.forall_mem_cons.mpr ⟨w_st_X10_canMove, List.forall_mem_cons.mpr ⟨w_in_X10, List.forall_mem_cons.mpr ⟨w_co_X10_canMove, fun _ h => absurd h List.not_mem_nil⟩⟩⟩⟩) (by decide +kernel)
theorem w_ml_X0_33 : Cond.methodLink RX0 33 yJ9_floorMod_7cf53 ∈ wsA := w_in 495 (by decide +kernel) (by decide +kernel)
theorem ms_X0_33 : z_YS RX0 33 yJ9_floorMod_7cf53 cJ9_floorMod_7cf53 3 (some .int) 2 := z_YS.of (List.forall_mem_cons.mpr ⟨w_ml_X0_33, List.forall_mem_cons.mpr ⟨w_st_J9_floorMod_7cf53, List.forall_mem_cons.mpr ⟨w_in_J9, List.forall_mem_cons.mpr ⟨w_co_J9_floorMod_7cf53, fun _ h => absurd h List.not_mem_nil⟩⟩⟩⟩) (by decide +kernel)
theorem w_co_X7_add : Cond.code yX7_add cX7_add 3 none ∈ wsA := w_in 374 (by decide +kernel) (by decide +kernel)
theorem w_im_X7_add : Cond.instanceMethod yX7_add ∈ wsA := w_in 372 (by decide +kernel) (by decide +kernel)
theorem w_se_X7_add : Cond.selects yX7_add.cls yX7_add yX7_add ∈ wsA := w_in 373 (by decide +kernel) (by decide +kernel)
theorem w_in_X7 : Cond.initialized RX7 ∈ wsA := w_in 2 (by decide +kernel) (by decide +kernel)
theorem w_ml_X10_88 : Cond.methodLink RX10 88 yX7_add ∈ wsA := w_in 371 (by decide +kernel) (by decide +kernel)
theorem mv_X10_88 : z_YV RX10 88 yX7_add cX7_add 3 none 6 1 := z_YV.of (T := TX7) (N := 2) (List.forall_mem_cons.mpr ⟨w_ml_X10_88, List.forall_mem_cons.mpr ⟨w_im_X7_add, List.forall_mem_cons.mpr ⟨w_se_X7_add, List.forall_mem_cons.mpr ⟨w_in_X7, List.forall_mem_cons.mpr ⟨w_co_X7_add, fun _ h => absurd h List.not_mem_nil⟩⟩⟩⟩⟩) (by decide +kernel) rfl
theorem w_co_X9_copy : Cond.code yX9_copy cX9_copy 2 none ∈ wsA := w_in 505 (by decide +kernel) (by decide +kernel)
theorem w_im_X9_copy : Cond.instanceMethod yX9_copy ∈ wsA := w_in 503 (by decide +kernel) (by decide +kernel)
theorem w_se_X9_copy : Cond.selects yX9_copy.cls yX9_copy yX9_copy ∈ wsA := w_in 504 (by decide +kernel) (by decide +kernel)
theorem w_ml_X10_92 : Cond.methodLink RX10 92 yX9_copy ∈ wsA := w_in 502 (by decide +kernel) (by decide +kernel)
theorem mv_X10_92 : z_YV RX10 92 yX9_copy cX9_copy 2 none 8 1 := z_YV.of (T := TX9) (N := 20) (List.forall_mem_cons.mpr ⟨w_ml_X10_92, List.forall_mem_cons.mpr ⟨w_im_X9_copy, List.forall_mem_cons.mpr ⟨w_se_X9_copy, List.forall_mem_cons.mpr ⟨w_in_X9, List.forall_mem_cons.mpr ⟨w_co_X9_copy, fun _ h => absurd h List.not_mem_nil⟩⟩⟩⟩⟩) (by decide +kernel) rfl
theorem w_co_X0_forget : Cond.code yX0_forget cX0_forget 1 none ∈ wsA := w_in 538 (by decide +kernel) (by decide +kernel)
theorem w_im_X0_forget : Cond.instanceMethod yX0_forget ∈ wsA := w_in 536 (by decide +kernel) (by decide +kernel)
theorem w_se_X0_forget : Cond.selects yX0_forget.cls yX0_forget yX0_forget ∈ wsA := w_in 537 (by decide +kernel) (by decide +kernel)
theorem w_in_X0 : Cond.initialized RX0 ∈ wsA := w_in 10 (by decide +kernel) (by decide +kernel)
theorem w_ml_X10_109 : Cond.methodLink RX10 109 yX0_forget ∈ wsA := w_in 535 (by decide +kernel) (by decide +kernel)
theorem mv_X10_109 : z_YV RX10 109 yX0_forget cX0_forget 1 none 0 0 := z_YV.of (T := TX0) (N := 3) (List.forall_mem_cons.mpr ⟨w_ml_X10_109, List.forall_mem_cons.mpr ⟨w_im_X0_forget, List.forall_mem_cons.mpr ⟨w_se_X0_forget, List.forall_mem_cons.mpr ⟨w_in_X0, List.forall_mem_cons.mpr ⟨w_co_X0_forget, fun _ h => absurd h List.not_mem_nil⟩⟩⟩⟩⟩) (by decide +kernel) rfl
theorem w_co_X5_clear : Cond.code yX5_clear cX5_clear 1 none ∈ wsA := w_in 876 (by decide +kernel) (by decide +kernel)
theorem w_im_X5_clear : Cond.instanceMethod yX5_clear ∈ wsA := w_in 874 (by decide +kernel) (by decide +kernel)
theorem w_se_X5_clear : Cond.selects yX5_clear.cls yX5_clear yX5_clear ∈ wsA := w_in 875 (by decide +kernel) (by decide +kernel)
theorem w_ml_X10_112 : Cond.methodLink RX10 112 yX5_clear ∈ wsA := w_in 873 (by decide +kernel) (by decide +kernel)
theorem mv_X10_112 : z_YV RX10 112 yX5_clear cX5_clear 1 none 5 0 := z_YV.of (T := TX5) (N := 10) (List.forall_mem_cons.mpr ⟨w_ml_X10_112, List.forall_mem_cons.mpr ⟨w_im_X5_clear, List.forall_mem_cons.mpr ⟨w_se_X5_clear, List.forall_mem_cons.mpr ⟨w_in_X5, List.forall_mem_cons.mpr ⟨w_co_X5_clear, fun _ h => absurd h List.not_mem_nil⟩⟩⟩⟩⟩) (by decide +kernel) rfl
theorem w_co_X10_needRider : Cond.code yX10_needRider cX10_needRider 2 none ∈ wsA := w_in 910 (by decide +kernel) (by decide +kernel)
theorem w_im_X10_needRider : Cond.instanceMethod yX10_needRider ∈ wsA := w_in 909 (by decide +kernel) (by decide +kernel)
theorem w_se_X10_needRider : Cond.selects yX10_needRider.cls yX10_needRider yX10_needRider ∈ wsA := w_pr 23 (by decide +kernel) (by decide +kernel)
theorem w_ml_X10_136 : Cond.methodLink RX10 136 yX10_needRider ∈ wsA := w_in 907 (by decide +kernel) (by decide +kernel)
theorem mv_X10_136 : z_YV RX10 136 yX10_needRider cX10_needRider 2 none 9 1 := z_YV.of (T := TX10) (N := 12) (List.forall_mem_cons.mpr ⟨w_ml_X10_136, List.forall_mem_cons.mpr ⟨w_im_X10_needRider, List.forall_mem_cons.mpr ⟨w_se_X10_needRider, List.forall_mem_cons.mpr ⟨w_in_X10, List.forall_mem_cons.mpr ⟨w_co_X10_needRider, fun _ h => absurd h List.not_mem_nil⟩⟩⟩⟩⟩) (by decide +kernel) rfl
theorem w_ml_X10_155 : Cond.methodLink RX10 155 yX9_owesBy ∈ wsA := w_in 927 (by decide +kernel) (by decide +kernel)
theorem mv_X10_155 : z_YV RX10 155 yX9_owesBy cX9_owesBy 4 (some .int) 8 2 := z_YV.of (T := TX9) (N := 20) (List.forall_mem_cons.mpr ⟨w_ml_X10_155, List.forall_mem_cons.mpr ⟨w_im_X9_owesBy, List.forall_mem_cons.mpr ⟨w_se_X9_owesBy, List.forall_mem_cons.mpr ⟨w_in_X9, List.forall_mem_cons.mpr ⟨w_co_X9_owesBy, fun _ h => absurd h List.not_mem_nil⟩⟩⟩⟩⟩) (by decide +kernel) rfl
theorem w_ml_X10_159 : Cond.methodLink RX10 159 yX9_height ∈ wsA := w_in 932 (by decide +kernel) (by decide +kernel)
theorem mv_X10_159 : z_YV RX10 159 yX9_height cX9_height 2 (some .int) 8 1 := z_YV.of (T := TX9) (N := 20) (List.forall_mem_cons.mpr ⟨w_ml_X10_159, List.forall_mem_cons.mpr ⟨w_im_X9_height, List.forall_mem_cons.mpr ⟨w_se_X9_height, List.forall_mem_cons.mpr ⟨w_in_X9, List.forall_mem_cons.mpr ⟨w_co_X9_height, fun _ h => absurd h List.not_mem_nil⟩⟩⟩⟩⟩) (by decide +kernel) rfl
theorem w_co_X10_levelWith : Cond.code yX10_levelWith cX10_levelWith 6 (some .int) ∈ wsA := w_in 936 (by decide +kernel) (by decide +kernel)
theorem w_im_X10_levelWith : Cond.instanceMethod yX10_levelWith ∈ wsA := w_in 935 (by decide +kernel) (by decide +kernel)
theorem w_se_X10_levelWith : Cond.selects yX10_levelWith.cls yX10_levelWith yX10_levelWith ∈ wsA := w_pr 24 (by decide +kernel) (by decide +kernel)
theorem w_ml_X10_163 : Cond.methodLink RX10 163 yX10_levelWith ∈ wsA := w_in 933 (by decide +kernel) (by decide +kernel)
theorem mv_X10_163 : z_YV RX10 163 yX10_levelWith cX10_levelWith 6 (some .int) 9 1 := z_YV.of (T := TX10) (N := 12) (List.forall_mem_cons.mpr ⟨w_ml_X10_163, List.forall_mem_cons.mpr ⟨w_im_X10_levelWith, List.forall_mem_cons.mpr ⟨w_se_X10_levelWith, List.forall_mem_cons.mpr ⟨w_in_X10, List.forall_mem_cons.mpr ⟨w_co_X10_levelWith, fun _ h => absurd h List.not_mem_nil⟩⟩⟩⟩⟩) (by decide +kernel) rfl
theorem w_ml_X10_166 : Cond.methodLink RX10 166 yX9_queuedAt ∈ wsA := w_in 937 (by decide +kernel) (by decide +kernel)
theorem mv_X10_166 : z_YV RX10 166 yX9_queuedAt cX9_queuedAt 3 (some .int) 8 1 := z_YV.of (T := TX9) (N := 20) (List.forall_mem_cons.mpr ⟨w_ml_X10_166, List.forall_mem_cons.mpr ⟨w_im_X9_queuedAt, List.forall_mem_cons.mpr ⟨w_se_X9_queuedAt, List.forall_mem_cons.mpr ⟨w_in_X9, List.forall_mem_cons.mpr ⟨w_co_X9_queuedAt, fun _ h => absurd h List.not_mem_nil⟩⟩⟩⟩⟩) (by decide +kernel) rfl
theorem w_ml_X10_180 : Cond.methodLink RX10 180 yX9_ridersIn ∈ wsA := w_in 457 (by decide +kernel) (by decide +kernel)
theorem mv_X10_180 : z_YV RX10 180 yX9_ridersIn cX9_ridersIn 4 (some .int) 8 1 := z_YV.of (T := TX9) (N := 20) (List.forall_mem_cons.mpr ⟨w_ml_X10_180, List.forall_mem_cons.mpr ⟨w_im_X9_ridersIn, List.forall_mem_cons.mpr ⟨w_se_X9_ridersIn, List.forall_mem_cons.mpr ⟨w_in_X9, List.forall_mem_cons.mpr ⟨w_co_X9_ridersIn, fun _ h => absurd h List.not_mem_nil⟩⟩⟩⟩⟩) (by decide +kernel) rfl
theorem w_ml_X10_183 : Cond.methodLink RX10 183 yX9_places ∈ wsA := w_in 968 (by decide +kernel) (by decide +kernel)
theorem mv_X10_183 : z_YV RX10 183 yX9_places cX9_places 2 (some .int) 8 1 := z_YV.of (T := TX9) (N := 20) (List.forall_mem_cons.mpr ⟨w_ml_X10_183, List.forall_mem_cons.mpr ⟨w_im_X9_places, List.forall_mem_cons.mpr ⟨w_se_X9_places, List.forall_mem_cons.mpr ⟨w_in_X9, List.forall_mem_cons.mpr ⟨w_co_X9_places, fun _ h => absurd h List.not_mem_nil⟩⟩⟩⟩⟩) (by decide +kernel) rfl
theorem w_co_X10_weightOf : Cond.code yX10_weightOf cX10_weightOf 4 (some .int) ∈ wsA := w_in 574 (by decide +kernel) (by decide +kernel)
theorem w_im_X10_weightOf : Cond.instanceMethod yX10_weightOf ∈ wsA := w_in 573 (by decide +kernel) (by decide +kernel)
theorem w_se_X10_weightOf : Cond.selects yX10_weightOf.cls yX10_weightOf yX10_weightOf ∈ wsA := w_pr 13 (by decide +kernel) (by decide +kernel)
theorem w_ml_X10_186 : Cond.methodLink RX10 186 yX10_weightOf ∈ wsA := w_in 571 (by decide +kernel) (by decide +kernel)
theorem mv_X10_186 : z_YV RX10 186 yX10_weightOf cX10_weightOf 4 (some .int) 9 1 := z_YV.of (T := TX10) (N := 12) (List.forall_mem_cons.mpr ⟨w_ml_X10_186, List.forall_mem_cons.mpr ⟨w_im_X10_weightOf, List.forall_mem_cons.mpr ⟨w_se_X10_weightOf, List.forall_mem_cons.mpr ⟨w_in_X10, List.forall_mem_cons.mpr ⟨w_co_X10_weightOf, fun _ h => absurd h List.not_mem_nil⟩⟩⟩⟩⟩) (by decide +kernel) rfl
theorem w_co_X9_costOf : Cond.code yX9_costOf cX9_costOf 2 (some .int) ∈ wsA := w_in 582 (by decide +kernel) (by decide +kernel)
theorem w_im_X9_costOf : Cond.instanceMethod yX9_costOf ∈ wsA := w_in 580 (by decide +kernel) (by decide +kernel)
theorem w_se_X9_costOf : Cond.selects yX9_costOf.cls yX9_costOf yX9_costOf ∈ wsA := w_in 581 (by decide +kernel) (by decide +kernel)
theorem w_ml_X10_189 : Cond.methodLink RX10 189 yX9_costOf ∈ wsA := w_in 579 (by decide +kernel) (by decide +kernel)
theorem mv_X10_189 : z_YV RX10 189 yX9_costOf cX9_costOf 2 (some .int) 8 1 := z_YV.of (T := TX9) (N := 20) (List.forall_mem_cons.mpr ⟨w_ml_X10_189, List.forall_mem_cons.mpr ⟨w_im_X9_costOf, List.forall_mem_cons.mpr ⟨w_se_X9_costOf, List.forall_mem_cons.mpr ⟨w_in_X9, List.forall_mem_cons.mpr ⟨w_co_X9_costOf, fun _ h => absurd h List.not_mem_nil⟩⟩⟩⟩⟩) (by decide +kernel) rfl
theorem w_co_X10_ridersOf : Cond.code yX10_ridersOf cX10_ridersOf 4 (some .int) ∈ wsA := w_in 461 (by decide +kernel) (by decide +kernel)
theorem w_im_X10_ridersOf : Cond.instanceMethod yX10_ridersOf ∈ wsA := w_in 460 (by decide +kernel) (by decide +kernel)
theorem w_se_X10_ridersOf : Cond.selects yX10_ridersOf.cls yX10_ridersOf yX10_ridersOf ∈ wsA := w_pr 4 (by decide +kernel) (by decide +kernel)
theorem w_ml_X10_200 : Cond.methodLink RX10 200 yX10_ridersOf ∈ wsA := w_in 458 (by decide +kernel) (by decide +kernel)
theorem mv_X10_200 : z_YV RX10 200 yX10_ridersOf cX10_ridersOf 4 (some .int) 9 1 := z_YV.of (T := TX10) (N := 12) (List.forall_mem_cons.mpr ⟨w_ml_X10_200, List.forall_mem_cons.mpr ⟨w_im_X10_ridersOf, List.forall_mem_cons.mpr ⟨w_se_X10_ridersOf, List.forall_mem_cons.mpr ⟨w_in_X10, List.forall_mem_cons.mpr ⟨w_co_X10_ridersOf, fun _ h => absurd h List.not_mem_nil⟩⟩⟩⟩⟩) (by decide +kernel) rfl
theorem w_co_X10_seatedWeight : Cond.code yX10_seatedWeight cX10_seatedWeight 2 (some .int) ∈ wsA := w_in 570 (by decide +kernel) (by decide +kernel)
theorem w_im_X10_seatedWeight : Cond.instanceMethod yX10_seatedWeight ∈ wsA := w_in 569 (by decide +kernel) (by decide +kernel)
theorem w_se_X10_seatedWeight : Cond.selects yX10_seatedWeight.cls yX10_seatedWeight yX10_seatedWeight ∈ wsA := w_pr 12 (by decide +kernel) (by decide +kernel)
theorem w_ml_X10_203 : Cond.methodLink RX10 203 yX10_seatedWeight ∈ wsA := w_in 567 (by decide +kernel) (by decide +kernel)
theorem mv_X10_203 : z_YV RX10 203 yX10_seatedWeight cX10_seatedWeight 2 (some .int) 9 1 := z_YV.of (T := TX10) (N := 12) (List.forall_mem_cons.mpr ⟨w_ml_X10_203, List.forall_mem_cons.mpr ⟨w_im_X10_seatedWeight, List.forall_mem_cons.mpr ⟨w_se_X10_seatedWeight, List.forall_mem_cons.mpr ⟨w_in_X10, List.forall_mem_cons.mpr ⟨w_co_X10_seatedWeight, fun _ h => absurd h List.not_mem_nil⟩⟩⟩⟩⟩) (by decide +kernel) rfl
theorem w_co_X10_powerOf : Cond.code yX10_powerOf cX10_powerOf 4 (some .int) ∈ wsA := w_in 984 (by decide +kernel) (by decide +kernel)
theorem w_im_X10_powerOf : Cond.instanceMethod yX10_powerOf ∈ wsA := w_in 983 (by decide +kernel) (by decide +kernel)
theorem w_se_X10_powerOf : Cond.selects yX10_powerOf.cls yX10_powerOf yX10_powerOf ∈ wsA := w_pr 25 (by decide +kernel) (by decide +kernel)
theorem w_ml_X10_206 : Cond.methodLink RX10 206 yX10_powerOf ∈ wsA := w_in 981 (by decide +kernel) (by decide +kernel)
theorem mv_X10_206 : z_YV RX10 206 yX10_powerOf cX10_powerOf 4 (some .int) 9 1 := z_YV.of (T := TX10) (N := 12) (List.forall_mem_cons.mpr ⟨w_ml_X10_206, List.forall_mem_cons.mpr ⟨w_im_X10_powerOf, List.forall_mem_cons.mpr ⟨w_se_X10_powerOf, List.forall_mem_cons.mpr ⟨w_in_X10, List.forall_mem_cons.mpr ⟨w_co_X10_powerOf, fun _ h => absurd h List.not_mem_nil⟩⟩⟩⟩⟩) (by decide +kernel) rfl
theorem w_ml_X10_214 : Cond.methodLink RX10 214 yX9_firstIn ∈ wsA := w_in 387 (by decide +kernel) (by decide +kernel)
theorem mv_X10_214 : z_YV RX10 214 yX9_firstIn cX9_firstIn 3 (some .int) 8 1 := z_YV.of (T := TX9) (N := 20) (List.forall_mem_cons.mpr ⟨w_ml_X10_214, List.forall_mem_cons.mpr ⟨w_im_X9_firstIn, List.forall_mem_cons.mpr ⟨w_se_X9_firstIn, List.forall_mem_cons.mpr ⟨w_in_X9, List.forall_mem_cons.mpr ⟨w_co_X9_firstIn, fun _ h => absurd h List.not_mem_nil⟩⟩⟩⟩⟩) (by decide +kernel) rfl
theorem w_ml_X10_217 : Cond.methodLink RX10 217 yX9_goesFarther ∈ wsA := w_in 395 (by decide +kernel) (by decide +kernel)
theorem mv_X10_217 : z_YV RX10 217 yX9_goesFarther cX9_goesFarther 2 (some .int) 8 0 := z_YV.of (T := TX9) (N := 20) (List.forall_mem_cons.mpr ⟨w_ml_X10_217, List.forall_mem_cons.mpr ⟨w_im_X9_goesFarther, List.forall_mem_cons.mpr ⟨w_se_X9_goesFarther, List.forall_mem_cons.mpr ⟨w_in_X9, List.forall_mem_cons.mpr ⟨w_co_X9_goesFarther, fun _ h => absurd h List.not_mem_nil⟩⟩⟩⟩⟩) (by decide +kernel) rfl
theorem w_co_X10_richestOf : Cond.code yX10_richestOf cX10_richestOf 5 (some .int) ∈ wsA := w_in 438 (by decide +kernel) (by decide +kernel)
theorem w_im_X10_richestOf : Cond.instanceMethod yX10_richestOf ∈ wsA := w_in 437 (by decide +kernel) (by decide +kernel)
theorem w_se_X10_richestOf : Cond.selects yX10_richestOf.cls yX10_richestOf yX10_richestOf ∈ wsA := w_pr 3 (by decide +kernel) (by decide +kernel)
theorem w_ml_X10_224 : Cond.methodLink RX10 224 yX10_richestOf ∈ wsA := w_in 435 (by decide +kernel) (by decide +kernel)
theorem mv_X10_224 : z_YV RX10 224 yX10_richestOf cX10_richestOf 5 (some .int) 9 1 := z_YV.of (T := TX10) (N := 12) (List.forall_mem_cons.mpr ⟨w_ml_X10_224, List.forall_mem_cons.mpr ⟨w_im_X10_richestOf, List.forall_mem_cons.mpr ⟨w_se_X10_richestOf, List.forall_mem_cons.mpr ⟨w_in_X10, List.forall_mem_cons.mpr ⟨w_co_X10_richestOf, fun _ h => absurd h List.not_mem_nil⟩⟩⟩⟩⟩) (by decide +kernel) rfl
theorem w_ml_X10_227 : Cond.methodLink RX10 227 yX9_isOpen ∈ wsA := w_in 443 (by decide +kernel) (by decide +kernel)
theorem mv_X10_227 : z_YV RX10 227 yX9_isOpen cX9_isOpen 2 (some .boolean) 8 1 := z_YV.of (T := TX9) (N := 20) (List.forall_mem_cons.mpr ⟨w_ml_X10_227, List.forall_mem_cons.mpr ⟨w_im_X9_isOpen, List.forall_mem_cons.mpr ⟨w_se_X9_isOpen, List.forall_mem_cons.mpr ⟨w_in_X9, List.forall_mem_cons.mpr ⟨w_co_X9_isOpen, fun _ h => absurd h List.not_mem_nil⟩⟩⟩⟩⟩) (by decide +kernel) rfl
theorem w_co_X10_closedCradles : Cond.code yX10_closedCradles cX10_closedCradles 3 (some .int) ∈ wsA := w_in 474 (by decide +kernel) (by decide +kernel)
theorem w_im_X10_closedCradles : Cond.instanceMethod yX10_closedCradles ∈ wsA := w_in 473 (by decide +kernel) (by decide +kernel)
theorem w_se_X10_closedCradles : Cond.selects yX10_closedCradles.cls yX10_closedCradles yX10_closedCradles ∈ wsA := w_pr 5 (by decide +kernel) (by decide +kernel)
theorem w_ml_X10_251 : Cond.methodLink RX10 251 yX10_closedCradles ∈ wsA := w_in 471 (by decide +kernel) (by decide +kernel)
theorem mv_X10_251 : z_YV RX10 251 yX10_closedCradles cX10_closedCradles 3 (some .int) 9 0 := z_YV.of (T := TX10) (N := 12) (List.forall_mem_cons.mpr ⟨w_ml_X10_251, List.forall_mem_cons.mpr ⟨w_im_X10_closedCradles, List.forall_mem_cons.mpr ⟨w_se_X10_closedCradles, List.forall_mem_cons.mpr ⟨w_in_X10, List.forall_mem_cons.mpr ⟨w_co_X10_closedCradles, fun _ h => absurd h List.not_mem_nil⟩⟩⟩⟩⟩) (by decide +kernel) rfl
theorem w_co_X10_allPurses : Cond.code yX10_allPurses cX10_allPurses 3 (some .int) ∈ wsA := w_in 478 (by decide +kernel) (by decide +kernel)
theorem w_im_X10_allPurses : Cond.instanceMethod yX10_allPurses ∈ wsA := w_in 477 (by decide +kernel) (by decide +kernel)
theorem w_se_X10_allPurses : Cond.selects yX10_allPurses.cls yX10_allPurses yX10_allPurses ∈ wsA := w_pr 6 (by decide +kernel) (by decide +kernel)
theorem w_ml_X10_254 : Cond.methodLink RX10 254 yX10_allPurses ∈ wsA := w_in 475 (by decide +kernel) (by decide +kernel)
theorem mv_X10_254 : z_YV RX10 254 yX10_allPurses cX10_allPurses 3 (some .int) 9 0 := z_YV.of (T := TX10) (N := 12) (List.forall_mem_cons.mpr ⟨w_ml_X10_254, List.forall_mem_cons.mpr ⟨w_im_X10_allPurses, List.forall_mem_cons.mpr ⟨w_se_X10_allPurses, List.forall_mem_cons.mpr ⟨w_in_X10, List.forall_mem_cons.mpr ⟨w_co_X10_allPurses, fun _ h => absurd h List.not_mem_nil⟩⟩⟩⟩⟩) (by decide +kernel) rfl
theorem w_co_X10_allBolts : Cond.code yX10_allBolts cX10_allBolts 3 (some .int) ∈ wsA := w_in 482 (by decide +kernel) (by decide +kernel)
theorem w_im_X10_allBolts : Cond.instanceMethod yX10_allBolts ∈ wsA := w_in 481 (by decide +kernel) (by decide +kernel)
theorem w_se_X10_allBolts : Cond.selects yX10_allBolts.cls yX10_allBolts yX10_allBolts ∈ wsA := w_pr 7 (by decide +kernel) (by decide +kernel)
theorem w_ml_X10_257 : Cond.methodLink RX10 257 yX10_allBolts ∈ wsA := w_in 479 (by decide +kernel) (by decide +kernel)
theorem mv_X10_257 : z_YV RX10 257 yX10_allBolts cX10_allBolts 3 (some .int) 9 0 := z_YV.of (T := TX10) (N := 12) (List.forall_mem_cons.mpr ⟨w_ml_X10_257, List.forall_mem_cons.mpr ⟨w_im_X10_allBolts, List.forall_mem_cons.mpr ⟨w_se_X10_allBolts, List.forall_mem_cons.mpr ⟨w_in_X10, List.forall_mem_cons.mpr ⟨w_co_X10_allBolts, fun _ h => absurd h List.not_mem_nil⟩⟩⟩⟩⟩) (by decide +kernel) rfl
theorem w_co_X10_rememberAct : Cond.code yX10_rememberAct cX10_rememberAct 1 none ∈ wsA := w_in 1013 (by decide +kernel) (by decide +kernel)
theorem w_im_X10_rememberAct : Cond.instanceMethod yX10_rememberAct ∈ wsA := w_in 1012 (by decide +kernel) (by decide +kernel)
theorem w_se_X10_rememberAct : Cond.selects yX10_rememberAct.cls yX10_rememberAct yX10_rememberAct ∈ wsA := w_pr 26 (by decide +kernel) (by decide +kernel)
theorem w_ml_X10_271 : Cond.methodLink RX10 271 yX10_rememberAct ∈ wsA := w_in 1010 (by decide +kernel) (by decide +kernel)
theorem mv_X10_271 : z_YV RX10 271 yX10_rememberAct cX10_rememberAct 1 none 9 0 := z_YV.of (T := TX10) (N := 12) (List.forall_mem_cons.mpr ⟨w_ml_X10_271, List.forall_mem_cons.mpr ⟨w_im_X10_rememberAct, List.forall_mem_cons.mpr ⟨w_se_X10_rememberAct, List.forall_mem_cons.mpr ⟨w_in_X10, List.forall_mem_cons.mpr ⟨w_co_X10_rememberAct, fun _ h => absurd h List.not_mem_nil⟩⟩⟩⟩⟩) (by decide +kernel) rfl
theorem w_ml_X10_274 : Cond.methodLink RX10 274 yX9_getIn ∈ wsA := w_in 1020 (by decide +kernel) (by decide +kernel)
theorem mv_X10_274 : z_YV RX10 274 yX9_getIn cX9_getIn 5 none 8 2 := z_YV.of (T := TX9) (N := 20) (List.forall_mem_cons.mpr ⟨w_ml_X10_274, List.forall_mem_cons.mpr ⟨w_im_X9_getIn, List.forall_mem_cons.mpr ⟨w_se_X9_getIn, List.forall_mem_cons.mpr ⟨w_in_X9, List.forall_mem_cons.mpr ⟨w_co_X9_getIn, fun _ h => absurd h List.not_mem_nil⟩⟩⟩⟩⟩) (by decide +kernel) rfl
theorem w_ml_X10_282 : Cond.methodLink RX10 282 yX9_getOff ∈ wsA := w_in 1041 (by decide +kernel) (by decide +kernel)
theorem mv_X10_282 : z_YV RX10 282 yX9_getOff cX9_getOff 2 none 8 1 := z_YV.of (T := TX9) (N := 20) (List.forall_mem_cons.mpr ⟨w_ml_X10_282, List.forall_mem_cons.mpr ⟨w_im_X9_getOff, List.forall_mem_cons.mpr ⟨w_se_X9_getOff, List.forall_mem_cons.mpr ⟨w_in_X9, List.forall_mem_cons.mpr ⟨w_co_X9_getOff, fun _ h => absurd h List.not_mem_nil⟩⟩⟩⟩⟩) (by decide +kernel) rfl
theorem w_ml_X10_298 : Cond.methodLink RX10 298 yX9_draw ∈ wsA := w_in 1084 (by decide +kernel) (by decide +kernel)
theorem mv_X10_298 : z_YV RX10 298 yX9_draw cX9_draw 1 (some .int) 8 0 := z_YV.of (T := TX9) (N := 20) (List.forall_mem_cons.mpr ⟨w_ml_X10_298, List.forall_mem_cons.mpr ⟨w_im_X9_draw, List.forall_mem_cons.mpr ⟨w_se_X9_draw, List.forall_mem_cons.mpr ⟨w_in_X9, List.forall_mem_cons.mpr ⟨w_co_X9_draw, fun _ h => absurd h List.not_mem_nil⟩⟩⟩⟩⟩) (by decide +kernel) rfl
theorem w_co_X9_halt : Cond.code yX9_halt cX9_halt 5 none ∈ wsA := w_in 1092 (by decide +kernel) (by decide +kernel)
theorem w_im_X9_halt : Cond.instanceMethod yX9_halt ∈ wsA := w_in 1090 (by decide +kernel) (by decide +kernel)
theorem w_se_X9_halt : Cond.selects yX9_halt.cls yX9_halt yX9_halt ∈ wsA := w_in 1091 (by decide +kernel) (by decide +kernel)
theorem w_ml_X10_301 : Cond.methodLink RX10 301 yX9_halt ∈ wsA := w_in 1089 (by decide +kernel) (by decide +kernel)
theorem mv_X10_301 : z_YV RX10 301 yX9_halt cX9_halt 5 none 8 2 := z_YV.of (T := TX9) (N := 20) (List.forall_mem_cons.mpr ⟨w_ml_X10_301, List.forall_mem_cons.mpr ⟨w_im_X9_halt, List.forall_mem_cons.mpr ⟨w_se_X9_halt, List.forall_mem_cons.mpr ⟨w_in_X9, List.forall_mem_cons.mpr ⟨w_co_X9_halt, fun _ h => absurd h List.not_mem_nil⟩⟩⟩⟩⟩) (by decide +kernel) rfl
theorem w_co_X2_add : Cond.code yX2_add cX2_add 6 none ∈ wsA := w_in 1118 (by decide +kernel) (by decide +kernel)
theorem w_im_X2_add : Cond.instanceMethod yX2_add ∈ wsA := w_in 1116 (by decide +kernel) (by decide +kernel)
theorem w_se_X2_add : Cond.selects yX2_add.cls yX2_add yX2_add ∈ wsA := w_in 1117 (by decide +kernel) (by decide +kernel)
theorem w_in_X2 : Cond.initialized RX2 ∈ wsA := w_in 9 (by decide +kernel) (by decide +kernel)
theorem w_ml_X10_311 : Cond.methodLink RX10 311 yX2_add ∈ wsA := w_in 1115 (by decide +kernel) (by decide +kernel)
theorem mv_X10_311 : z_YV RX10 311 yX2_add cX2_add 6 none 2 4 := z_YV.of (T := TX2) (N := 3) (List.forall_mem_cons.mpr ⟨w_ml_X10_311, List.forall_mem_cons.mpr ⟨w_im_X2_add, List.forall_mem_cons.mpr ⟨w_se_X2_add, List.forall_mem_cons.mpr ⟨w_in_X2, List.forall_mem_cons.mpr ⟨w_co_X2_add, fun _ h => absurd h List.not_mem_nil⟩⟩⟩⟩⟩) (by decide +kernel) rfl
theorem w_co_X10_goTo : Cond.code yX10_goTo cX10_goTo 2 none ∈ wsA := w_in 501 (by decide +kernel) (by decide +kernel)
theorem w_im_X10_goTo : Cond.instanceMethod yX10_goTo ∈ wsA := w_in 500 (by decide +kernel) (by decide +kernel)
theorem w_se_X10_goTo : Cond.selects yX10_goTo.cls yX10_goTo yX10_goTo ∈ wsA := w_pr 8 (by decide +kernel) (by decide +kernel)
theorem w_ml_X10_321 : Cond.methodLink RX10 321 yX10_goTo ∈ wsA := w_in 498 (by decide +kernel) (by decide +kernel)
theorem mv_X10_321 : z_YV RX10 321 yX10_goTo cX10_goTo 2 none 9 1 := z_YV.of (T := TX10) (N := 12) (List.forall_mem_cons.mpr ⟨w_ml_X10_321, List.forall_mem_cons.mpr ⟨w_im_X10_goTo, List.forall_mem_cons.mpr ⟨w_se_X10_goTo, List.forall_mem_cons.mpr ⟨w_in_X10, List.forall_mem_cons.mpr ⟨w_co_X10_goTo, fun _ h => absurd h List.not_mem_nil⟩⟩⟩⟩⟩) (by decide +kernel) rfl
theorem w_co_X3_hold : Cond.code yX3_hold cX3_hold 4 none ∈ wsA := w_in 528 (by decide +kernel) (by decide +kernel)
theorem w_im_X3_hold : Cond.instanceMethod yX3_hold ∈ wsA := w_in 526 (by decide +kernel) (by decide +kernel)
theorem w_se_X3_hold : Cond.selects yX3_hold.cls yX3_hold yX3_hold ∈ wsA := w_in 527 (by decide +kernel) (by decide +kernel)
theorem w_in_X3 : Cond.initialized RX3 ∈ wsA := w_in 11 (by decide +kernel) (by decide +kernel)
theorem w_ml_X10_328 : Cond.methodLink RX10 328 yX3_hold ∈ wsA := w_in 525 (by decide +kernel) (by decide +kernel)
theorem mv_X10_328 : z_YV RX10 328 yX3_hold cX3_hold 4 none 3 3 := z_YV.of (T := TX3) (N := 3) (List.forall_mem_cons.mpr ⟨w_ml_X10_328, List.forall_mem_cons.mpr ⟨w_im_X3_hold, List.forall_mem_cons.mpr ⟨w_se_X3_hold, List.forall_mem_cons.mpr ⟨w_in_X3, List.forall_mem_cons.mpr ⟨w_co_X3_hold, fun _ h => absurd h List.not_mem_nil⟩⟩⟩⟩⟩) (by decide +kernel) rfl
theorem w_co_X0_remember : Cond.code yX0_remember cX0_remember 5 none ∈ wsA := w_in 1017 (by decide +kernel) (by decide +kernel)
theorem w_im_X0_remember : Cond.instanceMethod yX0_remember ∈ wsA := w_in 1015 (by decide +kernel) (by decide +kernel)
theorem w_se_X0_remember : Cond.selects yX0_remember.cls yX0_remember yX0_remember ∈ wsA := w_in 1016 (by decide +kernel) (by decide +kernel)
theorem w_ml_X10_332 : Cond.methodLink RX10 332 yX0_remember ∈ wsA := w_in 1014 (by decide +kernel) (by decide +kernel)
theorem mv_X10_332 : z_YV RX10 332 yX0_remember cX0_remember 5 none 0 3 := z_YV.of (T := TX0) (N := 3) (List.forall_mem_cons.mpr ⟨w_ml_X10_332, List.forall_mem_cons.mpr ⟨w_im_X0_remember, List.forall_mem_cons.mpr ⟨w_se_X0_remember, List.forall_mem_cons.mpr ⟨w_in_X0, List.forall_mem_cons.mpr ⟨w_co_X0_remember, fun _ h => absurd h List.not_mem_nil⟩⟩⟩⟩⟩) (by decide +kernel) rfl
theorem w_co_X2_copy : Cond.code yX2_copy cX2_copy 2 none ∈ wsA := w_in 512 (by decide +kernel) (by decide +kernel)
theorem w_im_X2_copy : Cond.instanceMethod yX2_copy ∈ wsA := w_in 510 (by decide +kernel) (by decide +kernel)
theorem w_se_X2_copy : Cond.selects yX2_copy.cls yX2_copy yX2_copy ∈ wsA := w_in 511 (by decide +kernel) (by decide +kernel)
theorem w_ml_X10_337 : Cond.methodLink RX10 337 yX2_copy ∈ wsA := w_in 509 (by decide +kernel) (by decide +kernel)
theorem mv_X10_337 : z_YV RX10 337 yX2_copy cX2_copy 2 none 2 1 := z_YV.of (T := TX2) (N := 3) (List.forall_mem_cons.mpr ⟨w_ml_X10_337, List.forall_mem_cons.mpr ⟨w_im_X2_copy, List.forall_mem_cons.mpr ⟨w_se_X2_copy, List.forall_mem_cons.mpr ⟨w_in_X2, List.forall_mem_cons.mpr ⟨w_co_X2_copy, fun _ h => absurd h List.not_mem_nil⟩⟩⟩⟩⟩) (by decide +kernel) rfl
theorem w_co_X2_told : Cond.code yX2_told cX2_told 3 (some .int) ∈ wsA := w_in 1310 (by decide +kernel) (by decide +kernel)
theorem w_im_X2_told : Cond.instanceMethod yX2_told ∈ wsA := w_in 1308 (by decide +kernel) (by decide +kernel)
theorem w_se_X2_told : Cond.selects yX2_told.cls yX2_told yX2_told ∈ wsA := w_in 1309 (by decide +kernel) (by decide +kernel)
theorem w_ml_X10_341 : Cond.methodLink RX10 341 yX2_told ∈ wsA := w_in 1307 (by decide +kernel) (by decide +kernel)
theorem mv_X10_341 : z_YV RX10 341 yX2_told cX2_told 3 (some .int) 2 2 := z_YV.of (T := TX2) (N := 3) (List.forall_mem_cons.mpr ⟨w_ml_X10_341, List.forall_mem_cons.mpr ⟨w_im_X2_told, List.forall_mem_cons.mpr ⟨w_se_X2_told, List.forall_mem_cons.mpr ⟨w_in_X2, List.forall_mem_cons.mpr ⟨w_co_X2_told, fun _ h => absurd h List.not_mem_nil⟩⟩⟩⟩⟩) (by decide +kernel) rfl
theorem w_co_X10_leanWithout : Cond.code yX10_leanWithout cX10_leanWithout 4 (some .int) ∈ wsA := w_in 546 (by decide +kernel) (by decide +kernel)
theorem w_im_X10_leanWithout : Cond.instanceMethod yX10_leanWithout ∈ wsA := w_in 545 (by decide +kernel) (by decide +kernel)
theorem w_se_X10_leanWithout : Cond.selects yX10_leanWithout.cls yX10_leanWithout yX10_leanWithout ∈ wsA := w_pr 9 (by decide +kernel) (by decide +kernel)
theorem w_ml_X10_350 : Cond.methodLink RX10 350 yX10_leanWithout ∈ wsA := w_in 543 (by decide +kernel) (by decide +kernel)
theorem mv_X10_350 : z_YV RX10 350 yX10_leanWithout cX10_leanWithout 4 (some .int) 9 1 := z_YV.of (T := TX10) (N := 12) (List.forall_mem_cons.mpr ⟨w_ml_X10_350, List.forall_mem_cons.mpr ⟨w_im_X10_leanWithout, List.forall_mem_cons.mpr ⟨w_se_X10_leanWithout, List.forall_mem_cons.mpr ⟨w_in_X10, List.forall_mem_cons.mpr ⟨w_co_X10_leanWithout, fun _ h => absurd h List.not_mem_nil⟩⟩⟩⟩⟩) (by decide +kernel) rfl
theorem w_co_X9_lever : Cond.code yX9_lever cX9_lever 3 (some .int) ∈ wsA := w_in 550 (by decide +kernel) (by decide +kernel)
theorem w_im_X9_lever : Cond.instanceMethod yX9_lever ∈ wsA := w_in 548 (by decide +kernel) (by decide +kernel)
theorem w_se_X9_lever : Cond.selects yX9_lever.cls yX9_lever yX9_lever ∈ wsA := w_in 549 (by decide +kernel) (by decide +kernel)
theorem w_ml_X10_353 : Cond.methodLink RX10 353 yX9_lever ∈ wsA := w_in 547 (by decide +kernel) (by decide +kernel)
theorem mv_X10_353 : z_YV RX10 353 yX9_lever cX9_lever 3 (some .int) 8 1 := z_YV.of (T := TX9) (N := 20) (List.forall_mem_cons.mpr ⟨w_ml_X10_353, List.forall_mem_cons.mpr ⟨w_im_X9_lever, List.forall_mem_cons.mpr ⟨w_se_X9_lever, List.forall_mem_cons.mpr ⟨w_in_X9, List.forall_mem_cons.mpr ⟨w_co_X9_lever, fun _ h => absurd h List.not_mem_nil⟩⟩⟩⟩⟩) (by decide +kernel) rfl
theorem w_co_X10_seatedRiders : Cond.code yX10_seatedRiders cX10_seatedRiders 3 (some .int) ∈ wsA := w_in 558 (by decide +kernel) (by decide +kernel)
theorem w_im_X10_seatedRiders : Cond.instanceMethod yX10_seatedRiders ∈ wsA := w_in 557 (by decide +kernel) (by decide +kernel)
theorem w_se_X10_seatedRiders : Cond.selects yX10_seatedRiders.cls yX10_seatedRiders yX10_seatedRiders ∈ wsA := w_pr 10 (by decide +kernel) (by decide +kernel)
theorem w_ml_X10_359 : Cond.methodLink RX10 359 yX10_seatedRiders ∈ wsA := w_in 555 (by decide +kernel) (by decide +kernel)
theorem mv_X10_359 : z_YV RX10 359 yX10_seatedRiders cX10_seatedRiders 3 (some .int) 9 0 := z_YV.of (T := TX10) (N := 12) (List.forall_mem_cons.mpr ⟨w_ml_X10_359, List.forall_mem_cons.mpr ⟨w_im_X10_seatedRiders, List.forall_mem_cons.mpr ⟨w_se_X10_seatedRiders, List.forall_mem_cons.mpr ⟨w_in_X10, List.forall_mem_cons.mpr ⟨w_co_X10_seatedRiders, fun _ h => absurd h List.not_mem_nil⟩⟩⟩⟩⟩) (by decide +kernel) rfl
theorem w_co_X10_isMajority : Cond.code yX10_isMajority cX10_isMajority 2 (some .boolean) ∈ wsA := w_in 566 (by decide +kernel) (by decide +kernel)
theorem w_im_X10_isMajority : Cond.instanceMethod yX10_isMajority ∈ wsA := w_in 565 (by decide +kernel) (by decide +kernel)
theorem w_se_X10_isMajority : Cond.selects yX10_isMajority.cls yX10_isMajority yX10_isMajority ∈ wsA := w_pr 11 (by decide +kernel) (by decide +kernel)
theorem w_ml_X10_362 : Cond.methodLink RX10 362 yX10_isMajority ∈ wsA := w_in 563 (by decide +kernel) (by decide +kernel)
theorem mv_X10_362 : z_YV RX10 362 yX10_isMajority cX10_isMajority 2 (some .boolean) 9 1 := z_YV.of (T := TX10) (N := 12) (List.forall_mem_cons.mpr ⟨w_ml_X10_362, List.forall_mem_cons.mpr ⟨w_im_X10_isMajority, List.forall_mem_cons.mpr ⟨w_se_X10_isMajority, List.forall_mem_cons.mpr ⟨w_in_X10, List.forall_mem_cons.mpr ⟨w_co_X10_isMajority, fun _ h => absurd h List.not_mem_nil⟩⟩⟩⟩⟩) (by decide +kernel) rfl
theorem w_co_X10_priceBy : Cond.code yX10_priceBy cX10_priceBy 2 (some .int) ∈ wsA := w_in 1164 (by decide +kernel) (by decide +kernel)
theorem w_im_X10_priceBy : Cond.instanceMethod yX10_priceBy ∈ wsA := w_in 1163 (by decide +kernel) (by decide +kernel)
theorem w_se_X10_priceBy : Cond.selects yX10_priceBy.cls yX10_priceBy yX10_priceBy ∈ wsA := w_pr 32 (by decide +kernel) (by decide +kernel)
theorem w_ml_X10_367 : Cond.methodLink RX10 367 yX10_priceBy ∈ wsA := w_in 1161 (by decide +kernel) (by decide +kernel)
theorem mv_X10_367 : z_YV RX10 367 yX10_priceBy cX10_priceBy 2 (some .int) 9 1 := z_YV.of (T := TX10) (N := 12) (List.forall_mem_cons.mpr ⟨w_ml_X10_367, List.forall_mem_cons.mpr ⟨w_im_X10_priceBy, List.forall_mem_cons.mpr ⟨w_se_X10_priceBy, List.forall_mem_cons.mpr ⟨w_in_X10, List.forall_mem_cons.mpr ⟨w_co_X10_priceBy, fun _ h => absurd h List.not_mem_nil⟩⟩⟩⟩⟩) (by decide +kernel) rfl
theorem w_co_X10_purseOf : Cond.code yX10_purseOf cX10_purseOf 5 (some .int) ∈ wsA := w_in 1169 (by decide +kernel) (by decide +kernel)
theorem w_im_X10_purseOf : Cond.instanceMethod yX10_purseOf ∈ wsA := w_in 1168 (by decide +kernel) (by decide +kernel)
theorem w_se_X10_purseOf : Cond.selects yX10_purseOf.cls yX10_purseOf yX10_purseOf ∈ wsA := w_pr 33 (by decide +kernel) (by decide +kernel)
theorem w_ml_X10_370 : Cond.methodLink RX10 370 yX10_purseOf ∈ wsA := w_in 1166 (by decide +kernel) (by decide +kernel)
theorem mv_X10_370 : z_YV RX10 370 yX10_purseOf cX10_purseOf 5 (some .int) 9 2 := z_YV.of (T := TX10) (N := 12) (List.forall_mem_cons.mpr ⟨w_ml_X10_370, List.forall_mem_cons.mpr ⟨w_im_X10_purseOf, List.forall_mem_cons.mpr ⟨w_se_X10_purseOf, List.forall_mem_cons.mpr ⟨w_in_X10, List.forall_mem_cons.mpr ⟨w_co_X10_purseOf, fun _ h => absurd h List.not_mem_nil⟩⟩⟩⟩⟩) (by decide +kernel) rfl
theorem w_co_X10_needMoves : Cond.code yX10_needMoves cX10_needMoves 3 none ∈ wsA := w_in 1180 (by decide +kernel) (by decide +kernel)
theorem w_im_X10_needMoves : Cond.instanceMethod yX10_needMoves ∈ wsA := w_in 1179 (by decide +kernel) (by decide +kernel)
theorem w_se_X10_needMoves : Cond.selects yX10_needMoves.cls yX10_needMoves yX10_needMoves ∈ wsA := w_pr 34 (by decide +kernel) (by decide +kernel)
theorem w_ml_X10_376 : Cond.methodLink RX10 376 yX10_needMoves ∈ wsA := w_in 1177 (by decide +kernel) (by decide +kernel)
theorem mv_X10_376 : z_YV RX10 376 yX10_needMoves cX10_needMoves 3 none 9 0 := z_YV.of (T := TX10) (N := 12) (List.forall_mem_cons.mpr ⟨w_ml_X10_376, List.forall_mem_cons.mpr ⟨w_im_X10_needMoves, List.forall_mem_cons.mpr ⟨w_se_X10_needMoves, List.forall_mem_cons.mpr ⟨w_in_X10, List.forall_mem_cons.mpr ⟨w_co_X10_needMoves, fun _ h => absurd h List.not_mem_nil⟩⟩⟩⟩⟩) (by decide +kernel) rfl
theorem w_co_X7_least : Cond.code yX7_least cX7_least 4 (some .int) ∈ wsA := w_in 1189 (by decide +kernel) (by decide +kernel)
theorem w_im_X7_least : Cond.instanceMethod yX7_least ∈ wsA := w_in 1187 (by decide +kernel) (by decide +kernel)
theorem w_se_X7_least : Cond.selects yX7_least.cls yX7_least yX7_least ∈ wsA := w_in 1188 (by decide +kernel) (by decide +kernel)
theorem w_ml_X10_379 : Cond.methodLink RX10 379 yX7_least ∈ wsA := w_in 1186 (by decide +kernel) (by decide +kernel)
theorem mv_X10_379 : z_YV RX10 379 yX7_least cX7_least 4 (some .int) 6 1 := z_YV.of (T := TX7) (N := 2) (List.forall_mem_cons.mpr ⟨w_ml_X10_379, List.forall_mem_cons.mpr ⟨w_im_X7_least, List.forall_mem_cons.mpr ⟨w_se_X7_least, List.forall_mem_cons.mpr ⟨w_in_X7, List.forall_mem_cons.mpr ⟨w_co_X7_least, fun _ h => absurd h List.not_mem_nil⟩⟩⟩⟩⟩) (by decide +kernel) rfl
theorem w_co_X7_greatest : Cond.code yX7_greatest cX7_greatest 3 (some .int) ∈ wsA := w_in 1194 (by decide +kernel) (by decide +kernel)
theorem w_im_X7_greatest : Cond.instanceMethod yX7_greatest ∈ wsA := w_in 1192 (by decide +kernel) (by decide +kernel)
theorem w_se_X7_greatest : Cond.selects yX7_greatest.cls yX7_greatest yX7_greatest ∈ wsA := w_in 1193 (by decide +kernel) (by decide +kernel)
theorem w_ml_X10_382 : Cond.methodLink RX10 382 yX7_greatest ∈ wsA := w_in 1191 (by decide +kernel) (by decide +kernel)
theorem mv_X10_382 : z_YV RX10 382 yX7_greatest cX7_greatest 3 (some .int) 6 0 := z_YV.of (T := TX7) (N := 2) (List.forall_mem_cons.mpr ⟨w_ml_X10_382, List.forall_mem_cons.mpr ⟨w_im_X7_greatest, List.forall_mem_cons.mpr ⟨w_se_X7_greatest, List.forall_mem_cons.mpr ⟨w_in_X7, List.forall_mem_cons.mpr ⟨w_co_X7_greatest, fun _ h => absurd h List.not_mem_nil⟩⟩⟩⟩⟩) (by decide +kernel) rfl
theorem w_co_X10_needFires : Cond.code yX10_needFires cX10_needFires 4 none ∈ wsA := w_in 1222 (by decide +kernel) (by decide +kernel)
theorem w_im_X10_needFires : Cond.instanceMethod yX10_needFires ∈ wsA := w_in 1221 (by decide +kernel) (by decide +kernel)
theorem w_se_X10_needFires : Cond.selects yX10_needFires.cls yX10_needFires yX10_needFires ∈ wsA := w_pr 36 (by decide +kernel) (by decide +kernel)
theorem w_ml_X10_392 : Cond.methodLink RX10 392 yX10_needFires ∈ wsA := w_in 1219 (by decide +kernel) (by decide +kernel)
theorem mv_X10_392 : z_YV RX10 392 yX10_needFires cX10_needFires 4 none 9 0 := z_YV.of (T := TX10) (N := 12) (List.forall_mem_cons.mpr ⟨w_ml_X10_392, List.forall_mem_cons.mpr ⟨w_im_X10_needFires, List.forall_mem_cons.mpr ⟨w_se_X10_needFires, List.forall_mem_cons.mpr ⟨w_in_X10, List.forall_mem_cons.mpr ⟨w_co_X10_needFires, fun _ h => absurd h List.not_mem_nil⟩⟩⟩⟩⟩) (by decide +kernel) rfl
theorem w_co_X7_fireHeights : Cond.code yX7_fireHeights cX7_fireHeights 6 (some .int) ∈ wsA := w_in 1226 (by decide +kernel) (by decide +kernel)
theorem w_im_X7_fireHeights : Cond.instanceMethod yX7_fireHeights ∈ wsA := w_in 1224 (by decide +kernel) (by decide +kernel)
theorem w_se_X7_fireHeights : Cond.selects yX7_fireHeights.cls yX7_fireHeights yX7_fireHeights ∈ wsA := w_in 1225 (by decide +kernel) (by decide +kernel)
theorem w_ml_X10_395 : Cond.methodLink RX10 395 yX7_fireHeights ∈ wsA := w_in 1223 (by decide +kernel) (by decide +kernel)
theorem mv_X10_395 : z_YV RX10 395 yX7_fireHeights cX7_fireHeights 6 (some .int) 6 0 := z_YV.of (T := TX7) (N := 2) (List.forall_mem_cons.mpr ⟨w_ml_X10_395, List.forall_mem_cons.mpr ⟨w_im_X7_fireHeights, List.forall_mem_cons.mpr ⟨w_se_X7_fireHeights, List.forall_mem_cons.mpr ⟨w_in_X7, List.forall_mem_cons.mpr ⟨w_co_X7_fireHeights, fun _ h => absurd h List.not_mem_nil⟩⟩⟩⟩⟩) (by decide +kernel) rfl
theorem w_co_X10_needTape : Cond.code yX10_needTape cX10_needTape 2 none ∈ wsA := w_in 1184 (by decide +kernel) (by decide +kernel)
theorem w_im_X10_needTape : Cond.instanceMethod yX10_needTape ∈ wsA := w_in 1183 (by decide +kernel) (by decide +kernel)
theorem w_se_X10_needTape : Cond.selects yX10_needTape.cls yX10_needTape yX10_needTape ∈ wsA := w_pr 35 (by decide +kernel) (by decide +kernel)
theorem w_ml_X10_405 : Cond.methodLink RX10 405 yX10_needTape ∈ wsA := w_in 1181 (by decide +kernel) (by decide +kernel)
theorem mv_X10_405 : z_YV RX10 405 yX10_needTape cX10_needTape 2 none 9 1 := z_YV.of (T := TX10) (N := 12) (List.forall_mem_cons.mpr ⟨w_ml_X10_405, List.forall_mem_cons.mpr ⟨w_im_X10_needTape, List.forall_mem_cons.mpr ⟨w_se_X10_needTape, List.forall_mem_cons.mpr ⟨w_in_X10, List.forall_mem_cons.mpr ⟨w_co_X10_needTape, fun _ h => absurd h List.not_mem_nil⟩⟩⟩⟩⟩) (by decide +kernel) rfl
theorem w_co_X10_needDraw : Cond.code yX10_needDraw cX10_needDraw 2 none ∈ wsA := w_in 1244 (by decide +kernel) (by decide +kernel)
theorem w_im_X10_needDraw : Cond.instanceMethod yX10_needDraw ∈ wsA := w_in 1243 (by decide +kernel) (by decide +kernel)
theorem w_se_X10_needDraw : Cond.selects yX10_needDraw.cls yX10_needDraw yX10_needDraw ∈ wsA := w_pr 37 (by decide +kernel) (by decide +kernel)
theorem w_ml_X10_411 : Cond.methodLink RX10 411 yX10_needDraw ∈ wsA := w_in 1241 (by decide +kernel) (by decide +kernel)
theorem mv_X10_411 : z_YV RX10 411 yX10_needDraw cX10_needDraw 2 none 9 1 := z_YV.of (T := TX10) (N := 12) (List.forall_mem_cons.mpr ⟨w_ml_X10_411, List.forall_mem_cons.mpr ⟨w_im_X10_needDraw, List.forall_mem_cons.mpr ⟨w_se_X10_needDraw, List.forall_mem_cons.mpr ⟨w_in_X10, List.forall_mem_cons.mpr ⟨w_co_X10_needDraw, fun _ h => absurd h List.not_mem_nil⟩⟩⟩⟩⟩) (by decide +kernel) rfl
theorem w_co_X9_sitsLike : Cond.code yX9_sitsLike cX9_sitsLike 4 (some .boolean) ∈ wsA := w_in 1262 (by decide +kernel) (by decide +kernel)
theorem w_im_X9_sitsLike : Cond.instanceMethod yX9_sitsLike ∈ wsA := w_in 1260 (by decide +kernel) (by decide +kernel)
theorem w_se_X9_sitsLike : Cond.selects yX9_sitsLike.cls yX9_sitsLike yX9_sitsLike ∈ wsA := w_in 1261 (by decide +kernel) (by decide +kernel)
theorem w_ml_X10_414 : Cond.methodLink RX10 414 yX9_sitsLike ∈ wsA := w_in 1259 (by decide +kernel) (by decide +kernel)
theorem mv_X10_414 : z_YV RX10 414 yX9_sitsLike cX9_sitsLike 4 (some .boolean) 8 1 := z_YV.of (T := TX9) (N := 20) (List.forall_mem_cons.mpr ⟨w_ml_X10_414, List.forall_mem_cons.mpr ⟨w_im_X9_sitsLike, List.forall_mem_cons.mpr ⟨w_se_X9_sitsLike, List.forall_mem_cons.mpr ⟨w_in_X9, List.forall_mem_cons.mpr ⟨w_co_X9_sitsLike, fun _ h => absurd h List.not_mem_nil⟩⟩⟩⟩⟩) (by decide +kernel) rfl
theorem w_co_X10_goAhead : Cond.code yX10_goAhead cX10_goAhead 4 none ∈ wsA := w_in 1273 (by decide +kernel) (by decide +kernel)
theorem w_im_X10_goAhead : Cond.instanceMethod yX10_goAhead ∈ wsA := w_in 1272 (by decide +kernel) (by decide +kernel)
theorem w_se_X10_goAhead : Cond.selects yX10_goAhead.cls yX10_goAhead yX10_goAhead ∈ wsA := w_pr 38 (by decide +kernel) (by decide +kernel)
theorem w_ml_X10_418 : Cond.methodLink RX10 418 yX10_goAhead ∈ wsA := w_in 1270 (by decide +kernel) (by decide +kernel)
theorem mv_X10_418 : z_YV RX10 418 yX10_goAhead cX10_goAhead 4 none 9 2 := z_YV.of (T := TX10) (N := 12) (List.forall_mem_cons.mpr ⟨w_ml_X10_418, List.forall_mem_cons.mpr ⟨w_im_X10_goAhead, List.forall_mem_cons.mpr ⟨w_se_X10_goAhead, List.forall_mem_cons.mpr ⟨w_in_X10, List.forall_mem_cons.mpr ⟨w_co_X10_goAhead, fun _ h => absurd h List.not_mem_nil⟩⟩⟩⟩⟩) (by decide +kernel) rfl
theorem w_co_X10_tryStops : Cond.code yX10_tryStops cX10_tryStops 4 none ∈ wsA := w_in 1292 (by decide +kernel) (by decide +kernel)
theorem w_im_X10_tryStops : Cond.instanceMethod yX10_tryStops ∈ wsA := w_in 1291 (by decide +kernel) (by decide +kernel)
theorem w_se_X10_tryStops : Cond.selects yX10_tryStops.cls yX10_tryStops yX10_tryStops ∈ wsA := w_pr 39 (by decide +kernel) (by decide +kernel)
theorem w_ml_X10_423 : Cond.methodLink RX10 423 yX10_tryStops ∈ wsA := w_in 1289 (by decide +kernel) (by decide +kernel)
theorem mv_X10_423 : z_YV RX10 423 yX10_tryStops cX10_tryStops 4 none 9 2 := z_YV.of (T := TX10) (N := 12) (List.forall_mem_cons.mpr ⟨w_ml_X10_423, List.forall_mem_cons.mpr ⟨w_im_X10_tryStops, List.forall_mem_cons.mpr ⟨w_se_X10_tryStops, List.forall_mem_cons.mpr ⟨w_in_X10, List.forall_mem_cons.mpr ⟨w_co_X10_tryStops, fun _ h => absurd h List.not_mem_nil⟩⟩⟩⟩⟩) (by decide +kernel) rfl
theorem w_ml_X0_23 : Cond.methodLink RX0 23 yX3_hold ∈ wsA := w_in 1018 (by decide +kernel) (by decide +kernel)
theorem mv_X0_23 : z_YV RX0 23 yX3_hold cX3_hold 4 none 3 3 := z_YV.of (T := TX3) (N := 3) (List.forall_mem_cons.mpr ⟨w_ml_X0_23, List.forall_mem_cons.mpr ⟨w_im_X3_hold, List.forall_mem_cons.mpr ⟨w_se_X3_hold, List.forall_mem_cons.mpr ⟨w_in_X3, List.forall_mem_cons.mpr ⟨w_co_X3_hold, fun _ h => absurd h List.not_mem_nil⟩⟩⟩⟩⟩) (by decide +kernel) rfl
theorem w_ml_X3_27 : Cond.methodLink RX3 27 yX9_copy ∈ wsA := w_in 529 (by decide +kernel) (by decide +kernel)
theorem mv_X3_27 : z_YV RX3 27 yX9_copy cX9_copy 2 none 8 1 := z_YV.of (T := TX9) (N := 20) (List.forall_mem_cons.mpr ⟨w_ml_X3_27, List.forall_mem_cons.mpr ⟨w_im_X9_copy, List.forall_mem_cons.mpr ⟨w_se_X9_copy, List.forall_mem_cons.mpr ⟨w_in_X9, List.forall_mem_cons.mpr ⟨w_co_X9_copy, fun _ h => absurd h List.not_mem_nil⟩⟩⟩⟩⟩) (by decide +kernel) rfl
theorem w_ml_X3_31 : Cond.methodLink RX3 31 yX2_copy ∈ wsA := w_in 530 (by decide +kernel) (by decide +kernel)
theorem mv_X3_31 : z_YV RX3 31 yX2_copy cX2_copy 2 none 2 1 := z_YV.of (T := TX2) (N := 3) (List.forall_mem_cons.mpr ⟨w_ml_X3_31, List.forall_mem_cons.mpr ⟨w_im_X2_copy, List.forall_mem_cons.mpr ⟨w_se_X2_copy, List.forall_mem_cons.mpr ⟨w_in_X2, List.forall_mem_cons.mpr ⟨w_co_X2_copy, fun _ h => absurd h List.not_mem_nil⟩⟩⟩⟩⟩) (by decide +kernel) rfl
theorem w_mm_X10_291 : Cond.methodLink RX10 291 Lib.Math.min.name ∈ wsA := w_in 1061 (by decide +kernel) (by decide +kernel)
theorem w_mm_X10_356 : Cond.methodLink RX10 356 Lib.Math.abs.name ∈ wsA := w_in 1152 (by decide +kernel) (by decide +kernel)
theorem w_mm_X10_373 : Cond.methodLink RX10 373 Lib.Math.max.name ∈ wsA := w_in 1165 (by decide +kernel) (by decide +kernel)
theorem w_mm_X0_27 : Cond.methodLink RX0 27 Lib.Math.min.name ∈ wsA := w_in 1019 (by decide +kernel) (by decide +kernel)
theorem w_mm_X0_36 : Cond.methodLink RX0 36 Lib.Math.max.name ∈ wsA := w_in 518 (by decide +kernel) (by decide +kernel)
