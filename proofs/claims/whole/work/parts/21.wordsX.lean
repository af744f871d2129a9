theorem in_X1 : ∀ w ∈ u_ws RX1 TX1 3, w ∈ wsA := w_us [224, 226, 222] (by decide +kernel)
theorem in_X2 : ∀ w ∈ u_ws RX2 TX2 3, w ∈ wsA := w_us [280, 282, 284] (by decide +kernel)
theorem in_X4 : ∀ w ∈ u_ws RX4 TX4 8, w ∈ wsA := w_us [103, 105, 107, 109, 111, 113, 115, 117] (by decide +kernel)
theorem in_X5 : ∀ w ∈ u_ws RX5 TX5 10, w ∈ wsA := w_us [267, 268, 251, 253, 255, 257, 259, 261, 263, 265] (by decide +kernel)
theorem in_X7 : ∀ w ∈ u_ws RX7 TX7 2, w ∈ wsA := w_us [49, 51] (by decide +kernel)
theorem in_X8 : ∀ w ∈ u_ws RX8 TX8 6, w ∈ wsA := w_us [69, 71, 73, 75, 77, 79] (by decide +kernel)
theorem in_X9 : ∀ w ∈ u_ws RX9 TX9 20, w ∈ wsA := w_us [165, 167, 169, 171, 173, 175, 177, 179, 181, 183, 185, 187, 189, 191, 193, 195, 197, 199, 201, 203] (by decide +kernel)
theorem w_fl_X1_11 : Cond.fieldLink RX1 11 "TopWheel$FairReader" "draft" "LTopWheel$Wheel;" ∈ wsA := w_in 215 (by decide +kernel) (by decide +kernel)
theorem fl_X1_11 : z_FL RX1 11 1 2 (.object "TopWheel$Wheel") true := ⟨RX1, TX1, 3, "TopWheel$FairReader", tyX1, rfl, in_X1, by decide, w_fl_X1_11, Or.inl rfl, tyX1_ok, nmX1, rfl, rfl⟩
theorem w_fl_X1_15 : Cond.fieldLink RX1 15 "TopWheel$Wheel" "riders" "I" ∈ wsA := w_in 136 (by decide +kernel) (by decide +kernel)
theorem fl_X1_15 : z_FL RX1 15 8 8 .int false := ⟨RX9, TX9, 20, "TopWheel$Wheel", tyX9, rfl, in_X9, by decide, w_fl_X1_15, Or.inl rfl, tyX9_ok, nmX9, rfl, rfl⟩
theorem w_fl_X1_21 : Cond.fieldLink RX1 21 "TopWheel$FairReader" "things" "LTopWheel$Things;" ∈ wsA := w_in 217 (by decide +kernel) (by decide +kernel)
theorem sf_X1_21 : Cond.sameField "TopWheel$FairReader" "TopWheel$Reader" "things" "LTopWheel$Things;" ∈ wsA := w_in 218 (by decide +kernel) (by decide +kernel)
theorem fl_X1_21 : z_FL RX1 21 1 0 (.object "TopWheel$Things") true := ⟨RX1, TX1, 3, "TopWheel$FairReader", tyX1, rfl, in_X1, by decide, w_fl_X1_21, Or.inr sf_X1_21, tyX1_ok, nmX1, rfl, rfl⟩
theorem w_fl_X1_43 : Cond.fieldLink RX1 43 "TopWheel$Wheel" "bolts" "[I" ∈ wsA := w_in 130 (by decide +kernel) (by decide +kernel)
theorem fl_X1_43 : z_FL RX1 43 8 5 (.array .int) true := ⟨RX9, TX9, 20, "TopWheel$Wheel", tyX9, rfl, in_X9, by decide, w_fl_X1_43, Or.inl rfl, tyX9_ok, nmX9, rfl, rfl⟩
theorem w_fl_X1_48 : Cond.fieldLink RX1 48 "TopWheel$Wheel" "price" "I" ∈ wsA := w_in 141 (by decide +kernel) (by decide +kernel)
theorem fl_X1_48 : z_FL RX1 48 8 10 .int false := ⟨RX9, TX9, 20, "TopWheel$Wheel", tyX9, rfl, in_X9, by decide, w_fl_X1_48, Or.inl rfl, tyX9_ok, nmX9, rfl, rfl⟩
theorem w_fl_X1_53 : Cond.fieldLink RX1 53 "TopWheel$Wheel" "chest" "I" ∈ wsA := w_in 144 (by decide +kernel) (by decide +kernel)
theorem fl_X1_53 : z_FL RX1 53 8 11 .int false := ⟨RX9, TX9, 20, "TopWheel$Wheel", tyX9, rfl, in_X9, by decide, w_fl_X1_53, Or.inl rfl, tyX9_ok, nmX9, rfl, rfl⟩
theorem w_fl_X1_57 : Cond.fieldLink RX1 57 "TopWheel$Wheel" "reach" "I" ∈ wsA := w_in 147 (by decide +kernel) (by decide +kernel)
theorem fl_X1_57 : z_FL RX1 57 8 12 .int false := ⟨RX9, TX9, 20, "TopWheel$Wheel", tyX9, rfl, in_X9, by decide, w_fl_X1_57, Or.inl rfl, tyX9_ok, nmX9, rfl, rfl⟩
theorem w_fl_X1_61 : Cond.fieldLink RX1 61 "TopWheel$Wheel" "wind" "I" ∈ wsA := w_in 150 (by decide +kernel) (by decide +kernel)
theorem fl_X1_61 : z_FL RX1 61 8 13 .int false := ⟨RX9, TX9, 20, "TopWheel$Wheel", tyX9, rfl, in_X9, by decide, w_fl_X1_61, Or.inl rfl, tyX9_ok, nmX9, rfl, rfl⟩
theorem w_fl_X1_65 : Cond.fieldLink RX1 65 "TopWheel$Wheel" "top" "I" ∈ wsA := w_in 153 (by decide +kernel) (by decide +kernel)
theorem fl_X1_65 : z_FL RX1 65 8 14 .int false := ⟨RX9, TX9, 20, "TopWheel$Wheel", tyX9, rfl, in_X9, by decide, w_fl_X1_65, Or.inl rfl, tyX9_ok, nmX9, rfl, rfl⟩
theorem w_fl_X1_86 : Cond.fieldLink RX1 86 "TopWheel$Things" "wrong" "I" ∈ wsA := w_in 67 (by decide +kernel) (by decide +kernel)
theorem fl_X1_86 : z_FL RX1 86 7 5 .int false := ⟨RX8, TX8, 6, "TopWheel$Things", tyX8, rfl, in_X8, by decide, w_fl_X1_86, Or.inl rfl, tyX8_ok, nmX8, rfl, rfl⟩
theorem w_fl_X2_11 : Cond.fieldLink RX2 11 "TopWheel$Journal" "cells" "[I" ∈ wsA := w_in 276 (by decide +kernel) (by decide +kernel)
theorem fl_X2_11 : z_FL RX2 11 2 0 (.array .int) true := ⟨RX2, TX2, 3, "TopWheel$Journal", tyX2, rfl, in_X2, by decide, w_fl_X2_11, Or.inl rfl, tyX2_ok, nmX2, rfl, rfl⟩
theorem w_fl_X2_15 : Cond.fieldLink RX2 15 "TopWheel$Journal" "next" "I" ∈ wsA := w_in 277 (by decide +kernel) (by decide +kernel)
theorem fl_X2_15 : z_FL RX2 15 2 1 .int false := ⟨RX2, TX2, 3, "TopWheel$Journal", tyX2, rfl, in_X2, by decide, w_fl_X2_15, Or.inl rfl, tyX2_ok, nmX2, rfl, rfl⟩
theorem w_fl_X2_19 : Cond.fieldLink RX2 19 "TopWheel$Journal" "rows" "I" ∈ wsA := w_in 278 (by decide +kernel) (by decide +kernel)
theorem fl_X2_19 : z_FL RX2 19 2 2 .int false := ⟨RX2, TX2, 3, "TopWheel$Journal", tyX2, rfl, in_X2, by decide, w_fl_X2_19, Or.inl rfl, tyX2_ok, nmX2, rfl, rfl⟩
theorem w_fl_X4_15 : Cond.fieldLink RX4 15 "TopWheel$Law" "act" "[I" ∈ wsA := w_in 96 (by decide +kernel) (by decide +kernel)
theorem fl_X4_15 : z_FL RX4 15 4 1 (.array .int) true := ⟨RX4, TX4, 8, "TopWheel$Law", tyX4, rfl, in_X4, by decide, w_fl_X4_15, Or.inl rfl, tyX4_ok, nmX4, rfl, rfl⟩
theorem w_fl_X4_19 : Cond.fieldLink RX4 19 "TopWheel$Law" "amount" "[I" ∈ wsA := w_in 97 (by decide +kernel) (by decide +kernel)
theorem fl_X4_19 : z_FL RX4 19 4 2 (.array .int) true := ⟨RX4, TX4, 8, "TopWheel$Law", tyX4, rfl, in_X4, by decide, w_fl_X4_19, Or.inl rfl, tyX4_ok, nmX4, rfl, rfl⟩
theorem w_fl_X4_22 : Cond.fieldLink RX4 22 "TopWheel$Law" "until" "[I" ∈ wsA := w_in 98 (by decide +kernel) (by decide +kernel)
theorem fl_X4_22 : z_FL RX4 22 4 3 (.array .int) true := ⟨RX4, TX4, 8, "TopWheel$Law", tyX4, rfl, in_X4, by decide, w_fl_X4_22, Or.inl rfl, tyX4_ok, nmX4, rfl, rfl⟩
theorem w_fl_X4_25 : Cond.fieldLink RX4 25 "TopWheel$Law" "kind" "[I" ∈ wsA := w_in 99 (by decide +kernel) (by decide +kernel)
theorem fl_X4_25 : z_FL RX4 25 4 4 (.array .int) true := ⟨RX4, TX4, 8, "TopWheel$Law", tyX4, rfl, in_X4, by decide, w_fl_X4_25, Or.inl rfl, tyX4_ok, nmX4, rfl, rfl⟩
theorem w_fl_X4_28 : Cond.fieldLink RX4 28 "TopWheel$Law" "left" "[I" ∈ wsA := w_in 100 (by decide +kernel) (by decide +kernel)
theorem fl_X4_28 : z_FL RX4 28 4 5 (.array .int) true := ⟨RX4, TX4, 8, "TopWheel$Law", tyX4, rfl, in_X4, by decide, w_fl_X4_28, Or.inl rfl, tyX4_ok, nmX4, rfl, rfl⟩
theorem w_fl_X4_31 : Cond.fieldLink RX4 31 "TopWheel$Law" "right" "[I" ∈ wsA := w_in 101 (by decide +kernel) (by decide +kernel)
theorem fl_X4_31 : z_FL RX4 31 4 6 (.array .int) true := ⟨RX4, TX4, 8, "TopWheel$Law", tyX4, rfl, in_X4, by decide, w_fl_X4_31, Or.inl rfl, tyX4_ok, nmX4, rfl, rfl⟩
theorem w_fl_X4_34 : Cond.fieldLink RX4 34 "TopWheel$Law" "results" "[I" ∈ wsA := w_in 102 (by decide +kernel) (by decide +kernel)
theorem fl_X4_34 : z_FL RX4 34 4 7 (.array .int) true := ⟨RX4, TX4, 8, "TopWheel$Law", tyX4, rfl, in_X4, by decide, w_fl_X4_34, Or.inl rfl, tyX4_ok, nmX4, rfl, rfl⟩
theorem w_fl_X5_11 : Cond.fieldLink RX5 11 "TopWheel$LawReader" "act" "[I" ∈ wsA := w_in 235 (by decide +kernel) (by decide +kernel)
theorem fl_X5_11 : z_FL RX5 11 5 2 (.array .int) true := ⟨RX5, TX5, 10, "TopWheel$LawReader", tyX5, rfl, in_X5, by decide, w_fl_X5_11, Or.inl rfl, tyX5_ok, nmX5, rfl, rfl⟩
theorem w_fl_X5_15 : Cond.fieldLink RX5 15 "TopWheel$LawReader" "amount" "[I" ∈ wsA := w_in 237 (by decide +kernel) (by decide +kernel)
theorem fl_X5_15 : z_FL RX5 15 5 3 (.array .int) true := ⟨RX5, TX5, 10, "TopWheel$LawReader", tyX5, rfl, in_X5, by decide, w_fl_X5_15, Or.inl rfl, tyX5_ok, nmX5, rfl, rfl⟩
theorem w_fl_X5_18 : Cond.fieldLink RX5 18 "TopWheel$LawReader" "until" "[I" ∈ wsA := w_in 239 (by decide +kernel) (by decide +kernel)
theorem fl_X5_18 : z_FL RX5 18 5 4 (.array .int) true := ⟨RX5, TX5, 10, "TopWheel$LawReader", tyX5, rfl, in_X5, by decide, w_fl_X5_18, Or.inl rfl, tyX5_ok, nmX5, rfl, rfl⟩
theorem w_fl_X5_21 : Cond.fieldLink RX5 21 "TopWheel$LawReader" "kind" "[I" ∈ wsA := w_in 241 (by decide +kernel) (by decide +kernel)
theorem fl_X5_21 : z_FL RX5 21 5 5 (.array .int) true := ⟨RX5, TX5, 10, "TopWheel$LawReader", tyX5, rfl, in_X5, by decide, w_fl_X5_21, Or.inl rfl, tyX5_ok, nmX5, rfl, rfl⟩
theorem w_fl_X5_24 : Cond.fieldLink RX5 24 "TopWheel$LawReader" "left" "[I" ∈ wsA := w_in 243 (by decide +kernel) (by decide +kernel)
theorem fl_X5_24 : z_FL RX5 24 5 6 (.array .int) true := ⟨RX5, TX5, 10, "TopWheel$LawReader", tyX5, rfl, in_X5, by decide, w_fl_X5_24, Or.inl rfl, tyX5_ok, nmX5, rfl, rfl⟩
theorem w_fl_X5_27 : Cond.fieldLink RX5 27 "TopWheel$LawReader" "right" "[I" ∈ wsA := w_in 245 (by decide +kernel) (by decide +kernel)
theorem fl_X5_27 : z_FL RX5 27 5 7 (.array .int) true := ⟨RX5, TX5, 10, "TopWheel$LawReader", tyX5, rfl, in_X5, by decide, w_fl_X5_27, Or.inl rfl, tyX5_ok, nmX5, rfl, rfl⟩
theorem w_fl_X5_30 : Cond.fieldLink RX5 30 "TopWheel$LawReader" "lines" "I" ∈ wsA := w_in 247 (by decide +kernel) (by decide +kernel)
theorem fl_X5_30 : z_FL RX5 30 5 8 .int false := ⟨RX5, TX5, 10, "TopWheel$LawReader", tyX5, rfl, in_X5, by decide, w_fl_X5_30, Or.inl rfl, tyX5_ok, nmX5, rfl, rfl⟩
theorem w_fl_X5_34 : Cond.fieldLink RX5 34 "TopWheel$LawReader" "nodes" "I" ∈ wsA := w_in 249 (by decide +kernel) (by decide +kernel)
theorem fl_X5_34 : z_FL RX5 34 5 9 .int false := ⟨RX5, TX5, 10, "TopWheel$LawReader", tyX5, rfl, in_X5, by decide, w_fl_X5_34, Or.inl rfl, tyX5_ok, nmX5, rfl, rfl⟩
theorem w_fl_X5_37 : Cond.fieldLink RX5 37 "TopWheel$LawReader" "things" "LTopWheel$Things;" ∈ wsA := w_in 219 (by decide +kernel) (by decide +kernel)
theorem sf_X5_37 : Cond.sameField "TopWheel$LawReader" "TopWheel$Reader" "things" "LTopWheel$Things;" ∈ wsA := w_in 220 (by decide +kernel) (by decide +kernel)
theorem fl_X5_37 : z_FL RX5 37 5 0 (.object "TopWheel$Things") true := ⟨RX5, TX5, 10, "TopWheel$LawReader", tyX5, rfl, in_X5, by decide, w_fl_X5_37, Or.inr sf_X5_37, tyX5_ok, nmX5, rfl, rfl⟩
theorem w_fl_X7_9 : Cond.fieldLink RX7 9 "TopWheel$Tape" "bytes" "[I" ∈ wsA := w_in 43 (by decide +kernel) (by decide +kernel)
theorem fl_X7_9 : z_FL RX7 9 6 0 (.array .int) true := ⟨RX7, TX7, 2, "TopWheel$Tape", tyX7, rfl, in_X7, by decide, w_fl_X7_9, Or.inl rfl, tyX7_ok, nmX7, rfl, rfl⟩
theorem w_fl_X7_15 : Cond.fieldLink RX7 15 "TopWheel$Tape" "length" "I" ∈ wsA := w_in 46 (by decide +kernel) (by decide +kernel)
theorem fl_X7_15 : z_FL RX7 15 6 1 .int false := ⟨RX7, TX7, 2, "TopWheel$Tape", tyX7, rfl, in_X7, by decide, w_fl_X7_15, Or.inl rfl, tyX7_ok, nmX7, rfl, rfl⟩
theorem w_fl_X8_9 : Cond.fieldLink RX8 9 "TopWheel$Things" "begin" "[I" ∈ wsA := w_in 62 (by decide +kernel) (by decide +kernel)
theorem fl_X8_9 : z_FL RX8 9 7 1 (.array .int) true := ⟨RX8, TX8, 6, "TopWheel$Things", tyX8, rfl, in_X8, by decide, w_fl_X8_9, Or.inl rfl, tyX8_ok, nmX8, rfl, rfl⟩
theorem w_fl_X8_15 : Cond.fieldLink RX8 15 "TopWheel$Things" "end" "[I" ∈ wsA := w_in 63 (by decide +kernel) (by decide +kernel)
theorem fl_X8_15 : z_FL RX8 15 7 2 (.array .int) true := ⟨RX8, TX8, 6, "TopWheel$Things", tyX8, rfl, in_X8, by decide, w_fl_X8_15, Or.inl rfl, tyX8_ok, nmX8, rfl, rfl⟩
theorem w_fl_X8_18 : Cond.fieldLink RX8 18 "TopWheel$Things" "last" "I" ∈ wsA := w_in 64 (by decide +kernel) (by decide +kernel)
theorem fl_X8_18 : z_FL RX8 18 7 3 .int false := ⟨RX8, TX8, 6, "TopWheel$Things", tyX8, rfl, in_X8, by decide, w_fl_X8_18, Or.inl rfl, tyX8_ok, nmX8, rfl, rfl⟩
theorem w_fl_X8_22 : Cond.fieldLink RX8 22 "TopWheel$Things" "at" "I" ∈ wsA := w_in 65 (by decide +kernel) (by decide +kernel)
theorem fl_X8_22 : z_FL RX8 22 7 4 .int false := ⟨RX8, TX8, 6, "TopWheel$Things", tyX8, rfl, in_X8, by decide, w_fl_X8_22, Or.inl rfl, tyX8_ok, nmX8, rfl, rfl⟩
theorem w_fl_X8_25 : Cond.fieldLink RX8 25 "TopWheel$Things" "wrong" "I" ∈ wsA := w_in 66 (by decide +kernel) (by decide +kernel)
theorem fl_X8_25 : z_FL RX8 25 7 5 .int false := ⟨RX8, TX8, 6, "TopWheel$Things", tyX8, rfl, in_X8, by decide, w_fl_X8_25, Or.inl rfl, tyX8_ok, nmX8, rfl, rfl⟩
theorem w_fl_X8_28 : Cond.fieldLink RX8 28 "TopWheel$Things" "text" "LTopWheel$Tape;" ∈ wsA := w_in 61 (by decide +kernel) (by decide +kernel)
theorem fl_X8_28 : z_FL RX8 28 7 0 (.object "TopWheel$Tape") true := ⟨RX8, TX8, 6, "TopWheel$Things", tyX8, rfl, in_X8, by decide, w_fl_X8_28, Or.inl rfl, tyX8_ok, nmX8, rfl, rfl⟩
theorem w_fl_X8_32 : Cond.fieldLink RX8 32 "TopWheel$Tape" "length" "I" ∈ wsA := w_in 48 (by decide +kernel) (by decide +kernel)
theorem fl_X8_32 : z_FL RX8 32 6 1 .int false := ⟨RX7, TX7, 2, "TopWheel$Tape", tyX7, rfl, in_X7, by decide, w_fl_X8_32, Or.inl rfl, tyX7_ok, nmX7, rfl, rfl⟩
theorem w_fl_X8_37 : Cond.fieldLink RX8 37 "TopWheel$Tape" "bytes" "[I" ∈ wsA := w_in 44 (by decide +kernel) (by decide +kernel)
theorem fl_X8_37 : z_FL RX8 37 6 0 (.array .int) true := ⟨RX7, TX7, 2, "TopWheel$Tape", tyX7, rfl, in_X7, by decide, w_fl_X8_37, Or.inl rfl, tyX7_ok, nmX7, rfl, rfl⟩
theorem w_fl_X9_9 : Cond.fieldLink RX9 9 "TopWheel$Wheel" "place" "[I" ∈ wsA := w_in 120 (by decide +kernel) (by decide +kernel)
theorem fl_X9_9 : z_FL RX9 9 8 0 (.array .int) true := ⟨RX9, TX9, 20, "TopWheel$Wheel", tyX9, rfl, in_X9, by decide, w_fl_X9_9, Or.inl rfl, tyX9_ok, nmX9, rfl, rfl⟩
theorem w_fl_X9_15 : Cond.fieldLink RX9 15 "TopWheel$Wheel" "weight" "[I" ∈ wsA := w_in 122 (by decide +kernel) (by decide +kernel)
theorem fl_X9_15 : z_FL RX9 15 8 1 (.array .int) true := ⟨RX9, TX9, 20, "TopWheel$Wheel", tyX9, rfl, in_X9, by decide, w_fl_X9_15, Or.inl rfl, tyX9_ok, nmX9, rfl, rfl⟩
theorem w_fl_X9_18 : Cond.fieldLink RX9 18 "TopWheel$Wheel" "purse" "[I" ∈ wsA := w_in 124 (by decide +kernel) (by decide +kernel)
theorem fl_X9_18 : z_FL RX9 18 8 2 (.array .int) true := ⟨RX9, TX9, 20, "TopWheel$Wheel", tyX9, rfl, in_X9, by decide, w_fl_X9_18, Or.inl rfl, tyX9_ok, nmX9, rfl, rfl⟩
theorem w_fl_X9_21 : Cond.fieldLink RX9 21 "TopWheel$Wheel" "side" "[I" ∈ wsA := w_in 126 (by decide +kernel) (by decide +kernel)
theorem fl_X9_21 : z_FL RX9 21 8 3 (.array .int) true := ⟨RX9, TX9, 20, "TopWheel$Wheel", tyX9, rfl, in_X9, by decide, w_fl_X9_21, Or.inl rfl, tyX9_ok, nmX9, rfl, rfl⟩
theorem w_fl_X9_24 : Cond.fieldLink RX9 24 "TopWheel$Wheel" "row" "[I" ∈ wsA := w_in 128 (by decide +kernel) (by decide +kernel)
theorem fl_X9_24 : z_FL RX9 24 8 4 (.array .int) true := ⟨RX9, TX9, 20, "TopWheel$Wheel", tyX9, rfl, in_X9, by decide, w_fl_X9_24, Or.inl rfl, tyX9_ok, nmX9, rfl, rfl⟩
theorem w_fl_X9_27 : Cond.fieldLink RX9 27 "TopWheel$Wheel" "bolts" "[I" ∈ wsA := w_in 129 (by decide +kernel) (by decide +kernel)
theorem fl_X9_27 : z_FL RX9 27 8 5 (.array .int) true := ⟨RX9, TX9, 20, "TopWheel$Wheel", tyX9, rfl, in_X9, by decide, w_fl_X9_27, Or.inl rfl, tyX9_ok, nmX9, rfl, rfl⟩
theorem w_fl_X9_30 : Cond.fieldLink RX9 30 "TopWheel$Wheel" "terms" "[I" ∈ wsA := w_in 132 (by decide +kernel) (by decide +kernel)
theorem fl_X9_30 : z_FL RX9 30 8 6 (.array .int) true := ⟨RX9, TX9, 20, "TopWheel$Wheel", tyX9, rfl, in_X9, by decide, w_fl_X9_30, Or.inl rfl, tyX9_ok, nmX9, rfl, rfl⟩
theorem w_fl_X9_33 : Cond.fieldLink RX9 33 "TopWheel$Wheel" "facts" "[I" ∈ wsA := w_in 134 (by decide +kernel) (by decide +kernel)
theorem fl_X9_33 : z_FL RX9 33 8 7 (.array .int) true := ⟨RX9, TX9, 20, "TopWheel$Wheel", tyX9, rfl, in_X9, by decide, w_fl_X9_33, Or.inl rfl, tyX9_ok, nmX9, rfl, rfl⟩
theorem w_fl_X9_36 : Cond.fieldLink RX9 36 "TopWheel$Wheel" "riders" "I" ∈ wsA := w_in 135 (by decide +kernel) (by decide +kernel)
theorem fl_X9_36 : z_FL RX9 36 8 8 .int false := ⟨RX9, TX9, 20, "TopWheel$Wheel", tyX9, rfl, in_X9, by decide, w_fl_X9_36, Or.inl rfl, tyX9_ok, nmX9, rfl, rfl⟩
theorem w_fl_X9_40 : Cond.fieldLink RX9 40 "TopWheel$Wheel" "waiting" "I" ∈ wsA := w_in 138 (by decide +kernel) (by decide +kernel)
theorem fl_X9_40 : z_FL RX9 40 8 9 .int false := ⟨RX9, TX9, 20, "TopWheel$Wheel", tyX9, rfl, in_X9, by decide, w_fl_X9_40, Or.inl rfl, tyX9_ok, nmX9, rfl, rfl⟩
theorem w_fl_X9_43 : Cond.fieldLink RX9 43 "TopWheel$Wheel" "price" "I" ∈ wsA := w_in 140 (by decide +kernel) (by decide +kernel)
theorem fl_X9_43 : z_FL RX9 43 8 10 .int false := ⟨RX9, TX9, 20, "TopWheel$Wheel", tyX9, rfl, in_X9, by decide, w_fl_X9_43, Or.inl rfl, tyX9_ok, nmX9, rfl, rfl⟩
theorem w_fl_X9_46 : Cond.fieldLink RX9 46 "TopWheel$Wheel" "chest" "I" ∈ wsA := w_in 143 (by decide +kernel) (by decide +kernel)
theorem fl_X9_46 : z_FL RX9 46 8 11 .int false := ⟨RX9, TX9, 20, "TopWheel$Wheel", tyX9, rfl, in_X9, by decide, w_fl_X9_46, Or.inl rfl, tyX9_ok, nmX9, rfl, rfl⟩
theorem w_fl_X9_49 : Cond.fieldLink RX9 49 "TopWheel$Wheel" "reach" "I" ∈ wsA := w_in 146 (by decide +kernel) (by decide +kernel)
theorem fl_X9_49 : z_FL RX9 49 8 12 .int false := ⟨RX9, TX9, 20, "TopWheel$Wheel", tyX9, rfl, in_X9, by decide, w_fl_X9_49, Or.inl rfl, tyX9_ok, nmX9, rfl, rfl⟩
theorem w_fl_X9_52 : Cond.fieldLink RX9 52 "TopWheel$Wheel" "wind" "I" ∈ wsA := w_in 149 (by decide +kernel) (by decide +kernel)
theorem fl_X9_52 : z_FL RX9 52 8 13 .int false := ⟨RX9, TX9, 20, "TopWheel$Wheel", tyX9, rfl, in_X9, by decide, w_fl_X9_52, Or.inl rfl, tyX9_ok, nmX9, rfl, rfl⟩
theorem w_fl_X9_55 : Cond.fieldLink RX9 55 "TopWheel$Wheel" "top" "I" ∈ wsA := w_in 152 (by decide +kernel) (by decide +kernel)
theorem fl_X9_55 : z_FL RX9 55 8 14 .int false := ⟨RX9, TX9, 20, "TopWheel$Wheel", tyX9, rfl, in_X9, by decide, w_fl_X9_55, Or.inl rfl, tyX9_ok, nmX9, rfl, rfl⟩
theorem w_fl_X9_58 : Cond.fieldLink RX9 58 "TopWheel$Wheel" "stop" "I" ∈ wsA := w_in 155 (by decide +kernel) (by decide +kernel)
theorem fl_X9_58 : z_FL RX9 58 8 15 .int false := ⟨RX9, TX9, 20, "TopWheel$Wheel", tyX9, rfl, in_X9, by decide, w_fl_X9_58, Or.inl rfl, tyX9_ok, nmX9, rfl, rfl⟩
theorem w_fl_X9_61 : Cond.fieldLink RX9 61 "TopWheel$Wheel" "grain" "I" ∈ wsA := w_in 157 (by decide +kernel) (by decide +kernel)
theorem fl_X9_61 : z_FL RX9 61 8 16 .int false := ⟨RX9, TX9, 20, "TopWheel$Wheel", tyX9, rfl, in_X9, by decide, w_fl_X9_61, Or.inl rfl, tyX9_ok, nmX9, rfl, rfl⟩
theorem w_fl_X9_64 : Cond.fieldLink RX9 64 "TopWheel$Wheel" "head" "I" ∈ wsA := w_in 159 (by decide +kernel) (by decide +kernel)
theorem fl_X9_64 : z_FL RX9 64 8 17 .int false := ⟨RX9, TX9, 20, "TopWheel$Wheel", tyX9, rfl, in_X9, by decide, w_fl_X9_64, Or.inl rfl, tyX9_ok, nmX9, rfl, rfl⟩
theorem w_fl_X9_67 : Cond.fieldLink RX9 67 "TopWheel$Wheel" "paid" "I" ∈ wsA := w_in 161 (by decide +kernel) (by decide +kernel)
theorem fl_X9_67 : z_FL RX9 67 8 18 .int false := ⟨RX9, TX9, 20, "TopWheel$Wheel", tyX9, rfl, in_X9, by decide, w_fl_X9_67, Or.inl rfl, tyX9_ok, nmX9, rfl, rfl⟩
theorem w_fl_X9_73 : Cond.fieldLink RX9 73 "TopWheel$Wheel" "rule" "LTopWheel$Law;" ∈ wsA := w_in 163 (by decide +kernel) (by decide +kernel)
theorem fl_X9_73 : z_FL RX9 73 8 19 (.object "TopWheel$Law") false := ⟨RX9, TX9, 20, "TopWheel$Wheel", tyX9, rfl, in_X9, by decide, w_fl_X9_73, Or.inl rfl, tyX9_ok, nmX9, rfl, rfl⟩
theorem k_X9_124 : Cond.constant RX9 124 (1103515245 : Int32) ∈ wsA := w_in 1088 (by decide +kernel) (by decide +kernel)
theorem k_J6_265 : Cond.constant RJ6 265 (1431655765 : Int32) ∈ wsA := w_in 450 (by decide +kernel) (by decide +kernel)
theorem k_J6_266 : Cond.constant RJ6 266 (858993459 : Int32) ∈ wsA := w_in 451 (by decide +kernel) (by decide +kernel)
theorem k_J6_267 : Cond.constant RJ6 267 (252645135 : Int32) ∈ wsA := w_in 452 (by decide +kernel) (by decide +kernel)
theorem w_co_J9_floorMod_7cf53 : Cond.code yJ9_floorMod_7cf53 cJ9_floorMod_7cf53 3 (some .int) ∈ wsA := w_in 497 (by decide +kernel) (by decide +kernel)
theorem w_st_J9_floorMod_7cf53 : Cond.static yJ9_floorMod_7cf53 ∈ wsA := w_in 496 (by decide +kernel) (by decide +kernel)
theorem w_in_J9 : Cond.initialized RJ9 ∈ wsA := w_in 25 (by decide +kernel) (by decide +kernel)
theorem w_ml_X2_34 : Cond.methodLink RX2 34 yJ9_floorMod_7cf53 ∈ wsA := w_in 1311 (by decide +kernel) (by decide +kernel)
theorem ms_X2_34 : z_YS RX2 34 yJ9_floorMod_7cf53 cJ9_floorMod_7cf53 3 (some .int) 2 := z_YS.of (List.forall_mem_cons.mpr ⟨w_ml_X2_34, List.forall_mem_cons.mpr ⟨w_st_J9_floorMod_7cf53, List.forall_mem_cons.mpr ⟨w_in_J9, List.forall_mem_cons.mpr ⟨w_co_J9_floorMod_7cf53, fun _ h => absurd h List.not_mem_nil⟩⟩⟩⟩) (by decide +kernel)
theorem w_co_X8_kindOf : Cond.code yX8_kindOf cX8_kindOf 1 (some .int) ∈ wsA := w_in 608 (by decide +kernel) (by decide +kernel)
theorem w_st_X8_kindOf : Cond.static yX8_kindOf ∈ wsA := w_in 607 (by decide +kernel) (by decide +kernel)
theorem w_in_X8 : Cond.initialized RX8 ∈ wsA := w_in 3 (by decide +kernel) (by decide +kernel)
theorem w_ml_X8_40 : Cond.methodLink RX8 40 yX8_kindOf ∈ wsA := w_in 606 (by decide +kernel) (by decide +kernel)
theorem ms_X8_40 : z_YS RX8 40 yX8_kindOf cX8_kindOf 1 (some .int) 1 := z_YS.of (List.forall_mem_cons.mpr ⟨w_ml_X8_40, List.forall_mem_cons.mpr ⟨w_st_X8_kindOf, List.forall_mem_cons.mpr ⟨w_in_X8, List.forall_mem_cons.mpr ⟨w_co_X8_kindOf, fun _ h => absurd h List.not_mem_nil⟩⟩⟩⟩) (by decide +kernel)
theorem w_co_J6_bitCount_0f7a4 : Cond.code yJ6_bitCount_0f7a4 cJ6_bitCount_0f7a4 1 (some .int) ∈ wsA := w_in 449 (by decide +kernel) (by decide +kernel)
theorem w_st_J6_bitCount_0f7a4 : Cond.static yJ6_bitCount_0f7a4 ∈ wsA := w_in 448 (by decide +kernel) (by decide +kernel)
theorem w_in_J6 : Cond.initialized RJ6 ∈ wsA := w_in 18 (by decide +kernel) (by decide +kernel)
theorem w_ml_X9_95 : Cond.methodLink RX9 95 yJ6_bitCount_0f7a4 ∈ wsA := w_in 447 (by decide +kernel) (by decide +kernel)
theorem ms_X9_95 : z_YS RX9 95 yJ6_bitCount_0f7a4 cJ6_bitCount_0f7a4 1 (some .int) 1 := z_YS.of (List.forall_mem_cons.mpr ⟨w_ml_X9_95, List.forall_mem_cons.mpr ⟨w_st_J6_bitCount_0f7a4, List.forall_mem_cons.mpr ⟨w_in_J6, List.forall_mem_cons.mpr ⟨w_co_J6_bitCount_0f7a4, fun _ h => absurd h List.not_mem_nil⟩⟩⟩⟩) (by decide +kernel)
theorem w_co_X8_takes : Cond.code yX8_takes cX8_takes 5 (some .boolean) ∈ wsA := w_in 623 (by decide +kernel) (by decide +kernel)
theorem w_im_X8_takes : Cond.instanceMethod yX8_takes ∈ wsA := w_in 621 (by decide +kernel) (by decide +kernel)
theorem w_se_X8_takes : Cond.selects yX8_takes.cls yX8_takes yX8_takes ∈ wsA := w_in 622 (by decide +kernel) (by decide +kernel)
theorem w_ml_X1_27 : Cond.methodLink RX1 27 yX8_takes ∈ wsA := w_in 620 (by decide +kernel) (by decide +kernel)
theorem mv_X1_27 : z_YV RX1 27 yX8_takes cX8_takes 5 (some .boolean) 7 1 := z_YV.of (T := TX8) (N := 6) (List.forall_mem_cons.mpr ⟨w_ml_X1_27, List.forall_mem_cons.mpr ⟨w_im_X8_takes, List.forall_mem_cons.mpr ⟨w_se_X8_takes, List.forall_mem_cons.mpr ⟨w_in_X8, List.forall_mem_cons.mpr ⟨w_co_X8_takes, fun _ h => absurd h List.not_mem_nil⟩⟩⟩⟩⟩) (by decide +kernel) rfl
theorem w_co_X1_readRider : Cond.code yX1_readRider cX1_readRider 5 none ∈ wsA := w_in 675 (by decide +kernel) (by decide +kernel)
theorem w_im_X1_readRider : Cond.instanceMethod yX1_readRider ∈ wsA := w_in 674 (by decide +kernel) (by decide +kernel)
theorem w_se_X1_readRider : Cond.selects yX1_readRider.cls yX1_readRider yX1_readRider ∈ wsA := w_pr 14 (by decide +kernel) (by decide +kernel)
theorem w_in_X1 : Cond.initialized RX1 ∈ wsA := w_in 7 (by decide +kernel) (by decide +kernel)
theorem w_ml_X1_33 : Cond.methodLink RX1 33 yX1_readRider ∈ wsA := w_in 672 (by decide +kernel) (by decide +kernel)
theorem mv_X1_33 : z_YV RX1 33 yX1_readRider cX1_readRider 5 none 1 0 := z_YV.of (T := TX1) (N := 3) (List.forall_mem_cons.mpr ⟨w_ml_X1_33, List.forall_mem_cons.mpr ⟨w_im_X1_readRider, List.forall_mem_cons.mpr ⟨w_se_X1_readRider, List.forall_mem_cons.mpr ⟨w_in_X1, List.forall_mem_cons.mpr ⟨w_co_X1_readRider, fun _ h => absurd h List.not_mem_nil⟩⟩⟩⟩⟩) (by decide +kernel) rfl
theorem w_co_X8_number : Cond.code yX8_number cX8_number 4 (some .int) ∈ wsA := w_in 689 (by decide +kernel) (by decide +kernel)
theorem w_im_X8_number : Cond.instanceMethod yX8_number ∈ wsA := w_in 687 (by decide +kernel) (by decide +kernel)
theorem w_se_X8_number : Cond.selects yX8_number.cls yX8_number yX8_number ∈ wsA := w_in 688 (by decide +kernel) (by decide +kernel)
theorem w_ml_X1_39 : Cond.methodLink RX1 39 yX8_number ∈ wsA := w_in 686 (by decide +kernel) (by decide +kernel)
theorem mv_X1_39 : z_YV RX1 39 yX8_number cX8_number 4 (some .int) 7 2 := z_YV.of (T := TX8) (N := 6) (List.forall_mem_cons.mpr ⟨w_ml_X1_39, List.forall_mem_cons.mpr ⟨w_im_X8_number, List.forall_mem_cons.mpr ⟨w_se_X8_number, List.forall_mem_cons.mpr ⟨w_in_X8, List.forall_mem_cons.mpr ⟨w_co_X8_number, fun _ h => absurd h List.not_mem_nil⟩⟩⟩⟩⟩) (by decide +kernel) rfl
theorem w_co_X8_refuse : Cond.code yX8_refuse cX8_refuse 1 none ∈ wsA := w_in 685 (by decide +kernel) (by decide +kernel)
theorem w_im_X8_refuse : Cond.instanceMethod yX8_refuse ∈ wsA := w_in 683 (by decide +kernel) (by decide +kernel)
theorem w_se_X8_refuse : Cond.selects yX8_refuse.cls yX8_refuse yX8_refuse ∈ wsA := w_in 684 (by decide +kernel) (by decide +kernel)
theorem w_ml_X1_67 : Cond.methodLink RX1 67 yX8_refuse ∈ wsA := w_in 707 (by decide +kernel) (by decide +kernel)
theorem mv_X1_67 : z_YV RX1 67 yX8_refuse cX8_refuse 1 none 7 0 := z_YV.of (T := TX8) (N := 6) (List.forall_mem_cons.mpr ⟨w_ml_X1_67, List.forall_mem_cons.mpr ⟨w_im_X8_refuse, List.forall_mem_cons.mpr ⟨w_se_X8_refuse, List.forall_mem_cons.mpr ⟨w_in_X8, List.forall_mem_cons.mpr ⟨w_co_X8_refuse, fun _ h => absurd h List.not_mem_nil⟩⟩⟩⟩⟩) (by decide +kernel) rfl
theorem w_co_X8_must : Cond.code yX8_must cX8_must 2 none ∈ wsA := w_in 680 (by decide +kernel) (by decide +kernel)
theorem w_im_X8_must : Cond.instanceMethod yX8_must ∈ wsA := w_in 678 (by decide +kernel) (by decide +kernel)
theorem w_se_X8_must : Cond.selects yX8_must.cls yX8_must yX8_must ∈ wsA := w_in 679 (by decide +kernel) (by decide +kernel)
theorem w_ml_X1_72 : Cond.methodLink RX1 72 yX8_must ∈ wsA := w_in 677 (by decide +kernel) (by decide +kernel)
theorem mv_X1_72 : z_YV RX1 72 yX8_must cX8_must 2 none 7 1 := z_YV.of (T := TX8) (N := 6) (List.forall_mem_cons.mpr ⟨w_ml_X1_72, List.forall_mem_cons.mpr ⟨w_im_X8_must, List.forall_mem_cons.mpr ⟨w_se_X8_must, List.forall_mem_cons.mpr ⟨w_in_X8, List.forall_mem_cons.mpr ⟨w_co_X8_must, fun _ h => absurd h List.not_mem_nil⟩⟩⟩⟩⟩) (by decide +kernel) rfl
theorem w_co_X1_readOpenCradle : Cond.code yX1_readOpenCradle cX1_readOpenCradle 2 (some .int) ∈ wsA := w_in 704 (by decide +kernel) (by decide +kernel)
theorem w_im_X1_readOpenCradle : Cond.instanceMethod yX1_readOpenCradle ∈ wsA := w_in 703 (by decide +kernel) (by decide +kernel)
theorem w_se_X1_readOpenCradle : Cond.selects yX1_readOpenCradle.cls yX1_readOpenCradle yX1_readOpenCradle ∈ wsA := w_pr 15 (by decide +kernel) (by decide +kernel)
theorem w_ml_X1_82 : Cond.methodLink RX1 82 yX1_readOpenCradle ∈ wsA := w_in 701 (by decide +kernel) (by decide +kernel)
theorem mv_X1_82 : z_YV RX1 82 yX1_readOpenCradle cX1_readOpenCradle 2 (some .int) 1 0 := z_YV.of (T := TX1) (N := 3) (List.forall_mem_cons.mpr ⟨w_ml_X1_82, List.forall_mem_cons.mpr ⟨w_im_X1_readOpenCradle, List.forall_mem_cons.mpr ⟨w_se_X1_readOpenCradle, List.forall_mem_cons.mpr ⟨w_in_X1, List.forall_mem_cons.mpr ⟨w_co_X1_readOpenCradle, fun _ h => absurd h List.not_mem_nil⟩⟩⟩⟩⟩) (by decide +kernel) rfl
theorem w_co_X9_enlist : Cond.code yX9_enlist cX9_enlist 6 none ∈ wsA := w_in 712 (by decide +kernel) (by decide +kernel)
theorem w_im_X9_enlist : Cond.instanceMethod yX9_enlist ∈ wsA := w_in 710 (by decide +kernel) (by decide +kernel)
theorem w_se_X9_enlist : Cond.selects yX9_enlist.cls yX9_enlist yX9_enlist ∈ wsA := w_in 711 (by decide +kernel) (by decide +kernel)
theorem w_in_X9 : Cond.initialized RX9 ∈ wsA := w_in 4 (by decide +kernel) (by decide +kernel)
theorem w_ml_X1_89 : Cond.methodLink RX1 89 yX9_enlist ∈ wsA := w_in 709 (by decide +kernel) (by decide +kernel)
theorem mv_X1_89 : z_YV RX1 89 yX9_enlist cX9_enlist 6 none 8 4 := z_YV.of (T := TX9) (N := 20) (List.forall_mem_cons.mpr ⟨w_ml_X1_89, List.forall_mem_cons.mpr ⟨w_im_X9_enlist, List.forall_mem_cons.mpr ⟨w_se_X9_enlist, List.forall_mem_cons.mpr ⟨w_in_X9, List.forall_mem_cons.mpr ⟨w_co_X9_enlist, fun _ h => absurd h List.not_mem_nil⟩⟩⟩⟩⟩) (by decide +kernel) rfl
theorem w_co_X8_value : Cond.code yX8_value cX8_value 5 (some .int) ∈ wsA := w_in 693 (by decide +kernel) (by decide +kernel)
theorem w_im_X8_value : Cond.instanceMethod yX8_value ∈ wsA := w_in 691 (by decide +kernel) (by decide +kernel)
theorem w_se_X8_value : Cond.selects yX8_value.cls yX8_value yX8_value ∈ wsA := w_in 692 (by decide +kernel) (by decide +kernel)
theorem w_ml_X1_93 : Cond.methodLink RX1 93 yX8_value ∈ wsA := w_in 705 (by decide +kernel) (by decide +kernel)
theorem mv_X1_93 : z_YV RX1 93 yX8_value cX8_value 5 (some .int) 7 0 := z_YV.of (T := TX8) (N := 6) (List.forall_mem_cons.mpr ⟨w_ml_X1_93, List.forall_mem_cons.mpr ⟨w_im_X8_value, List.forall_mem_cons.mpr ⟨w_se_X8_value, List.forall_mem_cons.mpr ⟨w_in_X8, List.forall_mem_cons.mpr ⟨w_co_X8_value, fun _ h => absurd h List.not_mem_nil⟩⟩⟩⟩⟩) (by decide +kernel) rfl
theorem w_co_X9_isOpen : Cond.code yX9_isOpen cX9_isOpen 2 (some .boolean) ∈ wsA := w_in 446 (by decide +kernel) (by decide +kernel)
theorem w_im_X9_isOpen : Cond.instanceMethod yX9_isOpen ∈ wsA := w_in 444 (by decide +kernel) (by decide +kernel)
theorem w_se_X9_isOpen : Cond.selects yX9_isOpen.cls yX9_isOpen yX9_isOpen ∈ wsA := w_in 445 (by decide +kernel) (by decide +kernel)
theorem w_ml_X1_96 : Cond.methodLink RX1 96 yX9_isOpen ∈ wsA := w_in 706 (by decide +kernel) (by decide +kernel)
theorem mv_X1_96 : z_YV RX1 96 yX9_isOpen cX9_isOpen 2 (some .boolean) 8 1 := z_YV.of (T := TX9) (N := 20) (List.forall_mem_cons.mpr ⟨w_ml_X1_96, List.forall_mem_cons.mpr ⟨w_im_X9_isOpen, List.forall_mem_cons.mpr ⟨w_se_X9_isOpen, List.forall_mem_cons.mpr ⟨w_in_X9, List.forall_mem_cons.mpr ⟨w_co_X9_isOpen, fun _ h => absurd h List.not_mem_nil⟩⟩⟩⟩⟩) (by decide +kernel) rfl
theorem w_co_X8_pass : Cond.code yX8_pass cX8_pass 1 none ∈ wsA := w_in 697 (by decide +kernel) (by decide +kernel)
theorem w_im_X8_pass : Cond.instanceMethod yX8_pass ∈ wsA := w_in 695 (by decide +kernel) (by decide +kernel)
theorem w_se_X8_pass : Cond.selects yX8_pass.cls yX8_pass yX8_pass ∈ wsA := w_in 696 (by decide +kernel) (by decide +kernel)
theorem w_ml_X1_100 : Cond.methodLink RX1 100 yX8_pass ∈ wsA := w_in 708 (by decide +kernel) (by decide +kernel)
theorem mv_X1_100 : z_YV RX1 100 yX8_pass cX8_pass 1 none 7 0 := z_YV.of (T := TX8) (N := 6) (List.forall_mem_cons.mpr ⟨w_ml_X1_100, List.forall_mem_cons.mpr ⟨w_im_X8_pass, List.forall_mem_cons.mpr ⟨w_se_X8_pass, List.forall_mem_cons.mpr ⟨w_in_X8, List.forall_mem_cons.mpr ⟨w_co_X8_pass, fun _ h => absurd h List.not_mem_nil⟩⟩⟩⟩⟩) (by decide +kernel) rfl
theorem w_co_X4_holds : Cond.code yX4_holds cX4_holds 6 (some .boolean) ∈ wsA := w_in 426 (by decide +kernel) (by decide +kernel)
theorem w_im_X4_holds : Cond.instanceMethod yX4_holds ∈ wsA := w_in 425 (by decide +kernel) (by decide +kernel)
theorem w_se_X4_holds : Cond.selects yX4_holds.cls yX4_holds yX4_holds ∈ wsA := w_pr 1 (by decide +kernel) (by decide +kernel)
theorem w_in_X4 : Cond.initialized RX4 ∈ wsA := w_in 5 (by decide +kernel) (by decide +kernel)
theorem w_ml_X4_55 : Cond.methodLink RX4 55 yX4_holds ∈ wsA := w_in 423 (by decide +kernel) (by decide +kernel)
theorem mv_X4_55 : z_YV RX4 55 yX4_holds cX4_holds 6 (some .boolean) 4 3 := z_YV.of (T := TX4) (N := 8) (List.forall_mem_cons.mpr ⟨w_ml_X4_55, List.forall_mem_cons.mpr ⟨w_im_X4_holds, List.forall_mem_cons.mpr ⟨w_se_X4_holds, List.forall_mem_cons.mpr ⟨w_in_X4, List.forall_mem_cons.mpr ⟨w_co_X4_holds, fun _ h => absurd h List.not_mem_nil⟩⟩⟩⟩⟩) (by decide +kernel) rfl
theorem w_co_X4_worth : Cond.code yX4_worth cX4_worth 7 (some .int) ∈ wsA := w_in 430 (by decide +kernel) (by decide +kernel)
theorem w_im_X4_worth : Cond.instanceMethod yX4_worth ∈ wsA := w_in 429 (by decide +kernel) (by decide +kernel)
theorem w_se_X4_worth : Cond.selects yX4_worth.cls yX4_worth yX4_worth ∈ wsA := w_pr 2 (by decide +kernel) (by decide +kernel)
theorem w_ml_X4_59 : Cond.methodLink RX4 59 yX4_worth ∈ wsA := w_in 427 (by decide +kernel) (by decide +kernel)
theorem mv_X4_59 : z_YV RX4 59 yX4_worth cX4_worth 7 (some .int) 4 2 := z_YV.of (T := TX4) (N := 8) (List.forall_mem_cons.mpr ⟨w_ml_X4_59, List.forall_mem_cons.mpr ⟨w_im_X4_worth, List.forall_mem_cons.mpr ⟨w_se_X4_worth, List.forall_mem_cons.mpr ⟨w_in_X4, List.forall_mem_cons.mpr ⟨w_co_X4_worth, fun _ h => absurd h List.not_mem_nil⟩⟩⟩⟩⟩) (by decide +kernel) rfl
theorem w_ml_X5_43 : Cond.methodLink RX5 43 yX8_takes ∈ wsA := w_in 727 (by decide +kernel) (by decide +kernel)
theorem mv_X5_43 : z_YV RX5 43 yX8_takes cX8_takes 5 (some .boolean) 7 1 := z_YV.of (T := TX8) (N := 6) (List.forall_mem_cons.mpr ⟨w_ml_X5_43, List.forall_mem_cons.mpr ⟨w_im_X8_takes, List.forall_mem_cons.mpr ⟨w_se_X8_takes, List.forall_mem_cons.mpr ⟨w_in_X8, List.forall_mem_cons.mpr ⟨w_co_X8_takes, fun _ h => absurd h List.not_mem_nil⟩⟩⟩⟩⟩) (by decide +kernel) rfl
theorem w_ml_X5_53 : Cond.methodLink RX5 53 yX8_refuse ∈ wsA := w_in 730 (by decide +kernel) (by decide +kernel)
theorem mv_X5_53 : z_YV RX5 53 yX8_refuse cX8_refuse 1 none 7 0 := z_YV.of (T := TX8) (N := 6) (List.forall_mem_cons.mpr ⟨w_ml_X5_53, List.forall_mem_cons.mpr ⟨w_im_X8_refuse, List.forall_mem_cons.mpr ⟨w_se_X8_refuse, List.forall_mem_cons.mpr ⟨w_in_X8, List.forall_mem_cons.mpr ⟨w_co_X8_refuse, fun _ h => absurd h List.not_mem_nil⟩⟩⟩⟩⟩) (by decide +kernel) rfl
theorem w_ml_X5_57 : Cond.methodLink RX5 57 yX8_number ∈ wsA := w_in 731 (by decide +kernel) (by decide +kernel)
theorem mv_X5_57 : z_YV RX5 57 yX8_number cX8_number 4 (some .int) 7 2 := z_YV.of (T := TX8) (N := 6) (List.forall_mem_cons.mpr ⟨w_ml_X5_57, List.forall_mem_cons.mpr ⟨w_im_X8_number, List.forall_mem_cons.mpr ⟨w_se_X8_number, List.forall_mem_cons.mpr ⟨w_in_X8, List.forall_mem_cons.mpr ⟨w_co_X8_number, fun _ h => absurd h List.not_mem_nil⟩⟩⟩⟩⟩) (by decide +kernel) rfl
theorem w_co_X5_readCondition : Cond.code yX5_readCondition cX5_readCondition 6 (some .int) ∈ wsA := w_in 736 (by decide +kernel) (by decide +kernel)
theorem w_im_X5_readCondition : Cond.instanceMethod yX5_readCondition ∈ wsA := w_in 735 (by decide +kernel) (by decide +kernel)
theorem w_se_X5_readCondition : Cond.selects yX5_readCondition.cls yX5_readCondition yX5_readCondition ∈ wsA := w_pr 16 (by decide +kernel) (by decide +kernel)
theorem w_in_X5 : Cond.initialized RX5 ∈ wsA := w_in 8 (by decide +kernel) (by decide +kernel)
theorem w_ml_X5_63 : Cond.methodLink RX5 63 yX5_readCondition ∈ wsA := w_in 733 (by decide +kernel) (by decide +kernel)
theorem mv_X5_63 : z_YV RX5 63 yX5_readCondition cX5_readCondition 6 (some .int) 5 1 := z_YV.of (T := TX5) (N := 10) (List.forall_mem_cons.mpr ⟨w_ml_X5_63, List.forall_mem_cons.mpr ⟨w_im_X5_readCondition, List.forall_mem_cons.mpr ⟨w_se_X5_readCondition, List.forall_mem_cons.mpr ⟨w_in_X5, List.forall_mem_cons.mpr ⟨w_co_X5_readCondition, fun _ h => absurd h List.not_mem_nil⟩⟩⟩⟩⟩) (by decide +kernel) rfl
theorem w_co_X5_readAtom : Cond.code yX5_readAtom cX5_readAtom 4 (some .int) ∈ wsA := w_in 741 (by decide +kernel) (by decide +kernel)
theorem w_im_X5_readAtom : Cond.instanceMethod yX5_readAtom ∈ wsA := w_in 740 (by decide +kernel) (by decide +kernel)
theorem w_se_X5_readAtom : Cond.selects yX5_readAtom.cls yX5_readAtom yX5_readAtom ∈ wsA := w_pr 17 (by decide +kernel) (by decide +kernel)
theorem w_ml_X5_69 : Cond.methodLink RX5 69 yX5_readAtom ∈ wsA := w_in 738 (by decide +kernel) (by decide +kernel)
theorem mv_X5_69 : z_YV RX5 69 yX5_readAtom cX5_readAtom 4 (some .int) 5 1 := z_YV.of (T := TX5) (N := 10) (List.forall_mem_cons.mpr ⟨w_ml_X5_69, List.forall_mem_cons.mpr ⟨w_im_X5_readAtom, List.forall_mem_cons.mpr ⟨w_se_X5_readAtom, List.forall_mem_cons.mpr ⟨w_in_X5, List.forall_mem_cons.mpr ⟨w_co_X5_readAtom, fun _ h => absurd h List.not_mem_nil⟩⟩⟩⟩⟩) (by decide +kernel) rfl
theorem w_co_X5_node : Cond.code yX5_node cX5_node 4 (some .int) ∈ wsA := w_in 746 (by decide +kernel) (by decide +kernel)
theorem w_im_X5_node : Cond.instanceMethod yX5_node ∈ wsA := w_in 745 (by decide +kernel) (by decide +kernel)
theorem w_se_X5_node : Cond.selects yX5_node.cls yX5_node yX5_node ∈ wsA := w_pr 18 (by decide +kernel) (by decide +kernel)
theorem w_ml_X5_76 : Cond.methodLink RX5 76 yX5_node ∈ wsA := w_in 743 (by decide +kernel) (by decide +kernel)
theorem mv_X5_76 : z_YV RX5 76 yX5_node cX5_node 4 (some .int) 5 3 := z_YV.of (T := TX5) (N := 10) (List.forall_mem_cons.mpr ⟨w_ml_X5_76, List.forall_mem_cons.mpr ⟨w_im_X5_node, List.forall_mem_cons.mpr ⟨w_se_X5_node, List.forall_mem_cons.mpr ⟨w_in_X5, List.forall_mem_cons.mpr ⟨w_co_X5_node, fun _ h => absurd h List.not_mem_nil⟩⟩⟩⟩⟩) (by decide +kernel) rfl
theorem w_ml_X5_86 : Cond.methodLink RX5 86 yX8_must ∈ wsA := w_in 749 (by decide +kernel) (by decide +kernel)
theorem mv_X5_86 : z_YV RX5 86 yX8_must cX8_must 2 none 7 1 := z_YV.of (T := TX8) (N := 6) (List.forall_mem_cons.mpr ⟨w_ml_X5_86, List.forall_mem_cons.mpr ⟨w_im_X8_must, List.forall_mem_cons.mpr ⟨w_se_X8_must, List.forall_mem_cons.mpr ⟨w_in_X8, List.forall_mem_cons.mpr ⟨w_co_X8_must, fun _ h => absurd h List.not_mem_nil⟩⟩⟩⟩⟩) (by decide +kernel) rfl
theorem w_co_X5_readSum : Cond.code yX5_readSum cX5_readSum 3 (some .int) ∈ wsA := w_in 755 (by decide +kernel) (by decide +kernel)
theorem w_im_X5_readSum : Cond.instanceMethod yX5_readSum ∈ wsA := w_in 754 (by decide +kernel) (by decide +kernel)
theorem w_se_X5_readSum : Cond.selects yX5_readSum.cls yX5_readSum yX5_readSum ∈ wsA := w_pr 19 (by decide +kernel) (by decide +kernel)
theorem w_ml_X5_94 : Cond.methodLink RX5 94 yX5_readSum ∈ wsA := w_in 752 (by decide +kernel) (by decide +kernel)
theorem mv_X5_94 : z_YV RX5 94 yX5_readSum cX5_readSum 3 (some .int) 5 0 := z_YV.of (T := TX5) (N := 10) (List.forall_mem_cons.mpr ⟨w_ml_X5_94, List.forall_mem_cons.mpr ⟨w_im_X5_readSum, List.forall_mem_cons.mpr ⟨w_se_X5_readSum, List.forall_mem_cons.mpr ⟨w_in_X5, List.forall_mem_cons.mpr ⟨w_co_X5_readSum, fun _ h => absurd h List.not_mem_nil⟩⟩⟩⟩⟩) (by decide +kernel) rfl
theorem w_co_X5_readPart : Cond.code yX5_readPart cX5_readPart 3 (some .int) ∈ wsA := w_in 759 (by decide +kernel) (by decide +kernel)
theorem w_im_X5_readPart : Cond.instanceMethod yX5_readPart ∈ wsA := w_in 758 (by decide +kernel) (by decide +kernel)
theorem w_se_X5_readPart : Cond.selects yX5_readPart.cls yX5_readPart yX5_readPart ∈ wsA := w_pr 20 (by decide +kernel) (by decide +kernel)
theorem w_ml_X5_102 : Cond.methodLink RX5 102 yX5_readPart ∈ wsA := w_in 756 (by decide +kernel) (by decide +kernel)
theorem mv_X5_102 : z_YV RX5 102 yX5_readPart cX5_readPart 3 (some .int) 5 0 := z_YV.of (T := TX5) (N := 10) (List.forall_mem_cons.mpr ⟨w_ml_X5_102, List.forall_mem_cons.mpr ⟨w_im_X5_readPart, List.forall_mem_cons.mpr ⟨w_se_X5_readPart, List.forall_mem_cons.mpr ⟨w_in_X5, List.forall_mem_cons.mpr ⟨w_co_X5_readPart, fun _ h => absurd h List.not_mem_nil⟩⟩⟩⟩⟩) (by decide +kernel) rfl
theorem w_ml_X5_107 : Cond.methodLink RX5 107 yX8_value ∈ wsA := w_in 760 (by decide +kernel) (by decide +kernel)
theorem mv_X5_107 : z_YV RX5 107 yX8_value cX8_value 5 (some .int) 7 0 := z_YV.of (T := TX8) (N := 6) (List.forall_mem_cons.mpr ⟨w_ml_X5_107, List.forall_mem_cons.mpr ⟨w_im_X8_value, List.forall_mem_cons.mpr ⟨w_se_X8_value, List.forall_mem_cons.mpr ⟨w_in_X8, List.forall_mem_cons.mpr ⟨w_co_X8_value, fun _ h => absurd h List.not_mem_nil⟩⟩⟩⟩⟩) (by decide +kernel) rfl
theorem w_ml_X5_110 : Cond.methodLink RX5 110 yX8_pass ∈ wsA := w_in 761 (by decide +kernel) (by decide +kernel)
theorem mv_X5_110 : z_YV RX5 110 yX8_pass cX8_pass 1 none 7 0 := z_YV.of (T := TX8) (N := 6) (List.forall_mem_cons.mpr ⟨w_ml_X5_110, List.forall_mem_cons.mpr ⟨w_im_X8_pass, List.forall_mem_cons.mpr ⟨w_se_X8_pass, List.forall_mem_cons.mpr ⟨w_in_X8, List.forall_mem_cons.mpr ⟨w_co_X8_pass, fun _ h => absurd h List.not_mem_nil⟩⟩⟩⟩⟩) (by decide +kernel) rfl
theorem w_ml_X8_53 : Cond.methodLink RX8 53 yX8_takes ∈ wsA := w_in 681 (by decide +kernel) (by decide +kernel)
theorem mv_X8_53 : z_YV RX8 53 yX8_takes cX8_takes 5 (some .boolean) 7 1 := z_YV.of (T := TX8) (N := 6) (List.forall_mem_cons.mpr ⟨w_ml_X8_53, List.forall_mem_cons.mpr ⟨w_im_X8_takes, List.forall_mem_cons.mpr ⟨w_se_X8_takes, List.forall_mem_cons.mpr ⟨w_in_X8, List.forall_mem_cons.mpr ⟨w_co_X8_takes, fun _ h => absurd h List.not_mem_nil⟩⟩⟩⟩⟩) (by decide +kernel) rfl
theorem w_ml_X8_57 : Cond.methodLink RX8 57 yX8_refuse ∈ wsA := w_in 682 (by decide +kernel) (by decide +kernel)
theorem mv_X8_57 : z_YV RX8 57 yX8_refuse cX8_refuse 1 none 7 0 := z_YV.of (T := TX8) (N := 6) (List.forall_mem_cons.mpr ⟨w_ml_X8_57, List.forall_mem_cons.mpr ⟨w_im_X8_refuse, List.forall_mem_cons.mpr ⟨w_se_X8_refuse, List.forall_mem_cons.mpr ⟨w_in_X8, List.forall_mem_cons.mpr ⟨w_co_X8_refuse, fun _ h => absurd h List.not_mem_nil⟩⟩⟩⟩⟩) (by decide +kernel) rfl
theorem w_ml_X8_60 : Cond.methodLink RX8 60 yX8_value ∈ wsA := w_in 690 (by decide +kernel) (by decide +kernel)
theorem mv_X8_60 : z_YV RX8 60 yX8_value cX8_value 5 (some .int) 7 0 := z_YV.of (T := TX8) (N := 6) (List.forall_mem_cons.mpr ⟨w_ml_X8_60, List.forall_mem_cons.mpr ⟨w_im_X8_value, List.forall_mem_cons.mpr ⟨w_se_X8_value, List.forall_mem_cons.mpr ⟨w_in_X8, List.forall_mem_cons.mpr ⟨w_co_X8_value, fun _ h => absurd h List.not_mem_nil⟩⟩⟩⟩⟩) (by decide +kernel) rfl
theorem w_ml_X8_63 : Cond.methodLink RX8 63 yX8_pass ∈ wsA := w_in 694 (by decide +kernel) (by decide +kernel)
theorem mv_X8_63 : z_YV RX8 63 yX8_pass cX8_pass 1 none 7 0 := z_YV.of (T := TX8) (N := 6) (List.forall_mem_cons.mpr ⟨w_ml_X8_63, List.forall_mem_cons.mpr ⟨w_im_X8_pass, List.forall_mem_cons.mpr ⟨w_se_X8_pass, List.forall_mem_cons.mpr ⟨w_in_X8, List.forall_mem_cons.mpr ⟨w_co_X8_pass, fun _ h => absurd h List.not_mem_nil⟩⟩⟩⟩⟩) (by decide +kernel) rfl
theorem w_co_X9_places : Cond.code yX9_places cX9_places 2 (some .int) ∈ wsA := w_in 411 (by decide +kernel) (by decide +kernel)
theorem w_im_X9_places : Cond.instanceMethod yX9_places ∈ wsA := w_in 409 (by decide +kernel) (by decide +kernel)
theorem w_se_X9_places : Cond.selects yX9_places.cls yX9_places yX9_places ∈ wsA := w_in 410 (by decide +kernel) (by decide +kernel)
theorem w_ml_X9_83 : Cond.methodLink RX9 83 yX9_places ∈ wsA := w_in 408 (by decide +kernel) (by decide +kernel)
theorem mv_X9_83 : z_YV RX9 83 yX9_places cX9_places 2 (some .int) 8 1 := z_YV.of (T := TX9) (N := 20) (List.forall_mem_cons.mpr ⟨w_ml_X9_83, List.forall_mem_cons.mpr ⟨w_im_X9_places, List.forall_mem_cons.mpr ⟨w_se_X9_places, List.forall_mem_cons.mpr ⟨w_in_X9, List.forall_mem_cons.mpr ⟨w_co_X9_places, fun _ h => absurd h List.not_mem_nil⟩⟩⟩⟩⟩) (by decide +kernel) rfl
theorem w_co_X9_ridersIn : Cond.code yX9_ridersIn cX9_ridersIn 4 (some .int) ∈ wsA := w_in 418 (by decide +kernel) (by decide +kernel)
theorem w_im_X9_ridersIn : Cond.instanceMethod yX9_ridersIn ∈ wsA := w_in 416 (by decide +kernel) (by decide +kernel)
theorem w_se_X9_ridersIn : Cond.selects yX9_ridersIn.cls yX9_ridersIn yX9_ridersIn ∈ wsA := w_in 417 (by decide +kernel) (by decide +kernel)
theorem w_ml_X9_92 : Cond.methodLink RX9 92 yX9_ridersIn ∈ wsA := w_in 415 (by decide +kernel) (by decide +kernel)
theorem mv_X9_92 : z_YV RX9 92 yX9_ridersIn cX9_ridersIn 4 (some .int) 8 1 := z_YV.of (T := TX9) (N := 20) (List.forall_mem_cons.mpr ⟨w_ml_X9_92, List.forall_mem_cons.mpr ⟨w_im_X9_ridersIn, List.forall_mem_cons.mpr ⟨w_se_X9_ridersIn, List.forall_mem_cons.mpr ⟨w_in_X9, List.forall_mem_cons.mpr ⟨w_co_X9_ridersIn, fun _ h => absurd h List.not_mem_nil⟩⟩⟩⟩⟩) (by decide +kernel) rfl
theorem w_co_X9_getOff : Cond.code yX9_getOff cX9_getOff 2 none ∈ wsA := w_in 716 (by decide +kernel) (by decide +kernel)
theorem w_im_X9_getOff : Cond.instanceMethod yX9_getOff ∈ wsA := w_in 714 (by decide +kernel) (by decide +kernel)
theorem w_se_X9_getOff : Cond.selects yX9_getOff.cls yX9_getOff yX9_getOff ∈ wsA := w_in 715 (by decide +kernel) (by decide +kernel)
theorem w_ml_X9_100 : Cond.methodLink RX9 100 yX9_getOff ∈ wsA := w_in 713 (by decide +kernel) (by decide +kernel)
theorem mv_X9_100 : z_YV RX9 100 yX9_getOff cX9_getOff 2 none 8 1 := z_YV.of (T := TX9) (N := 20) (List.forall_mem_cons.mpr ⟨w_ml_X9_100, List.forall_mem_cons.mpr ⟨w_im_X9_getOff, List.forall_mem_cons.mpr ⟨w_se_X9_getOff, List.forall_mem_cons.mpr ⟨w_in_X9, List.forall_mem_cons.mpr ⟨w_co_X9_getOff, fun _ h => absurd h List.not_mem_nil⟩⟩⟩⟩⟩) (by decide +kernel) rfl
theorem w_co_X9_queuedAt : Cond.code yX9_queuedAt cX9_queuedAt 3 (some .int) ∈ wsA := w_in 940 (by decide +kernel) (by decide +kernel)
theorem w_im_X9_queuedAt : Cond.instanceMethod yX9_queuedAt ∈ wsA := w_in 938 (by decide +kernel) (by decide +kernel)
theorem w_se_X9_queuedAt : Cond.selects yX9_queuedAt.cls yX9_queuedAt yX9_queuedAt ∈ wsA := w_in 939 (by decide +kernel) (by decide +kernel)
theorem w_ml_X9_104 : Cond.methodLink RX9 104 yX9_queuedAt ∈ wsA := w_in 1024 (by decide +kernel) (by decide +kernel)
theorem mv_X9_104 : z_YV RX9 104 yX9_queuedAt cX9_queuedAt 3 (some .int) 8 1 := z_YV.of (T := TX9) (N := 20) (List.forall_mem_cons.mpr ⟨w_ml_X9_104, List.forall_mem_cons.mpr ⟨w_im_X9_queuedAt, List.forall_mem_cons.mpr ⟨w_se_X9_queuedAt, List.forall_mem_cons.mpr ⟨w_in_X9, List.forall_mem_cons.mpr ⟨w_co_X9_queuedAt, fun _ h => absurd h List.not_mem_nil⟩⟩⟩⟩⟩) (by decide +kernel) rfl
theorem w_co_X9_firstIn : Cond.code yX9_firstIn cX9_firstIn 3 (some .int) ∈ wsA := w_in 390 (by decide +kernel) (by decide +kernel)
theorem w_im_X9_firstIn : Cond.instanceMethod yX9_firstIn ∈ wsA := w_in 388 (by decide +kernel) (by decide +kernel)
theorem w_se_X9_firstIn : Cond.selects yX9_firstIn.cls yX9_firstIn yX9_firstIn ∈ wsA := w_in 389 (by decide +kernel) (by decide +kernel)
theorem w_ml_X9_107 : Cond.methodLink RX9 107 yX9_firstIn ∈ wsA := w_in 399 (by decide +kernel) (by decide +kernel)
theorem mv_X9_107 : z_YV RX9 107 yX9_firstIn cX9_firstIn 3 (some .int) 8 1 := z_YV.of (T := TX9) (N := 20) (List.forall_mem_cons.mpr ⟨w_ml_X9_107, List.forall_mem_cons.mpr ⟨w_im_X9_firstIn, List.forall_mem_cons.mpr ⟨w_se_X9_firstIn, List.forall_mem_cons.mpr ⟨w_in_X9, List.forall_mem_cons.mpr ⟨w_co_X9_firstIn, fun _ h => absurd h List.not_mem_nil⟩⟩⟩⟩⟩) (by decide +kernel) rfl
theorem w_co_X9_tellFacts : Cond.code yX9_tellFacts cX9_tellFacts 4 none ∈ wsA := w_in 403 (by decide +kernel) (by decide +kernel)
theorem w_im_X9_tellFacts : Cond.instanceMethod yX9_tellFacts ∈ wsA := w_in 402 (by decide +kernel) (by decide +kernel)
theorem w_se_X9_tellFacts : Cond.selects yX9_tellFacts.cls yX9_tellFacts yX9_tellFacts ∈ wsA := w_pr 0 (by decide +kernel) (by decide +kernel)
theorem w_ml_X9_110 : Cond.methodLink RX9 110 yX9_tellFacts ∈ wsA := w_in 400 (by decide +kernel) (by decide +kernel)
theorem mv_X9_110 : z_YV RX9 110 yX9_tellFacts cX9_tellFacts 4 none 8 1 := z_YV.of (T := TX9) (N := 20) (List.forall_mem_cons.mpr ⟨w_ml_X9_110, List.forall_mem_cons.mpr ⟨w_im_X9_tellFacts, List.forall_mem_cons.mpr ⟨w_se_X9_tellFacts, List.forall_mem_cons.mpr ⟨w_in_X9, List.forall_mem_cons.mpr ⟨w_co_X9_tellFacts, fun _ h => absurd h List.not_mem_nil⟩⟩⟩⟩⟩) (by decide +kernel) rfl
theorem w_co_X4_total : Cond.code yX4_total cX4_total 8 (some .int) ∈ wsA := w_in 422 (by decide +kernel) (by decide +kernel)
theorem w_im_X4_total : Cond.instanceMethod yX4_total ∈ wsA := w_in 420 (by decide +kernel) (by decide +kernel)
theorem w_se_X4_total : Cond.selects yX4_total.cls yX4_total yX4_total ∈ wsA := w_in 421 (by decide +kernel) (by decide +kernel)
theorem w_ml_X9_113 : Cond.methodLink RX9 113 yX4_total ∈ wsA := w_in 419 (by decide +kernel) (by decide +kernel)
theorem mv_X9_113 : z_YV RX9 113 yX4_total cX4_total 8 (some .int) 4 3 := z_YV.of (T := TX4) (N := 8) (List.forall_mem_cons.mpr ⟨w_ml_X9_113, List.forall_mem_cons.mpr ⟨w_im_X4_total, List.forall_mem_cons.mpr ⟨w_se_X4_total, List.forall_mem_cons.mpr ⟨w_in_X4, List.forall_mem_cons.mpr ⟨w_co_X4_total, fun _ h => absurd h List.not_mem_nil⟩⟩⟩⟩⟩) (by decide +kernel) rfl
theorem w_co_X9_height : Cond.code yX9_height cX9_height 2 (some .int) ∈ wsA := w_in 407 (by decide +kernel) (by decide +kernel)
theorem w_im_X9_height : Cond.instanceMethod yX9_height ∈ wsA := w_in 405 (by decide +kernel) (by decide +kernel)
theorem w_se_X9_height : Cond.selects yX9_height.cls yX9_height yX9_height ∈ wsA := w_in 406 (by decide +kernel) (by decide +kernel)
theorem w_ml_X9_121 : Cond.methodLink RX9 121 yX9_height ∈ wsA := w_in 404 (by decide +kernel) (by decide +kernel)
theorem mv_X9_121 : z_YV RX9 121 yX9_height cX9_height 2 (some .int) 8 1 := z_YV.of (T := TX9) (N := 20) (List.forall_mem_cons.mpr ⟨w_ml_X9_121, List.forall_mem_cons.mpr ⟨w_im_X9_height, List.forall_mem_cons.mpr ⟨w_se_X9_height, List.forall_mem_cons.mpr ⟨w_in_X9, List.forall_mem_cons.mpr ⟨w_co_X9_height, fun _ h => absurd h List.not_mem_nil⟩⟩⟩⟩⟩) (by decide +kernel) rfl
theorem w_co_X9_goesFarther : Cond.code yX9_goesFarther cX9_goesFarther 2 (some .int) ∈ wsA := w_in 398 (by decide +kernel) (by decide +kernel)
theorem w_im_X9_goesFarther : Cond.instanceMethod yX9_goesFarther ∈ wsA := w_in 396 (by decide +kernel) (by decide +kernel)
theorem w_se_X9_goesFarther : Cond.selects yX9_goesFarther.cls yX9_goesFarther yX9_goesFarther ∈ wsA := w_in 397 (by decide +kernel) (by decide +kernel)
theorem w_ml_X9_125 : Cond.methodLink RX9 125 yX9_goesFarther ∈ wsA := w_in 1093 (by decide +kernel) (by decide +kernel)
theorem mv_X9_125 : z_YV RX9 125 yX9_goesFarther cX9_goesFarther 2 (some .int) 8 0 := z_YV.of (T := TX9) (N := 20) (List.forall_mem_cons.mpr ⟨w_ml_X9_125, List.forall_mem_cons.mpr ⟨w_im_X9_goesFarther, List.forall_mem_cons.mpr ⟨w_se_X9_goesFarther, List.forall_mem_cons.mpr ⟨w_in_X9, List.forall_mem_cons.mpr ⟨w_co_X9_goesFarther, fun _ h => absurd h List.not_mem_nil⟩⟩⟩⟩⟩) (by decide +kernel) rfl
theorem w_co_X9_collect : Cond.code yX9_collect cX9_collect 5 (some .int) ∈ wsA := w_in 1097 (by decide +kernel) (by decide +kernel)
theorem w_im_X9_collect : Cond.instanceMethod yX9_collect ∈ wsA := w_in 1096 (by decide +kernel) (by decide +kernel)
theorem w_se_X9_collect : Cond.selects yX9_collect.cls yX9_collect yX9_collect ∈ wsA := w_pr 27 (by decide +kernel) (by decide +kernel)
theorem w_ml_X9_129 : Cond.methodLink RX9 129 yX9_collect ∈ wsA := w_in 1094 (by decide +kernel) (by decide +kernel)
theorem mv_X9_129 : z_YV RX9 129 yX9_collect cX9_collect 5 (some .int) 8 1 := z_YV.of (T := TX9) (N := 20) (List.forall_mem_cons.mpr ⟨w_ml_X9_129, List.forall_mem_cons.mpr ⟨w_im_X9_collect, List.forall_mem_cons.mpr ⟨w_se_X9_collect, List.forall_mem_cons.mpr ⟨w_in_X9, List.forall_mem_cons.mpr ⟨w_co_X9_collect, fun _ h => absurd h List.not_mem_nil⟩⟩⟩⟩⟩) (by decide +kernel) rfl
theorem w_co_X9_fill : Cond.code yX9_fill cX9_fill 4 none ∈ wsA := w_in 1103 (by decide +kernel) (by decide +kernel)
theorem w_im_X9_fill : Cond.instanceMethod yX9_fill ∈ wsA := w_in 1102 (by decide +kernel) (by decide +kernel)
theorem w_se_X9_fill : Cond.selects yX9_fill.cls yX9_fill yX9_fill ∈ wsA := w_pr 28 (by decide +kernel) (by decide +kernel)
theorem w_ml_X9_132 : Cond.methodLink RX9 132 yX9_fill ∈ wsA := w_in 1100 (by decide +kernel) (by decide +kernel)
theorem mv_X9_132 : z_YV RX9 132 yX9_fill cX9_fill 4 none 8 1 := z_YV.of (T := TX9) (N := 20) (List.forall_mem_cons.mpr ⟨w_ml_X9_132, List.forall_mem_cons.mpr ⟨w_im_X9_fill, List.forall_mem_cons.mpr ⟨w_se_X9_fill, List.forall_mem_cons.mpr ⟨w_in_X9, List.forall_mem_cons.mpr ⟨w_co_X9_fill, fun _ h => absurd h List.not_mem_nil⟩⟩⟩⟩⟩) (by decide +kernel) rfl
theorem w_co_X9_blow : Cond.code yX9_blow cX9_blow 3 none ∈ wsA := w_in 1113 (by decide +kernel) (by decide +kernel)
theorem w_im_X9_blow : Cond.instanceMethod yX9_blow ∈ wsA := w_in 1112 (by decide +kernel) (by decide +kernel)
theorem w_se_X9_blow : Cond.selects yX9_blow.cls yX9_blow yX9_blow ∈ wsA := w_pr 30 (by decide +kernel) (by decide +kernel)
theorem w_ml_X9_135 : Cond.methodLink RX9 135 yX9_blow ∈ wsA := w_in 1110 (by decide +kernel) (by decide +kernel)
theorem mv_X9_135 : z_YV RX9 135 yX9_blow cX9_blow 3 none 8 0 := z_YV.of (T := TX9) (N := 20) (List.forall_mem_cons.mpr ⟨w_ml_X9_135, List.forall_mem_cons.mpr ⟨w_im_X9_blow, List.forall_mem_cons.mpr ⟨w_se_X9_blow, List.forall_mem_cons.mpr ⟨w_in_X9, List.forall_mem_cons.mpr ⟨w_co_X9_blow, fun _ h => absurd h List.not_mem_nil⟩⟩⟩⟩⟩) (by decide +kernel) rfl
theorem w_co_X9_owesBy : Cond.code yX9_owesBy cX9_owesBy 4 (some .int) ∈ wsA := w_in 930 (by decide +kernel) (by decide +kernel)
theorem w_im_X9_owesBy : Cond.instanceMethod yX9_owesBy ∈ wsA := w_in 928 (by decide +kernel) (by decide +kernel)
theorem w_se_X9_owesBy : Cond.selects yX9_owesBy.cls yX9_owesBy yX9_owesBy ∈ wsA := w_in 929 (by decide +kernel) (by decide +kernel)
theorem w_ml_X9_141 : Cond.methodLink RX9 141 yX9_owesBy ∈ wsA := w_in 1098 (by decide +kernel) (by decide +kernel)
theorem mv_X9_141 : z_YV RX9 141 yX9_owesBy cX9_owesBy 4 (some .int) 8 2 := z_YV.of (T := TX9) (N := 20) (List.forall_mem_cons.mpr ⟨w_ml_X9_141, List.forall_mem_cons.mpr ⟨w_im_X9_owesBy, List.forall_mem_cons.mpr ⟨w_se_X9_owesBy, List.forall_mem_cons.mpr ⟨w_in_X9, List.forall_mem_cons.mpr ⟨w_co_X9_owesBy, fun _ h => absurd h List.not_mem_nil⟩⟩⟩⟩⟩) (by decide +kernel) rfl
theorem w_co_X9_firstWithMoney : Cond.code yX9_firstWithMoney cX9_firstWithMoney 2 (some .int) ∈ wsA := w_in 1107 (by decide +kernel) (by decide +kernel)
theorem w_im_X9_firstWithMoney : Cond.instanceMethod yX9_firstWithMoney ∈ wsA := w_in 1106 (by decide +kernel) (by decide +kernel)
theorem w_se_X9_firstWithMoney : Cond.selects yX9_firstWithMoney.cls yX9_firstWithMoney yX9_firstWithMoney ∈ wsA := w_pr 29 (by decide +kernel) (by decide +kernel)
theorem w_ml_X9_144 : Cond.methodLink RX9 144 yX9_firstWithMoney ∈ wsA := w_in 1104 (by decide +kernel) (by decide +kernel)
theorem mv_X9_144 : z_YV RX9 144 yX9_firstWithMoney cX9_firstWithMoney 2 (some .int) 8 0 := z_YV.of (T := TX9) (N := 20) (List.forall_mem_cons.mpr ⟨w_ml_X9_144, List.forall_mem_cons.mpr ⟨w_im_X9_firstWithMoney, List.forall_mem_cons.mpr ⟨w_se_X9_firstWithMoney, List.forall_mem_cons.mpr ⟨w_in_X9, List.forall_mem_cons.mpr ⟨w_co_X9_firstWithMoney, fun _ h => absurd h List.not_mem_nil⟩⟩⟩⟩⟩) (by decide +kernel) rfl
theorem w_ml_X9_147 : Cond.methodLink RX9 147 yX9_isOpen ∈ wsA := w_in 1108 (by decide +kernel) (by decide +kernel)
theorem mv_X9_147 : z_YV RX9 147 yX9_isOpen cX9_isOpen 2 (some .boolean) 8 1 := z_YV.of (T := TX9) (N := 20) (List.forall_mem_cons.mpr ⟨w_ml_X9_147, List.forall_mem_cons.mpr ⟨w_im_X9_isOpen, List.forall_mem_cons.mpr ⟨w_se_X9_isOpen, List.forall_mem_cons.mpr ⟨w_in_X9, List.forall_mem_cons.mpr ⟨w_co_X9_isOpen, fun _ h => absurd h List.not_mem_nil⟩⟩⟩⟩⟩) (by decide +kernel) rfl
theorem w_co_X9_getIn : Cond.code yX9_getIn cX9_getIn 5 none ∈ wsA := w_in 1023 (by decide +kernel) (by decide +kernel)
theorem w_im_X9_getIn : Cond.instanceMethod yX9_getIn ∈ wsA := w_in 1021 (by decide +kernel) (by decide +kernel)
theorem w_se_X9_getIn : Cond.selects yX9_getIn.cls yX9_getIn yX9_getIn ∈ wsA := w_in 1022 (by decide +kernel) (by decide +kernel)
theorem w_ml_X9_151 : Cond.methodLink RX9 151 yX9_getIn ∈ wsA := w_in 1109 (by decide +kernel) (by decide +kernel)
theorem mv_X9_151 : z_YV RX9 151 yX9_getIn cX9_getIn 5 none 8 2 := z_YV.of (T := TX9) (N := 20) (List.forall_mem_cons.mpr ⟨w_ml_X9_151, List.forall_mem_cons.mpr ⟨w_im_X9_getIn, List.forall_mem_cons.mpr ⟨w_se_X9_getIn, List.forall_mem_cons.mpr ⟨w_in_X9, List.forall_mem_cons.mpr ⟨w_co_X9_getIn, fun _ h => absurd h List.not_mem_nil⟩⟩⟩⟩⟩) (by decide +kernel) rfl
theorem w_co_X9_draw : Cond.code yX9_draw cX9_draw 1 (some .int) ∈ wsA := w_in 1087 (by decide +kernel) (by decide +kernel)
theorem w_im_X9_draw : Cond.instanceMethod yX9_draw ∈ wsA := w_in 1085 (by decide +kernel) (by decide +kernel)
theorem w_se_X9_draw : Cond.selects yX9_draw.cls yX9_draw yX9_draw ∈ wsA := w_in 1086 (by decide +kernel) (by decide +kernel)
theorem w_ml_X9_155 : Cond.methodLink RX9 155 yX9_draw ∈ wsA := w_in 1114 (by decide +kernel) (by decide +kernel)
theorem mv_X9_155 : z_YV RX9 155 yX9_draw cX9_draw 1 (some .int) 8 0 := z_YV.of (T := TX9) (N := 20) (List.forall_mem_cons.mpr ⟨w_ml_X9_155, List.forall_mem_cons.mpr ⟨w_im_X9_draw, List.forall_mem_cons.mpr ⟨w_se_X9_draw, List.forall_mem_cons.mpr ⟨w_in_X9, List.forall_mem_cons.mpr ⟨w_co_X9_draw, fun _ h => absurd h List.not_mem_nil⟩⟩⟩⟩⟩) (by decide +kernel) rfl
theorem w_min_Math : Cond.initialized "java/lang/Math" ∈ wsA := w_in 25 (by decide +kernel) (by decide +kernel)
theorem w_mst_min : Cond.static Lib.Math.min.name ∈ wsA := w_in 895 (by decide +kernel) (by decide +kernel)
theorem w_mco_min : Cond.code Lib.Math.min.name Lib.Math.min.code 2 (some .int) ∈ wsA := w_in 896 (by decide +kernel) (by decide +kernel)
theorem w_mm_X2_28 : Cond.methodLink RX2 28 Lib.Math.min.name ∈ wsA := w_in 1119 (by decide +kernel) (by decide +kernel)
theorem w_mm_X7_19 : Cond.methodLink RX7 19 Lib.Math.min.name ∈ wsA := w_in 1190 (by decide +kernel) (by decide +kernel)
theorem w_mst_max : Cond.static Lib.Math.max.name ∈ wsA := w_in 519 (by decide +kernel) (by decide +kernel)
theorem w_mco_max : Cond.code Lib.Math.max.name Lib.Math.max.code 2 (some .int) ∈ wsA := w_in 520 (by decide +kernel) (by decide +kernel)
theorem w_mm_X7_25 : Cond.methodLink RX7 25 Lib.Math.max.name ∈ wsA := w_in 1195 (by decide +kernel) (by decide +kernel)
theorem w_mst_abs : Cond.static Lib.Math.abs.name ∈ wsA := w_in 413 (by decide +kernel) (by decide +kernel)
theorem w_mco_abs : Cond.code Lib.Math.abs.name Lib.Math.abs.code 1 (some .int) ∈ wsA := w_in 414 (by decide +kernel) (by decide +kernel)
theorem w_mm_X9_87 : Cond.methodLink RX9 87 Lib.Math.abs.name ∈ wsA := w_in 412 (by decide +kernel) (by decide +kernel)
theorem w_mm_X9_117 : Cond.methodLink RX9 117 Lib.Math.max.name ∈ wsA := w_in 931 (by decide +kernel) (by decide +kernel)
theorem w_mm_X9_138 : Cond.methodLink RX9 138 Lib.Math.min.name ∈ wsA := w_in 1099 (by decide +kernel) (by decide +kernel)
theorem w_ac_n : Cond.native arraycopyName ∈ wsA := w_in 508 (by decide +kernel) (by decide +kernel)
theorem w_ac_s : Cond.static arraycopyName ∈ wsA := w_in 507 (by decide +kernel) (by decide +kernel)
theorem w_ac_i : Cond.initialized "java/lang/System" ∈ wsA := w_in 13 (by decide +kernel) (by decide +kernel)
theorem w_acl_X2_22 : Cond.methodLink RX2 22 arraycopyName ∈ wsA := w_in 513 (by decide +kernel) (by decide +kernel)
theorem w_ac_X2_22 : z_AC RX2 22 := ⟨w_acl_X2_22, w_ac_n, w_ac_s, w_ac_i⟩
theorem w_ml_X8_44 : Cond.methodLink RX8 44 yJ0_length_8abf5 ∈ wsA := w_in 624 (by decide +kernel) (by decide +kernel)
theorem mj_X8_44 : z_YJ RX8 44 yJ0_length_8abf5 cJ0_length_8abf5 1 (some .int) 0 := z_YJ.of (List.forall_mem_cons.mpr ⟨w_ml_X8_44, List.forall_mem_cons.mpr ⟨w_im_J0_length_8abf5, List.forall_mem_cons.mpr ⟨w_se_J0_length_8abf5, List.forall_mem_cons.mpr ⟨w_in_J0, List.forall_mem_cons.mpr ⟨w_co_J0_length_8abf5, fun _ h => absurd h List.not_mem_nil⟩⟩⟩⟩⟩) (by decide +kernel) rfl
theorem w_ml_X8_49 : Cond.methodLink RX8 49 yJ0_charAt_5068e ∈ wsA := w_in 634 (by decide +kernel) (by decide +kernel)
theorem mj_X8_49 : z_YJ RX8 49 yJ0_charAt_5068e cJ0_charAt_5068e 2 (some .char) 1 := z_YJ.of (List.forall_mem_cons.mpr ⟨w_ml_X8_49, List.forall_mem_cons.mpr ⟨w_im_J0_charAt_5068e, List.forall_mem_cons.mpr ⟨w_se_J0_charAt_5068e, List.forall_mem_cons.mpr ⟨w_in_J0, List.forall_mem_cons.mpr ⟨w_co_J0_charAt_5068e, fun _ h => absurd h List.not_mem_nil⟩⟩⟩⟩⟩) (by decide +kernel) rfl
theorem w_acl_X9_77 : Cond.methodLink RX9 77 arraycopyName ∈ wsA := w_in 506 (by decide +kernel) (by decide +kernel)
theorem w_ac_X9_77 : z_AC RX9 77 := ⟨w_acl_X9_77, w_ac_n, w_ac_s, w_ac_i⟩
