theorem w_co_X10_oddsBy : Cond.code yX10_oddsBy cX10_oddsBy 8 (some (.array .int)) ∈ wsA := w_in 1130 (by decide +kernel) (by decide +kernel)
theorem w_im_X10_oddsBy : Cond.instanceMethod yX10_oddsBy ∈ wsA := w_in 1129 (by decide +kernel) (by decide +kernel)
theorem w_se_X10_oddsBy : Cond.selects yX10_oddsBy.cls yX10_oddsBy yX10_oddsBy ∈ wsA := w_pr 31 (by decide +kernel) (by decide +kernel)
theorem w_ml_X10_346 : Cond.methodLink RX10 346 yX10_oddsBy ∈ wsA := w_in 1127 (by decide +kernel) (by decide +kernel)
theorem mv_X10_346 : z_YV RX10 346 yX10_oddsBy cX10_oddsBy 8 (some (.array .int)) 9 1 := z_YV.of (T := TX10) (N := 12) (List.forall_mem_cons.mpr ⟨w_ml_X10_346, List.forall_mem_cons.mpr ⟨w_im_X10_oddsBy, List.forall_mem_cons.mpr ⟨w_se_X10_oddsBy, List.forall_mem_cons.mpr ⟨w_in_X10, List.forall_mem_cons.mpr ⟨w_co_X10_oddsBy, fun _ h => absurd h List.not_mem_nil⟩⟩⟩⟩⟩) (by decide +kernel) rfl
