theorem w_co_X0_latest : Cond.code yX0_latest cX0_latest 1 (some (.object "TopWheel$Keep")) ∈ wsA := w_in 494 (by decide +kernel) (by decide +kernel)
theorem w_im_X0_latest : Cond.instanceMethod yX0_latest ∈ wsA := w_in 492 (by decide +kernel) (by decide +kernel)
theorem w_se_X0_latest : Cond.selects yX0_latest.cls yX0_latest yX0_latest ∈ wsA := w_in 493 (by decide +kernel) (by decide +kernel)
theorem w_ml_X10_317 : Cond.methodLink RX10 317 yX0_latest ∈ wsA := w_in 491 (by decide +kernel) (by decide +kernel)
theorem mv_X10_317 : z_YV RX10 317 yX0_latest cX0_latest 1 (some (.object "TopWheel$Keep")) 0 0 := z_YV.of (T := TX0) (N := 3) (List.forall_mem_cons.mpr ⟨w_ml_X10_317, List.forall_mem_cons.mpr ⟨w_im_X0_latest, List.forall_mem_cons.mpr ⟨w_se_X0_latest, List.forall_mem_cons.mpr ⟨w_in_X0, List.forall_mem_cons.mpr ⟨w_co_X0_latest, fun _ h => absurd h List.not_mem_nil⟩⟩⟩⟩⟩) (by decide +kernel) rfl
theorem w_co_X0_drop : Cond.code yX0_drop cX0_drop 1 none ∈ wsA := w_in 517 (by decide +kernel) (by decide +kernel)
theorem w_im_X0_drop : Cond.instanceMethod yX0_drop ∈ wsA := w_in 515 (by decide +kernel) (by decide +kernel)
theorem w_se_X0_drop : Cond.selects yX0_drop.cls yX0_drop yX0_drop ∈ wsA := w_in 516 (by decide +kernel) (by decide +kernel)
theorem w_ml_X10_325 : Cond.methodLink RX10 325 yX0_drop ∈ wsA := w_in 514 (by decide +kernel) (by decide +kernel)
theorem mv_X10_325 : z_YV RX10 325 yX0_drop cX0_drop 1 none 0 0 := z_YV.of (T := TX0) (N := 3) (List.forall_mem_cons.mpr ⟨w_ml_X10_325, List.forall_mem_cons.mpr ⟨w_im_X0_drop, List.forall_mem_cons.mpr ⟨w_se_X0_drop, List.forall_mem_cons.mpr ⟨w_in_X0, List.forall_mem_cons.mpr ⟨w_co_X0_drop, fun _ h => absurd h List.not_mem_nil⟩⟩⟩⟩⟩) (by decide +kernel) rfl
