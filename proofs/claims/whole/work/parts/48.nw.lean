theorem w_cl_X10_169 : Cond.classLink RX10 169 zNS ∈ wsA := w_in 941 (by decide +kernel) (by decide +kernel)
theorem w_ei_NSEE : Cond.initialized zNS ∈ wsA := w_in 27 (by decide +kernel) (by decide +kernel)
theorem tgN : ∀ w ∈ ((zN RX10 173).filter vx_no).filter goodWord, w ∈ lw_tbl := by decide +kernel
theorem thN : ∀ w ∈ ((zN RX10 173).filter vx_no).filter (fun w => !goodWord w), w ∈ [Cond.declares (Bundle.initS "java/lang/RuntimeException"), Cond.declares (Bundle.initS "java/lang/Exception"), Cond.declares (Bundle.initS Bundle.tN)] := by decide +kernel
theorem toN : ∀ w ∈ Cond.classLink RX10 169 zNS :: Cond.initialized zNS :: ((zN RX10 173).filter vx_no), vx_ot w = true := by decide +kernel
theorem twn_169_173 : z_TWN RX10 169 173 := ⟨w_cl_X10_169, w_ei_NSEE, w_gd tgN, thN, z_dw, toN⟩
