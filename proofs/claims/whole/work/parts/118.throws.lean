theorem g_good1_78_82 : ∀ w ∈ Cond.classLink "CourierBees" 78 gEI :: Cond.initialized gEI :: vx_atS "CourierBees" 82 gEI gSup, vx_ot w = true := by decide +kernel
theorem g_good2_58_62 : ∀ w ∈ Cond.classLink "CourierBees" 58 gEA :: Cond.initialized gEA :: vx_atS "CourierBees" 62 gEA gSup, vx_ot w = true := by decide +kernel
theorem g_good3_39_43 : ∀ w ∈ Cond.classLink "CourierBees" 39 gES :: Cond.initialized gES :: vx_atS "CourierBees" 43 gES gSup, vx_ot w = true := by decide +kernel
theorem g_bad1_82 : ∀ w ∈ (vx_atS "CourierBees" 82 gEI gSup).filter (fun w => !goodWord w), w ∈ gBad gEI := by decide +kernel
theorem g_bad2_62 : ∀ w ∈ (vx_atS "CourierBees" 62 gEA gSup).filter (fun w => !goodWord w), w ∈ gBad gEA := by decide +kernel
theorem g_bad3_43 : ∀ w ∈ (vx_atS "CourierBees" 43 gES gSup).filter (fun w => !goodWord w), w ∈ gBad gES := by decide +kernel
