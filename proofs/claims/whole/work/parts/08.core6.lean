theorem xw_75 : XW 75 "java/lang/IndexOutOfBoundsException" := by unfold XW; decide +kernel
theorem xg_75 : ∀ w ∈ Cond.classLink RX6 71 "java/lang/IndexOutOfBoundsException" :: Cond.initialized "java/lang/IndexOutOfBoundsException" :: vx_atS RX6 75 "java/lang/IndexOutOfBoundsException" xnames, vx_ot w = true := by decide +kernel
theorem xw_82 : XW 82 "java/lang/IllegalArgumentException" := by unfold XW; decide +kernel
theorem xg_82 : ∀ w ∈ Cond.classLink RX6 78 "java/lang/IllegalArgumentException" :: Cond.initialized "java/lang/IllegalArgumentException" :: vx_atS RX6 82 "java/lang/IllegalArgumentException" xnames, vx_ot w = true := by decide +kernel
theorem xw_91 : XW 91 "java/lang/IllegalStateException" := by unfold XW; decide +kernel
theorem xg_91 : ∀ w ∈ Cond.classLink RX6 87 "java/lang/IllegalStateException" :: Cond.initialized "java/lang/IllegalStateException" :: vx_atS RX6 91 "java/lang/IllegalStateException" xnames, vx_ot w = true := by decide +kernel
