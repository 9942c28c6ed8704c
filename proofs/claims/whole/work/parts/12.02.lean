theorem jg_101_240 : ((jc_101.drop 240).take 40).all (jm_gd 101) = true := by decide +kernel
theorem jg_101_280 : ((jc_101.drop 280).take 40).all (jm_gd 101) = true := by decide +kernel
theorem jg_101_320 : ((jc_101.drop 320).take 40).all (jm_gd 101) = true := by decide +kernel
theorem jg_101_360 : ((jc_101.drop 360).take 40).all (jm_gd 101) = true := by decide +kernel
theorem jg_101_400 : ((jc_101.drop 400).take 40).all (jm_gd 101) = true := by decide +kernel
theorem jg_101_440 : ((jc_101.drop 440).take 40).all (jm_gd 101) = true := by decide +kernel
