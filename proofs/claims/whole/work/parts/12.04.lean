theorem jg_101_720 : ((jc_101.drop 720).take 40).all (jm_gd 101) = true := by decide +kernel
theorem jg_101_760 : ((jc_101.drop 760).take 40).all (jm_gd 101) = true := by decide +kernel
