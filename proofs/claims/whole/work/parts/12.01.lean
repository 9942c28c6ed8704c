theorem jg_101_0 : ((jc_101.drop 0).take 40).all (jm_gd 101) = true := by decide +kernel
theorem jg_101_40 : ((jc_101.drop 40).take 40).all (jm_gd 101) = true := by decide +kernel
theorem jg_101_80 : ((jc_101.drop 80).take 40).all (jm_gd 101) = true := by decide +kernel
theorem jg_101_120 : ((jc_101.drop 120).take 40).all (jm_gd 101) = true := by decide +kernel
theorem jg_101_160 : ((jc_101.drop 160).take 40).all (jm_gd 101) = true := by decide +kernel
theorem jg_101_200 : ((jc_101.drop 200).take 40).all (jm_gd 101) = true := by decide +kernel
