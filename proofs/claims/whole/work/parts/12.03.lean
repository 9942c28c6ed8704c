theorem jg_101_480 : ((jc_101.drop 480).take 40).all (jm_gd 101) = true := by decide +kernel
theorem jg_101_520 : ((jc_101.drop 520).take 40).all (jm_gd 101) = true := by decide +kernel
theorem jg_101_560 : ((jc_101.drop 560).take 40).all (jm_gd 101) = true := by decide +kernel
theorem jg_101_600 : ((jc_101.drop 600).take 40).all (jm_gd 101) = true := by decide +kernel
theorem jg_101_640 : ((jc_101.drop 640).take 40).all (jm_gd 101) = true := by decide +kernel
theorem jg_101_680 : ((jc_101.drop 680).take 40).all (jm_gd 101) = true := by decide +kernel
