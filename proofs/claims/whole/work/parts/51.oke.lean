section POE
theorem okr_5_23381 : okr 5 23381 128 = true := by decide +kernel
theorem okr_5_23509 : okr 5 23509 328 = true := by decide +kernel
theorem okr_5_23837 : okr 5 23837 93 = true := by decide +kernel
theorem okr_5_23930 : okr 5 23930 98 = true := by decide +kernel
theorem okr_5_24028 : okr 5 24028 271 = true := by decide +kernel
theorem okr_5_24299 : okr 5 24299 120 = true := by decide +kernel
theorem okr_5_24419 : okr 5 24419 88 = true := by decide +kernel
theorem okr_5_24507 : okr 5 24507 1024 = true := by decide +kernel
theorem okr_5_25531 : okr 5 25531 891 = true := by decide +kernel
theorem okr_5_26422 : okr 5 26422 137 = true := by decide +kernel
theorem okr_5_26559 : okr 5 26559 360 = true := by decide +kernel
theorem okr_5_26919 : okr 5 26919 176 = true := by decide +kernel
end POE
