section POC
theorem okr_5_13246 : okr 5 13246 1024 = true := by decide +kernel
theorem okr_5_14270 : okr 5 14270 510 = true := by decide +kernel
theorem okr_5_14780 : okr 5 14780 432 = true := by decide +kernel
theorem okr_5_15212 : okr 5 15212 385 = true := by decide +kernel
theorem okr_5_15597 : okr 5 15597 176 = true := by decide +kernel
theorem okr_5_15773 : okr 5 15773 344 = true := by decide +kernel
theorem okr_5_16117 : okr 5 16117 176 = true := by decide +kernel
theorem okr_5_16293 : okr 5 16293 89 = true := by decide +kernel
theorem okr_5_16382 : okr 5 16382 1024 = true := by decide +kernel
theorem okr_5_17406 : okr 5 17406 1001 = true := by decide +kernel
theorem okr_5_18407 : okr 5 18407 532 = true := by decide +kernel
theorem okr_5_18939 : okr 5 18939 384 = true := by decide +kernel
end POC
