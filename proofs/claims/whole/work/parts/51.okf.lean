section POF
theorem okr_5_27095 : okr 5 27095 280 = true := by decide +kernel
theorem okr_5_27375 : okr 5 27375 80 = true := by decide +kernel
theorem okr_5_27455 : okr 5 27455 116 = true := by decide +kernel
theorem okr_5_27571 : okr 5 27571 64 = true := by decide +kernel
theorem okr_5_27635 : okr 5 27635 312 = true := by decide +kernel
theorem okr_5_27947 : okr 5 27947 124 = true := by decide +kernel
theorem okr_5_28071 : okr 5 28071 271 = true := by decide +kernel
theorem okr_5_28342 : okr 5 28342 111 = true := by decide +kernel
theorem okr_5_28453 : okr 5 28453 77 = true := by decide +kernel
theorem okr_5_28530 : okr 5 28530 98 = true := by decide +kernel
theorem okr_5_28628 : okr 5 28628 42 = true := by decide +kernel
theorem okr_5_28670 : okr 5 28670 1024 = true := by decide +kernel
end POF
