section POA
theorem okr_1_0 : okr 1 0 8 = true := by decide +kernel
theorem okr_2_0 : okr 2 0 64 = true := by decide +kernel
theorem okr_3_0 : okr 3 0 512 = true := by decide +kernel
theorem okr_4_0 : okr 4 0 1024 = true := by decide +kernel
theorem okr_4_1024 : okr 4 1024 879 = true := by decide +kernel
theorem okr_4_1903 : okr 4 1903 551 = true := by decide +kernel
theorem okr_4_2454 : okr 4 2454 424 = true := by decide +kernel
theorem okr_4_2878 : okr 4 2878 385 = true := by decide +kernel
theorem okr_4_3263 : okr 4 3263 285 = true := by decide +kernel
theorem okr_4_3548 : okr 4 3548 375 = true := by decide +kernel
theorem okr_4_3923 : okr 4 3923 173 = true := by decide +kernel
theorem okr_5_0 : okr 5 0 1024 = true := by decide +kernel
end POA
