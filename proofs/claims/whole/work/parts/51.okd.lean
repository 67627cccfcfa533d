section POD
theorem okr_5_19323 : okr 5 19323 122 = true := by decide +kernel
theorem okr_5_19445 : okr 5 19445 367 = true := by decide +kernel
theorem okr_5_19812 : okr 5 19812 130 = true := by decide +kernel
theorem okr_5_19942 : okr 5 19942 333 = true := by decide +kernel
theorem okr_5_20275 : okr 5 20275 115 = true := by decide +kernel
theorem okr_5_20390 : okr 5 20390 562 = true := by decide +kernel
theorem okr_5_20952 : okr 5 20952 1024 = true := by decide +kernel
theorem okr_5_21976 : okr 5 21976 461 = true := by decide +kernel
theorem okr_5_22437 : okr 5 22437 386 = true := by decide +kernel
theorem okr_5_22823 : okr 5 22823 140 = true := by decide +kernel
theorem okr_5_22963 : okr 5 22963 75 = true := by decide +kernel
theorem okr_5_23038 : okr 5 23038 343 = true := by decide +kernel
end POD
