section POB
theorem okr_5_1024 : okr 5 1024 1024 = true := by decide +kernel
theorem okr_5_2048 : okr 5 2048 1024 = true := by decide +kernel
theorem okr_5_3072 : okr 5 3072 1024 = true := by decide +kernel
theorem okr_5_4096 : okr 5 4096 1024 = true := by decide +kernel
theorem okr_5_5120 : okr 5 5120 1024 = true := by decide +kernel
theorem okr_5_6144 : okr 5 6144 1024 = true := by decide +kernel
theorem okr_5_7168 : okr 5 7168 1024 = true := by decide +kernel
theorem okr_5_8192 : okr 5 8192 1024 = true := by decide +kernel
theorem okr_5_9216 : okr 5 9216 1024 = true := by decide +kernel
theorem okr_5_10240 : okr 5 10240 1024 = true := by decide +kernel
theorem okr_5_11264 : okr 5 11264 958 = true := by decide +kernel
theorem okr_5_12222 : okr 5 12222 1024 = true := by decide +kernel
end POB
