section POH
theorem okr_5_32125 : okr 5 32125 96 = true := by decide +kernel
theorem okr_5_32221 : okr 5 32221 217 = true := by decide +kernel
theorem okr_5_32438 : okr 5 32438 117 = true := by decide +kernel
theorem okr_5_32555 : okr 5 32555 120 = true := by decide +kernel
theorem okr_5_32675 : okr 5 32675 71 = true := by decide +kernel
theorem okr_5_32746 : okr 5 32746 22 = true := by decide +kernel
end POH
