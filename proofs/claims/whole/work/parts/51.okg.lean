section POG
theorem okr_5_29694 : okr 5 29694 765 = true := by decide +kernel
theorem okr_5_30459 : okr 5 30459 170 = true := by decide +kernel
theorem okr_5_30629 : okr 5 30629 88 = true := by decide +kernel
theorem okr_5_30717 : okr 5 30717 359 = true := by decide +kernel
theorem okr_5_31076 : okr 5 31076 75 = true := by decide +kernel
theorem okr_5_31151 : okr 5 31151 256 = true := by decide +kernel
theorem okr_5_31407 : okr 5 31407 173 = true := by decide +kernel
theorem okr_5_31580 : okr 5 31580 83 = true := by decide +kernel
theorem okr_5_31663 : okr 5 31663 262 = true := by decide +kernel
theorem okr_5_31925 : okr 5 31925 104 = true := by decide +kernel
theorem okr_5_32029 : okr 5 32029 56 = true := by decide +kernel
theorem okr_5_32085 : okr 5 32085 40 = true := by decide +kernel
end POG
