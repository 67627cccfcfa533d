section PPC
theorem bitCount_0 : ∀ a, a < 16 → ∀ b, b < 256 → f_J6_bitCount_0f7a4 (nI (256 * (0 + a) + b)) = nI (pcn (256 * (0 + a) + b) 16) := by decide +kernel
theorem bitCount_1 : ∀ a, a < 16 → ∀ b, b < 256 → f_J6_bitCount_0f7a4 (nI (256 * (16 + a) + b)) = nI (pcn (256 * (16 + a) + b) 16) := by decide +kernel
theorem bitCount_2 : ∀ a, a < 16 → ∀ b, b < 256 → f_J6_bitCount_0f7a4 (nI (256 * (32 + a) + b)) = nI (pcn (256 * (32 + a) + b) 16) := by decide +kernel
theorem bitCount_3 : ∀ a, a < 16 → ∀ b, b < 256 → f_J6_bitCount_0f7a4 (nI (256 * (48 + a) + b)) = nI (pcn (256 * (48 + a) + b) 16) := by decide +kernel
theorem bitCount_4 : ∀ a, a < 16 → ∀ b, b < 256 → f_J6_bitCount_0f7a4 (nI (256 * (64 + a) + b)) = nI (pcn (256 * (64 + a) + b) 16) := by decide +kernel
theorem bitCount_5 : ∀ a, a < 16 → ∀ b, b < 256 → f_J6_bitCount_0f7a4 (nI (256 * (80 + a) + b)) = nI (pcn (256 * (80 + a) + b) 16) := by decide +kernel
theorem bitCount_6 : ∀ a, a < 16 → ∀ b, b < 256 → f_J6_bitCount_0f7a4 (nI (256 * (96 + a) + b)) = nI (pcn (256 * (96 + a) + b) 16) := by decide +kernel
theorem bitCount_7 : ∀ a, a < 16 → ∀ b, b < 256 → f_J6_bitCount_0f7a4 (nI (256 * (112 + a) + b)) = nI (pcn (256 * (112 + a) + b) 16) := by decide +kernel
theorem bitCount_8 : ∀ a, a < 16 → ∀ b, b < 256 → f_J6_bitCount_0f7a4 (nI (256 * (128 + a) + b)) = nI (pcn (256 * (128 + a) + b) 16) := by decide +kernel
theorem bitCount_9 : ∀ a, a < 16 → ∀ b, b < 256 → f_J6_bitCount_0f7a4 (nI (256 * (144 + a) + b)) = nI (pcn (256 * (144 + a) + b) 16) := by decide +kernel
theorem bitCount_10 : ∀ a, a < 16 → ∀ b, b < 256 → f_J6_bitCount_0f7a4 (nI (256 * (160 + a) + b)) = nI (pcn (256 * (160 + a) + b) 16) := by decide +kernel
theorem bitCount_11 : ∀ a, a < 16 → ∀ b, b < 256 → f_J6_bitCount_0f7a4 (nI (256 * (176 + a) + b)) = nI (pcn (256 * (176 + a) + b) 16) := by decide +kernel
theorem bitCount_12 : ∀ a, a < 16 → ∀ b, b < 256 → f_J6_bitCount_0f7a4 (nI (256 * (192 + a) + b)) = nI (pcn (256 * (192 + a) + b) 16) := by decide +kernel
theorem bitCount_13 : ∀ a, a < 16 → ∀ b, b < 256 → f_J6_bitCount_0f7a4 (nI (256 * (208 + a) + b)) = nI (pcn (256 * (208 + a) + b) 16) := by decide +kernel
theorem bitCount_14 : ∀ a, a < 16 → ∀ b, b < 256 → f_J6_bitCount_0f7a4 (nI (256 * (224 + a) + b)) = nI (pcn (256 * (224 + a) + b) 16) := by decide +kernel
theorem bitCount_15 : ∀ a, a < 16 → ∀ b, b < 256 → f_J6_bitCount_0f7a4 (nI (256 * (240 + a) + b)) = nI (pcn (256 * (240 + a) + b) 16) := by decide +kernel
theorem bitCount_all {a b : Nat} (ha : a < 256) (hb : b < 256) : f_J6_bitCount_0f7a4 (nI (256 * a + b)) = nI (pcn (256 * a + b) 16) := by
  have h : ∃ k r, k < 16 ∧ r < 16 ∧ a = 16 * k + r := ⟨a / 16, a % 16, by omega, by omega, by omega⟩
  obtain ⟨k, r, hk, hr, rfl⟩ := h
  have hk : k = 0 ∨ k = 1 ∨ k = 2 ∨ k = 3 ∨ k = 4 ∨ k = 5 ∨ k = 6 ∨ k = 7 ∨ k = 8 ∨ k = 9 ∨ k = 10 ∨ k = 11 ∨ k = 12 ∨ k = 13 ∨ k = 14 ∨ k = 15 := by omega
  rcases hk with rfl | rfl | rfl | rfl | rfl | rfl | rfl | rfl | rfl | rfl | rfl | rfl | rfl | rfl | rfl | rfl
  · exact bitCount_0 r hr b hb
  · exact bitCount_1 r hr b hb
  · exact bitCount_2 r hr b hb
  · exact bitCount_3 r hr b hb
  · exact bitCount_4 r hr b hb
  · exact bitCount_5 r hr b hb
  · exact bitCount_6 r hr b hb
  · exact bitCount_7 r hr b hb
  · exact bitCount_8 r hr b hb
  · exact bitCount_9 r hr b hb
  · exact bitCount_10 r hr b hb
  · exact bitCount_11 r hr b hb
  · exact bitCount_12 r hr b hb
  · exact bitCount_13 r hr b hb
  · exact bitCount_14 r hr b hb
  · exact bitCount_15 r hr b hb
theorem bitCount_eq {b : Nat} (h : b < 65536) : f_J6_bitCount_0f7a4 (nI b) = nI (pcn b 16) := by
  have e := bitCount_all (a := b / 256) (b := b % 256) (by omega) (Nat.mod_lt _ (by omega))
  rw [Nat.div_add_mod] at e
  exact e
end PPC
