section PPC
theorem bitCount_all : ∀ a, a < 256 → ∀ b, b < 256 → f_J6_bitCount_0f7a4 (nI (256 * a + b)) = nI (pcn (256 * a + b) 16) := by decide +kernel
theorem bitCount_eq {b : Nat} (h : b < 65536) : f_J6_bitCount_0f7a4 (nI b) = nI (pcn b 16) := by
  have e := bitCount_all (b / 256) (by omega) (b % 256) (Nat.mod_lt _ (by omega))
  rw [Nat.div_add_mod] at e
  exact e
end PPC
