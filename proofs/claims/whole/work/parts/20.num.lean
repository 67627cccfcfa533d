/-! ===== numbers ===== -/
section PN
abbrev lI (z : Int) : Int64 := Int64.ofInt z
abbrev iI (z : Int) : Int32 := Int32.ofInt z
theorem x64 (x : Int32) : x.toInt64 = lI x.toInt := rfl
theorem lI_add (a b : Int) : lI a + lI b = lI (a + b) := (Int64.ofInt_add a b).symm
theorem lI_sub (a b : Int) : lI a - lI b = lI (a - b) := (Int64.ofInt_sub a b).symm
theorem lI_mul (a b : Int) : lI a * lI b = lI (a * b) := (Int64.ofInt_mul a b).symm
theorem lI_neg (a : Int) : -lI a = lI (-a) := (Int64.ofInt_neg a).symm
theorem lI_toInt {a : Int} (h1 : -4611686018427387904 ≤ a) (h2 : a ≤ 4611686018427387904) : (lI a).toInt = a := Int64.toInt_ofInt_of_le (by omega) (by omega)
theorem lI_lt {a b : Int} (h1 : -4611686018427387904 ≤ a) (h2 : a ≤ 4611686018427387904) (h3 : -4611686018427387904 ≤ b) (h4 : b ≤ 4611686018427387904) : lI a < lI b ↔ a < b := by
  rw [Int64.lt_iff_toInt_lt, lI_toInt h1 h2, lI_toInt h3 h4]
theorem lI_le {a b : Int} (h1 : -4611686018427387904 ≤ a) (h2 : a ≤ 4611686018427387904) (h3 : -4611686018427387904 ≤ b) (h4 : b ≤ 4611686018427387904) : lI a ≤ lI b ↔ a ≤ b := by
  rw [Int64.le_iff_toInt_le, lI_toInt h1 h2, lI_toInt h3 h4]
theorem lI_inj {a b : Int} (h1 : -4611686018427387904 ≤ a) (h2 : a ≤ 4611686018427387904) (h3 : -4611686018427387904 ≤ b) (h4 : b ≤ 4611686018427387904) : lI a = lI b ↔ a = b := by
  rw [← Int64.toInt_inj, lI_toInt h1 h2, lI_toInt h3 h4]
theorem lI_nat (n : Nat) : lI (n : Int) = lN n := Int64.ofInt_eq_ofNat
theorem iI_nat (n : Nat) : iI (n : Int) = nI n := Int32.ofInt_eq_ofNat
theorem iI_add (a b : Int) : iI a + iI b = iI (a + b) := (Int32.ofInt_add a b).symm
theorem iI_sub (a b : Int) : iI a - iI b = iI (a - b) := (Int32.ofInt_sub a b).symm
theorem iI_mul (a b : Int) : iI a * iI b = iI (a * b) := (Int32.ofInt_mul a b).symm
theorem iI_toInt {a : Int} (h1 : -2147483648 ≤ a) (h2 : a < 2147483648) : (iI a).toInt = a := Int32.toInt_ofInt_of_le (by omega) (by omega)
theorem iI_of (x : Int32) : x = iI x.toInt := (Int32.ofInt_toInt x).symm
theorem iI_l {a : Int} (h1 : -2147483648 ≤ a) (h2 : a < 2147483648) : (iI a).toInt64 = lI a := by rw [x64, iI_toInt h1 h2]
theorem lI_i (a : Int) : (lI a).toInt32 = iI a := Int64.toInt32_ofInt
theorem i_add {a b : Int32} (h1 : -2147483648 ≤ a.toInt + b.toInt) (h2 : a.toInt + b.toInt < 2147483648) : (a + b).toInt = a.toInt + b.toInt := by
  rw [Int32.toInt_add]; exact Int.bmod_eq_of_le (by omega) (by omega)
theorem i_sub {a b : Int32} (h1 : -2147483648 ≤ a.toInt - b.toInt) (h2 : a.toInt - b.toInt < 2147483648) : (a - b).toInt = a.toInt - b.toInt := by
  rw [Int32.toInt_sub]; exact Int.bmod_eq_of_le (by omega) (by omega)
theorem i_mul {a b : Int32} (h1 : -2147483648 ≤ a.toInt * b.toInt) (h2 : a.toInt * b.toInt < 2147483648) : (a * b).toInt = a.toInt * b.toInt := by
  rw [Int32.toInt_mul]; exact Int.bmod_eq_of_le (by omega) (by omega)
/-- a division that leaves nothing, or rounds to 0 -/
theorem lI_div {a b : Int} (h1 : -4611686018427387904 ≤ a) (h2 : a ≤ 4611686018427387904) (h3 : 0 < b) (h4 : b ≤ 4611686018427387904) : lI a / lI b = lI (a.tdiv b) := by
  apply Int64.toInt.inj
  have hne : lI b ≠ -1 := by
    intro h
    have h5 := congrArg Int64.toInt h
    rw [lI_toInt (by omega) h4] at h5
    have h6 : (-1 : Int64).toInt = -1 := rfl
    omega
  have hd : -4611686018427387904 ≤ a.tdiv b ∧ a.tdiv b ≤ 4611686018427387904 := by
    have h7 : (a.tdiv b).natAbs ≤ a.natAbs := by rw [Int.natAbs_tdiv]; exact Nat.div_le_self _ _
    omega
  rw [Int64.toInt_div_of_ne_right _ _ hne, lI_toInt h1 h2, lI_toInt (by omega) h4, lI_toInt hd.1 hd.2]
theorem ix_k {k : Int32} {a t : Nat} (hk : k = nI a) : k + nI t = nI (a + t) := by rw [hk, nI_add]
theorem vp_k {k : Int32} {a t n : Nat} (hk : k = nI a) (h : a + t < n) (hn : n < 2 ^ 31) : vp_in (k + nI t) n := by rw [ix_k hk]; exact vp_in_nI h hn
theorem cl_k {k : Int32} {a t : Nat} (hk : k = nI a) (h : a + t < 2 ^ 31) : (k + nI t).toNatClampNeg = a + t := by rw [ix_k hk]; exact nI_clamp h
theorem upd_s {f : Nat → Int32} {k : Nat} {x : Int32} : upd f k x k = x := if_pos rfl
theorem upd_n {f : Nat → Int32} {k j : Nat} {x : Int32} (h : j ≠ k) : upd f k x j = f j := if_neg h
theorem updL_s {f : Nat → Int64} {k : Nat} {x : Int64} : vp_updL f k x k = x := if_pos rfl
theorem updL_n {f : Nat → Int64} {k j : Nat} {x : Int64} (h : j ≠ k) : vp_updL f k x j = f j := if_neg h
theorem within_eq (a b c : Int32) : f_X11_within a b c = f_X10_isFrom a b c := rfl
/-- from lo to hi? -/
theorem from_cases (v lo hi : Int32) : (f_X10_isFrom v lo hi = 1 ∧ lo.toInt ≤ v.toInt ∧ v.toInt ≤ hi.toInt) ∨ (f_X10_isFrom v lo hi = 0 ∧ (v.toInt < lo.toInt ∨ hi.toInt < v.toInt)) := by
  unfold f_X10_isFrom
  by_cases h1 : v < lo
  · right; rw [if_pos h1]; exact ⟨rfl, Or.inl (Int32.lt_iff_toInt_lt.mp h1)⟩
  · rw [if_neg h1]
    by_cases h2 : hi < v
    · right; rw [if_pos h2]; exact ⟨rfl, Or.inr (Int32.lt_iff_toInt_lt.mp h2)⟩
    · left; rw [if_neg h2]
      rw [Int32.lt_iff_toInt_lt] at h1 h2
      exact ⟨rfl, by omega, by omega⟩
theorem i0 : (0 : Int32).toInt = 0 := rfl
theorem i10ne : ¬ (1 : Int32) = 0 := by decide
theorem nI_of_toInt {x : Int32} {n : Nat} (h0 : 0 ≤ x.toInt) (h : x.toInt < n) : ∃ j, j < n ∧ x = nI j := by
  refine ⟨x.toInt.toNat, by omega, ?_⟩
  apply Int32.toInt.inj
  rw [nI_toInt (by have := Int32.toInt_lt x; omega)]
  omega
/-- an index of n things? -/
theorem has_cases (v : Int32) {n : Nat} (hn : n < 2 ^ 30) : (f_X10_isFrom v 0 (nI n - 1) = 1 ∧ ∃ j, j < n ∧ v = nI j) ∨ f_X10_isFrom v 0 (nI n - 1) = 0 := by
  have e : (nI n - 1).toInt = (n : Int) - 1 := by
    rw [i_sub, nI_toInt (by omega)]
    · rfl
    · rw [nI_toInt (by omega)]; show _ ≤ (n : Int) - 1; omega
    · rw [nI_toInt (by omega)]; show (n : Int) - 1 < _; omega
  rcases from_cases v 0 (nI n - 1) with ⟨h, h1, h2⟩ | ⟨h, -⟩
  · left
    rw [e] at h2
    rw [i0] at h1
    exact ⟨h, nI_of_toInt h1 (by omega)⟩
  · exact Or.inr h
theorem nI_m1 {n : Nat} (h : 0 < n) : nI n - 1 = nI (n - 1) := by
  obtain ⟨k, rfl⟩ : ∃ k, n = k + 1 := ⟨n - 1, by omega⟩
  exact nI_pred k
theorem nI_0lt {n : Nat} (hn : n < 2 ^ 31) : (0 < nI n) ↔ 0 < n := by
  rw [Int32.lt_iff_toInt_lt, nI_toInt hn]
  show (0 : Int) < n ↔ 0 < n
  omega
theorem nI_eq0 {n : Nat} (hn : n < 2 ^ 31) : (nI n = 0) ↔ n = 0 := by
  rw [show (0 : Int32) = nI 0 from rfl, nI_eq hn (by decide)]
theorem nI_leC {k : Int32} {a n : Nat} (hk : k = nI a) (ha : a < 2 ^ 31) (hn : n < 2 ^ 31) : k ≤ nI n ↔ a ≤ n := by rw [hk, nI_leI ha hn]
theorem nI_ltC {k : Int32} {a n : Nat} (hk : k = nI a) (ha : a < 2 ^ 31) (hn : n < 2 ^ 31) : nI n < k ↔ n < a := by rw [hk, nI_ltI hn ha]
/-- the greatest common divisor -/
theorem gcd_step (x y : Nat) : Nat.gcd y (x % y) = Nat.gcd x y := by
  rw [Nat.gcd_comm y, ← Nat.gcd_rec, Nat.gcd_comm]
theorem mod_half {x y : Nat} (hy : 0 < y) (h : 0 < x % y) : 2 * (y % (x % y)) < y := by
  have h1 : x % y < y := Nat.mod_lt _ hy
  have h2 : y % (x % y) < x % y := Nat.mod_lt _ h
  have h3 : y % (x % y) ≤ y - x % y := by
    rw [Nat.mod_eq_sub_mod (Nat.le_of_lt h1)]
    exact Nat.mod_le _ _
  omega
theorem lN_0 : (0 : Int64) = lN 0 := rfl
theorem common_go (N : Nat) : ∀ (k x y n : Nat), x < 2 ^ 62 → y < 2 ^ 62 → y < 2 ^ k → 2 * k + 1 ≤ n → f_X11_common_b17 N n (lN x) (lN y) = some (lN (Nat.gcd x y)) := by
  intro k
  induction k with
  | zero =>
    intro x y n hx hy hk hn
    obtain ⟨n, rfl⟩ : ∃ z, n = z + 1 := ⟨n - 1, by omega⟩
    have h0 : y = 0 := by simpa using hk
    subst h0
    rw [f_X11_common_b17_s]
    unfold g_X11_common_b17
    rw [if_pos (show lN 0 = 0 from rfl), Nat.gcd_zero_right]
  | succ k ih =>
    intro x y n hx hy hk hn
    obtain ⟨n, rfl⟩ : ∃ z, n = z + 2 := ⟨n - 2, by omega⟩
    rw [f_X11_common_b17_s]
    unfold g_X11_common_b17
    by_cases h0 : y = 0
    · subst h0
      rw [if_pos (show lN 0 = 0 from rfl), Nat.gcd_zero_right]
    · have e1 : ¬ lN y = 0 := by rw [lN_0, pk_lEQ (by omega) (by omega)]; exact h0
      rw [if_neg e1, gDl_of e1, pk_lRem (by omega) (by omega) (by omega), f_X11_common_b17_s]
      unfold g_X11_common_b17
      have hm : x % y < y := Nat.mod_lt _ (by omega)
      by_cases h1 : x % y = 0
      · rw [h1, if_pos (show lN 0 = 0 from rfl), ← gcd_step x y, h1, Nat.gcd_zero_right]
      · have e2 : ¬ lN (x % y) = 0 := by rw [lN_0, pk_lEQ (by omega) (by omega)]; exact h1
        have hh := mod_half (x := x) (y := y) (by omega) (by omega)
        rw [if_neg e2, gDl_of e2, pk_lRem (by omega) (by omega) (by omega), ih (x % y) (y % (x % y)) n (by omega) (by omega) (by rw [Nat.pow_succ] at hk; omega) (by omega), gcd_step, gcd_step]
theorem divisor_go (N : Nat) : ∀ (k x y n c : Nat), x < 2 ^ 62 → y < 2 ^ 62 → y < 2 ^ k → 2 * k + 1 ≤ n → c + 2 * k < 200 → f_X10_commonDivisor_b15 N n (lN x) (lN y) (nI c) = some (lN (Nat.gcd x y)) := by
  intro k
  induction k with
  | zero =>
    intro x y n c hx hy hk hn hc
    obtain ⟨n, rfl⟩ : ∃ z, n = z + 1 := ⟨n - 1, by omega⟩
    have h0 : y = 0 := by simpa using hk
    subst h0
    rw [f_X10_commonDivisor_b15_s]
    unfold g_X10_commonDivisor_b15
    have e : ¬ (200 : Int32) ≤ nI c := by rw [nI_leC (k := 200) (a := 200) rfl (by omega) (by omega)]; omega
    rw [if_neg e, if_pos (show lN 0 = 0 from rfl), Nat.gcd_zero_right]
  | succ k ih =>
    intro x y n c hx hy hk hn hc
    obtain ⟨n, rfl⟩ : ∃ z, n = z + 2 := ⟨n - 2, by omega⟩
    rw [f_X10_commonDivisor_b15_s]
    unfold g_X10_commonDivisor_b15
    have e : ¬ (200 : Int32) ≤ nI c := by rw [nI_leC (k := 200) (a := 200) rfl (by omega) (by omega)]; omega
    rw [if_neg e]
    by_cases h0 : y = 0
    · subst h0
      rw [if_pos (show lN 0 = 0 from rfl), Nat.gcd_zero_right]
    · have e1 : ¬ lN y = 0 := by rw [lN_0, pk_lEQ (by omega) (by omega)]; exact h0
      rw [if_neg e1, gDl_of e1, pk_lRem (by omega) (by omega) (by omega), f_X10_commonDivisor_b15_s]
      unfold g_X10_commonDivisor_b15
      have e3 : ¬ (200 : Int32) ≤ nI c + 1 := by rw [nI_1, nI_leC (k := 200) (a := 200) rfl (by omega) (by omega)]; omega
      rw [if_neg e3]
      have hm : x % y < y := Nat.mod_lt _ (by omega)
      by_cases h1 : x % y = 0
      · rw [h1, if_pos (show lN 0 = 0 from rfl), ← gcd_step x y, h1, Nat.gcd_zero_right]
      · have e2 : ¬ lN (x % y) = 0 := by rw [lN_0, pk_lEQ (by omega) (by omega)]; exact h1
        have hh := mod_half (x := x) (y := y) (by omega) (by omega)
        rw [if_neg e2, gDl_of e2, pk_lRem (by omega) (by omega) (by omega), nI_1, nI_1, ih (x % y) (y % (x % y)) n (c + 1 + 1) (by omega) (by omega) (by rw [Nat.pow_succ] at hk; omega) (by omega) (by omega), gcd_step, gcd_step]
end PN
