/-! ===== fractions in lowest terms ===== -/
section PF
theorem red_nat {x b x' b' : Nat} (hb : 0 < b) (hb' : 0 < b') (h : x * b' = x' * b) : b / Nat.gcd x b = b' / Nat.gcd x' b' ∧ x / Nat.gcd x b = x' / Nat.gcd x' b' := by
  have e : Nat.gcd x b * b' = Nat.gcd x' b' * b := by
    rw [← Nat.gcd_mul_right, ← Nat.gcd_mul_right, h, Nat.mul_comm b b']
  have hg : 0 < Nat.gcd x b := Nat.gcd_pos_of_pos_right _ hb
  have hg' : 0 < Nat.gcd x' b' := Nat.gcd_pos_of_pos_right _ hb'
  generalize hG : Nat.gcd x b = G at *
  generalize hG' : Nat.gcd x' b' = G' at *
  obtain ⟨α, hα⟩ : G ∣ x := by rw [← hG]; exact Nat.gcd_dvd_left _ _
  obtain ⟨β, hβ⟩ : G ∣ b := by rw [← hG]; exact Nat.gcd_dvd_right _ _
  obtain ⟨α', hα'⟩ : G' ∣ x' := by rw [← hG']; exact Nat.gcd_dvd_left _ _
  obtain ⟨β', hβ'⟩ : G' ∣ b' := by rw [← hG']; exact Nat.gcd_dvd_right _ _
  clear hG hG'
  subst hα hβ hα' hβ'
  have hβ0 : 0 < β := Nat.pos_of_mul_pos_left hb
  have eβ : β = β' := by
    have h1 : (G * G') * β' = (G * G') * β := by
      calc (G * G') * β' = G * (G' * β') := Nat.mul_assoc _ _ _
        _ = G' * (G * β) := e
        _ = (G * G') * β := by rw [← Nat.mul_assoc, Nat.mul_comm G' G]
    exact (Nat.eq_of_mul_eq_mul_left (Nat.mul_pos hg hg') h1).symm
  subst eβ
  have eα : α = α' := by
    have h1 : (G * G' * β) * α = (G * G' * β) * α' := by
      calc (G * G' * β) * α = (G * α) * (G' * β) := by
            rw [Nat.mul_assoc G α, Nat.mul_left_comm α, Nat.mul_assoc, Nat.mul_assoc, Nat.mul_comm β α]
        _ = (G' * α') * (G * β) := h
        _ = (G * G' * β) * α' := by
            rw [Nat.mul_assoc G' α', Nat.mul_left_comm α', Nat.mul_left_comm G' G, Nat.mul_assoc, Nat.mul_assoc, Nat.mul_comm β α']
    exact Nat.eq_of_mul_eq_mul_left (Nat.mul_pos (Nat.mul_pos hg hg') hβ0) h1
  subst eα
  rw [Nat.mul_div_cancel_left _ hg, Nat.mul_div_cancel_left _ hg', Nat.mul_div_cancel_left _ hg, Nat.mul_div_cancel_left _ hg']
  exact ⟨rfl, rfl⟩
def fr_n (a : Int) (b : Nat) : Int := a.tdiv (Nat.gcd a.natAbs b : Int)
def fr_d (a : Int) (b : Nat) : Nat := b / Nat.gcd a.natAbs b
theorem fr_n_pos (x b : Nat) : fr_n (x : Int) b = ((x / Nat.gcd x b : Nat) : Int) := by
  unfold fr_n
  rw [Int.natAbs_natCast]
  exact (Int.ofNat_tdiv x (Nat.gcd x b)).symm
theorem fr_n_neg (x b : Nat) : fr_n (-(x : Int)) b = -((x / Nat.gcd x b : Nat) : Int) := by
  unfold fr_n
  rw [Int.natAbs_neg, Int.natAbs_natCast, Int.neg_tdiv]
  exact congrArg Neg.neg (Int.ofNat_tdiv x (Nat.gcd x b)).symm
theorem fr_eq {a a' : Int} {b b' : Nat} (hb : 0 < b) (hb' : 0 < b') (h : a * b' = a' * b) : fr_n a b = fr_n a' b' ∧ fr_d a b = fr_d a' b' := by
  have hx : a.natAbs * b' = a'.natAbs * b := by
    have := congrArg Int.natAbs h
    rw [Int.natAbs_mul, Int.natAbs_mul, Int.natAbs_natCast, Int.natAbs_natCast] at this
    exact this
  obtain ⟨h1, h2⟩ := red_nat hb hb' hx
  refine ⟨?_, h1⟩
  rcases Int.natAbs_eq a with ha | ha
  · rcases Int.natAbs_eq a' with ha' | ha'
    · rw [ha, ha', fr_n_pos, fr_n_pos, h2]
    · -- both are 0
      have hz : a' ≤ 0 := by omega
      have hz2 : 0 ≤ a := by omega
      have h3 : 0 ≤ a * b' := Int.mul_nonneg hz2 (by omega)
      have h4 : a' * b ≤ 0 := Int.mul_nonpos_of_nonpos_of_nonneg hz (by omega)
      have h5 : a * b' = 0 := by omega
      have h6 : a' * b = 0 := by omega
      have h7 : a = 0 := by
        rcases Int.mul_eq_zero.mp h5 with q | q
        · exact q
        · omega
      have h8 : a' = 0 := by
        rcases Int.mul_eq_zero.mp h6 with q | q
        · exact q
        · omega
      rw [h7, h8]
      unfold fr_n
      rw [Int.zero_tdiv, Int.zero_tdiv]
  · rcases Int.natAbs_eq a' with ha' | ha'
    · have hz : a ≤ 0 := by omega
      have hz2 : 0 ≤ a' := by omega
      have h3 : 0 ≤ a' * b := Int.mul_nonneg hz2 (by omega)
      have h4 : a * b' ≤ 0 := Int.mul_nonpos_of_nonpos_of_nonneg hz (by omega)
      have h5 : a * b' = 0 := by omega
      have h6 : a' * b = 0 := by omega
      have h7 : a = 0 := by
        rcases Int.mul_eq_zero.mp h5 with q | q
        · exact q
        · omega
      have h8 : a' = 0 := by
        rcases Int.mul_eq_zero.mp h6 with q | q
        · exact q
        · omega
      rw [h7, h8]
      unfold fr_n
      rw [Int.zero_tdiv, Int.zero_tdiv]
    · rw [ha, ha', fr_n_neg, fr_n_neg, h2]
theorem lN_lI (n : Nat) : lN n = lI (n : Int) := (lI_nat n).symm
theorem abs_l (a : Int) (h1 : -4611686018427387904 < a) (h2 : a < 4611686018427387904) : (if 0 < lI a then lI a else -lI a) = lN a.natAbs := by
  have hc : 0 < lI a ↔ 0 < a := by
    rw [show (0 : Int64) = lI 0 from rfl, lI_lt (by omega) (by omega) (by omega) (by omega)]
  by_cases h : 0 < a
  · rw [if_pos (hc.mpr h), lN_lI]; congr 1; omega
  · rw [if_neg (fun q => h (hc.mp q)), lI_neg, lN_lI]; congr 1; omega
theorem div_l {a : Int} {g : Nat} (h1 : -4611686018427387904 ≤ a) (h2 : a ≤ 4611686018427387904) (hg : 0 < g) (hg2 : g ≤ 4611686018427387904) : (lI a / lN g).toInt32 = iI (a.tdiv (g : Int)) := by
  rw [lN_lI, lI_div h1 h2 (by omega) (by omega), lI_i]
theorem gcd_le_b {a : Int} {b : Nat} (hb : 0 < b) : 0 < Nat.gcd a.natAbs b ∧ Nat.gcd a.natAbs b ≤ b := ⟨Nat.gcd_pos_of_pos_right _ hb, Nat.gcd_le_right _ hb⟩
theorem fr_X11 {N : Nat} (hN : 200 ≤ N) (x : Int32) {a : Int} {b : Nat} (h1 : -4611686018427387904 < a) (h2 : a < 4611686018427387904) (hb : 0 < b) (hb2 : b < 4611686018427387904) :
    f_X11_fraction N x (lI a) (lN b) = some (iI (fr_n a b), nI (fr_d a b)) := by
  obtain ⟨g1, g2⟩ := gcd_le_b (a := a) hb
  have e : f_X11_common N (lI a) (lN b) = some (lN (Nat.gcd a.natAbs b)) := by
    unfold f_X11_common f_X11_common_b12
    have hc : 0 ≤ lI a ↔ 0 ≤ a := by rw [show (0 : Int64) = lI 0 from rfl, lI_le (by omega) (by omega) (by omega) (by omega)]
    have go := common_go N 62 a.natAbs b N (by omega) (by omega) (by omega) (by omega)
    by_cases h : 0 ≤ a
    · rw [if_pos (hc.mpr h)]
      have e1 : lI a = lN a.natAbs := by rw [lN_lI]; congr 1; omega
      rw [e1]; exact go
    · rw [if_neg (fun q => h (hc.mp q))]
      have e1 : -lI a = lN a.natAbs := by rw [lI_neg, lN_lI]; congr 1; omega
      rw [e1]; exact go
  unfold f_X11_fraction
  rw [bd_of e]
  have hne : ¬ lN (Nat.gcd a.natAbs b) = 0 := by rw [lN_0, pk_lEQ (by omega) (by omega)]; omega
  rw [gDl_of hne, gDl_of hne, div_l (by omega) (by omega) g1 (by omega), pk_lDiv (by omega) g1 (by omega), lN_i]
  rfl
theorem fr_X10 {N : Nat} (hN : 200 ≤ N) (x : Int32) {a : Int} {b : Nat} (h1 : -4611686018427387904 < a) (h2 : a < 4611686018427387904) (hb : 0 < b) (hb2 : b < 4611686018427387904) :
    f_X10_fraction N x (lI a) (lN b) = some (iI (fr_n a b), nI (fr_d a b)) := by
  obtain ⟨g1, g2⟩ := gcd_le_b (a := a) hb
  have e : f_X10_commonDivisor N (lI a) (lN b) = some (lN (Nat.gcd a.natAbs b)) := by
    unfold f_X10_commonDivisor
    rw [abs_l a h1 h2]
    have eb : (if 0 < lN b then lN b else -lN b) = lN b := by rw [lN_0, if_pos ((pk_lLT (by omega) (by omega)).mpr hb)]
    rw [eb]
    exact divisor_go N 62 a.natAbs b N 0 (by omega) (by omega) (by omega) (by omega) (by omega)
  unfold f_X10_fraction
  rw [bd_of e]
  have hpos : 0 < lN (Nat.gcd a.natAbs b) := by rw [lN_0, pk_lLT (by omega) (by omega)]; exact g1
  have hne : ¬ lN (Nat.gcd a.natAbs b) = 0 := by rw [lN_0, pk_lEQ (by omega) (by omega)]; omega
  rw [if_pos hpos, gDl_of hne, gDl_of hne, div_l (by omega) (by omega) g1 (by omega), pk_lDiv (by omega) g1 (by omega), lN_i]
  rfl
end PF
