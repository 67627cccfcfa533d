/-! ===== the class makes its walk; where it stands ===== -/
section PWE
theorem wmake_eq {N n : Nat} {ev g : Nat → Int32} (hP : PR n ev g) (h0 : 0 < n) (hN : 1000000 ≤ N) {size rs ms : Int32} {me : Nat → Int32} {dead met : Nat → Int64} {states visits : Nat → Int32} (hC : CW ms me size rs visits) :
    ∃ q F, f_X9_make N size rs ms me dead met states visits (nI n) ev = some q ∧ PE n F ev ∧ q.2.2.1 = nI n ∧ PE n F q.2.2.2.1 ∧ WOK n F q.1 q.2.1 q.2.2.2.2.2.2.2 := by
  obtain ⟨n', h5, rfl, hC⟩ := hC
  have hn := hP.1
  unfold f_X9_make
  obtain ⟨b, hb, hb2⟩ := wlike_eq (N := N) (n' := n') (n := n) (me := me) (ev := ev) h5 hn (by omega)
  rw [bd_of hb]
  rcases hb2 with rfl | ⟨rfl, rfl, he⟩
  · rw [if_pos rfl]
    obtain ⟨F, hE⟩ := PE_of hP
    have hE' : PE n F (va_cpy ev me 0 0 5) := PE_congr hE (fun p hp => sb_cpy0 (by omega))
    obtain ⟨d', d1, d2⟩ := fillL_eq (N := N) (by omega) dead
    obtain ⟨m', m1, m2⟩ := fillL_eq (N := N) (by omega) met
    have hF8 := Nat.lt_of_lt_of_le hE.2.1 (pow8 hn)
    rw [bd_of d1, bd_of m1, bd_of (show f_X9_fullState N ((f_X4_copyFrom (nI n') me (nI n) ev).1) ((f_X4_copyFrom (nI n') me (nI n) ev).2) = some (nI F) from wfull_eq hE' (by omega))]
    obtain ⟨mm, p1, p2⟩ := wpush_eq (x := ⟨fun _ => false, fun _ => false, fun _ => 0, fun _ => 0, 0⟩) (met := m') (states := states) (show (0 : Nat) < 256 by decide) hF8 visits
    have p1 : f_X9_push 0 m' states visits (nI F) = some (nI 1, mm, upd states 0 (nI F), upd visits 0 (-1)) := p1
    rw [bd_of p1]
    obtain ⟨k, hk, hG⟩ := WGoA h0 hn hE.2.1
    obtain ⟨q, q1, q2, q3, q4⟩ := wmake_go (N := N) hE' (by omega) (nI n) ev hG (WInv0 hE.2.1) (nI 1) rs d' mm (upd states 0 (nI F)) (upd visits 0 (-1)) 0 N ⟨⟨rfl, (by decide : (1 : Nat) ≤ 256)⟩, fun s hs => mk_0 d2 hs, fun s hs => by
        rw [p2]
        show (if s = F then true else mk m' s) = (if s = F then true else false)
        rw [mk_0 m2 hs], fun i hi => by
        have hi : i < 1 := hi
        rw [show i = 0 by omega]; exact upd_s, fun i hi => by
        have hi : i < 1 := hi
        rw [show i = 0 by omega]; exact upd_s⟩ (by omega) (by omega)
    refine ⟨q, F, q1, hE, q2, ?_, q4⟩
    rw [q3]; exact hE'
  · rw [if_neg i10ne]
    obtain ⟨F, a, b⟩ := hC h0
    exact ⟨_, F, rfl, PE_congr a (fun p hp => (he p hp).symm), rfl, a, b⟩
theorem nI_sub {a b : Nat} (h : b ≤ a) : nI a - nI b = nI (a - b) := by
  have : nI a = nI (a - b) + nI b := by rw [nI_add, Nat.sub_add_cancel h]
  rw [this, Int32.add_sub_cancel]
theorem nI_divm {a b : Nat} (ha : a < 2 ^ 31) (hb : b < 2 ^ 31) (h0 : 0 < b) : nI a / nI b = nI (a / b) := by
  apply Int32.toInt.inj
  have hne : nI b ≠ -1 := by
    intro h
    have h5 := congrArg Int32.toInt h
    rw [nI_toInt hb] at h5
    have h6 : (-1 : Int32).toInt = -1 := rfl
    omega
  rw [Int32.toInt_div_of_ne_right _ _ hne, nI_toInt ha, nI_toInt hb, nI_toInt (Nat.lt_of_le_of_lt (Nat.div_le_self a b) ha)]
  exact (Int.ofNat_tdiv a b).symm
/-- where the walk stands at a tick -/
def wix (sz r t : Nat) : Nat := if t < sz then t else r + (t - r) % (sz - r)
theorem wix_lt {sz r t : Nat} (hr : r < sz) : wix sz r t < sz := by
  unfold wix
  split
  · assumption
  · have := Nat.mod_lt (t - r) (show 0 < sz - r by omega)
    omega
theorem wix_s {sz r t : Nat} (hr : r < sz) : wix sz r (t + 1) = if wix sz r t + 1 < sz then wix sz r t + 1 else r := by
  unfold wix
  by_cases h : t + 1 < sz
  · rw [if_pos h, if_pos (show t < sz by omega), if_pos h]
  · rw [if_neg h]
    by_cases h2 : t < sz
    · rw [if_pos h2, if_neg h, show t + 1 - r = sz - r by omega, Nat.mod_self, Nat.add_zero]
    · rw [if_neg h2, show t + 1 - r = t - r + 1 by omega]
      have h3 := Nat.mod_lt (t - r) (show 0 < sz - r by omega)
      have h4 : (t - r + 1) % (sz - r) = ((t - r) % (sz - r) + 1) % (sz - r) := by rw [Nat.mod_add_mod]
      rw [h4]
      by_cases h5 : r + (t - r) % (sz - r) + 1 < sz
      · rw [if_pos h5, Nat.mod_eq_of_lt (show (t - r) % (sz - r) + 1 < sz - r by omega)]; omega
      · rw [if_neg h5, show (t - r) % (sz - r) + 1 = sz - r by omega, Nat.mod_self]; omega
theorem wpost_eq {sz r t : Nat} {visits : Nat → Int32} (h0 : 0 < sz) (h2 : sz ≤ 256) (hr : r < sz) (ht : t ≤ 1000) : f_X9_postAt (nI sz) (nI r) visits (nI t) = some (visits (wix sz r t)) := by
  unfold f_X9_postAt
  have hn0 : ¬ nI sz ≤ 0 := fun q => absurd ((nI_leI (a := sz) (b := 0) (by omega) (by decide)).mp q) (by omega)
  rw [if_neg hn0, nI_sub (by omega), if_pos ((nI_0lt (by omega)).mpr (by omega))]
  have hw := wix_lt (t := t) hr
  by_cases h : t < sz
  · rw [if_neg (fun q => absurd ((nI_leI (by omega) (by omega)).mp q) (by omega)), gI_n (by omega) (by decide), cl_n (by omega)]
    unfold wix
    rw [if_pos h]
  · have e : nI r + ((nI t - nI r) - (nI t - nI r) / nI (sz - r) * nI (sz - r)) = nI (wix sz r t) := by
      have h3 : (t - r) / (sz - r) * (sz - r) ≤ t - r := Nat.div_mul_le_self _ _
      rw [nI_sub (by omega), nI_divm (by omega) (by omega) (by omega), nI_mul, nI_sub h3, nI_add]
      unfold wix
      have h4 := Nat.div_add_mod' (t - r) (sz - r)
      rw [if_neg h, show t - r - (t - r) / (sz - r) * (sz - r) = (t - r) % (sz - r) by omega]
    rw [if_pos ((nI_leI (by omega) (by omega)).mpr (by omega)), gDi_of (fun q => absurd ((nI_eq0 (by omega)).mp q) (by omega)), e, gI_n (by omega) (by decide), cl_n (by omega)]
end PWE
