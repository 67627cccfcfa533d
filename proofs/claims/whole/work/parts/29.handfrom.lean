/-! ===== handFrom ===== -/
section PHF
variable {n u : Nat} {kind saved lost gain gap least most hand g : Nat → Int32} {sort size n0 n1 n2 n3 sortOf sizeOf sheets : Nat → Int32}
theorem FT.trans {g g' g'' : Nat → Int32} (h : FT g g') (h' : FT g' g'') : FT g g'' := fun i hi => (h' i hi).trans (h i hi)
def cutI (lo hi v : Int32) : Int32 := if lo ≤ v then (if v ≤ hi then v else hi) else lo
theorem cut_X {lo hi v : Int32} (h : lo.toInt ≤ hi.toInt) : (if lo < (if v < hi then v else hi) then (if v < hi then v else hi) else lo) = cutI lo hi v := by
  unfold cutI
  simp only [Int32.lt_iff_toInt_lt, Int32.le_iff_toInt_le]
  by_cases h1 : v.toInt < hi.toInt
  · rw [if_pos h1, if_pos (show v.toInt ≤ hi.toInt by omega)]
    by_cases h2 : lo.toInt < v.toInt
    · rw [if_pos h2, if_pos (by omega)]
    · rw [if_neg h2]
      by_cases h3 : lo.toInt ≤ v.toInt
      · rw [if_pos h3]; exact Int32.toInt_inj.mp (by omega)
      · rw [if_neg h3]
  · rw [if_neg h1]
    by_cases h2 : lo.toInt < hi.toInt
    · rw [if_pos h2, if_pos (show lo.toInt ≤ v.toInt by omega)]
      by_cases h3 : v.toInt ≤ hi.toInt
      · rw [if_pos h3]; exact Int32.toInt_inj.mp (by omega)
      · rw [if_neg h3]
    · rw [if_neg h2, if_pos (show lo.toInt ≤ v.toInt by omega)]
      by_cases h3 : v.toInt ≤ hi.toInt
      · rw [if_pos h3]; exact Int32.toInt_inj.mp (by omega)
      · rw [if_neg h3]; exact Int32.toInt_inj.mp (by omega)
theorem cut_in {lo hi v : Int32} (h : lo.toInt ≤ hi.toInt) (h0 : 0 ≤ lo.toInt) (h1 : hi.toInt ≤ 60) : 0 ≤ (cutI lo hi v).toInt ∧ (cutI lo hi v).toInt ≤ 60 := by
  unfold cutI
  simp only [Int32.le_iff_toInt_le]
  split
  · split <;> constructor <;> omega
  · constructor <;> omega
def outI (c v : Int32) : Int32 := if c = v then 0 else 1
theorem put_eq {t : Nat} (ht : t < 10) {v : Int32} (h : (least t).toInt ≤ (most t).toInt) : f_X8_putNearest least most hand (nI t) v = some (outI (cutI (least t) (most t) v) v, upd hand t (cutI (least t) (most t) v)) := by
  unfold f_X8_putNearest
  simp only [gI_n ht (by decide), cl_n (show t < 2 ^ 31 by omega), cut_X h, upd_s]
  unfold outI
  by_cases q : cutI (least t) (most t) v = v
  · rw [if_pos q, if_pos q]
  · rw [if_neg q, if_neg q]
theorem hf_go (hS : SR sort size n0 n1 n2 n3 sortOf sizeOf sheets) (N : Nat) (x : Int32) {s i m : Nat} (hs : s < 4) (him : i + n ≤ m) (hm : m ≤ 40) : ∀ (d t w : Nat) (hand g : Nat → Int32) (cnt : Int32), TR n u kind saved lost gain gap least most hand g → t + d = n → d < w →
    ∃ (r : Int32) (hand' g' : Nat → Int32), f_X10_handFrom_b105 N (nI n) least most sort size n0 n1 n2 n3 x (nI s) (nI i) (nI n) w hand cnt (nI t) = some (r, x, hand') ∧ f_X11_handFrom_b95 N sortOf sizeOf sheets x (nI s) (nI i) (nI n) w g cnt (nI t) = some (r, x, g') ∧ TR n u kind saved lost gain gap least most hand' g' ∧ FT g g' := by
  intro d
  induction d with
  | zero =>
    intro t w hand g cnt hT h2 hw
    obtain ⟨w, rfl⟩ : ∃ z, w = z + 1 := ⟨w - 1, by omega⟩
    have ha := hT.1
    rw [f_X10_handFrom_b105_s, f_X11_handFrom_b95_s]
    unfold g_X10_handFrom_b105 g_X11_handFrom_b95
    have e : nI n ≤ nI t := (nI_leI (by omega) (by omega)).mpr (by omega)
    rw [if_pos e, if_pos e]
    exact ⟨_, _, _, rfl, rfl, hT, FT.rf⟩
  | succ d ih =>
    intro t w hand g cnt hT h2 hw
    obtain ⟨w, rfl⟩ : ∃ z, w = z + 1 := ⟨w - 1, by omega⟩
    have ha := hT.1
    rw [f_X10_handFrom_b105_s, f_X11_handFrom_b95_s]
    unfold g_X10_handFrom_b105 g_X11_handFrom_b95
    have e : ¬ nI n ≤ nI t := fun q => absurd ((nI_leI (by omega) (by omega)).mp q) (by omega)
    obtain ⟨e1, e2, e3, e4, e5, e6, e7, e8⟩ := hT.2.2.2.2.1 t (by omega)
    have ok := hT.2.2.2.2.2 t (by omega)
    have hlm : (least t).toInt ≤ (most t).toInt := by rw [e6, e7]; exact ok.2.2.2.2.2.1.2.1
    have hrow := (hS s hs).2 (i + t) (by omega)
    have cls : (gI (nI s) 4 (if nI s = 0 then gI (nI i + nI t) 40 (bd (f_X8_putNearest least most hand (nI t) (n0 (nI i + nI t).toNatClampNeg)) (fun q4 => f_X10_handFrom_b105 N (nI n) least most sort size n0 n1 n2 n3 x (nI s) (nI i) (nI n) w q4.2 (cnt + q4.1) (nI t + 1))) else if nI s = 1 then gI (nI i + nI t) 40 (bd (f_X8_putNearest least most hand (nI t) (n1 (nI i + nI t).toNatClampNeg)) (fun q6 => f_X10_handFrom_b105 N (nI n) least most sort size n0 n1 n2 n3 x (nI s) (nI i) (nI n) w q6.2 (cnt + q6.1) (nI t + 1))) else if nI s = 2 then gI (nI i + nI t) 40 (bd (f_X8_putNearest least most hand (nI t) (n2 (nI i + nI t).toNatClampNeg)) (fun q8 => f_X10_handFrom_b105 N (nI n) least most sort size n0 n1 n2 n3 x (nI s) (nI i) (nI n) w q8.2 (cnt + q8.1) (nI t + 1))) else gI (nI i + nI t) 40 (bd (f_X8_putNearest least most hand (nI t) (n3 (nI i + nI t).toNatClampNeg)) (fun q10 => f_X10_handFrom_b105 N (nI n) least most sort size n0 n1 n2 n3 x (nI s) (nI i) (nI n) w q10.2 (cnt + q10.1) (nI t + 1)))))
        = f_X10_handFrom_b105 N (nI n) least most sort size n0 n1 n2 n3 x (nI s) (nI i) (nI n) w (upd hand t (cutI (least t) (most t) (sheets (40 * s + (i + t))))) (cnt + outI (cutI (least t) (most t) (sheets (40 * s + (i + t)))) (sheets (40 * s + (i + t)))) (nI (t + 1)) := by
      rw [nI_add, gI_n hs (by decide), cl_n (by omega), gI_n (show i + t < 40 by omega) (by decide), gI_n (show i + t < 40 by omega) (by decide), gI_n (show i + t < 40 by omega) (by decide), gI_n (show i + t < 40 by omega) (by decide), put_eq (by omega) hlm, put_eq (by omega) hlm, put_eq (by omega) hlm, put_eq (by omega) hlm, bd_s, bd_s, bd_s, bd_s, nI_1, ← hrow]
      unfold rowN
      match s, hs with
      | 0, _ => rfl
      | 1, _ => rfl
      | 2, _ => rfl
      | 3, _ => rfl
    rw [if_neg e, if_neg e, cls]
    have e40 : ((40 : Int32) * nI s) + nI i + nI t = nI (40 * s + (i + t)) := by rw [ix40, nI_add, Nat.add_assoc]
    unfold f_X11_handFrom_b176 f_X11_handFrom_b192
    simp only [e40, gI_n (show 40 * s + (i + t) < 160 by omega) (by decide), cl_n (show 40 * s + (i + t) < 2 ^ 31 by omega), gI_55 (show 55 + t < 194 by omega), gI_65 (show 65 + t < 194 by omega), gI_75 (show 75 + t < 194 by omega), cl_55 (show t < 1000 by omega), cl_65 (show t < 1000 by omega), cl_75 (show t < 1000 by omega), ← e6, ← e7, nI_1]
    have mod : (if least t ≤ sheets (40 * s + (i + t)) then (if sheets (40 * s + (i + t)) ≤ most t then (if sheets (40 * s + (i + t)) = sheets (40 * s + (i + t)) then f_X11_handFrom_b95 N sortOf sizeOf sheets x (nI s) (nI i) (nI n) w (upd g (75 + t) (sheets (40 * s + (i + t)))) (cnt + 0) (nI (t + 1)) else f_X11_handFrom_b95 N sortOf sizeOf sheets x (nI s) (nI i) (nI n) w (upd g (75 + t) (sheets (40 * s + (i + t)))) (cnt + 1) (nI (t + 1))) else (if most t = sheets (40 * s + (i + t)) then f_X11_handFrom_b95 N sortOf sizeOf sheets x (nI s) (nI i) (nI n) w (upd g (75 + t) (most t)) (cnt + 0) (nI (t + 1)) else f_X11_handFrom_b95 N sortOf sizeOf sheets x (nI s) (nI i) (nI n) w (upd g (75 + t) (most t)) (cnt + 1) (nI (t + 1)))) else (if least t = sheets (40 * s + (i + t)) then f_X11_handFrom_b95 N sortOf sizeOf sheets x (nI s) (nI i) (nI n) w (upd g (75 + t) (least t)) (cnt + 0) (nI (t + 1)) else f_X11_handFrom_b95 N sortOf sizeOf sheets x (nI s) (nI i) (nI n) w (upd g (75 + t) (least t)) (cnt + 1) (nI (t + 1))))
        = f_X11_handFrom_b95 N sortOf sizeOf sheets x (nI s) (nI i) (nI n) w (upd g (75 + t) (cutI (least t) (most t) (sheets (40 * s + (i + t))))) (cnt + outI (cutI (least t) (most t) (sheets (40 * s + (i + t)))) (sheets (40 * s + (i + t)))) (nI (t + 1)) := by
      generalize sheets (40 * s + (i + t)) = v
      unfold cutI outI
      by_cases q1 : least t ≤ v
      · rw [if_pos q1, if_pos q1]
        by_cases q2 : v ≤ most t
        · rw [if_pos q2, if_pos q2, if_pos rfl, if_pos rfl]
        · rw [if_neg q2, if_neg q2]
          by_cases q3 : most t = v
          · rw [if_pos q3, if_pos q3]
          · rw [if_neg q3, if_neg q3]
      · rw [if_neg q1, if_neg q1]
        by_cases q3 : least t = v
        · rw [if_pos q3, if_pos q3]
        · rw [if_neg q3, if_neg q3]
    have mod' := mod
    simp only [if_true, eq_self] at mod' ⊢
    rw [mod']
    have ok' := ok.2.2.2.2.2.1
    rw [← e6, ← e7] at ok'
    obtain ⟨r, hand', g', z1, z2, z3, z4⟩ := ih (t + 1) w _ _ (cnt + outI (cutI (least t) (most t) (sheets (40 * s + (i + t)))) (sheets (40 * s + (i + t)))) (TR_hand (show t < 10 by omega) (fun _ => cut_in hlm ok'.1 ok'.2.2) hT) (by omega) (by omega)
    exact ⟨r, hand', g', z1, z2, z3, FT.trans (fun j hj => upd_n (by omega)) z4⟩
theorem po_handFrom (hT : TR n u kind saved lost gain gap least most hand g) (hS : SR sort size n0 n1 n2 n3 sortOf sizeOf sheets) {N : Nat} (hN : 100 ≤ N) (x p1 p2 p3 : Int32) :
    ∃ (r x' : Int32) (hand' g' : Nat → Int32), f_X10_handFrom N x (nI n) least most hand sort size n0 n1 n2 n3 p1 p2 p3 = some (r, x', hand') ∧ f_X11_handFrom N x g sortOf sizeOf sheets p1 p2 p3 = some (r, x', g') ∧ TR n u kind saved lost gain gap least most hand' g' ∧ FT g g' := by
  have ha := hT.1
  have hc := hT.2.2.1
  unfold f_X10_handFrom f_X11_handFrom f_X10_hostFinding f_X11_found f_X11_handFrom_b82 f_X11_found
  simp only [within_eq, sheetP_eq, hc]
  rcases sheetP_cases p1 with ⟨h1, s, hs, rfl⟩ | h1
  rotate_left
  · simp only [h1, if_true]
    exact ⟨_, _, _, _, rfl, rfl, hT, FT.rf⟩
  rcases sortP_cases p2 with ⟨h2, h2', k, hk, rfl⟩ | ⟨h2, h2'⟩
  rotate_left
  · simp only [h1, h2, h2', i10f, if_true, if_false]
    exact ⟨_, _, _, _, rfl, rfl, hT, FT.rf⟩
  simp only [h1, h2, h2', i10f, if_false, missing_eq hs, gI_n hs (by decide), cl_n (show s < 2 ^ 31 by omega)]
  obtain ⟨q1, q2⟩ := hS s hs
  rcases q1 with ⟨a1, a2⟩ | ⟨k', m, hk', hm, a1, a2, a3, a4⟩
  · have e1 : ¬ (0 : Int32) ≤ -1 := by decide
    simp only [a1, a2, e1, if_false, bd_s, i10f]
    exact ⟨_, _, _, _, rfl, rfl, hT, FT.rf⟩
  have e1 : (0 : Int32) ≤ nI m := nI_pos' (by omega)
  have e2 : (0 : Int32) ≤ nI k' := nI_pos' (by omega)
  simp only [a1, a2, a3, a4, e1, e2, if_true, bd_s]
  by_cases hkk : nI k' = nI k
  rotate_left
  · simp only [hkk, if_false]
    exact ⟨_, _, _, _, rfl, rfl, hT, FT.rf⟩
  simp only [hkk, if_true]
  unfold f_X10_handFrom_b99 f_X11_handFrom_b89
  by_cases h0 : n = 0
  · have e3 : nI n ≤ 0 := by rw [h0]; decide
    simp only [e3, if_true]
    obtain ⟨M, rfl⟩ : ∃ z, N = z + 1 := ⟨N - 1, by omega⟩
    rw [f_X10_handFrom_b105_s, f_X11_handFrom_b95_s]
    unfold g_X10_handFrom_b105 g_X11_handFrom_b95
    rw [if_pos e3, if_pos e3]
    exact ⟨_, _, _, _, rfl, rfl, hT, FT.rf⟩
  have e3 : ¬ nI n ≤ 0 := fun q => absurd ((nI_leI (a := n) (b := 0) (by omega) (by omega)).mp q) (by omega)
  simp only [e3, if_false]
  have es : (nI m - nI n).toInt = (m : Int) - n := by
    rw [i_sub, nI_toInt (by omega), nI_toInt (by omega)] <;> rw [nI_toInt (by omega), nI_toInt (by omega)] <;> omega
  rcases from_cases p3 0 (nI m - nI n) with ⟨h3, b1, b2⟩ | ⟨h3, b1⟩
  · rw [i0] at b1
    rw [es] at b2
    have e4 : ¬ p3 < 0 := by rw [Int32.lt_iff_toInt_lt, i0]; omega
    have e5 : p3 ≤ nI m - nI n := by rw [Int32.le_iff_toInt_le, es]; omega
    simp only [h3, i10f, e4, e5, if_true, if_false]
    obtain ⟨i, hi, rfl⟩ := nI_of_toInt (x := p3) (n := 41) b1 (by omega)
    rw [nI_toInt (by omega)] at b2
    obtain ⟨r, hand', g', z1, z2, z3, z4⟩ := hf_go hS N x (i := i) (m := m) hs (by omega) hm n 0 N hand g 0 hT (by omega) (by omega)
    exact ⟨r, x, hand', g', z1, z2, z3, z4⟩
  · rw [es, i0] at b1
    simp only [h3, if_true]
    by_cases e4 : p3 < 0
    · simp only [e4, if_true]
      exact ⟨_, _, _, _, rfl, rfl, hT, FT.rf⟩
    · have e5 : ¬ p3 ≤ nI m - nI n := by
        rw [Int32.le_iff_toInt_le, es]
        rw [Int32.lt_iff_toInt_lt, i0] at e4
        omega
      simp only [e4, e5, if_false]
      exact ⟨_, _, _, _, rfl, rfl, hT, FT.rf⟩
end PHF
