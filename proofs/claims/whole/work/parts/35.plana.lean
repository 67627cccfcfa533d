/-! ===== the plan: the class's level ===== -/
section PPA
theorem mb {a b : Int} {A B : Nat} (h1 : -(A : Int) ≤ a) (h2 : a ≤ A) (h3 : -(B : Int) ≤ b) (h4 : b ≤ B) : -((A * B : Nat) : Int) ≤ a * b ∧ a * b ≤ ((A * B : Nat) : Int) := by
  have q : (a * b).natAbs ≤ A * B := by
    rw [Int.natAbs_mul]; exact Nat.mul_le_mul (by omega) (by omega)
  omega
abbrev ti (f : Nat → Int32) (t : Nat) : Int := (f t).toInt
abbrev ez (f : Nat → Int32) (t : Nat) : Int := 60 / (f t).toInt
def PD (n : Nat) (saved lost gain gap least most : Nat → Int32) : Prop := n ≤ 10 ∧ ∀ t, t < n → (-60 ≤ ti saved t ∧ ti saved t ≤ 60) ∧ (-60 ≤ ti lost t ∧ ti lost t ≤ ti saved t) ∧ (-60 ≤ ti gain t ∧ ti gain t ≤ 60) ∧ (1 ≤ ti gap t ∧ ti gap t ≤ 60 ∧ 60 % ti gap t = 0) ∧ (0 ≤ ti least t ∧ ti least t ≤ ti most t ∧ ti most t ≤ 60)
theorem gap_all : ∀ k : Nat, k < 61 → 1 ≤ k → (60 : Int) % (k : Int) = 0 → 60 / (k : Int) * (k : Int) = 60 ∧ 1 ≤ 60 / (k : Int) ∧ 60 / (k : Int) ≤ 60 := by decide
theorem gap_e {p : Int} (h1 : 1 ≤ p) (h2 : p ≤ 60) (h3 : 60 % p = 0) : 60 / p * p = 60 ∧ 1 ≤ 60 / p ∧ 60 / p ≤ 60 := by
  obtain ⟨k, rfl⟩ := Int.eq_ofNat_of_zero_le (show 0 ≤ p by omega)
  exact gap_all k (by omega) (by omega) h3
variable {n : Nat} {saved lost gain gap least most : Nat → Int32}
theorem pd_e (h : PD n saved lost gain gap least most) {t : Nat} (ht : t < n) : ez gap t * ti gap t = 60 ∧ 1 ≤ ez gap t ∧ ez gap t ≤ 60 := by
  obtain ⟨-, -, -, ⟨a, b, c⟩, -⟩ := h.2 t ht
  exact gap_e a b c
abbrev pkZ (gain gap least : Nat → Int32) : Nat → Int := pkF (ti gain) (ti gap) (ti least)
abbrev flZ (gain gap most : Nat → Int32) : Nat → Int := flF (ti gain) (ti gap) (ti most)
theorem pk_bd (h : PD n saved lost gain gap least most) {t : Nat} (ht : t < n) : -7200 ≤ pkZ gain gap least t ∧ pkZ gain gap least t ≤ 3600 := by
  obtain ⟨-, -, ⟨a, b⟩, ⟨c, d, -⟩, ⟨f, g, i⟩⟩ := h.2 t ht
  have q := mb (a := ti gap t) (b := ti least t) (A := 60) (B := 60) (by omega) (by omega) (by omega) (by omega)
  have q2 : 0 ≤ ti gap t * ti least t := Int.mul_nonneg (by omega) (by omega)
  unfold pkZ pkF
  omega
theorem fl_bd (h : PD n saved lost gain gap least most) {t : Nat} (ht : t < n) : -7200 ≤ flZ gain gap most t ∧ flZ gain gap most t ≤ 3600 ∧ flZ gain gap most t ≤ pkZ gain gap least t := by
  obtain ⟨-, -, ⟨a, b⟩, ⟨c, d, -⟩, ⟨f, g, i⟩⟩ := h.2 t ht
  have q := mb (a := ti gap t) (b := ti most t) (A := 60) (B := 60) (by omega) (by omega) (by omega) (by omega)
  have q2 : 0 ≤ ti gap t * ti most t := Int.mul_nonneg (by omega) (by omega)
  have q3 : ti gap t * ti least t ≤ ti gap t * ti most t := Int.mul_le_mul_of_nonneg_left g (by omega)
  unfold pkZ flZ pkF flF
  omega
theorem le01 {x : Int} (h : 1 ≤ x) : 0 ≤ x := by omega
theorem lt01 {x : Int} (h : 1 ≤ x) : 0 < x := by omega
theorem i60 : (60 : Int32).toInt = 60 := rfl
theorem prod_i {a b c : Int32} (ha : -60 ≤ a.toInt ∧ a.toInt ≤ 60) (hb : 0 ≤ b.toInt ∧ b.toInt ≤ 60) (hc : 0 ≤ c.toInt ∧ c.toInt ≤ 60) : ((60 * a - b * c).toInt64) = lI (60 * a.toInt - b.toInt * c.toInt) := by
  have q := mb (a := b.toInt) (b := c.toInt) (A := 60) (B := 60) (by omega) (by omega) (by omega) (by omega)
  have e1 : (60 * a).toInt = 60 * a.toInt := by rw [i_mul, i60] <;> rw [i60] <;> omega
  have e2 : (b * c).toInt = b.toInt * c.toInt := by rw [i_mul] <;> omega
  rw [x64, i_sub, e1, e2] <;> rw [e1, e2] <;> omega
theorem peak_eq (h : PD n saved lost gain gap least most) {t : Nat} (ht : t < n) : f_X3_peak gain gap least (nI t) = some (lI (pkZ gain gap least t)) := by
  obtain ⟨-, -, ⟨a, b⟩, ⟨c, d, -⟩, ⟨f, g, i⟩⟩ := h.2 t ht
  have hn := h.1
  unfold f_X3_peak
  rw [gI_n (by omega) (by omega), gI_n (by omega) (by omega), gI_n (by omega) (by omega), cl_n (by omega), prod_i ⟨a, b⟩ ⟨le01 c, d⟩ ⟨f, Int.le_trans g i⟩]
  rfl
theorem div_60 {g : Int32} (h1 : 1 ≤ g.toInt) : (60 / g).toInt64 = lI (60 / g.toInt) := by
  rw [x64, Int32.toInt_div_of_ne_right, i60, Int.tdiv_eq_ediv_of_nonneg (by omega)]
  intro q
  rw [q] at h1
  exact absurd h1 (by decide)
theorem slope_eq (h : PD n saved lost gain gap least most) {t : Nat} (ht : t < n) : f_X3_slope gap (nI t) = some (lI (ez gap t)) := by
  obtain ⟨-, -, -, ⟨c, d, -⟩, -⟩ := h.2 t ht
  have hn := h.1
  unfold f_X3_slope
  have c1 : 0 < gap t := by rw [Int32.lt_iff_toInt_lt, i0]; exact lt01 c
  have c2 : ¬ gap t = 0 := by intro q; rw [q] at c1; exact absurd c1 (by decide)
  rw [gI_n (by omega) (by omega), cl_n (by omega), if_pos c1, gDi_of c2, div_60 c]
/-- the sums of a threshold are small -/
theorem ta_bd (h : PD n saved lost gain gap least most) (q : Int) {S : Int} (hS : -40000 ≤ S ∧ S ≤ 40000) : ∀ k, k ≤ n → (-(500000 * (k : Int)) - 40000 ≤ TA k (ez gap) (pkZ gain gap least) S q ∧ TA k (ez gap) (pkZ gain gap least) S q ≤ 500000 * (k : Int) + 40000) ∧ 0 ≤ TB k (ez gap) (pkZ gain gap least) q ∧ TB k (ez gap) (pkZ gain gap least) q ≤ 60 * (k : Int) := by
  intro k
  induction k with
  | zero =>
    intro _
    have e1 : TA 0 (ez gap) (pkZ gain gap least) S q = 0 - S := rfl
    have e2 : TB 0 (ez gap) (pkZ gain gap least) q = 0 := rfl
    rw [e1, e2]; omega
  | succ k ih =>
    intro hk
    obtain ⟨a, b⟩ := ih (by omega)
    have c := pk_bd h (show k < n by omega)
    have d := pd_e h (show k < n by omega)
    have z := mb (a := ez gap k) (b := pkZ gain gap least k) (A := 60) (B := 7200) (by omega) (by omega) (by omega) (by omega)
    have e1 : TA (k + 1) (ez gap) (pkZ gain gap least) S q = TA k (ez gap) (pkZ gain gap least) S q + (if q ≤ pkZ gain gap least k then ez gap k * pkZ gain gap least k else 0) := by
      unfold TA; rw [sm_s]; omega
    have e2 : TB (k + 1) (ez gap) (pkZ gain gap least) q = TB k (ez gap) (pkZ gain gap least) q + (if q ≤ pkZ gain gap least k then ez gap k else 0) := rfl
    rw [e1, e2]
    by_cases w : q ≤ pkZ gain gap least k
    · rw [if_pos w, if_pos w]; omega
    · rw [if_neg w, if_neg w]; omega
theorem tb_pos (h : PD n saved lost gain gap least most) {t : Nat} (ht : t < n) : 0 < TB n (ez gap) (pkZ gain gap least) (pkZ gain gap least t) := by
  have q := sm_mem (f := fun j => if pkZ gain gap least t ≤ pkZ gain gap least j then ez gap j else 0) n (fun j hj => by
    have := pd_e h hj
    show 0 ≤ ite _ _ _
    split <;> omega) t ht
  have := pd_e h ht
  rw [if_pos (Int.le_refl _)] at q
  unfold TB; omega
theorem raise_go (N : Nat) (h : PD n saved lost gain gap least most) {S q A B : Int} (hS : -40000 ≤ S ∧ S ≤ 40000) (hq : -10000 ≤ q ∧ q ≤ 10000) (hA : -10000000 ≤ A ∧ A ≤ 10000000) (hB : 0 < B ∧ B ≤ 10000) : ∀ (d k m : Nat), k + d = n → d < m →
    f_X3_raiseLevel_b14 N (nI n) gain gap least (lI A) (lI B) (lI q) m (lI (TA k (ez gap) (pkZ gain gap least) S q)) (lI (TB k (ez gap) (pkZ gain gap least) q)) (nI k) =
    (if TB n (ez gap) (pkZ gain gap least) q ≤ 0 then some (lI A, lI B) else if TA n (ez gap) (pkZ gain gap least) S q * B ≤ A * TB n (ez gap) (pkZ gain gap least) q then some (lI A, lI B) else some (lI (TA n (ez gap) (pkZ gain gap least) S q), lI (TB n (ez gap) (pkZ gain gap least) q))) := by
  have hn := h.1
  intro d
  induction d with
  | zero =>
    intro k m h3 hm
    obtain ⟨m, rfl⟩ : ∃ z, m = z + 1 := ⟨m - 1, by omega⟩
    rw [f_X3_raiseLevel_b14_s]
    unfold g_X3_raiseLevel_b14
    have hk : k = n := by omega
    subst hk
    obtain ⟨b1, b2, b3⟩ := ta_bd h q hS k (Nat.le_refl k)
    generalize TA k (ez gap) (pkZ gain gap least) S q = X at *
    generalize TB k (ez gap) (pkZ gain gap least) q = Y at *
    have z1 := mb (a := X) (b := B) (A := 6000000) (B := 10000) (by omega) (by omega) (by omega) (by omega)
    have z2 := mb (a := A) (b := Y) (A := 10000000) (B := 600) (by omega) (by omega) (by omega) (by omega)
    have c1 : lI Y ≤ 0 ↔ Y ≤ 0 := by rw [show (0 : Int64) = lI 0 from rfl, lI_le (by omega) (by omega) (by omega) (by omega)]
    have c2 : lI X * lI B ≤ lI A * lI Y ↔ X * B ≤ A * Y := by rw [lI_mul, lI_mul, lI_le (by omega) (by omega) (by omega) (by omega)]
    rw [if_pos ((nI_leI (by omega) (by omega)).mpr (by omega))]
    simp only [c1, c2]
  | succ d ih =>
    intro k m h3 hm
    obtain ⟨m, rfl⟩ : ∃ z, m = z + 1 := ⟨m - 1, by omega⟩
    rw [f_X3_raiseLevel_b14_s]
    unfold g_X3_raiseLevel_b14
    have c := pk_bd h (show k < n by omega)
    have i := ih (k + 1) m (by omega) (by omega)
    have e1 : TA (k + 1) (ez gap) (pkZ gain gap least) S q = TA k (ez gap) (pkZ gain gap least) S q + (if q ≤ pkZ gain gap least k then ez gap k * pkZ gain gap least k else 0) := by
      unfold TA; rw [sm_s]; omega
    have e2 : TB (k + 1) (ez gap) (pkZ gain gap least) q = TB k (ez gap) (pkZ gain gap least) q + (if q ≤ pkZ gain gap least k then ez gap k else 0) := rfl
    rw [e1, e2] at i
    rw [if_neg (fun q => absurd ((nI_leI (by omega) (by omega)).mp q) (by omega)), peak_eq h (by omega), bd_of rfl, slope_eq h (by omega), nI_1]
    have c1 : lI (pkZ gain gap least k) < lI q ↔ ¬ q ≤ pkZ gain gap least k := by rw [lI_lt (by omega) (by omega) (by omega) (by omega)]; omega
    by_cases w : q ≤ pkZ gain gap least k
    · rw [if_neg (fun z => c1.mp z w), bd_of rfl, bd_of rfl, lI_mul, lI_add, lI_add]
      rw [if_pos w, if_pos w] at i
      exact i
    · rw [if_pos (c1.mpr w)]
      rw [if_neg w, if_neg w, Int.add_zero, Int.add_zero] at i
      exact i
/-- tight: a floor, or a threshold -/
def TI (n : Nat) (gain gap least most : Nat → Int32) (S A B : Int) : Prop := (∃ j, j < n ∧ A = flZ gain gap most j ∧ B = 1) ∨ ∃ t, t < n ∧ A = TA n (ez gap) (pkZ gain gap least) S (pkZ gain gap least t) ∧ B = TB n (ez gap) (pkZ gain gap least) (pkZ gain gap least t)
theorem ti_bd (h : PD n saved lost gain gap least most) {S A B : Int} (hS : -40000 ≤ S ∧ S ≤ 40000) (hT : TI n gain gap least most S A B) : (-6000000 ≤ A ∧ A ≤ 6000000) ∧ 0 < B ∧ B ≤ 600 := by
  have hn := h.1
  rcases hT with ⟨j, hj, rfl, rfl⟩ | ⟨t, ht, rfl, rfl⟩
  · have := fl_bd h hj
    omega
  · have a := ta_bd h (pkZ gain gap least t) hS n (Nat.le_refl n)
    have b := tb_pos h ht
    omega
theorem level_go {N : Nat} (hN : 100 ≤ N) (h : PD n saved lost gain gap least most) {sp : Int} (hS : -600 ≤ sp ∧ sp ≤ 600) : ∀ (d k m : Nat) (A B : Int), k + d = n → d < m → TI n gain gap least most (60 * sp) A B → (∀ j, j < n → flZ gain gap most j * B ≤ A) →
    (∀ t, t < k → TA n (ez gap) (pkZ gain gap least) (60 * sp) (pkZ gain gap least t) * B ≤ A * TB n (ez gap) (pkZ gain gap least) (pkZ gain gap least t)) →
    ∃ A' B', f_X3_findLevel_b90 N (nI n) gain gap least most (iI sp) m (lI A) (lI B) (nI k) = some (lI A', lI B') ∧ LV n (flZ gain gap most) (pkZ gain gap least) (ez gap) (60 * sp) A' B' ∧ (-6000000 ≤ A' ∧ A' ≤ 6000000) ∧ 0 < B' ∧ B' ≤ 600 := by
  have hn := h.1
  intro d
  induction d with
  | zero =>
    intro k m A B h3 hm hT h4 h5
    obtain ⟨m, rfl⟩ : ∃ z, m = z + 1 := ⟨m - 1, by omega⟩
    rw [f_X3_findLevel_b90_s]
    unfold g_X3_findLevel_b90
    have hk : k = n := by omega
    subst hk
    have bd := ti_bd h (S := 60 * sp) (by omega) hT
    rw [if_pos ((nI_leI (by omega) (by omega)).mpr (by omega))]
    exact ⟨A, B, rfl, ⟨bd.2.1, h4, h5, hT⟩, bd⟩
  | succ d ih =>
    intro k m A B h3 hm hT h4 h5
    obtain ⟨m, rfl⟩ : ∃ z, m = z + 1 := ⟨m - 1, by omega⟩
    rw [f_X3_findLevel_b90_s]
    unfold g_X3_findLevel_b90
    have b := ti_bd h (S := 60 * sp) (by omega) hT
    have c := pk_bd h (show k < n by omega)
    have tp := tb_pos h (show k < n by omega)
    rw [if_neg (fun q => absurd ((nI_leI (by omega) (by omega)).mp q) (by omega)), peak_eq h (by omega), bd_of rfl]
    unfold f_X3_raiseLevel
    have r := raise_go N h (S := 60 * sp) (q := pkZ gain gap least k) (A := A) (B := B) (by omega) (by omega) (by omega) (by omega) n 0 N (by omega) (by omega)
    have e0 : (-60 : Int64) * (iI sp).toInt64 = lI (TA 0 (ez gap) (pkZ gain gap least) (60 * sp) (pkZ gain gap least k)) := by
      rw [iI_l (by omega) (by omega), show (-60 : Int64) = lI (-60) from rfl, lI_mul]
      congr 1
      show -60 * sp = 0 - 60 * sp
      omega
    rw [show lI (TB 0 (ez gap) (pkZ gain gap least) (pkZ gain gap least k)) = 0 from rfl, show nI 0 = 0 from rfl, ← e0] at r
    rw [r, if_neg (by omega)]
    by_cases w : TA n (ez gap) (pkZ gain gap least) (60 * sp) (pkZ gain gap least k) * B ≤ A * TB n (ez gap) (pkZ gain gap least) (pkZ gain gap least k)
    · rw [if_pos w, bd_of rfl, nI_1]
      refine ih (k + 1) m A B (by omega) (by omega) hT h4 (fun t ht => ?_)
      by_cases y : t = k
      · subst y; exact w
      · exact h5 t (by omega)
    · rw [if_neg w, bd_of rfl, nI_1]
      have w' : A * TB n (ez gap) (pkZ gain gap least) (pkZ gain gap least k) ≤ TA n (ez gap) (pkZ gain gap least) (60 * sp) (pkZ gain gap least k) * B := by omega
      refine ih (k + 1) m _ _ (by omega) (by omega) (Or.inr ⟨k, by omega, rfl, rfl⟩) (fun j hj => ?_) (fun t ht => ?_)
      · have := cr_tr (x := flZ gain gap most j) (y := 1) (A := A) (B := B) (by rw [Int.mul_one]; exact h4 j hj) w' b.2.1 (by omega) (by omega)
        rw [Int.mul_one] at this; exact this
      · by_cases y : t = k
        · subst y; exact Int.le_refl _
        · exact cr_tr (h5 t (by omega)) w' b.2.1 (Int.le_of_lt (tb_pos h (by omega))) (by omega)
theorem floor_go {N : Nat} (h : PD n saved lost gain gap least most) (v2 : Int32) : ∀ (d k m : Nat) (A : Int), k + d = n → d < m → (∃ j, j < n ∧ A = flZ gain gap most j) → (∀ j, j < k → flZ gain gap most j ≤ A) →
    ∃ A', f_X3_findLevel_b35 N (nI n) gain gap least most 1 v2 m (lI A) (nI k) = f_X3_findLevel_b90 N (nI n) gain gap least most v2 N (lI A') 1 0 ∧ (∃ j, j < n ∧ A' = flZ gain gap most j) ∧ (∀ j, j < n → flZ gain gap most j ≤ A') := by
  have hn := h.1
  intro d
  induction d with
  | zero =>
    intro k m A h3 hm hT h4
    obtain ⟨m, rfl⟩ : ∃ z, m = z + 1 := ⟨m - 1, by omega⟩
    rw [f_X3_findLevel_b35_s]
    unfold g_X3_findLevel_b35
    rw [if_pos ((nI_leI (by omega) (by omega)).mpr (by omega))]
    exact ⟨A, rfl, hT, fun j hj => h4 j (by omega)⟩
  | succ d ih =>
    intro k m A h3 hm hT h4
    obtain ⟨m, rfl⟩ : ∃ z, m = z + 1 := ⟨m - 1, by omega⟩
    rw [f_X3_findLevel_b35_s]
    unfold g_X3_findLevel_b35
    obtain ⟨-, -, ⟨a, b⟩, ⟨c, d, -⟩, ⟨f, g, i⟩⟩ := h.2 k (by omega)
    have q1 := fl_bd h (show k < n by omega)
    rw [if_neg (fun q => absurd ((nI_leI (by omega) (by omega)).mp q) (by omega)), gI_n (by omega) (by omega), gI_n (by omega) (by omega), gI_n (by omega) (by omega), cl_n (by omega), prod_i ⟨a, b⟩ ⟨le01 c, d⟩ ⟨Int.le_trans f g, i⟩, nI_1]
    have e : 60 * (gain k).toInt - (gap k).toInt * (most k).toInt = flZ gain gap most k := rfl
    obtain ⟨j, hj, hjA⟩ := id hT
    have q2 := fl_bd h hj
    have c1 : lI (flZ gain gap most k) < lI A ↔ flZ gain gap most k < A := lI_lt (by omega) (by omega) (by omega) (by omega)
    rw [e]
    by_cases w : flZ gain gap most k < A
    · rw [if_pos (c1.mpr w)]
      refine ih (k + 1) m A (by omega) (by omega) hT (fun j hj => ?_)
      by_cases y : j = k
      · subst y; omega
      · exact h4 j (by omega)
    · rw [if_neg (fun z => w (c1.mp z))]
      refine ih (k + 1) m _ (by omega) (by omega) ⟨k, by omega, rfl⟩ (fun j hj => ?_)
      by_cases y : j = k
      · subst y; omega
      · have := h4 j (by omega)
        omega
theorem findLevel_eq {N : Nat} (hN : 100 ≤ N) (h : PD n saved lost gain gap least most) (h0 : 0 < n) {sp : Int} (hS : -600 ≤ sp ∧ sp ≤ 600) (x y : Int64) :
    ∃ A' B', f_X3_findLevel N x y (nI n) gain gap least most (iI sp) = some (lI A', lI B') ∧ LV n (flZ gain gap most) (pkZ gain gap least) (ez gap) (60 * sp) A' B' ∧ (-6000000 ≤ A' ∧ A' ≤ 6000000) ∧ 0 < B' ∧ B' ≤ 600 := by
  have hn := h.1
  unfold f_X3_findLevel
  obtain ⟨-, -, ⟨a, b⟩, ⟨c, d, -⟩, ⟨f, g, i⟩⟩ := h.2 0 h0
  rw [prod_i ⟨a, b⟩ ⟨le01 c, d⟩ ⟨Int.le_trans f g, i⟩]
  have e : 60 * (gain 0).toInt - (gap 0).toInt * (most 0).toInt = flZ gain gap most 0 := rfl
  rw [e]
  obtain ⟨A, a1, a2, a3⟩ := floor_go (N := N) h (iI sp) (n - 1) 1 N (flZ gain gap most 0) (by omega) (by omega) ⟨0, h0, rfl⟩ (fun j hj => by rw [show j = 0 by omega]; exact Int.le_refl _)
  rw [show nI 1 = 1 from rfl] at a1
  rw [a1]
  obtain ⟨j, hj, hjA⟩ := a2
  exact level_go hN h hS n 0 N A 1 (by omega) (by omega) (Or.inl ⟨j, hj, hjA, rfl⟩) (fun j hj => by rw [Int.mul_one]; exact a3 j hj) (fun t ht => absurd ht (by omega))
end PPA
