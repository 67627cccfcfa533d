/-! ===== the plan: the reference's find ===== -/
section PPC2
variable {n : Nat} {saved lost gain gap least most : Nat → Int32} {g : Nat → Int32}
def HGZ (n u : Nat) (saved lost gain gap least most g : Nat → Int32) : Prop := g 0 = nI n ∧ g 1 = nI u ∧ ∀ t, t < 10 → g (15 + t) = saved t ∧ g (25 + t) = lost t ∧ g (35 + t) = gain t ∧ g (45 + t) = gap t ∧ g (55 + t) = least t ∧ g (65 + t) = most t
def CND (n t : Nat) (G p e l m : Nat → Int) (U a b : Int) : Prop := (a = m t ∧ b = 60) ∨ (∃ j, j < n ∧ j ≠ t ∧ a = 60 * (G t - G j) + m j * p j ∧ b = 60 * p t) ∨ ∃ set, set < 2 ^ n ∧ set.testBit t = false ∧ a = AB n t G e l U set ∧ b = UN n t p e set
theorem ab_bd (h : PD n saved lost gain gap least most) {u t : Nat} (hu : u ≤ 10) (ht : t < n) (set : Nat) : ∀ k, k ≤ n → (-(8000 * (k : Int)) - 1000 ≤ AB k t (ti gain) (ez gap) (ti least) u set ∧ AB k t (ti gain) (ez gap) (ti least) u set ≤ 8000 * (k : Int) + 1000) ∧ 60 ≤ UN k t (ti gap) (ez gap) set ∧ UN k t (ti gap) (ez gap) set ≤ 60 + 3600 * (k : Int) := by
  intro k
  induction k with
  | zero =>
    intro _
    have e1 : AB 0 t (ti gain) (ez gap) (ti least) u set = 60 * (u : Int) - 0 := rfl
    have e2 : UN 0 t (ti gap) (ez gap) set = 60 + 0 := rfl
    rw [e1, e2]; omega
  | succ k ih =>
    intro hk
    obtain ⟨a, b⟩ := ih (by omega)
    obtain ⟨-, -, ⟨g1, g2⟩, -, ⟨f, q, i⟩⟩ := h.2 k (by omega)
    obtain ⟨-, -, ⟨g3, g4⟩, ⟨p1, p2, -⟩, -⟩ := h.2 t ht
    have d := pd_e h (show k < n by omega)
    have z := mb (a := ez gap k) (b := ti gain k - ti gain t) (A := 60) (B := 120) (by omega) (by omega) (by omega) (by omega)
    have z2 := mb (a := ez gap k) (b := ti gap t) (A := 60) (B := 60) (by omega) (by omega) (by omega) (by omega)
    have z3 : 0 ≤ ez gap k * ti gap t := Int.mul_nonneg (by omega) (by omega)
    have e1 : AB (k + 1) t (ti gain) (ez gap) (ti least) u set = AB k t (ti gain) (ez gap) (ti least) u set - (if k = t then 0 else if set.testBit k then ez gap k * (ti gain k - ti gain t) else ti least k) := by
      unfold AB; rw [sm_s]; omega
    have e2 : UN (k + 1) t (ti gap) (ez gap) set = UN k t (ti gap) (ez gap) set + (if k = t then 0 else if set.testBit k then ez gap k * ti gap t else 0) := by
      unfold UN; rw [sm_s]; omega
    rw [e1, e2]
    by_cases w : k = t
    · rw [if_pos w, if_pos w]; omega
    · rw [if_neg w, if_neg w]
      by_cases w2 : set.testBit k = true
      · rw [if_pos w2, if_pos w2]; omega
      · rw [if_neg w2, if_neg w2]; omega
theorem cnd_bd (h : PD n saved lost gain gap least most) {u t : Nat} (hu : u ≤ 10) (ht : t < n) {a b : Int} (hC : CND n t (ti gain) (ti gap) (ez gap) (ti least) (ti most) u a b) : (-100000 ≤ a ∧ a ≤ 100000) ∧ 0 < b ∧ b ≤ 40000 := by
  obtain ⟨-, -, ⟨g3, g4⟩, ⟨p1, p2, -⟩, ⟨l1, l2, l3⟩⟩ := h.2 t ht
  have hn := h.1
  rcases hC with ⟨rfl, rfl⟩ | ⟨j, hj, -, rfl, rfl⟩ | ⟨set, -, -, rfl, rfl⟩
  · omega
  · obtain ⟨-, -, ⟨g1, g2⟩, ⟨q1, q2, -⟩, ⟨f, q, i⟩⟩ := h.2 j hj
    have z := mb (a := ti most j) (b := ti gap j) (A := 60) (B := 60) (by omega) (by omega) (by omega) (by omega)
    omega
  · have := ab_bd h hu ht set n (Nat.le_refl n)
    omega
theorem atMost_eq {h lo a b : Int} (h1 : -100000 ≤ h ∧ h ≤ 100000) (h2 : 0 < lo ∧ lo ≤ 40000) (h3 : -100000 ≤ a ∧ a ≤ 100000) (h4 : 0 < b ∧ b ≤ 40000) : f_X11_atMost (lI h) (lI lo) (lI a) (lI b) = if h * b ≤ a * lo then (lI h, lI lo) else (lI a, lI b) := by
  unfold f_X11_atMost
  have z1 := mb (a := h) (b := b) (A := 100000) (B := 40000) (by omega) (by omega) (by omega) (by omega)
  have z2 := mb (a := a) (b := lo) (A := 100000) (B := 40000) (by omega) (by omega) (by omega) (by omega)
  have c : lI h * lI b ≤ lI a * lI lo ↔ h * b ≤ a * lo := by rw [lI_mul, lI_mul, lI_le (by omega) (by omega) (by omega) (by omega)]
  by_cases w : h * b ≤ a * lo
  · rw [if_pos w, if_pos (c.mpr w)]
  · rw [if_neg w, if_neg (fun q => w (c.mp q))]
theorem at_step (h : PD n saved lost gain gap least most) {u t : Nat} (hu : u ≤ 10) (ht : t < n) {x lo a b : Int} (hC : CND n t (ti gain) (ti gap) (ez gap) (ti least) (ti most) u x lo) (hC' : CND n t (ti gain) (ti gap) (ez gap) (ti least) (ti most) u a b) :
    ∃ x' lo', f_X11_atMost (lI x) (lI lo) (lI a) (lI b) = (lI x', lI lo') ∧ CND n t (ti gain) (ti gap) (ez gap) (ti least) (ti most) u x' lo' ∧ x' * b ≤ a * lo' ∧ ∀ y z, 0 ≤ z → x * z ≤ y * lo → x' * z ≤ y * lo' := by
  have b1 := cnd_bd h hu ht hC
  have b2 := cnd_bd h hu ht hC'
  rw [atMost_eq b1.1 b1.2 b2.1 b2.2]
  by_cases w : x * b ≤ a * lo
  · rw [if_pos w]
    exact ⟨x, lo, rfl, hC, w, fun y z _ q => q⟩
  · rw [if_neg w]
    refine ⟨a, b, rfl, hC', Int.le_refl _, fun y z hz q => ?_⟩
    have q1 := Int.mul_le_mul_of_nonneg_right q (Int.le_of_lt b2.2.1)
    have q2 := Int.mul_le_mul_of_nonneg_right (show a * lo ≤ x * b by omega) hz
    apply (mp_le b1.2.1).mp
    have e1 : a * z * lo = a * lo * z := by grind
    have e2 : y * b * lo = y * lo * b := by grind
    have e3 : x * b * z = x * z * b := by grind
    omega
theorem in_go {u t : Nat} (h : PD n saved lost gain gap least most) (hg : HGZ n u saved lost gain gap least most g) (ht : t < n) (N set : Nat) (hs : set < 1024) (kk : Int64 → Int64 → Int32 → Option (Int32 × Int64 × Int64)) (x lo : Int64) :
    ∀ (d k m : Nat), k + d = n → d < m → f_X11_find_b162 N g kk x lo (nI t) (nI n) (lI (ti gap t)) (nI set) m (lI (AB k t (ti gain) (ez gap) (ti least) u set)) (lI (UN k t (ti gap) (ez gap) set)) (nI k) =
      kk (f_X11_atMost x lo (lI (AB n t (ti gain) (ez gap) (ti least) u set)) (lI (UN n t (ti gap) (ez gap) set))).1 (f_X11_atMost x lo (lI (AB n t (ti gain) (ez gap) (ti least) u set)) (lI (UN n t (ti gap) (ez gap) set))).2 (nI (set + 1)) := by
  have hn := h.1
  intro d
  induction d with
  | zero =>
    intro k m h3 hm
    obtain ⟨m, rfl⟩ : ∃ z, m = z + 1 := ⟨m - 1, by omega⟩
    rw [f_X11_find_b162_s]
    unfold g_X11_find_b162
    have hk : k = n := by omega
    subst hk
    rw [if_pos ((nI_leI (by omega) (by omega)).mpr (by omega)), nI_1]
  | succ d ih =>
    intro k m h3 hm
    obtain ⟨m, rfl⟩ : ∃ z, m = z + 1 := ⟨m - 1, by omega⟩
    rw [f_X11_find_b162_s]
    unfold g_X11_find_b162
    have i := ih (k + 1) m (by omega) (by omega)
    have e1 : AB (k + 1) t (ti gain) (ez gap) (ti least) u set = AB k t (ti gain) (ez gap) (ti least) u set - (if k = t then 0 else if set.testBit k then ez gap k * (ti gain k - ti gain t) else ti least k) := by
      unfold AB; rw [sm_s]; omega
    have e2 : UN (k + 1) t (ti gap) (ez gap) set = UN k t (ti gap) (ez gap) set + (if k = t then 0 else if set.testBit k then ez gap k * ti gap t else 0) := by
      unfold UN; rw [sm_s]; omega
    rw [e1, e2] at i
    obtain ⟨-, -, ⟨g1, g2⟩, ⟨p1, p2, -⟩, ⟨f, q, r⟩⟩ := h.2 k (by omega)
    obtain ⟨-, -, ⟨g3, g4⟩, -, -⟩ := h.2 t ht
    obtain ⟨-, -, G1, G2, G3, -⟩ := hg.2.2 k (by omega)
    obtain ⟨-, -, T1, -⟩ := hg.2.2 t (by omega)
    rw [if_neg (fun q => absurd ((nI_leI (by omega) (by omega)).mp q) (by omega)), nI_1]
    by_cases w : k = t
    · rw [if_pos (by rw [w])]
      rw [if_pos w, if_pos w, Int.sub_zero, Int.add_zero] at i
      exact i
    · rw [if_neg (fun q => w ((nI_eq (by omega) (by omega)).mp q)), gI_45 (by omega), cl_45 (by omega), G2, x64]
      have hne : ¬ lI (gap k).toInt = 0 := by
        rw [show (0 : Int64) = lI 0 from rfl, lI_inj (by show _ ≤ ti gap k; omega) (by show ti gap k ≤ _; omega) (by omega) (by omega)]
        show ¬ ti gap k = 0
        omega
      have ed : (60 : Int64) / lI (gap k).toInt = lI (ez gap k) := by
        rw [show (60 : Int64) = lI 60 from rfl, lI_div (by omega) (by omega) (by show 0 < ti gap k; omega) (by show ti gap k ≤ _; omega), Int.tdiv_eq_ediv_of_nonneg (by omega)]
      rw [gDl_of hne, ed, bit01 _ (show k < 32 by omega), bt_n _ (show k < 32 by omega)]
      rw [if_neg w, if_neg w] at i
      by_cases w2 : set.testBit k = true
      · rw [if_pos w2, if_pos rfl, gI_35 (by omega), gI_35 (by omega), cl_35 (by omega), cl_35 (by omega), G1, T1, x64]
        have e3 : (gain k - gain t).toInt = ti gain k - ti gain t := i_sub (by show _ ≤ ti gain k - ti gain t; omega) (by show ti gain k - ti gain t < _; omega)
        rw [e3, lI_mul, lI_mul, lI_sub, lI_add]
        rw [if_pos w2, if_pos w2] at i
        exact i
      · rw [if_neg w2, if_neg (by decide), gI_55 (by omega), cl_55 (by omega), G3, x64, lI_sub]
        rw [if_neg w2, if_neg w2, Int.add_zero] at i
        exact i
theorem sets_go {u t : Nat} (h : PD n saved lost gain gap least most) (hu : u ≤ 10) (hg : HGZ n u saved lost gain gap least most g) (ht : t < n) {N : Nat} (hN : 100 ≤ N) :
    ∀ (d k m : Nat) (x lo : Int), k + d = 2 ^ n → d < m → CND n t (ti gain) (ti gap) (ez gap) (ti least) (ti most) u x lo → x * 60 ≤ ti most t * lo → (∀ j, j < n → j ≠ t → x * (60 * ti gap t) ≤ (60 * (ti gain t - ti gain j) + ti most j * ti gap j) * lo) →
      (∀ set, set < k → set.testBit t = false → x * UN n t (ti gap) (ez gap) set ≤ AB n t (ti gain) (ez gap) (ti least) u set * lo) →
      ∃ x' lo', f_X11_find_b120 N g (nI t) (nI n) (lI (ti gap t)) m (lI x) (lI lo) (nI k) = some (if ti least t * lo' ≤ x' * 60 then 1 else 0, lI x', lI lo') ∧ FX n t (ti gain) (ti gap) (ez gap) (ti least) (ti most) u x' lo' ∧ ((-100000 ≤ x' ∧ x' ≤ 100000) ∧ 0 < lo' ∧ lo' ≤ 40000) := by
  have hn := h.1
  have hp : 2 ^ n ≤ 1024 := Nat.le_trans (Nat.pow_le_pow_right (by omega) hn) (by decide)
  intro d
  induction d with
  | zero =>
    intro k m x lo h3 hm hC h4 h5 h6
    obtain ⟨m, rfl⟩ : ∃ z, m = z + 1 := ⟨m - 1, by omega⟩
    rw [f_X11_find_b120_s]
    unfold g_X11_find_b120
    have b := cnd_bd h hu ht hC
    obtain ⟨-, -, -, -, ⟨l1, l2, l3⟩⟩ := h.2 t ht
    obtain ⟨-, -, -, -, T1, -⟩ := hg.2.2 t (by omega)
    rw [one_shl n (by omega), if_pos ((nI_leI (by omega) (by omega)).mpr (by omega)), gI_55 (by omega), cl_55 (by omega), T1, x64, show (60 : Int64) = lI 60 from rfl, lI_mul, lI_mul]
    have z2 := mb (a := ti least t) (b := lo) (A := 60) (B := 40000) (by omega) (by omega) (by omega) (by omega)
    have c : lI (x * 60) < lI ((least t).toInt * lo) ↔ ¬ ti least t * lo ≤ x * 60 := by
      show lI (x * 60) < lI (ti least t * lo) ↔ _
      rw [lI_lt (by omega) (by omega) (by omega) (by omega)]; omega
    refine ⟨x, lo, ?_, ⟨b.2.1, ⟨h4, h5, fun set hs hb => h6 set (by omega) hb⟩, fun X Z hZ hM => ?_⟩, b⟩
    · by_cases w : ti least t * lo ≤ x * 60
      · rw [if_neg (fun q => c.mp q w), if_pos w]
      · rw [if_pos (c.mpr w), if_neg w]
    · rcases hC with ⟨rfl, rfl⟩ | ⟨j, hj, hne, rfl, rfl⟩ | ⟨set, hs, hb, rfl, rfl⟩
      · exact hM.1
      · exact hM.2.1 j hj hne
      · exact hM.2.2 set hs hb
  | succ d ih =>
    intro k m x lo h3 hm hC h4 h5 h6
    obtain ⟨m, rfl⟩ : ∃ z, m = z + 1 := ⟨m - 1, by omega⟩
    rw [f_X11_find_b120_s]
    unfold g_X11_find_b120
    rw [one_shl n (by omega), if_neg (fun q => absurd ((nI_leI (by omega) (by omega)).mp q) (by omega)), bit01 _ (show t < 32 by omega), bt_n _ (show t < 32 by omega)]
    by_cases w : k.testBit t = true
    · rw [if_pos w, if_pos rfl, nI_1]
      refine ih (k + 1) m x lo (by omega) (by omega) hC h4 h5 (fun set hs hb => ?_)
      by_cases y : set = k
      · subst y; rw [w] at hb; cases hb
      · exact h6 set (by omega) hb
    · rw [if_neg w, if_neg (by decide)]
      have r := in_go h hg ht N k (by omega) (fun x_tryHigh x_tryLow v5 => f_X11_find_b120 N g (nI t) (nI n) (lI (ti gap t)) m x_tryHigh x_tryLow v5) (lI x) (lI lo) n 0 N (by omega) (by omega)
      have e1 : lI (AB 0 t (ti gain) (ez gap) (ti least) u k) = 60 * (g 1).toInt64 := by
        rw [hg.2.1, x64, nI_toInt (by omega), show (60 : Int64) = lI 60 from rfl, lI_mul]
        show lI (60 * (u : Int) - 0) = _
        rw [Int.sub_zero]
      have e2 : lI (UN 0 t (ti gap) (ez gap) k) = 60 := rfl
      rw [e1, e2, show nI 0 = 0 from rfl] at r
      rw [r]
      have hb : k.testBit t = false := by simpa using w
      obtain ⟨x', lo', a1, a2, a3, a4⟩ := at_step h hu ht hC (Or.inr (Or.inr ⟨k, by omega, hb, rfl, rfl⟩))
      rw [a1]
      obtain ⟨-, -, -, ⟨p1, p2, -⟩, -⟩ := h.2 t ht
      refine ih (k + 1) m x' lo' (by omega) (by omega) a2 (a4 _ _ (by omega) h4) (fun j hj hne => a4 _ _ (by omega) (h5 j hj hne)) (fun set hs hb => ?_)
      by_cases y : set = k
      · subst y; exact a3
      · exact a4 _ _ (by have := ab_bd h hu ht set n (Nat.le_refl n); omega) (h6 set (by omega) hb)
theorem find_go {u t : Nat} (h : PD n saved lost gain gap least most) (hu : u ≤ 10) (hg : HGZ n u saved lost gain gap least most g) (ht : t < n) {N : Nat} (hN : 2000 ≤ N) :
    ∀ (d k m : Nat) (x lo : Int), k + d = n → d < m → CND n t (ti gain) (ti gap) (ez gap) (ti least) (ti most) u x lo → x * 60 ≤ ti most t * lo → (∀ j, j < k → j ≠ t → x * (60 * ti gap t) ≤ (60 * (ti gain t - ti gain j) + ti most j * ti gap j) * lo) →
      ∃ x' lo', f_X11_find_b42 N g (nI t) (nI n) (lI (ti gap t)) m (lI x) (lI lo) (nI k) = some (if ti least t * lo' ≤ x' * 60 then 1 else 0, lI x', lI lo') ∧ FX n t (ti gain) (ti gap) (ez gap) (ti least) (ti most) u x' lo' ∧ ((-100000 ≤ x' ∧ x' ≤ 100000) ∧ 0 < lo' ∧ lo' ≤ 40000) := by
  have hn := h.1
  have hp : 2 ^ n ≤ 1024 := Nat.le_trans (Nat.pow_le_pow_right (by omega) hn) (by decide)
  intro d
  induction d with
  | zero =>
    intro k m x lo h3 hm hC h4 h5
    obtain ⟨m, rfl⟩ : ∃ z, m = z + 1 := ⟨m - 1, by omega⟩
    rw [f_X11_find_b42_s]
    unfold g_X11_find_b42
    have hk : k = n := by omega
    subst hk
    rw [if_pos ((nI_leI (by omega) (by omega)).mpr (by omega))]
    exact sets_go h hu hg ht (by omega) (2 ^ k) 0 N x lo (by omega) (by omega) hC h4 h5 (fun set hs => absurd hs (by omega))
  | succ d ih =>
    intro k m x lo h3 hm hC h4 h5
    obtain ⟨m, rfl⟩ : ∃ z, m = z + 1 := ⟨m - 1, by omega⟩
    rw [f_X11_find_b42_s]
    unfold g_X11_find_b42
    rw [if_neg (fun q => absurd ((nI_leI (by omega) (by omega)).mp q) (by omega)), nI_1]
    by_cases w : k = t
    · rw [if_pos (by rw [w])]
      refine ih (k + 1) m x lo (by omega) (by omega) hC h4 (fun j hj hne => h5 j (by omega) hne)
    · obtain ⟨-, -, ⟨g1, g2⟩, ⟨p1, p2, -⟩, ⟨f, q, r⟩⟩ := h.2 k (by omega)
      obtain ⟨-, -, ⟨g3, g4⟩, ⟨p3, p4, -⟩, -⟩ := h.2 t ht
      obtain ⟨-, -, G1, G2, -, G3⟩ := hg.2.2 k (by omega)
      obtain ⟨-, -, T1, -⟩ := hg.2.2 t (by omega)
      rw [if_neg (fun q => w ((nI_eq (by omega) (by omega)).mp q)), gI_35 (by omega), gI_35 (by omega), gI_65 (by omega), gI_45 (by omega), cl_35 (by omega), cl_35 (by omega), cl_65 (by omega), cl_45 (by omega), G1, G2, G3, T1, x64, x64]
      have z := mb (a := ti most k) (b := ti gap k) (A := 60) (B := 60) (by omega) (by omega) (by omega) (by omega)
      have e3 : (gain t - gain k).toInt = ti gain t - ti gain k := i_sub (by show _ ≤ ti gain t - ti gain k; omega) (by show ti gain t - ti gain k < _; omega)
      have e4 : (most k * gap k).toInt = ti most k * ti gap k := i_mul (by show _ ≤ ti most k * ti gap k; omega) (by show ti most k * ti gap k < _; omega)
      rw [e3, e4, show (60 : Int64) = lI 60 from rfl, lI_mul, lI_add, lI_mul]
      obtain ⟨x', lo', a1, a2, a3, a4⟩ := at_step h hu ht hC (Or.inr (Or.inl ⟨k, by omega, w, rfl, rfl⟩))
      rw [a1]
      refine ih (k + 1) m x' lo' (by omega) (by omega) a2 (a4 _ _ (by omega) h4) (fun j hj hne => ?_)
      by_cases y : j = k
      · subst y; exact a3
      · exact a4 _ _ (by omega) (h5 j (by omega) hne)
theorem find_eq {u t : Nat} (h : PD n saved lost gain gap least most) (hu : u ≤ 10) (hg : HGZ n u saved lost gain gap least most g) (ht : t < n) {N : Nat} (hN : 2000 ≤ N) (a b : Int64) :
    ∃ x' lo', f_X11_find N a b g (nI t) = some (if ti least t * lo' ≤ x' * 60 then 1 else 0, lI x', lI lo') ∧ FX n t (ti gain) (ti gap) (ez gap) (ti least) (ti most) u x' lo' ∧ ((-100000 ≤ x' ∧ x' ≤ 100000) ∧ 0 < lo' ∧ lo' ≤ 40000) := by
  have hn := h.1
  unfold f_X11_find
  obtain ⟨-, -, -, T2, -, T3⟩ := hg.2.2 t (by omega)
  rw [gI_45 (by omega), gI_65 (by omega), cl_45 (by omega), cl_65 (by omega), T2, T3, x64, x64, hg.1]
  exact find_go h hu hg ht hN n 0 N (ti most t) 60 (by omega) (by omega) (Or.inl ⟨rfl, rfl⟩) (Int.le_refl _) (fun j hj => absurd hj (by omega))
end PPC2
