/-! ===== the plan: the class's shares and goal ===== -/
section PPB
variable {n : Nat} {saved lost gain gap least most : Nat → Int32}
theorem nI_n0 {s : Nat} (h : s < 2 ^ 31) : ¬ nI s < 0 := fun q => absurd ((nI_ltI (a := s) (b := 0) h (by omega)).mp q) (by omega)
def PTZ (gain gap least : Nat → Int32) (A B : Int) (t : Nat) : Int := ti least t * 60 * B + ez gap t * ps (pkZ gain gap least t * B - A)
def KPZ (saved lost gain gap least : Nat → Int32) (A B : Int) (t : Nat) : Int := ti lost t * (3600 * B) + (ti saved t - ti lost t) * PTZ gain gap least A B t
theorem pt_bd (h : PD n saved lost gain gap least most) {A B S : Int} (hL : LV n (flZ gain gap most) (pkZ gain gap least) (ez gap) S A B) {t : Nat} (ht : t < n) : 0 ≤ PTZ gain gap least A B t ∧ PTZ gain gap least A B t ≤ 3600 * B := by
  obtain ⟨-, -, ⟨a, b⟩, ⟨c, d, -⟩, ⟨f, g, i⟩⟩ := h.2 t ht
  obtain ⟨q1, q2, q3⟩ := pd_e h ht
  have hB := hL.1
  have hf := hL.2.1 t ht
  unfold PTZ
  have n1 : 0 ≤ ti least t * 60 * B := Int.mul_nonneg (by omega) (by omega)
  have n2 : 0 ≤ ez gap t * ps (pkZ gain gap least t * B - A) := Int.mul_nonneg (by omega) (ps_nn _)
  refine ⟨by omega, ?_⟩
  have m1 : ti most t * (60 * B) ≤ 60 * (60 * B) := Int.mul_le_mul_of_nonneg_right i (by omega)
  have m2 : ti least t * (60 * B) ≤ ti most t * (60 * B) := Int.mul_le_mul_of_nonneg_right g (by omega)
  have e1 : ti least t * 60 * B = ti least t * (60 * B) := Int.mul_assoc _ _ _
  rw [e1]
  by_cases w : 0 ≤ pkZ gain gap least t * B - A
  · rw [ps_p w]
    have z : ez gap t * (pkZ gain gap least t * B - A) ≤ ez gap t * (pkZ gain gap least t * B - flZ gain gap most t * B) := Int.mul_le_mul_of_nonneg_left (by omega) (by omega)
    have e2 : ez gap t * (pkZ gain gap least t * B - flZ gain gap most t * B) = ez gap t * ti gap t * ((ti most t - ti least t) * B) := by
      unfold pkZ flZ pkF flF; grind
    rw [e2, q1] at z
    have e3 : 60 * ((ti most t - ti least t) * B) = ti most t * (60 * B) - ti least t * (60 * B) := by grind
    omega
  · rw [ps_m (by omega), Int.mul_zero]
    omega
theorem kp_bd (h : PD n saved lost gain gap least most) {A B S : Int} (hL : LV n (flZ gain gap most) (pkZ gain gap least) (ez gap) S A B) (hB : B ≤ 600) {t : Nat} (ht : t < n) : -1000000000 ≤ KPZ saved lost gain gap least A B t ∧ KPZ saved lost gain gap least A B t ≤ 1000000000 := by
  obtain ⟨⟨a, b⟩, ⟨c, d⟩, -⟩ := h.2 t ht
  have p := pt_bd h hL ht
  have hB0 := hL.1
  have z1 := mb (a := ti lost t) (b := 3600 * B) (A := 60) (B := 2160000) (by omega) (by omega) (by omega) (by omega)
  have z2 := mb (a := ti saved t - ti lost t) (b := PTZ gain gap least A B t) (A := 120) (B := 2160000) (by omega) (by omega) (by omega) (by omega)
  unfold KPZ
  omega
theorem keeperP_eq (h : PD n saved lost gain gap least most) {A B : Int} {P : Nat → Int64} (hP : ∀ t, t < n → P t = lI (PTZ gain gap least A B t)) {t : Nat} (ht : t < n) : f_X3_keeperParts (lI (3600 * B)) P saved lost (nI t) = some (lI (KPZ saved lost gain gap least A B t)) := by
  obtain ⟨⟨a, b⟩, ⟨c, d⟩, -⟩ := h.2 t ht
  have hn := h.1
  unfold f_X3_keeperParts
  rw [gI_n (by omega) (by omega), gI_n (by omega) (by omega), gI_n (by omega) (by omega), gI_n (by omega) (by omega), cl_n (by omega), hP t ht, x64, x64]
  have e : (saved t - lost t).toInt = ti saved t - ti lost t := i_sub (by show _ ≤ ti saved t - ti lost t; omega) (by show ti saved t - ti lost t < _; omega)
  rw [e, lI_mul, lI_mul, lI_add]
  rfl
/-- the best of the reached -/
def GOZ (n : Nat) (saved lost gain gap least : Nat → Int32) (A B : Int) (s k : Nat) : Prop := s < k ∧ A ≤ pkZ gain gap least s * B ∧ (∀ j, j < k → A ≤ pkZ gain gap least j * B → KPZ saved lost gain gap least A B j ≤ KPZ saved lost gain gap least A B s) ∧ ∀ j, j < s → A ≤ pkZ gain gap least j * B → KPZ saved lost gain gap least A B j < KPZ saved lost gain gap least A B s
theorem goz_u {A B : Int} {s r k : Nat} (h1 : GOZ n saved lost gain gap least A B s k) (h2 : GOZ n saved lost gain gap least A B r k) : s = r := by
  obtain ⟨a1, a2, a3, a4⟩ := h1
  obtain ⟨b1, b2, b3, b4⟩ := h2
  have x1 := a3 r b1 b2
  have x2 := b3 s a1 a2
  rcases Nat.lt_trichotomy s r with c | c | c
  · have := b4 s c a2; omega
  · exact c
  · have := a4 r c b2; omega
theorem goalP_go {N : Nat} (h : PD n saved lost gain gap least most) {A B S : Int} (hL : LV n (flZ gain gap most) (pkZ gain gap least) (ez gap) S A B) (hA : -6000000 ≤ A ∧ A ≤ 6000000) (hB : B ≤ 600) {P : Nat → Int64} (hP : ∀ t, t < n → P t = lI (PTZ gain gap least A B t)) (hR : ∃ t, t < n ∧ A ≤ pkZ gain gap least t * B) :
    ∀ (d k m : Nat) (v : Int32), k + d = n → d < m → ((v = -1 ∧ ∀ j, j < k → ¬ A ≤ pkZ gain gap least j * B) ∨ ∃ s, v = nI s ∧ GOZ n saved lost gain gap least A B s k) → ∃ s, f_X3_findGoal_b4 N (lI A) (lI B) (lI (3600 * B)) (nI n) P saved lost gain gap least m v (nI k) = some (nI s) ∧ GOZ n saved lost gain gap least A B s n := by
  have hn := h.1
  have hB0 := hL.1
  intro d
  induction d with
  | zero =>
    intro k m v h3 hm hv
    obtain ⟨m, rfl⟩ : ∃ z, m = z + 1 := ⟨m - 1, by omega⟩
    rw [f_X3_findGoal_b4_s]
    unfold g_X3_findGoal_b4
    have hk : k = n := by omega
    subst hk
    rw [if_pos ((nI_leI (by omega) (by omega)).mpr (by omega))]
    rcases hv with ⟨-, hv⟩ | ⟨s, rfl, hs⟩
    · obtain ⟨t, ht, hA⟩ := hR
      exact absurd hA (hv t ht)
    · have := hs.1
      rw [if_neg (nI_n0 (show s < 2 ^ 31 by omega))]
      exact ⟨s, rfl, hs⟩
  | succ d ih =>
    intro k m v h3 hm hv
    obtain ⟨m, rfl⟩ : ∃ z, m = z + 1 := ⟨m - 1, by omega⟩
    rw [f_X3_findGoal_b4_s]
    unfold g_X3_findGoal_b4 f_X3_findGoal_b35
    have hk : k < n := by omega
    have c := pk_bd h hk
    have z1 := mb (a := pkZ gain gap least k) (b := B) (A := 7200) (B := 600) (by omega) (by omega) (by omega) (by omega)
    rw [if_neg (fun q => absurd ((nI_leI (by omega) (by omega)).mp q) (by omega)), peak_eq h hk, bd_of rfl, lI_mul, nI_1]
    have c1 : lI (pkZ gain gap least k * B) < lI A ↔ ¬ A ≤ pkZ gain gap least k * B := by rw [lI_lt (by omega) (by omega) (by omega) (by omega)]; omega
    by_cases w : A ≤ pkZ gain gap least k * B
    · rw [if_neg (fun z => c1.mp z w), if_neg (by decide)]
      rcases hv with ⟨rfl, hv⟩ | ⟨s, rfl, hs⟩
      · rw [if_pos (by decide)]
        refine ih (k + 1) m _ (by omega) (by omega) (Or.inr ⟨k, rfl, by omega, w, fun j hj hw => ?_, fun j hj hw => absurd hw (hv j hj)⟩)
        by_cases y : j = k
        · subst y; exact Int.le_refl _
        · exact absurd hw (hv j (by omega))
      · obtain ⟨s1, s2, s3, s4⟩ := id hs
        rw [if_neg (nI_n0 (show s < 2 ^ 31 by omega)), keeperP_eq h hP hk, bd_of rfl, keeperP_eq h hP (by omega), bd_of rfl]
        have b1 := kp_bd h hL hB hk
        have b2 := kp_bd h hL hB (show s < n by omega)
        have c2 := lI_le (a := KPZ saved lost gain gap least A B k) (b := KPZ saved lost gain gap least A B s) (by omega) (by omega) (by omega) (by omega)
        by_cases y : KPZ saved lost gain gap least A B k ≤ KPZ saved lost gain gap least A B s
        · rw [if_pos (c2.mpr y)]
          refine ih (k + 1) m _ (by omega) (by omega) (Or.inr ⟨s, rfl, by omega, s2, fun j hj hw => ?_, s4⟩)
          by_cases y2 : j = k
          · subst y2; exact y
          · exact s3 j (by omega) hw
        · rw [if_neg (fun z => y (c2.mp z))]
          refine ih (k + 1) m _ (by omega) (by omega) (Or.inr ⟨k, rfl, by omega, w, fun j hj hw => ?_, fun j hj hw => ?_⟩)
          · by_cases y2 : j = k
            · subst y2; exact Int.le_refl _
            · have := s3 j (by omega) hw
              omega
          · have := s3 j (by omega) hw
            omega
    · rw [if_pos (c1.mpr w), if_pos rfl]
      refine ih (k + 1) m _ (by omega) (by omega) ?_
      rcases hv with ⟨rfl, hv⟩ | ⟨s, rfl, s1, s2, s3, s4⟩
      · refine Or.inl ⟨rfl, fun j hj => ?_⟩
        by_cases y : j = k
        · subst y; exact w
        · exact hv j (by omega)
      · refine Or.inr ⟨s, rfl, by omega, s2, fun j hj hw => ?_, s4⟩
        by_cases y : j = k
        · subst y; exact absurd hw w
        · exact s3 j (by omega) hw
theorem parts_go {N : Nat} (hN : 100 ≤ N) (h : PD n saved lost gain gap least most) {A B S : Int} (hL : LV n (flZ gain gap most) (pkZ gain gap least) (ez gap) S A B) (hA : -6000000 ≤ A ∧ A ≤ 6000000) (hB : B ≤ 600) (hR : ∃ t, t < n ∧ A ≤ pkZ gain gap least t * B) (gu xg : Int32) :
    ∀ (d k m : Nat) (P : Nat → Int64), k + d = n → d < m → (∀ t, t < k → P t = lI (PTZ gain gap least A B t)) → ∃ s P', f_X3_make_b74 N (nI n) gu saved lost gain gap least most (lI A) (lI B) (lI (3600 * B)) (nI n) xg m P (nI k) = some (1, lI A, lI B, lI (3600 * B), nI n, nI s, P') ∧ (∀ t, t < n → P' t = lI (PTZ gain gap least A B t)) ∧ GOZ n saved lost gain gap least A B s n := by
  have hn := h.1
  have hB0 := hL.1
  intro d
  induction d with
  | zero =>
    intro k m P h3 hm hv
    obtain ⟨m, rfl⟩ : ∃ z, m = z + 1 := ⟨m - 1, by omega⟩
    rw [f_X3_make_b74_s]
    unfold g_X3_make_b74
    have hk : k = n := by omega
    subst hk
    obtain ⟨s, s1, s2⟩ := goalP_go (N := N) h hL hA hB hv hR k 0 N (-1) (by omega) (by omega) (Or.inl ⟨rfl, fun j hj => absurd hj (by omega)⟩)
    rw [if_pos ((nI_leI (by omega) (by omega)).mpr (by omega))]
    unfold f_X3_findGoal
    rw [show nI 0 = 0 from rfl] at s1
    rw [s1, bd_of rfl]
    exact ⟨s, P, rfl, hv, s2⟩
  | succ d ih =>
    intro k m P h3 hm hv
    obtain ⟨m, rfl⟩ : ∃ z, m = z + 1 := ⟨m - 1, by omega⟩
    rw [f_X3_make_b74_s]
    unfold g_X3_make_b74
    have hk : k < n := by omega
    have c := pk_bd h hk
    obtain ⟨-, -, -, -, ⟨f, g, i⟩⟩ := h.2 k hk
    have z1 := mb (a := pkZ gain gap least k) (b := B) (A := 7200) (B := 600) (by omega) (by omega) (by omega) (by omega)
    rw [if_neg (fun q => absurd ((nI_leI (by omega) (by omega)).mp q) (by omega)), peak_eq h hk, bd_of rfl, gI_n (by omega) (by omega), slope_eq h hk, bd_of rfl, gI_n (by omega) (by omega), cl_n (by omega), lI_mul, lI_sub, nI_1]
    have c1 : lI (pkZ gain gap least k * B - A) < 0 ↔ ¬ 0 ≤ pkZ gain gap least k * B - A := by rw [show (0 : Int64) = lI 0 from rfl, lI_lt (by omega) (by omega) (by omega) (by omega)]; omega
    have e1 : (if lI (pkZ gain gap least k * B - A) < 0 then (0 : Int64) else lI (pkZ gain gap least k * B - A)) = lI (ps (pkZ gain gap least k * B - A)) := by
      unfold ps
      by_cases w : 0 ≤ pkZ gain gap least k * B - A
      · rw [if_neg (fun z => c1.mp z w), if_pos w]
      · rw [if_pos (c1.mpr w), if_neg w]; rfl
    have e2 : (least k * 60).toInt64 = lI (ti least k * 60) := by
      have q : (least k).toInt * (60 : Int32).toInt = ti least k * 60 := rfl
      rw [x64, i_mul, q] <;> rw [q] <;> omega
    rw [e1, e2, lI_mul, lI_mul, lI_add]
    refine ih (k + 1) m _ (by omega) (by omega) (fun t ht => ?_)
    by_cases y : t = k
    · subst y; rw [updL_s]; rfl
    · rw [updL_n y]; exact hv t (by omega)
theorem sm_least (h : PD n saved lost gain gap least most) : ∀ k, k ≤ n → 0 ≤ sm (ti least) k ∧ sm (ti least) k ≤ 60 * (k : Int) := by
  intro k
  induction k with
  | zero => intro _; exact ⟨Int.le_refl 0, Int.le_refl 0⟩
  | succ k ih =>
    intro hk
    obtain ⟨-, -, -, -, ⟨f, g, i⟩⟩ := h.2 k (by omega)
    have := ih (by omega)
    rw [sm_s]; omega
/-- what making a plan gives -/
def MKZ (n u : Nat) (saved lost gain gap least most : Nat → Int32) (o : Option (Int32 × Int64 × Int64 × Int64 × Int32 × Int32 × (Nat → Int64))) : Prop :=
  ((n = 0 ∨ SF n (ti least) u < 0) ∧ ∃ a b c d e P, o = some (0, a, b, c, d, e, P)) ∨ (0 < n ∧ 0 ≤ SF n (ti least) u ∧ ∃ A B s P, o = some (1, lI A, lI B, lI (3600 * B), nI n, nI s, P) ∧ LV n (flZ gain gap most) (pkZ gain gap least) (ez gap) (SF n (ti least) u) A B ∧ (-6000000 ≤ A ∧ A ≤ 6000000) ∧ B ≤ 600 ∧ (∀ t, t < n → P t = lI (PTZ gain gap least A B t)) ∧ GOZ n saved lost gain gap least A B s n)
theorem make_go {N : Nat} (hN : 100 ≤ N) (h : PD n saved lost gain gap least most) {u : Nat} (hu : u ≤ 10) (a b c : Int64) (x y gu : Int32) (P : Nat → Int64) :
    ∀ (d k m : Nat), k + d = n → d < m → MKZ n u saved lost gain gap least most (f_X3_make_b10 N (nI n) gu saved lost gain gap least most a b c x y P m (iI (60 * (u : Int) - sm (ti least) k)) (nI k)) := by
  have hn := h.1
  intro d
  induction d with
  | zero =>
    intro k m h3 hm
    obtain ⟨m, rfl⟩ : ∃ z, m = z + 1 := ⟨m - 1, by omega⟩
    rw [f_X3_make_b10_s]
    unfold g_X3_make_b10
    have hk : k = n := by omega
    subst hk
    have hs := sm_least h k (Nat.le_refl k)
    rw [if_pos ((nI_leI (by omega) (by omega)).mpr (by omega))]
    by_cases k0 : k = 0
    · rw [if_pos ((nI_eq0 (by omega)).mpr k0)]
      exact Or.inl ⟨Or.inl k0, _, _, _, _, _, _, rfl⟩
    · rw [if_neg (fun q => k0 ((nI_eq0 (by omega)).mp q))]
      have c1 : 0 ≤ iI (60 * (u : Int) - sm (ti least) k) ↔ 0 ≤ SF k (ti least) u := by
        rw [Int32.le_iff_toInt_le, i0, iI_toInt (by omega) (by omega)]
        unfold SF; omega
      by_cases w : 0 ≤ SF k (ti least) u
      · rw [if_pos (c1.mpr w)]
        obtain ⟨A, B, l1, l2, l3, l4, l5⟩ := findLevel_eq hN h (by omega) (sp := 60 * (u : Int) - sm (ti least) k) (by omega) a b
        rw [l1, bd_of rfl]
        have e1 : (3600 : Int64) * lI B = lI (3600 * B) := by rw [show (3600 : Int64) = lI 3600 from rfl, lI_mul]
        show MKZ k u saved lost gain gap least most (f_X3_make_b74 N (nI k) gu saved lost gain gap least most (lI A) (lI B) (3600 * lI B) (nI k) y N P 0)
        rw [e1]
        have he : ∀ j, j < k → 0 < ez gap j := fun j hj => by have := pd_e h hj; omega
        have hr := lv_reach (S := 60 * (60 * (u : Int) - sm (ti least) k)) w he (fun j hj => (fl_bd h hj).2.2) l2
        obtain ⟨s, P', p1, p2, p3⟩ := parts_go hN h l2 l3 l5 hr gu y k 0 N P (by omega) (by omega) (fun t ht => absurd ht (by omega))
        exact Or.inr ⟨by omega, w, A, B, s, P', p1, l2, l3, l5, p2, p3⟩
      · rw [if_neg (fun q => w (c1.mp q))]
        exact Or.inl ⟨Or.inr (by omega), _, _, _, _, _, _, rfl⟩
  | succ d ih =>
    intro k m h3 hm
    obtain ⟨m, rfl⟩ : ∃ z, m = z + 1 := ⟨m - 1, by omega⟩
    rw [f_X3_make_b10_s]
    unfold g_X3_make_b10
    have i := ih (k + 1) m (by omega) (by omega)
    have e1 : iI (60 * (u : Int) - sm (ti least) (k + 1)) = iI (60 * (u : Int) - sm (ti least) k) - least k := by
      rw [sm_s, iI_of (least k), iI_sub]
      congr 1
      show _ = _ - ti least k
      omega
    rw [e1] at i
    rw [if_neg (fun q => absurd ((nI_leI (by omega) (by omega)).mp q) (by omega)), gI_n (by omega) (by omega), cl_n (by omega), nI_1]
    exact i
theorem make_eq {N : Nat} (hN : 100 ≤ N) (h : PD n saved lost gain gap least most) {u : Nat} (hu : u ≤ 10) (a b c : Int64) (x y : Int32) (P : Nat → Int64) : MKZ n u saved lost gain gap least most (f_X3_make N a b c x y P (nI n) (nI u) saved lost gain gap least most) := by
  unfold f_X3_make
  have q := make_go hN h hu a b c x y (nI u) P n 0 N (by omega) (by have := h.1; omega)
  have e : iI (60 * (u : Int) - sm (ti least) 0) = 60 * nI u := by
    rw [← iI_nat u, show (60 : Int32) = iI 60 from rfl, iI_mul]
    show iI (60 * (u : Int) - 0) = iI (60 * (u : Int))
    rw [Int.sub_zero]
  rw [e] at q
  exact q
end PPB
