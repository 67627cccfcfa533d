/-! ===== the plan: both ===== -/
section PPD
variable {n : Nat} {saved lost gain gap least most : Nat → Int32} {g : Nat → Int32}
theorem pt_lo (h : PD n saved lost gain gap least most) {A B x lo : Int} {t : Nat} (ht : t < n) (hr : A ≤ pkZ gain gap least t * B) (hY : YF t (ti gain) (ti gap) x lo * B = A * lo) : PTZ gain gap least A B t * lo = x * (3600 * B) := by
  have q := (pd_e h ht).1
  unfold PTZ
  rw [ps_p (by omega)]
  have e1 : (ti least t * 60 * B + ez gap t * (pkZ gain gap least t * B - A)) * lo = ti least t * 60 * B * lo + ez gap t * 60 * ti gain t * B * lo - ez gap t * ti gap t * (ti least t * B * lo) - ez gap t * (A * lo) := by
    unfold pkZ pkF; grind
  rw [e1, q, ← hY]
  have e2 : ez gap t * (YF t (ti gain) (ti gap) x lo * B) = ez gap t * 60 * ti gain t * B * lo - ez gap t * ti gap t * (60 * x * B) := by
    unfold YF; grind
  rw [e2, q]
  grind
def WZ (saved lost : Nat → Int32) (x lo : Int) (t : Nat) : Int := ti lost t * lo + (ti saved t - ti lost t) * x
theorem kp_lo (h : PD n saved lost gain gap least most) {A B x lo : Int} {t : Nat} (ht : t < n) (hr : A ≤ pkZ gain gap least t * B) (hY : YF t (ti gain) (ti gap) x lo * B = A * lo) : KPZ saved lost gain gap least A B t * lo = WZ saved lost x lo t * (3600 * B) := by
  have q := pt_lo h ht hr hY
  unfold KPZ WZ
  have e1 : (ti lost t * (3600 * B) + (ti saved t - ti lost t) * PTZ gain gap least A B t) * lo = ti lost t * (3600 * B) * lo + (ti saved t - ti lost t) * (PTZ gain gap least A B t * lo) := by grind
  rw [e1, q]
  grind
theorem cmpf {K1 K2 a b W1 W2 U : Int} (h1 : K1 * a = W1 * U) (h2 : K2 * b = W2 * U) (hU : 0 < U) (ha : 0 < a) (hb : 0 < b) : W1 * b ≤ W2 * a ↔ K1 ≤ K2 := by
  have hab := Int.mul_pos ha hb
  rw [← mp_le (a := W1 * b) hU, ← mp_le (a := K1) hab]
  have e1 : W1 * b * U = K1 * (a * b) := by
    have : W1 * b * U = W1 * U * b := by grind
    rw [this, ← h1]; grind
  have e2 : W2 * a * U = K2 * (a * b) := by
    have : W2 * a * U = W2 * U * a := by grind
    rw [this, ← h2]; grind
  rw [e1, e2]
theorem wz_bd (h : PD n saved lost gain gap least most) {x lo : Int} {t : Nat} (ht : t < n) (hx : -100000 ≤ x ∧ x ≤ 100000) (hl : 0 < lo ∧ lo ≤ 40000) : -100000000 ≤ WZ saved lost x lo t ∧ WZ saved lost x lo t ≤ 100000000 := by
  obtain ⟨⟨a, b⟩, ⟨c, d⟩, -⟩ := h.2 t ht
  have z1 := mb (a := ti lost t) (b := lo) (A := 60) (B := 40000) (by omega) (by omega) (by omega) (by omega)
  have z2 := mb (a := ti saved t - ti lost t) (b := x) (A := 120) (B := 100000) (by omega) (by omega) (by omega) (by omega)
  unfold WZ; omega
theorem fbn_go {u : Nat} (h : PD n saved lost gain gap least most) (hu : u ≤ 10) (hg : HGZ n u saved lost gain gap least most g) {N : Nat} (hN : 2000 ≤ N) (hS : SF n (ti least) u < 0 ∨ n = 0) (wh : Int64) (P : Nat → Int64) :
    ∀ (d k m : Nat) (hi lw th tl : Int64), k + d = n → d < m → ∃ a b c d e P', f_X11_findBest_b12 N g wh P m (-1) hi lw th tl 0 1 (nI k) = some (0, -1, a, b, c, d, e, P') := by
  have hn := h.1
  intro d
  induction d with
  | zero =>
    intro k m hi lw th tl h3 hm
    obtain ⟨m, rfl⟩ : ∃ z, m = z + 1 := ⟨m - 1, by omega⟩
    rw [f_X11_findBest_b12_s]
    unfold g_X11_findBest_b12 f_X11_findBest_b149
    rw [hg.1, if_pos ((nI_leI (by omega) (by omega)).mpr (by omega)), if_pos (by decide), if_pos (by decide)]
    exact ⟨_, _, _, _, _, _, rfl⟩
  | succ d ih =>
    intro k m hi lw th tl h3 hm
    obtain ⟨m, rfl⟩ : ∃ z, m = z + 1 := ⟨m - 1, by omega⟩
    rw [f_X11_findBest_b12_s]
    unfold g_X11_findBest_b12
    obtain ⟨x, lo, f1, f2, f3⟩ := find_eq h hu hg (show k < n by omega) hN th tl
    rw [hg.1, if_neg (fun q => absurd ((nI_leI (by omega) (by omega)).mp q) (by omega)), f1, bd_of rfl, nI_1]
    have w := fx_none (show k < n by omega) (fun j hj => (pd_e h hj).1) (fun j hj => by have := pd_e h hj; omega) (fun j hj => by have := (h.2 j hj).2.2.2.1; omega) f2 (by omega)
    simp only [if_neg w]
    exact ih (k + 1) m hi lw _ _ (by omega) (by omega)
def MPZ (gain gap least : Nat → Int32) (s : Nat) (x lo : Int) (j : Nat) : Int := if j = s then 60 * x else if ez gap j * (ti gain j * lo - (ti gain s * lo - ti gap s * x)) < ti least j * lo then ti least j * lo else ez gap j * (ti gain j * lo - (ti gain s * lo - ti gap s * x))
theorem shares_go {u s : Nat} (h : PD n saved lost gain gap least most) (hg : HGZ n u saved lost gain gap least most g) (hs : s < n) (N : Nat) {x lo : Int} (hx : -100000 ≤ x ∧ x ≤ 100000) (hl : 0 < lo ∧ lo ≤ 40000) :
    ∀ (d k m : Nat) (P : Nat → Int64), k + d = n → d < m → (∀ j, j < k → P j = lI (MPZ gain gap least s x lo j)) → ∃ P', f_X11_shares_b14 N (nI s) (lI x) (lI lo) g (lI (60 * lo)) m P (nI k) = some (lI (60 * lo), P') ∧ ∀ j, j < n → P' j = lI (MPZ gain gap least s x lo j) := by
  have hn := h.1
  intro d
  induction d with
  | zero =>
    intro k m P h3 hm hP
    obtain ⟨m, rfl⟩ : ∃ z, m = z + 1 := ⟨m - 1, by omega⟩
    rw [f_X11_shares_b14_s]
    unfold g_X11_shares_b14
    rw [hg.1, if_pos ((nI_leI (by omega) (by omega)).mpr (by omega))]
    exact ⟨P, rfl, fun j hj => hP j (by omega)⟩
  | succ d ih =>
    intro k m P h3 hm hP
    obtain ⟨m, rfl⟩ : ∃ z, m = z + 1 := ⟨m - 1, by omega⟩
    rw [f_X11_shares_b14_s]
    unfold g_X11_shares_b14 f_X11_prizeTimesLow
    obtain ⟨-, -, ⟨g1, g2⟩, ⟨p1, p2, -⟩, ⟨f, q, r⟩⟩ := h.2 k (by omega)
    obtain ⟨-, -, ⟨g3, g4⟩, ⟨p3, p4, -⟩, -⟩ := h.2 s hs
    obtain ⟨-, -, G1, G2, G3, -⟩ := hg.2.2 k (by omega)
    obtain ⟨-, -, T1, T2, -⟩ := hg.2.2 s (by omega)
    have hne : ¬ lI (gap k).toInt = 0 := by
      rw [show (0 : Int64) = lI 0 from rfl, lI_inj (by show _ ≤ ti gap k; omega) (by show ti gap k ≤ _; omega) (by omega) (by omega)]
      show ¬ ti gap k = 0
      omega
    have ed : (60 : Int64) / lI (gap k).toInt = lI (ez gap k) := by
      rw [show (60 : Int64) = lI 60 from rfl, lI_div (by omega) (by omega) (by show 0 < ti gap k; omega) (by show ti gap k ≤ _; omega), Int.tdiv_eq_ediv_of_nonneg (by omega)]
    rw [hg.1, if_neg (fun q => absurd ((nI_leI (by omega) (by omega)).mp q) (by omega)), gI_55 (by omega), gI_45 (by omega), cl_45 (by omega), cl_55 (by omega), G2, G3, x64, x64, gDl_of hne, ed, gI_35 (by omega), gI_35 (by omega), gI_45 (by omega), bd_of rfl, cl_35 (by omega), cl_35 (by omega), cl_45 (by omega), G1, T1, T2, x64, x64, x64, gI_n (by omega) (by omega), gI_n (by omega) (by omega), cl_n (by omega), nI_1]
    by_cases w : k = s
    · rw [if_pos (by rw [w]), show (60 : Int64) = lI 60 from rfl, lI_mul]
      refine ih (k + 1) m _ (by omega) (by omega) (fun j hj => ?_)
      by_cases y : j = k
      · subst y; rw [updL_s]; unfold MPZ; rw [if_pos w]
      · rw [updL_n y]; exact hP j (by omega)
    · rw [if_neg (fun q => w ((nI_eq (by omega) (by omega)).mp q)), lI_mul, lI_mul, lI_mul, lI_mul, lI_sub, lI_sub, lI_mul]
      have d := pd_e h (show k < n by omega)
      have z1 := mb (a := ti gain k) (b := lo) (A := 60) (B := 40000) (by omega) (by omega) (by omega) (by omega)
      have z2 := mb (a := ti gain s) (b := lo) (A := 60) (B := 40000) (by omega) (by omega) (by omega) (by omega)
      have z3 := mb (a := ti gap s) (b := x) (A := 60) (B := 100000) (by omega) (by omega) (by omega) (by omega)
      have z4 := mb (a := ti least k) (b := lo) (A := 60) (B := 40000) (by omega) (by omega) (by omega) (by omega)
      have z5 := mb (a := ez gap k) (b := ti gain k * lo - (ti gain s * lo - ti gap s * x)) (A := 60) (B := 11000000) (by omega) (by omega) (by omega) (by omega)
      have c := lI_lt (a := ez gap k * (ti gain k * lo - (ti gain s * lo - ti gap s * x))) (b := ti least k * lo) (by omega) (by omega) (by omega) (by omega)
      refine ih (k + 1) m _ (by omega) (by omega) (fun j hj => ?_)
      by_cases y : j = k
      · subst y; rw [updL_s]; unfold MPZ; rw [if_neg w]
        by_cases v : ez gap j * (ti gain j * lo - (ti gain s * lo - ti gap s * x)) < ti least j * lo
        · rw [if_pos v]; exact if_pos (c.mpr v)
        · rw [if_neg v]; exact if_neg (fun q => v (c.mp q))
      · rw [updL_n y]; exact hP j (by omega)
theorem mp_pt (h : PD n saved lost gain gap least most) {A B x lo : Int} {s : Nat} (hs : s < n) (hr : A ≤ pkZ gain gap least s * B) (hY : YF s (ti gain) (ti gap) x lo * B = A * lo) (hB : 0 < B) (hlo : 0 < lo) {j : Nat} (hj : j < n) : MPZ gain gap least s x lo j * (3600 * B) = PTZ gain gap least A B j * (60 * lo) := by
  unfold MPZ
  by_cases w : j = s
  · subst w
    rw [if_pos rfl]
    have q := pt_lo h hj hr hY
    have e1 : PTZ gain gap least A B j * (60 * lo) = 60 * (PTZ gain gap least A B j * lo) := by grind
    rw [e1, q]; grind
  · rw [if_neg w]
    have q := (pd_e h hj).1
    generalize hH : ez gap j * (ti gain j * lo - (ti gain s * lo - ti gap s * x)) = H
    have e0 : H * (3600 * B) = 60 * (ez gap j * (60 * ti gain j * B * lo - YF s (ti gain) (ti gap) x lo * B)) := by
      rw [← hH]; unfold YF; grind
    rw [hY] at e0
    have e1 : ez gap j * (pkZ gain gap least j * B - A) * (60 * lo) = H * (3600 * B) - ti least j * lo * (3600 * B) := by
      rw [e0]
      have : ez gap j * (pkZ gain gap least j * B - A) * (60 * lo) = 60 * (ez gap j * (60 * ti gain j * B * lo - A * lo)) - ez gap j * ti gap j * (60 * ti least j * B * lo) := by
        unfold pkZ pkF; grind
      rw [this, q]; grind
    have hc : 0 < 3600 * B := by omega
    have hc2 : 0 < 60 * lo := by omega
    have he := (pd_e h hj).2.1
    unfold PTZ
    by_cases v : H < ti least j * lo
    · rw [if_pos v]
      have v2 := (mp_lt hc).mpr v
      have v3 : pkZ gain gap least j * B - A ≤ 0 := by
        by_cases z : 0 < pkZ gain gap least j * B - A
        · have := Int.mul_pos (Int.mul_pos (show 0 < ez gap j by omega) z) hc2
          omega
        · omega
      rw [ps_m v3]; grind
    · rw [if_neg v]
      have v2 := (mp_le hc).mpr (show ti least j * lo ≤ H by omega)
      have v3 : 0 ≤ pkZ gain gap least j * B - A := by
        by_cases z : pkZ gain gap least j * B - A < 0
        · have := Int.mul_neg_of_neg_of_pos (Int.mul_neg_of_pos_of_neg (show 0 < ez gap j by omega) z) hc2
          omega
        · omega
      rw [ps_p v3]
      have e2 : (ti least j * 60 * B + ez gap j * (pkZ gain gap least j * B - A)) * (60 * lo) = ti least j * lo * (3600 * B) + ez gap j * (pkZ gain gap least j * B - A) * (60 * lo) := by grind
      rw [e2, e1]; omega
/-- what the reference finds when there is a plan -/
def BFZ (n : Nat) (saved lost gain gap least most : Nat → Int32) (A B : Int) (o : Option (Int32 × Int32 × Int64 × Int64 × Int64 × Int64 × Int64 × (Nat → Int64))) : Prop :=
  ∃ s x lo th tl P, o = some (1, nI s, lI x, lI lo, lI (60 * lo), th, tl, P) ∧ GOZ n saved lost gain gap least A B s n ∧ (-100000 ≤ x ∧ x ≤ 100000) ∧ (0 < lo ∧ lo ≤ 40000) ∧ YF s (ti gain) (ti gap) x lo * B = A * lo ∧ ∀ j, j < n → P j = lI (MPZ gain gap least s x lo j)
theorem fb_go {u : Nat} (h : PD n saved lost gain gap least most) (hu : u ≤ 10) (hg : HGZ n u saved lost gain gap least most g) {N : Nat} (hN : 2000 ≤ N) (hS : 0 ≤ SF n (ti least) u) {A B : Int} (hL : LV n (flZ gain gap most) (pkZ gain gap least) (ez gap) (SF n (ti least) u) A B) (hR : ∃ t, t < n ∧ A ≤ pkZ gain gap least t * B) (wh : Int64) (P : Nat → Int64) :
    ∀ (d k m : Nat) (v : Int32) (hi lw th tl a b : Int64), k + d = n → d < m → ((v = -1 ∧ (∀ j, j < k → ¬ A ≤ pkZ gain gap least j * B)) ∨ ∃ s x lo, v = nI s ∧ hi = lI x ∧ lw = lI lo ∧ a = lI (WZ saved lost x lo s) ∧ b = lI lo ∧ GOZ n saved lost gain gap least A B s k ∧ (-100000 ≤ x ∧ x ≤ 100000) ∧ (0 < lo ∧ lo ≤ 40000) ∧ YF s (ti gain) (ti gap) x lo * B = A * lo) → BFZ n saved lost gain gap least most A B (f_X11_findBest_b12 N g wh P m v hi lw th tl a b (nI k)) := by
  have hn := h.1
  have hB0 := hL.1
  have hep : ∀ j, j < n → ez gap j * ti gap j = 60 := fun j hj => (pd_e h hj).1
  have he : ∀ j, j < n → 0 < ez gap j := fun j hj => by have := pd_e h hj; omega
  have hp : ∀ j, j < n → 0 < ti gap j := fun j hj => by have := (h.2 j hj).2.2.2.1; omega
  intro d
  induction d with
  | zero =>
    intro k m v hi lw th tl a b h3 hm hv
    obtain ⟨m, rfl⟩ : ∃ z, m = z + 1 := ⟨m - 1, by omega⟩
    rw [f_X11_findBest_b12_s]
    unfold g_X11_findBest_b12 f_X11_findBest_b149
    have hk : k = n := by omega
    subst hk
    rw [hg.1, if_pos ((nI_leI (by omega) (by omega)).mpr (by omega))]
    rcases hv with ⟨-, hv⟩ | ⟨s, x, lo, rfl, rfl, rfl, rfl, rfl, hs, hx, hl, hY⟩
    · obtain ⟨t, ht, hA⟩ := hR
      exact absurd hA (hv t ht)
    · have hs1 := hs.1
      rw [if_neg (nI_n0 (show s < 2 ^ 31 by omega))]
      unfold f_X11_shares
      rw [show (60 : Int64) = lI 60 from rfl, lI_mul]
      obtain ⟨P', p1, p2⟩ := shares_go h hg hs1 N hx hl k 0 N P (by omega) (by omega) (fun j hj => absurd hj (by omega))
      rw [show nI 0 = 0 from rfl] at p1
      rw [p1, bd_of rfl, if_neg (nI_n0 (show s < 2 ^ 31 by omega))]
      exact ⟨s, x, lo, th, tl, P', rfl, hs, hx, hl, hY, p2⟩
  | succ d ih =>
    intro k m v hi lw th tl a b h3 hm hv
    obtain ⟨m, rfl⟩ : ∃ z, m = z + 1 := ⟨m - 1, by omega⟩
    have hk : k < n := by omega
    rw [f_X11_findBest_b12_s]
    unfold g_X11_findBest_b12 f_X11_findBest_b102
    obtain ⟨x, lo, f1, f2, f3⟩ := find_eq h hu hg hk hN th tl
    obtain ⟨l1, l2⟩ := fx_lv hk hep he hp f2 hS hL
    obtain ⟨⟨a1, a2⟩, ⟨a3, a4⟩, -⟩ := h.2 k hk
    obtain ⟨G1, G2, -⟩ := hg.2.2 k (by omega)
    have e3 : (saved k - lost k).toInt = ti saved k - ti lost k := i_sub (by show _ ≤ ti saved k - ti lost k; omega) (by show ti saved k - ti lost k < _; omega)
    rw [hg.1, if_neg (fun q => absurd ((nI_leI (by omega) (by omega)).mp q) (by omega)), f1, bd_of rfl, gI_25 (by omega), gI_15 (by omega), gI_25 (by omega), cl_25 (by omega), cl_15 (by omega), G1, G2, x64, x64, e3, nI_1]
    show BFZ n saved lost gain gap least most A B (if (if ti least k * lo ≤ x * 60 then (1 : Int32) else 0) = 0 then _ else _)
    have eW : lI (lost k).toInt * lI lo + lI (ti saved k - ti lost k) * lI x = lI (WZ saved lost x lo k) := by rw [lI_mul, lI_mul, lI_add]; rfl
    simp only [eW]
    by_cases w : A ≤ pkZ gain gap least k * B
    · have w1 := l1.mpr w
      have hY := l2 w
      rw [if_pos w1, if_neg (by decide)]
      rcases hv with ⟨rfl, hv⟩ | ⟨s, x', lo', rfl, rfl, rfl, rfl, rfl, hs, hx, hl, hYs⟩
      · rw [if_pos (by decide)]
        refine ih (k + 1) m _ _ _ _ _ _ _ (by omega) (by omega) (Or.inr ⟨k, x, lo, rfl, rfl, rfl, rfl, rfl, ⟨by omega, w, fun j hj hw => ?_, fun j hj hw => absurd hw (hv j hj)⟩, f3.1, f3.2, hY⟩)
        by_cases y : j = k
        · subst y; exact Int.le_refl _
        · exact absurd hw (hv j (by omega))
      · obtain ⟨s1, s2, s3, s4⟩ := id hs
        rw [if_neg (nI_n0 (show s < 2 ^ 31 by omega))]
        have k1 := kp_lo h hk w hY
        have k2 := kp_lo h (show s < n by omega) s2 hYs
        have cc := cmpf k1 k2 (by omega) f3.2.1 hl.1
        have b1 := wz_bd h hk f3.1 f3.2
        have b2 := wz_bd h (show s < n by omega) hx hl
        have z1 := mb (a := WZ saved lost x lo k) (b := lo') (A := 100000000) (B := 40000) (by omega) (by omega) (by omega) (by omega)
        have z2 := mb (a := WZ saved lost x' lo' s) (b := lo) (A := 100000000) (B := 40000) (by omega) (by omega) (by omega) (by omega)
        have c2 : lI (WZ saved lost x lo k) * lI lo' ≤ lI (WZ saved lost x' lo' s) * lI lo ↔ KPZ saved lost gain gap least A B k ≤ KPZ saved lost gain gap least A B s := by
          rw [lI_mul, lI_mul, lI_le (by omega) (by omega) (by omega) (by omega)]; exact cc
        by_cases y : KPZ saved lost gain gap least A B k ≤ KPZ saved lost gain gap least A B s
        · rw [if_pos (c2.mpr y)]
          refine ih (k + 1) m _ _ _ _ _ _ _ (by omega) (by omega) (Or.inr ⟨s, x', lo', rfl, rfl, rfl, rfl, rfl, ⟨by omega, s2, fun j hj hw => ?_, s4⟩, hx, hl, hYs⟩)
          by_cases y2 : j = k
          · subst y2; exact y
          · exact s3 j (by omega) hw
        · rw [if_neg (fun z => y (c2.mp z))]
          refine ih (k + 1) m _ _ _ _ _ _ _ (by omega) (by omega) (Or.inr ⟨k, x, lo, rfl, rfl, rfl, rfl, rfl, ⟨by omega, w, fun j hj hw => ?_, fun j hj hw => ?_⟩, f3.1, f3.2, hY⟩)
          · by_cases y2 : j = k
            · subst y2; exact Int.le_refl _
            · have := s3 j (by omega) hw
              omega
          · have := s3 j (by omega) hw
            omega
    · have w1 : ¬ ti least k * lo ≤ x * 60 := fun z => w (l1.mp z)
      rw [if_neg w1, if_pos rfl]
      refine ih (k + 1) m _ _ _ _ _ _ _ (by omega) (by omega) ?_
      rcases hv with ⟨rfl, hv⟩ | ⟨s, x', lo', rfl, rfl, rfl, rfl, rfl, ⟨s1, s2, s3, s4⟩, hx, hl, hYs⟩
      · refine Or.inl ⟨rfl, fun j hj => ?_⟩
        by_cases y : j = k
        · subst y; exact w
        · exact hv j (by omega)
      · refine Or.inr ⟨s, x', lo', rfl, rfl, rfl, rfl, rfl, ⟨by omega, s2, fun j hj hw => ?_, s4⟩, hx, hl, hYs⟩
        by_cases y : j = k
        · subst y; exact absurd hw w
        · exact s3 j (by omega) hw
/-- no plan on either side, or the same plan -/
def SPZ (n : Nat) (saved lost gain gap least most : Nat → Int32) (o1 : Option (Int32 × Int64 × Int64 × Int64 × Int32 × Int32 × (Nat → Int64))) (o2 : Option (Int32 × Int32 × Int64 × Int64 × Int64 × Int64 × Int64 × (Nat → Int64))) : Prop :=
  ((∃ a b c d e P, o1 = some (0, a, b, c, d, e, P)) ∧ ∃ a b c d e f P, o2 = some (0, a, b, c, d, e, f, P)) ∨
  ∃ A B s P x lo th tl P', o1 = some (1, lI A, lI B, lI (3600 * B), nI n, nI s, P) ∧ o2 = some (1, nI s, lI x, lI lo, lI (60 * lo), th, tl, P') ∧ s < n ∧ (-6000000 ≤ A ∧ A ≤ 6000000) ∧ (0 < B ∧ B ≤ 600) ∧ (-100000 ≤ x ∧ x ≤ 100000) ∧ (0 < lo ∧ lo ≤ 40000) ∧
    (∀ t, t < n → P t = lI (PTZ gain gap least A B t) ∧ P' t = lI (MPZ gain gap least s x lo t) ∧ MPZ gain gap least s x lo t * (3600 * B) = PTZ gain gap least A B t * (60 * lo) ∧ 0 ≤ PTZ gain gap least A B t ∧ PTZ gain gap least A B t ≤ 3600 * B) ∧
    YF s (ti gain) (ti gap) x lo * B = A * lo ∧ KPZ saved lost gain gap least A B s * lo = WZ saved lost x lo s * (3600 * B) ∧ (-1000000000 ≤ KPZ saved lost gain gap least A B s ∧ KPZ saved lost gain gap least A B s ≤ 1000000000) ∧ (-100000000 ≤ WZ saved lost x lo s ∧ WZ saved lost x lo s ≤ 100000000)
theorem plan_eq {u : Nat} (h : PD n saved lost gain gap least most) (hu : u ≤ 10) (hg : HGZ n u saved lost gain gap least most g) {N : Nat} (hN : 2000 ≤ N) (a b c : Int64) (x y : Int32) (P : Nat → Int64) (bt' : Int32) (hi lw wh th tl : Int64) (P' : Nat → Int64) :
    SPZ n saved lost gain gap least most (f_X3_make N a b c x y P (nI n) (nI u) saved lost gain gap least most) (f_X11_findBest N bt' hi lw wh th tl g P') := by
  have hn := h.1
  have q := make_eq (N := N) (by omega) h hu a b c x y P
  unfold f_X11_findBest
  rcases q with ⟨hS, e⟩ | ⟨h0, hS, A, B, s, P1, e, hL, hA, hB, hP1, hG⟩
  · obtain ⟨q1, q2, q3, q4, q5, q6, q7⟩ := fbn_go h hu hg hN (by omega) wh P' n 0 N hi lw th tl (by omega) (by omega)
    exact Or.inl ⟨e, _, _, _, _, _, _, _, q7⟩
  · have he : ∀ j, j < n → 0 < ez gap j := fun j hj => by have := pd_e h hj; omega
    have hr := lv_reach hS he (fun j hj => (fl_bd h hj).2.2) hL
    obtain ⟨s', x', lo, t1, t2, P2, f1, f2, f3, f4, f5, f6⟩ := fb_go h hu hg hN hS hL hr wh P' n 0 N (-1) hi lw th tl 0 1 (by omega) (by omega) (Or.inl ⟨rfl, fun j hj => absurd hj (by omega)⟩)
    have es := goz_u f2 hG
    subst es
    refine Or.inr ⟨A, B, s', P1, x', lo, t1, t2, P2, e, f1, hG.1, hA, ⟨hL.1, hB⟩, f3, f4, fun t ht => ⟨hP1 t ht, f6 t ht, mp_pt h hG.1 hG.2.1 f5 hL.1 f4.1 ht, pt_bd h hL ht⟩, f5, kp_lo h hG.1 hG.2.1 f5, kp_bd h hL hB hG.1, wz_bd h hG.1 f3 f4⟩
theorem fr_same {N : Nat} (hN : 200 ≤ N) (x y : Int32) {a b a' b' : Int} (h1 : -1000000000000 < a ∧ a < 1000000000000) (h2 : -1000000000000 < a' ∧ a' < 1000000000000) (hb : 0 < b ∧ b < 1000000000000) (hb' : 0 < b' ∧ b' < 1000000000000) (h : a * b' = a' * b) :
    ∃ v w, f_X10_fraction N x (lI a) (lI b) = some (v, w) ∧ f_X11_fraction N y (lI a') (lI b') = some (v, w) := by
  obtain ⟨k, rfl⟩ := Int.eq_ofNat_of_zero_le (show 0 ≤ b by omega)
  obtain ⟨k', rfl⟩ := Int.eq_ofNat_of_zero_le (show 0 ≤ b' by omega)
  obtain ⟨q1, q2⟩ := fr_eq (a := a) (a' := a') (b := k) (b' := k') (by omega) (by omega) h
  rw [lI_nat, lI_nat, fr_X10 hN x (by omega) (by omega) (by omega) (by omega), fr_X11 hN y (by omega) (by omega) (by omega) (by omega), q1, q2]
  exact ⟨_, _, rfl, rfl⟩
end PPD
