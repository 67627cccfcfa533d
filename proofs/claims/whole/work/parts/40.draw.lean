/-! ===== lots, team, chance ===== -/
section PDR
theorem ae_eq (N : Nat) (s : Int32) (c : Nat → Int64) (v : Int64) : f_X1_addCut N s c v = f_X11_addEdge N s c v := rfl
/-- a place of the class and one of the reference, in their own parts -/
def RLZ (w1 w2 : Int) (a b : Int64) : Prop := ∃ C E : Int, a = lI C ∧ b = lI E ∧ E * w1 = C * w2 ∧ 0 ≤ C ∧ C < w1 ∧ 0 ≤ E ∧ E < w2
variable {w1 w2 : Int}
theorem scz_le {C E C' E' : Int} (h1 : 0 < w1) (h2 : 0 < w2) (h : E * w1 = C * w2) (h' : E' * w1 = C' * w2) : E ≤ E' ↔ C ≤ C' := by
  rw [← mp_le (a := E) h1, ← mp_le (a := C) h2, h, h']
theorem scz_eq {C E C' E' : Int} (h1 : 0 < w1) (h2 : 0 < w2) (h : E * w1 = C * w2) (h' : E' * w1 = C' * w2) : E = E' ↔ C = C' := by
  rw [← mp_eq (a := E) h1, ← mp_eq (a := C) h2, h, h']
theorem rl_le {a b a' b' : Int64} (h1 : 0 < w1 ∧ w1 ≤ 10000000) (h2 : 0 < w2 ∧ w2 ≤ 10000000) (h : RLZ w1 w2 a b) (h' : RLZ w1 w2 a' b') : (a ≤ a' ↔ b ≤ b') ∧ (a = a' ↔ b = b') := by
  obtain ⟨C, E, rfl, rfl, q1, q2, q3, q4, q5⟩ := h
  obtain ⟨C', E', rfl, rfl, r1, r2, r3, r4, r5⟩ := h'
  rw [lI_le (by omega) (by omega) (by omega) (by omega), lI_le (by omega) (by omega) (by omega) (by omega), lI_inj (by omega) (by omega) (by omega) (by omega), lI_inj (by omega) (by omega) (by omega) (by omega)]
  exact ⟨(scz_le h1.1 h2.1 q1 r1).symm, (scz_eq h1.1 h2.1 q1 r1).symm⟩
theorem nI_pm {j : Nat} (h : 0 < j) : nI j + (-1) = nI (j - 1) := by
  rw [← nI_m1 h, Int32.sub_eq_add_neg]
theorem shift_go {k i : Nat} (hk : k ≤ 11) (hi : i ≤ k) (N : Nat) {a b : Int64} (hv : RLZ w1 w2 a b) : ∀ (d j m : Nat) (c e : Nat → Int64), i + d = j → j ≤ k → d < m → (∀ r, r < k + 1 → r ≠ j → RLZ w1 w2 (c r) (e r)) →
    ∃ c' e', f_X11_addEdge_b53 N (nI k) a (nI i) m c (nI j) = some (nI (k + 1), c') ∧ f_X11_addEdge_b53 N (nI k) b (nI i) m e (nI j) = some (nI (k + 1), e') ∧ ∀ r, r < k + 1 → RLZ w1 w2 (c' r) (e' r) := by
  intro d
  induction d with
  | zero =>
    intro j m c e h1 h2 h3 h4
    obtain ⟨m, rfl⟩ : ∃ z, m = z + 1 := ⟨m - 1, by omega⟩
    rw [f_X11_addEdge_b53_s, f_X11_addEdge_b53_s]
    unfold g_X11_addEdge_b53
    rw [if_pos ((nI_leI (by omega) (by omega)).mpr (by omega)), if_pos ((nI_leI (by omega) (by omega)).mpr (by omega)), gI_n (by omega) (by omega), gI_n (by omega) (by omega), cl_n (by omega), nI_1]
    refine ⟨_, _, rfl, rfl, fun r hr => ?_⟩
    by_cases y : r = i
    · subst y; rw [updL_s, updL_s]; exact hv
    · rw [updL_n y, updL_n y]; exact h4 r hr (by omega)
  | succ d ih =>
    intro j m c e h1 h2 h3 h4
    obtain ⟨m, rfl⟩ : ∃ z, m = z + 1 := ⟨m - 1, by omega⟩
    rw [f_X11_addEdge_b53_s, f_X11_addEdge_b53_s]
    unfold g_X11_addEdge_b53
    rw [if_neg (fun q => absurd ((nI_leI (by omega) (by omega)).mp q) (by omega)), if_neg (fun q => absurd ((nI_leI (by omega) (by omega)).mp q) (by omega)), nI_m1 (by omega), gI_n (by omega) (by omega), gI_n (by omega) (by omega), gI_n (by omega) (by omega), gI_n (by omega) (by omega), cl_n (by omega), cl_n (by omega), nI_pm (by omega)]
    refine ih (j - 1) m _ _ (by omega) (by omega) (by omega) (fun r hr hne => ?_)
    by_cases y : r = j
    · subst y; rw [updL_s, updL_s]; exact h4 (r - 1) (by omega) (by omega)
    · rw [updL_n y, updL_n y]; exact h4 r hr y
theorem edge_go {k : Nat} (hk : k ≤ 11) {N : Nat} (hN : 100 ≤ N) (h1 : 0 < w1 ∧ w1 ≤ 10000000) (h2 : 0 < w2 ∧ w2 ≤ 10000000) {a b : Int64} (hv : RLZ w1 w2 a b) {c e : Nat → Int64} (hc : ∀ r, r < k → RLZ w1 w2 (c r) (e r)) : ∀ (d i m : Nat), i + d = k → d < m →
    ∃ k' c' e', f_X11_addEdge_b2 N (nI k) c a m (nI i) = some (nI k', c') ∧ f_X11_addEdge_b2 N (nI k) e b m (nI i) = some (nI k', e') ∧ k ≤ k' ∧ k' ≤ k + 1 ∧ ∀ r, r < k' → RLZ w1 w2 (c' r) (e' r) := by
  have sh : ∀ i, i ≤ k → ∃ k' c' e', f_X11_addEdge_b47 N (nI k) c a (nI i) = some (nI k', c') ∧ f_X11_addEdge_b47 N (nI k) e b (nI i) = some (nI k', e') ∧ k ≤ k' ∧ k' ≤ k + 1 ∧ ∀ r, r < k' → RLZ w1 w2 (c' r) (e' r) := by
    intro i hi
    unfold f_X11_addEdge_b47
    obtain ⟨c', e', q1, q2, q3⟩ := shift_go hk hi N hv (k - i) k N c e (by omega) (by omega) (by omega) (fun r hr hne => hc r (by omega))
    exact ⟨k + 1, c', e', q1, q2, by omega, by omega, q3⟩
  intro d
  induction d with
  | zero =>
    intro i m h3 hm
    obtain ⟨m, rfl⟩ : ∃ z, m = z + 1 := ⟨m - 1, by omega⟩
    rw [f_X11_addEdge_b2_s, f_X11_addEdge_b2_s]
    unfold g_X11_addEdge_b2 f_X11_addEdge_b27
    have q : nI k ≤ nI i := (nI_leI (by omega) (by omega)).mpr (by omega)
    rw [if_pos q, if_pos q, if_pos q, if_pos q]
    exact sh i (by omega)
  | succ d ih =>
    intro i m h3 hm
    obtain ⟨m, rfl⟩ : ∃ z, m = z + 1 := ⟨m - 1, by omega⟩
    rw [f_X11_addEdge_b2_s, f_X11_addEdge_b2_s]
    unfold g_X11_addEdge_b2 f_X11_addEdge_b27
    have q : ¬ nI k ≤ nI i := fun q => absurd ((nI_leI (by omega) (by omega)).mp q) (by omega)
    rw [if_neg q, if_neg q, if_neg q, if_neg q, gI_n (by omega) (by omega), gI_n (by omega) (by omega), gI_n (by omega) (by omega), gI_n (by omega) (by omega), cl_n (by omega), nI_1]
    have r := rl_le h1 h2 hv (hc i (by omega))
    have r' := rl_le h1 h2 (hc i (by omega)) hv
    by_cases w : a ≤ c i
    · rw [if_pos w, if_pos (r.1.mp w)]
      by_cases y : c i = a
      · rw [if_pos y, if_pos (r'.2.mp y)]
        exact ⟨k, c, e, rfl, rfl, by omega, by omega, hc⟩
      · rw [if_neg y, if_neg (fun z => y (r'.2.mpr z))]
        exact sh i (by omega)
    · rw [if_neg w, if_neg (fun z => w (r.1.mpr z))]
      exact ih (i + 1) m (by omega) (by omega)
theorem rest_eq {a b : Int} (ha : 0 ≤ a) (ha2 : a ≤ 1000000000000) (hb : 0 < b) (hb2 : b ≤ 1000000000000) : lI a - lI a / lI b * lI b = lI (a % b) := by
  rw [lI_div (by omega) (by omega) hb (by omega), Int.tdiv_eq_ediv_of_nonneg ha, lI_mul, lI_sub]
  congr 1
  have := Int.mul_ediv_add_emod a b
  rw [Int.mul_comm] at this
  omega
theorem restOf_eq {a b : Int} (ha : 0 ≤ a) (ha2 : a ≤ 1000000000000) (hb : 0 < b) (hb2 : b ≤ 1000000000000) : f_X1_restOf (lI a) (lI b) = some (lI (a % b)) := by
  unfold f_X1_restOf
  have c : 0 < lI b := by rw [show (0 : Int64) = lI 0 from rfl, lI_lt (by omega) (by omega) (by omega) (by omega)]; exact hb
  have c2 : ¬ lI b = 0 := by rw [show (0 : Int64) = lI 0 from rfl, lI_inj (by omega) (by omega) (by omega) (by omega)]; omega
  rw [if_pos c, gDl_of c2, rest_eq ha ha2 hb hb2]
theorem sc_mod {C E : Int} (h1 : 0 < w1) (h2 : 0 < w2) (h : E * w1 = C * w2) : E % w2 * w1 = C % w1 * w2 := by
  have e1 := Int.mul_emod_mul_of_pos (a := w1) E w2 h1
  have e2 := Int.mul_emod_mul_of_pos (a := w2) C w1 h2
  rw [Int.mul_comm (E % w2) w1, ← e1, Int.mul_comm (C % w1) w2, ← e2, Int.mul_comm w1 E, h, Int.mul_comm w2 C, Int.mul_comm w1 w2]
theorem rl_mod {C E : Int} (h1 : 0 < w1) (h2 : 0 < w2) (h : E * w1 = C * w2) : RLZ w1 w2 (lI (C % w1)) (lI (E % w2)) :=
  ⟨C % w1, E % w2, rfl, rfl, sc_mod h1 h2 h, Int.emod_nonneg _ (by omega), Int.emod_lt_of_pos _ h1, Int.emod_nonneg _ (by omega), Int.emod_lt_of_pos _ h2⟩
/-- the shares of both sides -/
def PSZ (n : Nat) (w1 w2 : Int) (C E : Nat → Int) : Prop := n ≤ 10 ∧ (0 < w1 ∧ w1 ≤ 10000000) ∧ (0 < w2 ∧ w2 ≤ 10000000) ∧ ∀ t, t < n → E t * w1 = C t * w2 ∧ (0 ≤ C t ∧ C t ≤ w1) ∧ (0 ≤ E t ∧ E t ≤ w2)
theorem ps_sm {n : Nat} {C E : Nat → Int} (h : PSZ n w1 w2 C E) : ∀ k, k ≤ n → sm E k * w1 = sm C k * w2 ∧ (0 ≤ sm C k ∧ sm C k ≤ 10000000 * (k : Int)) ∧ (0 ≤ sm E k ∧ sm E k ≤ 10000000 * (k : Int)) := by
  intro k
  induction k with
  | zero => intro _; exact ⟨by show (0 : Int) * w1 = 0 * w2; omega, ⟨Int.le_refl 0, Int.le_refl 0⟩, ⟨Int.le_refl 0, Int.le_refl 0⟩⟩
  | succ k ih =>
    intro hk
    obtain ⟨a, b, c⟩ := ih (by omega)
    obtain ⟨d, e, f⟩ := h.2.2.2 k (by omega)
    have := h.2.1
    have := h.2.2.1
    rw [sm_s, sm_s, Int.add_mul, Int.add_mul, a, d]
    omega
theorem draw_go {n : Nat} {C E : Nat → Int} (h : PSZ n w1 w2 C E) {N : Nat} (hN : 100 ≤ N) {g : Nat → Int32} (hg : g 0 = nI n) {P P' : Nat → Int64} (hP : ∀ t, t < n → P t = lI (C t) ∧ P' t = lI (E t)) (bt' : Int32) (hi lw th tl : Int64) :
    ∀ (d t m k : Nat) (c e : Nat → Int64), t + d = n → d < m → 1 ≤ k → k ≤ t + 1 → (∀ r, r < k → RLZ w1 w2 (c r) (e r)) → ∃ k' c' e', f_X1_make_b17 N (lI w1) (nI n) P m (nI k) c (lI (sm C t)) (nI t) = some (nI k', c') ∧
      f_X11_findLots_b23 N g bt' hi lw (lI w2) th tl P' m (nI k) e (lI (sm E t)) (nI t) = some (1, bt', hi, lw, lI w2, th, tl, nI k', P', e') ∧ 1 ≤ k' ∧ k' ≤ 11 ∧ (∀ r, r < k' → RLZ w1 w2 (c' r) (e' r)) ∧ c' k' = lI w1 ∧ e' k' = lI w2 := by
  obtain ⟨hn, h1, h2, hh⟩ := id h
  intro d
  induction d with
  | zero =>
    intro t m k c e h3 hm k1 k2 hc
    obtain ⟨m, rfl⟩ : ∃ z, m = z + 1 := ⟨m - 1, by omega⟩
    rw [f_X1_make_b17_s, f_X11_findLots_b23_s]
    unfold g_X1_make_b17 g_X11_findLots_b23
    rw [hg, if_pos ((nI_leI (by omega) (by omega)).mpr (by omega)), if_pos ((nI_leI (by omega) (by omega)).mpr (by omega)), gI_n (by omega) (by omega), gI_n (by omega) (by omega), cl_n (by omega)]
    refine ⟨k, _, _, rfl, rfl, k1, by omega, fun r hr => ?_, updL_s, updL_s⟩
    rw [updL_n (by omega), updL_n (by omega)]
    exact hc r hr
  | succ d ih =>
    intro t m k c e h3 hm k1 k2 hc
    obtain ⟨m, rfl⟩ : ∃ z, m = z + 1 := ⟨m - 1, by omega⟩
    rw [f_X1_make_b17_s, f_X11_findLots_b23_s]
    unfold g_X1_make_b17 g_X11_findLots_b23
    obtain ⟨s1, s2, s3⟩ := ps_sm h (t + 1) (by omega)
    have hw2 : ¬ lI w2 = 0 := by rw [show (0 : Int64) = lI 0 from rfl, lI_inj (by omega) (by omega) (by omega) (by omega)]; omega
    have e1 : lI (sm C t) + P t = lI (sm C (t + 1)) := by rw [(hP t (by omega)).1, lI_add]; rfl
    have e2 : lI (sm E t) + P' t = lI (sm E (t + 1)) := by rw [(hP t (by omega)).2, lI_add]; rfl
    rw [hg, if_neg (fun q => absurd ((nI_leI (by omega) (by omega)).mp q) (by omega)), if_neg (fun q => absurd ((nI_leI (by omega) (by omega)).mp q) (by omega)), gI_n (by omega) (by omega), gI_n (by omega) (by omega), cl_n (by omega), gDl_of hw2, e1, e2, restOf_eq (by omega) (by omega) (by omega) (by omega), bd_of rfl, rest_eq (by omega) (by omega) (by omega) (by omega), ae_eq, nI_1]
    unfold f_X11_addEdge
    obtain ⟨k', c', e', q1, q2, q3, q4, q5⟩ := edge_go (show k ≤ 11 by omega) hN h1 h2 (rl_mod h1.1 h2.1 s1) hc k 0 N (by omega) (by omega)
    rw [show nI 0 = 0 from rfl] at q1 q2
    rw [q1, q2, bd_of rfl, bd_of rfl]
    exact ih (t + 1) m k' c' e' (by omega) (by omega) (by omega) (by omega) q5
theorem draw_eq {n : Nat} {C E : Nat → Int} (h : PSZ n w1 w2 C E) {N : Nat} (hN : 100 ≤ N) {g : Nat → Int32} (hg : g 0 = nI n) {P P' : Nat → Int64} (hP : ∀ t, t < n → P t = lI (C t) ∧ P' t = lI (E t)) (bt' : Int32) (hi lw th tl : Int64) (ds : Int32) (c e : Nat → Int64) :
    ∃ k' c' e', f_X1_make N ds c (lI w1) (nI n) P = some (nI k', c') ∧ bd (f_X11_addEdge N 0 e 0) (fun q3 => f_X11_findLots_b23 N g bt' hi lw (lI w2) th tl P' N q3.1 q3.2 0 0) = some (1, bt', hi, lw, lI w2, th, tl, nI k', P', e') ∧ 1 ≤ k' ∧ k' ≤ 11 ∧ (∀ r, r < k' → RLZ w1 w2 (c' r) (e' r)) ∧ c' k' = lI w1 ∧ e' k' = lI w2 := by
  obtain ⟨hn, h1, h2, hh⟩ := id h
  have e0 : f_X11_addEdge N 0 e 0 = some (1, vp_updL e 0 0) := by
    unfold f_X11_addEdge
    obtain ⟨m, rfl⟩ : ∃ z, N = z + 1 := ⟨N - 1, by omega⟩
    rw [f_X11_addEdge_b2_s]
    unfold g_X11_addEdge_b2 f_X11_addEdge_b27 f_X11_addEdge_b47
    rw [if_pos (by decide), if_pos (by decide), f_X11_addEdge_b53_s]
    unfold g_X11_addEdge_b53
    rw [if_pos (by decide), show (0 : Int32) = nI 0 from rfl, gI_n (by omega) (by omega)]
    rfl
  rw [e0, bd_of rfl]
  unfold f_X1_make
  have z : RLZ w1 w2 (0 : Int64) (0 : Int64) := ⟨0, 0, rfl, rfl, by omega, by omega, by omega, by omega, by omega⟩
  exact draw_go h hN hg hP bt' hi lw th tl n 0 N 1 (vp_updL c 0 0) (vp_updL e 0 0) (by omega) (by omega) (by omega) (by omega) (fun r hr => by
    rw [show r = 0 by omega, updL_s, updL_s]; exact z)
end PDR
