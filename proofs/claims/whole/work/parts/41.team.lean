section PTM
variable {w1 w2 : Int}
def HIT (f t z w : Int) (q : Nat) : Prop := ∃ k : Nat, q ≤ k ∧ f ≤ z + (k : Int) * w ∧ z + (k : Int) * w < t
theorem or_idem (a b : Int32) : (a ||| b) ||| b = a ||| b := by rw [Int32.or_assoc, Int32.or_self]
abbrev T11 := Int32 × Int32 × Int64 × Int64 × Int64 × Int64 × Int64 × Int32 × (Nat → Int64) × (Nat → Int64)
theorem inn_go (N : Nat) (g : Nat → Int32) (k31 : Int32 → Int64 → Int32 → Option T11) (bt' : Int32) (hi lw th tl : Int64) (lots : Int32) (P e : Nat → Int64) (v1 v5 : Int32) {f t z w : Int} (hf : 0 ≤ f ∧ f ≤ 1000000000) (ht : 0 ≤ t ∧ t ≤ 1000000000) (hz : 0 ≤ z) (hw : 0 < w ∧ w ≤ 10000000) :
    ∀ (d q m : Nat) (M : Int32), t ≤ z + (q : Int) * w + (d : Int) * w → z + (q : Int) * w ≤ 2000000000 → d < m →
      (HIT f t z w q → f_X11_team_b61 N g k31 bt' hi lw (lI w) th tl lots P e v1 (lI f) v5 (lI t) m M (lI (z + (q : Int) * w)) = k31 (M ||| ((1 : Int32) <<< (v5 &&& 31))) (lI t) (v5 + 1)) ∧
      (¬ HIT f t z w q → f_X11_team_b61 N g k31 bt' hi lw (lI w) th tl lots P e v1 (lI f) v5 (lI t) m M (lI (z + (q : Int) * w)) = k31 M (lI t) (v5 + 1)) := by
  have mono : ∀ (q k : Nat), q ≤ k → z + (q : Int) * w ≤ z + (k : Int) * w := by
    intro q k h
    have := Int.mul_le_mul_of_nonneg_right (show (q : Int) ≤ k by omega) (Int.le_of_lt hw.1)
    omega
  have nn : ∀ q : Nat, 0 ≤ (q : Int) * w := fun q => Int.mul_nonneg (by omega) (by omega)
  intro d
  induction d with
  | zero =>
    intro q m M h1 h2 hm
    obtain ⟨m, rfl⟩ : ∃ z, m = z + 1 := ⟨m - 1, by omega⟩
    rw [f_X11_team_b61_s]
    unfold g_X11_team_b61
    have := nn q
    have h0 : ((0 : Nat) : Int) * w = 0 := by simp
    rw [if_pos ((lI_le (by omega) (by omega) (by omega) (by omega)).mpr (by omega))]
    refine ⟨fun ⟨k, k1, k2, k3⟩ => ?_, fun _ => rfl⟩
    have := mono q k k1
    omega
  | succ d ih =>
    intro q m M h1 h2 hm
    obtain ⟨m, rfl⟩ : ∃ z, m = z + 1 := ⟨m - 1, by omega⟩
    rw [f_X11_team_b61_s]
    unfold g_X11_team_b61 f_X11_team_b85
    have := nn q
    by_cases c : t ≤ z + (q : Int) * w
    · rw [if_pos ((lI_le (by omega) (by omega) (by omega) (by omega)).mpr c)]
      refine ⟨fun ⟨k, k1, k2, k3⟩ => ?_, fun _ => rfl⟩
      have := mono q k k1
      omega
    · rw [if_neg (fun x => c ((lI_le (by omega) (by omega) (by omega) (by omega)).mp x)), lI_add]
      have e1 : z + (q : Int) * w + w = z + ((q + 1 : Nat) : Int) * w := by
        have : ((q + 1 : Nat) : Int) * w = (q : Int) * w + w := by rw [Int.natCast_add, Int.add_mul]; simp
        omega
      have e2 : ((d + 1 : Nat) : Int) * w = (d : Int) * w + w := by rw [Int.natCast_add, Int.add_mul]; simp
      rw [e1]
      have i := fun M => ih (q + 1) m M (by rw [← e1]; omega) (by rw [← e1]; omega) (by omega)
      by_cases c2 : z + (q : Int) * w < f
      · rw [if_pos ((lI_lt (by omega) (by omega) (by omega) (by omega)).mpr c2), Int32.or_zero]
        have eq : HIT f t z w q ↔ HIT f t z w (q + 1) := by
          constructor
          · rintro ⟨k, k1, k2, k3⟩
            refine ⟨k, ?_, k2, k3⟩
            by_cases y : k = q
            · subst y; omega
            · omega
          · rintro ⟨k, k1, k2, k3⟩
            exact ⟨k, by omega, k2, k3⟩
        rw [eq]
        exact i M
      · rw [if_neg (fun x => c2 ((lI_lt (by omega) (by omega) (by omega) (by omega)).mp x))]
        have i' := i (M ||| ((1 : Int32) <<< (v5 &&& 31)))
        refine ⟨fun _ => ?_, fun x => absurd ⟨q, Nat.le_refl q, by omega, by omega⟩ x⟩
        by_cases y : HIT f t z w (q + 1)
        · rw [i'.1 y, or_idem]
        · rw [i'.2 y]
theorem hit_sc {f t z f' t' z' : Int} (h1 : 0 < w1) (h2 : 0 < w2) (hf : f' * w1 = f * w2) (ht : t' * w1 = t * w2) (hz : z' * w1 = z * w2) (q : Nat) : HIT f' t' z' w2 q ↔ HIT f t z w1 q := by
  unfold HIT
  have e : ∀ k : Nat, (z' + (k : Int) * w2) * w1 = (z + (k : Int) * w1) * w2 := by
    intro k
    rw [Int.add_mul, Int.add_mul, hz]; grind
  constructor
  · rintro ⟨k, k1, k2, k3⟩
    refine ⟨k, k1, (scz_le h1 h2 hf (e k)).mp k2, ?_⟩
    have := scz_le h1 h2 ht (e k)
    omega
  · rintro ⟨k, k1, k2, k3⟩
    refine ⟨k, k1, (scz_le h1 h2 hf (e k)).mpr k2, ?_⟩
    have := scz_le h1 h2 ht (e k)
    omega
/-- where the class looks -/
def plc (f z w : Int) : Int := if f ≤ f - f % w + z then f - f % w + z else f - f % w + z + w
theorem plc_hit {f t z w : Int} (hf : 0 ≤ f) (hz : 0 ≤ z) (hzw : z < w) : plc f z w < t ↔ HIT f t z w 0 := by
  have hw : 0 < w := by omega
  have hq : 0 ≤ f / w := Int.ediv_nonneg hf (by omega)
  obtain ⟨q, hq⟩ := Int.eq_ofNat_of_zero_le hq
  have e1 : f - f % w = (q : Int) * w := by
    have := Int.mul_ediv_add_emod f w
    rw [hq, Int.mul_comm] at this
    omega
  have e2 := Int.emod_lt_of_pos f hw
  have e3 := Int.emod_nonneg f (show w ≠ 0 by omega)
  have mono : ∀ (a b : Nat), a ≤ b → (a : Int) * w ≤ (b : Int) * w := fun a b h => Int.mul_le_mul_of_nonneg_right (by omega) (by omega)
  have suc : ∀ a : Nat, ((a + 1 : Nat) : Int) * w = (a : Int) * w + w := fun a => by rw [Int.natCast_add, Int.add_mul]; simp
  unfold plc HIT
  rw [e1]
  by_cases c : f ≤ (q : Int) * w + z
  · rw [if_pos c]
    constructor
    · intro h
      exact ⟨q, by omega, by omega, by omega⟩
    · rintro ⟨k, -, k2, k3⟩
      have : q ≤ k := by
        by_cases y : q ≤ k
        · exact y
        · exfalso
          have m1 := mono (k + 1) q (by omega)
          rw [suc] at m1
          omega
      have := mono q k this
      omega
  · rw [if_neg c]
    have s := suc q
    constructor
    · intro h
      exact ⟨q + 1, by omega, by omega, by omega⟩
    · rintro ⟨k, -, k2, k3⟩
      have : q + 1 ≤ k := by
        by_cases y : q + 1 ≤ k
        · exact y
        · exfalso
          have m1 := mono k q (by omega)
          omega
      have := mono (q + 1) k this
      omega
theorem ps_sw {n : Nat} {C E : Nat → Int} (h : PSZ n w1 w2 C E) : ∀ k, k ≤ n → sm E k ≤ (k : Int) * w2 := by
  intro k
  induction k with
  | zero => intro _; show (0 : Int) ≤ ((0 : Nat) : Int) * w2; simp
  | succ k ih =>
    intro hk
    have a := ih (by omega)
    obtain ⟨d, e, f⟩ := h.2.2.2 k (by omega)
    have : ((k + 1 : Nat) : Int) * w2 = (k : Int) * w2 + w2 := by rw [Int.natCast_add, Int.add_mul]; simp
    rw [sm_s]; omega
theorem team_go {n : Nat} {C E : Nat → Int} (h : PSZ n w1 w2 C E) {N : Nat} (hN : 1000 ≤ N) {g : Nat → Int32} (hg : g 0 = nI n) {P P' : Nat → Int64} (hP : ∀ t, t < n → P t = lI (C t) ∧ P' t = lI (E t)) (bt' : Int32) (hi lw th tl : Int64) (lots : Int32) (e : Nat → Int64) {i : Nat} (hi' : i < 12) {z z' : Int} (hz : z' * w1 = z * w2) (hz0 : 0 ≤ z ∧ z < w1) (hz0' : 0 ≤ z' ∧ z' < w2) (he : e i = lI z') :
    ∀ (d t m : Nat) (M : Int32), t + d = n → d < m → ∃ v, f_X1_membersAt_b9 N (lI w1) (nI n) P (lI z) m M (lI (sm C t)) (nI t) = some v ∧ f_X11_team_b31 N g bt' hi lw (lI w2) th tl lots P' e (nI i) m M (lI (sm E t)) (nI t) = some (v, bt', hi, lw, lI w2, th, tl, lots, P', e) := by
  obtain ⟨hn, h1, h2, hh⟩ := id h
  intro d
  induction d with
  | zero =>
    intro t m M h3 hm
    obtain ⟨m, rfl⟩ : ∃ z, m = z + 1 := ⟨m - 1, by omega⟩
    rw [f_X1_membersAt_b9_s, f_X11_team_b31_s]
    unfold g_X1_membersAt_b9 g_X11_team_b31
    rw [hg, if_pos ((nI_leI (by omega) (by omega)).mpr (by omega)), if_pos ((nI_leI (by omega) (by omega)).mpr (by omega))]
    exact ⟨M, rfl, rfl⟩
  | succ d ih =>
    intro t m M h3 hm
    obtain ⟨m, rfl⟩ : ∃ z, m = z + 1 := ⟨m - 1, by omega⟩
    rw [f_X1_membersAt_b9_s, f_X11_team_b31_s]
    unfold g_X1_membersAt_b9 g_X11_team_b31 f_X1_membersAt_b63
    obtain ⟨s1, s2, s3⟩ := ps_sm h t (by omega)
    obtain ⟨t1, t2, t3⟩ := ps_sm h (t + 1) (by omega)
    have tn : (t : Int) ≤ 9 := by omega
    have e1 : lI (sm C t) + P t = lI (sm C (t + 1)) := by rw [(hP t (by omega)).1, lI_add]; rfl
    have e2 : lI (sm E t) + P' t = lI (sm E (t + 1)) := by rw [(hP t (by omega)).2, lI_add]; rfl
    have m1 := Int.emod_lt_of_pos (sm C t) h1.1
    have m2 := Int.emod_nonneg (sm C t) (show w1 ≠ 0 by omega)
    rw [hg, if_neg (fun q => absurd ((nI_leI (by omega) (by omega)).mp q) (by omega)), if_neg (fun q => absurd ((nI_leI (by omega) (by omega)).mp q) (by omega)), gI_n (by omega) (by omega), gI_n (by omega) (by omega), gI_n (by omega) (by omega), cl_n (by omega), cl_n (by omega), e1, e2, restOf_eq (by omega) (by omega) (by omega) (by omega), bd_of rfl, he, lI_sub, lI_add, lI_add, nI_1]
    have sw := ps_sw h (t + 1) (by omega)
    have sw2 : ((t + 1 : Nat) : Int) * w2 ≤ ((10 : Nat) : Int) * w2 := Int.mul_le_mul_of_nonneg_right (by omega) (by omega)
    have z0 : z' + ((0 : Nat) : Int) * w2 = z' := by simp
    have inn := inn_go N g (fun v2 v3 v5 => f_X11_team_b31 N g bt' hi lw (lI w2) th tl lots P' e (nI i) m v2 v3 v5) bt' hi lw th tl lots P' e (nI i) (nI t) (f := sm E t) (t := sm E (t + 1)) (z := z') (w := w2) (by omega) (by omega) hz0'.1 h2 10 0 N M (by rw [z0]; omega) (by rw [z0]; omega) (by omega)
    rw [z0, nI_1, hit_sc h1.1 h2.1 s1 t1 hz 0, ← plc_hit s2.1 hz0.1 hz0.2] at inn
    have c1 := lI_le (a := sm C t) (b := sm C t - sm C t % w1 + z) (by omega) (by omega) (by omega) (by omega)
    have key : ∀ p : Int, p = plc (sm C t) z w1 → -1000000000 ≤ p ∧ p ≤ 1000000000 → ∃ v, (if lI (sm C (t + 1)) ≤ lI p then f_X1_membersAt_b9 N (lI w1) (nI n) P (lI z) m M (lI (sm C (t + 1))) (nI (t + 1)) else f_X1_membersAt_b9 N (lI w1) (nI n) P (lI z) m (M ||| ((1 : Int32) <<< (nI t &&& 31))) (lI (sm C (t + 1))) (nI (t + 1))) = some v ∧ f_X11_team_b61 N g (fun v2 v3 v5 => f_X11_team_b31 N g bt' hi lw (lI w2) th tl lots P' e (nI i) m v2 v3 v5) bt' hi lw (lI w2) th tl lots P' e (nI i) (lI (sm E t)) (nI t) (lI (sm E (t + 1))) N M (lI z') = some (v, bt', hi, lw, lI w2, th, tl, lots, P', e) := by
      intro p hp hb
      have c2 := lI_le (a := sm C (t + 1)) (b := p) (by omega) (by omega) (by omega) (by omega)
      by_cases y : sm C (t + 1) ≤ p
      · rw [if_pos (c2.mpr y), inn.2 (by omega)]
        exact ih (t + 1) m M (by omega) (by omega)
      · rw [if_neg (fun x => y (c2.mp x)), inn.1 (by omega)]
        exact ih (t + 1) m _ (by omega) (by omega)
    by_cases c : sm C t ≤ sm C t - sm C t % w1 + z
    · rw [if_pos (c1.mpr c)]
      exact key _ (if_pos c).symm (by omega)
    · rw [if_neg (fun x => c (c1.mp x))]
      exact key _ (if_neg c).symm (by omega)
end PTM
