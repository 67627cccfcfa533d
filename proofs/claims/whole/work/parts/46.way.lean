/-! ===== the way measured last ===== -/
section PWY
variable {n : Nat} {fr to len g : Nat → Int32} {us : Nat → Bool}
def clt (D : Nat → Nat) (x : Nat) : Nat → Nat
  | 0 => 0
  | k + 1 => clt D x k + (if D k < x then 1 else 0)
theorem clt_mono {D : Nat → Nat} {x y : Nat} (h : x ≤ y) : ∀ k, clt D x k ≤ clt D y k := by
  intro k
  induction k with
  | zero => exact Nat.le_refl _
  | succ k ih =>
    show clt D x k + _ ≤ clt D y k + _
    by_cases c : D k < x
    · rw [if_pos c, if_pos (by omega)]; omega
    · rw [if_neg c]; omega
theorem clt_lt {D : Nat → Nat} {x : Nat} {w : Nat} (h : D w < x) : ∀ k, w < k → clt D (D w) k < clt D x k := by
  intro k
  induction k with
  | zero => intro q; omega
  | succ k ih =>
    intro q
    show clt D (D w) k + _ < clt D x k + _
    by_cases c : w = k
    · subst c
      have := clt_mono (D := D) (Nat.le_of_lt h) w
      rw [if_neg (by omega), if_pos h]; omega
    · have := ih (by omega)
      by_cases d : D k < D w
      · rw [if_pos d, if_pos (by omega)]; omega
      · rw [if_neg d]; omega
theorem clt_k {D : Nat → Nat} {w : Nat} : ∀ k, w < k → clt D (D w) k < k := by
  intro k
  induction k with
  | zero => intro q; omega
  | succ k ih =>
    intro q
    show clt D (D w) k + _ < k + 1
    by_cases c : w = k
    · subst c
      rw [if_neg (by omega)]
      have : ∀ k, clt D (D w) k ≤ k := by
        intro k
        induction k with
        | zero => exact Nat.le_refl _
        | succ k ih => show clt D (D w) k + _ ≤ k + 1; split <;> omega
      have := this w
      omega
    · have := ih (by omega)
      split <;> omega
theorem way_go {N : Nat} (hR : RNZ n fr to len) {s : Nat} {D : Nat → Nat} {y : Nat → Int32} (hy : LRZ n us fr to len (ini s) D y) : ∀ (d k m v W : Nat), k + d = 10 → d < m → v < 10 → clt D (D v) 10 < d → W < 65536 →
    ∃ W', f_X5_wayTo_b7 N fr y m (nI W) (nI v) (nI k) = some (nI W') ∧ W' < 65536 ∧ (∀ r, W.testBit r = true → W'.testBit r = true) ∧ (∀ r, W'.testBit r = true → W.testBit r = true ∨ (r < n ∧ us r = true)) ∧
      ∀ (u2 : Nat → Bool) (h : Nat → Nat), FIX n u2 (cN fr) (cN to) (cN len) h → (∀ w, h w ≤ ini s w) → (∀ r, r < n → W'.testBit r = true → u2 r = true) → h v ≤ D v := by
  obtain ⟨hn, hr⟩ := id hR
  intro d
  induction d with
  | zero => intro k m v W h1 h2 h3 h4; omega
  | succ d ih =>
    intro k m v W h1 h2 h3 h4 h5
    obtain ⟨m, rfl⟩ : ∃ z, m = z + 1 := ⟨m - 1, by omega⟩
    rw [f_X5_wayTo_b7_s]
    unfold g_X5_wayTo_b7
    rw [if_neg (fun q => absurd ((nI_leC (k := 10) (a := 10) rfl (by omega) (by omega)).mp q) (by omega)), gI_n h3 (by omega), gI_n h3 (by omega), cl_n (by omega)]
    rcases hy v h3 with ⟨z1, z2⟩ | ⟨r, r1, r2, r3, r4, r5⟩
    · rw [z1, if_pos (by decide)]
      exact ⟨W, rfl, h5, fun r q => q, fun r q => Or.inl q, fun u2 h q1 q2 q3 => by rw [z2]; exact q2 v⟩
    · obtain ⟨⟨f1, f2⟩, ⟨t1, t2⟩, ⟨l1, l2, l3⟩⟩ := hr r r1
      have hr16 : r < 16 := by omega
      have p16 : 2 ^ r < 65536 := Nat.lt_of_lt_of_le (Nat.pow_lt_pow_right (by omega) hr16) (by decide)
      rw [r4, if_neg (nI_n0 (by omega)), gI_n hr16 (by omega), cl_n (by omega), one_shl r (by omega), nx_or, f1, nI_1]
      have hlt : D (cN fr r) < D v := by omega
      have c := clt_lt (D := D) hlt 10 f2
      obtain ⟨W', q1, q2, q3, q4, q5⟩ := ih (k + 1) m (cN fr r) (W ||| 2 ^ r) (by omega) (by omega) f2 (by omega) (Nat.or_lt_two_pow (n := 16) h5 p16)
      have inr : W'.testBit r = true := q3 r (by rw [Nat.testBit_or, Nat.testBit_two_pow]; simp)
      refine ⟨W', q1, q2, fun r' z => q3 r' (by rw [Nat.testBit_or, z, Bool.true_or]), fun r' z => ?_, fun u2 h z1 z2 z3 => ?_⟩
      · rcases q4 r' z with z | z
        · rw [Nat.testBit_or, Nat.testBit_two_pow, Bool.or_eq_true] at z
          rcases z with z | z
          · exact Or.inl z
          · have : r = r' := of_decide_eq_true z
            subst this
            exact Or.inr ⟨r1, r2⟩
        · exact Or.inr z
      · have a := q5 u2 h z1 z2 z3
        have b := z1 r r1 (z3 r r1 inr)
        have r3' : cN to r = v := r3
        rw [r3'] at b
        omega
theorem way_eq {N : Nat} (hN : 100 ≤ N) (hR : RNZ n fr to len) {s e : Nat} (he : e < 10) {D : Nat → Nat} {y : Nat → Int32} (hy : LRZ n us fr to len (ini s) D y) :
    ∃ W', f_X5_wayTo N fr y (nI e) = some (nI W') ∧ W' < 65536 ∧ (∀ r, W'.testBit r = true → r < n ∧ us r = true) ∧
      ∀ (u2 : Nat → Bool) (h : Nat → Nat), FIX n u2 (cN fr) (cN to) (cN len) h → (∀ w, h w ≤ ini s w) → (∀ r, r < n → W'.testBit r = true → u2 r = true) → h e ≤ D e := by
  unfold f_X5_wayTo
  obtain ⟨W', q1, q2, q3, q4, q5⟩ := way_go (N := N) hR hy 10 0 N e 0 (by omega) (by omega) he (clt_k 10 he) (by omega)
  refine ⟨W', q1, q2, fun r z => ?_, q5⟩
  rcases q4 r z with z | z
  · rw [Nat.zero_testBit] at z; cases z
  · exact z
end PWY
