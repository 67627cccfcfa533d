/-! ===== bars: the class's search ===== -/
section PSE
variable {n : Nat} {fr to len g : Nat → Int32}
theorem take_eq {W c : Nat → Nat} (hc : ∀ S, c S = pcn S 16) (hB : ∀ S, W S ≤ 1000000) {F S : Nat} (hF : F < 65536) (hS : S < 65536) :
    ∃ F', (F' = F ∨ F' = S) ∧ bet W c F' F ∧ bet W c F' S ∧ f_X0_take (nI F) (nI (W F)) (nI S) (nI (W S)) = (nI F', nI (W F')) := by
  have b1 : c F ≤ 16 := by rw [hc]; exact pcn_le _ _
  have b2 : c S ≤ 16 := by rw [hc]; exact pcn_le _ _
  have b3 := hB F
  have b4 := hB S
  have d : (nI (c F) - nI (c S)).toInt = (c F : Int) - (c S : Int) := by
    rw [i_sub, nI_toInt (by omega), nI_toInt (by omega)] <;> rw [nI_toInt (by omega), nI_toInt (by omega)] <;> omega
  have d1 : 0 < nI (c F) - nI (c S) ↔ c S < c F := by rw [Int32.lt_iff_toInt_lt, d, i0]; omega
  have d2 : nI (c F) - nI (c S) = 0 ↔ c F = c S := by rw [← Int32.toInt_inj, d, i0]; omega
  have d3 : nI F ≤ nI S ↔ F ≤ S := nI_leI (by omega) (by omega)
  have d4 : nI (W F) < nI (W S) ↔ W F < W S := nI_ltI (by omega) (by omega)
  have d5 : nI (W S) = nI (W F) ↔ W S = W F := nI_eq (by omega) (by omega)
  unfold f_X0_take f_X0_take_b29 f_X0_take_b33 f_X0_take_b34 f_X0_take_b57
  rw [bitCount_eq hF, bitCount_eq hS, ← hc F, ← hc S]
  have keep : bet W c F S → ∃ F', (F' = F ∨ F' = S) ∧ bet W c F' F ∧ bet W c F' S ∧ (nI F, nI (W F)) = (nI F', nI (W F')) := fun h => ⟨F, Or.inl rfl, bet_rf W c F, h, rfl⟩
  have take : bet W c S F → ∃ F', (F' = F ∨ F' = S) ∧ bet W c F' F ∧ bet W c F' S ∧ (nI S, nI (W S)) = (nI F', nI (W F')) := fun h => ⟨S, Or.inr rfl, h, bet_rf W c S, rfl⟩
  by_cases e1 : W F < W S
  · have : nI (W F) < nI (W S) := d4.mpr e1
    simp only [if_pos this, ite_self]
    exact take (Or.inl e1)
  · have n1 : ¬ nI (W F) < nI (W S) := fun z => e1 (d4.mp z)
    simp only [if_neg n1]
    by_cases e2 : W S = W F
    · simp only [if_pos (d5.mpr e2)]
      by_cases e3 : c S < c F
      · rw [if_pos (d1.mpr e3), if_neg i10ne]
        exact take (by unfold bet; omega)
      · rw [if_neg (fun z => e3 (d1.mp z))]
        by_cases e4 : c F = c S
        · rw [if_pos (d2.mpr e4)]
          by_cases e5 : F ≤ S
          · rw [if_pos (d3.mpr e5), if_pos trivial]
            exact keep (by unfold bet; omega)
          · rw [if_neg (fun z => e5 (d3.mp z)), if_neg i10ne]
            exact take (by unfold bet; omega)
        · rw [if_neg (fun z => e4 (d2.mp z)), if_pos trivial]
          exact keep (by unfold bet; omega)
    · simp only [if_neg (fun z => e2 (d5.mp z)), ite_self]
      exact keep (by unfold bet; omega)
theorem pcn_or {S r : Nat} (h : S.testBit r = false) : ∀ k, pcn (S ||| 2 ^ r) k = pcn S k + (if r < k then 1 else 0) := by
  intro k
  induction k with
  | zero => rw [if_neg (by omega)]; rfl
  | succ k ih =>
    show pcn (S ||| 2 ^ r) k + ((S ||| 2 ^ r).testBit k).toNat = pcn S k + (S.testBit k).toNat + _
    rw [ih, Nat.testBit_or, Nat.testBit_two_pow]
    by_cases c : r = k
    · subst c
      rw [h, if_neg (by omega), if_pos (by omega)]; simp
    · by_cases d : r < k
      · rw [if_pos d, if_pos (by omega)]; simp [c]; omega
      · rw [if_neg d, if_neg (by omega)]; simp [c]
theorem pcn_sub {S B : Nat} (h : ∀ r, S.testBit r = true → B.testBit r = true) : ∀ k, pcn S k ≤ pcn B k ∧ (pcn S k = pcn B k → ∀ r, r < k → S.testBit r = B.testBit r) := by
  intro k
  induction k with
  | zero => exact ⟨Nat.le_refl _, fun _ r hr => by omega⟩
  | succ k ih =>
    have q : (S.testBit k).toNat ≤ (B.testBit k).toNat := by
      cases hh : S.testBit k
      · simp
      · rw [h k hh]; exact Nat.le_refl _
    refine ⟨by show pcn S k + _ ≤ pcn B k + _; omega, fun z r hr => ?_⟩
    have z : pcn S k + (S.testBit k).toNat = pcn B k + (B.testBit k).toNat := z
    have i1 := ih.1
    by_cases c : r = k
    · subst c
      have : (S.testBit r).toNat = (B.testBit r).toNat := by omega
      cases h1 : S.testBit r <;> cases h2 : B.testBit r <;> simp [h1, h2] at this ⊢
    · exact ih.2 (by omega) r (by omega)
theorem oks_lt {b S : Nat} (hn : n ≤ 16) (h : OKS n b S) : S < 65536 := Nat.lt_of_lt_of_le h.1 (Nat.le_trans (Nat.pow_le_pow_right (by omega) hn) (by decide))
/-- the best of all that may be barred -/
def BSS (n b L : Nat) (W c : Nat → Nat) (B : Nat) : Prop := OKS n b B ∧ c B ≤ L ∧ ∀ r, OKS n b r → c r ≤ L → bet W c B r
abbrev T0 := Int32 × Int32 × (Nat → Int32) × (Nat → Int32)
theorem loop_go {N : Nat} (hR : RNZ n fr to len) {b L S more s e : Nat} {W c : Nat → Nat} (hc : ∀ S, c S = pcn S 16) (hL : L ≤ 4) (hS : OKS n b S) (hcS : c S + more = L) (hm : 0 < more) {Y : Nat} (hY : Y < 65536) (hYu : ∀ r, Y.testBit r = true → r < n ∧ usS b S r = true) {self : Int32 → Int32 → (Nat → Int32) → (Nat → Int32) → Int32 → Int32 → Int32 → Option T0} {bar : Int32}
    (hself : ∀ (S' T F : Nat) (x y : Nat → Int32), OKS n b S' → c S' + (more - 1) = L → T < 65536 → OKS n b F → c F ≤ L → ∃ F' x' y', self (nI F) (nI (W F)) x y (nI S') (nI T) (nI (more - 1)) = some (nI F', nI (W F'), x', y') ∧ OKS n b F' ∧ c F' ≤ L ∧ bet W c F' F ∧ ∀ B, BSS n b L W c B → (∀ r, S'.testBit r = true → B.testBit r = true) → (∀ r, T.testBit r = true → B.testBit r = false) → bet W c F' B) :
    ∀ (d k m T F : Nat) (x y : Nat → Int32), k + d = 16 → d < m → T < 65536 → OKS n b F → c F ≤ L → ∃ F' x' y', f_X0_search_b51 N (nI s) (nI e) (nI n) bar fr to len self (nI S) (nI more) (nI Y) m (nI F) (nI (W F)) x y (nI T) (nI k) = some (nI F', nI (W F'), x', y') ∧ OKS n b F' ∧ c F' ≤ L ∧ bet W c F' F ∧
      ∀ B, BSS n b L W c B → (∀ r, S.testBit r = true → B.testBit r = true) → (∀ r, T.testBit r = true → B.testBit r = false) → (∃ r, k ≤ r ∧ r < 16 ∧ Y.testBit r = true ∧ B.testBit r = true) → bet W c F' B := by
  have hn := hR.1
  intro d
  induction d with
  | zero =>
    intro k m T F x y h1 h2 h3 h4 h5
    obtain ⟨m, rfl⟩ : ∃ z, m = z + 1 := ⟨m - 1, by omega⟩
    rw [f_X0_search_b51_s]
    unfold g_X0_search_b51
    rw [if_pos ((nI_leC (k := 16) (a := 16) rfl (by omega) (by omega)).mpr (by omega))]
    exact ⟨F, x, y, rfl, h4, h5, bet_rf W c F, fun B _ _ _ ⟨r, r1, r2, _⟩ => by omega⟩
  | succ d ih =>
    intro k m T F x y h1 h2 h3 h4 h5
    obtain ⟨m, rfl⟩ : ∃ z, m = z + 1 := ⟨m - 1, by omega⟩
    have hk : k < 16 := by omega
    have p16 : 2 ^ k < 65536 := Nat.lt_of_lt_of_le (Nat.pow_lt_pow_right (by omega) hk) (by decide)
    rw [f_X0_search_b51_s]
    unfold g_X0_search_b51
    have cnd : ((nI Y &&& (nI T ^^^ (-1))) &&& ((1 : Int32) <<< (nI k &&& 31)) = 0) ↔ ¬ (Y.testBit k = true ∧ T.testBit k = false) := by
      rw [one_shl k (by omega)]
      constructor
      · rintro h ⟨q1, q2⟩
        have h1 := congrArg (fun x => bt x k) h
        simp only [b_and, b_xor, bt_n _ (show k < 32 by omega), b_0, b_m1 k (by omega), q1, q2, Nat.testBit_two_pow] at h1
        simp at h1
      · intro h
        apply b_ext
        intro i hi
        rw [b_and, b_and, b_xor, b_m1 i hi, bt_n _ hi, bt_n _ hi, bt_n _ hi, b_0, Nat.testBit_two_pow]
        by_cases q : k = i
        · subst q
          cases q1 : Y.testBit k <;> cases q2 : T.testBit k <;> simp_all
        · simp [q]
    rw [if_neg (fun q => absurd ((nI_leC (k := 16) (a := 16) rfl (by omega) (by omega)).mp q) (by omega)), nI_1]
    by_cases w : Y.testBit k = true ∧ T.testBit k = false
    · rw [if_neg (fun z => cnd.mp z w), one_shl k (by omega), nx_or, nx_or, nI_m1 hm]
      obtain ⟨y1, y2⟩ := hYu k w.1
      unfold usS at y2
      rw [Bool.and_eq_true] at y2
      have yb : b.testBit k = false := by simpa using y2.1
      have ys : S.testBit k = false := by simpa using y2.2
      have ok : OKS n b (S ||| 2 ^ k) := by
        refine ⟨Nat.or_lt_two_pow hS.1 (Nat.pow_lt_pow_right (by omega) y1), fun r hr z => ?_⟩
        rw [Nat.testBit_or, Nat.testBit_two_pow, Bool.or_eq_true] at z
        rcases z with z | z
        · exact hS.2 r hr z
        · have : k = r := of_decide_eq_true z
          subst this; exact yb
      have cc : c (S ||| 2 ^ k) = c S + 1 := by rw [hc, hc, pcn_or ys, if_pos hk]
      obtain ⟨F2, x2, y2, q1, q2, q3, q4, q5⟩ := hself (S ||| 2 ^ k) T F x y ok (by omega) h3 h4 h5
      rw [q1, bd_of rfl]
      obtain ⟨F', x', y', p1, p2, p3, p4, p5⟩ := ih (k + 1) m (T ||| 2 ^ k) F2 x2 y2 (by omega) (by omega) (Nat.or_lt_two_pow (n := 16) h3 p16) q2 q3
      refine ⟨F', x', y', p1, p2, p3, bet_tr p4 q4, fun B hB h6 h7 ⟨r, r1, r2, r3, r4⟩ => ?_⟩
      cases hBk : B.testBit k
      · refine p5 B hB h6 (fun r' z => ?_) ⟨r, ?_, r2, r3, r4⟩
        · rw [Nat.testBit_or, Nat.testBit_two_pow, Bool.or_eq_true] at z
          rcases z with z | z
          · exact h7 r' z
          · have : k = r' := of_decide_eq_true z
            subst this; exact hBk
        · by_cases z : r = k
          · subst z; rw [hBk] at r4; cases r4
          · omega
      · refine bet_tr p4 (q5 B hB (fun r' z => ?_) h7)
        rw [Nat.testBit_or, Nat.testBit_two_pow, Bool.or_eq_true] at z
        rcases z with z | z
        · exact h6 r' z
        · have : k = r' := of_decide_eq_true z
          subst this; exact hBk
    · rw [if_pos (cnd.mpr w)]
      obtain ⟨F', x', y', p1, p2, p3, p4, p5⟩ := ih (k + 1) m T F x y (by omega) (by omega) h3 h4 h5
      refine ⟨F', x', y', p1, p2, p3, p4, fun B hB h6 h7 ⟨r, r1, r2, r3, r4⟩ => p5 B hB h6 h7 ⟨r, ?_, r2, r3, r4⟩⟩
      by_cases z : r = k
      · subst z
        exfalso
        apply w
        refine ⟨r3, ?_⟩
        cases hT : T.testBit r
        · rfl
        · have := h7 r hT
          rw [r4] at this; cases this
      · omega
end PSE
