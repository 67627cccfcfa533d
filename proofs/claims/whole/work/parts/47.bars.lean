/-! ===== bars: the reference ===== -/
section PBA
variable {n : Nat} {fr to len g : Nat → Int32}
def OKS (n b S : Nat) : Prop := S < 2 ^ n ∧ ∀ r, r < n → S.testBit r = true → b.testBit r = false
theorem ib_go (N : Nat) {b S : Nat} (hn : n ≤ 16) (hg2 : g 2 = nI n) (hb : ∀ r, r < 16 → g (133 + r) = bitI b r) : ∀ (d k m : Nat) (v : Int32), k + d = n → d < m → ((v = 0 ∧ ∀ r, r < k → S.testBit r = true → b.testBit r = false) ∨ (v = 1 ∧ ¬ ∀ r, r < n → S.testBit r = true → b.testBit r = false)) →
    ∃ v', f_X11_isBarred_b4 N g (nI S) m v (nI k) = some v' ∧ ((v' = 0 ∧ ∀ r, r < n → S.testBit r = true → b.testBit r = false) ∨ (v' = 1 ∧ ¬ ∀ r, r < n → S.testBit r = true → b.testBit r = false)) := by
  intro d
  induction d with
  | zero =>
    intro k m v h1 h2 hv
    obtain ⟨m, rfl⟩ : ∃ z, m = z + 1 := ⟨m - 1, by omega⟩
    rw [f_X11_isBarred_b4_s]
    unfold g_X11_isBarred_b4
    have hk : k = n := by omega
    subst hk
    rw [hg2, if_pos ((nI_leI (by omega) (by omega)).mpr (by omega)), gB_of (by rcases hv with ⟨q, -⟩ | ⟨q, -⟩ <;> simp [q])]
    exact ⟨v, rfl, hv⟩
  | succ d ih =>
    intro k m v h1 h2 hv
    obtain ⟨m, rfl⟩ : ∃ z, m = z + 1 := ⟨m - 1, by omega⟩
    rw [f_X11_isBarred_b4_s]
    unfold g_X11_isBarred_b4 f_X11_isBarred_b41
    rw [hg2, if_neg (fun q => absurd ((nI_leI (by omega) (by omega)).mp q) (by omega)), bit01 _ (show k < 32 by omega), bt_n _ (show k < 32 by omega), gI_133 (by omega), cl_133 (by omega), hb k (by omega), nI_1]
    unfold bitI
    rcases hv with ⟨rfl, hv⟩ | ⟨rfl, hv⟩
    · rw [if_pos rfl]
      by_cases w1 : S.testBit k = true
      · rw [if_pos w1, if_pos rfl]
        by_cases w2 : b.testBit k = true
        · rw [if_pos w2, if_pos rfl]
          refine ih (k + 1) m 1 (by omega) (by omega) (Or.inr ⟨rfl, fun z => ?_⟩)
          have := z k (by omega) w1
          rw [w2] at this; cases this
        · rw [if_neg w2, if_neg (by decide)]
          refine ih (k + 1) m 0 (by omega) (by omega) (Or.inl ⟨rfl, fun r hr z => ?_⟩)
          by_cases q : r = k
          · subst q; simpa using w2
          · exact hv r (by omega) z
      · rw [if_neg w1, if_neg (by decide)]
        refine ih (k + 1) m 0 (by omega) (by omega) (Or.inl ⟨rfl, fun r hr z => ?_⟩)
        by_cases q : r = k
        · subst q; exact absurd z w1
        · exact hv r (by omega) z
    · rw [if_neg (by decide)]
      exact ih (k + 1) m 1 (by omega) (by omega) (Or.inr ⟨rfl, hv⟩)
theorem many16 {N : Nat} (hN : 100 ≤ N) {b : Nat} (hb : b < 65536) : f_X11_many N (nI b) = some (nI (pcn b 16)) := by
  unfold f_X11_many
  rw [← pcn_hi (fun r hr => tb_lt (n := 16) hb hr) 4]
  exact many_go N b 20 0 N (by omega) (by omega)
theorem pc0 {r : Nat} (h : r < 65536) (h0 : pcn r 16 = 0) : r = 0 := by
  apply Nat.eq_of_testBit_eq
  intro i
  rw [Nat.zero_testBit]
  rcases Nat.lt_or_ge i 16 with hi | hi
  · have mono : ∀ k, i < k → pcn r k = 0 → r.testBit i = false := by
      intro k
      induction k with
      | zero => intro z; omega
      | succ k ih =>
        intro z q
        have q : pcn r k + (r.testBit k).toNat = 0 := q
        by_cases c : i = k
        · subst c
          cases hh : r.testBit i
          · rfl
          · rw [hh] at q; simp at q
        · exact ih (by omega) (by omega)
    exact mono 16 hi h0
  · exact tb_lt (n := 16) h hi
theorem barsin {N : Nat} (hN : 100 ≤ N) (hR : RNZ n fr to len) {b : Nat} (hg2 : g 2 = nI n) (hg : ∀ r, r < 16 → fr r = g (85 + r) ∧ to r = g (101 + r) ∧ len r = g (117 + r)) (hb : ∀ r, r < 16 → g (133 + r) = bitI b r) {s e L j : Nat} (hs : s < 10) (he : e < 10) {W c : Nat → Nat} (hW : ∀ S, W S = dsZ n (usS b S) fr to len s e) (hc : ∀ S, c S = pcn S 16) (kk : (Nat → Int32) → Int32 → Int32 → Int32 → Option (Int32 × (Nat → Int32))) (hj : j ≤ 16) :
    ∀ (d k m z : Nat) (x : Nat → Int32), k + d = 2 ^ n → d < m → OKS n b z → (c z < j ∨ (c z = j ∧ z < k)) → (∀ r, OKS n b r → (c r < j ∨ (c r = j ∧ r < k)) → bet W c z r) →
      ∃ t x', OKS n b t ∧ c t ≤ j ∧ (∀ r, OKS n b r → c r ≤ j → bet W c t r) ∧ f_X11_bars_b50 N g kk (nI s) (nI e) (nI L) (nI j) m x (nI z) (nI (W z)) (nI k) = kk x' (nI t) (nI (W t)) (nI (j + 1)) := by
  have hn := hR.1
  have hp : 2 ^ n ≤ 65536 := Nat.le_trans (Nat.pow_le_pow_right (by omega) hn) (by decide)
  have hB : ∀ S, W S ≤ 1000000 := fun S => by rw [hW]; exact ds_le _ _ _
  have hC : ∀ S, c S ≤ 16 := fun S => by rw [hc]; exact pcn_le S 16
  intro d
  induction d with
  | zero =>
    intro k m z x h1 h2 h4 h5 h6
    obtain ⟨m, rfl⟩ : ∃ z, m = z + 1 := ⟨m - 1, by omega⟩
    rw [f_X11_bars_b50_s]
    unfold g_X11_bars_b50
    rw [hg2, one_shl n (by omega), if_pos ((nI_leI (by omega) (by omega)).mpr (by omega)), nI_1]
    exact ⟨z, x, h4, by omega, fun r hr hr2 => h6 r hr (by have := hr.1; omega), rfl⟩
  | succ d ih =>
    intro k m z x h1 h2 h4 h5 h6
    obtain ⟨m, rfl⟩ : ∃ z, m = z + 1 := ⟨m - 1, by omega⟩
    rw [f_X11_bars_b50_s]
    unfold g_X11_bars_b50
    have hk : k < 2 ^ n := by omega
    have hCk := hC k
    have hBk := hB k
    have hBz := hB z
    rw [hg2, one_shl n (by omega), if_neg (fun q => absurd ((nI_leI (by omega) (by omega)).mp q) (by omega)), many16 hN (by omega), bd_of rfl, ← hc k, nI_1]
    by_cases q : c k = j
    · rw [if_pos (by rw [q])]
      unfold f_X11_isBarred
      obtain ⟨v, v1, v2⟩ := ib_go N (S := k) hn hg2 hb n 0 N 0 (by omega) (by omega) (Or.inl ⟨rfl, fun r hr => absurd hr (by omega)⟩)
      rw [show nI 0 = 0 from rfl] at v1
      rw [v1, bd_of rfl]
      rcases v2 with ⟨rfl, v2⟩ | ⟨rfl, v2⟩
      · obtain ⟨x', e1⟩ := short_eq (b := b) (S := k) hN hR hg2 hg hb hs he x
        rw [if_pos rfl, e1, bd_of rfl, ← hW k]
        have ok : OKS n b k := ⟨hk, v2⟩
        show ∃ t x'_1, OKS n b t ∧ c t ≤ j ∧ (∀ r, OKS n b r → c r ≤ j → bet W c t r) ∧ (if nI (W k) ≤ nI (W z) then f_X11_bars_b50 N g kk (nI s) (nI e) (nI L) (nI j) m x' (nI z) (nI (W z)) (nI (k + 1)) else f_X11_bars_b50 N g kk (nI s) (nI e) (nI L) (nI j) m x' (nI k) (nI (W k)) (nI (k + 1))) = _
        by_cases y : W k ≤ W z
        · rw [if_pos ((nI_leI (by omega) (by omega)).mpr y)]
          refine ih (k + 1) m z x' (by omega) (by omega) h4 (by omega) (fun r hr hr2 => ?_)
          by_cases y2 : r = k
          · subst y2; unfold bet; omega
          · exact h6 r hr (by omega)
        · rw [if_neg (fun w => y ((nI_leI (by omega) (by omega)).mp w))]
          refine ih (k + 1) m k x' (by omega) (by omega) ok (by omega) (fun r hr hr2 => ?_)
          by_cases y2 : r = k
          · subst y2; exact bet_rf W c r
          · have := h6 r hr (by omega)
            exact bet_tr (Or.inl (by omega)) this
      · rw [if_neg i10ne]
        refine ih (k + 1) m z x (by omega) (by omega) h4 (by omega) (fun r hr hr2 => ?_)
        by_cases y2 : r = k
        · subst y2; exact absurd hr.2 v2
        · exact h6 r hr (by omega)
    · rw [if_neg (fun y => q ((nI_eq (by omega) (by omega)).mp y))]
      refine ih (k + 1) m z x (by omega) (by omega) h4 (by omega) (fun r hr hr2 => ?_)
      by_cases y2 : r = k
      · subst y2; exact h6 r hr (by omega)
      · exact h6 r hr (by omega)
theorem barsgo {N : Nat} (hN : 100000 ≤ N) (hR : RNZ n fr to len) {b : Nat} (hg2 : g 2 = nI n) (hg : ∀ r, r < 16 → fr r = g (85 + r) ∧ to r = g (101 + r) ∧ len r = g (117 + r)) (hb : ∀ r, r < 16 → g (133 + r) = bitI b r) {s e L : Nat} (hs : s < 10) (he : e < 10) (hL : L ≤ 4) {W c : Nat → Nat} (hW : ∀ S, W S = dsZ n (usS b S) fr to len s e) (hc : ∀ S, c S = pcn S 16) :
    ∀ (d j m z : Nat) (x : Nat → Int32), j + d = L + 1 → d < m → 1 ≤ j → OKS n b z → c z < j → (∀ r, OKS n b r → c r < j → bet W c z r) → ∃ t x', OKS n b t ∧ c t ≤ L ∧ (∀ r, OKS n b r → c r ≤ L → bet W c t r) ∧ f_X11_bars_b41 N g (nI s) (nI e) (nI L) m x (nI z) (nI (W z)) (nI j) = some (nI t, x') := by
  have hn := hR.1
  have hp : 2 ^ n ≤ 65536 := Nat.le_trans (Nat.pow_le_pow_right (by omega) hn) (by decide)
  intro d
  induction d with
  | zero =>
    intro j m z x h1 h2 h3 h4 h5 h6
    obtain ⟨m, rfl⟩ : ∃ z, m = z + 1 := ⟨m - 1, by omega⟩
    rw [f_X11_bars_b41_s]
    unfold g_X11_bars_b41
    rw [if_pos ((nI_ltI (by omega) (by omega)).mpr (by omega))]
    exact ⟨z, x, h4, by omega, fun r hr hr2 => h6 r hr (by omega), rfl⟩
  | succ d ih =>
    intro j m z x h1 h2 h3 h4 h5 h6
    obtain ⟨m, rfl⟩ : ∃ z, m = z + 1 := ⟨m - 1, by omega⟩
    rw [f_X11_bars_b41_s]
    unfold g_X11_bars_b41
    rw [if_neg (fun y => absurd ((nI_ltI (by omega) (by omega)).mp y) (by omega))]
    have h2n : 1 ≤ 2 ^ n := Nat.one_le_two_pow
    obtain ⟨t, x', t1, t2, t3, t4⟩ := barsin (N := N) (L := L) (j := j) (by omega) hR hg2 hg hb hs he hW hc (fun x_far v4 v5 v6 => f_X11_bars_b41 N g (nI s) (nI e) (nI L) m x_far v4 v5 v6) (by omega) (2 ^ n - 1) 1 N z x (by omega) (by omega) h4 (by omega) (fun r hr hr2 => by
      rcases hr2 with y | ⟨y1, y2⟩
      · exact h6 r hr y
      · have : r = 0 := by omega
        subst this
        rw [hc 0, show pcn 0 16 = 0 from rfl] at y1
        omega)
    rw [show nI 1 = 1 from rfl] at t4
    rw [t4]
    exact ih (j + 1) m t x' (by omega) (by omega) (by omega) t1 (by omega) (fun r hr hr2 => t3 r hr (by omega))
end PBA
