/-! ===== roads, posts, haunts: what is added and set ===== -/
section PS
def FRd (g g' : Nat → Int32) : Prop := ∀ i, i ≠ 2 → ¬ (85 ≤ i ∧ i < 149) → g' i = g i
def FPo (g g' : Nat → Int32) : Prop := ∀ i, i ≠ 3 → ¬ (149 ≤ i ∧ i < 154) → g' i = g i
def FHa (g g' : Nat → Int32) : Prop := ∀ i, i ≠ 4 → ¬ (154 ≤ i) → g' i = g i
variable {n : Nat} {bar : Int32} {fr to len ev pl we g : Nat → Int32}
theorem place_eq (p : Int32) : f_X11_isPlace p = f_X10_isPlace p := rfl
theorem place_cases (p : Int32) : (f_X10_isPlace p = 1 ∧ ∃ i, i < 10 ∧ p = nI i) ∨ f_X10_isPlace p = 0 := by
  unfold f_X10_isPlace
  rcases from_cases p 0 9 with ⟨h, h1, h2⟩ | ⟨h, -⟩
  · left
    have l9 : (9 : Int32).toInt = 9 := rfl
    rw [i0] at h1
    exact ⟨h, nI_of_toInt h1 (by omega)⟩
  · exact Or.inr h
theorem from_nat (p : Int32) (lo hi : Nat) (h9 : hi < 2 ^ 31) (hl : lo ≤ hi) : (f_X10_isFrom p (nI lo) (nI hi) = 1 ∧ ∃ i, lo ≤ i ∧ i ≤ hi ∧ p = nI i) ∨ f_X10_isFrom p (nI lo) (nI hi) = 0 := by
  rcases from_cases p (nI lo) (nI hi) with ⟨h, h1, h2⟩ | ⟨h, -⟩
  · left
    rw [nI_toInt (by omega)] at h1 h2
    obtain ⟨i, hi1, rfl⟩ := nI_of_toInt (x := p) (n := hi + 1) (by omega) (by omega)
    rw [nI_toInt (by omega)] at h1
    exact ⟨h, i, by omega, by omega, rfl⟩
  · exact Or.inr h
theorem po_road (hR : RR n bar fr to len g) (p1 p2 p3 : Int32) :
    ∃ (r : Int32) (n' : Nat) (fr' to' len' g' : Nat → Int32), f_X10_road (nI n) fr to len p1 p2 p3 = some (r, nI n', fr', to', len') ∧ f_X11_road g p1 p2 p3 = some (r, g') ∧ RR n' bar fr' to' len' g' ∧ FRd g g' := by
  obtain ⟨a, b, c, ⟨m, d1, d2, d3, d4⟩, e⟩ := id hR
  have bad : ∃ (r : Int32) (n' : Nat) (fr' to' len' g' : Nat → Int32), (some ((-1000000002), nI n, fr, to, len) : Option (Int32 × Int32 × (Nat → Int32) × (Nat → Int32) × (Nat → Int32))) = some (r, nI n', fr', to', len') ∧ (some ((-1000000002), g) : Option (Int32 × (Nat → Int32))) = some (r, g') ∧ RR n' bar fr' to' len' g' ∧ FRd g g' := ⟨_, _, _, _, _, _, rfl, rfl, hR, fun _ _ _ => rfl⟩
  unfold f_X10_road f_X10_road_b23 f_X10_road_b24 f_X11_road
  simp only [within_eq, place_eq, b]
  rcases place_cases p1 with ⟨h1, i1, k1, rfl⟩ | h1
  rotate_left
  · simp only [h1, if_true, if_false, ite_self, eq_self]; exact bad
  rcases place_cases p2 with ⟨h2, i2, k2, rfl⟩ | h2
  rotate_left
  · simp only [h1, h2, i10f, if_true, if_false, ite_self, eq_self]; exact bad
  by_cases h12 : nI i1 = nI i2
  · simp only [h1, h2, h12, i10f, if_true, if_false, ite_self, eq_self]; exact bad
  rcases from_nat p3 1 100 (by omega) (by omega) with ⟨h3, w, w1, w2, rfl⟩ | h3
  rotate_left
  · have h3' : f_X10_isFrom p3 1 100 = 0 := h3
    simp only [h1, h2, h12, h3', i10f, if_true, if_false, ite_self, eq_self]; exact bad
  have h3' : f_X10_isFrom (nI w) 1 100 = 1 := h3
  simp only [h1, h2, h12, h3', i10f, if_true, if_false, ite_self, eq_self]
  by_cases hn : n = 16
  · subst hn
    have e1 : ¬ nI 16 < (16 : Int32) := by decide
    have e2 : nI 16 = (16 : Int32) := rfl
    simp only [e1, e2, if_true, if_false]; exact bad
  · have hn' : n < 16 := by omega
    have e1 : nI n < (16 : Int32) := by rw [nI_ltC (k := 16) (a := 16) rfl (by omega) (by omega)]; exact hn'
    have e2 : ¬ nI n = (16 : Int32) := by
      intro q
      rw [show (16 : Int32) = nI 16 from rfl, nI_eq (by omega) (by omega)] at q
      omega
    simp only [e1, e2, if_true, if_false]
    unfold f_X5_add
    simp only [gI_n hn' (by decide), cl_n (show n < 2 ^ 31 by omega), gI_85 (show 85 + n < 194 by omega), cl_85 (show n < 1000 by omega), gI_101 (show 101 + n < 194 by omega), cl_101 (show n < 1000 by omega), gI_117 (show 117 + n < 194 by omega), cl_117 (show n < 1000 by omega), gI_133 (show 133 + n < 194 by omega), cl_133 (show n < 1000 by omega), bd_s]
    have z2 : upd (upd (upd (upd g (85 + n) (nI i1)) (101 + n) (nI i2)) (117 + n) (nI w)) (133 + n) 0 2 = nI n := by
      rw [upd_n (by omega), upd_n (by omega), upd_n (by omega), upd_n (by omega)]; exact b
    rw [z2, nI_1]
    refine ⟨_, n + 1, _, _, _, _, rfl, rfl, ⟨by omega, upd_s, fun r hr => ?_, ⟨m, d1, d2, fun r hr => ?_, fun r hr => d4 r (by omega)⟩, fun r hr => ?_⟩, fun i h1 h2 => ?_⟩
    · by_cases q : r = n
      · subst q
        refine ⟨upd_s.trans ?_, upd_s.trans ?_, upd_s.trans ?_⟩
        · rw [upd_n (by omega), upd_n (by omega), upd_n (by omega), upd_n (by omega), upd_s]
        · rw [upd_n (by omega), upd_n (by omega), upd_n (by omega), upd_s]
        · rw [upd_n (by omega), upd_n (by omega), upd_s]
      · obtain ⟨c1, c2, c3⟩ := c r hr
        refine ⟨(upd_n q).trans (c1.trans ?_), (upd_n q).trans (c2.trans ?_), (upd_n q).trans (c3.trans ?_)⟩
        · rw [upd_n (by omega), upd_n (by omega), upd_n (by omega), upd_n (by omega), upd_n (by omega)]
        · rw [upd_n (by omega), upd_n (by omega), upd_n (by omega), upd_n (by omega), upd_n (by omega)]
        · rw [upd_n (by omega), upd_n (by omega), upd_n (by omega), upd_n (by omega), upd_n (by omega)]
    · by_cases q : r = n
      · subst q
        rw [upd_n (by omega), upd_s]
        unfold bitI
        rw [d4 r (Nat.le_refl _)]
        rfl
      · rw [upd_n (by omega), upd_n (by omega), upd_n (by omega), upd_n (by omega), upd_n (by omega)]
        exact d3 r hr
    · by_cases q : r = n
      · subst q
        refine ⟨⟨i1, k1, ?_⟩, ⟨i2, k2, ?_⟩, ⟨w, w1, w2, ?_⟩⟩
        · rw [upd_n (by omega), upd_n (by omega), upd_n (by omega), upd_n (by omega), upd_s]
        · rw [upd_n (by omega), upd_n (by omega), upd_n (by omega), upd_s]
        · rw [upd_n (by omega), upd_n (by omega), upd_s]
      · have e0 := e r (by omega)
        rw [upd_n (show 85 + r ≠ 2 by omega), upd_n (show 85 + r ≠ 133 + n by omega), upd_n (show 85 + r ≠ 117 + n by omega), upd_n (show 85 + r ≠ 101 + n by omega), upd_n (show 85 + r ≠ 85 + n by omega),
          upd_n (show 101 + r ≠ 2 by omega), upd_n (show 101 + r ≠ 133 + n by omega), upd_n (show 101 + r ≠ 117 + n by omega), upd_n (show 101 + r ≠ 101 + n by omega), upd_n (show 101 + r ≠ 85 + n by omega),
          upd_n (show 117 + r ≠ 2 by omega), upd_n (show 117 + r ≠ 133 + n by omega), upd_n (show 117 + r ≠ 117 + n by omega), upd_n (show 117 + r ≠ 101 + n by omega), upd_n (show 117 + r ≠ 85 + n by omega)]
        exact e0
    · rw [upd_n h1, upd_n (by omega), upd_n (by omega), upd_n (by omega), upd_n (by omega)]
theorem RR_bar {r b' : Nat} {v : Int32} (hr : r < n) (hR : RR n bar fr to len g) (hb : b' < 65536) (hv : v = bitI b' r) (ho : ∀ k, k ≠ r → ∀ b, bar = nI b → b < 65536 → b'.testBit k = b.testBit k) : RR n (nI b') fr to len (upd g (133 + r) v) := by
  obtain ⟨a, b, c, ⟨m, d1, d2, d3, d4⟩, e⟩ := hR
  refine ⟨a, (upd_n (by omega)).trans b, fun k hk => ?_, ⟨b', hb, rfl, fun k hk => ?_, fun k hk => ?_⟩, fun k hk => ?_⟩
  · rw [upd_n (by omega), upd_n (by omega), upd_n (by omega)]; exact c k hk
  · by_cases q : k = r
    · subst q; rw [upd_s, hv]
    · rw [upd_n (by omega), d3 k hk]
      unfold bitI
      rw [ho k q m d2 d1]
  · rw [ho k (by omega) m d2 d1]; exact d4 k hk
  · rw [upd_n (by omega), upd_n (by omega), upd_n (by omega)]; exact e k hk
theorem po_bar (hR : RR n bar fr to len g) (p1 p2 : Int32) :
    ∃ (r : Int32) (bar' : Int32) (g' : Nat → Int32), f_X10_bar (nI n) bar p1 p2 = (r, bar') ∧ f_X11_bar g p1 p2 = some (r, g') ∧ RR n bar' fr to len g' ∧ FRd g g' := by
  obtain ⟨a, b, c, ⟨m, d1, d2, d3, d4⟩, e⟩ := id hR
  unfold f_X10_bar f_X11_bar
  rw [within_eq, b]
  rcases has_cases p1 (n := n) (by omega) with ⟨h, j, hj, rfl⟩ | h
  · rw [h, if_neg i10ne, if_neg i10ne, gI_133 (by omega), gI_133 (by omega), gI_133 (by omega), cl_133 (by omega), d3 j (by omega), d2]
    unfold f_X10_bar_b45
    have ob : ∀ {b1 b2 : Nat}, b1 < 65536 → b2 < 65536 → nI b1 = nI b2 → b1 = b2 := fun h1 h2 q => (nI_eq (by omega) (by omega)).mp q
    have s1 : RR n (nI (m ||| 2 ^ j)) fr to len (upd g (133 + j) 1) := by
      refine RR_bar hj hR ?_ ?_ ?_
      · exact Nat.or_lt_two_pow (n := 16) d1 (Nat.pow_lt_pow_right (by omega) (by omega))
      · unfold bitI; rw [Nat.testBit_or, Nat.testBit_two_pow]; simp
      · intro k hk b2 q1 q2
        rw [d2] at q1
        rw [← ob d1 q2 q1, Nat.testBit_or, Nat.testBit_two_pow]
        simp [Ne.symm hk]
    have s0 : RR n (nI (m ^^^ (m &&& 2 ^ j))) fr to len (upd g (133 + j) 0) := by
      refine RR_bar hj hR ?_ ?_ ?_
      · exact Nat.xor_lt_two_pow (n := 16) d1 (Nat.lt_of_le_of_lt Nat.and_le_left d1)
      · unfold bitI; rw [Nat.testBit_xor, Nat.testBit_and, Nat.testBit_two_pow]; simp
      · intro k hk b2 q1 q2
        rw [d2] at q1
        rw [← ob d1 q2 q1, Nat.testBit_xor, Nat.testBit_and, Nat.testBit_two_pow]
        simp [Ne.symm hk]
    have f1 : ∀ v : Int32, FRd g (upd g (133 + j) v) := fun v i h1 h2 => upd_n (by omega)
    have eb : ∀ k0 : Int32, (if p2 = 0 then (k0, nI m &&& ((1 : Int32) <<< (nI j &&& 31) ^^^ (-1))) else (k0, nI m ||| (1 : Int32) <<< (nI j &&& 31))) = (k0, if p2 = 0 then nI (m ^^^ (m &&& 2 ^ j)) else nI (m ||| 2 ^ j)) := by
      intro k0
      by_cases q : p2 = 0
      · rw [if_pos q, if_pos q, clr_bit (by omega)]
      · rw [if_neg q, if_neg q, one_shl j (by omega), nx_or]
    have fin : ∃ (r : Int32) (bar' : Int32) (g' : Nat → Int32), (bitI m j, if p2 = 0 then nI (m ^^^ (m &&& 2 ^ j)) else nI (m ||| 2 ^ j)) = (r, bar') ∧ (if p2 = 0 then some (bitI m j, upd g (133 + j) 0) else some (bitI m j, upd g (133 + j) 1)) = some (r, g') ∧ RR n bar' fr to len g' ∧ FRd g g' := by
      by_cases q : p2 = 0
      · rw [if_pos q, if_pos q]; exact ⟨_, _, _, rfl, rfl, s0, f1 0⟩
      · rw [if_neg q, if_neg q]; exact ⟨_, _, _, rfl, rfl, s1, f1 1⟩
    rw [eb, eb]
    cases hb : m.testBit j
    · rw [if_pos ((and_bit0 (by omega)).mpr hb)]
      have : bitI m j = 0 := by unfold bitI; rw [hb]; rfl
      rw [this] at fin ⊢; exact fin
    · rw [if_neg (fun q => by rw [(and_bit0 (by omega)).mp q] at hb; cases hb)]
      have : bitI m j = 1 := by unfold bitI; rw [hb]; rfl
      rw [this] at fin ⊢; exact fin
  · rw [h, if_pos rfl, if_pos rfl]
    exact ⟨_, _, _, rfl, rfl, hR, fun _ _ _ => rfl⟩
theorem po_post (hR : PR n ev g) (p1 : Int32) :
    ∃ (r : Int32) (n' : Nat) (ev' g' : Nat → Int32), f_X10_post (nI n) ev p1 = some (r, nI n', ev') ∧ f_X11_post g p1 = some (r, g') ∧ PR n' ev' g' ∧ FPo g g' := by
  obtain ⟨a, b, c, e⟩ := id hR
  unfold f_X10_post f_X11_post
  simp only [within_eq, b]
  rcases from_nat p1 1 8 (by omega) (by omega) with ⟨h, w, w1, w2, rfl⟩ | h
  · have h' : f_X10_isFrom (nI w) 1 8 = 1 := h
    simp only [h', i10f, if_false]
    by_cases hn : n = 5
    · subst hn
      have e1 : ¬ nI 5 < (5 : Int32) := by decide
      have e2 : nI 5 = (5 : Int32) := rfl
      simp only [e1, e2, if_true, if_false]
      exact ⟨_, 5, _, _, rfl, rfl, hR, fun _ _ _ => rfl⟩
    · have e1 : nI n < (5 : Int32) := by rw [nI_ltC (k := 5) (a := 5) rfl (by omega) (by omega)]; omega
      have e2 : ¬ nI n = (5 : Int32) := by
        intro q
        rw [show (5 : Int32) = nI 5 from rfl, nI_eq (by omega) (by omega)] at q
        omega
      simp only [e1, e2, if_true, if_false]
      unfold f_X4_add
      rw [gI_n (show n < 5 by omega) (by decide), cl_n (by omega), bd_s, gI_149 (by omega), cl_149 (by omega), upd_n (show (3 : Nat) ≠ 149 + n by omega), b, nI_1]
      refine ⟨nI n, n + 1, upd ev n (nI w), _, rfl, rfl, ⟨by omega, upd_s, fun p hp => ?_, fun p hp => ?_⟩, fun i h1 h2 => ?_⟩
      · by_cases q : p = n
        · subst q; rw [upd_s, upd_n (by omega), upd_s]
        · rw [upd_n q, upd_n (by omega), upd_n (by omega)]; exact c p hp
      · by_cases q : p = n
        · subst q; exact ⟨w, w1, w2, by rw [upd_n (by omega), upd_s]⟩
        · rw [upd_n (by omega), upd_n (by omega)]; exact e p (by omega)
      · rw [upd_n h1, upd_n (by omega)]
  · have h' : f_X10_isFrom p1 1 8 = 0 := h
    simp only [h', if_true]
    exact ⟨_, n, _, _, rfl, rfl, hR, fun _ _ _ => rfl⟩
theorem po_every (hR : PR n ev g) (p1 p2 : Int32) :
    ∃ (r : Int32) (ev' g' : Nat → Int32), f_X10_every (nI n) ev p1 p2 = some (r, ev') ∧ f_X11_every g p1 p2 = some (r, g') ∧ PR n ev' g' ∧ FPo g g' := by
  obtain ⟨a, b, c, e⟩ := id hR
  unfold f_X10_every f_X11_every
  simp only [within_eq, b]
  rcases has_cases p1 (n := n) (by omega) with ⟨h, j, hj, rfl⟩ | h
  · rw [h, if_neg i10ne, if_neg i10ne]
    rcases from_nat p2 1 8 (by omega) (by omega) with ⟨h2, w, w1, w2, rfl⟩ | h2
    · have h' : f_X10_isFrom (nI w) 1 8 = 1 := h2
      simp only [h', i10f, if_false, gI_n (show j < 5 by omega) (by decide), gI_149 (show 149 + j < 194 by omega), cl_n (show j < 2 ^ 31 by omega), cl_149 (show j < 1000 by omega), c j (by omega)]
      refine ⟨_, _, _, rfl, rfl, ⟨a, (upd_n (by omega)).trans b, fun p hp => ?_, fun p hp => ?_⟩, fun i h1 h2 => upd_n (by omega)⟩
      · by_cases q : p = j
        · subst q; rw [upd_s, upd_s]
        · rw [upd_n q, upd_n (by omega)]; exact c p hp
      · by_cases q : p = j
        · subst q; exact ⟨w, w1, w2, upd_s⟩
        · rw [upd_n (by omega)]; exact e p hp
    · have h' : f_X10_isFrom p2 1 8 = 0 := h2
      simp only [h', if_true]
      exact ⟨_, _, _, rfl, rfl, hR, fun _ _ _ => rfl⟩
  · rw [h, if_pos rfl, if_pos rfl]
    exact ⟨_, _, _, rfl, rfl, hR, fun _ _ _ => rfl⟩
theorem po_haunt (hR : HR n pl we g) (p1 p2 : Int32) :
    ∃ (r : Int32) (n' : Nat) (pl' we' g' : Nat → Int32), f_X10_haunt (nI n) pl we p1 p2 = some (r, nI n', pl', we') ∧ f_X11_haunt g p1 p2 = some (r, g') ∧ HR n' pl' we' g' ∧ FHa g g' := by
  obtain ⟨a, b, c, e⟩ := id hR
  have bad : ∃ (r : Int32) (n' : Nat) (pl' we' g' : Nat → Int32), (some ((-1000000002), nI n, pl, we) : Option (Int32 × Int32 × (Nat → Int32) × (Nat → Int32))) = some (r, nI n', pl', we') ∧ (some ((-1000000002), g) : Option (Int32 × (Nat → Int32))) = some (r, g') ∧ HR n' pl' we' g' ∧ FHa g g' := ⟨_, _, _, _, _, rfl, rfl, hR, fun _ _ _ => rfl⟩
  unfold f_X10_haunt f_X10_haunt_b26 f_X10_haunt_b27 f_X11_haunt
  simp only [within_eq, b]
  rcases from_nat p1 1 1023 (by omega) (by omega) with ⟨h1, x, x1, x2, rfl⟩ | h1
  rotate_left
  · have h1' : f_X10_isFrom p1 1 1023 = 0 := h1
    simp only [h1', if_true, if_false, ite_self, eq_self]; exact bad
  have h1' : f_X10_isFrom (nI x) 1 1023 = 1 := h1
  rcases from_nat p2 1 1000 (by omega) (by omega) with ⟨h2, w, w1, w2, rfl⟩ | h2
  rotate_left
  · have h2' : f_X10_isFrom p2 1 1000 = 0 := h2
    simp only [h1', h2', i10f, if_true, if_false, ite_self, eq_self]; exact bad
  have h2' : f_X10_isFrom (nI w) 1 1000 = 1 := h2
  simp only [h1', h2', i10f, if_true, if_false, ite_self, eq_self]
  by_cases hn : n = 20
  · subst hn
    have e1 : ¬ nI 20 < (20 : Int32) := by decide
    have e2 : nI 20 = (20 : Int32) := rfl
    simp only [e1, e2, if_true, if_false]; exact bad
  · have hn' : n < 20 := by omega
    have e1 : nI n < (20 : Int32) := by rw [nI_ltC (k := 20) (a := 20) rfl (by omega) (by omega)]; exact hn'
    have e2 : ¬ nI n = (20 : Int32) := by
      intro q
      rw [show (20 : Int32) = nI 20 from rfl, nI_eq (by omega) (by omega)] at q
      omega
    simp only [e1, e2, if_true, if_false]
    unfold f_X2_add
    simp only [gI_n hn' (by decide), cl_n (show n < 2 ^ 31 by omega), gI_154 (show 154 + n < 194 by omega), cl_154 (show n < 1000 by omega), gI_174 (show 174 + n < 194 by omega), cl_174 (show n < 1000 by omega), bd_s]
    have z4 : upd (upd g (154 + n) (nI x)) (174 + n) (nI w) 4 = nI n := by
      rw [upd_n (by omega), upd_n (by omega)]; exact b
    rw [z4, nI_1]
    refine ⟨_, n + 1, _, _, _, rfl, rfl, ⟨by omega, upd_s, fun h hh => ?_, fun h hh => ?_⟩, fun i h1 h2 => ?_⟩
    · by_cases q : h = n
      · subst q
        refine ⟨upd_s.trans ?_, upd_s.trans ?_⟩
        · rw [upd_n (by omega), upd_n (by omega), upd_s]
        · rw [upd_n (by omega), upd_s]
      · obtain ⟨c1, c2⟩ := c h hh
        refine ⟨(upd_n q).trans (c1.trans ?_), (upd_n q).trans (c2.trans ?_)⟩
        · rw [upd_n (by omega), upd_n (by omega), upd_n (by omega)]
        · rw [upd_n (by omega), upd_n (by omega), upd_n (by omega)]
    · by_cases q : h = n
      · subst q
        refine ⟨⟨x, x1, x2, ?_⟩, ⟨w, w1, w2, ?_⟩⟩
        · rw [upd_n (by omega), upd_n (by omega), upd_s]
        · rw [upd_n (by omega), upd_s]
      · have e0 := e h (by omega)
        rw [upd_n (show 154 + h ≠ 4 by omega), upd_n (show 154 + h ≠ 174 + n by omega), upd_n (show 154 + h ≠ 154 + n by omega), upd_n (show 174 + h ≠ 4 by omega), upd_n (show 174 + h ≠ 174 + n by omega), upd_n (show 174 + h ≠ 154 + n by omega)]
        exact e0
    · rw [upd_n h1, upd_n (by omega), upd_n (by omega)]
end PS
