/-! ===== the calls on targets ===== -/
section PT
variable {n u : Nat} {kind saved lost gain gap least most hand g : Nat → Int32}
theorem TR_u {u' : Nat} {g' : Nat → Int32} (hu : u' ≤ 10) (h0 : g' 0 = g 0) (h1 : g' 1 = nI u') (h : ∀ i, 5 ≤ i → i < 85 → g' i = g i) (hT : TR n u kind saved lost gain gap least most hand g) : TR n u' kind saved lost gain gap least most hand g' := by
  obtain ⟨a, b, c, d, e, f⟩ := hT
  refine ⟨a, hu, h0.trans c, h1, fun t ht => ?_, fun t ht => TOK_congr h (by omega) (f t ht)⟩
  rw [h (5 + t) (by omega) (by omega), h (15 + t) (by omega) (by omega), h (25 + t) (by omega) (by omega), h (35 + t) (by omega) (by omega), h (45 + t) (by omega) (by omega), h (55 + t) (by omega) (by omega), h (65 + t) (by omega) (by omega), h (75 + t) (by omega) (by omega)]
  exact e t ht
theorem po_guards (hT : TR n u kind saved lost gain gap least most hand g) (p1 : Int32) :
    ∃ (r : Int32) (u' : Nat) (g' : Nat → Int32), f_X10_guards (nI u) p1 = (r, nI u') ∧ f_X11_guards g p1 = some (r, g') ∧ TR n u' kind saved lost gain gap least most hand g' ∧ FT g g' := by
  obtain ⟨a, b, c, d, e, f⟩ := id hT
  unfold f_X10_guards f_X11_guards
  rw [within_eq]
  rcases from_cases p1 0 10 with ⟨h, h1, h2⟩ | ⟨h, -⟩
  · rw [h, if_neg i10ne, if_neg i10ne]
    have h10 : (10 : Int32).toInt = 10 := rfl
    rw [i0] at h1
    obtain ⟨j, hj, rfl⟩ := nI_of_toInt (x := p1) (n := 11) h1 (by omega)
    exact ⟨nI u, j, upd g 1 (nI j), rfl, by rw [d], TR_u (by omega) (upd_n (by omega)) upd_s (fun i h5 h6 => upd_n (by omega)) hT, fun i hi => upd_n (by omega)⟩
  · rw [h, if_pos rfl, if_pos rfl]
    exact ⟨_, u, g, rfl, rfl, hT, FT.rf⟩
theorem po_drop (hT : TR n u kind saved lost gain gap least most hand g) (fd : Int32) :
    ∃ (r fd' : Int32) (n' : Nat) (g' : Nat → Int32), f_X10_drop fd (nI n) = (r, fd', nI n') ∧ f_X11_drop fd g = some (r, fd', g') ∧ TR n' u kind saved lost gain gap least most hand g' ∧ FT g g' := by
  obtain ⟨a, b, c, d, e, f⟩ := id hT
  unfold f_X10_drop f_X11_drop f_X10_hostFinding f_X11_found
  rw [c]
  by_cases h : n = 0
  · subst h
    rw [if_neg (fun q => absurd ((nI_0lt (by omega)).mp q) (by omega)), if_pos (show nI 0 = 0 from rfl)]
    exact ⟨_, _, 0, g, rfl, rfl, hT, FT.rf⟩
  · rw [if_pos ((nI_0lt (by omega)).mpr (by omega)), if_neg (fun q => h ((nI_eq0 (by omega)).mp q)), nI_m1 (by omega)]
    refine ⟨nI (n - 1), fd, n - 1, upd g 0 (nI (n - 1)), rfl, by rw [upd_s], ⟨by omega, b, upd_s, (upd_n (by omega)).trans d, fun t ht => ?_, fun t ht => TOK_congr (fun i h5 h6 => upd_n (by omega)) (by omega) (f t (by omega))⟩, fun i hi => upd_n (by omega)⟩
    rw [upd_n (by omega), upd_n (by omega), upd_n (by omega), upd_n (by omega), upd_n (by omega), upd_n (by omega), upd_n (by omega), upd_n (by omega)]
    exact e t ht
theorem po_of (hT : TR n u kind saved lost gain gap least most hand g) (p1 p2 : Int32) :
    ∃ r : Int32, f_X10_of (nI n) kind saved lost gain gap least most hand p1 p2 = some r ∧ f_X11_of g p1 p2 = some r := by
  obtain ⟨a, b, c, d, e, f⟩ := id hT
  unfold f_X10_of f_X11_of f_X11_isTarget f_X8_has
  rw [bd_of rfl, within_eq, within_eq, c]
  rcases has_cases p1 (n := n) (by omega) with ⟨h, j, hj, rfl⟩ | h
  · rw [h, if_neg i10ne, if_neg i10ne]
    obtain ⟨e1, e2, e3, e4, e5, e6, e7, e8⟩ := e j (by omega)
    simp only [gI_n (show j < 10 by omega) (by decide), cl_n (show j < 2 ^ 31 by omega), e1, e2, e3, e4, e5, e6, e7, e8]
    rcases from_cases p2 0 7 with ⟨h7, q1, q2⟩ | ⟨h7, q1⟩
    · rw [h7, if_neg i10ne]
      have h77 : (7 : Int32).toInt = 7 := rfl
      rw [i0] at q1
      obtain ⟨w, hw, rfl⟩ := nI_of_toInt (x := p2) (n := 8) q1 (by omega)
      have ew : ((5 : Int32) + 10 * nI w) + nI j = nI (5 + 10 * w + j) := by
        rw [show (10 : Int32) = nI 10 from rfl, pk_mul, show (5 : Int32) = nI 5 from rfl, nI_add, nI_add]
      rw [ew, gI_n (by omega) (by decide), cl_n (by omega)]
      match w, hw with
      | 0, _ => exact ⟨g (5 + j), if_pos rfl, by rw [show 5 + 10 * 0 + j = 5 + j by omega]⟩
      | 1, _ => exact ⟨g (15 + j), by rw [if_neg (by decide), if_pos (show nI 1 = 1 from rfl)], by rw [show 5 + 10 * 1 + j = 15 + j by omega]⟩
      | 2, _ => exact ⟨g (25 + j), by rw [if_neg (by decide), if_neg (by decide), if_pos (show nI 2 = 2 from rfl)], by rw [show 5 + 10 * 2 + j = 25 + j by omega]⟩
      | 3, _ => exact ⟨g (35 + j), by rw [if_neg (by decide), if_neg (by decide), if_neg (by decide), if_pos (show nI 3 = 3 from rfl)], by rw [show 5 + 10 * 3 + j = 35 + j by omega]⟩
      | 4, _ => exact ⟨g (45 + j), by rw [if_neg (by decide), if_neg (by decide), if_neg (by decide), if_neg (by decide), if_pos (show nI 4 = 4 from rfl)], by rw [show 5 + 10 * 4 + j = 45 + j by omega]⟩
      | 5, _ => exact ⟨g (55 + j), by rw [if_neg (by decide), if_neg (by decide), if_neg (by decide), if_neg (by decide), if_neg (by decide), if_pos (show nI 5 = 5 from rfl)], by rw [show 5 + 10 * 5 + j = 55 + j by omega]⟩
      | 6, _ => exact ⟨g (65 + j), by rw [if_neg (by decide), if_neg (by decide), if_neg (by decide), if_neg (by decide), if_neg (by decide), if_neg (by decide), if_pos (show nI 6 = 6 from rfl)], by rw [show 5 + 10 * 6 + j = 65 + j by omega]⟩
      | 7, _ => exact ⟨g (75 + j), by rw [if_neg (by decide), if_neg (by decide), if_neg (by decide), if_neg (by decide), if_neg (by decide), if_neg (by decide), if_neg (by decide), if_pos (show nI 7 = 7 from rfl)], by rw [show 5 + 10 * 7 + j = 75 + j by omega]⟩
    · rw [h7, if_pos rfl]
      have h77 : (7 : Int32).toInt = 7 := rfl
      have nk : ∀ k : Nat, k < 8 → ¬ p2 = nI k := by
        intro k hk q
        rw [q, nI_toInt (by omega), i0] at q1
        omega
      exact ⟨_, by rw [if_neg (show ¬ p2 = 0 from nk 0 (by omega)), if_neg (show ¬ p2 = 1 from nk 1 (by omega)), if_neg (show ¬ p2 = 2 from nk 2 (by omega)), if_neg (show ¬ p2 = 3 from nk 3 (by omega)), if_neg (show ¬ p2 = 4 from nk 4 (by omega)), if_neg (show ¬ p2 = 5 from nk 5 (by omega)), if_neg (show ¬ p2 = 6 from nk 6 (by omega)), if_neg (show ¬ p2 = 7 from nk 7 (by omega))], rfl⟩
  · rw [h, if_pos rfl, if_pos rfl]
    exact ⟨_, rfl, rfl⟩
/-- one place of the hand changes -/
theorem TR_hand {j : Nat} {v : Int32} (hj : j < 10) (hv : j < n → 0 ≤ v.toInt ∧ v.toInt ≤ 60) (hT : TR n u kind saved lost gain gap least most hand g) : TR n u kind saved lost gain gap least most (upd hand j v) (upd g (75 + j) v) := by
  obtain ⟨a, b, c, d, e, f⟩ := hT
  refine ⟨a, b, (upd_n (by omega)).trans c, (upd_n (by omega)).trans d, fun t ht => ?_, fun t ht => ?_⟩
  · obtain ⟨e1, e2, e3, e4, e5, e6, e7, e8⟩ := e t ht
    refine ⟨e1.trans (upd_n (by omega)).symm, e2.trans (upd_n (by omega)).symm, e3.trans (upd_n (by omega)).symm, e4.trans (upd_n (by omega)).symm, e5.trans (upd_n (by omega)).symm, e6.trans (upd_n (by omega)).symm, e7.trans (upd_n (by omega)).symm, ?_⟩
    by_cases q : t = j
    · subst q; rw [upd_s, upd_s]
    · rw [upd_n q, upd_n (by omega)]; exact e8
  · have h := f t ht
    unfold TOK at h ⊢
    rw [upd_n (by omega), upd_n (by omega), upd_n (by omega), upd_n (by omega), upd_n (by omega), upd_n (by omega), upd_n (by omega)]
    obtain ⟨h1, h2, h3, h4, h5, h6, h7⟩ := h
    refine ⟨h1, h2, h3, h4, h5, h6, ?_⟩
    by_cases q : t = j
    · subst q; rw [upd_s]; exact hv ht
    · rw [upd_n (by omega)]; exact h7
theorem po_put (hT : TR n u kind saved lost gain gap least most hand g) (p1 p2 : Int32) :
    ∃ (r : Int32) (hand' g' : Nat → Int32), f_X10_put (nI n) least most hand p1 p2 = some (r, hand') ∧ f_X11_put g p1 p2 = some (r, g') ∧ TR n u kind saved lost gain gap least most hand' g' ∧ FT g g' := by
  obtain ⟨a, b, c, d, e, f⟩ := id hT
  unfold f_X10_put f_X11_put f_X11_isTarget f_X8_has
  rw [bd_of rfl, within_eq, c]
  rcases has_cases p1 (n := n) (by omega) with ⟨h, j, hj, rfl⟩ | h
  · rw [h, if_neg i10ne, if_neg i10ne]
    obtain ⟨e1, e2, e3, e4, e5, e6, e7, e8⟩ := e j (by omega)
    simp only [gI_n (show j < 10 by omega) (by decide), cl_n (show j < 2 ^ 31 by omega), gI_55 (show 55 + j < 194 by omega), gI_65 (show 65 + j < 194 by omega), gI_75 (show 75 + j < 194 by omega), cl_55 (show j < 1000 by omega), cl_65 (show j < 1000 by omega), cl_75 (show j < 1000 by omega), e6, e7, e8, within_eq]
    rcases from_cases p2 (g (55 + j)) (g (65 + j)) with ⟨h7, q1, q2⟩ | ⟨h7, -⟩
    · rw [h7, if_neg i10ne, if_neg i10ne]
      have ht := f j hj
      exact ⟨_, _, _, rfl, rfl, TR_hand (by omega) (fun _ => ⟨by have := ht.2.2.2.2.2.1.1; omega, by have := ht.2.2.2.2.2.1.2.2; omega⟩) hT, fun i hi => upd_n (by omega)⟩
    · rw [h7, if_pos rfl, if_pos rfl]
      exact ⟨_, _, _, rfl, rfl, hT, FT.rf⟩
  · rw [h, if_pos rfl, if_pos rfl]
    exact ⟨_, _, _, rfl, rfl, hT, FT.rf⟩
/-- least and most of one target change -/
theorem TR_bounds {j : Nat} {v w : Int32} (hj : j < 10) (hv : j < n → 0 ≤ v.toInt ∧ v.toInt ≤ w.toInt ∧ w.toInt ≤ 60) (hT : TR n u kind saved lost gain gap least most hand g) : TR n u kind saved lost gain gap (upd least j v) (upd most j w) hand (upd (upd g (55 + j) v) (65 + j) w) := by
  obtain ⟨a, b, c, d, e, f⟩ := hT
  have q : ∀ i, i ≠ 55 + j → i ≠ 65 + j → upd (upd g (55 + j) v) (65 + j) w i = g i := fun i h1 h2 => by rw [upd_n h2, upd_n h1]
  have q5 : upd (upd g (55 + j) v) (65 + j) w (55 + j) = v := by rw [upd_n (by omega), upd_s]
  have q6 : upd (upd g (55 + j) v) (65 + j) w (65 + j) = w := upd_s
  refine ⟨a, b, (q 0 (by omega) (by omega)).trans c, (q 1 (by omega) (by omega)).trans d, fun t ht => ?_, fun t ht => ?_⟩
  · obtain ⟨e1, e2, e3, e4, e5, e6, e7, e8⟩ := e t ht
    refine ⟨e1.trans (q _ (by omega) (by omega)).symm, e2.trans (q _ (by omega) (by omega)).symm, e3.trans (q _ (by omega) (by omega)).symm, e4.trans (q _ (by omega) (by omega)).symm, e5.trans (q _ (by omega) (by omega)).symm, ?_, ?_, e8.trans (q _ (by omega) (by omega)).symm⟩
    · by_cases z : t = j
      · subst z; rw [upd_s, q5]
      · rw [upd_n z, q _ (by omega) (by omega)]; exact e6
    · by_cases z : t = j
      · subst z; rw [upd_s, q6]
      · rw [upd_n z, q _ (by omega) (by omega)]; exact e7
  · have h := f t ht
    unfold TOK at h ⊢
    obtain ⟨h1, h2, h3, h4, h5, h6, h7⟩ := h
    rw [q (5 + t) (by omega) (by omega), q (15 + t) (by omega) (by omega), q (25 + t) (by omega) (by omega), q (35 + t) (by omega) (by omega), q (45 + t) (by omega) (by omega), q (75 + t) (by omega) (by omega)]
    refine ⟨h1, h2, h3, h4, h5, ?_, h7⟩
    by_cases z : t = j
    · subst z; rw [q5, q6]; exact hv ht
    · rw [q _ (by omega) (by omega), q _ (by omega) (by omega)]; exact h6
theorem po_bounds (hT : TR n u kind saved lost gain gap least most hand g) (fd p1 p2 p3 : Int32) :
    ∃ (r fd' : Int32) (least' most' g' : Nat → Int32), f_X10_bounds fd (nI n) kind least most p1 p2 p3 = some (r, fd', least', most') ∧ f_X11_bounds fd g p1 p2 p3 = some (r, fd', g') ∧ TR n u kind saved lost gain gap least' most' hand g' ∧ FT g g' := by
  obtain ⟨a, b, c, d, e, f⟩ := id hT
  unfold f_X10_bounds f_X11_bounds f_X11_isTarget f_X8_has
  rw [bd_of rfl, within_eq, within_eq, within_eq, c]
  rcases has_cases p1 (n := n) (by omega) with ⟨h, j, hj, rfl⟩ | h
  · rw [h, if_neg i10ne, if_neg i10ne]
    rcases from_cases p3 0 60 with ⟨h3, x1, x2⟩ | ⟨h3, -⟩
    · rw [h3, if_neg i10ne, if_neg i10ne]
      rcases from_cases p2 0 p3 with ⟨h2, y1, y2⟩ | ⟨h2, -⟩
      · rw [h2, if_neg i10ne, if_neg i10ne]
        have h60 : (60 : Int32).toInt = 60 := rfl
        rw [i0] at x1 y1
        obtain ⟨e1, e2, e3, e4, e5, e6, e7, e8⟩ := e j (by omega)
        unfold f_X10_bounds_b68 f_X10_bounds_b81 f_X11_bounds_b59 f_X11_bounds_b72 f_X10_hostFinding f_X11_found
        simp only [gI_n (show j < 10 by omega) (by decide), cl_n (show j < 2 ^ 31 by omega), gI_5 (show 5 + j < 194 by omega), cl_5 (show j < 1000 by omega), gI_55 (show 55 + j < 194 by omega), gI_65 (show 65 + j < 194 by omega), cl_55 (show j < 1000 by omega), cl_65 (show j < 1000 by omega), e1]
        have good : ∃ (r fd' : Int32) (least' most' g' : Nat → Int32), (some (1, fd, upd least j p2, upd most j p3) : Option (Int32 × Int32 × (Nat → Int32) × (Nat → Int32))) = some (r, fd', least', most') ∧ (some (1, fd, upd (upd g (55 + j) p2) (65 + j) p3) : Option (Int32 × Int32 × (Nat → Int32))) = some (r, fd', g') ∧ TR n u kind saved lost gain gap least' most' hand g' ∧ FT g g' :=
          ⟨_, _, _, _, _, rfl, rfl, TR_bounds (by omega) (fun _ => ⟨by omega, by omega, by omega⟩) hT, fun i hi => by rw [upd_n (by omega), upd_n (by omega)]⟩
        by_cases k2 : g (5 + j) = 2
        · simp only [k2, if_true]
          by_cases z : p2 = 0
          · simp only [z, if_true] at good ⊢
            exact good
          · simp only [z, if_false]
            exact ⟨_, _, _, _, _, rfl, rfl, hT, FT.rf⟩
        · by_cases k3 : g (5 + j) = 3
          · have n32 : ¬ (3 : Int32) = 2 := by decide
            simp only [k3, n32, if_true, if_false]
            exact good
          · simp only [k2, k3, if_false]
            exact ⟨_, _, _, _, _, rfl, rfl, hT, FT.rf⟩
      · rw [h2, if_pos rfl, if_pos rfl]
        exact ⟨_, _, _, _, _, rfl, rfl, hT, FT.rf⟩
    · rw [h3, if_pos rfl, if_pos rfl]
      exact ⟨_, _, _, _, _, rfl, rfl, hT, FT.rf⟩
  · rw [h, if_pos rfl, if_pos rfl]
    exact ⟨_, _, _, _, _, rfl, rfl, hT, FT.rf⟩
theorem bd_s {α β : Type} {a : α} {k : α → Option β} : bd (some a) k = k a := rfl
theorem i10f : ((1 : Int32) = 0) = False := eq_false (by decide)
theorem gap_eq (p : Int32) : f_X11_isGap p = f_X10_isGap p := rfl
theorem gap_cases (p : Int32) : (f_X10_isGap p = some 1 ∧ ∃ k : Nat, 1 ≤ k ∧ k ≤ 60 ∧ 60 % k = 0 ∧ p = nI k) ∨ f_X10_isGap p = some 0 := by
  unfold f_X10_isGap
  rcases from_cases p 1 60 with ⟨h, h1, h2⟩ | ⟨h, -⟩
  · rw [h, if_neg i10ne]
    have h60 : (60 : Int32).toInt = 60 := rfl
    have h11 : (1 : Int32).toInt = 1 := rfl
    obtain ⟨k, hk, rfl⟩ := nI_of_toInt (x := p) (n := 61) (by omega) (by omega)
    rw [nI_toInt (by omega)] at h1
    have hne : ¬ nI k = 0 := fun q => absurd ((nI_eq0 (by omega)).mp q) (by omega)
    rw [gDi_of hne, show (60 : Int32) = nI 60 from rfl, pk_rem (by omega) (by omega) (by omega)]
    by_cases z : 60 % k = 0
    · left
      refine ⟨by rw [z]; exact if_pos rfl, k, by omega, by omega, z, rfl⟩
    · right
      exact if_neg (fun q => z ((nI_eq0 (by have := Nat.mod_lt 60 (show k > 0 by omega); omega)).mp q))
  · right; rw [h, if_pos rfl]
theorem TR_add {p1 p2 p3 p4 p5 m : Int32} {g' : Nat → Int32} (hn : n < 10) (hT : TR n u kind saved lost gain gap least most hand g)
    (hk : 0 ≤ p1.toInt ∧ p1.toInt ≤ 3) (hs : -60 ≤ p2.toInt ∧ p2.toInt ≤ 60) (hl : -60 ≤ p3.toInt ∧ p3.toInt ≤ p2.toInt) (hg : -60 ≤ p4.toInt ∧ p4.toInt ≤ 60) (hp : 1 ≤ p5.toInt ∧ p5.toInt ≤ 60 ∧ 60 % p5.toInt = 0) (hm : 0 ≤ m.toInt ∧ m.toInt ≤ 60)
    (q0 : g' 0 = nI (n + 1)) (q1 : g' (5 + n) = p1) (q2 : g' (15 + n) = p2) (q3 : g' (25 + n) = p3) (q4 : g' (35 + n) = p4) (q5 : g' (45 + n) = p5) (q6 : g' (55 + n) = 0) (q7 : g' (65 + n) = m) (q8 : g' (75 + n) = 0)
    (q : ∀ i, i ≠ 0 → i ≠ 5 + n → i ≠ 15 + n → i ≠ 25 + n → i ≠ 35 + n → i ≠ 45 + n → i ≠ 55 + n → i ≠ 65 + n → i ≠ 75 + n → g' i = g i) :
    TR (n + 1) u (upd kind n p1) (upd saved n p2) (upd lost n p3) (upd gain n p4) (upd gap n p5) (upd least n 0) (upd most n m) (upd hand n 0) g' := by
  obtain ⟨a, b, c, d, e, f⟩ := hT
  refine ⟨by omega, b, q0, (q 1 (by omega) (by omega) (by omega) (by omega) (by omega) (by omega) (by omega) (by omega) (by omega)).trans d, fun t ht => ?_, fun t ht => ?_⟩
  · by_cases z : t = n
    · subst z
      exact ⟨upd_s.trans q1.symm, upd_s.trans q2.symm, upd_s.trans q3.symm, upd_s.trans q4.symm, upd_s.trans q5.symm, upd_s.trans q6.symm, upd_s.trans q7.symm, upd_s.trans q8.symm⟩
    · obtain ⟨e1, e2, e3, e4, e5, e6, e7, e8⟩ := e t ht
      refine ⟨?_, ?_, ?_, ?_, ?_, ?_, ?_, ?_⟩
      · rw [upd_n z, q _ (by omega) (by omega) (by omega) (by omega) (by omega) (by omega) (by omega) (by omega) (by omega)]; exact e1
      · rw [upd_n z, q _ (by omega) (by omega) (by omega) (by omega) (by omega) (by omega) (by omega) (by omega) (by omega)]; exact e2
      · rw [upd_n z, q _ (by omega) (by omega) (by omega) (by omega) (by omega) (by omega) (by omega) (by omega) (by omega)]; exact e3
      · rw [upd_n z, q _ (by omega) (by omega) (by omega) (by omega) (by omega) (by omega) (by omega) (by omega) (by omega)]; exact e4
      · rw [upd_n z, q _ (by omega) (by omega) (by omega) (by omega) (by omega) (by omega) (by omega) (by omega) (by omega)]; exact e5
      · rw [upd_n z, q _ (by omega) (by omega) (by omega) (by omega) (by omega) (by omega) (by omega) (by omega) (by omega)]; exact e6
      · rw [upd_n z, q _ (by omega) (by omega) (by omega) (by omega) (by omega) (by omega) (by omega) (by omega) (by omega)]; exact e7
      · rw [upd_n z, q _ (by omega) (by omega) (by omega) (by omega) (by omega) (by omega) (by omega) (by omega) (by omega)]; exact e8
  · by_cases z : t = n
    · subst z
      unfold TOK
      rw [q1, q2, q3, q4, q5, q6, q7, q8]
      have z0 : (0 : Int32).toInt = 0 := rfl
      exact ⟨hk, hs, hl, hg, hp, ⟨by omega, by omega, hm.2⟩, ⟨by omega, by omega⟩⟩
    · have h := f t (by omega)
      unfold TOK at h ⊢
      rw [q (5 + t) (by omega) (by omega) (by omega) (by omega) (by omega) (by omega) (by omega) (by omega) (by omega), q (15 + t) (by omega) (by omega) (by omega) (by omega) (by omega) (by omega) (by omega) (by omega) (by omega), q (25 + t) (by omega) (by omega) (by omega) (by omega) (by omega) (by omega) (by omega) (by omega) (by omega), q (35 + t) (by omega) (by omega) (by omega) (by omega) (by omega) (by omega) (by omega) (by omega) (by omega), q (45 + t) (by omega) (by omega) (by omega) (by omega) (by omega) (by omega) (by omega) (by omega) (by omega), q (55 + t) (by omega) (by omega) (by omega) (by omega) (by omega) (by omega) (by omega) (by omega) (by omega), q (65 + t) (by omega) (by omega) (by omega) (by omega) (by omega) (by omega) (by omega) (by omega) (by omega), q (75 + t) (by omega) (by omega) (by omega) (by omega) (by omega) (by omega) (by omega) (by omega) (by omega)]
      exact h
theorem po_target (hT : TR n u kind saved lost gain gap least most hand g) (p1 p2 p3 p4 p5 : Int32) :
    ∃ (r : Int32) (n' : Nat) (kind' saved' lost' gain' gap' least' most' hand' g' : Nat → Int32), f_X10_target (nI n) kind saved lost gain gap least most hand p1 p2 p3 p4 p5 = some (r, nI n', kind', saved', lost', gain', gap', least', most', hand') ∧ f_X11_target g p1 p2 p3 p4 p5 = some (r, g') ∧ TR n' u kind' saved' lost' gain' gap' least' most' hand' g' ∧ FT g g' := by
  obtain ⟨a, b, c, d, e, f⟩ := id hT
  have bad : ∃ (r : Int32) (n' : Nat) (kind' saved' lost' gain' gap' least' most' hand' g' : Nat → Int32), (some ((-1000000002), nI n, kind, saved, lost, gain, gap, least, most, hand) : Option (Int32 × Int32 × (Nat → Int32) × (Nat → Int32) × (Nat → Int32) × (Nat → Int32) × (Nat → Int32) × (Nat → Int32) × (Nat → Int32) × (Nat → Int32))) = some (r, nI n', kind', saved', lost', gain', gap', least', most', hand') ∧ (some ((-1000000002), g) : Option (Int32 × (Nat → Int32))) = some (r, g') ∧ TR n' u kind' saved' lost' gain' gap' least' most' hand' g' ∧ FT g g' := ⟨_, _, _, _, _, _, _, _, _, _, _, rfl, rfl, hT, FT.rf⟩
  unfold f_X10_target f_X10_target_b21 f_X10_target_b22 f_X10_target_b55 f_X10_target_b56 f_X10_isPay f_X11_target f_X11_target_b68 f_X11_target_b69
  simp only [within_eq, gap_eq, c]
  rcases from_cases p1 0 3 with ⟨h1, x1, x2⟩ | ⟨h1, -⟩
  rotate_left
  · simp only [h1, if_true, if_false, ite_self, eq_self]
    exact bad
  rcases gap_cases p5 with ⟨h5, k, k1, k2, k3, rfl⟩ | h5
  rotate_left
  · simp only [h1, h5, bd_s, i10f, if_true, if_false, ite_self, eq_self]
    exact bad
  rcases from_cases p2 (-60) 60 with ⟨h2, y1, y2⟩ | ⟨h2, -⟩
  rotate_left
  · simp only [h1, h5, h2, bd_s, i10f, if_true, if_false, ite_self, eq_self]
    exact bad
  rcases from_cases p3 (-60) 60 with ⟨h3, z1, z2⟩ | ⟨h3, -⟩
  rotate_left
  · simp only [h1, h5, h2, h3, bd_s, i10f, if_true, if_false, ite_self, eq_self]
    exact bad
  rcases from_cases p4 (-60) 60 with ⟨h4, w1, w2⟩ | ⟨h4, -⟩
  rotate_left
  · simp only [h1, h5, h2, h3, h4, bd_s, i10f, if_true, if_false, ite_self, eq_self]
    exact bad
  by_cases hlt : p2 < p3
  · simp only [h1, h5, h2, h3, h4, hlt, bd_s, i10f, if_true, if_false, ite_self, eq_self]
    exact bad
  simp only [h1, h5, h2, h3, h4, hlt, bd_s, i10f, if_true, if_false, ite_self, eq_self]
  by_cases h10 : n = 10
  · subst h10
    have e1 : ¬ nI 10 < (10 : Int32) := by decide
    have e2 : nI 10 = (10 : Int32) := rfl
    simp only [e1, e2, if_true, if_false]
    exact bad
  · have hn : n < 10 := by omega
    have e1 : nI n < (10 : Int32) := by rw [nI_ltC (k := 10) (a := 10) rfl (by omega) (by omega)]; exact hn
    have e2 : ¬ nI n = (10 : Int32) := by
      intro q
      rw [show (10 : Int32) = nI 10 from rfl, nI_eq (by omega) (by omega)] at q
      omega
    simp only [e1, e2, if_true, if_false]
    unfold f_X8_add f_X8_add_b73 f_X11_target_b173
    simp only [gI_n hn (by decide), cl_n (show n < 2 ^ 31 by omega), gI_5 (show 5 + n < 194 by omega), cl_5 (show n < 1000 by omega), gI_15 (show 15 + n < 194 by omega), cl_15 (show n < 1000 by omega), gI_25 (show 25 + n < 194 by omega), cl_25 (show n < 1000 by omega), gI_35 (show 35 + n < 194 by omega), cl_35 (show n < 1000 by omega), gI_45 (show 45 + n < 194 by omega), cl_45 (show n < 1000 by omega), gI_55 (show 55 + n < 194 by omega), cl_55 (show n < 1000 by omega), gI_65 (show 65 + n < 194 by omega), cl_65 (show n < 1000 by omega), gI_75 (show 75 + n < 194 by omega), cl_75 (show n < 1000 by omega)]
    rw [Int32.lt_iff_toInt_lt] at hlt
    have l60 : (60 : Int32).toInt = 60 := rfl
    have m60 : (-60 : Int32).toInt = -60 := rfl
    have l3 : (3 : Int32).toInt = 3 := rfl
    have l0 : (0 : Int32).toInt = 0 := rfl
    have hk5 : (nI k).toInt = (k : Int) := nI_toInt (by omega)
    have fin : ∀ mm : Int32, 0 ≤ mm.toInt → mm.toInt ≤ 60 → TR (n + 1) u (upd kind n p1) (upd saved n p2) (upd lost n p3) (upd gain n p4) (upd gap n (nI k)) (upd least n 0) (upd most n mm) (upd hand n 0) (upd (upd (upd (upd (upd (upd (upd (upd (upd g (5 + n) p1) (15 + n) p2) (25 + n) p3) (35 + n) p4) (45 + n) (nI k)) (55 + n) 0) (65 + n) mm) (75 + n) 0) 0 (nI (n + 1))) ∧ FT g (upd (upd (upd (upd (upd (upd (upd (upd (upd g (5 + n) p1) (15 + n) p2) (25 + n) p3) (35 + n) p4) (45 + n) (nI k)) (55 + n) 0) (65 + n) mm) (75 + n) 0) 0 (nI (n + 1))) := by
      intro mm hm1 hm2
      refine ⟨TR_add hn hT ⟨by omega, by omega⟩ ⟨by omega, by omega⟩ ⟨by omega, by omega⟩ ⟨by omega, by omega⟩ ⟨by omega, by omega, by rw [hk5]; exact_mod_cast k3⟩ ⟨hm1, hm2⟩ upd_s ?_ ?_ ?_ ?_ ?_ ?_ ?_ ?_ ?_, ?_⟩
      · rw [upd_n (by omega), upd_n (by omega), upd_n (by omega), upd_n (by omega), upd_n (by omega), upd_n (by omega), upd_n (by omega), upd_n (by omega), upd_s]
      · rw [upd_n (by omega), upd_n (by omega), upd_n (by omega), upd_n (by omega), upd_n (by omega), upd_n (by omega), upd_n (by omega), upd_s]
      · rw [upd_n (by omega), upd_n (by omega), upd_n (by omega), upd_n (by omega), upd_n (by omega), upd_n (by omega), upd_s]
      · rw [upd_n (by omega), upd_n (by omega), upd_n (by omega), upd_n (by omega), upd_n (by omega), upd_s]
      · rw [upd_n (by omega), upd_n (by omega), upd_n (by omega), upd_n (by omega), upd_s]
      · rw [upd_n (by omega), upd_n (by omega), upd_n (by omega), upd_s]
      · rw [upd_n (by omega), upd_n (by omega), upd_s]
      · rw [upd_n (by omega), upd_s]
      · intro i i0 i1 i2 i3 i4 i5 i6 i7 i8
        rw [upd_n i0, upd_n i8, upd_n i7, upd_n i6, upd_n i5, upd_n i4, upd_n i3, upd_n i2, upd_n i1]
      · intro i hi
        rw [upd_n (by omega), upd_n (by omega), upd_n (by omega), upd_n (by omega), upd_n (by omega), upd_n (by omega), upd_n (by omega), upd_n (by omega), upd_n (by omega)]
    have z0 : ∀ mm : Int32, upd (upd (upd (upd (upd (upd (upd (upd g (5 + n) p1) (15 + n) p2) (25 + n) p3) (35 + n) p4) (45 + n) (nI k)) (55 + n) 0) (65 + n) mm) (75 + n) 0 0 = nI n := by
      intro mm
      rw [upd_n (by omega), upd_n (by omega), upd_n (by omega), upd_n (by omega), upd_n (by omega), upd_n (by omega), upd_n (by omega), upd_n (by omega)]
      exact c
    by_cases k1 : p1 = 1
    · simp only [k1, if_true] at fin z0 ⊢
      simp only [bd_s, z0, nI_1]
      exact ⟨_, n + 1, _, _, _, _, _, _, _, _, _, rfl, rfl, fin 0 (by omega) (by omega)⟩
    · simp only [k1, if_false]
      simp only [bd_s, z0, nI_1]
      exact ⟨_, n + 1, _, _, _, _, _, _, _, _, _, rfl, rfl, fin 60 (by omega) (by omega)⟩
end PT
