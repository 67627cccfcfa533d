/-! ===== best, worth, prize, share ===== -/
section PPE
variable {n u : Nat} {kind saved lost gain gap least most hand g : Nat → Int32}
theorem tr_pd (h : TR n u kind saved lost gain gap least most hand g) : PD n saved lost gain gap least most ∧ HGZ n u saved lost gain gap least most g ∧ u ≤ 10 := by
  obtain ⟨a, b, c, d, e, f⟩ := h
  refine ⟨⟨a, fun t ht => ?_⟩, ⟨c, d, fun t ht => ?_⟩, b⟩
  · obtain ⟨k1, k2, k3, k4, k5, k6, k7⟩ := f t ht
    obtain ⟨e1, e2, e3, e4, e5, e6, e7, e8⟩ := e t (by omega)
    unfold ti
    rw [e2, e3, e4, e5, e6, e7]
    exact ⟨k2, k3, k4, k5, k6⟩
  · obtain ⟨e1, e2, e3, e4, e5, e6, e7, e8⟩ := e t ht
    exact ⟨e2.symm, e3.symm, e4.symm, e5.symm, e6.symm, e7.symm⟩
theorem po_best (h : TR n u kind saved lost gain gap least most hand g) {N : Nat} (hN : 2000 ≤ N) (a b c : Int64) (x y : Int32) (P : Nat → Int64) (bt' : Int32) (hi lw wh th tl : Int64) (P' : Nat → Int64) :
    ∃ q q', f_X10_best N (nI n) (nI u) saved lost gain gap least most a b c x y P = some q ∧ f_X11_best N bt' hi lw wh th tl g P' = some q' ∧ q.1 = q'.1 := by
  obtain ⟨h1, h2, hu⟩ := tr_pd h
  unfold f_X10_best f_X11_best
  rcases plan_eq h1 hu h2 hN a b c x y P bt' hi lw wh th tl P' with ⟨⟨a, b, c, d, e, P, e1⟩, ⟨a', b', c', d', e', f', P', e2⟩⟩ | ⟨A, B, s, P, x, lo, th, tl, P', e1, e2, hs, -⟩
  · rw [e1, e2, bd_of rfl, bd_of rfl, if_pos rfl, if_pos rfl]
    exact ⟨_, _, rfl, rfl, rfl⟩
  · rw [e1, e2, bd_of rfl, bd_of rfl, if_neg i10ne, if_neg i10ne]
    exact ⟨_, _, rfl, rfl, rfl⟩
theorem po_worth (h : TR n u kind saved lost gain gap least most hand g) {N : Nat} (hN : 2000 ≤ N) (z : Int32) (a b c : Int64) (x y : Int32) (P : Nat → Int64) (bt' : Int32) (hi lw wh th tl : Int64) (P' : Nat → Int64) :
    ∃ q q', f_X10_worth N z (nI n) (nI u) saved lost gain gap least most a b c x y P = some q ∧ f_X11_worth N z bt' hi lw wh th tl g P' = some q' ∧ q.1 = q'.1 ∧ q.2.1 = q'.2.1 := by
  obtain ⟨h1, h2, hu⟩ := tr_pd h
  have hn := h1.1
  unfold f_X10_worth f_X11_worth
  rcases plan_eq h1 hu h2 hN a b c x y P bt' hi lw wh th tl P' with ⟨⟨a, b, c, d, e, P, e1⟩, ⟨a', b', c', d', e', f', P', e2⟩⟩ | ⟨A, B, s, P, x, lo, th, tl, P', e1, e2, hs, hA, hB, hx, hl, hP, hY, hK, hKb, hWb⟩
  · rw [e1, e2, bd_of rfl, bd_of rfl, if_pos rfl, if_pos rfl]
    exact ⟨_, _, rfl, rfl, rfl, rfl⟩
  · obtain ⟨⟨a1, a2⟩, ⟨a3, a4⟩, -⟩ := h1.2 s hs
    obtain ⟨G1, G2, -⟩ := h2.2.2 s (by omega)
    have e3 : (saved s - lost s).toInt = ti saved s - ti lost s := i_sub (by show _ ≤ ti saved s - ti lost s; omega) (by show ti saved s - ti lost s < _; omega)
    rw [e1, e2, bd_of rfl, bd_of rfl, if_neg i10ne, if_neg i10ne]
    simp only []
    rw [keeperP_eq h1 (fun t ht => (hP t ht).1) hs, bd_of rfl, gI_25 (by omega), gI_15 (by omega), gI_25 (by omega), cl_25 (by omega), cl_15 (by omega), G1, G2, x64, x64, e3]
    have eW : lI (lost s).toInt * lI lo + lI (ti saved s - ti lost s) * lI x = lI (WZ saved lost x lo s) := by rw [lI_mul, lI_mul, lI_add]; rfl
    rw [eW]
    obtain ⟨v, w, f1, f2⟩ := fr_same (N := N) (by omega) z z (a := KPZ saved lost gain gap least A B s) (b := 3600 * B) (a' := WZ saved lost x lo s) (b' := lo) (by omega) (by omega) (by omega) (by omega) hK
    rw [f1, f2, bd_of rfl, bd_of rfl]
    exact ⟨_, _, rfl, rfl, rfl, rfl⟩
theorem po_prize (h : TR n u kind saved lost gain gap least most hand g) {N : Nat} (hN : 2000 ≤ N) (z : Int32) (a b c : Int64) (x y : Int32) (P : Nat → Int64) (bt' : Int32) (hi lw wh th tl : Int64) (P' : Nat → Int64) :
    ∃ q q', f_X10_prize N z (nI n) (nI u) saved lost gain gap least most a b c x y P = some q ∧ f_X11_prize N z bt' hi lw wh th tl g P' = some q' ∧ q.1 = q'.1 ∧ q.2.1 = q'.2.1 := by
  obtain ⟨h1, h2, hu⟩ := tr_pd h
  have hn := h1.1
  unfold f_X10_prize f_X11_prize
  rcases plan_eq h1 hu h2 hN a b c x y P bt' hi lw wh th tl P' with ⟨⟨a, b, c, d, e, P, e1⟩, ⟨a', b', c', d', e', f', P', e2⟩⟩ | ⟨A, B, s, P, x, lo, th, tl, P', e1, e2, hs, hA, hB, hx, hl, hP, hY, hK, hKb, hWb⟩
  · rw [e1, e2, bd_of rfl, bd_of rfl, if_pos rfl, if_pos rfl]
    exact ⟨_, _, rfl, rfl, rfl, rfl⟩
  · obtain ⟨-, -, ⟨a1, a2⟩, ⟨a3, a4, -⟩, -⟩ := h1.2 s hs
    obtain ⟨-, -, G1, G2, -⟩ := h2.2.2 s (by omega)
    rw [e1, e2, bd_of rfl, bd_of rfl, if_neg i10ne, if_neg i10ne]
    simp only []
    unfold f_X11_prizeTimesLow
    rw [gI_35 (by omega), gI_45 (by omega), bd_of rfl, cl_35 (by omega), cl_45 (by omega), G1, G2, x64, x64, lI_mul, lI_mul, lI_sub, show (60 : Int64) = lI 60 from rfl, lI_mul]
    have z1 := mb (a := ti gain s) (b := lo) (A := 60) (B := 40000) (by omega) (by omega) (by omega) (by omega)
    have z2 := mb (a := ti gap s) (b := x) (A := 60) (B := 100000) (by omega) (by omega) (by omega) (by omega)
    obtain ⟨v, w, f1, f2⟩ := fr_same (N := N) (by omega) z z (a := A) (b := 60 * B) (a' := ti gain s * lo - ti gap s * x) (b' := lo) (by omega) (by omega) (by omega) (by omega) (by rw [← hY]; unfold YF; grind)
    rw [f1, bd_of rfl]
    have f2' : f_X11_fraction N z (lI ((gain s).toInt * lo - (gap s).toInt * x)) (lI lo) = some (v, w) := f2
    rw [f2', bd_of rfl]
    exact ⟨_, _, rfl, rfl, rfl, rfl⟩
theorem po_share (h : TR n u kind saved lost gain gap least most hand g) {N : Nat} (hN : 2000 ≤ N) (z : Int32) (a b c : Int64) (x y : Int32) (P : Nat → Int64) (bt' : Int32) (hi lw wh th tl : Int64) (P' : Nat → Int64) (p : Int32) :
    ∃ q q', f_X10_share N z (nI n) (nI u) saved lost gain gap least most a b c x y P p = some q ∧ f_X11_share N z bt' hi lw wh th tl g P' p = some q' ∧ q.1 = q'.1 ∧ q.2.1 = q'.2.1 := by
  obtain ⟨h1, h2, hu⟩ := tr_pd h
  have hn := h1.1
  unfold f_X10_share f_X11_share f_X11_isTarget f_X8_has
  rw [h2.1, bd_of rfl, within_eq]
  rcases has_cases p (show n < 2 ^ 30 by omega) with ⟨hp, j, hj, rfl⟩ | hp
  · rw [if_neg (by rw [hp]; decide), if_neg (by rw [hp]; decide)]
    rcases plan_eq h1 hu h2 hN a b c x y P bt' hi lw wh th tl P' with ⟨⟨a, b, c, d, e, P, e1⟩, ⟨a', b', c', d', e', f', P', e2⟩⟩ | ⟨A, B, s, P, x, lo, th, tl, P', e1, e2, hs, hA, hB, hx, hl, hP, hY, hK, hKb, hWb⟩
    · rw [e1, e2, bd_of rfl, bd_of rfl, if_pos rfl, if_pos rfl]
      exact ⟨_, _, rfl, rfl, rfl, rfl⟩
    · obtain ⟨p1, p2, p3, p4, p5⟩ := hP j hj
      rw [e1, e2, bd_of rfl, bd_of rfl, if_neg i10ne, if_neg i10ne]
      simp only []
      rw [gI_n (by omega) (by omega), gI_n (by omega) (by omega), cl_n (by omega), p1, p2]
      have hm : 0 ≤ MPZ gain gap least s x lo j ∧ MPZ gain gap least s x lo j ≤ 60 * lo := by
        have hc : 0 < 3600 * B := by omega
        have hc2 : 0 < 60 * lo := by omega
        constructor
        · apply (mp_le hc).mp; rw [p3, Int.zero_mul]; exact Int.mul_nonneg p4 (by omega)
        · apply (mp_le hc).mp; rw [p3]
          have := (mp_le hc2).mpr p5
          rw [Int.mul_comm (60 * lo)]
          exact this
      obtain ⟨v, w, f1, f2⟩ := fr_same (N := N) (by omega) z z (a := PTZ gain gap least A B j) (b := 3600 * B) (a' := MPZ gain gap least s x lo j) (b' := 60 * lo) (by omega) (by omega) (by omega) (by omega) p3.symm
      rw [f1, f2, bd_of rfl, bd_of rfl]
      exact ⟨_, _, rfl, rfl, rfl, rfl⟩
  · rw [if_pos hp, if_pos hp]
    exact ⟨_, _, rfl, rfl, rfl, rfl⟩
end PPE
