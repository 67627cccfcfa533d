section PDO
variable {n u : Nat} {kind saved lost gain gap least most hand g : Nat → Int32}
abbrev T10d := Int32 × Int64 × Int64 × Int64 × Int32 × Int32 × (Nat → Int64) × Int32 × (Nat → Int64)
def DRZ (n : Nat) (o1 : Option T10d) (o2 : Option T11) : Prop :=
  ((∃ q, o1 = some (0, q)) ∧ ∃ q, o2 = some (0, q)) ∨
  ∃ (w1 w2 : Int) (C E : Nat → Int) (k : Nat) (a b : Int64) (d : Int32) (P cu : Nat → Int64) (bt' : Int32) (hi lw th tl : Int64) (P' e : Nat → Int64), o1 = some (1, a, b, lI w1, nI n, d, P, nI k, cu) ∧ o2 = some (1, bt', hi, lw, lI w2, th, tl, nI k, P', e) ∧ PSZ n w1 w2 C E ∧ (∀ t, t < n → P t = lI (C t) ∧ P' t = lI (E t)) ∧ 1 ≤ k ∧ k ≤ 11 ∧ (∀ r, r < k → RLZ w1 w2 (cu r) (e r)) ∧ cu k = lI w1 ∧ e k = lI w2
theorem drawb (h : TR n u kind saved lost gain gap least most hand g) {N : Nat} (hN : 2000 ≤ N) (a b c : Int64) (x y : Int32) (P : Nat → Int64) (ds : Int32) (cu : Nat → Int64) (bt' : Int32) (hi lw wh th tl : Int64) (lots : Int32) (P' e : Nat → Int64) :
    DRZ n (f_X10_makeDraw N (nI n) (nI u) saved lost gain gap least most a b c x y P ds cu) (f_X11_findLots N bt' hi lw wh th tl lots g P' e) := by
  obtain ⟨h1, h2, hu⟩ := tr_pd h
  have hn := h1.1
  unfold f_X10_makeDraw f_X11_findLots
  rcases plan_eq h1 hu h2 hN a b c x y P bt' hi lw wh th tl P' with ⟨⟨a, b, c, d, e, P, e1⟩, ⟨a', b', c', d', e', f', P', e2⟩⟩ | ⟨A, B, s, P, x, lo, th, tl, P', e1, e2, hs, hA, hB, hx, hl, hP, hY, hK, hKb, hWb⟩
  · rw [e1, e2, bd_of rfl, bd_of rfl, if_pos rfl, if_pos rfl]
    exact Or.inl ⟨⟨_, rfl⟩, ⟨_, rfl⟩⟩
  · rw [e1, e2, bd_of rfl, bd_of rfl, if_neg i10ne, if_neg i10ne]
    simp only []
    have ps : PSZ n (3600 * B) (60 * lo) (PTZ gain gap least A B) (MPZ gain gap least s x lo) := by
      refine ⟨hn, by omega, by omega, fun t ht => ?_⟩
      obtain ⟨p1, p2, p3, p4, p5⟩ := hP t ht
      refine ⟨p3, ⟨p4, p5⟩, ?_⟩
      have hc : 0 < 3600 * B := by omega
      have hc2 : 0 < 60 * lo := by omega
      constructor
      · apply (mp_le hc).mp; rw [p3, Int.zero_mul]; exact Int.mul_nonneg p4 (by omega)
      · apply (mp_le hc).mp; rw [p3]
        have := (mp_le hc2).mpr p5
        rw [Int.mul_comm (60 * lo)]
        exact this
    have hP2 : ∀ t, t < n → P t = lI (PTZ gain gap least A B t) ∧ P' t = lI (MPZ gain gap least s x lo t) := fun t ht => ⟨(hP t ht).1, (hP t ht).2.1⟩
    obtain ⟨k', c', e', q1, q2, q3, q4, q5, q6, q7⟩ := draw_eq ps (N := N) (by omega) h2.1 hP2 (nI s) (lI x) (lI lo) th tl ds cu e
    rw [q1, bd_of rfl, q2]
    exact Or.inr ⟨3600 * B, 60 * lo, _, _, k', _, _, _, _, _, _, _, _, _, _, _, _, rfl, rfl, ps, hP2, q3, q4, q5, q6, q7⟩
theorem po_lots (h : TR n u kind saved lost gain gap least most hand g) {N : Nat} (hN : 2000 ≤ N) (a b c : Int64) (x y : Int32) (P : Nat → Int64) (ds : Int32) (cu : Nat → Int64) (bt' : Int32) (hi lw wh th tl : Int64) (lots : Int32) (P' e : Nat → Int64) :
    ∃ q q', f_X10_lots N (nI n) (nI u) saved lost gain gap least most a b c x y P ds cu = some q ∧ f_X11_lots N bt' hi lw wh th tl lots g P' e = some q' ∧ q.1 = q'.1 := by
  unfold f_X10_lots f_X11_lots
  rcases drawb h hN a b c x y P ds cu bt' hi lw wh th tl lots P' e with ⟨⟨q, e1⟩, ⟨q', e2⟩⟩ | ⟨w1, w2, C, E, k, a, b, d, P, cu, bt', hi, lw, th, tl, P', e, e1, e2, ps, hP, k1, k2, hr, hc, he⟩
  · rw [e1, e2, bd_of rfl, bd_of rfl, if_pos rfl, if_pos rfl]
    exact ⟨_, _, rfl, rfl, rfl⟩
  · rw [e1, e2, bd_of rfl, bd_of rfl, if_neg i10ne, if_neg i10ne]
    exact ⟨_, _, rfl, rfl, rfl⟩
theorem po_team (h : TR n u kind saved lost gain gap least most hand g) {N : Nat} (hN : 2000 ≤ N) (a b c : Int64) (x y : Int32) (P : Nat → Int64) (ds : Int32) (cu : Nat → Int64) (bt' : Int32) (hi lw wh th tl : Int64) (lots : Int32) (P' e : Nat → Int64) (p : Int32) :
    ∃ q q', f_X10_team N (nI n) (nI u) saved lost gain gap least most a b c x y P ds cu p = some q ∧ f_X11_team N bt' hi lw wh th tl lots g P' e p = some q' ∧ q.1 = q'.1 := by
  have hg : g 0 = nI n := (tr_pd h).2.1.1
  unfold f_X10_team f_X11_team
  rcases drawb h hN a b c x y P ds cu bt' hi lw wh th tl lots P' e with ⟨⟨q, e1⟩, ⟨q', e2⟩⟩ | ⟨w1, w2, C, E, k, a, b, d, P, cu, bt', hi, lw, th, tl, P', e, e1, e2, ps, hP, k1, k2, hr, hc, he⟩
  · rw [e1, e2, bd_of rfl, bd_of rfl, if_pos rfl, if_pos rfl]
    exact ⟨_, _, rfl, rfl, rfl⟩
  · rw [e1, e2, bd_of rfl, bd_of rfl, if_neg i10ne, if_neg i10ne]
    simp only []
    rcases has_cases p (show k < 2 ^ 30 by omega) with ⟨hp, j, hj, rfl⟩ | hp
    · have np : ¬ f_X10_isFrom (nI j) 0 (nI k - 1) = 0 := by rw [hp]; decide
      have np' : ¬ f_X11_within (nI j) 0 (nI k - 1) = 0 := by rw [within_eq, hp]; decide
      rw [if_neg np, if_neg np', gI_n (by omega) (by omega), cl_n (by omega)]
      obtain ⟨Z, Z', z1, z2, z3, z4, z5, z6, z7⟩ := hr j hj
      have hn := ps.1
      obtain ⟨v, v1, v2⟩ := team_go ps (N := N) (by omega) hg hP bt' hi lw th tl (nI k) e (i := j) (by omega) z3 ⟨z4, z5⟩ ⟨z6, z7⟩ z2 n 0 N 0 (by omega) (by omega)
      unfold f_X1_membersAt
      rw [show nI 0 = 0 from rfl, show lI (sm C 0) = 0 from rfl] at v1
      rw [show nI 0 = 0 from rfl, show lI (sm E 0) = 0 from rfl] at v2
      rw [z1, v1, v2, bd_of rfl]
      exact ⟨_, _, rfl, rfl, rfl⟩
    · have hp' : f_X11_within p 0 (nI k - 1) = 0 := by rw [within_eq, hp]
      rw [if_pos hp, if_pos hp']
      exact ⟨_, _, rfl, rfl, rfl⟩
theorem po_chance (h : TR n u kind saved lost gain gap least most hand g) {N : Nat} (hN : 2000 ≤ N) (z : Int32) (a b c : Int64) (x y : Int32) (P : Nat → Int64) (ds : Int32) (cu : Nat → Int64) (bt' : Int32) (hi lw wh th tl : Int64) (lots : Int32) (P' e : Nat → Int64) (p : Int32) :
    ∃ q q', f_X10_chance N z (nI n) (nI u) saved lost gain gap least most a b c x y P ds cu p = some q ∧ f_X11_chance N z bt' hi lw wh th tl lots g P' e p = some q' ∧ q.1 = q'.1 ∧ q.2.1 = q'.2.1 := by
  unfold f_X10_chance f_X11_chance
  rcases drawb h hN a b c x y P ds cu bt' hi lw wh th tl lots P' e with ⟨⟨q, e1⟩, ⟨q', e2⟩⟩ | ⟨w1, w2, C, E, k, a, b, d, P, cu, bt', hi, lw, th, tl, P', e, e1, e2, ps, hP, k1, k2, hr, hc, he⟩
  · rw [e1, e2, bd_of rfl, bd_of rfl, if_pos rfl, if_pos rfl]
    exact ⟨_, _, rfl, rfl, rfl, rfl⟩
  · rw [e1, e2, bd_of rfl, bd_of rfl, if_neg i10ne, if_neg i10ne]
    simp only []
    rcases has_cases p (show k < 2 ^ 30 by omega) with ⟨hp, j, hj, rfl⟩ | hp
    · have np : ¬ f_X10_isFrom (nI j) 0 (nI k - 1) = 0 := by rw [hp]; decide
      have np' : ¬ f_X11_within (nI j) 0 (nI k - 1) = 0 := by rw [within_eq, hp]; decide
      rw [if_neg np, if_neg np', nI_1, gI_n (by omega) (by omega), gI_n (by omega) (by omega), gI_n (by omega) (by omega), gI_n (by omega) (by omega), cl_n (by omega), cl_n (by omega)]
      obtain ⟨Z, Z', z1, z2, z3, z4, z5, z6, z7⟩ := hr j hj
      obtain ⟨-, hw1, hw2, -⟩ := ps
      have nx : ∃ Y Y', cu (j + 1) = lI Y ∧ e (j + 1) = lI Y' ∧ Y' * w1 = Y * w2 ∧ (0 ≤ Y ∧ Y ≤ w1) ∧ (0 ≤ Y' ∧ Y' ≤ w2) := by
        by_cases q : j + 1 = k
        · rw [q]; exact ⟨w1, w2, hc, he, Int.mul_comm _ _, by omega, by omega⟩
        · obtain ⟨Y, Y', y1, y2, y3, y4, y5, y6, y7⟩ := hr (j + 1) (by omega)
          exact ⟨Y, Y', y1, y2, y3, by omega, by omega⟩
      obtain ⟨Y, Y', y1, y2, y3, y4, y5⟩ := nx
      rw [z1, z2, y1, y2, lI_sub, lI_sub]
      obtain ⟨v, w, f1, f2⟩ := fr_same (N := N) (by omega) z z (a := Y - Z) (b := w1) (a' := Y' - Z') (b' := w2) (by omega) (by omega) (by omega) (by omega) (by rw [Int.sub_mul, Int.sub_mul, y3, z3])
      rw [f1, f2, bd_of rfl, bd_of rfl]
      exact ⟨_, _, rfl, rfl, rfl, rfl⟩
    · have hp' : f_X11_within p 0 (nI k - 1) = 0 := by rw [within_eq, hp]
      rw [if_pos hp, if_pos hp']
      exact ⟨_, _, rfl, rfl, rfl, rfl⟩
end PDO
