/-! ===== visit ===== -/
section PWV
variable {N n F : Nat} {g ev lost : Nat → Int32} {host : Int32}
theorem vs_go (hG : PG n F g) (p1 : Int32) : ∀ (k m : Nat), k ≤ n → k < m → f_X11_visit_b45 N g host lost p1 m (nI (sg (fun i => dg F (k + i)) (n - k))) (nI k - 1) = (if lost F = 0 then f_X11_visit_b87 N g host lost p1 N (nI F) 0 else some ((-1000000003), host, lost)) := by
  obtain ⟨hn, hF, h3, he⟩ := hG
  have hF8 := Nat.lt_of_lt_of_le hF (pow8 hn)
  intro k
  induction k with
  | zero =>
    intro m _ hm
    obtain ⟨m, rfl⟩ : ∃ z, m = z + 1 := ⟨m - 1, by omega⟩
    rw [f_X11_visit_b45_s]
    unfold g_X11_visit_b45
    rw [if_pos (by decide), Nat.sub_zero, sg_congr (h := dg F) (fun i _ => by rw [Nat.zero_add]), sg_dg hF, gI_n hF8 (by decide), cl_n (by omega)]
  | succ k ih =>
    intro m hk hm
    obtain ⟨m, rfl⟩ : ∃ z, m = z + 1 := ⟨m - 1, by omega⟩
    rw [f_X11_visit_b45_s]
    unfold g_X11_visit_b45
    rw [nI_m1 (by omega), Nat.add_sub_cancel, if_neg (nI_n0 (by omega)), gI_149 (by omega), cl_149 (by omega), he k (by omega), mul8, nI_m1 (by omega), show ∀ a : Nat, 8 * a + (dg F k + 1) - 1 = dg F k + 8 * a from fun a => by omega]
    have := ih m (by omega) (by omega)
    rw [show n - k = n - (k + 1) + 1 by omega, sg_s, Nat.add_zero, sg_congr (g := fun p => dg F (k + (p + 1))) (h := fun i => dg F (k + 1 + i)) (fun i _ => by show dg F (k + (i + 1)) = _; rw [show k + (i + 1) = k + 1 + i by omega])] at this
    rw [adm1]
    exact this
theorem wwalk_go {sz r t : Nat} {st w : Nat → Nat} {visits : Nat → Int32} (hG : PG n F g) (hN : 2000 ≤ N) (hr : r < sz) (ht : t ≤ 1000) (hl : ∀ s, s < 8 ^ n → (lost s ≠ 0 ↔ Lz n F s))
    (hw : ∀ i, i < sz → visits i = nI (w i) ∧ w i < n ∧ st i < 8 ^ n ∧ IS n F (st i) ∧ nxt n F (st i) (w i) = st (if i + 1 < sz then i + 1 else r) + 1 ∧ ∀ v r', v < w i → nxt n F (st i) v = r' + 1 → Lz n F r') :
    (∀ i, i < sz → lost (st i) = 0) ∧ ∀ (d k m : Nat), k + d = t → d < m → f_X11_visit_b87 N g host lost (nI t) m (nI (st (wix sz r k))) (nI k) = some (visits (wix sz r t), host, lost) := by
  have hn := hG.1
  have h0 : ∀ i, i < sz → lost (st i) = 0 := by
    intro i hi
    by_cases c : lost (st i) = 0
    · exact c
    · refine absurd ⟨i, hi, rfl⟩ ((hl _ (hw i hi).2.2.1).1 c (fun s => ∃ j, j < sz ∧ st j = s) (fun a ha => ?_))
      obtain ⟨j, hj, rfl⟩ := ha
      obtain ⟨_, b1, b2, b3, b4, _⟩ := hw j hj
      exact ⟨b2, b3, w j, _, b1, b4, _, by split <;> omega, rfl⟩
  have hgo : ∀ i, i < sz → f_X11_goesOn N g lost (nI (st i)) = some (nI (w i)) := by
    intro i hi
    obtain ⟨_, b1, b2, b3, b4, b5⟩ := hw i hi
    refine goes_eq hG b2 (by omega) b1 b4 (h0 _ (by split <;> omega)) (fun v r' h1 h2 => ?_)
    exact (hl r' (nxt_v (by omega) h2).2.1).2 (b5 v r' h1 h2)
  refine ⟨h0, ?_⟩
  intro d
  induction d with
  | zero =>
    intro k m hk hm
    obtain ⟨m, rfl⟩ : ∃ z, m = z + 1 := ⟨m - 1, by omega⟩
    rw [f_X11_visit_b87_s]
    unfold g_X11_visit_b87
    have hkt : k = t := by omega
    subst hkt
    have hi := wix_lt (t := k) hr
    rw [if_pos ((nI_leI (by omega) (by omega)).mpr (by omega)), bd_of (hgo _ hi), (hw _ hi).1]
  | succ d ih =>
    intro k m hk hm
    obtain ⟨m, rfl⟩ : ∃ z, m = z + 1 := ⟨m - 1, by omega⟩
    rw [f_X11_visit_b87_s]
    unfold g_X11_visit_b87
    have hi := wix_lt (t := k) hr
    obtain ⟨_, b1, b2, b3, b4, b5⟩ := hw _ hi
    rw [if_neg (fun q => absurd ((nI_leI (by omega) (by omega)).mp q) (by omega)), bd_of (hgo _ hi), bd_of (beh_1 hG b2 b1 (by omega) b4), ← wix_s hr, nI_1]
    exact ih (k + 1) m (by omega) (by omega)
theorem po_visit (hP : PR n ev g) {size rs ms : Int32} {me : Nat → Int32} {dead met : Nat → Int64} {states visits : Nat → Int32} (hC : CW ms me size rs visits) (hN : 1000000 ≤ N) (z p1 : Int32) :
    ∃ q q', f_X10_visit N z (nI n) ev size rs ms me dead met states visits p1 = some q ∧ f_X11_visit N z g lost p1 = some q' ∧ q.1 = q'.1 ∧ q.2.1 = q'.2.1 ∧ CW q.2.2.2.2.1 q.2.2.2.2.2.1 q.2.2.1 q.2.2.2.1 q.2.2.2.2.2.2.2.2.2 := by
  have hn := hP.1
  unfold f_X10_visit f_X11_visit
  rcases from_nat p1 0 1000 (by omega) (by omega) with ⟨h, t, t1, t2, rfl⟩ | h
  · have h' : f_X10_isFrom (nI t) 0 1000 = 1 := h
    have h'' : f_X11_within (nI t) 0 1000 = 1 := by rw [within_eq]; exact h
    rw [h', h'', if_neg i10ne, if_neg i10ne, hP.2.1]
    by_cases hz : n = 0
    · rw [if_pos ((nI_eq0 (by omega)).mpr hz), if_pos ((nI_eq0 (by omega)).mpr hz)]
      exact ⟨_, _, rfl, rfl, rfl, rfl, hC⟩
    · rw [if_neg (fun q => hz ((nI_eq0 (by omega)).mp q)), if_neg (fun q => hz ((nI_eq0 (by omega)).mp q))]
      obtain ⟨q, F, a1, a2, a3, a4, a5⟩ := wmake_eq (N := N) hP (by omega) hN (dead := dead) (met := met) (states := states) hC
      have hG : PG n F g := ⟨hn, a2.2.1, hP.2.1, fun p hp => by rw [← hP.2.2.1 p (by omega)]; exact a2.2.2 p hp⟩
      obtain ⟨l', l1, l2⟩ := wstrike_eq (N := N) hG (by omega) lost
      have hC' : CW q.2.2.1 q.2.2.2.1 q.1 q.2.1 q.2.2.2.2.2.2.2 := ⟨n, hn, a3, fun _ => ⟨F, a4, a5⟩⟩
      rw [bd_of a1, bd_of l1]
      have hv := vs_go (N := N) (host := z) (lost := l') hG (nI t) n N (by omega) (by omega)
      rw [Nat.sub_self] at hv
      have hv : f_X11_visit_b45 N g z l' (nI t) N 0 (nI n - 1) = _ := hv
      rw [hv]
      rcases a5 with ⟨e1, e2⟩ | ⟨sz, r, st, w, b1, b2, b3, b4, b5, b6, b7⟩
      · rw [if_neg ((l2 F a2.2.1).2 e2), bd_of (show f_X9_postAt q.1 q.2.1 q.2.2.2.2.2.2.2 (nI t) = some (-1000000003) by rw [e1]; rfl)]
        exact ⟨_, _, rfl, rfl, rfl, rfl, hC'⟩
      · obtain ⟨c1, c2⟩ := wwalk_go (N := N) (host := z) hG (by omega) b3 t2 l2 b7
        have hF0 := c1 0 b1
        rw [b6] at hF0
        have c3 := c2 t 0 N (by omega) (by omega)
        rw [show wix sz r 0 = 0 from if_pos b1, b6] at c3
        have c3 : f_X11_visit_b87 N g z l' (nI t) N (nI F) 0 = _ := c3
        rw [if_pos hF0, c3, bd_of (show f_X9_postAt q.1 q.2.1 q.2.2.2.2.2.2.2 (nI t) = some (q.2.2.2.2.2.2.2 (wix sz r t)) by rw [b4, b5]; exact wpost_eq b1 b2 b3 t2)]
        exact ⟨_, _, rfl, rfl, rfl, rfl, hC'⟩
  · have h' : f_X10_isFrom p1 0 1000 = 0 := h
    have h'' : f_X11_within p1 0 1000 = 0 := by rw [within_eq]; exact h
    rw [h', h'', if_pos rfl, if_pos rfl]
    exact ⟨_, _, rfl, rfl, rfl, rfl, hC⟩
end PWV
