/-! ===== shortest ===== -/
section PSH
variable {n : Nat} {fr to len g : Nat → Int32} {us : Nat → Bool}
theorem measure_eq {N : Nat} (hN : 100 ≤ N) (hR : RNZ n fr to len) {b S s e : Nat} (hs : s < 10) (he : e < 10) (x y : Nat → Int32) :
    ∃ x' y', f_X5_measure N (nI n) (nI b) fr to len x y (nI s) (nI e) (nI S) = some (nI (dsZ n (usS b S) fr to len s e), x', y') ∧ REP x' (dsZ n (usS b S) fr to len s) ∧ LRZ n (usS b S) fr to len (ini s) (dsZ n (usS b S) fr to len s) y' := by
  unfold f_X5_measure
  rw [fill_eq (by omega) (by omega), bd_of rfl, fill_eq (by omega) (by omega), bd_of rfl, gI_n hs (by omega), cl_n (by omega)]
  refine meas_go hN hR (us := usS b S) (fun r hr => usb_bt r hr) hs he 10 0 N _ _ 1 (by omega) (by omega) (fun v hv => ?_) (fun v hv => Or.inl ⟨?_, rfl⟩) (Or.inr rfl)
  · show upd _ s 0 v = nI (ini s v) ∧ ini s v ≤ 1000000
    unfold ini
    by_cases q : v = s
    · rw [if_pos q, q, upd_s]; exact ⟨rfl, by omega⟩
    · rw [if_neg q, upd_n q]
      exact ⟨by unfold fillF; rw [if_pos hv]; rfl, by omega⟩
  · unfold fillF; rw [if_pos hv]
theorem sw_in {N : Nat} (hR : RNZ n fr to len) {b S : Nat} (hg2 : g 2 = nI n) (hg : ∀ r, r < 16 → fr r = g (85 + r) ∧ to r = g (101 + r) ∧ len r = g (117 + r)) (hb : ∀ r, r < 16 → g (133 + r) = bitI b r) (kk : (Nat → Int32) → Int32 → Option (Int32 × (Nat → Int32))) (e : Int32) {h : Nat → Nat} : ∀ (d k m : Nat) (x : Nat → Int32) (v : Int32), k + d = n → d < m → REP x (rdsZ (usS b S) fr to len h k) →
    ((v = 0 ∧ rdsZ (usS b S) fr to len h k = h) ∨ (v = 1 ∧ tot (rdsZ (usS b S) fr to len h k) 10 < tot h 10)) → ∃ v' x', f_X11_shortWithout_b49 N g kk e (nI S) m x v (nI k) = kk x' v' ∧ REP x' (rdsZ (usS b S) fr to len h n) ∧ ((v' = 0 ∧ rdsZ (usS b S) fr to len h n = h) ∨ (v' = 1 ∧ tot (rdsZ (usS b S) fr to len h n) 10 < tot h 10)) := by
  obtain ⟨hn, hr⟩ := id hR
  intro d
  induction d with
  | zero =>
    intro k m x v h3 hm hx hv
    obtain ⟨m, rfl⟩ : ∃ z, m = z + 1 := ⟨m - 1, by omega⟩
    have hk : k = n := by omega
    subst hk
    rw [f_X11_shortWithout_b49_s]
    unfold g_X11_shortWithout_b49
    rw [hg2, if_pos ((nI_leI (by omega) (by omega)).mpr (by omega))]
    exact ⟨v, x, rfl, hx, hv⟩
  | succ d ih =>
    intro k m x v h3 hm hx hv
    obtain ⟨m, rfl⟩ : ∃ z, m = z + 1 := ⟨m - 1, by omega⟩
    have hk : k < n := by omega
    obtain ⟨⟨f1, f2⟩, ⟨t1, t2⟩, ⟨l1, l2, l3⟩⟩ := hr k hk
    obtain ⟨g1, g3, g4⟩ := hg k (by omega)
    rw [f_X11_shortWithout_b49_s]
    unfold g_X11_shortWithout_b49
    rw [hg2, if_neg (fun q => absurd ((nI_leI (by omega) (by omega)).mp q) (by omega)), gI_85 (by omega), gI_117 (by omega), gI_133 (by omega), gI_101 (by omega), gI_101 (by omega), cl_85 (by omega), cl_117 (by omega), cl_133 (by omega), cl_101 (by omega), ← g1, ← g3, ← g4, hb k (by omega)]
    rw [f1, t1, l1, gI_n f2 (by omega), gI_n t2 (by omega), gI_n t2 (by omega), cl_n (by omega), cl_n (by omega), (hx _ f2).1, (hx _ t2).1, nI_add, bit01 _ (show k < 32 by omega), bt_n _ (show k < 32 by omega), nI_1]
    generalize hH : rdsZ (usS b S) fr to len h k = H at *
    have e : rdsZ (usS b S) fr to len h (k + 1) = rx (usS b S) (cN fr) (cN to) (cN len) H k := by rw [← hH]; rfl
    have b1 := (hx _ f2).2
    have b2 := (hx _ t2).2
    have c2 := nI_leI (a := H (cN to k)) (b := H (cN fr k) + cN len k) (by omega) (by omega)
    have same : (¬ (usS b S k = true ∧ H (cN fr k) + cN len k < H (cN to k))) → ∃ v' x', f_X11_shortWithout_b49 N g kk ‹_› (nI S) m x v (nI (k + 1)) = kk x' v' ∧ REP x' (rdsZ (usS b S) fr to len h n) ∧ ((v' = 0 ∧ rdsZ (usS b S) fr to len h n = h) ∨ (v' = 1 ∧ tot (rdsZ (usS b S) fr to len h n) 10 < tot h 10)) := by
      intro c
      have e2 : rdsZ (usS b S) fr to len h (k + 1) = H := by rw [e]; unfold rx; rw [if_neg c]
      exact ih (k + 1) m x v (by omega) (by omega) (by rw [e2]; exact hx) (by rw [e2]; exact hv)
    unfold bitI
    by_cases w1 : S.testBit k = true
    · rw [if_pos w1, if_neg (by decide)]
      exact same (fun q => by have := q.1; unfold usS at this; simp [w1] at this)
    · rw [if_neg w1, if_pos rfl]
      by_cases w3 : b.testBit k = true
      · rw [if_pos w3, if_neg (by decide)]
        exact same (fun q => by have := q.1; unfold usS at this; simp [w3] at this)
      · rw [if_neg w3, if_pos rfl]
        have w : usS b S k = true := by
          unfold usS
          simp at w1 w3
          simp [w1, w3]
        by_cases w2 : H (cN to k) ≤ H (cN fr k) + cN len k
        · rw [if_pos (c2.mpr w2)]
          exact same (by omega)
        · rw [if_neg (fun q => w2 (c2.mp q))]
          have c : usS b S k = true ∧ H (cN fr k) + cN len k < H (cN to k) := ⟨w, by omega⟩
          have e3 : ∀ v, rdsZ (usS b S) fr to len h (k + 1) v = if v = cN to k then H (cN fr k) + cN len k else H v := by
            intro v; rw [e]; unfold rx; rw [if_pos c]
          refine ih (k + 1) m _ 1 (by omega) (by omega) (fun v hv => ?_) (Or.inr ⟨rfl, ?_⟩)
          · rw [e3 v]
            by_cases q : v = cN to k
            · rw [if_pos q, q, upd_s]; exact ⟨rfl, by omega⟩
            · rw [if_neg q, upd_n q]; exact hx v hv
          · have lt := tot_lt (h := H) (h' := rdsZ (usS b S) fr to len h (k + 1)) (fun v => by rw [e]; exact rx_le _ _ _) (w := cN to k) (by rw [e3, if_pos rfl]; omega) 10 t2
            have : tot H 10 ≤ tot h 10 := tot_le (fun v => by rw [← hH]; exact rds_le _ _ _) 10
            omega
theorem sw_go {N : Nat} (hN : 100 ≤ N) (hR : RNZ n fr to len) {b S : Nat} (hg2 : g 2 = nI n) (hg : ∀ r, r < 16 → fr r = g (85 + r) ∧ to r = g (101 + r) ∧ len r = g (117 + r)) (hb : ∀ r, r < 16 → g (133 + r) = bitI b r) {s e : Nat} (hs : s < 10) (he : e < 10) : ∀ (d k m : Nat) (x : Nat → Int32) (v : Int32), k + d = 11 → d < m → REP x (itrZ n (usS b S) fr to len (ini s) k) →
    ((v = 0 ∧ FIX n (usS b S) (cN fr) (cN to) (cN len) (itrZ n (usS b S) fr to len (ini s) k)) ∨ v = 1) → (k = 11 → v = 0) →
    ∃ x', f_X11_shortWithout_b38 N g (nI e) (nI S) m x v = some (nI (dsZ n (usS b S) fr to len s e), x') := by
  have hi : ini s s = 0 := if_pos rfl
  obtain ⟨D1, D2, D3⟩ := dist_ok (us := usS b S) (rn_l hR) (rn_b hR) hs hi
  have hn := hR.1
  have stop : ∀ (k m : Nat) (x : Nat → Int32), 0 < m → REP x (itrZ n (usS b S) fr to len (ini s) k) → FIX n (usS b S) (cN fr) (cN to) (cN len) (itrZ n (usS b S) fr to len (ini s) k) → ∃ x', f_X11_shortWithout_b38 N g (nI e) (nI S) m x 0 = some (nI (dsZ n (usS b S) fr to len s e), x') := by
    intro k m x hm hx hf
    obtain ⟨m, rfl⟩ : ∃ z, m = z + 1 := ⟨m - 1, by omega⟩
    rw [f_X11_shortWithout_b38_s]
    unfold g_X11_shortWithout_b38
    have q := D3 k hf
    have q2 : itrZ n (usS b S) fr to len (ini s) k e = dsZ n (usS b S) fr to len s e := q e he
    have b := (hx e he).2
    rw [if_pos rfl, gI_n he (by omega), cl_n (by omega), (hx e he).1, if_neg (fun z => by
      rw [show (1000000 : Int32) = nI 1000000 from rfl, nI_ltI (by omega) (by omega)] at z; omega), q2]
    exact ⟨x, rfl⟩
  intro d
  induction d with
  | zero =>
    intro k m x v h3 hm hx hv hk
    rcases hv with ⟨rfl, hf⟩ | rfl
    · exact stop k m x hm hx hf
    · exact absurd (hk (by omega)) (by decide)
  | succ d ih =>
    intro k m x v h3 hm hx hv hk
    rcases hv with ⟨rfl, hf⟩ | rfl
    · exact stop k m x (by omega) hx hf
    · obtain ⟨m, rfl⟩ : ∃ z, m = z + 1 := ⟨m - 1, by omega⟩
      rw [f_X11_shortWithout_b38_s]
      unfold g_X11_shortWithout_b38
      obtain ⟨v', x', q1, q2, q3⟩ := sw_in (N := N) (S := S) hR hg2 hg hb (fun x_far v4 => f_X11_shortWithout_b38 N g (nI e) (nI S) m x_far v4) (nI e) (h := itrZ n (usS b S) fr to len (ini s) k) n 0 N x 0 (by omega) (by omega) hx (Or.inl ⟨rfl, rfl⟩)
      rw [show nI 0 = 0 from rfl] at q1
      rw [if_neg (by decide), q1]
      have fx : rdsZ (usS b S) fr to len (itrZ n (usS b S) fr to len (ini s) k) n = itrZ n (usS b S) fr to len (ini s) k → FIX n (usS b S) (cN fr) (cN to) (cN len) (itrZ n (usS b S) fr to len (ini s) (k + 1)) := by
        intro z
        show FIX n (usS b S) (cN fr) (cN to) (cN len) (rdsZ (usS b S) fr to len (itrZ n (usS b S) fr to len (ini s) k) n)
        rw [z]
        apply Classical.byContradiction
        intro w
        obtain ⟨r, r1, r2, r3⟩ := nfix w
        have z3 := congrFun z (cN to r)
        have z4 : rds (usS b S) (cN fr) (cN to) (cN len) (itrZ n (usS b S) fr to len (ini s) k) n (cN to r) = itrZ n (usS b S) fr to len (ini s) k (cN to r) := z3
        omega
      refine ih (k + 1) m x' v' (by omega) (by omega) q2 ?_ ?_
      · rcases q3 with ⟨z1, z2⟩ | z1
        · exact Or.inl ⟨z1, fx z2⟩
        · exact Or.inr z1.1
      · intro hk11
        rcases q3 with ⟨z1, z2⟩ | z1
        · exact z1
        · exfalso
          have fk : FIX n (usS b S) (cN fr) (cN to) (cN len) (itrZ n (usS b S) fr to len (ini s) k) := by
            intro r hr hu
            have x1 : itrZ n (usS b S) fr to len (ini s) k (cN to r) = _ := D2 k (by omega) _ (rn_b hR r hr).2
            have x2 : itrZ n (usS b S) fr to len (ini s) k (cN fr r) = _ := D2 k (by omega) _ (rn_b hR r hr).1
            rw [x1, x2]
            exact D1 r hr hu
          have z2 := z1.2
          have z3 : rdsZ (usS b S) fr to len (itrZ n (usS b S) fr to len (ini s) k) n = itrZ n (usS b S) fr to len (ini s) k := fix_rds fk n (Nat.le_refl n)
          rw [z3] at z2
          omega
theorem swi_go {N : Nat} (b S : Nat) (s : Nat) (hs : s < 10) (e : Int32) : ∀ (d k m : Nat) (x : Nat → Int32), k + d = 10 → d < m → (∀ v, v < k → x v = nI (ini s v)) → ∃ x', (∀ v, v < 10 → x' v = nI (ini s v)) ∧ f_X11_shortWithout_b3 N g (nI s) e (nI S) m x (nI k) = f_X11_shortWithout_b38 N g e (nI S) N x' 1 := by
  intro d
  induction d with
  | zero =>
    intro k m x h3 hm hx
    obtain ⟨m, rfl⟩ : ∃ z, m = z + 1 := ⟨m - 1, by omega⟩
    rw [f_X11_shortWithout_b3_s]
    unfold g_X11_shortWithout_b3
    rw [if_pos ((nI_leC (k := 10) (a := 10) rfl (by omega) (by omega)).mpr (by omega))]
    exact ⟨x, fun v hv => hx v (by omega), rfl⟩
  | succ d ih =>
    intro k m x h3 hm hx
    obtain ⟨m, rfl⟩ : ∃ z, m = z + 1 := ⟨m - 1, by omega⟩
    rw [f_X11_shortWithout_b3_s]
    unfold g_X11_shortWithout_b3
    rw [if_neg (fun q => absurd ((nI_leC (k := 10) (a := 10) rfl (by omega) (by omega)).mp q) (by omega)), gI_n (by omega) (by omega), gI_n (by omega) (by omega), cl_n (by omega), nI_1]
    by_cases w : k = s
    · rw [if_pos (by rw [w])]
      refine ih (k + 1) m _ (by omega) (by omega) (fun v hv => ?_)
      by_cases q : v = k
      · rw [q, upd_s]; unfold ini; rw [if_pos w]; rfl
      · rw [upd_n q]; exact hx v (by omega)
    · rw [if_neg (fun q => w ((nI_eq (by omega) (by omega)).mp q))]
      refine ih (k + 1) m _ (by omega) (by omega) (fun v hv => ?_)
      by_cases q : v = k
      · rw [q, upd_s]; unfold ini; rw [if_neg w]; rfl
      · rw [upd_n q]; exact hx v (by omega)
theorem ini_le (s v : Nat) : ini s v ≤ 1000000 := by unfold ini; split <;> omega
theorem short_eq {N : Nat} (hN : 100 ≤ N) {b S : Nat} (hR : RNZ n fr to len) (hg2 : g 2 = nI n) (hg : ∀ r, r < 16 → fr r = g (85 + r) ∧ to r = g (101 + r) ∧ len r = g (117 + r)) (hb : ∀ r, r < 16 → g (133 + r) = bitI b r) {s e : Nat} (hs : s < 10) (he : e < 10) (x : Nat → Int32) :
    ∃ x', f_X11_shortWithout N g x (nI s) (nI e) (nI S) = some (nI (dsZ n (usS b S) fr to len s e), x') := by
  unfold f_X11_shortWithout
  obtain ⟨x', q1, q2⟩ := swi_go (N := N) (g := g) b S s hs (nI e) 10 0 N x (by omega) (by omega) (fun v hv => absurd hv (by omega))
  rw [show nI 0 = 0 from rfl] at q2
  rw [q2]
  exact sw_go hN hR hg2 hg hb hs he 11 0 N x' 1 (by omega) (by omega) (fun v hv => ⟨q1 v hv, ini_le s v⟩) (Or.inr rfl) (by omega)
theorem placeZ_cases (p : Int32) : (f_X10_isPlace p = 1 ∧ f_X11_isPlace p = 1 ∧ ∃ j, j < 10 ∧ p = nI j) ∨ (f_X10_isPlace p = 0 ∧ f_X11_isPlace p = 0) := by
  unfold f_X10_isPlace f_X11_isPlace
  rw [within_eq]
  rcases from_cases p 0 9 with ⟨h, h1, h2⟩ | ⟨h, -⟩
  · left
    rw [i0] at h1
    exact ⟨h, h, nI_of_toInt (n := 10) h1 (by have : (9 : Int32).toInt = 9 := rfl; omega)⟩
  · exact Or.inr ⟨h, h⟩
theorem ds_le (us : Nat → Bool) (s v : Nat) : dsZ n us fr to len s v ≤ 1000000 := Nat.le_trans (itr_le _ _ _) (ini_le s v)
theorem po_shortest {bar : Int32} {N : Nat} (hN : 100 ≤ N) (h : RR n bar fr to len g) (x y z : Nat → Int32) (p1 p2 : Int32) :
    ∃ q q', f_X10_shortest N (nI n) bar fr to len x y p1 p2 = some q ∧ f_X11_shortest N g z p1 p2 = some q' ∧ q.1 = q'.1 := by
  have hR := rr_rn h
  obtain ⟨a, hg2, hg, ⟨b, b1, rfl, b3, b4⟩, -⟩ := h
  unfold f_X10_shortest f_X11_shortest
  rcases placeZ_cases p1 with ⟨e1, e2, s, hs, rfl⟩ | ⟨e1, e2⟩
  · rw [e1, e2, if_neg i10ne, if_neg i10ne]
    rcases placeZ_cases p2 with ⟨e1, e2, e, he, rfl⟩ | ⟨e1, e2⟩
    · rw [e1, e2, if_neg i10ne, if_neg i10ne]
      obtain ⟨x', y', m1, -, -⟩ := measure_eq hN hR (b := b) (S := 0) hs he x y
      obtain ⟨z', m2⟩ := short_eq hN (S := 0) hR hg2 hg b3 hs he z
      rw [show nI 0 = 0 from rfl] at m1 m2
      rw [m1, m2, bd_of rfl, bd_of rfl]
      have q := ds_le (n := n) (fr := fr) (to := to) (len := len) (usS b 0) s e
      generalize dsZ n (usS b 0) fr to len s e = D at *
      show ∃ q q', (if nI D < 1000000 then some (nI D, x', y') else some (-1000000003, x', y')) = some q ∧ (if nI D = 1000000 then some (-1000000003, z') else some (nI D, z')) = some q' ∧ q.1 = q'.1
      have c1 : nI D < 1000000 ↔ D < 1000000 := by rw [show (1000000 : Int32) = nI 1000000 from rfl, nI_ltI (by omega) (by omega)]
      have c2 : nI D = 1000000 ↔ D = 1000000 := by rw [show (1000000 : Int32) = nI 1000000 from rfl, nI_eq (by omega) (by omega)]
      by_cases w : D = 1000000
      · rw [if_neg (fun z => by have := c1.mp z; omega), if_pos (c2.mpr w)]
        exact ⟨_, _, rfl, rfl, rfl⟩
      · rw [if_pos (c1.mpr (by omega)), if_neg (fun z => w (c2.mp z))]
        exact ⟨_, _, rfl, rfl, rfl⟩
    · rw [e1, e2, if_pos rfl, if_pos rfl]
      exact ⟨_, _, rfl, rfl, rfl⟩
  · rw [e1, e2, if_pos rfl, if_pos rfl]
    exact ⟨_, _, rfl, rfl, rfl⟩
end PSH
