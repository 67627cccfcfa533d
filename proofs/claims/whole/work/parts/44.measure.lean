/-! ===== measuring, on both sides ===== -/
section PME
abbrev cN (f : Nat → Int32) (r : Nat) : Nat := (f r).toNatClampNeg
def usS (b S : Nat) (r : Nat) : Bool := !(b.testBit r) && !(S.testBit r)
def ini (s : Nat) (v : Nat) : Nat := if v = s then 0 else 1000000
/-- the roads in numbers -/
def RNZ (n : Nat) (fr to len : Nat → Int32) : Prop := n ≤ 16 ∧ ∀ r, r < n → (fr r = nI (cN fr r) ∧ cN fr r < 10) ∧ (to r = nI (cN to r) ∧ cN to r < 10) ∧ (len r = nI (cN len r) ∧ 1 ≤ cN len r ∧ cN len r ≤ 100)
variable {n : Nat} {fr to len : Nat → Int32} {us : Nat → Bool}
theorem rr_rn {bar : Int32} {g : Nat → Int32} (h : RR n bar fr to len g) : RNZ n fr to len := by
  obtain ⟨a, b, c, -, e⟩ := h
  refine ⟨a, fun r hr => ?_⟩
  obtain ⟨c1, c2, c3⟩ := c r (by omega)
  obtain ⟨⟨i, i1, i2⟩, ⟨j, j1, j2⟩, ⟨w, w1, w2, w3⟩⟩ := e r hr
  unfold cN
  rw [c1, c2, c3, i2, j2, w3, nI_clamp (by omega), nI_clamp (by omega), nI_clamp (by omega)]
  exact ⟨⟨rfl, i1⟩, ⟨rfl, j1⟩, rfl, w1, w2⟩
def REP (x : Nat → Int32) (h : Nat → Nat) : Prop := ∀ v, v < 10 → x v = nI (h v) ∧ h v ≤ 1000000
abbrev rdsZ (us : Nat → Bool) (fr to len : Nat → Int32) (h : Nat → Nat) : Nat → Nat → Nat := rds us (cN fr) (cN to) (cN len) h
abbrev itrZ (n : Nat) (us : Nat → Bool) (fr to len : Nat → Int32) (h : Nat → Nat) : Nat → Nat → Nat := itr n us (cN fr) (cN to) (cN len) h
/-- the last roads -/
def LRZ (n : Nat) (us : Nat → Bool) (fr to len : Nat → Int32) (i0 h : Nat → Nat) (x : Nat → Int32) : Prop := ∀ v, v < 10 → (x v = -1 ∧ h v = i0 v) ∨ ∃ r, r < n ∧ us r = true ∧ cN to r = v ∧ x v = nI r ∧ h (cN fr r) + cN len r ≤ h v
theorem rep_le {x : Nat → Int32} {h h' : Nat → Nat} (hx : REP x h) (hl : ∀ v, h' v ≤ h v) (v : Nat) (hv : v < 10) : h' v ≤ 1000000 := Nat.le_trans (hl v) (hx v hv).2
theorem relax_go {N : Nat} (hR : RNZ n fr to len) {usb : Int32} (hu : ∀ r, r < 16 → bt usb r = us r) {i0 h : Nat → Nat} : ∀ (d k m : Nat) (x y : Nat → Int32) (v2 : Int32), k + d = n → d < m → REP x (rdsZ us fr to len h k) → LRZ n us fr to len i0 (rdsZ us fr to len h k) y →
    ((v2 = 0 ∧ rdsZ us fr to len h k = h) ∨ (v2 = 1 ∧ tot (rdsZ us fr to len h k) 10 < tot h 10)) →
    ∃ v x' y', f_X5_relax_b4 N (nI n) fr to len usb m x y v2 (nI k) = some (v, x', y') ∧ REP x' (rdsZ us fr to len h n) ∧ LRZ n us fr to len i0 (rdsZ us fr to len h n) y' ∧ ((v = 0 ∧ rdsZ us fr to len h n = h) ∨ (v = 1 ∧ tot (rdsZ us fr to len h n) 10 < tot h 10)) := by
  obtain ⟨hn, hr⟩ := id hR
  intro d
  induction d with
  | zero =>
    intro k m x y v2 h3 hm hx hy hv
    obtain ⟨m, rfl⟩ : ∃ z, m = z + 1 := ⟨m - 1, by omega⟩
    have hk : k = n := by omega
    subst hk
    rw [f_X5_relax_b4_s]
    unfold g_X5_relax_b4
    rw [if_pos ((nI_leI (by omega) (by omega)).mpr (by omega)), gB_of (by rcases hv with ⟨q, -⟩ | ⟨q, -⟩ <;> simp [q])]
    exact ⟨v2, x, y, rfl, hx, hy, hv⟩
  | succ d ih =>
    intro k m x y v2 h3 hm hx hy hv
    obtain ⟨m, rfl⟩ : ∃ z, m = z + 1 := ⟨m - 1, by omega⟩
    have hk : k < n := by omega
    obtain ⟨⟨f1, f2⟩, ⟨t1, t2⟩, ⟨l1, l2, l3⟩⟩ := hr k hk
    rw [f_X5_relax_b4_s]
    unfold g_X5_relax_b4
    rw [if_neg (fun q => absurd ((nI_leI (by omega) (by omega)).mp q) (by omega)), gI_n (by omega) (by omega), cl_n (by omega)]
    rw [f1, t1, l1, gI_n f2 (by omega), gI_n (by omega) (by omega), gI_n (by omega) (by omega), gI_n t2 (by omega), gI_n (by omega) (by omega), gI_n t2 (by omega), gI_n (by omega) (by omega), gI_n t2 (by omega), cl_n (by omega), cl_n (by omega), (hx _ f2).1, (hx _ t2).1, nI_add, bit01 _ (show k < 32 by omega), hu k (by omega), nI_1]
    generalize hH : rdsZ us fr to len h k = H at *
    have e : rdsZ us fr to len h (k + 1) = rx us (cN fr) (cN to) (cN len) H k := by rw [← hH]; rfl
    have b1 := (hx _ f2).2
    have b2 := (hx _ t2).2
    have c2 := nI_leI (a := H (cN to k)) (b := H (cN fr k) + cN len k) (by omega) (by omega)
    have same : (¬ (us k = true ∧ H (cN fr k) + cN len k < H (cN to k))) → ∃ v x' y', f_X5_relax_b4 N (nI n) fr to len usb m x y v2 (nI (k + 1)) = some (v, x', y') ∧ REP x' (rdsZ us fr to len h n) ∧ LRZ n us fr to len i0 (rdsZ us fr to len h n) y' ∧ ((v = 0 ∧ rdsZ us fr to len h n = h) ∨ (v = 1 ∧ tot (rdsZ us fr to len h n) 10 < tot h 10)) := by
      intro c
      have e2 : rdsZ us fr to len h (k + 1) = H := by rw [e]; unfold rx; rw [if_neg c]
      exact ih (k + 1) m x y v2 (by omega) (by omega) (by rw [e2]; exact hx) (by rw [e2]; exact hy) (by rw [e2]; exact hv)
    by_cases w : us k = true
    · rw [if_pos w, if_neg (by decide)]
      by_cases w2 : H (cN to k) ≤ H (cN fr k) + cN len k
      · rw [if_pos (c2.mpr w2)]
        exact same (by omega)
      · rw [if_neg (fun q => w2 (c2.mp q))]
        have c : us k = true ∧ H (cN fr k) + cN len k < H (cN to k) := ⟨w, by omega⟩
        have e3 : ∀ v, rdsZ us fr to len h (k + 1) v = if v = cN to k then H (cN fr k) + cN len k else H v := by
          intro v; rw [e]; unfold rx; rw [if_pos c]
        refine ih (k + 1) m _ _ 1 (by omega) (by omega) (fun v hv => ?_) (fun v hv => ?_) (Or.inr ⟨rfl, ?_⟩)
        · rw [e3 v]
          by_cases q : v = cN to k
          · rw [if_pos q, q, upd_s]; exact ⟨rfl, by omega⟩
          · rw [if_neg q, upd_n q]; exact hx v hv
        · by_cases q : v = cN to k
          · right
            refine ⟨k, hk, w, q.symm, by rw [q, upd_s], ?_⟩
            have ne : cN fr k ≠ cN to k := fun z => by
              have := c.2
              rw [z] at this
              omega
            rw [e3 v, if_pos q, e3 (cN fr k), if_neg ne]
            exact Nat.le_refl _
          · rw [e3 v, if_neg q, upd_n q]
            rcases hy v hv with ⟨z1, z2⟩ | ⟨r, r1, r2, r3, r4, r5⟩
            · exact Or.inl ⟨z1, z2⟩
            · refine Or.inr ⟨r, r1, r2, r3, r4, ?_⟩
              have := rx_le (us := us) (fr := cN fr) (to := cN to) (len := cN len) H k (cN fr r)
              rw [← e] at this
              omega
        · have lt := tot_lt (h := H) (h' := rdsZ us fr to len h (k + 1)) (fun v => by rw [e]; exact rx_le _ _ _) (w := cN to k) (by rw [e3, if_pos rfl]; omega) 10 t2
          have : tot H 10 ≤ tot h 10 := tot_le (fun v => by rw [← hH]; exact rds_le _ _ _) 10
          omega
    · rw [if_neg w, if_pos rfl]
      exact same (fun q => w q.1)
theorem relax_eq {N : Nat} (hN : 100 ≤ N) (hR : RNZ n fr to len) {usb : Int32} (hu : ∀ r, r < 16 → bt usb r = us r) {i0 h : Nat → Nat} {x y : Nat → Int32} (hx : REP x h) (hy : LRZ n us fr to len i0 h y) :
    ∃ v x' y', f_X5_relax N (nI n) fr to len x y usb = some (v, x', y') ∧ REP x' (rdsZ us fr to len h n) ∧ LRZ n us fr to len i0 (rdsZ us fr to len h n) y' ∧ ((v = 0 ∧ FIX n us (cN fr) (cN to) (cN len) (rdsZ us fr to len h n)) ∨ v = 1) := by
  unfold f_X5_relax
  have hn := hR.1
  obtain ⟨v, x', y', q1, q2, q3, q4⟩ := relax_go (N := N) (us := us) (i0 := i0) (h := h) hR hu n 0 N x y 0 (by omega) (by omega) hx hy (Or.inl ⟨rfl, rfl⟩)
  refine ⟨v, x', y', q1, q2, q3, ?_⟩
  rcases q4 with ⟨z1, z2⟩ | ⟨z1, -⟩
  · refine Or.inl ⟨z1, ?_⟩
    rw [z2]
    apply Classical.byContradiction
    intro w
    obtain ⟨r, r1, r2, r3⟩ := nfix w
    have z3 := congrFun z2 (cN to r)
    have z4 : rds us (cN fr) (cN to) (cN len) h n (cN to r) = h (cN to r) := z3
    omega
  · exact Or.inr z1
abbrev dsZ (n : Nat) (us : Nat → Bool) (fr to len : Nat → Int32) (s : Nat) : Nat → Nat := itrZ n us fr to len (ini s) 9
theorem rep_congr {x : Nat → Int32} {h h' : Nat → Nat} (hx : REP x h) (e : ∀ v, v < 10 → h v = h' v) : REP x h' := fun v hv => by rw [← e v hv]; exact hx v hv
theorem lrz_congr (hR : RNZ n fr to len) {i0 h h' : Nat → Nat} {x : Nat → Int32} (hx : LRZ n us fr to len i0 h x) (e : ∀ v, v < 10 → h v = h' v) : LRZ n us fr to len i0 h' x := fun v hv => by
  rcases hx v hv with ⟨z1, z2⟩ | ⟨r, r1, r2, r3, r4, r5⟩
  · exact Or.inl ⟨z1, by rw [← e v hv]; exact z2⟩
  · exact Or.inr ⟨r, r1, r2, r3, r4, by rw [← e v hv, ← e _ (hR.2 r r1).1.2]; exact r5⟩
theorem rn_l (hR : RNZ n fr to len) : ∀ r, r < n → 1 ≤ cN len r := fun r hr => (hR.2 r hr).2.2.2.1
theorem rn_b (hR : RNZ n fr to len) : ∀ r, r < n → cN fr r < 10 ∧ cN to r < 10 := fun r hr => ⟨(hR.2 r hr).1.2, (hR.2 r hr).2.1.2⟩
theorem meas_go {N : Nat} (hN : 100 ≤ N) (hR : RNZ n fr to len) {usb bar : Int32} (hu : ∀ r, r < 16 → bt usb r = us r) {s e : Nat} (hs : s < 10) (he : e < 10) : ∀ (d k m : Nat) (x y : Nat → Int32) (v : Int32), k + d = 10 → d < m → REP x (itrZ n us fr to len (ini s) k) → LRZ n us fr to len (ini s) (itrZ n us fr to len (ini s) k) y →
    ((v = 0 ∧ FIX n us (cN fr) (cN to) (cN len) (itrZ n us fr to len (ini s) k)) ∨ v = 1) →
    ∃ x' y', f_X5_measure_b40 N (nI n) bar fr to len (nI e) usb m x y v (nI k) = some (nI (dsZ n us fr to len s e), x', y') ∧ REP x' (dsZ n us fr to len s) ∧ LRZ n us fr to len (ini s) (dsZ n us fr to len s) y' := by
  have hi : ini s s = 0 := if_pos rfl
  obtain ⟨D1, D2, D3⟩ := dist_ok (us := us) (rn_l hR) (rn_b hR) hs hi
  intro d
  induction d with
  | zero =>
    intro k m x y v h3 hm hx hy hv
    obtain ⟨m, rfl⟩ : ∃ z, m = z + 1 := ⟨m - 1, by omega⟩
    rw [f_X5_measure_b40_s]
    unfold g_X5_measure_b40
    have q := D2 k (by omega)
    rw [if_pos ((nI_leC (k := 10) (a := 10) rfl (by omega) (by omega)).mpr (by omega)), gI_n he (by omega), cl_n (by omega), (hx e he).1]
    exact ⟨x, y, by rw [show itrZ n us fr to len (ini s) k e = dsZ n us fr to len s e from q e he], rep_congr hx q, lrz_congr hR hy q⟩
  | succ d ih =>
    intro k m x y v h3 hm hx hy hv
    obtain ⟨m, rfl⟩ : ∃ z, m = z + 1 := ⟨m - 1, by omega⟩
    rw [f_X5_measure_b40_s]
    unfold g_X5_measure_b40
    rw [if_neg (fun q => absurd ((nI_leC (k := 10) (a := 10) rfl (by omega) (by omega)).mp q) (by omega))]
    rcases hv with ⟨rfl, hv⟩ | rfl
    · have q := D3 k hv
      rw [if_pos rfl, gI_n he (by omega), cl_n (by omega), (hx e he).1]
      exact ⟨x, y, by rw [show itrZ n us fr to len (ini s) k e = dsZ n us fr to len s e from q e he], rep_congr hx q, lrz_congr hR hy q⟩
    · obtain ⟨v, x', y', q1, q2, q3, q4⟩ := relax_eq hN hR hu hx hy
      rw [if_neg (by decide), q1, bd_of rfl, nI_1]
      exact ih (k + 1) m x' y' v (by omega) (by omega) q2 q3 q4
theorem usb_bt {b S : Nat} (r : Nat) (hr : r < 16) : bt ((nI b ||| nI S) ^^^ (-1)) r = usS b S r := by
  rw [b_xor, b_or, b_m1 r (by omega), bt_n _ (by omega), bt_n _ (by omega)]
  unfold usS
  cases b.testBit r <;> cases S.testBit r <;> rfl
end PME
