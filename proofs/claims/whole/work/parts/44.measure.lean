/-! ===== measuring, on both sides ===== -/
section PME
abbrev cN (f : Nat → Int32) (r : Nat) : Nat := (f r).toNatClampNeg
def usS (b S : Nat) (r : Nat) : Bool := !(b.testBit r) && !(S.testBit r)
def ini (s : Nat) (v : Nat) : Nat := if v = s then 0 else 1000000
/-- the roads in numbers -/
def RNZ (n : Nat) (fr to len : Nat → Int32) : Prop := n ≤ 16 ∧ ∀ r, r < n → (fr r = nI (cN fr r) ∧ cN fr r < 10) ∧ (to r = nI (cN to r) ∧ cN to r < 10) ∧ (len r = nI (cN len r) ∧ 1 ≤ cN len r ∧ cN len r ≤ 100)
variable {n : Nat} {fr to len : Nat → Int32} {us : Nat → Bool}
theorem rr_rn {bar : Int32} {g : Nat → Int32} (h : RR n bar fr to len g) : RNZ n fr to len := by
  obtain ⟨a, b, c, -, e⟩ := h
  refine ⟨a, fun r hr => ?_⟩
  obtain ⟨c1, c2, c3⟩ := c r (by omega)
  obtain ⟨⟨i, i1, i2⟩, ⟨j, j1, j2⟩, ⟨w, w1, w2, w3⟩⟩ := e r hr
  unfold cN
  rw [c1, c2, c3, i2, j2, w3, nI_clamp (by omega), nI_clamp (by omega), nI_clamp (by omega)]
  exact ⟨⟨rfl, i1⟩, ⟨rfl, j1⟩, rfl, w1, w2⟩
def REP (x : Nat → Int32) (h : Nat → Nat) : Prop := ∀ v, v < 10 → x v = nI (h v) ∧ h v ≤ 1000000
abbrev rdsZ (us : Nat → Bool) (fr to len : Nat → Int32) (h : Nat → Nat) : Nat → Nat → Nat := rds us (cN fr) (cN to) (cN len) h
abbrev itrZ (n : Nat) (us : Nat → Bool) (fr to len : Nat → Int32) (h : Nat → Nat) : Nat → Nat → Nat := itr n us (cN fr) (cN to) (cN len) h
/-- the last roads -/
def LRZ (n : Nat) (us : Nat → Bool) (fr to len : Nat → Int32) (i0 h : Nat → Nat) (x : Nat → Int32) : Prop := ∀ v, v < 10 → (x v = -1 ∧ h v = i0 v) ∨ ∃ r, r < n ∧ us r = true ∧ cN to r = v ∧ x v = nI r ∧ h (cN fr r) + cN len r ≤ h v
theorem rep_le {x : Nat → Int32} {h h' : Nat → Nat} (hx : REP x h) (hl : ∀ v, h' v ≤ h v) (v : Nat) (hv : v < 10) : h' v ≤ 1000000 := Nat.le_trans (hl v) (hx v hv).2
theorem relax_go {N : Nat} (hR : RNZ n fr to len) {usb : Int32} (hu : ∀ r, r < 16 → bt usb r = us r) {i0 h : Nat → Nat} : ∀ (d k m : Nat) (x y : Nat → Int32) (v2 : Int32), k + d = n → d < m → REP x (rdsZ us fr to len h k) → LRZ n us fr to len i0 (rdsZ us fr to len h k) y →
    ((v2 = 0 ∧ rdsZ us fr to len h k = h) ∨ (v2 = 1 ∧ tot (rdsZ us fr to len h k) 10 < tot h 10)) →
    ∃ v x' y', f_X5_relax_b4 N (nI n) fr to len usb m x y v2 (nI k) = some (v, x', y') ∧ REP x' (rdsZ us fr to len h n) ∧ LRZ n us fr to len i0 (rdsZ us fr to len h n) y' ∧ ((v = 0 ∧ rdsZ us fr to len h n = h) ∨ (v = 1 ∧ tot (rdsZ us fr to len h n) 10 < tot h 10)) := by
  obtain ⟨hn, hr⟩ := id hR
  intro d
  induction d with
  | zero =>
    intro k m x y v2 h3 hm hx hy hv
    obtain ⟨m, rfl⟩ : ∃ z, m = z + 1 := ⟨m - 1, by omega⟩
    have hk : k = n := by omega
    subst hk
    rw [f_X5_relax_b4_s]
    unfold g_X5_relax_b4
    rw [if_pos ((nI_leI (by omega) (by omega)).mpr (by omega)), gB_of (by rcases hv with ⟨q, -⟩ | ⟨q, -⟩ <;> simp [q])]
    exact ⟨v2, x, y, rfl, hx, hy, hv⟩
  | succ d ih =>
    intro k m x y v2 h3 hm hx hy hv
    obtain ⟨m, rfl⟩ : ∃ z, m = z + 1 := ⟨m - 1, by omega⟩
    have hk : k < n := by omega
    obtain ⟨⟨f1, f2⟩, ⟨t1, t2⟩, ⟨l1, l2, l3⟩⟩ := hr k hk
    rw [f_X5_relax_b4_s]
    unfold g_X5_relax_b4
    rw [if_neg (fun q => absurd ((nI_leI (by omega) (by omega)).mp q) (by omega)), gI_n (by omega) (by omega), cl_n (by omega)]
    rw [f1, t1, l1, gI_n f2 (by omega), gI_n (by omega) (by omega), gI_n (by omega) (by omega), gI_n t2 (by omega), gI_n (by omega) (by omega), gI_n t2 (by omega), gI_n (by omega) (by omega), gI_n t2 (by omega), cl_n (by omega), cl_n (by omega), (hx _ f2).1, (hx _ t2).1, nI_add, bit01 _ (show k < 32 by omega), hu k (by omega), nI_1]
    generalize hH : rdsZ us fr to len h k = H at *
    have e : rdsZ us fr to len h (k + 1) = rx us (cN fr) (cN to) (cN len) H k := by rw [← hH]; rfl
    have b1 := (hx _ f2).2
    have b2 := (hx _ t2).2
    have c2 := nI_leI (a := H (cN to k)) (b := H (cN fr k) + cN len k) (by omega) (by omega)
    have same : (¬ (us k = true ∧ H (cN fr k) + cN len k < H (cN to k))) → ∃ v x' y', f_X5_relax_b4 N (nI n) fr to len usb m x y v2 (nI (k + 1)) = some (v, x', y') ∧ REP x' (rdsZ us fr to len h n) ∧ LRZ n us fr to len i0 (rdsZ us fr to len h n) y' ∧ ((v = 0 ∧ rdsZ us fr to len h n = h) ∨ (v = 1 ∧ tot (rdsZ us fr to len h n) 10 < tot h 10)) := by
      intro c
      have e2 : rdsZ us fr to len h (k + 1) = H := by rw [e]; unfold rx; rw [if_neg c]
      exact ih (k + 1) m x y v2 (by omega) (by omega) (by rw [e2]; exact hx) (by rw [e2]; exact hy) (by rw [e2]; exact hv)
    by_cases w : us k = true
    · rw [if_pos w, if_neg (by decide)]
      by_cases w2 : H (cN to k) ≤ H (cN fr k) + cN len k
      · rw [if_pos (c2.mpr w2)]
        exact same (by omega)
      · rw [if_neg (fun q => w2 (c2.mp q))]
        have c : us k = true ∧ H (cN fr k) + cN len k < H (cN to k) := ⟨w, by omega⟩
        have e3 : ∀ v, rdsZ us fr to len h (k + 1) v = if v = cN to k then H (cN fr k) + cN len k else H v := by
          intro v; rw [e]; unfold rx; rw [if_pos c]
        refine ih (k + 1) m _ _ 1 (by omega) (by omega) (fun v hv => ?_) (fun v hv => ?_) (Or.inr ⟨rfl, ?_⟩)
        · rw [e3 v]
          by_cases q : v = cN to k
          · rw [if_pos q, q, upd_s]; exact ⟨rfl, by omega⟩
          · rw [if_neg q, upd_n q]; exact hx v hv
        · by_cases q : v = cN to k
          · right
            refine ⟨k, hk, w, q.symm, by rw [q, upd_s], ?_⟩
            rw [e3 v, if_pos q, e3 (cN fr k)]
            split <;> omega
          · rw [e3 v, if_neg q, upd_n q]
            rcases hy v hv with ⟨z1, z2⟩ | ⟨r, r1, r2, r3, r4, r5⟩
            · exact Or.inl ⟨z1, z2⟩
            · refine Or.inr ⟨r, r1, r2, r3, r4, ?_⟩
              have := rx_le (us := us) (fr := cN fr) (to := cN to) (len := cN len) H k (cN fr r)
              rw [← e] at this
              omega
        · have lt := tot_lt (h := H) (h' := rdsZ us fr to len h (k + 1)) (fun v => by rw [e]; exact rx_le _ _ _) (w := cN to k) (by rw [e3, if_pos rfl]; omega) 10 t2
          have : tot H 10 ≤ tot h 10 := tot_le (fun v => by rw [← hH]; exact rds_le _ _ _) 10
          omega
    · rw [if_neg w, if_pos rfl]
      exact same (fun q => w q.1)
end PME
