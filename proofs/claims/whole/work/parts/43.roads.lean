/-! ===== the shortest ways ===== -/
section PRD
/-- one road, the first k roads -/
def rx (us : Nat → Bool) (fr to len : Nat → Nat) (h : Nat → Nat) (r : Nat) : Nat → Nat := if us r = true ∧ h (fr r) + len r < h (to r) then (fun v => if v = to r then h (fr r) + len r else h v) else h
def rds (us : Nat → Bool) (fr to len : Nat → Nat) (h : Nat → Nat) : Nat → Nat → Nat
  | 0 => h
  | k + 1 => rx us fr to len (rds us fr to len h k) k
def itr (n : Nat) (us : Nat → Bool) (fr to len : Nat → Nat) (h : Nat → Nat) : Nat → Nat → Nat
  | 0 => h
  | k + 1 => rds us fr to len (itr n us fr to len h k) n
def FIX (n : Nat) (us : Nat → Bool) (fr to len : Nat → Nat) (h : Nat → Nat) : Prop := ∀ r, r < n → us r = true → h (to r) ≤ h (fr r) + len r
variable {n : Nat} {us : Nat → Bool} {fr to len : Nat → Nat}
theorem rx_le (h : Nat → Nat) (r v : Nat) : rx us fr to len h r v ≤ h v := by
  unfold rx
  by_cases c : us r = true ∧ h (fr r) + len r < h (to r)
  · rw [if_pos c]
    show (if v = to r then h (fr r) + len r else h v) ≤ h v
    by_cases d : v = to r
    · rw [if_pos d, d]; omega
    · rw [if_neg d]; exact Nat.le_refl _
  · rw [if_neg c]; exact Nat.le_refl _
theorem rx_to (h : Nat → Nat) (r : Nat) (hu : us r = true) : rx us fr to len h r (to r) ≤ h (fr r) + len r := by
  unfold rx
  by_cases c : us r = true ∧ h (fr r) + len r < h (to r)
  · rw [if_pos c]
    show (if to r = to r then h (fr r) + len r else h (to r)) ≤ _
    rw [if_pos rfl]; exact Nat.le_refl _
  · rw [if_neg c]
    have : ¬ h (fr r) + len r < h (to r) := fun z => c ⟨hu, z⟩
    omega
theorem rds_mono (h : Nat → Nat) (v : Nat) : ∀ d j, rds us fr to len h (j + d) v ≤ rds us fr to len h j v := by
  intro d
  induction d with
  | zero => intro j; exact Nat.le_refl _
  | succ d ih => intro j; exact Nat.le_trans (rx_le _ _ _) (ih j)
theorem rds_le (h : Nat → Nat) (k v : Nat) : rds us fr to len h k v ≤ h v := by
  have := rds_mono (us := us) (fr := fr) (to := to) (len := len) h v k 0
  rw [Nat.zero_add] at this
  exact this
theorem fix_rx {h : Nat → Nat} (hf : FIX n us fr to len h) {r : Nat} (hr : r < n) : rx us fr to len h r = h := by
  unfold rx
  rw [if_neg]
  rintro ⟨a, b⟩
  have := hf r hr a
  omega
theorem fix_rds {h : Nat → Nat} (hf : FIX n us fr to len h) : ∀ k, k ≤ n → rds us fr to len h k = h := by
  intro k
  induction k with
  | zero => intro _; rfl
  | succ k ih =>
    intro hk
    show rx us fr to len (rds us fr to len h k) k = h
    rw [ih (by omega), fix_rx hf (by omega)]
/-- a fixpoint below stays below -/
theorem lb_rx {f h : Nat → Nat} (hf : FIX n us fr to len f) (hl : ∀ v, f v ≤ h v) {r : Nat} (hr : r < n) (v : Nat) : f v ≤ rx us fr to len h r v := by
  unfold rx
  by_cases c : us r = true ∧ h (fr r) + len r < h (to r)
  · rw [if_pos c]
    show f v ≤ (if v = to r then h (fr r) + len r else h v)
    by_cases d : v = to r
    · rw [if_pos d, d]
      have := hf r hr c.1
      have := hl (fr r)
      omega
    · rw [if_neg d]; exact hl v
  · rw [if_neg c]; exact hl v
theorem lb_rds {f h : Nat → Nat} (hf : FIX n us fr to len f) (hl : ∀ v, f v ≤ h v) : ∀ k, k ≤ n → ∀ v, f v ≤ rds us fr to len h k v := by
  intro k
  induction k with
  | zero => intro _; exact hl
  | succ k ih => intro hk v; exact lb_rx hf (ih (by omega)) (by omega) v
theorem lb_itr {f h : Nat → Nat} (hf : FIX n us fr to len f) (hl : ∀ v, f v ≤ h v) : ∀ k v, f v ≤ itr n us fr to len h k v := by
  intro k
  induction k with
  | zero => exact hl
  | succ k ih => intro v; exact lb_rds hf ih n (Nat.le_refl n) v
theorem itr_le (h : Nat → Nat) : ∀ k v, itr n us fr to len h k v ≤ h v := by
  intro k
  induction k with
  | zero => intro v; exact Nat.le_refl _
  | succ k ih => intro v; exact Nat.le_trans (rds_le _ _ _) (ih v)
/-- what a place's number rests on -/
def RST (n : Nat) (us : Nat → Bool) (fr to len : Nat → Nat) (i0 h : Nat → Nat) : Prop := ∀ v, h v = i0 v ∨ ∃ r, r < n ∧ us r = true ∧ to r = v ∧ h (fr r) + len r ≤ h v
theorem rst_rx {i0 h : Nat → Nat} (hr : RST n us fr to len i0 h) (hl : ∀ r, r < n → 1 ≤ len r) {r : Nat} (hrn : r < n) : RST n us fr to len i0 (rx us fr to len h r) := by
  intro v
  by_cases c : us r = true ∧ h (fr r) + len r < h (to r)
  · have e : ∀ w, rx us fr to len h r w = if w = to r then h (fr r) + len r else h w := by
      intro w; unfold rx; rw [if_pos c]
    by_cases d : v = to r
    · right
      refine ⟨r, hrn, c.1, d.symm, ?_⟩
      rw [e v, if_pos d]
      have := rx_le (us := us) (fr := fr) (to := to) (len := len) h r (fr r)
      omega
    · rw [e v, if_neg d]
      rcases hr v with q | ⟨s, s1, s2, s3, s4⟩
      · exact Or.inl q
      · refine Or.inr ⟨s, s1, s2, s3, ?_⟩
        have := rx_le (us := us) (fr := fr) (to := to) (len := len) h r (fr s)
        omega
  · have e : rx us fr to len h r = h := by unfold rx; rw [if_neg c]
    rw [e]; exact hr v
theorem rst_rds {i0 h : Nat → Nat} (hr : RST n us fr to len i0 h) (hl : ∀ r, r < n → 1 ≤ len r) : ∀ k, k ≤ n → RST n us fr to len i0 (rds us fr to len h k) := by
  intro k
  induction k with
  | zero => intro _; exact hr
  | succ k ih => intro hk; exact rst_rx (ih (by omega)) hl (by omega)
def tot (h : Nat → Nat) : Nat → Nat
  | 0 => 0
  | k + 1 => tot h k + h k
theorem tot_le {h h' : Nat → Nat} (hl : ∀ v, h' v ≤ h v) : ∀ k, tot h' k ≤ tot h k := by
  intro k
  induction k with
  | zero => exact Nat.le_refl _
  | succ k ih => have := hl k; show tot h' k + h' k ≤ tot h k + h k; omega
theorem tot_lt {h h' : Nat → Nat} (hl : ∀ v, h' v ≤ h v) {w : Nat} (hw : h' w < h w) : ∀ k, w < k → tot h' k < tot h k := by
  intro k
  induction k with
  | zero => intro q; omega
  | succ k ih =>
    intro q
    show tot h' k + h' k < tot h k + h k
    by_cases c : w = k
    · subst c
      have := tot_le hl w
      omega
    · have := ih (by omega)
      have := hl k
      omega
theorem nfix {h : Nat → Nat} (hf : ¬ FIX n us fr to len h) : ∃ r, r < n ∧ us r = true ∧ rds us fr to len h n (to r) < h (to r) := by
  have : ∃ r, r < n ∧ us r = true ∧ h (fr r) + len r < h (to r) := by
    apply Classical.byContradiction
    intro q
    apply hf
    intro r hr hu
    apply Classical.byContradiction
    intro z
    exact q ⟨r, hr, hu, by omega⟩
  obtain ⟨r, hr, hu, h1⟩ := this
  refine ⟨r, hr, hu, ?_⟩
  have a := rds_mono (us := us) (fr := fr) (to := to) (len := len) h (to r) (n - (r + 1)) (r + 1)
  rw [show r + 1 + (n - (r + 1)) = n by omega] at a
  have b : rds us fr to len h (r + 1) (to r) ≤ rds us fr to len h r (fr r) + len r := rx_to _ r hu
  have c := rds_le (us := us) (fr := fr) (to := to) (len := len) h r (fr r)
  omega
theorem ex_fix {i0 : Nat → Nat} (hl : ∀ r, r < n → 1 ≤ len r) (ht : ∀ r, r < n → to r < 10) : ∀ (m : Nat) (h : Nat → Nat), tot h 10 ≤ m → RST n us fr to len i0 h → ∃ f, FIX n us fr to len f ∧ (∀ v, f v ≤ h v) ∧ RST n us fr to len i0 f := by
  intro m
  induction m with
  | zero =>
    intro h hm hr
    by_cases c : FIX n us fr to len h
    · exact ⟨h, c, fun v => Nat.le_refl _, hr⟩
    · obtain ⟨r, r1, r2, r3⟩ := nfix c
      have := tot_lt (fun v => rds_le (us := us) (fr := fr) (to := to) (len := len) h n v) r3 10 (ht r r1)
      omega
  | succ m ih =>
    intro h hm hr
    by_cases c : FIX n us fr to len h
    · exact ⟨h, c, fun v => Nat.le_refl _, hr⟩
    · obtain ⟨r, r1, r2, r3⟩ := nfix c
      have := tot_lt (fun v => rds_le (us := us) (fr := fr) (to := to) (len := len) h n v) r3 10 (ht r r1)
      obtain ⟨f, f1, f2, f3⟩ := ih (rds us fr to len h n) (by omega) (rst_rds hr hl n (Nat.le_refl n))
      exact ⟨f, f1, fun v => Nat.le_trans (f2 v) (rds_le _ _ _), f3⟩
/-- how many of the first k are final -/
def cnf (f h : Nat → Nat) : Nat → Nat
  | 0 => 0
  | k + 1 => cnf f h k + (if h k = f k then 1 else 0)
theorem cnf_le (f h : Nat → Nat) : ∀ k, cnf f h k ≤ k := by
  intro k
  induction k with
  | zero => exact Nat.le_refl _
  | succ k ih => show cnf f h k + _ ≤ k + 1; split <;> omega
theorem cnf_mono {f h h' : Nat → Nat} (q : ∀ v, h v = f v → h' v = f v) : ∀ k, cnf f h k ≤ cnf f h' k := by
  intro k
  induction k with
  | zero => exact Nat.le_refl _
  | succ k ih =>
    show cnf f h k + _ ≤ cnf f h' k + _
    by_cases c : h k = f k
    · rw [if_pos c, if_pos (q k c)]; omega
    · rw [if_neg c]; omega
theorem cnf_lt {f h h' : Nat → Nat} (q : ∀ v, h v = f v → h' v = f v) {w : Nat} (h1 : h w ≠ f w) (h2 : h' w = f w) : ∀ k, w < k → cnf f h k < cnf f h' k := by
  intro k
  induction k with
  | zero => intro z; omega
  | succ k ih =>
    intro z
    show cnf f h k + _ < cnf f h' k + _
    by_cases c : w = k
    · subst c
      have := cnf_mono q w
      rw [if_neg h1, if_pos h2]; omega
    · have := ih (by omega)
      by_cases d : h k = f k
      · rw [if_pos d, if_pos (q k d)]; omega
      · rw [if_neg d]; omega
theorem cnf_pos {f h : Nat → Nat} {w : Nat} (q : h w = f w) : ∀ k, w < k → 1 ≤ cnf f h k := by
  intro k
  induction k with
  | zero => intro z; omega
  | succ k ih =>
    intro z
    show 1 ≤ cnf f h k + _
    by_cases c : w = k
    · subst c; rw [if_pos q]; omega
    · have := ih (by omega)
      omega
theorem cnf_full {f h : Nat → Nat} : ∀ k, k ≤ cnf f h k → ∀ v, v < k → h v = f v := by
  intro k
  induction k with
  | zero => intro _ v hv; omega
  | succ k ih =>
    intro q v hv
    have q : k + 1 ≤ cnf f h k + (if h k = f k then 1 else 0) := q
    have := cnf_le f h k
    by_cases c : h k = f k
    · rw [if_pos c] at q
      by_cases d : v = k
      · subst d; exact c
      · exact ih (by omega) v (by omega)
    · rw [if_neg c] at q; omega
theorem ex_minN (P : Nat → Prop) (f : Nat → Nat) : ∀ n, (∃ j, j < n ∧ P j) → ∃ t, t < n ∧ P t ∧ ∀ j, j < n → P j → f t ≤ f j := by
  intro n h
  obtain ⟨t, t1, t2, t3⟩ := ex_min P (fun j => (f j : Int)) n h
  exact ⟨t, t1, t2, fun j hj hp => by have := t3 j hj hp; omega⟩
theorem round_more {i0 f h : Nat → Nat} (hl : ∀ r, r < n → 1 ≤ len r) (hb : ∀ r, r < n → fr r < 10 ∧ to r < 10) (hf : FIX n us fr to len f) (hR : RST n us fr to len i0 f) (h1 : ∀ v, f v ≤ h v) (h2 : ∀ v, h v ≤ i0 v) : (∀ v, v < 10 → h v = f v) ∨ cnf f h 10 < cnf f (rds us fr to len h n) 10 := by
  have kp : ∀ v, h v = f v → rds us fr to len h n v = f v := by
    intro v q
    have a := rds_le (us := us) (fr := fr) (to := to) (len := len) h n v
    have b := lb_rds hf h1 n (Nat.le_refl n) v
    omega
  by_cases c : ∃ v, v < 10 ∧ h v ≠ f v
  · right
    obtain ⟨w, w1, w2, w3⟩ := ex_minN (fun v => h v ≠ f v) f 10 c
    have a := h1 w
    have b := h2 w
    rcases hR w with q | ⟨r, r1, r2, r3, r4⟩
    · exfalso; omega
    · have l1 := hl r r1
      have u : h (fr r) = f (fr r) := by
        apply Classical.byContradiction
        intro z
        have := w3 (fr r) (hb r r1).1 z
        omega
      refine cnf_lt kp w2 ?_ 10 w1
      have a1 := rds_mono (us := us) (fr := fr) (to := to) (len := len) h (to r) (n - (r + 1)) (r + 1)
      rw [show r + 1 + (n - (r + 1)) = n by omega] at a1
      have a2 : rds us fr to len h (r + 1) (to r) ≤ rds us fr to len h r (fr r) + len r := rx_to _ r r2
      have a3 := rds_le (us := us) (fr := fr) (to := to) (len := len) h r (fr r)
      have a4 := lb_rds hf h1 n (Nat.le_refl n) w
      rw [r3] at a1 a2
      omega
  · left
    intro v hv
    apply Classical.byContradiction
    intro z
    exact c ⟨v, hv, z⟩
/-- after nine rounds nothing changes -/
theorem nine {i0 f : Nat → Nat} (hl : ∀ r, r < n → 1 ≤ len r) (hb : ∀ r, r < n → fr r < 10 ∧ to r < 10) (hf : FIX n us fr to len f) (hR : RST n us fr to len i0 f) (h1 : ∀ v, f v ≤ i0 v) {s : Nat} (hs : s < 10) (hs0 : i0 s = 0) : ∀ k, (∀ v, v < 10 → itr n us fr to len i0 k v = f v) ∨ k + 1 ≤ cnf f (itr n us fr to len i0 k) 10 := by
  intro k
  induction k with
  | zero =>
    right
    have := h1 s
    exact cnf_pos (w := s) (show i0 s = f s by omega) 10 hs
  | succ k ih =>
    rcases ih with q | q
    · left
      intro v hv
      have a := itr_le (n := n) (us := us) (fr := fr) (to := to) (len := len)
      have b := lb_itr hf h1 (k + 1) v
      have c : itr n us fr to len i0 (k + 1) v ≤ itr n us fr to len i0 k v := rds_le _ _ _
      have := q v hv
      omega
    · rcases round_more hl hb hf hR (fun v => lb_itr hf h1 k v) (fun v => itr_le i0 k v) with z | z
      · left
        intro v hv
        have b := lb_itr hf h1 (k + 1) v
        have c : itr n us fr to len i0 (k + 1) v ≤ itr n us fr to len i0 k v := rds_le _ _ _
        have := z v hv
        omega
      · right
        show k + 1 + 1 ≤ cnf f (rds us fr to len (itr n us fr to len i0 k) n) 10
        omega
theorem fix_itr {h : Nat → Nat} {k : Nat} (hf : FIX n us fr to len (itr n us fr to len h k)) : ∀ d, itr n us fr to len h (k + d) = itr n us fr to len h k := by
  intro d
  induction d with
  | zero => rfl
  | succ d ih =>
    show rds us fr to len (itr n us fr to len h (k + d)) n = _
    rw [ih]; exact fix_rds hf n (Nat.le_refl n)
/-- the nine rounds' end -/
theorem dist_ok {i0 : Nat → Nat} (hl : ∀ r, r < n → 1 ≤ len r) (hb : ∀ r, r < n → fr r < 10 ∧ to r < 10) {s : Nat} (hs : s < 10) (hs0 : i0 s = 0) :
    FIX n us fr to len (itr n us fr to len i0 9) ∧ (∀ k, 9 ≤ k → ∀ v, v < 10 → itr n us fr to len i0 k v = itr n us fr to len i0 9 v) ∧ ∀ k, FIX n us fr to len (itr n us fr to len i0 k) → ∀ v, v < 10 → itr n us fr to len i0 k v = itr n us fr to len i0 9 v := by
  obtain ⟨f, f1, f2, f3⟩ := ex_fix (us := us) (fr := fr) (i0 := i0) hl (fun r hr => (hb r hr).2) (tot i0 10) i0 (Nat.le_refl _) (fun v => Or.inl rfl)
  have A : ∀ k, 9 ≤ k → ∀ v, v < 10 → itr n us fr to len i0 k v = f v := by
    intro k hk v hv
    rcases nine hl hb f1 f3 f2 hs hs0 k with q | q
    · exact q v hv
    · have := cnf_le f (itr n us fr to len i0 k) 10
      exact cnf_full 10 (by omega) v hv
  refine ⟨fun r hr hu => ?_, fun k hk v hv => ?_, fun k hk v hv => ?_⟩
  · rw [A 9 (Nat.le_refl 9) _ (hb r hr).2, A 9 (Nat.le_refl 9) _ (hb r hr).1]
    exact f1 r hr hu
  · rw [A k hk v hv, A 9 (Nat.le_refl 9) v hv]
  · have e := fix_itr hk 9
    rw [← e, A (k + 9) (by omega) v hv, A 9 (Nat.le_refl 9) v hv]
end PRD
