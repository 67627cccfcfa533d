/-! ===== the class's walk ===== -/
section PWC
theorem shr_n {s k : Nat} (hs : s < 2 ^ 31) (hk : k < 31) : nI s >>> (nI k &&& 31) = nI (s / 2 ^ k) := by
  apply bt_ext
  intro i hi
  rw [b_sshr k (by omega) _ hi, Nat.testBit_div_two_pow]
  by_cases h : k + i < 32
  · rw [if_pos h, bt_n s h, Nat.add_comm k i]
  · rw [if_neg h, bt_n s (by omega), Nat.testBit_lt_two_pow hs, Nat.testBit_lt_two_pow]
    exact Nat.lt_of_lt_of_le hs (Nat.pow_le_pow_right (by omega) (by omega))
theorem shl_n {a k : Nat} (hk : k < 32) : nI a <<< (nI k &&& 31) = nI (a <<< k) := by
  apply bt_ext
  intro i hi
  rw [b_shl k hk _ hi, Nat.testBit_shiftLeft]
  by_cases h : k ≤ i
  · rw [bt_n a (by omega)]
  · rw [decide_eq_false h]; rfl
theorem nI_mul (a b : Nat) : nI a * nI b = nI (a * b) := (Int32.ofNat_mul a b).symm
theorem mul3 (p : Nat) : (3 : Int32) * nI p = nI (3 * p) := nI_mul 3 p
theorem dg_I {s p : Nat} (hs : s < 32768) (hp : p < 5) : (nI s >>> ((3 * nI p) &&& 31)) &&& 7 = nI (dg s p) := by
  rw [mul3, shr_n (by omega) (by omega), show (7 : Int32) = nI (2 ^ 3 - 1) from rfl, nx_and, Nat.and_two_pow_sub_one_eq_mod, Nat.pow_mul]
  rfl
theorem or_I {a b p : Nat} (ha : a < 8 ^ p) (hp : p < 5) : nI a ||| (nI b <<< ((3 * nI p) &&& 31)) = nI (a + 8 ^ p * b) := by
  rw [mul3, shl_n (by omega), nx_or]
  have h8 : 8 ^ p = 2 ^ (3 * p) := by rw [Nat.pow_mul]
  rw [Nat.or_comm, ← Nat.shiftLeft_add_eq_or_of_lt (by rw [← h8]; exact ha), Nat.shiftLeft_eq, ← h8, Nat.mul_comm b, Nat.add_comm]
theorem m1n0 : ¬ (0 : Int32) ≤ -1 := by decide
theorem nI_ge0 {a : Nat} (h : a < 2 ^ 31) : (0 : Int32) ≤ nI a := by
  rw [show (0 : Int32) = nI 0 from rfl, nI_leI (by decide) h]; omega
/-- the posts as the walk knows them -/
def PE (n F : Nat) (ev : Nat → Int32) : Prop := n ≤ 5 ∧ F < 8 ^ n ∧ ∀ p, p < n → ev p = nI (dg F p + 1)
theorem after_ok {N n F s v : Nat} {ev : Nat → Int32} (hE : PE n F ev) (hs : s < 32768) (h : ∀ p, p < n → p ≠ v → dg s p ≠ 0) (hv : v < n) : ∀ (d p m : Nat), p + d = n → d < m → f_X9_stateAfter_b5 N (nI n) ev (nI s) (nI v) m (nI (sg (gx F s v) p)) (nI p) = some (nI (sg (gx F s v) n)) := by
  obtain ⟨hn, hF, he⟩ := hE
  intro d
  induction d with
  | zero =>
    intro p m hp hm
    obtain ⟨m, rfl⟩ : ∃ z, m = z + 1 := ⟨m - 1, by omega⟩
    rw [f_X9_stateAfter_b5_s]
    unfold g_X9_stateAfter_b5
    rw [if_pos ((nI_leI (by omega) (by omega)).mpr (by omega)), show p = n by omega]
  | succ d ih =>
    intro p m hp hm
    obtain ⟨m, rfl⟩ : ∃ z, m = z + 1 := ⟨m - 1, by omega⟩
    rw [f_X9_stateAfter_b5_s]
    unfold g_X9_stateAfter_b5
    rw [if_neg (fun q => absurd ((nI_leI (by omega) (by omega)).mp q) (by omega))]
    have hlt : sg (gx F s v) p < 8 ^ p := sg_lt (fun q _ => gx_lt F s v q)
    have key : ∀ (k0 : Int32) (a : Nat), a < 8 → k0 = nI (a + 1) → gx F s v p = a → f_X9_stateAfter_b45 N (nI n) ev (fun v3 v4 => f_X9_stateAfter_b5 N (nI n) ev (nI s) (nI v) m v3 v4) k0 (nI s) (nI v) (nI (sg (gx F s v) p)) (nI p) = some (nI (sg (gx F s v) n)) := by
      intro k0 a ha hk hg
      unfold f_X9_stateAfter_b45
      rw [hk, nI_m1 (by omega), Nat.add_sub_cancel, if_pos (nI_ge0 (by omega)), or_I hlt (by omega), nI_1]
      have := ih (p + 1) m (by omega) (by omega)
      rw [show sg (gx F s v) (p + 1) = sg (gx F s v) p + 8 ^ p * gx F s v p from rfl, hg] at this
      exact this
    by_cases e : p = v
    · rw [if_pos (by rw [e]), gI_n (by omega) (by decide), cl_n (by omega)]
      exact key _ (dg F p) (dg_lt F p) (he p (by omega)) (by unfold gx; rw [if_pos e])
    · rw [if_neg (fun q => e ((nI_eq (by omega) (by omega)).mp q)), dg_I hs (by omega)]
      have h1 := h p (by omega) e
      have h2 := dg_lt s p
      exact key _ (dg s p - 1) (by omega) (by rw [show dg s p - 1 + 1 = dg s p by omega]) (by unfold gx; rw [if_neg e])
theorem after_bad {N n F s v p0 : Nat} {ev : Nat → Int32} (hE : PE n F ev) (hs : s < 32768) (hv : v < n) (h0 : p0 < n) (h1 : p0 ≠ v) (h2 : dg s p0 = 0) : ∀ (d p m : Nat) (acc : Int32), p + d = p0 → d < m → f_X9_stateAfter_b5 N (nI n) ev (nI s) (nI v) m acc (nI p) = some (-1) := by
  obtain ⟨hn, hF, he⟩ := hE
  intro d
  induction d with
  | zero =>
    intro p m acc hp hm
    obtain ⟨m, rfl⟩ : ∃ z, m = z + 1 := ⟨m - 1, by omega⟩
    rw [f_X9_stateAfter_b5_s]
    unfold g_X9_stateAfter_b5
    have hpp : p = p0 := by omega
    rw [if_neg (fun q => absurd ((nI_leI (by omega) (by omega)).mp q) (by omega)), if_neg (fun q => absurd ((nI_eq (by omega) (by omega)).mp q) (by omega)), dg_I hs (by omega), hpp, h2]
    rfl
  | succ d ih =>
    intro p m acc hp hm
    obtain ⟨m, rfl⟩ : ∃ z, m = z + 1 := ⟨m - 1, by omega⟩
    rw [f_X9_stateAfter_b5_s]
    unfold g_X9_stateAfter_b5
    rw [if_neg (fun q => absurd ((nI_leI (by omega) (by omega)).mp q) (by omega))]
    have key : ∀ k0 : Int32, f_X9_stateAfter_b45 N (nI n) ev (fun v3 v4 => f_X9_stateAfter_b5 N (nI n) ev (nI s) (nI v) m v3 v4) k0 (nI s) (nI v) acc (nI p) = some (-1) := by
      intro k0
      unfold f_X9_stateAfter_b45
      split
      · rw [nI_1]; exact ih (p + 1) m _ (by omega) (by omega)
      · rfl
    split
    · rw [gI_n (by omega) (by decide)]; exact key _
    · exact key _
theorem after_0 {N n F s v : Nat} {ev : Nat → Int32} (hE : PE n F ev) (hs : s < 8 ^ n) (hv : v < n) (hN : 10 ≤ N) (h : nxt n F s v = 0) : f_X9_stateAfter N (nI n) ev (nI s) (nI v) = some (-1) := by
  have hs' := Nat.lt_of_lt_of_le hs (pow8 hE.1)
  have hn := hE.1
  rcases nxt_or n F s v hv with ⟨_, p, a, b, c⟩ | ⟨a, b⟩
  · exact after_bad hE hs' hv a b c p 0 N 0 (by omega) (by omega)
  · omega
theorem after_1 {N n F s v r : Nat} {ev : Nat → Int32} (hE : PE n F ev) (hs : s < 8 ^ n) (hv : v < n) (hN : 10 ≤ N) (h : nxt n F s v = r + 1) : f_X9_stateAfter N (nI n) ev (nI s) (nI v) = some (nI r) := by
  have hs' := Nat.lt_of_lt_of_le hs (pow8 hE.1)
  have hn := hE.1
  obtain ⟨a, _, _, b⟩ := nxt_v hv h
  rw [a]
  exact after_ok hE hs' b hv n 0 N (by omega) (by omega)
theorem wfull_go {N n F : Nat} {ev : Nat → Int32} (hE : PE n F ev) : ∀ (d p m : Nat), p + d = n → d < m → f_X9_fullState_b4 N (nI n) ev m (nI (sg (dg F) p)) (nI p) = some (nI F) := by
  obtain ⟨hn, hF, he⟩ := hE
  intro d
  induction d with
  | zero =>
    intro p m hp hm
    obtain ⟨m, rfl⟩ : ∃ z, m = z + 1 := ⟨m - 1, by omega⟩
    rw [f_X9_fullState_b4_s]
    unfold g_X9_fullState_b4
    rw [if_pos ((nI_leI (by omega) (by omega)).mpr (by omega)), show p = n by omega, sg_dg hF]
  | succ d ih =>
    intro p m hp hm
    obtain ⟨m, rfl⟩ : ∃ z, m = z + 1 := ⟨m - 1, by omega⟩
    rw [f_X9_fullState_b4_s]
    unfold g_X9_fullState_b4
    rw [if_neg (fun q => absurd ((nI_leI (by omega) (by omega)).mp q) (by omega)), gI_n (by omega) (by decide), cl_n (by omega), he p (by omega), nI_m1 (by omega), Nat.add_sub_cancel, or_I (sg_lt (fun q _ => dg_lt F q)) (by omega), nI_1]
    exact ih (p + 1) m (by omega) (by omega)
theorem wfull_eq {N n F : Nat} {ev : Nat → Int32} (hE : PE n F ev) (hN : 10 ≤ N) : f_X9_fullState N (nI n) ev = some (nI F) := by
  have hn := hE.1
  exact wfull_go hE n 0 N (by omega) (by omega)
/-! the rows of bits -/
def mk (rows : Nat → Int64) (s : Nat) : Bool := (rows (s / 64)).toBitVec.getLsbD (s % 64)
theorem s64 : ∀ j, j < 64 → ((((nI j).toInt64 &&& 63).toBitVec.smod 64).toNat = j) := by decide +kernel
theorem one64 : ∀ j, j < 64 → ∀ i, i < 64 → ((1 : Int64) <<< ((nI j).toInt64 &&& 63)).toBitVec.getLsbD i = decide (i = j) := by decide +kernel
theorem bit64 (x : Int64) {j : Nat} (hj : j < 64) : ((x >>> ((nI j).toInt64 &&& 63)) &&& 1 = 0) ↔ x.toBitVec.getLsbD j = false := by
  have e : ∀ i, i < 64 → ((x >>> ((nI j).toInt64 &&& 63)) &&& 1).toBitVec.getLsbD i = (decide (i = 0) && x.toBitVec.getLsbD j) := by
    intro i hi
    rw [Int64.toBitVec_and, BitVec.getLsbD_and, Int64.toBitVec_shiftRight]
    show ((x.toBitVec.sshiftRight (((nI j).toInt64 &&& 63).toBitVec.smod 64).toNat).getLsbD i && (1#64).getLsbD i) = _
    rw [s64 j hj, BitVec.getLsbD_sshiftRight, BitVec.getLsbD_one]
    by_cases h : i = 0
    · subst h
      simp [hj]
    · simp [h]
  constructor
  · intro h
    have := e 0 (by omega)
    rw [h] at this
    simpa using this.symm
  · intro h
    apply Int64.toBitVec_inj.1
    apply BitVec.eq_of_getLsbD_eq
    intro i hi
    rw [e i hi, h, Bool.and_false]
    exact BitVec.getLsbD_zero.symm
theorem row_i {s : Nat} (hs : s < 32768) : nI s >>> ((6 : Int32) &&& 31) = nI (s / 64) := shr_n (k := 6) (by omega) (by omega)
theorem row_j (s : Nat) : nI s &&& 63 = nI (s % 64) := by
  rw [show (63 : Int32) = nI (2 ^ 6 - 1) from rfl, nx_and, Nat.and_two_pow_sub_one_eq_mod]
theorem marked_eq {rows : Nat → Int64} {s : Nat} (hs : s < 32768) : f_X9_isMarked 512 rows (nI s) = some (if mk rows s then 1 else 0) := by
  unfold f_X9_isMarked
  rw [row_i hs, row_j, gI_n (by omega) (by decide), cl_n (by omega)]
  have hb := bit64 (rows (s / 64)) (j := s % 64) (by omega)
  cases c : mk rows s with
  | false => rw [if_pos (hb.2 c)]; rfl
  | true =>
    rw [if_neg (fun q => absurd ((hb.1 q).symm.trans c) (by decide))]; rfl
theorem wmark_eq {rows : Nat → Int64} {s : Nat} (hs : s < 32768) : ∃ rows', f_X9_mark 512 rows (nI s) = some rows' ∧ ∀ t, mk rows' t = up (mk rows) s true t := by
  unfold f_X9_mark
  rw [row_i hs, row_j, gI_n (by omega) (by decide), gI_n (by omega) (by decide), cl_n (by omega)]
  refine ⟨_, rfl, fun t => ?_⟩
  by_cases h : t / 64 = s / 64
  · show (vp_updL rows (s / 64) _ (t / 64)).toBitVec.getLsbD (t % 64) = _
    rw [h, updL_s, Int64.toBitVec_or, BitVec.getLsbD_or, one64 (s % 64) (by omega) (t % 64) (by omega)]
    by_cases e : t = s
    · rw [e, up_s, decide_eq_true rfl, Bool.or_true]
    · rw [up_n e, decide_eq_false (by omega), Bool.or_false]
      show _ = (rows (t / 64)).toBitVec.getLsbD (t % 64)
      rw [h]
  · rw [up_n (fun e => h (by rw [e]))]
    show (vp_updL rows (s / 64) _ (t / 64)).toBitVec.getLsbD (t % 64) = _
    rw [updL_n h]; rfl
/-! the walk's rows -/
def WR (x : WSt) (size : Int32) (dead met : Nat → Int64) (states visits : Nat → Int32) : Prop :=
  (size = nI x.sz ∧ x.sz ≤ 256) ∧
  (∀ s, s < 32768 → mk dead s = x.D s) ∧
  (∀ s, s < 32768 → mk met s = x.M s) ∧
  (∀ i, i < x.sz → states i = nI (x.st i)) ∧
  (∀ i, i < x.sz → visits i = nI (x.w i) - 1)
theorem WR.sz {x : WSt} {size : Int32} {dead met : Nat → Int64} {states visits : Nat → Int32} (h : WR x size dead met states visits) : size = nI x.sz ∧ x.sz ≤ 256 := h.1
theorem WR.de {x : WSt} {size : Int32} {dead met : Nat → Int64} {states visits : Nat → Int32} (h : WR x size dead met states visits) : ∀ s, s < 32768 → mk dead s = x.D s := h.2.1
theorem WR.me {x : WSt} {size : Int32} {dead met : Nat → Int64} {states visits : Nat → Int32} (h : WR x size dead met states visits) : ∀ s, s < 32768 → mk met s = x.M s := h.2.2.1
theorem WR.st {x : WSt} {size : Int32} {dead met : Nat → Int64} {states visits : Nat → Int32} (h : WR x size dead met states visits) : ∀ i, i < x.sz → states i = nI (x.st i) := h.2.2.2.1
theorem WR.vi {x : WSt} {size : Int32} {dead met : Nat → Int64} {states visits : Nat → Int32} (h : WR x size dead met states visits) : ∀ i, i < x.sz → visits i = nI (x.w i) - 1 := h.2.2.2.2
theorem wplace_go {N : Nat} {x : WSt} {states : Nat → Int32} {r : Nat} (hz : x.sz ≤ 256) (hs : ∀ i, i < x.sz → states i = nI (x.st i)) (hb : ∀ i, i < x.sz → x.st i < 32768) (hr : r < 32768) {j : Nat} (hj : j < x.sz) (hjr : x.st j = r) : ∀ (d i m : Nat), i + d = j → d < m → ∃ q, q < x.sz ∧ x.st q = r ∧ f_X9_walkPlaceOf_b2 N (nI x.sz) states (nI r) m (nI i) = some (nI q) := by
  intro d
  induction d with
  | zero =>
    intro i m hi hm
    obtain ⟨m, rfl⟩ : ∃ z, m = z + 1 := ⟨m - 1, by omega⟩
    rw [f_X9_walkPlaceOf_b2_s]
    unfold g_X9_walkPlaceOf_b2
    have hij : i = j := by omega
    refine ⟨j, hj, hjr, ?_⟩
    rw [nI_m1 (by omega), hij]
    by_cases c : x.sz - 1 ≤ j
    · rw [if_pos ((nI_leI (by omega) (by omega)).mpr c)]
    · rw [if_neg (fun q => c ((nI_leI (by omega) (by omega)).mp q)), gI_n (by omega) (by decide), cl_n (by omega), hs j hj, hjr, if_pos rfl]
  | succ d ih =>
    intro i m hi hm
    obtain ⟨m, rfl⟩ : ∃ z, m = z + 1 := ⟨m - 1, by omega⟩
    rw [f_X9_walkPlaceOf_b2_s]
    unfold g_X9_walkPlaceOf_b2
    rw [nI_m1 (by omega), if_neg (fun q => absurd ((nI_leI (by omega) (by omega)).mp q) (by omega)), gI_n (by omega) (by decide), cl_n (by omega), hs i (by omega)]
    by_cases c : x.st i = r
    · exact ⟨i, by omega, c, by rw [c, if_pos rfl]⟩
    · rw [if_neg (fun q => c ((nI_eq (by have := hb i (by omega); omega) (by omega)).mp q)), nI_1]
      exact ih (i + 1) m (by omega) (by omega)
theorem vis_up {x : WSt} {visits : Nat → Int32} (h : ∀ i, i < x.sz → visits i = nI (x.w i) - 1) : ∀ i, i < x.sz → upd visits (x.sz - 1) (nI (x.w (x.sz - 1))) i = nI (up x.w (x.sz - 1) (x.w (x.sz - 1) + 1) i) - 1 := by
  intro i hi
  by_cases e : i = x.sz - 1
  · rw [e, upd_s, up_s, nI_m1 (by omega), Nat.add_sub_cancel]
  · rw [upd_n e, up_n e]; exact h i hi
end PWC
