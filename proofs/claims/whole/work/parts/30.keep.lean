/-! ===== keep, back, count ===== -/
section PK
/-- a whole scene of the class and the reference's row -/
def SC (ts tg : Int32) (kind saved lost gain gap least most hand : Nat → Int32) (rs rb : Int32) (fr to len : Nat → Int32) (ps : Int32) (ev : Nat → Int32) (hz : Int32) (pl we g : Nat → Int32) : Prop :=
  ∃ nT u nR nP nH : Nat, ts = nI nT ∧ tg = nI u ∧ TR nT u kind saved lost gain gap least most hand g ∧ rs = nI nR ∧ RR nR rb fr to len g ∧ ps = nI nP ∧ PR nP ev g ∧ hz = nI nH ∧ HR nH pl we g
theorem SC_copy {ts tg : Int32} {kind saved lost gain gap least most hand : Nat → Int32} {rs rb : Int32} {fr to len : Nat → Int32} {ps : Int32} {ev : Nat → Int32} {hz : Int32} {pl we g : Nat → Int32} (h : SC ts tg kind saved lost gain gap least most hand rs rb fr to len ps ev hz pl we g) {g' : Nat → Int32} (hg : ∀ i, i < 194 → g' i = g i) (a1 a2 a3 a4 a5 a6 a7 a8 b1 b2 b3 c1 d1 d2 : Nat → Int32) :
    SC ts tg (va_cpy kind a1 0 0 10) (va_cpy saved a2 0 0 10) (va_cpy lost a3 0 0 10) (va_cpy gain a4 0 0 10) (va_cpy gap a5 0 0 10) (va_cpy least a6 0 0 10) (va_cpy most a7 0 0 10) (va_cpy hand a8 0 0 10) rs rb (va_cpy fr b1 0 0 16) (va_cpy to b2 0 0 16) (va_cpy len b3 0 0 16) ps (va_cpy ev c1 0 0 5) hz (va_cpy pl d1 0 0 20) (va_cpy we d2 0 0 20) g' := by
  obtain ⟨nT, u, nR, nP, nH, h1, h2, h3, h4, h5, h6, h7, h8, h9⟩ := h
  have h3 := TR_congr (hg 0 (by omega)) (hg 1 (by omega)) (fun i q1 q2 => hg i (by omega)) h3
  have h5 := RR_congr (hg 2 (by omega)) (fun i q1 q2 => hg i (by omega)) h5
  have h7 := PR_congr (hg 3 (by omega)) (fun i q1 q2 => hg i (by omega)) h7
  have h9 := HR_congr (hg 4 (by omega)) (fun i q1 q2 => hg i (by omega)) h9
  refine ⟨nT, u, nR, nP, nH, h1, h2, ?_, h4, ?_, h6, ?_, h8, ?_⟩
  · obtain ⟨a, b, c, d, e, f⟩ := h3
    refine ⟨a, b, c, d, fun t ht => ?_, f⟩
    rw [sb_cpy0 ht, sb_cpy0 ht, sb_cpy0 ht, sb_cpy0 ht, sb_cpy0 ht, sb_cpy0 ht, sb_cpy0 ht, sb_cpy0 ht]
    exact e t ht
  · obtain ⟨a, b, c, d, e⟩ := h5
    refine ⟨a, b, fun r hr => ?_, d, e⟩
    rw [sb_cpy0 hr, sb_cpy0 hr, sb_cpy0 hr]
    exact c r hr
  · obtain ⟨a, b, c, d⟩ := h7
    refine ⟨a, b, fun r hr => ?_, d⟩
    rw [sb_cpy0 hr]
    exact c r hr
  · obtain ⟨a, b, c, d⟩ := h9
    refine ⟨a, b, fun r hr => ?_, d⟩
    rw [sb_cpy0 hr, sb_cpy0 hr]
    exact c r hr
def cpF (f o : Nat → Int32) (k : Nat) : Nat → Int32 := fun j => if j < k then f j else o j
theorem cpF_s (f o : Nat → Int32) (k : Nat) : upd (cpF f o k) k (f k) = cpF f o (k + 1) := by
  funext j
  unfold upd cpF
  by_cases h : j = k
  · rw [if_pos h, if_pos (by omega), h]
  · rw [if_neg h]
    by_cases h2 : j < k
    · rw [if_pos h2, if_pos (by omega)]
    · rw [if_neg h2, if_neg (by omega)]
theorem cpF_0 (f o : Nat → Int32) : cpF f o 0 = o := by
  funext j
  unfold cpF
  rw [if_neg (by omega)]
theorem keep_go (N : Nat) (now kept : Nat → Int32) (x : Int32) : ∀ (d k m : Nat), k + d = 194 → d < m → f_X11_keep_b2 N now x m (cpF now kept k) (nI k) = some (now 0, 1, cpF now kept 194) := by
  intro d
  induction d with
  | zero =>
    intro k m h2 hm
    obtain ⟨m, rfl⟩ : ∃ z, m = z + 1 := ⟨m - 1, by omega⟩
    rw [f_X11_keep_b2_s]
    unfold g_X11_keep_b2
    rw [if_pos ((nI_leC (k := 194) (a := 194) rfl (by omega) (by omega)).mpr (by omega)), show k = 194 by omega]
  | succ d ih =>
    intro k m h2 hm
    obtain ⟨m, rfl⟩ : ∃ z, m = z + 1 := ⟨m - 1, by omega⟩
    rw [f_X11_keep_b2_s]
    unfold g_X11_keep_b2
    rw [if_neg (fun q => absurd ((nI_leC (k := 194) (a := 194) rfl (by omega) (by omega)).mp q) (by omega)), gI_n (by omega) (by omega), gI_n (by omega) (by omega), cl_n (by omega), nI_1, cpF_s]
    exact ih (k + 1) m (by omega) (by omega)
theorem keep_eq {N : Nat} (hN : 200 ≤ N) (now kept : Nat → Int32) (x : Int32) : f_X11_keep N x now kept = some (now 0, 1, cpF now kept 194) := by
  unfold f_X11_keep
  have h := keep_go N now kept x 194 0 N (by omega) (by omega)
  rw [cpF_0] at h
  exact h
theorem back_go (N : Nat) (now kept : Nat → Int32) (x y : Int32) : ∀ (d k m : Nat), k + d = 194 → d < m → f_X11_back_b16 N x kept y m (cpF kept now k) (nI k) = some (cpF kept now 194 0, y, cpF kept now 194) := by
  intro d
  induction d with
  | zero =>
    intro k m h2 hm
    obtain ⟨m, rfl⟩ : ∃ z, m = z + 1 := ⟨m - 1, by omega⟩
    rw [f_X11_back_b16_s]
    unfold g_X11_back_b16
    rw [if_pos ((nI_leC (k := 194) (a := 194) rfl (by omega) (by omega)).mpr (by omega)), show k = 194 by omega]
  | succ d ih =>
    intro k m h2 hm
    obtain ⟨m, rfl⟩ : ∃ z, m = z + 1 := ⟨m - 1, by omega⟩
    rw [f_X11_back_b16_s]
    unfold g_X11_back_b16
    rw [if_neg (fun q => absurd ((nI_leC (k := 194) (a := 194) rfl (by omega) (by omega)).mp q) (by omega)), gI_n (by omega) (by omega), gI_n (by omega) (by omega), cl_n (by omega), nI_1, cpF_s]
    exact ih (k + 1) m (by omega) (by omega)
theorem back_eq {N : Nat} (hN : 200 ≤ N) (now kept : Nat → Int32) (y : Int32) : f_X11_back N 1 y now kept = some (cpF kept now 194 0, y, cpF kept now 194) := by
  unfold f_X11_back
  have h := back_go N now kept 1 y 194 0 N (by omega) (by omega)
  rw [cpF_0] at h
  rw [if_neg (by decide)]
  exact h
theorem cpF_in {f o : Nat → Int32} {i : Nat} (h : i < 194) : cpF f o 194 i = f i := if_pos h
/-- how many of the first k bits are set -/
def pcn (b : Nat) : Nat → Nat
  | 0 => 0
  | k + 1 => pcn b k + (b.testBit k).toNat
theorem pcn_le (b k : Nat) : pcn b k ≤ k := by
  induction k with
  | zero => exact Nat.le_refl 0
  | succ k ih =>
    show pcn b k + (b.testBit k).toNat ≤ k + 1
    have : (b.testBit k).toNat ≤ 1 := Bool.toNat_le _
    omega
theorem pcn_hi {b n : Nat} (h : ∀ r, n ≤ r → b.testBit r = false) : ∀ d, pcn b (n + d) = pcn b n := by
  intro d
  induction d with
  | zero => rfl
  | succ d ih =>
    show pcn b (n + d) + (b.testBit (n + d)).toNat = _
    rw [ih, h (n + d) (by omega)]
    rfl
theorem bitI_n (b r : Nat) : bitI b r = nI (b.testBit r).toNat := by
  unfold bitI
  cases b.testBit r <;> rfl
theorem count_go {n : Nat} {bar : Int32} {fr to len g : Nat → Int32} (N : Nat) (x p1 : Int32) (hn : n ≤ 16) (h2 : g 2 = nI n) {b : Nat} (hb : ∀ r, r < 16 → g (133 + r) = bitI b r) : ∀ (d k m : Nat), k + d = n → d < m → f_X11_count_b4 N x g p1 m (nI (pcn b k)) (nI k) = (if p1 = 0 then some (g 0) else (if p1 = 1 then some (g 1) else (if p1 = 2 then some (nI n) else (if p1 = 3 then some (nI (pcn b n)) else (if p1 = 4 then some (g 3) else (if p1 = 5 then some (g 4) else (if p1 = 6 then some x else some (-1000000002)))))))) := by
  intro d
  induction d with
  | zero =>
    intro k m h3 hm
    obtain ⟨m, rfl⟩ : ∃ z, m = z + 1 := ⟨m - 1, by omega⟩
    rw [f_X11_count_b4_s]
    unfold g_X11_count_b4
    rw [h2, if_pos ((nI_leI (by omega) (by omega)).mpr (by omega)), show k = n by omega]
  | succ d ih =>
    intro k m h3 hm
    obtain ⟨m, rfl⟩ : ∃ z, m = z + 1 := ⟨m - 1, by omega⟩
    rw [f_X11_count_b4_s]
    unfold g_X11_count_b4
    rw [h2, if_neg (fun q => absurd ((nI_leI (by omega) (by omega)).mp q) (by omega)), gI_133 (by omega), cl_133 (by omega), hb k (by omega), bitI_n, nI_add, nI_1]
    exact ih (k + 1) m (by omega) (by omega)
end PK
