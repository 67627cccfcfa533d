/-! ===== caught, traps, cover, count ===== -/
section PHA
theorem po_count {n : Nat} {bar : Int32} {fr to len g : Nat → Int32} {N : Nat} (hN : 100 ≤ N) (h : RR n bar fr to len g) {ts tg ps hz : Int32} (h0 : ts = g 0) (h1 : tg = g 1) (h3 : ps = g 3) (h4 : hz = g 4) (x p1 : Int32) :
    f_X11_count N x g p1 = some (f_X10_count x ts tg (nI n) bar ps hz p1) := by
  obtain ⟨a, b, c, ⟨m, d1, d2, d3, d4⟩, e⟩ := h
  unfold f_X11_count
  have q := count_go (bar := bar) (fr := fr) (to := to) (len := len) N x p1 a b d3 n 0 N (by omega) (by omega)
  have e1 : pcn m 16 = pcn m n := by
    have := pcn_hi d4 (16 - n)
    rw [show n + (16 - n) = 16 by omega] at this
    exact this
  rw [show nI (pcn m 0) = 0 from rfl, show nI 0 = 0 from rfl] at q
  rw [q]
  unfold f_X10_count
  rw [d2, bitCount_eq d1, e1, h0, h1, h3, h4]
  repeat' split
  all_goals first | rfl | omega
def wgt (pl we : Nat → Int32) (s : Int32) : Nat → Int32
  | 0 => 0
  | k + 1 => if pl k &&& s = 0 then wgt pl we s k else wgt pl we s k + we k
def wgN (pl we : Nat → Int32) (s : Int32) : Nat → Nat
  | 0 => 0
  | k + 1 => if pl k &&& s = 0 then wgN pl we s k else wgN pl we s k + (we k).toNatClampNeg
theorem wgt_N {pl we : Nat → Int32} {n : Nat} (h : ∀ h, h < n → ∃ w, 1 ≤ w ∧ w ≤ 1000 ∧ we h = nI w) (s : Int32) : ∀ k, k ≤ n → wgt pl we s k = nI (wgN pl we s k) ∧ wgN pl we s k ≤ 1000 * k := by
  intro k
  induction k with
  | zero => intro _; exact ⟨rfl, Nat.le_refl 0⟩
  | succ k ih =>
    intro hk
    obtain ⟨i1, i2⟩ := ih (by omega)
    obtain ⟨w, w1, w2, w3⟩ := h k (by omega)
    unfold wgt wgN
    by_cases c : pl k &&& s = 0
    · rw [if_pos c, if_pos c]; exact ⟨i1, by omega⟩
    · rw [if_neg c, if_neg c, i1, w3, nI_add, nI_clamp (by omega)]; exact ⟨rfl, by omega⟩
theorem wc_go (N : Nat) (pl we : Nat → Int32) {n : Nat} (hn : n ≤ 20) (s : Int32) : ∀ (d k m : Nat), k + d = n → d < m → f_X2_weightCaught_b4 N (nI n) pl we s m (wgt pl we s k) (nI k) = some (wgt pl we s n) := by
  intro d
  induction d with
  | zero =>
    intro k m h3 hm
    obtain ⟨m, rfl⟩ : ∃ z, m = z + 1 := ⟨m - 1, by omega⟩
    rw [f_X2_weightCaught_b4_s]
    unfold g_X2_weightCaught_b4
    rw [if_pos ((nI_leI (by omega) (by omega)).mpr (by omega)), show k = n by omega]
  | succ d ih =>
    intro k m h3 hm
    obtain ⟨m, rfl⟩ : ∃ z, m = z + 1 := ⟨m - 1, by omega⟩
    rw [f_X2_weightCaught_b4_s]
    unfold g_X2_weightCaught_b4
    have q := ih (k + 1) m (by omega) (by omega)
    unfold wgt at q
    rw [if_neg (fun q => absurd ((nI_leI (by omega) (by omega)).mp q) (by omega)), gI_n (by omega) (by omega), gI_n (by omega) (by omega), cl_n (by omega), nI_1]
    by_cases c : pl k &&& s = 0
    · rw [if_pos c] at q ⊢
      exact q.trans (by cases n <;> rfl)
    · rw [if_neg c] at q ⊢
      exact q.trans (by cases n <;> rfl)
theorem wc_eq {N : Nat} (hN : 100 ≤ N) (pl we : Nat → Int32) {n : Nat} (hn : n ≤ 20) (s : Int32) : f_X2_weightCaught N (nI n) pl we s = some (wgt pl we s n) := by
  unfold f_X2_weightCaught
  exact wc_go N pl we hn s n 0 N (by omega) (by omega)
theorem cb_go (N : Nat) {pl we g : Nat → Int32} {n : Nat} (hn : n ≤ 20) (h4 : g 4 = nI n) (hg : ∀ h, h < 20 → pl h = g (154 + h) ∧ we h = g (174 + h)) (s : Int32) : ∀ (d k m : Nat), k + d = n → d < m → f_X11_caughtBy_b4 N g s m (wgt pl we s k) (nI k) = some (wgt pl we s n) := by
  intro d
  induction d with
  | zero =>
    intro k m h3 hm
    obtain ⟨m, rfl⟩ : ∃ z, m = z + 1 := ⟨m - 1, by omega⟩
    rw [f_X11_caughtBy_b4_s]
    unfold g_X11_caughtBy_b4
    rw [h4, if_pos ((nI_leI (by omega) (by omega)).mpr (by omega)), show k = n by omega]
  | succ d ih =>
    intro k m h3 hm
    obtain ⟨m, rfl⟩ : ∃ z, m = z + 1 := ⟨m - 1, by omega⟩
    rw [f_X11_caughtBy_b4_s]
    unfold g_X11_caughtBy_b4
    have q := ih (k + 1) m (by omega) (by omega)
    unfold wgt at q
    rw [h4, if_neg (fun q => absurd ((nI_leI (by omega) (by omega)).mp q) (by omega)), gI_154 (by omega), gI_174 (by omega), cl_154 (by omega), cl_174 (by omega), nI_1, ← (hg k (by omega)).1, ← (hg k (by omega)).2, Int32.add_zero]
    by_cases c : pl k &&& s = 0
    · rw [if_pos c] at q ⊢
      exact q.trans (by cases n <;> rfl)
    · rw [if_neg c] at q ⊢
      exact q.trans (by cases n <;> rfl)
theorem cb_eq {N : Nat} (hN : 100 ≤ N) {pl we g : Nat → Int32} {n : Nat} (h : HR n pl we g) (s : Int32) : f_X11_caughtBy N g s = some (wgt pl we s n) := by
  obtain ⟨a, b, c, d⟩ := h
  unfold f_X11_caughtBy
  exact cb_go N a b c s n 0 N (by omega) (by omega)
theorem po_caught {N : Nat} (hN : 100 ≤ N) {pl we g : Nat → Int32} {n : Nat} (h : HR n pl we g) (p : Int32) : ∃ v, f_X10_caught N (nI n) pl we p = some v ∧ f_X11_caught N g p = some v := by
  unfold f_X10_caught f_X11_caught f_X11_isSet
  rw [within_eq]
  by_cases c : f_X10_isFrom p 0 1023 = 0
  · rw [if_pos c, if_pos c]; exact ⟨_, rfl, rfl⟩
  · rw [if_neg c, if_neg c, wc_eq hN pl we h.1, cb_eq hN h]; exact ⟨_, rfl, rfl⟩
theorem many_go (N b : Nat) : ∀ (d k m : Nat), k + d = 20 → d < m → f_X11_many_b4 N (nI b) m (nI (pcn b k)) (nI k) = some (nI (pcn b 20)) := by
  intro d
  induction d with
  | zero =>
    intro k m h3 hm
    obtain ⟨m, rfl⟩ : ∃ z, m = z + 1 := ⟨m - 1, by omega⟩
    rw [f_X11_many_b4_s]
    unfold g_X11_many_b4
    rw [if_pos ((nI_leC (k := 20) (a := 20) rfl (by omega) (by omega)).mpr (by omega)), show k = 20 by omega]
  | succ d ih =>
    intro k m h3 hm
    obtain ⟨m, rfl⟩ : ∃ z, m = z + 1 := ⟨m - 1, by omega⟩
    rw [f_X11_many_b4_s]
    unfold g_X11_many_b4
    have e : (if b.testBit k = true then (1 : Int32) else 0) = nI (b.testBit k).toNat := by cases b.testBit k <;> rfl
    rw [if_neg (fun q => absurd ((nI_leC (k := 20) (a := 20) rfl (by omega) (by omega)).mp q) (by omega)), bit01 _ (by omega), bt_n _ (by omega), e, nI_add, nI_1]
    exact ih (k + 1) m (by omega) (by omega)
theorem many_eq {N : Nat} (hN : 100 ≤ N) {b : Nat} (hb : b < 1024) : f_X11_many N (nI b) = some (nI (pcn b 10)) := by
  unfold f_X11_many
  rw [← pcn_hi (fun r hr => tb_lt (n := 10) hb hr) 10]
  exact many_go N b 20 0 N (by omega) (by omega)
theorem bc_eq {b : Nat} (hb : b < 1024) : f_J6_bitCount_0f7a4 (nI b) = nI (pcn b 10) := by
  rw [bitCount_eq (by omega), ← pcn_hi (fun r hr => tb_lt (n := 10) hb hr) 6]
/-- a is at least as good as b: heavier, then fewer places, then less -/
def bet (W c : Nat → Nat) (a b : Nat) : Prop := W b < W a ∨ (W a = W b ∧ (c a < c b ∨ (c a = c b ∧ a ≤ b)))
theorem bet_rf (W c : Nat → Nat) (a : Nat) : bet W c a a := Or.inr ⟨rfl, Or.inr ⟨rfl, Nat.le_refl a⟩⟩
theorem bet_as {W c : Nat → Nat} {a b : Nat} (h1 : bet W c a b) (h2 : bet W c b a) : a = b := by unfold bet at *; omega
theorem bet_tr {W c : Nat → Nat} {a b d : Nat} (h1 : bet W c a b) (h2 : bet W c b d) : bet W c a d := by unfold bet at *; omega
def BST (W c : Nat → Nat) (L s : Nat) : Prop := s < 1024 ∧ c s ≤ L ∧ ∀ r, r < 1024 → c r ≤ L → bet W c s r
theorem BST_u {W c : Nat → Nat} {L s r : Nat} (h1 : BST W c L s) (h2 : BST W c L r) : s = r := bet_as (h1.2.2 r h2.1 h2.2.1) (h2.2.2 s h1.1 h1.2.1)
theorem heavy_go {N : Nat} (hN : 100 ≤ N) {pl we : Nat → Int32} {n L : Nat} (hn : n ≤ 20) (hL : L ≤ 10) (hw : ∀ h, h < n → ∃ w, 1 ≤ w ∧ w ≤ 1000 ∧ we h = nI w) {W : Nat → Nat} (hW : ∀ s, W s = wgN pl we (nI s) n) {c : Nat → Nat} (hc : ∀ s, c s = pcn s 10) :
    ∀ (d k m s : Nat), k + d = 1024 → d < m → 0 < k → s < k → c s ≤ L → (∀ r, r < k → c r ≤ L → bet W c s r) → ∃ t, f_X2_heaviestSet_b7 N (nI n) pl we (nI L) m (nI s) (nI (W s)) (nI k) = some (nI t) ∧ BST W c L t := by
  have hB : ∀ s, W s ≤ 20000 := by
    intro s
    rw [hW]
    have := (wgt_N hw (pl := pl) (nI s) n (Nat.le_refl n)).2
    omega
  have hC : ∀ s, c s ≤ 10 := by intro s; rw [hc]; exact pcn_le s 10
  intro d
  induction d with
  | zero =>
    intro k m s h1 h2 h3 h4 h5 h6
    obtain ⟨m, rfl⟩ : ∃ z, m = z + 1 := ⟨m - 1, by omega⟩
    rw [f_X2_heaviestSet_b7_s]
    unfold g_X2_heaviestSet_b7
    refine ⟨s, if_pos ?_, by omega, h5, fun r hr => h6 r (by omega)⟩
    rw [show (1023 : Int32) = nI 1023 from rfl, nI_ltI (by omega) (by omega)]; omega
  | succ d ih =>
    intro k m s h1 h2 h3 h4 h5 h6
    obtain ⟨m, rfl⟩ : ∃ z, m = z + 1 := ⟨m - 1, by omega⟩
    have hk : k < 1024 := by omega
    rw [f_X2_heaviestSet_b7_s]
    unfold g_X2_heaviestSet_b7
    rw [if_neg (fun q => by rw [show (1023 : Int32) = nI 1023 from rfl, nI_ltI (by omega) (by omega)] at q; omega), bc_eq hk, ← hc k]
    unfold f_X2_heaviestSet_b38 f_X2_heaviestSet_b59 f_X2_heaviestSet_b60 f_X2_heaviestSet_b79
    simp only [nI_1]
    have hCk := hC k
    have hCs := hC s
    have hBk := hB k
    have hBs := hB s
    by_cases q : L < c k
    · have q1 : nI L < nI (c k) := (nI_ltI (by omega) (by omega)).mpr q
      have hh := ih (k + 1) m s (by omega) (by omega) (by omega) (by omega) h5 (fun r hr hr2 => by
        rcases Nat.lt_or_ge r k with z | z
        · exact h6 r z hr2
        · have : r = k := by omega
          subst this; omega)
      simp only [q1, if_true, ite_self]
      exact hh
    · have q1 : ¬ nI L < nI (c k) := fun z => q ((nI_ltI (by omega) (by omega)).mp z)
      simp only [q1, if_false]
      rw [wc_eq hN pl we hn, bd_of rfl, (wgt_N hw (nI k) n (Nat.le_refl n)).1, ← hW k, bc_eq (show s < 1024 by omega), ← hc s]
      have keep : bet W c s k → ∃ t, f_X2_heaviestSet_b7 N (nI n) pl we (nI L) m (nI s) (nI (W s)) (nI (k + 1)) = some (nI t) ∧ BST W c L t := fun hb => ih (k + 1) m s (by omega) (by omega) (by omega) (by omega) h5 (fun r hr hr2 => by
        rcases Nat.lt_or_ge r k with z | z
        · exact h6 r z hr2
        · have : r = k := by omega
          subst this; exact hb)
      have take : bet W c k s → ∃ t, f_X2_heaviestSet_b7 N (nI n) pl we (nI L) m (nI k) (nI (W k)) (nI (k + 1)) = some (nI t) ∧ BST W c L t := fun hb => ih (k + 1) m k (by omega) (by omega) (by omega) (by omega) (by omega) (fun r hr hr2 => by
        rcases Nat.lt_or_ge r k with z | z
        · exact bet_tr hb (h6 r z hr2)
        · have : r = k := by omega
          subst this; exact bet_rf W c r)
      by_cases z1 : W k = W s
      · rw [if_pos (by rw [z1])]
        by_cases z2 : c s ≤ c k
        · rw [if_pos ((nI_leI (by omega) (by omega)).mpr z2), if_neg (by rw [z1]; exact Int32.lt_irrefl), if_pos trivial]
          exact keep (by unfold bet; omega)
        · rw [if_neg (fun z => z2 ((nI_leI (by omega) (by omega)).mp z)), if_neg (by rw [z1]; exact Int32.lt_irrefl), if_neg (by decide)]
          exact take (by unfold bet; omega)
      · rw [if_neg (fun z => z1 ((nI_eq (by omega) (by omega)).mp z))]
        by_cases z2 : W s < W k
        · rw [if_pos ((nI_ltI (by omega) (by omega)).mpr z2)]
          exact take (by unfold bet; omega)
        · rw [if_neg (fun z => z2 ((nI_ltI (by omega) (by omega)).mp z)), if_pos trivial]
          exact keep (by unfold bet; omega)
theorem trap_in {N : Nat} (hN : 2000 ≤ N) {pl we g : Nat → Int32} {n L j : Nat} (hR : HR n pl we g) {W : Nat → Nat} (hW : ∀ s, W s = wgN pl we (nI s) n) {c : Nat → Nat} (hc : ∀ s, c s = pcn s 10) (kk : Int32 → Int32 → Option Int32) (hj : j ≤ 10) :
    ∀ (d k m s : Nat), k + d = 1024 → d < m → s < 1024 → (c s < j ∨ (c s = j ∧ s < k)) → (∀ r, r < 1024 → (c r < j ∨ (c r = j ∧ r < k)) → bet W c s r) → ∃ t, t < 1024 ∧ c t ≤ j ∧ (∀ r, r < 1024 → c r ≤ j → bet W c t r) ∧ f_X11_trap_b12 N g kk (nI L) (nI j) m (nI s) (nI k) = kk (nI t) (nI (j + 1)) := by
  obtain ⟨hn, h4, hg, hw0⟩ := id hR
  have hw : ∀ h, h < n → ∃ w, 1 ≤ w ∧ w ≤ 1000 ∧ we h = nI w := fun h hh => by rw [(hg h (by omega)).2]; exact (hw0 h hh).2
  have hB : ∀ s, W s ≤ 20000 := by
    intro s
    rw [hW]
    have := (wgt_N hw (pl := pl) (nI s) n (Nat.le_refl n)).2
    omega
  have hC : ∀ s, c s ≤ 10 := by intro s; rw [hc]; exact pcn_le s 10
  intro d
  induction d with
  | zero =>
    intro k m s h1 h2 h4 h5 h6
    obtain ⟨m, rfl⟩ : ∃ z, m = z + 1 := ⟨m - 1, by omega⟩
    rw [f_X11_trap_b12_s]
    unfold g_X11_trap_b12
    rw [if_pos ((nI_leC (k := 1024) (a := 1024) rfl (by omega) (by omega)).mpr (by omega)), nI_1]
    exact ⟨s, h4, by omega, fun r hr hr2 => h6 r hr (by omega), rfl⟩
  | succ d ih =>
    intro k m s h1 h2 h4 h5 h6
    obtain ⟨m, rfl⟩ : ∃ z, m = z + 1 := ⟨m - 1, by omega⟩
    have hk : k < 1024 := by omega
    rw [f_X11_trap_b12_s]
    unfold g_X11_trap_b12
    rw [if_neg (fun q => absurd ((nI_leC (k := 1024) (a := 1024) rfl (by omega) (by omega)).mp q) (by omega)), many_eq (by omega) hk, bd_of rfl, ← hc k]
    have hCk := hC k
    have hCs := hC s
    have hBk := hB k
    have hBs := hB s
    by_cases q : c k = j
    · rw [if_pos (by rw [q]), cb_eq (by omega) hR, bd_of rfl, cb_eq (by omega) hR, bd_of rfl, (wgt_N hw (nI k) n (Nat.le_refl n)).1, (wgt_N hw (nI s) n (Nat.le_refl n)).1, ← hW, ← hW, nI_1]
      by_cases z : W k ≤ W s
      · rw [if_pos ((nI_leI (by omega) (by omega)).mpr z)]
        refine ih (k + 1) m s (by omega) (by omega) h4 (by omega) (fun r hr hr2 => ?_)
        by_cases y : r = k
        · subst y; unfold bet; omega
        · exact h6 r hr (by omega)
      · rw [if_neg (fun y => z ((nI_leI (by omega) (by omega)).mp y))]
        refine ih (k + 1) m k (by omega) (by omega) hk (by omega) (fun r hr hr2 => ?_)
        by_cases y : r = k
        · subst y; exact bet_rf W c r
        · have := h6 r hr (by omega)
          exact bet_tr (Or.inl (by omega)) this
    · rw [if_neg (fun y => q ((nI_eq (by omega) (by omega)).mp y)), nI_1]
      refine ih (k + 1) m s (by omega) (by omega) h4 (by omega) (fun r hr hr2 => ?_)
      by_cases y : r = k
      · subst y; exact h6 r hr (by omega)
      · exact h6 r hr (by omega)
theorem trap_go {N : Nat} (hN : 2000 ≤ N) {pl we g : Nat → Int32} {n L : Nat} (hL : L ≤ 10) (hR : HR n pl we g) {W : Nat → Nat} (hW : ∀ s, W s = wgN pl we (nI s) n) {c : Nat → Nat} (hc : ∀ s, c s = pcn s 10) :
    ∀ (d j m s : Nat), j + d = L + 1 → d < m → s < 1024 → 1 ≤ j → c s < j → (∀ r, r < 1024 → c r < j → bet W c s r) → ∃ t, f_X11_trap_b4 N g (nI L) m (nI s) (nI j) = some (nI t) ∧ BST W c L t := by
  intro d
  induction d with
  | zero =>
    intro j m s h1 h2 h3 h3' h4 h5
    obtain ⟨m, rfl⟩ : ∃ z, m = z + 1 := ⟨m - 1, by omega⟩
    rw [f_X11_trap_b4_s]
    unfold g_X11_trap_b4
    rw [if_pos ((nI_ltI (by omega) (by omega)).mpr (by omega))]
    exact ⟨s, rfl, h3, by omega, fun r hr hr2 => h5 r hr (by omega)⟩
  | succ d ih =>
    intro j m s h1 h2 h3 h3' h4 h5
    obtain ⟨m, rfl⟩ : ∃ z, m = z + 1 := ⟨m - 1, by omega⟩
    rw [f_X11_trap_b4_s]
    unfold g_X11_trap_b4
    rw [if_neg (fun y => absurd ((nI_ltI (by omega) (by omega)).mp y) (by omega))]
    obtain ⟨t, t1, t2, t3, t4⟩ := trap_in (L := L) hN hR hW hc (fun v2 v3 => f_X11_trap_b4 N g (nI L) m v2 v3) (show j ≤ 10 by omega) 1023 1 N s (by omega) (by omega) h3 (by omega) (fun r hr hr2 => by
      rcases hr2 with y | ⟨y1, y2⟩
      · exact h5 r hr y
      · have : r = 0 := by omega
        subst this
        rw [hc 0, show pcn 0 10 = 0 from rfl] at y1
        omega)
    rw [show nI 1 = 1 from rfl] at t4
    rw [t4]
    exact ih (j + 1) m t (by omega) (by omega) t1 (by omega) (by omega) (fun r hr hr2 => t3 r hr (by omega))
theorem wgN0 (pl we : Nat → Int32) : ∀ k, wgN pl we 0 k = 0 := by
  intro k
  induction k with
  | zero => rfl
  | succ k ih =>
    unfold wgN
    rw [Int32.and_zero, if_pos rfl, ih]
theorem c_0 {r : Nat} (h : r < 1024) (h0 : pcn r 10 = 0) : r = 0 := (by decide +kernel : ∀ r, r < 1024 → pcn r 10 = 0 → r = 0) r h h0
theorem trap_eq {N : Nat} (hN : 2000 ≤ N) {pl we g : Nat → Int32} {n L : Nat} (hL : L ≤ 10) (hR : HR n pl we g) : ∃ t, f_X11_trap N g (nI L) = some (nI t) ∧ BST (fun s => wgN pl we (nI s) n) (fun s => pcn s 10) L t := by
  unfold f_X11_trap
  exact trap_go hN hL hR (fun s => rfl) (fun s => rfl) L 1 N 0 (by omega) (by omega) (by omega) (by omega) (by show pcn 0 10 < 1; decide) (fun r hr hr2 => by
    have hr2 : pcn r 10 < 1 := hr2
    rw [c_0 hr (by omega)]; exact bet_rf _ _ _)
theorem po_traps {N : Nat} (hN : 2000 ≤ N) {pl we g : Nat → Int32} {n : Nat} (hR : HR n pl we g) (p : Int32) : ∃ v, f_X10_traps N (nI n) pl we p = some v ∧ f_X11_traps N g p = some v := by
  unfold f_X10_traps f_X11_traps
  rw [within_eq]
  rcases from_cases p 0 10 with ⟨h, h1, h2⟩ | ⟨h, -⟩
  · rw [if_neg (by rw [h]; decide), if_neg (by rw [h]; decide)]
    rw [i0] at h1
    obtain ⟨L, hL, rfl⟩ := nI_of_toInt (n := 11) h1 (by have : (10 : Int32).toInt = 10 := rfl; omega)
    obtain ⟨hn, h4, hg, hw0⟩ := id hR
    have hw : ∀ h, h < n → ∃ w, 1 ≤ w ∧ w ≤ 1000 ∧ we h = nI w := fun h hh => by rw [(hg h (by omega)).2]; exact (hw0 h hh).2
    obtain ⟨t, t1, t2⟩ := trap_eq hN (show L ≤ 10 by omega) hR
    obtain ⟨s, s1, s2⟩ := heavy_go (N := N) (L := L) (pl := pl) (by omega) hn (by omega) hw (fun s => rfl) (fun s => rfl) 1023 1 N 0 (by omega) (by omega) (by omega) (by omega) (by show pcn 0 10 ≤ L; rw [show pcn 0 10 = 0 from rfl]; omega) (fun r hr hr2 => by
      rw [show r = 0 by omega]; exact bet_rf _ _ _)
    unfold f_X2_heaviestSet
    have e : nI (wgN pl we (nI 0) n) = 0 := by rw [show nI 0 = 0 from rfl, wgN0]; rfl
    rw [e, show nI 0 = 0 from rfl, show nI 1 = 1 from rfl] at s1
    rw [s1, t1, bd_of rfl, bd_of rfl, BST_u s2 t2]
    exact ⟨_, rfl, rfl⟩
  · rw [if_pos h, if_pos h]; exact ⟨_, rfl, rfl⟩
/-! all haunts are met -/
def ALL (pl : Nat → Int32) (s : Int32) (k : Nat) : Prop := ∀ h, h < k → ¬ pl h &&& s = 0
theorem all_go (N : Nat) (pl : Nat → Int32) {n : Nat} (hn : n ≤ 20) (s : Int32) : ∀ (d k m : Nat), k + d = n → d < m → ALL pl s k → ∃ v, f_X2_catchesAll_b4 N (nI n) pl s m 1 (nI k) = some v ∧ ((v = 1 ∧ ALL pl s n) ∨ (v = 0 ∧ ¬ ALL pl s n)) := by
  intro d
  induction d with
  | zero =>
    intro k m h3 hm hA
    obtain ⟨m, rfl⟩ : ∃ z, m = z + 1 := ⟨m - 1, by omega⟩
    rw [f_X2_catchesAll_b4_s]
    unfold g_X2_catchesAll_b4
    rw [if_pos ((nI_leI (by omega) (by omega)).mpr (by omega)), gB_of (Or.inr rfl)]
    exact ⟨1, rfl, Or.inl ⟨rfl, by rw [show n = k by omega]; exact hA⟩⟩
  | succ d ih =>
    intro k m h3 hm hA
    obtain ⟨m, rfl⟩ : ∃ z, m = z + 1 := ⟨m - 1, by omega⟩
    rw [f_X2_catchesAll_b4_s]
    unfold g_X2_catchesAll_b4
    rw [if_neg (fun q => absurd ((nI_leI (by omega) (by omega)).mp q) (by omega)), if_neg (by decide), gI_n (by omega) (by omega), cl_n (by omega), nI_1]
    by_cases c : pl k &&& s = 0
    · rw [if_pos c]
      obtain ⟨m, rfl⟩ : ∃ z, m = z + 1 := ⟨m - 1, by omega⟩
      refine ⟨0, ?_, Or.inr ⟨rfl, fun h => h k (by omega) c⟩⟩
      rw [f_X2_catchesAll_b4_s]
      unfold g_X2_catchesAll_b4
      rw [if_pos rfl, gB_of (Or.inl rfl), ite_self]
    · rw [if_neg c]
      exact ih (k + 1) m (by omega) (by omega) (fun h hh => by
        by_cases q : h = k
        · subst q; exact c
        · exact hA h (by omega))
theorem wg_all {pl we : Nat → Int32} {n : Nat} (hw : ∀ h, h < n → ∃ w, 1 ≤ w ∧ w ≤ 1000 ∧ we h = nI w) {s r : Int32} (hr : ALL pl r n) : ∀ k, k ≤ n → wgN pl we s k ≤ wgN pl we r k ∧ (wgN pl we s k = wgN pl we r k ↔ ALL pl s k) := by
  intro k
  induction k with
  | zero => intro _; exact ⟨Nat.le_refl 0, fun _ h hh => absurd hh (by omega), fun _ => rfl⟩
  | succ k ih =>
    intro hk
    obtain ⟨i1, i2⟩ := ih (by omega)
    obtain ⟨w, w1, w2, w3⟩ := hw k (by omega)
    have e : (we k).toNatClampNeg = w := by rw [w3, nI_clamp (by omega)]
    unfold wgN
    rw [if_neg (hr k (by omega)), e]
    by_cases c : pl k &&& s = 0
    · rw [if_pos c]
      exact ⟨by omega, fun h => absurd h (by omega), fun h => absurd c (h k (by omega))⟩
    · rw [if_neg c]
      refine ⟨by omega, fun h q hq => ?_, fun h => ?_⟩
      · by_cases y : q = k
        · subst y; exact c
        · exact i2.mp (by omega) q (by omega)
      · have := i2.mpr (fun q hq => h q (by omega))
        omega
theorem c_full : ∀ r, r < 1023 → pcn r 10 < 10 := by decide +kernel
theorem cov_go {N : Nat} (hN : 100 ≤ N) {pl : Nat → Int32} {n : Nat} (hn : n ≤ 20) {c : Nat → Nat} (hc : ∀ s, c s = pcn s 10) :
    ∀ (d k m s : Nat), k + d = 1024 → d < m → s < 1024 → (s = 1023 ∨ s < k) → ALL pl (nI s) n → (∀ r, r < k → ALL pl (nI r) n → c s < c r ∨ (c s = c r ∧ s ≤ r)) → ∃ t, f_X2_smallestCover_b6 N (nI n) pl m (nI s) (nI k) = some (nI t) ∧ t < 1024 ∧ ALL pl (nI t) n ∧ (∀ r, r < 1024 → ALL pl (nI r) n → c t < c r ∨ (c t = c r ∧ t ≤ r)) := by
  have hC : ∀ s, c s ≤ 10 := by intro s; rw [hc]; exact pcn_le s 10
  have hF : ∀ r, r < 1023 → c r < 10 := by intro r hr; rw [hc]; exact c_full r hr
  have hE : c 1023 = 10 := by rw [hc]; decide +kernel
  intro d
  induction d with
  | zero =>
    intro k m s h1 h2 h3 h4 h5 h6
    obtain ⟨m, rfl⟩ : ∃ z, m = z + 1 := ⟨m - 1, by omega⟩
    rw [f_X2_smallestCover_b6_s]
    unfold g_X2_smallestCover_b6
    refine ⟨s, if_pos ?_, h3, h5, fun r hr => h6 r (by omega)⟩
    rw [show (1023 : Int32) = nI 1023 from rfl, nI_ltI (by omega) (by omega)]; omega
  | succ d ih =>
    intro k m s h1 h2 h3 h4 h5 h6
    obtain ⟨m, rfl⟩ : ∃ z, m = z + 1 := ⟨m - 1, by omega⟩
    have hk : k < 1024 := by omega
    rw [f_X2_smallestCover_b6_s]
    unfold g_X2_smallestCover_b6
    rw [if_neg (fun q => by rw [show (1023 : Int32) = nI 1023 from rfl, nI_ltI (by omega) (by omega)] at q; omega), bc_eq hk, bc_eq h3, ← hc k, ← hc s, nI_1]
    have hCk := hC k
    have hCs := hC s
    by_cases q : c s ≤ c k
    · rw [if_pos ((nI_leI (by omega) (by omega)).mpr q)]
      refine ih (k + 1) m s (by omega) (by omega) h3 (by omega) h5 (fun r hr hr2 => ?_)
      by_cases y : r = k
      · subst y
        rcases h4 with h4 | h4
        · subst h4
          by_cases y : r = 1023
          · subst y; omega
          · have := hF r (by omega)
            omega
        · omega
      · exact h6 r (by omega) hr2
    · rw [if_neg (fun z => q ((nI_leI (by omega) (by omega)).mp z))]
      unfold f_X2_catchesAll
      obtain ⟨v, v1, v2⟩ := all_go N pl hn (nI k) n 0 N (by omega) (by omega) (fun h hh => absurd hh (by omega))
      rw [show nI 0 = 0 from rfl] at v1
      rw [v1, bd_of rfl]
      rcases v2 with ⟨rfl, v2⟩ | ⟨rfl, v2⟩
      · rw [if_neg (by decide)]
        refine ih (k + 1) m k (by omega) (by omega) hk (by omega) v2 (fun r hr hr2 => ?_)
        by_cases y : r = k
        · subst y; omega
        · have := h6 r (by omega) hr2
          omega
      · rw [if_pos rfl]
        refine ih (k + 1) m s (by omega) (by omega) h3 (by omega) h5 (fun r hr hr2 => ?_)
        by_cases y : r = k
        · subst y; exact absurd hr2 v2
        · exact h6 r (by omega) hr2
theorem and_full : ∀ a, a < 1024 → nI a &&& nI 1023 = nI a := by decide +kernel
theorem po_cover {N : Nat} (hN : 2000 ≤ N) {pl we g : Nat → Int32} {n : Nat} (hR : HR n pl we g) : ∃ v, f_X10_cover N (nI n) pl = some v ∧ f_X11_cover N g = some v := by
  unfold f_X10_cover f_X11_cover
  obtain ⟨hn, h4, hg, hw0⟩ := id hR
  have hw : ∀ h, h < n → ∃ w, 1 ≤ w ∧ w ≤ 1000 ∧ we h = nI w := fun h hh => by rw [(hg h (by omega)).2]; exact (hw0 h hh).2
  have hA : ALL pl (nI 1023) n := by
    intro h hh
    obtain ⟨a, a1, a2, a3⟩ := (hw0 h hh).1
    rw [(hg h (by omega)).1, a3, and_full a (by omega), nI_eq0 (by omega)]
    omega
  obtain ⟨t, t1, t2⟩ := trap_eq hN (show 10 ≤ 10 by omega) hR
  obtain ⟨s, s1, s2, s3, s4⟩ := cov_go (N := N) (by omega) hn (fun s => rfl) 1024 0 N 1023 (by omega) (by omega) (by omega) (by omega) hA (fun r hr => absurd hr (by omega))
  unfold f_X2_smallestCover
  rw [show nI 0 = 0 from rfl, show nI 1023 = 1023 from rfl] at s1
  rw [show nI 10 = 10 from rfl] at t1
  have e : BST (fun s => wgN pl we (nI s) n) (fun s => pcn s 10) 10 s := by
    refine ⟨s2, pcn_le _ _, fun r hr _ => ?_⟩
    have q := wg_all hw (s := nI r) s3 n (Nat.le_refl n)
    by_cases z : ALL pl (nI r) n
    · exact Or.inr ⟨(q.2.mpr z).symm, s4 r hr z⟩
    · refine Or.inl (Nat.lt_of_le_of_ne q.1 (fun y => z (q.2.mp y)))
  rw [s1, t1, bd_of rfl, bd_of rfl, BST_u e t2]
  exact ⟨_, rfl, rfl⟩
end PHA
