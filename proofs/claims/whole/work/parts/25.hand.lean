/-! ===== the hand ===== -/
section PH
variable {n u : Nat} {kind saved lost gain gap least most hand g : Nat → Int32}
def th (g : Nat → Int32) (t : Nat) : Int32 := 60 * g (35 + t) - g (75 + t) * g (45 + t)
def ke (g : Nat → Int32) (t : Nat) : Int32 := 60 * g (25 + t) + g (75 + t) * (g (15 + t) - g (25 + t))
theorem toThief_eq {j : Nat} (h : j < 10) : f_X11_toThief g (nI j) = some (th g j) := by
  unfold f_X11_toThief th
  rw [gI_35 (by omega), gI_75 (by omega), gI_45 (by omega), cl_35 (by omega), cl_75 (by omega), cl_45 (by omega)]
theorem toKeeper_eq {j : Nat} (h : j < 10) : f_X11_toKeeper g (nI j) = some (ke g j) := by
  unfold f_X11_toKeeper ke
  rw [gI_25 (by omega), gI_75 (by omega), gI_15 (by omega), gI_25 (by omega), cl_25 (by omega), cl_75 (by omega), cl_15 (by omega)]
theorem thief_eq (e : TE kind saved lost gain gap least most hand g) {j : Nat} (h : j < 10) : f_X8_thiefByHand gain gap hand (nI j) = some (th g j) := by
  obtain ⟨e1, e2, e3, e4, e5, e6, e7, e8⟩ := e j h
  unfold f_X8_thiefByHand th
  simp only [gI_n h (by decide), cl_n (show j < 2 ^ 31 by omega), e4, e5, e8]
theorem keeper_eq (e : TE kind saved lost gain gap least most hand g) {j : Nat} (h : j < 10) : f_X8_keeperByHand saved lost hand (nI j) = some (ke g j) := by
  obtain ⟨e1, e2, e3, e4, e5, e6, e7, e8⟩ := e j h
  unfold f_X8_keeperByHand ke
  simp only [gI_n h (by decide), cl_n (show j < 2 ^ 31 by omega), e2, e3, e8]
/-- the better of two for the thief, then for the keeper -/
def pick (g : Nat → Int32) (b t : Nat) : Nat := if th g b < th g t then t else if th g t = th g b then (if ke g t ≤ ke g b then b else t) else b
def gl (g : Nat → Int32) : Nat → Nat
  | 0 => 0
  | t + 1 => if t = 0 then 0 else pick g (gl g t) t
theorem gl_lt (g : Nat → Int32) : ∀ t, 0 < t → gl g t < t := by
  intro t
  induction t with
  | zero => intro h; omega
  | succ t ih =>
    intro _
    unfold gl
    by_cases h : t = 0
    · rw [if_pos h]; omega
    · rw [if_neg h]
      have := ih (by omega)
      unfold pick
      split
      · omega
      · split
        · split <;> omega
        · omega
theorem mul_b {a b : Int} {A B : Int} (h1 : -A ≤ a) (h2 : a ≤ A) (h3 : -B ≤ b) (h4 : b ≤ B) : -(A * B) ≤ a * b ∧ a * b ≤ A * B := by
  have hA : 0 ≤ A := by omega
  have hB : 0 ≤ B := by omega
  have h5 : a.natAbs ≤ A.natAbs := by omega
  have h6 : b.natAbs ≤ B.natAbs := by omega
  have h7 : (a * b).natAbs ≤ (A * B).natAbs := by rw [Int.natAbs_mul, Int.natAbs_mul]; exact Nat.mul_le_mul h5 h6
  have h8 : 0 ≤ A * B := Int.mul_nonneg hA hB
  omega
theorem th_toInt {t : Nat} (h : TOK g t) : (th g t).toInt = 60 * (g (35 + t)).toInt - (g (75 + t)).toInt * (g (45 + t)).toInt ∧ -7200 ≤ (th g t).toInt ∧ (th g t).toInt ≤ 7200 := by
  obtain ⟨h1, h2, h3, h4, h5, h6, h7⟩ := h
  have s60 : (60 : Int32).toInt = 60 := rfl
  have m := mul_b (a := (g (75 + t)).toInt) (b := (g (45 + t)).toInt) (A := 60) (B := 60) (by omega) (by omega) (by omega) (by omega)
  have e1 : (60 * g (35 + t)).toInt = 60 * (g (35 + t)).toInt := by rw [i_mul] <;> rw [s60] <;> omega
  have e2 : (g (75 + t) * g (45 + t)).toInt = (g (75 + t)).toInt * (g (45 + t)).toInt := i_mul (by omega) (by omega)
  unfold th
  rw [i_sub, e1, e2]
  · refine ⟨rfl, ?_, ?_⟩ <;> omega
  · rw [e1, e2]; omega
  · rw [e1, e2]; omega
theorem ke_toInt {t : Nat} (h : TOK g t) : (ke g t).toInt = 60 * (g (25 + t)).toInt + (g (75 + t)).toInt * ((g (15 + t)).toInt - (g (25 + t)).toInt) ∧ -20000 ≤ (ke g t).toInt ∧ (ke g t).toInt ≤ 20000 := by
  obtain ⟨h1, h2, h3, h4, h5, h6, h7⟩ := h
  have s60 : (60 : Int32).toInt = 60 := rfl
  have e0 : (g (15 + t) - g (25 + t)).toInt = (g (15 + t)).toInt - (g (25 + t)).toInt := i_sub (by omega) (by omega)
  have m := mul_b (a := (g (75 + t)).toInt) (b := (g (15 + t)).toInt - (g (25 + t)).toInt) (A := 60) (B := 120) (by omega) (by omega) (by omega) (by omega)
  have e1 : (60 * g (25 + t)).toInt = 60 * (g (25 + t)).toInt := by rw [i_mul] <;> rw [s60] <;> omega
  have e2 : (g (75 + t) * (g (15 + t) - g (25 + t))).toInt = (g (75 + t)).toInt * ((g (15 + t)).toInt - (g (25 + t)).toInt) := by
    rw [i_mul, e0] <;> rw [e0] <;> omega
  unfold ke
  rw [i_add, e1, e2]
  · refine ⟨rfl, ?_, ?_⟩ <;> omega
  · rw [e1, e2]; omega
  · rw [e1, e2]; omega
theorem goal_go (hT : TR n u kind saved lost gain gap least most hand g) (N : Nat) : ∀ (d t m : Nat), 1 ≤ t → t + d = n → d < m → f_X8_goalByHand_b4 N (nI n) saved lost gain gap hand m (nI (gl g t)) (nI t) = some (nI (gl g n)) := by
  obtain ⟨ha, hb, hc, hd, e, f⟩ := hT
  intro d
  induction d with
  | zero =>
    intro t m h1 h2 hm
    obtain ⟨m, rfl⟩ : ∃ z, m = z + 1 := ⟨m - 1, by omega⟩
    rw [f_X8_goalByHand_b4_s]
    unfold g_X8_goalByHand_b4
    rw [if_pos ((nI_leI (by omega) (by omega)).mpr (by omega)), show t = n by omega]
  | succ d ih =>
    intro t m h1 h2 hm
    obtain ⟨m, rfl⟩ : ∃ z, m = z + 1 := ⟨m - 1, by omega⟩
    have hg := gl_lt g t (by omega)
    rw [f_X8_goalByHand_b4_s]
    unfold g_X8_goalByHand_b4
    rw [if_neg (fun q => absurd ((nI_leI (by omega) (by omega)).mp q) (by omega)), bd_of (thief_eq e (by omega)), bd_of (thief_eq e (by omega)), bd_of (keeper_eq e (by omega)), bd_of (keeper_eq e (by omega))]
    obtain ⟨-, b1, b2⟩ := th_toInt (f t (by omega))
    obtain ⟨-, b3, b4⟩ := th_toInt (f (gl g t) (by omega))
    have es : (th g t - th g (gl g t)).toInt = (th g t).toInt - (th g (gl g t)).toInt := i_sub (by omega) (by omega)
    have c1 : (0 < th g t - th g (gl g t)) ↔ th g (gl g t) < th g t := by
      rw [Int32.lt_iff_toInt_lt, Int32.lt_iff_toInt_lt, es, i0]; omega
    have c2 : (th g t - th g (gl g t) = 0) ↔ th g t = th g (gl g t) := by
      rw [← Int32.toInt_inj, ← Int32.toInt_inj, es, i0]; omega
    have step : gl g (t + 1) = pick g (gl g t) t := by
      show (if t = 0 then 0 else pick g (gl g t) t) = _
      rw [if_neg (by omega)]
    rw [nI_1]
    have ih1 := ih (t + 1) m (by omega) (by omega) (by omega)
    rw [step] at ih1
    unfold pick at ih1
    by_cases q1 : th g (gl g t) < th g t
    · rw [if_pos q1] at ih1
      rw [if_pos (c1.mpr q1)]
      exact ih1
    · rw [if_neg q1] at ih1
      rw [if_neg (fun q => q1 (c1.mp q))]
      by_cases q2 : th g t = th g (gl g t)
      · rw [if_pos q2] at ih1
        rw [if_pos (c2.mpr q2)]
        by_cases q3 : ke g t ≤ ke g (gl g t)
        · rw [if_pos q3] at ih1 ⊢; exact ih1
        · rw [if_neg q3] at ih1 ⊢; exact ih1
      · rw [if_neg q2] at ih1
        rw [if_neg (fun q => q2 (c2.mp q))]
        exact ih1
theorem comes_go (hT : TR n u kind saved lost gain gap least most hand g) (N : Nat) : ∀ (d t m : Nat), 1 ≤ t → t + d = n → d < m → f_X11_comesTo_b4 N g m (nI (gl g t)) (nI t) = some (nI (gl g n)) := by
  obtain ⟨ha, hb, hc, hd, e, f⟩ := hT
  intro d
  induction d with
  | zero =>
    intro t m h1 h2 hm
    obtain ⟨m, rfl⟩ : ∃ z, m = z + 1 := ⟨m - 1, by omega⟩
    rw [f_X11_comesTo_b4_s]
    unfold g_X11_comesTo_b4
    rw [hc, if_pos ((nI_leI (by omega) (by omega)).mpr (by omega)), show t = n by omega]
  | succ d ih =>
    intro t m h1 h2 hm
    obtain ⟨m, rfl⟩ : ∃ z, m = z + 1 := ⟨m - 1, by omega⟩
    have hg := gl_lt g t (by omega)
    rw [f_X11_comesTo_b4_s]
    unfold g_X11_comesTo_b4 f_X11_comesTo_b57 f_X11_comesTo_b61 f_X11_comesTo_b62
    have k1 : ¬ (1 : Int32) = 0 := by decide
    rw [hc, if_neg (fun q => absurd ((nI_leI (by omega) (by omega)).mp q) (by omega)), if_neg (nI_pos (by omega)), bd_of (toThief_eq (by omega)), bd_of (toThief_eq (by omega)), bd_of (toThief_eq (by omega)), bd_of (toThief_eq (by omega)), bd_of (toKeeper_eq (by omega)), bd_of (toKeeper_eq (by omega)), if_neg k1, if_pos (show (0 : Int32) = 0 from rfl), nI_1]
    have step : gl g (t + 1) = pick g (gl g t) t := by
      show (if t = 0 then 0 else pick g (gl g t) t) = _
      rw [if_neg (by omega)]
    have ih1 := ih (t + 1) m (by omega) (by omega) (by omega)
    rw [step] at ih1
    unfold pick at ih1
    by_cases q1 : th g (gl g t) < th g t
    · rw [if_pos q1] at ih1 ⊢; exact ih1
    · rw [if_neg q1] at ih1 ⊢
      by_cases q2 : th g t = th g (gl g t)
      · rw [if_pos q2] at ih1 ⊢
        by_cases q3 : ke g t ≤ ke g (gl g t)
        · rw [if_pos q3] at ih1 ⊢; exact ih1
        · rw [if_neg q3] at ih1 ⊢; exact ih1
      · rw [if_neg q2] at ih1 ⊢; exact ih1
theorem goal_eq (hT : TR n u kind saved lost gain gap least most hand g) {N : Nat} (hN : 100 ≤ N) (h0 : 0 < n) : f_X8_goalByHand N (nI n) saved lost gain gap hand = some (nI (gl g n)) := by
  unfold f_X8_goalByHand
  exact goal_go hT N (n - 1) 1 N (by omega) (by omega) (by have := hT.1; omega)
theorem comesTo_eq (hT : TR n u kind saved lost gain gap least most hand g) {N : Nat} (hN : 100 ≤ N) : f_X11_comesTo N g = some (if n = 0 then -1 else nI (gl g n)) := by
  have hc := hT.2.2.1
  have ha := hT.1
  unfold f_X11_comesTo
  obtain ⟨M, rfl⟩ : ∃ z, N = z + 1 := ⟨N - 1, by omega⟩
  have unf : f_X11_comesTo_b4 (M + 1) g (M + 1) (-1) 0 = g_X11_comesTo_b4 (M + 1) g (f_X11_comesTo_b4 (M + 1) g M) (-1) 0 := rfl
  rw [unf]
  unfold g_X11_comesTo_b4 f_X11_comesTo_b57 f_X11_comesTo_b62
  rw [hc]
  by_cases h : n = 0
  · subst h
    rw [if_pos (show nI 0 ≤ 0 by decide), if_pos rfl]
  · rw [if_neg h, if_neg (show ¬ nI n ≤ 0 from fun q => absurd ((nI_leI (a := n) (b := 0) (by omega) (by omega)).mp q) (by omega)), if_pos (show (-1 : Int32) < 0 by decide), if_neg (show ¬ (1 : Int32) = 0 by decide)]
    exact comes_go hT (M + 1) (n - 1) 1 M (by omega) (by omega) (by omega)
theorem po_comes (hT : TR n u kind saved lost gain gap least most hand g) {N : Nat} (hN : 100 ≤ N) :
    ∃ r : Int32, f_X10_comes N (nI n) saved lost gain gap hand = some r ∧ f_X11_comes N g = some r := by
  have ha := hT.1
  unfold f_X10_comes f_X11_comes
  rw [bd_of (comesTo_eq hT hN)]
  by_cases h : n = 0
  · subst h
    rw [if_pos (show nI 0 = 0 from rfl), if_pos rfl]
    exact ⟨_, rfl, if_neg (by decide)⟩
  · have hg := gl_lt g n (by omega)
    rw [if_neg (fun q => h ((nI_eq0 (by omega)).mp q)), bd_of (goal_eq hT hN (by omega)), if_neg h, if_pos (nI_pos' (by omega))]
    exact ⟨_, rfl, rfl⟩
theorem frac60 {N : Nat} (hN : 200 ≤ N) (x y w : Int32) : ∃ r d : Int32, f_X10_fraction N x w.toInt64 60 = some (r, d) ∧ f_X11_fraction N y w.toInt64 60 = some (r, d) := by
  have h1 := Int32.le_toInt w
  have h2 := Int32.toInt_lt w
  rw [x64, show (60 : Int64) = lN 60 from rfl]
  exact ⟨_, _, fr_X10 hN x (by omega) (by omega) (by omega) (by omega), fr_X11 hN y (by omega) (by omega) (by omega) (by omega)⟩
theorem po_handWorth (hT : TR n u kind saved lost gain gap least most hand g) {N : Nat} (hN : 200 ≤ N) (x : Int32) :
    ∃ r d : Int32, f_X10_handWorth N x (nI n) saved lost gain gap hand = some (r, d) ∧ f_X11_handWorth N x g = some (r, d) := by
  have ha := hT.1
  have e := hT.2.2.2.2.1
  unfold f_X10_handWorth f_X11_handWorth
  rw [bd_of (comesTo_eq hT (by omega))]
  by_cases h : n = 0
  · subst h
    rw [if_pos (show nI 0 = 0 from rfl), if_pos rfl]
    exact ⟨_, _, rfl, if_neg (by decide)⟩
  · have hg := gl_lt g n (by omega)
    rw [if_neg (fun q => h ((nI_eq0 (by omega)).mp q)), bd_of (goal_eq hT (by omega) (by omega)), bd_of (keeper_eq e (by omega)), if_neg h, if_pos (nI_pos' (by omega)), bd_of (toKeeper_eq (by omega))]
    obtain ⟨r, d, q1, q2⟩ := frac60 hN x x (ke g (gl g n))
    rw [bd_of q1, bd_of q2]
    exact ⟨r, d, rfl, rfl⟩
def wl (g : Nat → Int32) (en w : Int32) : Nat → Int32
  | 0 => w
  | t + 1 => if th g t < en then wl g en w t else if ke g t < wl g en w t then ke g t else wl g en w t
theorem worst_go (hT : TR n u kind saved lost gain gap least most hand g) (N : Nat) (en w : Int32) : ∀ (d t m : Nat), t + d = n → d < m → f_X8_worstByHand_b23 N (nI n) saved lost gain gap hand en m (wl g en w t) (nI t) = some (wl g en w n) := by
  obtain ⟨ha, hb, hc, hd, e, f⟩ := hT
  intro d
  induction d with
  | zero =>
    intro t m h2 hm
    obtain ⟨m, rfl⟩ : ∃ z, m = z + 1 := ⟨m - 1, by omega⟩
    rw [f_X8_worstByHand_b23_s]
    unfold g_X8_worstByHand_b23
    rw [if_pos ((nI_leI (by omega) (by omega)).mpr (by omega)), show t = n by omega]
  | succ d ih =>
    intro t m h2 hm
    obtain ⟨m, rfl⟩ : ∃ z, m = z + 1 := ⟨m - 1, by omega⟩
    rw [f_X8_worstByHand_b23_s]
    unfold g_X8_worstByHand_b23
    rw [if_neg (fun q => absurd ((nI_leI (by omega) (by omega)).mp q) (by omega)), bd_of (thief_eq e (by omega)), bd_of (keeper_eq e (by omega)), nI_1]
    have ih1 := ih (t + 1) m (by omega) (by omega)
    have hw : wl g en w (t + 1) = if th g t < en then wl g en w t else if ke g t < wl g en w t then ke g t else wl g en w t := rfl
    rw [hw] at ih1
    by_cases q : th g t < en
    · rw [if_pos q] at ih1 ⊢; exact ih1
    · rw [if_neg q] at ih1 ⊢; exact ih1
theorem errs_go (hT : TR n u kind saved lost gain gap least most hand g) (N : Nat) (x p1 w : Int32) {b : Nat} (hb9 : b < 10) : ∀ (d t m : Nat), t + d = n → d < m → f_X11_errs_b35 N g x p1 (nI b) m (wl g (th g b - p1) w t) (nI t) = bd (f_X11_fraction N x (wl g (th g b - p1) w n).toInt64 60) (fun q2 => some (q2.1, q2.2)) := by
  obtain ⟨ha, hb, hc, hd, e, f⟩ := hT
  intro d
  induction d with
  | zero =>
    intro t m h2 hm
    obtain ⟨m, rfl⟩ : ∃ z, m = z + 1 := ⟨m - 1, by omega⟩
    rw [f_X11_errs_b35_s]
    unfold g_X11_errs_b35
    rw [hc, if_pos ((nI_leI (by omega) (by omega)).mpr (by omega)), show t = n by omega]
  | succ d ih =>
    intro t m h2 hm
    obtain ⟨m, rfl⟩ : ∃ z, m = z + 1 := ⟨m - 1, by omega⟩
    rw [f_X11_errs_b35_s]
    unfold g_X11_errs_b35
    rw [hc, if_neg (fun q => absurd ((nI_leI (by omega) (by omega)).mp q) (by omega)), bd_of (toThief_eq (by omega)), bd_of (toThief_eq hb9), bd_of (toKeeper_eq (by omega)), bd_of (toKeeper_eq (by omega)), nI_1]
    have ih1 := ih (t + 1) m (by omega) (by omega)
    have hw : wl g (th g b - p1) w (t + 1) = if th g t < th g b - p1 then wl g (th g b - p1) w t else if ke g t < wl g (th g b - p1) w t then ke g t else wl g (th g b - p1) w t := rfl
    rw [hw] at ih1
    by_cases q : th g t < th g b - p1
    · rw [if_pos q] at ih1 ⊢; exact ih1
    · rw [if_neg q] at ih1 ⊢
      by_cases q2 : ke g t < wl g (th g b - p1) w t
      · rw [if_pos q2] at ih1
        rw [if_neg (Int32.not_le.mpr q2)]
        exact ih1
      · rw [if_neg q2] at ih1
        rw [if_pos (Int32.not_lt.mp q2)]
        exact ih1
theorem po_errs (hT : TR n u kind saved lost gain gap least most hand g) {N : Nat} (hN : 200 ≤ N) (x p1 : Int32) :
    ∃ r d : Int32, f_X10_errs N x (nI n) saved lost gain gap hand p1 = some (r, d) ∧ f_X11_errs N x g p1 = some (r, d) := by
  have ha := hT.1
  have e := hT.2.2.2.2.1
  unfold f_X10_errs f_X11_errs
  rw [within_eq]
  rcases from_cases p1 0 3600 with ⟨h1, -, -⟩ | ⟨h1, -⟩
  · rw [h1, if_neg i10ne, if_neg i10ne, bd_of (comesTo_eq hT (by omega))]
    by_cases h : n = 0
    · subst h
      rw [if_pos (show nI 0 = 0 from rfl), if_pos rfl]
      exact ⟨_, _, rfl, if_neg (by decide)⟩
    · have hg := gl_lt g n (by omega)
      have cw : f_X8_worstByHand N (nI n) saved lost gain gap hand p1 = some (wl g (th g (gl g n) - p1) (ke g (gl g n)) n) := by
        unfold f_X8_worstByHand
        rw [bd_of (goal_eq hT (by omega) (by omega)), bd_of (thief_eq e (by omega)), bd_of (keeper_eq e (by omega))]
        exact worst_go hT N _ _ n 0 N (by omega) (by omega)
      have mw := errs_go hT N x p1 (ke g (gl g n)) (b := gl g n) (by omega) n 0 N (by omega) (by omega)
      obtain ⟨r, d, q1, q2⟩ := frac60 hN x x (wl g (th g (gl g n) - p1) (ke g (gl g n)) n)
      rw [if_neg (fun q => h ((nI_eq0 (by omega)).mp q)), bd_of cw, bd_of q1, if_neg h, if_pos (nI_pos' (by omega)), bd_of (toKeeper_eq (by omega))]
      refine ⟨r, d, rfl, ?_⟩
      refine Eq.trans ?_ (mw.trans ?_)
      · rfl
      · rw [bd_of q2]
  · rw [h1, if_pos rfl, if_pos rfl]
    exact ⟨_, _, rfl, rfl⟩
def hs (g : Nat → Int32) (w : Int32) : Nat → Int32
  | 0 => w
  | t + 1 => hs g w t + g (75 + t)
theorem hs_add (g : Nat → Int32) (w : Int32) : ∀ t, hs g w t = hs g 0 t + w := by
  intro t
  induction t with
  | zero => show w = 0 + w; rw [Int32.zero_add]
  | succ t ih =>
    show hs g w t + _ = hs g 0 t + _ + w
    rw [ih, Int32.add_assoc, Int32.add_assoc, Int32.add_comm w]
theorem spare_X (hT : TR n u kind saved lost gain gap least most hand g) (N : Nat) (w gu : Int32) : ∀ (d t m : Nat), t + d = n → d < m → f_X10_spare_b12 N (nI n) gu hand m (hs g w t) (nI t) = some (hs g w n - (60 * gu)) := by
  obtain ⟨ha, hb, hc, hd, e, f⟩ := hT
  intro d
  induction d with
  | zero =>
    intro t m h2 hm
    obtain ⟨m, rfl⟩ : ∃ z, m = z + 1 := ⟨m - 1, by omega⟩
    rw [f_X10_spare_b12_s]
    unfold g_X10_spare_b12
    rw [if_pos ((nI_leI (by omega) (by omega)).mpr (by omega)), show t = n by omega]
  | succ d ih =>
    intro t m h2 hm
    obtain ⟨m, rfl⟩ : ∃ z, m = z + 1 := ⟨m - 1, by omega⟩
    rw [f_X10_spare_b12_s]
    unfold g_X10_spare_b12
    rw [if_neg (fun q => absurd ((nI_leI (by omega) (by omega)).mp q) (by omega)), gI_n (show t < 10 by omega) (by decide), cl_n (by omega), (e t (by omega)).2.2.2.2.2.2.2, nI_1]
    exact ih (t + 1) m (by omega) (by omega)
theorem spare_Y (hT : TR n u kind saved lost gain gap least most hand g) (N : Nat) (w : Int32) : ∀ (d t m : Nat), t + d = n → d < m → f_X11_spare_b12 N g m (hs g w t) (nI t) = some (hs g w n) := by
  obtain ⟨ha, hb, hc, hd, e, f⟩ := hT
  intro d
  induction d with
  | zero =>
    intro t m h2 hm
    obtain ⟨m, rfl⟩ : ∃ z, m = z + 1 := ⟨m - 1, by omega⟩
    rw [f_X11_spare_b12_s]
    unfold g_X11_spare_b12
    rw [hc, if_pos ((nI_leI (by omega) (by omega)).mpr (by omega)), show t = n by omega]
  | succ d ih =>
    intro t m h2 hm
    obtain ⟨m, rfl⟩ : ∃ z, m = z + 1 := ⟨m - 1, by omega⟩
    rw [f_X11_spare_b12_s]
    unfold g_X11_spare_b12
    rw [hc, if_neg (fun q => absurd ((nI_leI (by omega) (by omega)).mp q) (by omega)), gI_75 (by omega), cl_75 (by omega), nI_1]
    exact ih (t + 1) m (by omega) (by omega)
theorem po_spare (hT : TR n u kind saved lost gain gap least most hand g) {N : Nat} (hN : 200 ≤ N) :
    ∃ r : Int32, f_X10_spare N (nI n) (nI u) hand = some r ∧ f_X11_spare N g = some r := by
  have ha := hT.1
  unfold f_X10_spare f_X11_spare
  refine ⟨_, spare_X hT N 0 (nI u) n 0 N (by omega) (by omega), ?_⟩
  rw [hT.2.2.2.1]
  refine (spare_Y hT N ((-60) * nI u) n 0 N (by omega) (by omega)).trans ?_
  rw [hs_add g ((-60) * nI u) n]
  congr 1
  rw [Int32.sub_eq_add_neg, Int32.neg_mul]
end PH
