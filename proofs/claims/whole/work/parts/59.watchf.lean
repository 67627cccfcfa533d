/-! ===== the reference: behind, goesOn, isState, strike ===== -/
section PWF
variable {N n F : Nat} {g lost : Nat → Int32}
/-- the posts in the reference's row -/
def PG (n F : Nat) (g : Nat → Int32) : Prop := n ≤ 5 ∧ F < 8 ^ n ∧ g 3 = nI n ∧ ∀ p, p < n → g (149 + p) = nI (dg F p + 1)
theorem mul8 (a b : Nat) : (8 : Int32) * nI a + nI b = nI (8 * a + b) := by
  rw [show (8 : Int32) = nI 8 from rfl, nI_mul, nI_add]
theorem adm1 (x : Int32) : x + (-1) = x - 1 := (Int32.sub_eq_add_neg x 1).symm
theorem beh_ok {s v : Nat} (hG : PG n F g) (hs : s < 32768) (hv : v < n) (h : ∀ p, p < n → p ≠ v → dg s p ≠ 0) : ∀ (k m : Nat), k ≤ n → k < m → f_X11_behind_b12 N g (nI s) (nI v) m (nI (sg (fun i => gx F s v (k + i)) (n - k))) (nI k - 1) = some (nI (sg (gx F s v) n)) := by
  obtain ⟨hn, hF, h3, he⟩ := hG
  intro k
  induction k with
  | zero =>
    intro m _ hm
    obtain ⟨m, rfl⟩ : ∃ z, m = z + 1 := ⟨m - 1, by omega⟩
    rw [f_X11_behind_b12_s]
    unfold g_X11_behind_b12
    rw [if_pos (by decide), Nat.sub_zero, sg_congr (h := gx F s v) (fun i _ => by rw [Nat.zero_add])]
  | succ k ih =>
    intro m hk hm
    obtain ⟨m, rfl⟩ : ∃ z, m = z + 1 := ⟨m - 1, by omega⟩
    rw [f_X11_behind_b12_s]
    unfold g_X11_behind_b12
    rw [nI_m1 (by omega), Nat.add_sub_cancel, if_neg (nI_n0 (by omega)), dg_I hs (by omega)]
    have key : ∀ a : Nat, gx F s v k = a → f_X11_behind_b12 N g (nI s) (nI v) m ((8 : Int32) * nI (sg (fun i => gx F s v (k + 1 + i)) (n - (k + 1))) + nI a) (nI k + (-1)) = some (nI (sg (gx F s v) n)) := by
      intro a ha
      have := ih m (by omega) (by omega)
      rw [show n - k = n - (k + 1) + 1 by omega, sg_s, Nat.add_zero, ha, Nat.add_comm a, sg_congr (g := fun p => gx F s v (k + (p + 1))) (h := fun i => gx F s v (k + 1 + i)) (fun i _ => by show gx F s v (k + (i + 1)) = _; rw [show k + (i + 1) = k + 1 + i by omega])] at this
      rw [mul8, adm1]
      exact this
    by_cases e : k = v
    · rw [if_pos (by rw [e])]
      unfold f_X11_behind_b41
      rw [if_pos (by rw [e]), gI_149 (by omega), cl_149 (by omega), he k (by omega), nI_m1 (by omega), Nat.add_sub_cancel]
      exact key _ (by unfold gx; rw [if_pos e])
    · have e' : ¬ nI k = nI v := fun q => e ((nI_eq (by omega) (by omega)).mp q)
      have h1 := h k (by omega) e
      have h2 := dg_lt s k
      rw [if_neg e', if_neg (fun q => h1 ((nI_eq0 (by omega)).mp q))]
      unfold f_X11_behind_b41
      rw [if_neg e', nI_m1 (by omega)]
      exact key _ (by unfold gx; rw [if_neg e])
theorem beh_bad {s v p0 : Nat} (hG : PG n F g) (hs : s < 32768) (hv : v < n) (h0 : p0 < n) (h1 : p0 ≠ v) (h2 : dg s p0 = 0) : ∀ (d k m : Nat) (acc : Int32), p0 + 1 + d = k → k ≤ n → d < m → f_X11_behind_b12 N g (nI s) (nI v) m acc (nI k - 1) = some (-1) := by
  obtain ⟨hn, hF, h3, he⟩ := hG
  intro d
  induction d with
  | zero =>
    intro k m acc hk hkn hm
    obtain ⟨m, rfl⟩ : ∃ z, m = z + 1 := ⟨m - 1, by omega⟩
    rw [f_X11_behind_b12_s]
    unfold g_X11_behind_b12
    have hp : k - 1 = p0 := by omega
    rw [nI_m1 (by omega), hp, if_neg (nI_n0 (by omega)), dg_I hs (by omega), if_neg (fun q => h1 ((nI_eq (by omega) (by omega)).mp q)), h2, if_pos (show nI 0 = (0 : Int32) from rfl)]
  | succ d ih =>
    intro k m acc hk hkn hm
    obtain ⟨m, rfl⟩ : ∃ z, m = z + 1 := ⟨m - 1, by omega⟩
    obtain ⟨k, rfl⟩ : ∃ z, k = z + 1 := ⟨k - 1, by omega⟩
    rw [f_X11_behind_b12_s]
    unfold g_X11_behind_b12
    rw [nI_m1 (by omega), Nat.add_sub_cancel, if_neg (nI_n0 (by omega))]
    have key : ∀ a : Int32, f_X11_behind_b12 N g (nI s) (nI v) m a (nI k + (-1)) = some (-1) := fun a => by rw [adm1]; exact ih k m a (by omega) (by omega) (by omega)
    have key2 : ∀ a : Int32, f_X11_behind_b41 N g (fun v3 v4 => f_X11_behind_b12 N g (nI s) (nI v) m v3 v4) (nI s) (nI v) acc (nI k) a = some (-1) := by
      intro a
      unfold f_X11_behind_b41
      split
      · rw [gI_149 (by omega)]; exact key _
      · exact key _
    split
    · exact key2 _
    · split
      · rfl
      · exact key2 _
theorem beh_0 {s v : Nat} (hG : PG n F g) (hs : s < 8 ^ n) (hv : v < n) (hN : 10 ≤ N) (h : nxt n F s v = 0) : f_X11_behind N g (nI s) (nI v) = some (-1) := by
  have hs' := Nat.lt_of_lt_of_le hs (pow8 hG.1)
  have hn := hG.1
  unfold f_X11_behind
  rw [hG.2.2.1]
  rcases nxt_or n F s v hv with ⟨_, p, a, b, c⟩ | ⟨a, b⟩
  · exact beh_bad hG hs' hv a b c (n - (p + 1)) n N 0 (by omega) (by omega) (by omega)
  · omega
theorem beh_1 {s v r : Nat} (hG : PG n F g) (hs : s < 8 ^ n) (hv : v < n) (hN : 10 ≤ N) (h : nxt n F s v = r + 1) : f_X11_behind N g (nI s) (nI v) = some (nI r) := by
  have hs' := Nat.lt_of_lt_of_le hs (pow8 hG.1)
  have hn := hG.1
  unfold f_X11_behind
  rw [hG.2.2.1]
  obtain ⟨a, _, _, b⟩ := nxt_v hv h
  rw [a]
  have := beh_ok (N := N) hG hs' hv b n N (by omega) (by omega)
  rw [Nat.sub_self] at this
  exact this
/-- it goes on at v -/
theorem goes_at {s w r : Nat} (hG : PG n F g) (hs : s < 8 ^ n) (hN : 10 ≤ N) (hw : w < n) (hr : nxt n F s w = r + 1) (hl : lost r = 0) (hb : ∀ v r', v < w → nxt n F s v = r' + 1 → lost r' ≠ 0) : ∀ (d v m : Nat), v + d = w → d < m → f_X11_goesOn_b2 N g lost (nI s) m (nI v) = some (nI w) := by
  have hn := hG.1
  intro d
  induction d with
  | zero =>
    intro v m hv hm
    obtain ⟨m, rfl⟩ : ∃ z, m = z + 1 := ⟨m - 1, by omega⟩
    rw [f_X11_goesOn_b2_s]
    unfold g_X11_goesOn_b2
    have hvw : v = w := by omega
    have hr8 := Nat.lt_of_lt_of_le (nxt_v hw hr).2.1 (pow8 hn)
    rw [hG.2.2.1, if_neg (fun q => absurd ((nI_leI (by omega) (by omega)).mp q) (by omega)), hvw, bd_of (beh_1 hG hs hw hN hr), if_neg (nI_n0 (by omega)), gI_n hr8 (by decide), cl_n (by omega), if_pos hl]
  | succ d ih =>
    intro v m hv hm
    obtain ⟨m, rfl⟩ : ∃ z, m = z + 1 := ⟨m - 1, by omega⟩
    rw [f_X11_goesOn_b2_s]
    unfold g_X11_goesOn_b2
    rw [hG.2.2.1, if_neg (fun q => absurd ((nI_leI (by omega) (by omega)).mp q) (by omega))]
    cases e : nxt n F s v with
    | zero => rw [bd_of (beh_0 hG hs (by omega) hN e), if_pos (by decide), nI_1]; exact ih (v + 1) m (by omega) (by omega)
    | succ r' =>
      have hr8 := Nat.lt_of_lt_of_le (nxt_v (by omega) e).2.1 (pow8 hn)
      rw [bd_of (beh_1 hG hs (by omega) hN e), if_neg (nI_n0 (by omega)), gI_n hr8 (by decide), cl_n (by omega), if_neg (hb v r' (by omega) e), nI_1]
      exact ih (v + 1) m (by omega) (by omega)
theorem goes_eq {s w r : Nat} (hG : PG n F g) (hs : s < 8 ^ n) (hN : 10 ≤ N) (hw : w < n) (hr : nxt n F s w = r + 1) (hl : lost r = 0) (hb : ∀ v r', v < w → nxt n F s v = r' + 1 → lost r' ≠ 0) : f_X11_goesOn N g lost (nI s) = some (nI w) := by
  have hn := hG.1
  exact goes_at hG hs hN hw hr hl hb w 0 N (by omega) (by omega)
/-- it goes on somewhere, or nowhere -/
theorem goes_or {s : Nat} (hG : PG n F g) (hs : s < 8 ^ n) (hN : 10 ≤ N) : ∀ (d v m : Nat), v + d = n → d < m → (∀ u r, u < v → nxt n F s u = r + 1 → lost r ≠ 0) →
    (∃ w r, w < n ∧ nxt n F s w = r + 1 ∧ lost r = 0 ∧ f_X11_goesOn_b2 N g lost (nI s) m (nI v) = some (nI w)) ∨ ((∀ u r, u < n → nxt n F s u = r + 1 → lost r ≠ 0) ∧ f_X11_goesOn_b2 N g lost (nI s) m (nI v) = some (-1)) := by
  have hn := hG.1
  intro d
  induction d with
  | zero =>
    intro v m hv hm hb
    obtain ⟨m, rfl⟩ : ∃ z, m = z + 1 := ⟨m - 1, by omega⟩
    rw [f_X11_goesOn_b2_s]
    unfold g_X11_goesOn_b2
    rw [hG.2.2.1, if_pos ((nI_leI (by omega) (by omega)).mpr (by omega))]
    exact .inr ⟨fun u r hu => hb u r (by omega), rfl⟩
  | succ d ih =>
    intro v m hv hm hb
    obtain ⟨m, rfl⟩ : ∃ z, m = z + 1 := ⟨m - 1, by omega⟩
    rw [f_X11_goesOn_b2_s]
    unfold g_X11_goesOn_b2
    rw [hG.2.2.1, if_neg (fun q => absurd ((nI_leI (by omega) (by omega)).mp q) (by omega))]
    cases e : nxt n F s v with
    | zero =>
      rw [bd_of (beh_0 hG hs (by omega) hN e), if_pos (by decide), nI_1]
      refine ih (v + 1) m (by omega) (by omega) (fun u r hu hr => ?_)
      by_cases q : u = v
      · subst q; omega
      · exact hb u r (by omega) hr
    | succ r' =>
      have hr8 := Nat.lt_of_lt_of_le (nxt_v (by omega) e).2.1 (pow8 hn)
      rw [bd_of (beh_1 hG hs (by omega) hN e), if_neg (nI_n0 (by omega)), gI_n hr8 (by decide), cl_n (by omega)]
      by_cases hl : lost r' = 0
      · rw [if_pos hl]; exact .inl ⟨v, r', by omega, e, hl, rfl⟩
      · rw [if_neg hl, nI_1]
        refine ih (v + 1) m (by omega) (by omega) (fun u r hu hr => ?_)
        by_cases q : u = v
        · subst q; rw [show r = r' by omega]; exact hl
        · exact hb u r (by omega) hr
theorem isS_go {s : Nat} (hG : PG n F g) (hs : s < 32768) : ∀ (d p m : Nat) (b : Int32), p + d = n → d < m → (b = 0 ∨ b = 1 ∧ ∀ q, q < p → dg s q ≤ dg F q) → (b = 0 → ¬ IS n F s) → ∃ b', f_X11_isState_b4 N g (nI s) m b (nI p) = some b' ∧ ((b' = 0 ∧ ¬ IS n F s) ∨ (b' = 1 ∧ IS n F s)) := by
  obtain ⟨hn, hF, h3, he⟩ := hG
  intro d
  induction d with
  | zero =>
    intro p m b hp hm hb hb0
    obtain ⟨m, rfl⟩ : ∃ z, m = z + 1 := ⟨m - 1, by omega⟩
    rw [f_X11_isState_b4_s]
    unfold g_X11_isState_b4
    rw [h3, if_pos ((nI_leI (by omega) (by omega)).mpr (by omega))]
    rcases hb with rfl | ⟨rfl, hb⟩
    · rw [gB_of (.inl rfl)]; exact ⟨0, rfl, .inl ⟨rfl, hb0 rfl⟩⟩
    · rw [gB_of (.inr rfl)]; exact ⟨1, rfl, .inr ⟨rfl, fun q hq => hb q (by omega)⟩⟩
  | succ d ih =>
    intro p m b hp hm hb hb0
    obtain ⟨m, rfl⟩ : ∃ z, m = z + 1 := ⟨m - 1, by omega⟩
    rw [f_X11_isState_b4_s]
    unfold g_X11_isState_b4
    rw [h3, if_neg (fun q => absurd ((nI_leI (by omega) (by omega)).mp q) (by omega))]
    rcases hb with rfl | ⟨rfl, hb⟩
    · rw [if_pos rfl, nI_1]; exact ih (p + 1) m 0 (by omega) (by omega) (.inl rfl) hb0
    · rw [if_neg i10ne, gI_149 (by omega), cl_149 (by omega), he p (by omega), dg_I hs (by omega), nI_1]
      have h1 := dg_lt F p
      have h2 := dg_lt s p
      by_cases c : dg s p ≤ dg F p
      · rw [if_neg (fun q => absurd ((nI_leI (by omega) (by omega)).mp q) (by omega))]
        refine ih (p + 1) m 1 (by omega) (by omega) (.inr ⟨rfl, fun q hq => ?_⟩) (fun q => absurd q i10ne)
        by_cases e : q = p
        · rw [e]; exact c
        · exact hb q (by omega)
      · rw [if_pos ((nI_leI (by omega) (by omega)).mpr (by omega))]
        exact ih (p + 1) m 0 (by omega) (by omega) (.inl rfl) (fun _ hI => c (hI p (by omega)))
theorem isS_eq {s : Nat} (hG : PG n F g) (hs : s < 32768) (hN : 10 ≤ N) : ∃ b', f_X11_isState N g (nI s) = some b' ∧ ((b' = 0 ∧ ¬ IS n F s) ∨ (b' = 1 ∧ IS n F s)) := by
  have hn := hG.1
  exact isS_go hG hs n 0 N 1 (by omega) (by omega) (.inr ⟨rfl, fun q hq => by omega⟩) (fun q => absurd q i10ne)
/-- what has been struck so far is lost; what is no state has been struck -/
def SI (n F : Nat) (l : Nat → Int32) : Prop := (∀ s, s < 8 ^ n → l s ≠ 0 → Lz n F s) ∧ ∀ s, s < 8 ^ n → ¬ IS n F s → l s ≠ 0
def lb (l : Nat → Int32) (s : Nat) : Bool := decide (l s ≠ 0)
theorem Lz_not {s : Nat} (h : ¬ IS n F s) : Lz n F s := fun A hA hs => h (hA s hs).2.1
theorem nar1 : vp_nar .boolean 1 = 1 := by decide
theorem nar0 : vp_nar .boolean 0 = 0 := by decide
theorem wpass_go (hG : PG n F g) (hN : 40000 ≤ N) (k45 : (Nat → Int32) → Int32 → Option (Nat → Int32)) : ∀ (d s m : Nat) (l : Nat → Int32) (more : Int32), s + d = 8 ^ n → d < m → SI n F l → (more = 0 ∨ more = 1) →
    ∃ l' more', f_X11_strike_b53 N g k45 (nI (8 ^ n)) m l more (nI s) = k45 l' more' ∧ SI n F l' ∧ ((more' = 0 ∧ more = 0 ∧ l' = l ∧ ∀ t, s ≤ t → t < 8 ^ n → l t ≠ 0 ∨ ∃ v r, v < n ∧ nxt n F t v = r + 1 ∧ l r = 0) ∨ (more' = 1 ∧ cu (lb l') (8 ^ n) + (if more = 0 then 1 else 0) ≤ cu (lb l) (8 ^ n))) := by
  have hn := hG.1
  have h8 := pow8 hn
  intro d
  induction d with
  | zero =>
    intro s m l more hs hm hS hmo
    obtain ⟨m, rfl⟩ : ∃ z, m = z + 1 := ⟨m - 1, by omega⟩
    rw [f_X11_strike_b53_s]
    unfold g_X11_strike_b53
    rw [if_pos ((nI_leI (by omega) (by omega)).mpr (by omega))]
    refine ⟨l, more, rfl, hS, ?_⟩
    rcases hmo with rfl | rfl
    · exact .inl ⟨rfl, rfl, rfl, fun t h1 h2 => by omega⟩
    · exact .inr ⟨rfl, by rw [if_neg i10ne]; omega⟩
  | succ d ih =>
    intro s m l more hs hm hS hmo
    obtain ⟨m, rfl⟩ : ∃ z, m = z + 1 := ⟨m - 1, by omega⟩
    rw [f_X11_strike_b53_s]
    unfold g_X11_strike_b53
    have hs8 : s < 8 ^ n := by omega
    rw [if_neg (fun q => absurd ((nI_leI (by omega) (by omega)).mp q) (by omega)), gI_n (show s < 32768 by omega) (by decide), cl_n (by omega), nI_1]
    have keep : (l s ≠ 0 ∨ ∃ v r, v < n ∧ nxt n F s v = r + 1 ∧ l r = 0) → ∃ l' more', f_X11_strike_b53 N g k45 (nI (8 ^ n)) m l more (nI (s + 1)) = k45 l' more' ∧ SI n F l' ∧ ((more' = 0 ∧ more = 0 ∧ l' = l ∧ ∀ t, s ≤ t → t < 8 ^ n → l t ≠ 0 ∨ ∃ v r, v < n ∧ nxt n F t v = r + 1 ∧ l r = 0) ∨ (more' = 1 ∧ cu (lb l') (8 ^ n) + (if more = 0 then 1 else 0) ≤ cu (lb l) (8 ^ n))) := by
      intro hk
      obtain ⟨l', more', a, b, c⟩ := ih (s + 1) m l more (by omega) (by omega) hS hmo
      refine ⟨l', more', a, b, ?_⟩
      rcases c with ⟨c1, c2, c3, c4⟩ | c
      · refine .inl ⟨c1, c2, c3, fun t h1 h2 => ?_⟩
        by_cases e : t = s
        · rw [e]; exact hk
        · exact c4 t (by omega) h2
      · exact .inr c
    by_cases hl : l s = 0
    · rw [if_pos hl]
      rcases goes_or (N := N) (lost := l) hG hs8 (by omega) n 0 N (by omega) (by omega) (fun u r hu => by omega) with ⟨w, r, a1, a2, a3, a4⟩ | ⟨a1, a2⟩
      · rw [bd_of (show f_X11_goesOn N g l (nI s) = some (nI w) from a4), if_pos (nI_ge0 (by omega))]
        exact keep (.inr ⟨w, r, a1, a2, a3⟩)
      · rw [bd_of (show f_X11_goesOn N g l (nI s) = some (-1) from a2), if_neg m1n0, gI_n (show s < 32768 by omega) (by decide), nar1]
        have hup : lb (upd l s 1) = up (lb l) s true := by
          funext i
          unfold lb
          by_cases e : i = s
          · rw [e, upd_s, up_s]; rfl
          · rw [upd_n e, up_n e]
        have hcu := cu_up (M := lb l) (r := s) (by unfold lb; rw [hl]; rfl) hs8
        obtain ⟨l', more', b1, b2, b3⟩ := ih (s + 1) m (upd l s 1) 1 (by omega) (by omega) ⟨fun t ht hq => by
          by_cases e : t = s
          · rw [e]; exact Lz_of (fun v r hv hr => hS.1 r (nxt_v hv hr).2.1 (a1 v r hv hr))
          · rw [upd_n e] at hq; exact hS.1 t ht hq, fun t ht hq => by
          by_cases e : t = s
          · rw [e, upd_s]; exact i10ne
          · rw [upd_n e]; exact hS.2 t ht hq⟩ (.inr rfl)
        refine ⟨l', more', b1, b2, .inr ?_⟩
        rcases b3 with ⟨_, q, _⟩ | ⟨c1, c2⟩
        · exact absurd q i10ne
        · refine ⟨c1, ?_⟩
          rw [hup, if_neg i10ne] at c2
          split <;> omega
    · rw [if_neg hl]
      exact keep (.inl hl)
/-- the end of all striking -/
def SE (n F : Nat) (l : Nat → Int32) : Prop := SI n F l ∧ ∀ t, t < 8 ^ n → l t ≠ 0 ∨ ∃ v r, v < n ∧ nxt n F t v = r + 1 ∧ l r = 0
theorem wrounds_go (hG : PG n F g) (hN : 40000 ≤ N) : ∀ (c m : Nat) (l : Nat → Int32), SI n F l → cu (lb l) (8 ^ n) ≤ c → c + 2 ≤ m → ∃ l', f_X11_strike_b45 N g (nI (8 ^ n)) m l 1 = some l' ∧ SE n F l' := by
  have h8 := pow8 hG.1
  intro c
  induction c with
  | zero =>
    intro m l hS hc hm
    obtain ⟨m, rfl⟩ : ∃ z, m = z + 2 := ⟨m - 2, by omega⟩
    rw [f_X11_strike_b45_s]
    unfold g_X11_strike_b45
    rw [if_neg i10ne]
    obtain ⟨l', more', a, b, cc⟩ := wpass_go hG hN (fun x_lost v2 => f_X11_strike_b45 N g (nI (8 ^ n)) (m + 1) x_lost v2) (8 ^ n) 0 N l 0 (by omega) (by omega) hS (.inl rfl)
    rcases cc with ⟨c1, c2, c3, c4⟩ | ⟨c1, c2⟩
    · refine ⟨l', ?_, b, ?_⟩
      · refine a.trans ?_
        rw [c1]
        show f_X11_strike_b45 N g (nI (8 ^ n)) (m + 1) l' 0 = _
        rw [f_X11_strike_b45_s]
        unfold g_X11_strike_b45
        rw [if_pos rfl]
      · rw [c3]; exact fun t ht => c4 t (by omega) ht
    · rw [if_pos rfl] at c2; omega
  | succ c ih =>
    intro m l hS hc hm
    obtain ⟨m, rfl⟩ : ∃ z, m = z + 2 := ⟨m - 2, by omega⟩
    rw [f_X11_strike_b45_s]
    unfold g_X11_strike_b45
    rw [if_neg i10ne]
    obtain ⟨l', more', a, b, cc⟩ := wpass_go hG hN (fun x_lost v2 => f_X11_strike_b45 N g (nI (8 ^ n)) (m + 1) x_lost v2) (8 ^ n) 0 N l 0 (by omega) (by omega) hS (.inl rfl)
    rcases cc with ⟨c1, c2, c3, c4⟩ | ⟨c1, c2⟩
    · refine ⟨l', ?_, b, ?_⟩
      · refine a.trans ?_
        rw [c1]
        show f_X11_strike_b45 N g (nI (8 ^ n)) (m + 1) l' 0 = _
        rw [f_X11_strike_b45_s]
        unfold g_X11_strike_b45
        rw [if_pos rfl]
      · rw [c3]; exact fun t ht => c4 t (by omega) ht
    · rw [if_pos rfl] at c2
      obtain ⟨l2, d1, d2⟩ := ih (m + 1) l' b (by omega) (by omega)
      refine ⟨l2, ?_, d2⟩
      refine a.trans ?_
      rw [c1]
      exact d1
theorem wfirst_go (hG : PG n F g) (hN : 40000 ≤ N) : ∀ (d s m : Nat) (l : Nat → Int32), s + d = 8 ^ n → d < m → (∀ t, t < s → (l t = 0 ∧ IS n F t) ∨ (l t = 1 ∧ ¬ IS n F t)) → ∃ l', f_X11_strike_b13 N g (nI (8 ^ n)) m l (nI s) = some l' ∧ SE n F l' := by
  have h8 := pow8 hG.1
  intro d
  induction d with
  | zero =>
    intro s m l hs hm hl
    obtain ⟨m, rfl⟩ : ∃ z, m = z + 1 := ⟨m - 1, by omega⟩
    rw [f_X11_strike_b13_s]
    unfold g_X11_strike_b13
    rw [if_pos ((nI_leI (by omega) (by omega)).mpr (by omega))]
    have := cu_le (lb l) (8 ^ n)
    refine wrounds_go hG hN (8 ^ n) N l ⟨fun t ht hq => ?_, fun t ht hq => ?_⟩ this (by omega)
    · rcases hl t (by omega) with ⟨a, _⟩ | ⟨_, b⟩
      · exact absurd a hq
      · exact Lz_not b
    · rcases hl t (by omega) with ⟨_, a⟩ | ⟨a, _⟩
      · exact absurd a hq
      · rw [a]; exact i10ne
  | succ d ih =>
    intro s m l hs hm hl
    obtain ⟨m, rfl⟩ : ∃ z, m = z + 1 := ⟨m - 1, by omega⟩
    rw [f_X11_strike_b13_s]
    unfold g_X11_strike_b13
    rw [if_neg (fun q => absurd ((nI_leI (by omega) (by omega)).mp q) (by omega))]
    obtain ⟨b, b1, b2⟩ := isS_eq (N := N) hG (show s < 32768 by omega) (by omega)
    rw [bd_of b1]
    have key : ∀ x : Int32, ((x = 0 ∧ IS n F s) ∨ (x = 1 ∧ ¬ IS n F s)) → ∃ l', f_X11_strike_b13 N g (nI (8 ^ n)) m (upd l s x) (nI (s + 1)) = some l' ∧ SE n F l' := by
      intro x hx
      refine ih (s + 1) m _ (by omega) (by omega) (fun t ht => ?_)
      by_cases e : t = s
      · rw [e, upd_s]; exact hx
      · rw [upd_n e]; exact hl t (by omega)
    rcases b2 with ⟨rfl, b2⟩ | ⟨rfl, b2⟩
    · rw [if_pos rfl, gI_n (show s < 32768 by omega) (by decide), cl_n (by omega), nar1, nI_1]
      exact key 1 (.inr ⟨rfl, b2⟩)
    · rw [if_neg i10ne, gI_n (show s < 32768 by omega) (by decide), cl_n (by omega), nar0, nI_1]
      exact key 0 (.inl ⟨rfl, b2⟩)
theorem wstrike_eq (hG : PG n F g) (hN : 40000 ≤ N) (l : Nat → Int32) : ∃ l', f_X11_strike N g l = some l' ∧ ∀ s, s < 8 ^ n → (l' s ≠ 0 ↔ Lz n F s) := by
  have hn := hG.1
  have h8 := pow8 hn
  unfold f_X11_strike
  rw [hG.2.2.1, mul3, one_shl _ (by omega), show 2 ^ (3 * n) = 8 ^ n by rw [Nat.pow_mul]]
  obtain ⟨l', a, b, c⟩ := wfirst_go hG hN (8 ^ n) 0 N l (by omega) (by omega) (fun t ht => by omega)
  refine ⟨l', a, fun s hs => ⟨b.1 s hs, fun hz hq => ?_⟩⟩
  refine hz (fun t => t < 8 ^ n ∧ l' t = 0) (fun t ht => ?_) ⟨hs, hq⟩
  obtain ⟨h1, h2⟩ := ht
  refine ⟨h1, ?_, ?_⟩
  · by_cases e : IS n F t
    · exact e
    · exact absurd h2 (b.2 t h1 e)
  · rcases c t h1 with q | ⟨v, r, q1, q2, q3⟩
    · exact absurd h2 q
    · exact ⟨v, r, q1, q2, (nxt_v q1 q2).2.1, q3⟩
end PWF
