/-! ===== the class's steps ===== -/
section PWD
variable {N n F : Nat} {ev : Nat → Int32} {x : WSt} {size rs : Int32} {dead met : Nat → Int64} {states visits : Nat → Int32}
theorem adv_pop (hR : WR x size dead met states visits) (hI : WInv n F x) (hn : n ≤ 5) (c : 0 < x.sz) (hw : n ≤ x.w (x.sz - 1)) : ∃ dead' visits', f_X9_advance N size rs (nI n) ev dead met states visits = some (0, nI (x.sz - 1), rs, dead', met, states, visits') ∧ WR (wpop x) (nI (x.sz - 1)) dead' met states visits' := by
  have hz := hR.sz.2
  have hT : x.sz - 1 < 256 := by omega
  obtain ⟨f1, f2, f3⟩ := hI.fs (x.sz - 1) (by omega)
  have hvT : visits (x.sz - 1) + 1 = nI (x.w (x.sz - 1)) := by rw [hR.vi _ (by omega), Int32.sub_add_cancel]
  unfold f_X9_advance
  rw [hR.sz.1, nI_m1 c]
  simp only [gI_n hT (show (256 : Nat) < 2 ^ 31 by decide), cl_n (show x.sz - 1 < 2 ^ 31 by omega), upd_s, hvT, hR.st (x.sz - 1) (by omega)]
  rw [if_neg (fun q => absurd ((nI_ltI (by omega) (by omega)).mp q) (by omega))]
  obtain ⟨d', hd, hd2⟩ := wmark_eq (rows := dead) (s := x.st (x.sz - 1)) (Nat.lt_of_lt_of_le f1 (pow8 hn))
  rw [bd_of hd]
  refine ⟨d', _, rfl, ⟨⟨rfl, by show x.sz - 1 ≤ 256; omega⟩, fun s hs => ?_, hR.me, fun i hi => hR.st i ?_, fun i hi => ?_⟩⟩
  · rw [hd2]
    show (if s = _ then true else mk dead s) = (if s = _ then true else x.D s)
    rw [hR.de s hs]
  · have hi : i < x.sz - 1 := hi
    omega
  · have hi : i < x.sz - 1 := hi
    rw [upd_n (by omega)]
    exact hR.vi i (by omega)
theorem adv_fail (hE : PE n F ev) (hN : 10 ≤ N) (hR : WR x size dead met states visits) (hI : WInv n F x) (c : 0 < x.sz) (hw : x.w (x.sz - 1) < n) (hr : nxt n F (x.st (x.sz - 1)) (x.w (x.sz - 1)) = 0) : ∃ visits', f_X9_advance N size rs (nI n) ev dead met states visits = some (0, size, rs, dead, met, states, visits') ∧ WR (wfail x) size dead met states visits' := by
  have hz := hR.sz.2
  have hn := hE.1
  have hT : x.sz - 1 < 256 := by omega
  obtain ⟨f1, f2, f3⟩ := hI.fs (x.sz - 1) (by omega)
  have hvT : visits (x.sz - 1) + 1 = nI (x.w (x.sz - 1)) := by rw [hR.vi _ (by omega), Int32.sub_add_cancel]
  unfold f_X9_advance
  rw [hR.sz.1, nI_m1 c]
  simp only [gI_n hT (show (256 : Nat) < 2 ^ 31 by decide), cl_n (show x.sz - 1 < 2 ^ 31 by omega), upd_s, hvT, hR.st (x.sz - 1) (by omega)]
  rw [if_pos ((nI_ltI (by omega) (by omega)).mpr hw), bd_of (after_0 hE f1 hw hN hr)]
  exact ⟨_, rfl, ⟨⟨rfl, hz⟩, hR.de, hR.me, hR.st, vis_up hR.vi⟩⟩
theorem adv_dead {r : Nat} (hE : PE n F ev) (hN : 10 ≤ N) (hR : WR x size dead met states visits) (hI : WInv n F x) (c : 0 < x.sz) (hw : x.w (x.sz - 1) < n) (hr : nxt n F (x.st (x.sz - 1)) (x.w (x.sz - 1)) = r + 1) (hD : x.D r = true) : ∃ visits', f_X9_advance N size rs (nI n) ev dead met states visits = some (0, size, rs, dead, met, states, visits') ∧ WR (wfail x) size dead met states visits' := by
  have hz := hR.sz.2
  have hn := hE.1
  have hT : x.sz - 1 < 256 := by omega
  obtain ⟨f1, f2, f3⟩ := hI.fs (x.sz - 1) (by omega)
  have hr8 := Nat.lt_of_lt_of_le (nxt_v hw hr).2.1 (pow8 hn)
  have hvT : visits (x.sz - 1) + 1 = nI (x.w (x.sz - 1)) := by rw [hR.vi _ (by omega), Int32.sub_add_cancel]
  unfold f_X9_advance
  rw [hR.sz.1, nI_m1 c]
  simp only [gI_n hT (show (256 : Nat) < 2 ^ 31 by decide), cl_n (show x.sz - 1 < 2 ^ 31 by omega), upd_s, hvT, hR.st (x.sz - 1) (by omega)]
  rw [if_pos ((nI_ltI (by omega) (by omega)).mpr hw), bd_of (after_1 hE f1 hw hN hr), if_neg (nI_n0 (by omega)), bd_of (marked_eq hr8), hR.de r hr8, hD]
  exact ⟨_, rfl, ⟨⟨rfl, hz⟩, hR.de, hR.me, hR.st, vis_up hR.vi⟩⟩
theorem adv_close {r : Nat} (hE : PE n F ev) (hN : 300 ≤ N) (hR : WR x size dead met states visits) (hI : WInv n F x) (c : 0 < x.sz) (hw : x.w (x.sz - 1) < n) (hr : nxt n F (x.st (x.sz - 1)) (x.w (x.sz - 1)) = r + 1) (hD : x.D r = false) (hM : x.M r = true) : ∃ visits' q, q < x.sz ∧ x.st q = r ∧ f_X9_advance N size rs (nI n) ev dead met states visits = some (1, size, nI q, dead, met, states, visits') ∧ WR (wfail x) size dead met states visits' := by
  have hz := hR.sz.2
  have hn := hE.1
  have hT : x.sz - 1 < 256 := by omega
  obtain ⟨f1, f2, f3⟩ := hI.fs (x.sz - 1) (by omega)
  have hr8 := Nat.lt_of_lt_of_le (nxt_v hw hr).2.1 (pow8 hn)
  have hvT : visits (x.sz - 1) + 1 = nI (x.w (x.sz - 1)) := by rw [hR.vi _ (by omega), Int32.sub_add_cancel]
  rcases hI.md r hM with q | ⟨j, hj, hjr⟩
  · exact absurd (q.symm.trans hD) (by decide)
  obtain ⟨q, q1, q2, q3⟩ := wplace_go (N := N) hz hR.st (fun i hi => Nat.lt_of_lt_of_le (hI.fs i hi).1 (pow8 hn)) hr8 hj hjr j 0 N (by omega) (by omega)
  have q3 : f_X9_walkPlaceOf N (nI x.sz) states (nI r) = some (nI q) := q3
  unfold f_X9_advance
  rw [hR.sz.1, nI_m1 c]
  simp only [gI_n hT (show (256 : Nat) < 2 ^ 31 by decide), cl_n (show x.sz - 1 < 2 ^ 31 by omega), upd_s, hvT, hR.st (x.sz - 1) (by omega)]
  rw [if_pos ((nI_ltI (by omega) (by omega)).mpr hw), bd_of (after_1 hE f1 hw (by omega) hr), if_neg (nI_n0 (by omega)), bd_of (marked_eq hr8), hR.de r hr8, hD]
  simp only [if_false, if_true, Bool.false_eq_true]
  rw [bd_of (marked_eq hr8), hR.me r hr8, hM]
  simp only [if_true, i10ne, if_false]
  rw [bd_of q3]
  exact ⟨_, q, q1, q2, rfl, ⟨⟨rfl, hz⟩, hR.de, hR.me, hR.st, vis_up hR.vi⟩⟩
theorem wpush_eq {r : Nat} (h : x.sz < 256) (hr : r < 32768) (vs : Nat → Int32) : ∃ met', f_X9_push (nI x.sz) met states vs (nI r) = some (nI (x.sz + 1), met', upd states x.sz (nI r), upd vs x.sz (-1)) ∧ ∀ t, mk met' t = up (mk met) r true t := by
  unfold f_X9_push
  obtain ⟨m', h1, h2⟩ := wmark_eq (rows := met) hr
  rw [if_pos ((nI_ltC (k := 256) (a := 256) rfl (by decide) (by omega)).mpr h), bd_of h1, gI_n h (by decide), gI_n h (by decide), cl_n (by omega), nI_1]
  exact ⟨m', rfl, h2⟩
theorem adv_push {r : Nat} (hE : PE n F ev) (hN : 10 ≤ N) (hR : WR x size dead met states visits) (hI : WInv n F x) (c : 0 < x.sz) (hw : x.w (x.sz - 1) < n) (hr : nxt n F (x.st (x.sz - 1)) (x.w (x.sz - 1)) = r + 1) (hD : x.D r = false) (hM : x.M r = false) (h256 : x.sz < 256) : ∃ met' states' visits', f_X9_advance N size rs (nI n) ev dead met states visits = some (0, nI (x.sz + 1), rs, dead, met', states', visits') ∧ WR (wpush x r) (nI (x.sz + 1)) dead met' states' visits' := by
  have hz := hR.sz.2
  have hn := hE.1
  have hT : x.sz - 1 < 256 := by omega
  obtain ⟨f1, f2, f3⟩ := hI.fs (x.sz - 1) (by omega)
  have hr8 := Nat.lt_of_lt_of_le (nxt_v hw hr).2.1 (pow8 hn)
  have hvT : visits (x.sz - 1) + 1 = nI (x.w (x.sz - 1)) := by rw [hR.vi _ (by omega), Int32.sub_add_cancel]
  unfold f_X9_advance
  rw [hR.sz.1, nI_m1 c]
  simp only [gI_n hT (show (256 : Nat) < 2 ^ 31 by decide), cl_n (show x.sz - 1 < 2 ^ 31 by omega), upd_s, hvT, hR.st (x.sz - 1) (by omega)]
  rw [if_pos ((nI_ltI (by omega) (by omega)).mpr hw), bd_of (after_1 hE f1 hw hN hr), if_neg (nI_n0 (by omega)), bd_of (marked_eq hr8), hR.de r hr8, hD]
  simp only [if_false, if_true, Bool.false_eq_true]
  rw [bd_of (marked_eq hr8), hR.me r hr8, hM]
  simp only [if_false, if_true, Bool.false_eq_true]
  obtain ⟨m', p1, p2⟩ := wpush_eq (x := x) (met := met) (states := states) h256 hr8 (upd visits (x.sz - 1) (nI (x.w (x.sz - 1))))
  rw [bd_of p1]
  refine ⟨m', _, _, rfl, ⟨⟨rfl, by show x.sz + 1 ≤ 256; omega⟩, hR.de, fun s hs => ?_, fun i hi => ?_, fun i hi => ?_⟩⟩
  · rw [p2]
    show (if s = _ then true else mk met s) = (if s = _ then true else x.M s)
    rw [hR.me s hs]
  · have hi : i < x.sz + 1 := hi
    show upd states x.sz (nI r) i = nI (up x.st x.sz r i)
    by_cases e : i = x.sz
    · rw [e, upd_s, up_s]
    · rw [upd_n e, up_n e]; exact hR.st i (by omega)
  · have hi : i < x.sz + 1 := hi
    show upd (upd visits (x.sz - 1) _) x.sz (-1) i = nI (up (up x.w (x.sz - 1) (x.w (x.sz - 1) + 1)) x.sz 0 i) - 1
    by_cases e : i = x.sz
    · rw [e, upd_s, up_s]; rfl
    · rw [upd_n e, up_n e]; exact vis_up hR.vi i (by omega)
/-- the walk that is kept is right -/
def WOK (n F : Nat) (size rs : Int32) (visits : Nat → Int32) : Prop :=
  (size = 0 ∧ Lz n F F) ∨ ∃ (sz r : Nat) (st w : Nat → Nat), 0 < sz ∧ sz ≤ 256 ∧ r < sz ∧ size = nI sz ∧ rs = nI r ∧ st 0 = F ∧
    ∀ i, i < sz → visits i = nI (w i) ∧ w i < n ∧ st i < 8 ^ n ∧ IS n F (st i) ∧ nxt n F (st i) (w i) = st (if i + 1 < sz then i + 1 else r) + 1 ∧ ∀ v r', v < w i → nxt n F (st i) v = r' + 1 → Lz n F r'
theorem wmake_end {o1s : Int32} {o1e : Nat → Int32} (v3 : Int32) (m : Nat) (mfs : Int32) (mfe : Nat → Int32) : f_X9_make_b53 N o1s o1e mfs mfe (m + 1) size rs dead met states visits 1 v3 = some (size, rs, mfs, mfe, dead, met, states, visits) := by
  rw [f_X9_make_b53_s]
  unfold g_X9_make_b53 f_X9_make_b81
  simp only [i10ne, if_false]
  split
  · rfl
  · split <;> rfl
theorem wmake_go (hE : PE n F ev) (hN : 300 ≤ N) (o1s : Int32) (o1e : Nat → Int32) : ∀ {k : Nat} {x : WSt}, WGo n F k x → WInv n F x → ∀ (size rs : Int32) (dead met : Nat → Int64) (states visits : Nat → Int32) (c m : Nat), WR x size dead met states visits → c + k < 1000000 → k + 2 ≤ m →
    ∃ q, f_X9_make_b53 N o1s o1e (nI n) ev m size rs dead met states visits 0 (nI c) = some q ∧ q.2.2.1 = nI n ∧ q.2.2.2.1 = ev ∧ WOK n F q.1 q.2.1 q.2.2.2.2.2.2.2 := by
  intro k
  have em : ∀ {k : Nat} {x : WSt}, x.sz = 0 → WInv n F x → ∀ (size rs : Int32) (dead met : Nat → Int64) (states visits : Nat → Int32) (c m : Nat), WR x size dead met states visits → c + k < 1000000 → k + 2 ≤ m →
      ∃ q, f_X9_make_b53 N o1s o1e (nI n) ev m size rs dead met states visits 0 (nI c) = some q ∧ q.2.2.1 = nI n ∧ q.2.2.2.1 = ev ∧ WOK n F q.1 q.2.1 q.2.2.2.2.2.2.2 := by
    intro k x h0 hI size rs dead met states visits c m hR hc hm
    obtain ⟨m, rfl⟩ : ∃ z, m = z + 1 := ⟨m - 1, by omega⟩
    rw [f_X9_make_b53_s]
    unfold g_X9_make_b53 f_X9_make_b81
    rw [if_neg (fun q => absurd ((nI_leC (k := 1000000) (a := 1000000) rfl (by decide) (by omega)).mp q) (by omega)), hR.sz.1, h0, if_pos (by decide)]
    exact ⟨_, rfl, rfl, rfl, .inl ⟨rfl, hI.dl F (hI.em h0)⟩⟩
  induction k with
  | zero => intro x hG; exact em (k := 0) hG
  | succ k ih =>
  intro x hG
  rcases hG with hG | ⟨h0, hw, hg⟩ | ⟨h0, hw, hr, hg⟩ | ⟨r, h0, hw, hr, ⟨hD, hg⟩ | ⟨hD, hM⟩ | ⟨hD, hM, h256, hg⟩⟩
  · exact em (k := k + 1) hG
  · intro hI size rs dead met states visits c m hR hc hm
    obtain ⟨m, rfl⟩ : ∃ z, m = z + 1 := ⟨m - 1, by omega⟩
    rw [f_X9_make_b53_s]
    unfold g_X9_make_b53
    obtain ⟨d', v', a1, a2⟩ := adv_pop (N := N) (rs := rs) (ev := ev) hR hI hE.1 h0 hw
    rw [if_neg (fun q => absurd ((nI_leC (k := 1000000) (a := 1000000) rfl (by decide) (by omega)).mp q) (by omega)), if_neg (fun q => by rw [hR.sz.1] at q; exact absurd ((nI_leI (b := 0) (by have := hR.sz.2; omega) (by decide)).mp q) (by omega)), if_pos rfl, bd_of a1, nI_1]
    exact ih hg (hI.pop h0 hw) _ _ _ _ _ _ (c + 1) m a2 (by omega) (by omega)
  · intro hI size rs dead met states visits c m hR hc hm
    obtain ⟨m, rfl⟩ : ∃ z, m = z + 1 := ⟨m - 1, by omega⟩
    rw [f_X9_make_b53_s]
    unfold g_X9_make_b53
    obtain ⟨v', a1, a2⟩ := adv_fail (N := N) (rs := rs) hE (by omega) hR hI h0 hw hr
    rw [if_neg (fun q => absurd ((nI_leC (k := 1000000) (a := 1000000) rfl (by decide) (by omega)).mp q) (by omega)), if_neg (fun q => by rw [hR.sz.1] at q; exact absurd ((nI_leI (b := 0) (by have := hR.sz.2; omega) (by decide)).mp q) (by omega)), if_pos rfl, bd_of a1, nI_1]
    exact ih hg (hI.fail h0 hw (fun r q => by omega)) _ _ _ _ _ _ (c + 1) m a2 (by omega) (by omega)
  · intro hI size rs dead met states visits c m hR hc hm
    obtain ⟨m, rfl⟩ : ∃ z, m = z + 1 := ⟨m - 1, by omega⟩
    rw [f_X9_make_b53_s]
    unfold g_X9_make_b53
    obtain ⟨v', a1, a2⟩ := adv_dead (N := N) (rs := rs) hE (by omega) hR hI h0 hw hr hD
    rw [if_neg (fun q => absurd ((nI_leC (k := 1000000) (a := 1000000) rfl (by decide) (by omega)).mp q) (by omega)), if_neg (fun q => by rw [hR.sz.1] at q; exact absurd ((nI_leI (b := 0) (by have := hR.sz.2; omega) (by decide)).mp q) (by omega)), if_pos rfl, bd_of a1, nI_1]
    exact ih hg (hI.fail h0 hw (fun r' q => by rw [show r' = r by omega]; exact hD)) _ _ _ _ _ _ (c + 1) m a2 (by omega) (by omega)
  · intro hI size rs dead met states visits c m hR hc hm
    obtain ⟨m, rfl⟩ : ∃ z, m = z + 2 := ⟨m - 2, by omega⟩
    rw [f_X9_make_b53_s]
    unfold g_X9_make_b53
    obtain ⟨v', q, q1, q2, a1, a2⟩ := adv_close (N := N) (rs := rs) hE hN hR hI h0 hw hr hD hM
    rw [if_neg (fun q => absurd ((nI_leC (k := 1000000) (a := 1000000) rfl (by decide) (by omega)).mp q) (by omega)), if_neg (fun q => by rw [hR.sz.1] at q; exact absurd ((nI_leI (b := 0) (by have := hR.sz.2; omega) (by decide)).mp q) (by omega)), if_pos rfl, bd_of a1]
    refine ⟨_, wmake_end _ m _ _, rfl, rfl, .inr ⟨x.sz, q, x.st, fun i => (wfail x).w i - 1, h0, hR.sz.2, q1, hR.sz.1, rfl, hI.f0 h0, fun i hi => ?_⟩⟩
    have hv := a2.vi i hi
    obtain ⟨f1, f2, f3⟩ := hI.fs i hi
    by_cases e : i + 1 < x.sz
    · have hwe : (wfail x).w i = x.w i := up_n (by omega)
      obtain ⟨p1, p2⟩ := hI.pa i e
      rw [hwe] at hv
      show v' i = nI ((wfail x).w i - 1) ∧ (wfail x).w i - 1 < n ∧ _ ∧ _ ∧ nxt n F (x.st i) ((wfail x).w i - 1) = _ ∧ ∀ v r', v < (wfail x).w i - 1 → _
      rw [hwe, if_pos e]
      exact ⟨by rw [hv, nI_m1 p1], by omega, f1, f2, p2, fun v r' h1 h2 => hI.dl r' (hI.t1 i v r' e (by omega) h2)⟩
    · have hie : i = x.sz - 1 := by omega
      have hwe : (wfail x).w i = x.w (x.sz - 1) + 1 := by rw [hie]; exact up_s
      rw [hwe] at hv
      show v' i = nI ((wfail x).w i - 1) ∧ (wfail x).w i - 1 < n ∧ _ ∧ _ ∧ nxt n F (x.st i) ((wfail x).w i - 1) = _ ∧ ∀ v r', v < (wfail x).w i - 1 → _
      rw [hwe, if_neg e, Nat.add_sub_cancel]
      refine ⟨by rw [hv, nI_m1 (by omega), Nat.add_sub_cancel], hw, f1, f2, by rw [hie, hr, q2], fun v r' h1 h2 => hI.dl r' (hI.t2 v r' h0 h1 (by rw [← hie]; exact h2))⟩
  · intro hI size rs dead met states visits c m hR hc hm
    obtain ⟨m, rfl⟩ : ∃ z, m = z + 1 := ⟨m - 1, by omega⟩
    rw [f_X9_make_b53_s]
    unfold g_X9_make_b53
    obtain ⟨m', s', v', a1, a2⟩ := adv_push (N := N) (rs := rs) hE (by omega) hR hI h0 hw hr hD hM h256
    rw [if_neg (fun q => absurd ((nI_leC (k := 1000000) (a := 1000000) rfl (by decide) (by omega)).mp q) (by omega)), if_neg (fun q => by rw [hR.sz.1] at q; exact absurd ((nI_leI (b := 0) (by have := hR.sz.2; omega) (by decide)).mp q) (by omega)), if_pos rfl, bd_of a1, nI_1]
    exact ih hg (hI.push h0 hw hr hM) _ _ _ _ _ _ (c + 1) m a2 (by omega) (by omega)
/-! making it -/
theorem fillL_go (N len : Nat) (v : Int64) (hn : len < 2 ^ 30) : ∀ (d k m : Nat) (f : Nat → Int64), k + d = len → d < m → (∀ i, i < k → f i = v) → ∃ f', f_J7_fill_d0a16_b6 N len v (nI len) m f (nI k) = some f' ∧ ∀ i, i < len → f' i = v := by
  intro d
  induction d with
  | zero =>
    intro k m f h2 hm hf
    obtain ⟨m, rfl⟩ : ∃ z, m = z + 1 := ⟨m - 1, by omega⟩
    rw [f_J7_fill_d0a16_b6_s]
    unfold g_J7_fill_d0a16_b6
    rw [if_pos ((nI_leI (by omega) (by omega)).mpr (by omega))]
    exact ⟨f, rfl, fun i hi => hf i (by omega)⟩
  | succ d ih =>
    intro k m f h2 hm hf
    obtain ⟨m, rfl⟩ : ∃ z, m = z + 1 := ⟨m - 1, by omega⟩
    rw [f_J7_fill_d0a16_b6_s]
    unfold g_J7_fill_d0a16_b6
    rw [if_neg (fun q => absurd ((nI_leI (by omega) (by omega)).mp q) (by omega)), gI_n (by omega) (by omega), cl_n (by omega), nI_1]
    refine ih (k + 1) m _ (by omega) (by omega) (fun i hi => ?_)
    by_cases e : i = k
    · rw [e, updL_s]
    · rw [updL_n e]; exact hf i (by omega)
theorem fillL_eq {N : Nat} (hN : 600 ≤ N) (f : Nat → Int64) : ∃ f', f_J7_fill_d0a16 N 512 f 0 = some f' ∧ ∀ i, i < 512 → f' i = 0 :=
  fillL_go N 512 0 (by decide) 512 0 N f (by omega) (by omega) (fun i hi => by omega)
theorem mk_0 {f : Nat → Int64} (h : ∀ i, i < 512 → f i = 0) {s : Nat} (hs : s < 32768) : mk f s = false := by
  unfold mk
  rw [h _ (by omega)]
  exact BitVec.getLsbD_zero
theorem like_go {n' n : Nat} {me ev : Nat → Int32} (h5 : n' ≤ 5) : ∀ (d p m : Nat), p + d = n' → d + 1 < m → (∀ q, q < p → me q = ev q) → ∃ b, f_X4_isLike_b19 N (nI n') me (nI n) ev m 1 (nI p) = some b ∧ (b = 0 ∨ b = 1 ∧ ∀ q, q < n' → me q = ev q) := by
  intro d
  induction d with
  | zero =>
    intro p m hp hm hq
    obtain ⟨m, rfl⟩ : ∃ z, m = z + 1 := ⟨m - 1, by omega⟩
    rw [f_X4_isLike_b19_s]
    unfold g_X4_isLike_b19
    rw [if_pos ((nI_leI (by omega) (by omega)).mpr (by omega)), gB_of (.inr rfl)]
    exact ⟨1, rfl, .inr ⟨rfl, fun q h => hq q (by omega)⟩⟩
  | succ d ih =>
    intro p m hp hm hq
    obtain ⟨m, rfl⟩ : ∃ z, m = z + 2 := ⟨m - 2, by omega⟩
    rw [f_X4_isLike_b19_s]
    unfold g_X4_isLike_b19
    rw [if_neg (fun q => absurd ((nI_leI (by omega) (by omega)).mp q) (by omega)), if_neg i10ne, gI_n (by omega) (by decide), gI_n (by omega) (by decide), cl_n (by omega), nI_1]
    by_cases e : me p = ev p
    · rw [if_pos e]
      exact ih (p + 1) (m + 1) (by omega) (by omega) (fun q h => by
        by_cases e2 : q = p
        · rw [e2]; exact e
        · exact hq q (by omega))
    · rw [if_neg e]
      refine ⟨0, ?_, .inl rfl⟩
      rw [f_X4_isLike_b19_s]
      unfold g_X4_isLike_b19
      rw [gB_of (.inl rfl)]
      split <;> rfl
theorem wlike_eq {n' n : Nat} {me ev : Nat → Int32} (h5 : n' ≤ 5) (hn : n ≤ 5) (hN : 10 ≤ N) : ∃ b, f_X4_isLike N (nI n') me (nI n) ev = some b ∧ (b = 0 ∨ b = 1 ∧ n' = n ∧ ∀ q, q < n' → me q = ev q) := by
  unfold f_X4_isLike f_X4_isLike_b16
  by_cases e : n' = n
  · rw [if_pos (by rw [e])]
    obtain ⟨b, h1, h2⟩ := like_go (N := N) (n := n) (me := me) (ev := ev) h5 n' 0 N (by omega) (by omega) (fun q h => by omega)
    refine ⟨b, h1, ?_⟩
    rcases h2 with h2 | ⟨h2, h3⟩
    · exact .inl h2
    · exact .inr ⟨h2, e, h3⟩
  · rw [if_neg (fun q => e ((nI_eq (by omega) (by omega)).mp q))]
    refine ⟨0, ?_, .inl rfl⟩
    obtain ⟨M, rfl⟩ : ∃ z, N = z + 1 := ⟨N - 1, by omega⟩
    rw [f_X4_isLike_b19_s]
    unfold g_X4_isLike_b19
    rw [gB_of (.inl rfl)]
    split <;> rfl
/-- the walk kept, for the posts that it was made for -/
def CW (ms : Int32) (me : Nat → Int32) (size rs : Int32) (visits : Nat → Int32) : Prop := ∃ n, n ≤ 5 ∧ ms = nI n ∧ (0 < n → ∃ F, PE n F me ∧ WOK n F size rs visits)
theorem PE_of {n : Nat} {ev g : Nat → Int32} (h : PR n ev g) : ∃ F, PE n F ev := by
  obtain ⟨a, b, c, e⟩ := h
  refine ⟨sg (fun p => (ev p).toNatClampNeg - 1) n, a, sg_lt (fun p hp => ?_), fun p hp => ?_⟩
  · obtain ⟨w, w1, w2, w3⟩ := e p hp
    show (ev p).toNatClampNeg - 1 < 8
    rw [c p (by omega), w3, cl_n (by omega)]; omega
  · rw [dg_sg (fun q hq => ?_) hp]
    · obtain ⟨w, w1, w2, w3⟩ := e p hp
      show ev p = nI ((ev p).toNatClampNeg - 1 + 1)
      rw [c p (by omega), w3, cl_n (by omega), show w - 1 + 1 = w by omega]
    · obtain ⟨w, w1, w2, w3⟩ := e q hq
      show (ev q).toNatClampNeg - 1 < 8
      rw [c q (by omega), w3, cl_n (by omega)]; omega
theorem PE_congr {n F : Nat} {a b : Nat → Int32} (h : PE n F a) (e : ∀ p, p < n → b p = a p) : PE n F b := ⟨h.1, h.2.1, fun p hp => (e p hp).trans (h.2.2 p hp)⟩
end PWD
