section PBO
variable {n : Nat} {fr to len g : Nat → Int32}
theorem search_go {N : Nat} (hN : 100 ≤ N) (hR : RNZ n fr to len) {b L s e : Nat} (hs : s < 10) (he : e < 10) (hL : L ≤ 4) {W c : Nat → Nat} (hW : ∀ S, W S = dsZ n (usS b S) fr to len s e) (hc : ∀ S, c S = pcn S 16) :
    ∀ (d more S T F : Nat) (x y : Nat → Int32), more < d → OKS n b S → c S + more = L → T < 65536 → OKS n b F → c F ≤ L → ∃ F' x' y', f_X0_search N d (nI s) (nI e) (nI F) (nI (W F)) (nI n) (nI b) fr to len x y (nI S) (nI T) (nI more) = some (nI F', nI (W F'), x', y') ∧ OKS n b F' ∧ c F' ≤ L ∧ bet W c F' F ∧
      ∀ B, BSS n b L W c B → (∀ r, S.testBit r = true → B.testBit r = true) → (∀ r, T.testBit r = true → B.testBit r = false) → bet W c F' B := by
  have hn := hR.1
  have hB : ∀ S, W S ≤ 1000000 := fun S => by rw [hW]; exact ds_le _ _ _
  have hi : ini s s = 0 := if_pos rfl
  intro d
  induction d with
  | zero => intro more S T F x y h1; omega
  | succ d ih =>
    intro more S T F x y h1 h2 h3 h4 h5 h6
    have lS := oks_lt hn h2
    have lF := oks_lt hn h5
    rw [f_X0_search_s]
    unfold r_X0_search
    obtain ⟨x1, y1, m1, m2, m3⟩ := measure_eq hN hR (b := b) (S := S) hs he x y
    obtain ⟨F1, k1, k2, k3, k4⟩ := take_eq hc hB lF lS
    have okF : OKS n b F1 ∧ c F1 ≤ L := by
      rcases k1 with rfl | rfl
      · exact ⟨h5, h6⟩
      · exact ⟨h2, by omega⟩
    rw [m1, bd_of rfl, ← hW S]
    simp only []
    rw [k4]
    simp only []
    /- what is to be said of a best set -/
    have strict : ∀ B, BSS n b L W c B → (∀ r, S.testBit r = true → B.testBit r = true) → S ≠ B → c S < c B ∧ W S < W B := by
      intro B ⟨b1, b2, b3⟩ b4 hne
      have q := pcn_sub b4 16
      have q3 := b3 S h2 (by omega)
      have lt : c S < c B := by
        rw [hc, hc]
        apply Nat.lt_of_le_of_ne q.1
        intro z
        apply hne
        apply Nat.eq_of_testBit_eq
        intro i
        rcases Nat.lt_or_ge i 16 with hi | hi
        · exact q.2 z i hi
        · rw [tb_lt (n := 16) lS hi, tb_lt (n := 16) (oks_lt hn b1) hi]
      refine ⟨lt, ?_⟩
      unfold bet at q3
      omega
    have same : ∀ B, BSS n b L W c B → (∀ r, S.testBit r = true → B.testBit r = true) → S = B → bet W c F1 B := by
      intro B _ _ e; rw [← e]; exact k3
    by_cases c0 : more = 0
    · subst c0
      rw [if_pos (by decide)]
      refine ⟨F1, x1, y1, rfl, okF.1, okF.2, k2, fun B hb q1 q2 => ?_⟩
      by_cases z : S = B
      · exact same B hb q1 z
      · have := (strict B hb q1 z).1
        have := hb.2.1
        omega
    · have n0 : ¬ nI more ≤ 0 := fun q => by
        have := (nI_leI (a := more) (b := 0) (by omega) (by omega)).mp q
        omega
      rw [if_neg n0]
      have hBS := hB S
      have cw : nI (W S) < 1000000 ↔ W S < 1000000 := by rw [show (1000000 : Int32) = nI 1000000 from rfl, nI_ltI (by omega) (by omega)]
      by_cases w : W S < 1000000
      · rw [if_pos (cw.mpr w)]
        obtain ⟨Y, y1', y2', y3', y4'⟩ := way_eq hN hR he m3
        rw [y1', bd_of rfl]
        obtain ⟨F', x', y', p1, p2, p3, p4, p5⟩ := loop_go (N := N) (s := s) (e := e) (bar := nI b) (W := W) hR hc hL h2 h3 (by omega) y2' y3'
          (self := fun x_found x_foundLength o1_reach o1_lastRoad p2 p3 p4 => f_X0_search N d (nI s) (nI e) x_found x_foundLength (nI n) (nI b) fr to len o1_reach o1_lastRoad p2 p3 p4)
          (fun S' T' F'' x y q1 q2 q3 q4 q5 => ih (more - 1) S' T' F'' x y (by omega) q1 q2 q3 q4 q5) 16 0 N T F1 x1 y1 (by omega) (by omega) h4 okF.1 okF.2
        refine ⟨F', x', y', p1, p2, p3, bet_tr p4 k2, fun B hb q1 q2 => ?_⟩
        by_cases z : S = B
        · exact bet_tr p4 (same B hb q1 z)
        · refine p5 B hb q1 q2 ?_
          apply Classical.byContradiction
          intro no
          have st := (strict B hb q1 z).2
          have dk := (dist_ok (us := usS b B) (rn_l hR) (rn_b hR) hs hi).1
          have le := y4' (usS b B) (dsZ n (usS b B) fr to len s) dk (fun v => itr_le _ _ _) (fun r hr hrY => by
            obtain ⟨u1, u2⟩ := y3' r hrY
            unfold usS at u2 ⊢
            rw [Bool.and_eq_true] at u2 ⊢
            refine ⟨u2.1, ?_⟩
            cases hbr : B.testBit r
            · rfl
            · exact absurd ⟨r, by omega, by omega, hrY, hbr⟩ no)
          rw [hW S, hW B] at st
          omega
      · rw [if_neg (fun z => w (cw.mp z))]
        refine ⟨F1, x1, y1, rfl, okF.1, okF.2, k2, fun B hb q1 q2 => ?_⟩
        by_cases z : S = B
        · exact same B hb q1 z
        · have := (strict B hb q1 z).2
          have := hB B
          omega
theorem take0 (w : Nat) (hw : w ≤ 1000000) : f_X0_take 0 (-1) (nI 0) (nI w) = (nI 0, nI w) := by
  unfold f_X0_take
  rw [if_neg (by decide), if_pos (by decide), if_pos (by decide)]
  unfold f_X0_take_b33 f_X0_take_b34 f_X0_take_b57
  have : (-1 : Int32) < nI w := by
    rw [Int32.lt_iff_toInt_lt, nI_toInt (by omega)]
    show (-1 : Int) < _
    omega
  rw [if_pos this]
theorem po_bars {bar : Int32} {N : Nat} (hN : 100000 ≤ N) (h : RR n bar fr to len g) (x y z : Nat → Int32) (a1 a2 a3 a4 p1 p2 p3 : Int32) :
    ∃ q q', f_X10_bars N (nI n) bar fr to len x y a1 a2 a3 a4 p1 p2 p3 = some q ∧ f_X11_bars N g z p1 p2 p3 = some q' ∧ q.1 = q'.1 := by
  have hR := rr_rn h
  obtain ⟨hn, hg2, hg, ⟨b, b1, rfl, b3, b4⟩, -⟩ := h
  unfold f_X10_bars f_X11_bars
  rcases placeZ_cases p1 with ⟨e1, e2, s, hs, rfl⟩ | ⟨e1, e2⟩
  · rw [e1, e2, if_neg i10ne, if_neg i10ne]
    rcases placeZ_cases p2 with ⟨e1, e2, e, he, rfl⟩ | ⟨e1, e2⟩
    · rw [e1, e2, if_neg i10ne, if_neg i10ne, within_eq]
      rcases from_cases p3 0 4 with ⟨h, h1, h2⟩ | ⟨h, -⟩
      · rw [if_neg (by rw [h]; decide), if_neg (by rw [h]; decide)]
        rw [i0] at h1
        obtain ⟨L, hL, rfl⟩ := nI_of_toInt (n := 5) h1 (by have : (4 : Int32).toInt = 4 := rfl; omega)
        have ok0 : OKS n b 0 := ⟨Nat.two_pow_pos n, fun r hr q => by rw [Nat.zero_testBit] at q; cases q⟩
        obtain ⟨z', m2⟩ := short_eq (N := N) (by omega) (S := 0) hR hg2 hg b3 hs he z
        rw [show nI 0 = 0 from rfl] at m2
        rw [m2, bd_of rfl]
        obtain ⟨t, z'', t1, t2, t3, t4⟩ := barsgo hN hR hg2 hg b3 (L := L) hs he (by omega) (W := fun S => dsZ n (usS b S) fr to len s e) (c := fun S => pcn S 16) (fun S => rfl) (fun S => rfl) L 1 N 0 z' (by omega) (by omega) (by omega) ok0 (by show pcn 0 16 < 1; decide) (fun r hr hr2 => by
          have hr2 : pcn r 16 < 1 := hr2
          rw [pc0 (oks_lt hn hr) (by omega)]; exact bet_rf _ _ _)
        rw [show nI 0 = 0 from rfl, show nI 1 = 1 from rfl] at t4
        have t4' : f_X11_bars_b41 N g (nI s) (nI e) (nI L) N z' 0 (nI (dsZ n (usS b 0) fr to len s e)) 1 = some (nI t, z'') := t4
        simp only []
        rw [t4']
        unfold f_X0_find
        have B : BSS n b L (fun S => dsZ n (usS b S) fr to len s e) (fun S => pcn S 16) t := ⟨t1, t2, t3⟩
        have start : f_X0_search N 8 (nI s) (nI e) 0 (-1) (nI n) (nI b) fr to len x y 0 0 (nI L) = f_X0_search N 8 (nI s) (nI e) (nI 0) (nI (dsZ n (usS b 0) fr to len s e)) (nI n) (nI b) fr to len x y (nI 0) (nI 0) (nI L) := by
          rw [f_X0_search_s, f_X0_search_s]
          unfold r_X0_search
          obtain ⟨x1, y1, m1, m2, m3⟩ := measure_eq (N := N) (by omega) hR (b := b) (S := 0) hs he x y
          have dl := ds_le (n := n) (fr := fr) (to := to) (len := len) (usS b 0) s e
          have k0 := take0 _ dl
          obtain ⟨F', k1, -, -, k4⟩ := take_eq (W := fun S => dsZ n (usS b S) fr to len s e) (c := fun S => pcn S 16) (fun S => rfl) (fun S => ds_le _ _ _) (show 0 < 65536 by omega) (show 0 < 65536 by omega)
          have : F' = 0 := by omega
          subst this
          rw [show (0 : Int32) = nI 0 from rfl] at k0 ⊢
          rw [m1, bd_of rfl, bd_of rfl]
          simp only []
          have k4' : f_X0_take (nI 0) (nI (dsZ n (usS b 0) fr to len s e)) (nI 0) (nI (dsZ n (usS b 0) fr to len s e)) = (nI 0, nI (dsZ n (usS b 0) fr to len s e)) := k4
          rw [k0, k4']
        obtain ⟨F', x', y', q1, q2, q3, q4, q5⟩ := search_go (N := N) (by omega) hR (b := b) (L := L) hs he (by omega) (W := fun S => dsZ n (usS b S) fr to len s e) (c := fun S => pcn S 16) (fun S => rfl) (fun S => rfl) 8 L 0 0 0 x y (by omega) ok0 (by show pcn 0 16 + L = L; rw [show pcn 0 16 = 0 from rfl]; omega) (by omega) ok0 (by show pcn 0 16 ≤ L; rw [show pcn 0 16 = 0 from rfl]; omega)
        have fin := q5 t B (fun r q => by rw [Nat.zero_testBit] at q; cases q) (fun r q => by rw [Nat.zero_testBit] at q; cases q)
        have eF : F' = t := bet_as fin (t3 F' q2 q3)
        subst eF
        have q1' : f_X0_search N 8 (nI s) (nI e) (nI 0) (nI (dsZ n (usS b 0) fr to len s e)) (nI n) (nI b) fr to len x y (nI 0) (nI 0) (nI L) = _ := q1
        rw [start, q1', bd_of rfl, bd_of rfl]
        exact ⟨_, _, rfl, rfl, rfl⟩
      · rw [if_pos h, if_pos h]
        exact ⟨_, _, rfl, rfl, rfl⟩
    · rw [e1, e2, if_pos rfl, if_pos rfl]
      exact ⟨_, _, rfl, rfl, rfl⟩
  · rw [e1, e2, if_pos rfl, if_pos rfl]
    exact ⟨_, _, rfl, rfl, rfl⟩
end PBO
