variable {p : Program} {l : Launch} {e : Env} {s : State} {m : MethodId} {args : Array Value} {below : List Frame} {meth : Method} {c : Code} {D : va_G} {A : Nat → Prop} {cI cJ cZ cG : ClassId}
theorem in_X6_copyFrom_X6 : ∀ w ∈ wsX60, w ∈ wsX6_copyFrom := by decide +kernel
theorem mb_X6_copyFrom_0 : Cond.fieldLink RX6 10 "GuardDesk$Scene" "targets" "LGuardDesk$Targets;" ∈ wsX6_copyFrom := List.mem_of_getElem? (i := 1) rfl
theorem mb_X6_copyFrom_1 : Cond.fieldLink RX6 19 "GuardDesk$Scene" "roads" "LGuardDesk$Roads;" ∈ wsX6_copyFrom := List.mem_of_getElem? (i := 2) rfl
theorem mb_X6_copyFrom_2 : Cond.fieldLink RX6 26 "GuardDesk$Scene" "posts" "LGuardDesk$Posts;" ∈ wsX6_copyFrom := List.mem_of_getElem? (i := 3) rfl
theorem mb_X6_copyFrom_3 : Cond.fieldLink RX6 33 "GuardDesk$Scene" "haunts" "LGuardDesk$Haunts;" ∈ wsX6_copyFrom := List.mem_of_getElem? (i := 4) rfl
set_option maxRecDepth 100000 in
set_option maxHeartbeats 4000000 in
theorem c_X6_copyFrom (l : Launch) (D : va_G) (cI cJ cZ cG : ClassId) (a_x a_x_targets a_x_roads a_x_posts a_x_haunts a_x_targets_kind a_x_targets_saved a_x_targets_lost a_x_targets_gain a_x_targets_gap a_x_targets_least a_x_targets_most a_x_targets_hand a_x_roads_from a_x_roads_to a_x_roads_length a_x_roads_reach a_x_roads_lastRoad a_x_posts_every a_x_haunts_places a_x_haunts_weight a_o1 a_o1_targets a_o1_roads a_o1_posts a_o1_haunts a_o1_targets_kind a_o1_targets_saved a_o1_targets_lost a_o1_targets_gain a_o1_targets_gap a_o1_targets_least a_o1_targets_most a_o1_targets_hand a_o1_roads_from a_o1_roads_to a_o1_roads_length a_o1_roads_reach a_o1_roads_lastRoad a_o1_posts_every a_o1_haunts_places a_o1_haunts_weight : Nat) (x_targets_size : Int32) (x_targets_guards : Int32) (x_targets_kind : (Nat → Int32)) (x_targets_saved : (Nat → Int32)) (x_targets_lost : (Nat → Int32)) (x_targets_gain : (Nat → Int32)) (x_targets_gap : (Nat → Int32)) (x_targets_least : (Nat → Int32)) (x_targets_most : (Nat → Int32)) (x_targets_hand : (Nat → Int32)) (x_roads_size : Int32) (x_roads_barred : Int32) (x_roads_from : (Nat → Int32)) (x_roads_to : (Nat → Int32)) (x_roads_length : (Nat → Int32)) (x_posts_size : Int32) (x_posts_every : (Nat → Int32)) (x_haunts_size : Int32) (x_haunts_places : (Nat → Int32)) (x_haunts_weight : (Nat → Int32)) (o1_targets_size : Int32) (o1_targets_guards : Int32) (o1_targets_kind : (Nat → Int32)) (o1_targets_saved : (Nat → Int32)) (o1_targets_lost : (Nat → Int32)) (o1_targets_gain : (Nat → Int32)) (o1_targets_gap : (Nat → Int32)) (o1_targets_least : (Nat → Int32)) (o1_targets_most : (Nat → Int32)) (o1_targets_hand : (Nat → Int32)) (o1_roads_size : Int32) (o1_roads_barred : Int32) (o1_roads_from : (Nat → Int32)) (o1_roads_to : (Nat → Int32)) (o1_roads_length : (Nat → Int32)) (o1_posts_size : Int32) (o1_posts_every : (Nat → Int32)) (o1_haunts_size : Int32) (o1_haunts_places : (Nat → Int32)) (o1_haunts_weight : (Nat → Int32)) (q : Int32 × Int32 × (Nat → Int32) × (Nat → Int32) × (Nat → Int32) × (Nat → Int32) × (Nat → Int32) × (Nat → Int32) × (Nat → Int32) × (Nat → Int32) × Int32 × Int32 × (Nat → Int32) × (Nat → Int32) × (Nat → Int32) × Int32 × (Nat → Int32) × Int32 × (Nat → Int32) × (Nat → Int32)) (h : f_X6_copyFrom x_targets_size x_targets_guards x_targets_kind x_targets_saved x_targets_lost x_targets_gain x_targets_gap x_targets_least x_targets_most x_targets_hand x_roads_size x_roads_barred x_roads_from x_roads_to x_roads_length x_posts_size x_posts_every x_haunts_size x_haunts_places x_haunts_weight o1_targets_size o1_targets_guards o1_targets_kind o1_targets_saved o1_targets_lost o1_targets_gain o1_targets_gap o1_targets_least o1_targets_most o1_targets_hand o1_roads_size o1_roads_barred o1_roads_from o1_roads_to o1_roads_length o1_posts_size o1_posts_every o1_haunts_size o1_haunts_places o1_haunts_weight = q) : gMet l yX6_copyFrom wsX6_copyFrom rm_X6_copyFrom [.ref a_x, .ref a_o1] (w_X6_copyFrom cI cJ cZ cG a_x a_x_targets a_x_roads a_x_posts a_x_haunts a_x_targets_kind a_x_targets_saved a_x_targets_lost a_x_targets_gain a_x_targets_gap a_x_targets_least a_x_targets_most a_x_targets_hand a_x_roads_from a_x_roads_to a_x_roads_length a_x_roads_reach a_x_roads_lastRoad a_x_posts_every a_x_haunts_places a_x_haunts_weight a_o1 a_o1_targets a_o1_roads a_o1_posts a_o1_haunts a_o1_targets_kind a_o1_targets_saved a_o1_targets_lost a_o1_targets_gain a_o1_targets_gap a_o1_targets_least a_o1_targets_most a_o1_targets_hand a_o1_roads_from a_o1_roads_to a_o1_roads_length a_o1_roads_reach a_o1_roads_lastRoad a_o1_posts_every a_o1_haunts_places a_o1_haunts_weight x_targets_size x_targets_guards x_targets_kind x_targets_saved x_targets_lost x_targets_gain x_targets_gap x_targets_least x_targets_most x_targets_hand x_roads_size x_roads_barred x_roads_from x_roads_to x_roads_length x_posts_size x_posts_every x_haunts_size x_haunts_places x_haunts_weight o1_targets_size o1_targets_guards o1_targets_kind o1_targets_saved o1_targets_lost o1_targets_gain o1_targets_gap o1_targets_least o1_targets_most o1_targets_hand o1_roads_size o1_roads_barred o1_roads_from o1_roads_to o1_roads_length o1_posts_size o1_posts_every o1_haunts_size o1_haunts_places o1_haunts_weight) (w_X6_copyFrom cI cJ cZ cG a_x a_x_targets a_x_roads a_x_posts a_x_haunts a_x_targets_kind a_x_targets_saved a_x_targets_lost a_x_targets_gain a_x_targets_gap a_x_targets_least a_x_targets_most a_x_targets_hand a_x_roads_from a_x_roads_to a_x_roads_length a_x_roads_reach a_x_roads_lastRoad a_x_posts_every a_x_haunts_places a_x_haunts_weight a_o1 a_o1_targets a_o1_roads a_o1_posts a_o1_haunts a_o1_targets_kind a_o1_targets_saved a_o1_targets_lost a_o1_targets_gain a_o1_targets_gap a_o1_targets_least a_o1_targets_most a_o1_targets_hand a_o1_roads_from a_o1_roads_to a_o1_roads_length a_o1_roads_reach a_o1_roads_lastRoad a_o1_posts_every a_o1_haunts_places a_o1_haunts_weight q.1 q.2.1 q.2.2.1 q.2.2.2.1 q.2.2.2.2.1 q.2.2.2.2.2.1 q.2.2.2.2.2.2.1 q.2.2.2.2.2.2.2.1 q.2.2.2.2.2.2.2.2.1 q.2.2.2.2.2.2.2.2.2.1 q.2.2.2.2.2.2.2.2.2.2.1 q.2.2.2.2.2.2.2.2.2.2.2.1 q.2.2.2.2.2.2.2.2.2.2.2.2.1 q.2.2.2.2.2.2.2.2.2.2.2.2.2.1 q.2.2.2.2.2.2.2.2.2.2.2.2.2.2.1 q.2.2.2.2.2.2.2.2.2.2.2.2.2.2.2.1 q.2.2.2.2.2.2.2.2.2.2.2.2.2.2.2.2.1 q.2.2.2.2.2.2.2.2.2.2.2.2.2.2.2.2.2.1 q.2.2.2.2.2.2.2.2.2.2.2.2.2.2.2.2.2.2.1 q.2.2.2.2.2.2.2.2.2.2.2.2.2.2.2.2.2.2.2 o1_targets_size o1_targets_guards o1_targets_kind o1_targets_saved o1_targets_lost o1_targets_gain o1_targets_gap o1_targets_least o1_targets_most o1_targets_hand o1_roads_size o1_roads_barred o1_roads_from o1_roads_to o1_roads_length o1_posts_size o1_posts_every o1_haunts_size o1_haunts_places o1_haunts_weight) none D cI cJ cZ cG := by
  refine g_enter (cc := cX6_copyFrom) (nL := 2) (ret := none) (by decide) rfl (Nat.le_of_ble_eq_true rfl) ?_
  intro p e s m below meth c A C H locs ls hP hD hS hl
  obtain ⟨hx, hb, hr, hml, hown, hts, hlk, hgk, hA⟩ := id C
  have hK := hgk.1
  have hl : lv_has ls 2 [(0, .ref a_x), (1, .ref a_o1)] := hl
  unfold f_X6_copyFrom at h
  refine lv_aload_n hx hb dX6_copyFrom_0 rfl (lv_at hl 0 rfl) ?_
  refine va_get (D := D) (ci := 6) (v := .ref a_x_targets) (C := RX6) (T := TX6) (N := 4) hx hb hts in_X6_copyFrom_X6 hown hK hP 0 rfl rfl 0 (by decide) (hts _ mb_X6_copyFrom_0) (fun _ h9 => h9) rfl dX6_copyFrom_1 ?_
  refine lv_aload_n hx hb dX6_copyFrom_4 rfl (lv_at hl 1 rfl) ?_
  refine va_get (D := D) (ci := 6) (v := .ref a_o1_targets) (C := RX6) (T := TX6) (N := 4) hx hb hts in_X6_copyFrom_X6 hown hK hP 19 rfl rfl 0 (by decide) (hts _ mb_X6_copyFrom_0) (fun _ h9 => h9) rfl dX6_copyFrom_5 ?_
  refine g_callV (index := 37) (maxL := 2) (n := 1) (As := [.ref a_o1_targets]) (rest := []) (st1 := []) (C1 := RX8) (T1 := TX8) (N1 := 10) (ws2 := (w_X6_copyFrom cI cJ cZ cG a_x a_x_targets a_x_roads a_x_posts a_x_haunts a_x_targets_kind a_x_targets_saved a_x_targets_lost a_x_targets_gain a_x_targets_gap a_x_targets_least a_x_targets_most a_x_targets_hand a_x_roads_from a_x_roads_to a_x_roads_length a_x_roads_reach a_x_roads_lastRoad a_x_posts_every a_x_haunts_places a_x_haunts_weight a_o1 a_o1_targets a_o1_roads a_o1_posts a_o1_haunts a_o1_targets_kind a_o1_targets_saved a_o1_targets_lost a_o1_targets_gain a_o1_targets_gap a_o1_targets_least a_o1_targets_most a_o1_targets_hand a_o1_roads_from a_o1_roads_to a_o1_roads_length a_o1_roads_reach a_o1_roads_lastRoad a_o1_posts_every a_o1_haunts_places a_o1_haunts_weight ((f_X8_copyFrom x_targets_size x_targets_guards x_targets_kind x_targets_saved x_targets_lost x_targets_gain x_targets_gap x_targets_least x_targets_most x_targets_hand o1_targets_size o1_targets_guards o1_targets_kind o1_targets_saved o1_targets_lost o1_targets_gain o1_targets_gap o1_targets_least o1_targets_most o1_targets_hand).1) ((f_X8_copyFrom x_targets_size x_targets_guards x_targets_kind x_targets_saved x_targets_lost x_targets_gain x_targets_gap x_targets_least x_targets_most x_targets_hand o1_targets_size o1_targets_guards o1_targets_kind o1_targets_saved o1_targets_lost o1_targets_gain o1_targets_gap o1_targets_least o1_targets_most o1_targets_hand).2.1) ((f_X8_copyFrom x_targets_size x_targets_guards x_targets_kind x_targets_saved x_targets_lost x_targets_gain x_targets_gap x_targets_least x_targets_most x_targets_hand o1_targets_size o1_targets_guards o1_targets_kind o1_targets_saved o1_targets_lost o1_targets_gain o1_targets_gap o1_targets_least o1_targets_most o1_targets_hand).2.2.1) ((f_X8_copyFrom x_targets_size x_targets_guards x_targets_kind x_targets_saved x_targets_lost x_targets_gain x_targets_gap x_targets_least x_targets_most x_targets_hand o1_targets_size o1_targets_guards o1_targets_kind o1_targets_saved o1_targets_lost o1_targets_gain o1_targets_gap o1_targets_least o1_targets_most o1_targets_hand).2.2.2.1) ((f_X8_copyFrom x_targets_size x_targets_guards x_targets_kind x_targets_saved x_targets_lost x_targets_gain x_targets_gap x_targets_least x_targets_most x_targets_hand o1_targets_size o1_targets_guards o1_targets_kind o1_targets_saved o1_targets_lost o1_targets_gain o1_targets_gap o1_targets_least o1_targets_most o1_targets_hand).2.2.2.2.1) ((f_X8_copyFrom x_targets_size x_targets_guards x_targets_kind x_targets_saved x_targets_lost x_targets_gain x_targets_gap x_targets_least x_targets_most x_targets_hand o1_targets_size o1_targets_guards o1_targets_kind o1_targets_saved o1_targets_lost o1_targets_gain o1_targets_gap o1_targets_least o1_targets_most o1_targets_hand).2.2.2.2.2.1) ((f_X8_copyFrom x_targets_size x_targets_guards x_targets_kind x_targets_saved x_targets_lost x_targets_gain x_targets_gap x_targets_least x_targets_most x_targets_hand o1_targets_size o1_targets_guards o1_targets_kind o1_targets_saved o1_targets_lost o1_targets_gain o1_targets_gap o1_targets_least o1_targets_most o1_targets_hand).2.2.2.2.2.2.1) ((f_X8_copyFrom x_targets_size x_targets_guards x_targets_kind x_targets_saved x_targets_lost x_targets_gain x_targets_gap x_targets_least x_targets_most x_targets_hand o1_targets_size o1_targets_guards o1_targets_kind o1_targets_saved o1_targets_lost o1_targets_gain o1_targets_gap o1_targets_least o1_targets_most o1_targets_hand).2.2.2.2.2.2.2.1) ((f_X8_copyFrom x_targets_size x_targets_guards x_targets_kind x_targets_saved x_targets_lost x_targets_gain x_targets_gap x_targets_least x_targets_most x_targets_hand o1_targets_size o1_targets_guards o1_targets_kind o1_targets_saved o1_targets_lost o1_targets_gain o1_targets_gap o1_targets_least o1_targets_most o1_targets_hand).2.2.2.2.2.2.2.2.1) ((f_X8_copyFrom x_targets_size x_targets_guards x_targets_kind x_targets_saved x_targets_lost x_targets_gain x_targets_gap x_targets_least x_targets_most x_targets_hand o1_targets_size o1_targets_guards o1_targets_kind o1_targets_saved o1_targets_lost o1_targets_gain o1_targets_gap o1_targets_least o1_targets_most o1_targets_hand).2.2.2.2.2.2.2.2.2) x_roads_size x_roads_barred x_roads_from x_roads_to x_roads_length x_posts_size x_posts_every x_haunts_size x_haunts_places x_haunts_weight o1_targets_size o1_targets_guards o1_targets_kind o1_targets_saved o1_targets_lost o1_targets_gain o1_targets_gap o1_targets_least o1_targets_most o1_targets_hand o1_roads_size o1_roads_barred o1_roads_from o1_roads_to o1_roads_length o1_posts_size o1_posts_every o1_haunts_size o1_haunts_places o1_haunts_weight)) C hP hD hS hl.1 8 0 (c_X8_copyFrom l D cI cJ cZ cG a_x_targets a_x_targets_kind a_x_targets_saved a_x_targets_lost a_x_targets_gain a_x_targets_gap a_x_targets_least a_x_targets_most a_x_targets_hand a_o1_targets a_o1_targets_kind a_o1_targets_saved a_o1_targets_lost a_o1_targets_gain a_o1_targets_gap a_o1_targets_least a_o1_targets_most a_o1_targets_hand x_targets_size x_targets_guards x_targets_kind x_targets_saved x_targets_lost x_targets_gain x_targets_gap x_targets_least x_targets_most x_targets_hand o1_targets_size o1_targets_guards o1_targets_kind o1_targets_saved o1_targets_lost o1_targets_gain o1_targets_gap o1_targets_least o1_targets_most o1_targets_hand _ rfl) gX6_copyFrom_X8_copyFrom rfl rfl rfl (by decide +kernel) ⟨Nat.le_of_ble_eq_true rfl, Nat.le_of_ble_eq_true rfl⟩ rfl rfl rfl (Nat.le_of_ble_eq_true rfl) rfl dX6_copyFrom_8 [1, 2, 3, 4, 5, 6, 7, 8, 9, 20, 21, 22, 23, 24, 25, 26, 27, 28] [0, 10, 11, 12, 13, 14, 15, 16, 17, 18, 19, 29, 30, 31, 32, 33, 34, 35, 36, 37] [0, 20, 21, 22, 23, 24, 25, 26, 27, 28, 1, 2, 3, 4, 5, 6, 7, 8, 9, 10, 29, 30, 31, 32, 33, 34, 35, 36, 37, 11, 12, 13, 14, 15, 16, 17, 18, 19] rfl rfl rfl rfl (by decide) rfl rfl rfl (fun H locs hP hD hS => ?_)
  refine lv_aload_n hx hb dX6_copyFrom_11 rfl (lv_at hl 0 rfl) ?_
  refine va_get (D := D) (ci := 6) (v := .ref a_x_roads) (C := RX6) (T := TX6) (N := 4) hx hb hts in_X6_copyFrom_X6 hown hK hP 0 rfl rfl 1 (by decide) (hts _ mb_X6_copyFrom_1) (fun _ h9 => h9) rfl dX6_copyFrom_12 ?_
  refine lv_aload_n hx hb dX6_copyFrom_15 rfl (lv_at hl 1 rfl) ?_
  refine va_get (D := D) (ci := 6) (v := .ref a_o1_roads) (C := RX6) (T := TX6) (N := 4) hx hb hts in_X6_copyFrom_X6 hown hK hP 19 rfl rfl 1 (by decide) (hts _ mb_X6_copyFrom_1) (fun _ h9 => h9) rfl dX6_copyFrom_16 ?_
  refine g_callV (index := 41) (maxL := 2) (n := 1) (As := [.ref a_o1_roads]) (rest := []) (st1 := []) (C1 := RX5) (T1 := TX5) (N1 := 7) (ws2 := (w_X6_copyFrom cI cJ cZ cG a_x a_x_targets a_x_roads a_x_posts a_x_haunts a_x_targets_kind a_x_targets_saved a_x_targets_lost a_x_targets_gain a_x_targets_gap a_x_targets_least a_x_targets_most a_x_targets_hand a_x_roads_from a_x_roads_to a_x_roads_length a_x_roads_reach a_x_roads_lastRoad a_x_posts_every a_x_haunts_places a_x_haunts_weight a_o1 a_o1_targets a_o1_roads a_o1_posts a_o1_haunts a_o1_targets_kind a_o1_targets_saved a_o1_targets_lost a_o1_targets_gain a_o1_targets_gap a_o1_targets_least a_o1_targets_most a_o1_targets_hand a_o1_roads_from a_o1_roads_to a_o1_roads_length a_o1_roads_reach a_o1_roads_lastRoad a_o1_posts_every a_o1_haunts_places a_o1_haunts_weight ((f_X8_copyFrom x_targets_size x_targets_guards x_targets_kind x_targets_saved x_targets_lost x_targets_gain x_targets_gap x_targets_least x_targets_most x_targets_hand o1_targets_size o1_targets_guards o1_targets_kind o1_targets_saved o1_targets_lost o1_targets_gain o1_targets_gap o1_targets_least o1_targets_most o1_targets_hand).1) ((f_X8_copyFrom x_targets_size x_targets_guards x_targets_kind x_targets_saved x_targets_lost x_targets_gain x_targets_gap x_targets_least x_targets_most x_targets_hand o1_targets_size o1_targets_guards o1_targets_kind o1_targets_saved o1_targets_lost o1_targets_gain o1_targets_gap o1_targets_least o1_targets_most o1_targets_hand).2.1) ((f_X8_copyFrom x_targets_size x_targets_guards x_targets_kind x_targets_saved x_targets_lost x_targets_gain x_targets_gap x_targets_least x_targets_most x_targets_hand o1_targets_size o1_targets_guards o1_targets_kind o1_targets_saved o1_targets_lost o1_targets_gain o1_targets_gap o1_targets_least o1_targets_most o1_targets_hand).2.2.1) ((f_X8_copyFrom x_targets_size x_targets_guards x_targets_kind x_targets_saved x_targets_lost x_targets_gain x_targets_gap x_targets_least x_targets_most x_targets_hand o1_targets_size o1_targets_guards o1_targets_kind o1_targets_saved o1_targets_lost o1_targets_gain o1_targets_gap o1_targets_least o1_targets_most o1_targets_hand).2.2.2.1) ((f_X8_copyFrom x_targets_size x_targets_guards x_targets_kind x_targets_saved x_targets_lost x_targets_gain x_targets_gap x_targets_least x_targets_most x_targets_hand o1_targets_size o1_targets_guards o1_targets_kind o1_targets_saved o1_targets_lost o1_targets_gain o1_targets_gap o1_targets_least o1_targets_most o1_targets_hand).2.2.2.2.1) ((f_X8_copyFrom x_targets_size x_targets_guards x_targets_kind x_targets_saved x_targets_lost x_targets_gain x_targets_gap x_targets_least x_targets_most x_targets_hand o1_targets_size o1_targets_guards o1_targets_kind o1_targets_saved o1_targets_lost o1_targets_gain o1_targets_gap o1_targets_least o1_targets_most o1_targets_hand).2.2.2.2.2.1) ((f_X8_copyFrom x_targets_size x_targets_guards x_targets_kind x_targets_saved x_targets_lost x_targets_gain x_targets_gap x_targets_least x_targets_most x_targets_hand o1_targets_size o1_targets_guards o1_targets_kind o1_targets_saved o1_targets_lost o1_targets_gain o1_targets_gap o1_targets_least o1_targets_most o1_targets_hand).2.2.2.2.2.2.1) ((f_X8_copyFrom x_targets_size x_targets_guards x_targets_kind x_targets_saved x_targets_lost x_targets_gain x_targets_gap x_targets_least x_targets_most x_targets_hand o1_targets_size o1_targets_guards o1_targets_kind o1_targets_saved o1_targets_lost o1_targets_gain o1_targets_gap o1_targets_least o1_targets_most o1_targets_hand).2.2.2.2.2.2.2.1) ((f_X8_copyFrom x_targets_size x_targets_guards x_targets_kind x_targets_saved x_targets_lost x_targets_gain x_targets_gap x_targets_least x_targets_most x_targets_hand o1_targets_size o1_targets_guards o1_targets_kind o1_targets_saved o1_targets_lost o1_targets_gain o1_targets_gap o1_targets_least o1_targets_most o1_targets_hand).2.2.2.2.2.2.2.2.1) ((f_X8_copyFrom x_targets_size x_targets_guards x_targets_kind x_targets_saved x_targets_lost x_targets_gain x_targets_gap x_targets_least x_targets_most x_targets_hand o1_targets_size o1_targets_guards o1_targets_kind o1_targets_saved o1_targets_lost o1_targets_gain o1_targets_gap o1_targets_least o1_targets_most o1_targets_hand).2.2.2.2.2.2.2.2.2) ((f_X5_copyFrom x_roads_size x_roads_barred x_roads_from x_roads_to x_roads_length o1_roads_size o1_roads_barred o1_roads_from o1_roads_to o1_roads_length).1) ((f_X5_copyFrom x_roads_size x_roads_barred x_roads_from x_roads_to x_roads_length o1_roads_size o1_roads_barred o1_roads_from o1_roads_to o1_roads_length).2.1) ((f_X5_copyFrom x_roads_size x_roads_barred x_roads_from x_roads_to x_roads_length o1_roads_size o1_roads_barred o1_roads_from o1_roads_to o1_roads_length).2.2.1) ((f_X5_copyFrom x_roads_size x_roads_barred x_roads_from x_roads_to x_roads_length o1_roads_size o1_roads_barred o1_roads_from o1_roads_to o1_roads_length).2.2.2.1) ((f_X5_copyFrom x_roads_size x_roads_barred x_roads_from x_roads_to x_roads_length o1_roads_size o1_roads_barred o1_roads_from o1_roads_to o1_roads_length).2.2.2.2) x_posts_size x_posts_every x_haunts_size x_haunts_places x_haunts_weight o1_targets_size o1_targets_guards o1_targets_kind o1_targets_saved o1_targets_lost o1_targets_gain o1_targets_gap o1_targets_least o1_targets_most o1_targets_hand o1_roads_size o1_roads_barred o1_roads_from o1_roads_to o1_roads_length o1_posts_size o1_posts_every o1_haunts_size o1_haunts_places o1_haunts_weight)) C hP hD hS hl.1 5 0 (c_X5_copyFrom l D cI cJ cZ cG a_x_roads a_x_roads_from a_x_roads_to a_x_roads_length a_x_roads_reach a_x_roads_lastRoad a_o1_roads a_o1_roads_from a_o1_roads_to a_o1_roads_length a_o1_roads_reach a_o1_roads_lastRoad x_roads_size x_roads_barred x_roads_from x_roads_to x_roads_length o1_roads_size o1_roads_barred o1_roads_from o1_roads_to o1_roads_length _ rfl) gX6_copyFrom_X5_copyFrom rfl rfl rfl (by decide +kernel) ⟨Nat.le_of_ble_eq_true rfl, Nat.le_of_ble_eq_true rfl⟩ rfl rfl rfl (Nat.le_of_ble_eq_true rfl) rfl dX6_copyFrom_19 [10, 11, 12, 13, 29, 30, 31, 32] [0, 1, 2, 3, 4, 5, 6, 7, 8, 9, 14, 15, 16, 17, 18, 19, 20, 21, 22, 23, 24, 25, 26, 27, 28, 33, 34, 35, 36, 37] [0, 1, 2, 3, 4, 5, 6, 7, 8, 9, 30, 31, 32, 33, 10, 11, 12, 13, 14, 15, 16, 17, 18, 19, 20, 21, 22, 23, 24, 34, 35, 36, 37, 25, 26, 27, 28, 29] rfl rfl rfl rfl (by decide) rfl rfl rfl (fun H locs hP hD hS => ?_)
  refine lv_aload_n hx hb dX6_copyFrom_22 rfl (lv_at hl 0 rfl) ?_
  refine va_get (D := D) (ci := 6) (v := .ref a_x_posts) (C := RX6) (T := TX6) (N := 4) hx hb hts in_X6_copyFrom_X6 hown hK hP 0 rfl rfl 2 (by decide) (hts _ mb_X6_copyFrom_2) (fun _ h9 => h9) rfl dX6_copyFrom_23 ?_
  refine lv_aload_n hx hb dX6_copyFrom_26 rfl (lv_at hl 1 rfl) ?_
  refine va_get (D := D) (ci := 6) (v := .ref a_o1_posts) (C := RX6) (T := TX6) (N := 4) hx hb hts in_X6_copyFrom_X6 hown hK hP 19 rfl rfl 2 (by decide) (hts _ mb_X6_copyFrom_2) (fun _ h9 => h9) rfl dX6_copyFrom_27 ?_
  refine g_callV (index := 44) (maxL := 2) (n := 1) (As := [.ref a_o1_posts]) (rest := []) (st1 := []) (C1 := RX4) (T1 := TX4) (N1 := 2) (ws2 := (w_X6_copyFrom cI cJ cZ cG a_x a_x_targets a_x_roads a_x_posts a_x_haunts a_x_targets_kind a_x_targets_saved a_x_targets_lost a_x_targets_gain a_x_targets_gap a_x_targets_least a_x_targets_most a_x_targets_hand a_x_roads_from a_x_roads_to a_x_roads_length a_x_roads_reach a_x_roads_lastRoad a_x_posts_every a_x_haunts_places a_x_haunts_weight a_o1 a_o1_targets a_o1_roads a_o1_posts a_o1_haunts a_o1_targets_kind a_o1_targets_saved a_o1_targets_lost a_o1_targets_gain a_o1_targets_gap a_o1_targets_least a_o1_targets_most a_o1_targets_hand a_o1_roads_from a_o1_roads_to a_o1_roads_length a_o1_roads_reach a_o1_roads_lastRoad a_o1_posts_every a_o1_haunts_places a_o1_haunts_weight ((f_X8_copyFrom x_targets_size x_targets_guards x_targets_kind x_targets_saved x_targets_lost x_targets_gain x_targets_gap x_targets_least x_targets_most x_targets_hand o1_targets_size o1_targets_guards o1_targets_kind o1_targets_saved o1_targets_lost o1_targets_gain o1_targets_gap o1_targets_least o1_targets_most o1_targets_hand).1) ((f_X8_copyFrom x_targets_size x_targets_guards x_targets_kind x_targets_saved x_targets_lost x_targets_gain x_targets_gap x_targets_least x_targets_most x_targets_hand o1_targets_size o1_targets_guards o1_targets_kind o1_targets_saved o1_targets_lost o1_targets_gain o1_targets_gap o1_targets_least o1_targets_most o1_targets_hand).2.1) ((f_X8_copyFrom x_targets_size x_targets_guards x_targets_kind x_targets_saved x_targets_lost x_targets_gain x_targets_gap x_targets_least x_targets_most x_targets_hand o1_targets_size o1_targets_guards o1_targets_kind o1_targets_saved o1_targets_lost o1_targets_gain o1_targets_gap o1_targets_least o1_targets_most o1_targets_hand).2.2.1) ((f_X8_copyFrom x_targets_size x_targets_guards x_targets_kind x_targets_saved x_targets_lost x_targets_gain x_targets_gap x_targets_least x_targets_most x_targets_hand o1_targets_size o1_targets_guards o1_targets_kind o1_targets_saved o1_targets_lost o1_targets_gain o1_targets_gap o1_targets_least o1_targets_most o1_targets_hand).2.2.2.1) ((f_X8_copyFrom x_targets_size x_targets_guards x_targets_kind x_targets_saved x_targets_lost x_targets_gain x_targets_gap x_targets_least x_targets_most x_targets_hand o1_targets_size o1_targets_guards o1_targets_kind o1_targets_saved o1_targets_lost o1_targets_gain o1_targets_gap o1_targets_least o1_targets_most o1_targets_hand).2.2.2.2.1) ((f_X8_copyFrom x_targets_size x_targets_guards x_targets_kind x_targets_saved x_targets_lost x_targets_gain x_targets_gap x_targets_least x_targets_most x_targets_hand o1_targets_size o1_targets_guards o1_targets_kind o1_targets_saved o1_targets_lost o1_targets_gain o1_targets_gap o1_targets_least o1_targets_most o1_targets_hand).2.2.2.2.2.1) ((f_X8_copyFrom x_targets_size x_targets_guards x_targets_kind x_targets_saved x_targets_lost x_targets_gain x_targets_gap x_targets_least x_targets_most x_targets_hand o1_targets_size o1_targets_guards o1_targets_kind o1_targets_saved o1_targets_lost o1_targets_gain o1_targets_gap o1_targets_least o1_targets_most o1_targets_hand).2.2.2.2.2.2.1) ((f_X8_copyFrom x_targets_size x_targets_guards x_targets_kind x_targets_saved x_targets_lost x_targets_gain x_targets_gap x_targets_least x_targets_most x_targets_hand o1_targets_size o1_targets_guards o1_targets_kind o1_targets_saved o1_targets_lost o1_targets_gain o1_targets_gap o1_targets_least o1_targets_most o1_targets_hand).2.2.2.2.2.2.2.1) ((f_X8_copyFrom x_targets_size x_targets_guards x_targets_kind x_targets_saved x_targets_lost x_targets_gain x_targets_gap x_targets_least x_targets_most x_targets_hand o1_targets_size o1_targets_guards o1_targets_kind o1_targets_saved o1_targets_lost o1_targets_gain o1_targets_gap o1_targets_least o1_targets_most o1_targets_hand).2.2.2.2.2.2.2.2.1) ((f_X8_copyFrom x_targets_size x_targets_guards x_targets_kind x_targets_saved x_targets_lost x_targets_gain x_targets_gap x_targets_least x_targets_most x_targets_hand o1_targets_size o1_targets_guards o1_targets_kind o1_targets_saved o1_targets_lost o1_targets_gain o1_targets_gap o1_targets_least o1_targets_most o1_targets_hand).2.2.2.2.2.2.2.2.2) ((f_X5_copyFrom x_roads_size x_roads_barred x_roads_from x_roads_to x_roads_length o1_roads_size o1_roads_barred o1_roads_from o1_roads_to o1_roads_length).1) ((f_X5_copyFrom x_roads_size x_roads_barred x_roads_from x_roads_to x_roads_length o1_roads_size o1_roads_barred o1_roads_from o1_roads_to o1_roads_length).2.1) ((f_X5_copyFrom x_roads_size x_roads_barred x_roads_from x_roads_to x_roads_length o1_roads_size o1_roads_barred o1_roads_from o1_roads_to o1_roads_length).2.2.1) ((f_X5_copyFrom x_roads_size x_roads_barred x_roads_from x_roads_to x_roads_length o1_roads_size o1_roads_barred o1_roads_from o1_roads_to o1_roads_length).2.2.2.1) ((f_X5_copyFrom x_roads_size x_roads_barred x_roads_from x_roads_to x_roads_length o1_roads_size o1_roads_barred o1_roads_from o1_roads_to o1_roads_length).2.2.2.2) ((f_X4_copyFrom x_posts_size x_posts_every o1_posts_size o1_posts_every).1) ((f_X4_copyFrom x_posts_size x_posts_every o1_posts_size o1_posts_every).2) x_haunts_size x_haunts_places x_haunts_weight o1_targets_size o1_targets_guards o1_targets_kind o1_targets_saved o1_targets_lost o1_targets_gain o1_targets_gap o1_targets_least o1_targets_most o1_targets_hand o1_roads_size o1_roads_barred o1_roads_from o1_roads_to o1_roads_length o1_posts_size o1_posts_every o1_haunts_size o1_haunts_places o1_haunts_weight)) C hP hD hS hl.1 4 0 (c_X4_copyFrom l D cI cJ cZ cG a_x_posts a_x_posts_every a_o1_posts a_o1_posts_every x_posts_size x_posts_every o1_posts_size o1_posts_every _ rfl) gX6_copyFrom_X4_copyFrom rfl rfl rfl (by decide +kernel) ⟨Nat.le_of_ble_eq_true rfl, Nat.le_of_ble_eq_true rfl⟩ rfl rfl rfl (Nat.le_of_ble_eq_true rfl) rfl dX6_copyFrom_30 [14, 15, 33, 34] [0, 1, 2, 3, 4, 5, 6, 7, 8, 9, 10, 11, 12, 13, 16, 17, 18, 19, 20, 21, 22, 23, 24, 25, 26, 27, 28, 29, 30, 31, 32, 35, 36, 37] [0, 1, 2, 3, 4, 5, 6, 7, 8, 9, 10, 11, 12, 13, 34, 35, 14, 15, 16, 17, 18, 19, 20, 21, 22, 23, 24, 25, 26, 27, 28, 29, 30, 36, 37, 31, 32, 33] rfl rfl rfl rfl (by decide) rfl rfl rfl (fun H locs hP hD hS => ?_)
  refine lv_aload_n hx hb dX6_copyFrom_33 rfl (lv_at hl 0 rfl) ?_
  refine va_get (D := D) (ci := 6) (v := .ref a_x_haunts) (C := RX6) (T := TX6) (N := 4) hx hb hts in_X6_copyFrom_X6 hown hK hP 0 rfl rfl 3 (by decide) (hts _ mb_X6_copyFrom_3) (fun _ h9 => h9) rfl dX6_copyFrom_34 ?_
  refine lv_aload_n hx hb dX6_copyFrom_37 rfl (lv_at hl 1 rfl) ?_
  refine va_get (D := D) (ci := 6) (v := .ref a_o1_haunts) (C := RX6) (T := TX6) (N := 4) hx hb hts in_X6_copyFrom_X6 hown hK hP 19 rfl rfl 3 (by decide) (hts _ mb_X6_copyFrom_3) (fun _ h9 => h9) rfl dX6_copyFrom_38 ?_
  refine g_callV (index := 47) (maxL := 2) (n := 1) (As := [.ref a_o1_haunts]) (rest := []) (st1 := []) (C1 := RX2) (T1 := TX2) (N1 := 3) (ws2 := (w_X6_copyFrom cI cJ cZ cG a_x a_x_targets a_x_roads a_x_posts a_x_haunts a_x_targets_kind a_x_targets_saved a_x_targets_lost a_x_targets_gain a_x_targets_gap a_x_targets_least a_x_targets_most a_x_targets_hand a_x_roads_from a_x_roads_to a_x_roads_length a_x_roads_reach a_x_roads_lastRoad a_x_posts_every a_x_haunts_places a_x_haunts_weight a_o1 a_o1_targets a_o1_roads a_o1_posts a_o1_haunts a_o1_targets_kind a_o1_targets_saved a_o1_targets_lost a_o1_targets_gain a_o1_targets_gap a_o1_targets_least a_o1_targets_most a_o1_targets_hand a_o1_roads_from a_o1_roads_to a_o1_roads_length a_o1_roads_reach a_o1_roads_lastRoad a_o1_posts_every a_o1_haunts_places a_o1_haunts_weight ((f_X8_copyFrom x_targets_size x_targets_guards x_targets_kind x_targets_saved x_targets_lost x_targets_gain x_targets_gap x_targets_least x_targets_most x_targets_hand o1_targets_size o1_targets_guards o1_targets_kind o1_targets_saved o1_targets_lost o1_targets_gain o1_targets_gap o1_targets_least o1_targets_most o1_targets_hand).1) ((f_X8_copyFrom x_targets_size x_targets_guards x_targets_kind x_targets_saved x_targets_lost x_targets_gain x_targets_gap x_targets_least x_targets_most x_targets_hand o1_targets_size o1_targets_guards o1_targets_kind o1_targets_saved o1_targets_lost o1_targets_gain o1_targets_gap o1_targets_least o1_targets_most o1_targets_hand).2.1) ((f_X8_copyFrom x_targets_size x_targets_guards x_targets_kind x_targets_saved x_targets_lost x_targets_gain x_targets_gap x_targets_least x_targets_most x_targets_hand o1_targets_size o1_targets_guards o1_targets_kind o1_targets_saved o1_targets_lost o1_targets_gain o1_targets_gap o1_targets_least o1_targets_most o1_targets_hand).2.2.1) ((f_X8_copyFrom x_targets_size x_targets_guards x_targets_kind x_targets_saved x_targets_lost x_targets_gain x_targets_gap x_targets_least x_targets_most x_targets_hand o1_targets_size o1_targets_guards o1_targets_kind o1_targets_saved o1_targets_lost o1_targets_gain o1_targets_gap o1_targets_least o1_targets_most o1_targets_hand).2.2.2.1) ((f_X8_copyFrom x_targets_size x_targets_guards x_targets_kind x_targets_saved x_targets_lost x_targets_gain x_targets_gap x_targets_least x_targets_most x_targets_hand o1_targets_size o1_targets_guards o1_targets_kind o1_targets_saved o1_targets_lost o1_targets_gain o1_targets_gap o1_targets_least o1_targets_most o1_targets_hand).2.2.2.2.1) ((f_X8_copyFrom x_targets_size x_targets_guards x_targets_kind x_targets_saved x_targets_lost x_targets_gain x_targets_gap x_targets_least x_targets_most x_targets_hand o1_targets_size o1_targets_guards o1_targets_kind o1_targets_saved o1_targets_lost o1_targets_gain o1_targets_gap o1_targets_least o1_targets_most o1_targets_hand).2.2.2.2.2.1) ((f_X8_copyFrom x_targets_size x_targets_guards x_targets_kind x_targets_saved x_targets_lost x_targets_gain x_targets_gap x_targets_least x_targets_most x_targets_hand o1_targets_size o1_targets_guards o1_targets_kind o1_targets_saved o1_targets_lost o1_targets_gain o1_targets_gap o1_targets_least o1_targets_most o1_targets_hand).2.2.2.2.2.2.1) ((f_X8_copyFrom x_targets_size x_targets_guards x_targets_kind x_targets_saved x_targets_lost x_targets_gain x_targets_gap x_targets_least x_targets_most x_targets_hand o1_targets_size o1_targets_guards o1_targets_kind o1_targets_saved o1_targets_lost o1_targets_gain o1_targets_gap o1_targets_least o1_targets_most o1_targets_hand).2.2.2.2.2.2.2.1) ((f_X8_copyFrom x_targets_size x_targets_guards x_targets_kind x_targets_saved x_targets_lost x_targets_gain x_targets_gap x_targets_least x_targets_most x_targets_hand o1_targets_size o1_targets_guards o1_targets_kind o1_targets_saved o1_targets_lost o1_targets_gain o1_targets_gap o1_targets_least o1_targets_most o1_targets_hand).2.2.2.2.2.2.2.2.1) ((f_X8_copyFrom x_targets_size x_targets_guards x_targets_kind x_targets_saved x_targets_lost x_targets_gain x_targets_gap x_targets_least x_targets_most x_targets_hand o1_targets_size o1_targets_guards o1_targets_kind o1_targets_saved o1_targets_lost o1_targets_gain o1_targets_gap o1_targets_least o1_targets_most o1_targets_hand).2.2.2.2.2.2.2.2.2) ((f_X5_copyFrom x_roads_size x_roads_barred x_roads_from x_roads_to x_roads_length o1_roads_size o1_roads_barred o1_roads_from o1_roads_to o1_roads_length).1) ((f_X5_copyFrom x_roads_size x_roads_barred x_roads_from x_roads_to x_roads_length o1_roads_size o1_roads_barred o1_roads_from o1_roads_to o1_roads_length).2.1) ((f_X5_copyFrom x_roads_size x_roads_barred x_roads_from x_roads_to x_roads_length o1_roads_size o1_roads_barred o1_roads_from o1_roads_to o1_roads_length).2.2.1) ((f_X5_copyFrom x_roads_size x_roads_barred x_roads_from x_roads_to x_roads_length o1_roads_size o1_roads_barred o1_roads_from o1_roads_to o1_roads_length).2.2.2.1) ((f_X5_copyFrom x_roads_size x_roads_barred x_roads_from x_roads_to x_roads_length o1_roads_size o1_roads_barred o1_roads_from o1_roads_to o1_roads_length).2.2.2.2) ((f_X4_copyFrom x_posts_size x_posts_every o1_posts_size o1_posts_every).1) ((f_X4_copyFrom x_posts_size x_posts_every o1_posts_size o1_posts_every).2) ((f_X2_copyFrom x_haunts_size x_haunts_places x_haunts_weight o1_haunts_size o1_haunts_places o1_haunts_weight).1) ((f_X2_copyFrom x_haunts_size x_haunts_places x_haunts_weight o1_haunts_size o1_haunts_places o1_haunts_weight).2.1) ((f_X2_copyFrom x_haunts_size x_haunts_places x_haunts_weight o1_haunts_size o1_haunts_places o1_haunts_weight).2.2) o1_targets_size o1_targets_guards o1_targets_kind o1_targets_saved o1_targets_lost o1_targets_gain o1_targets_gap o1_targets_least o1_targets_most o1_targets_hand o1_roads_size o1_roads_barred o1_roads_from o1_roads_to o1_roads_length o1_posts_size o1_posts_every o1_haunts_size o1_haunts_places o1_haunts_weight)) C hP hD hS hl.1 2 0 (c_X2_copyFrom l D cI cJ cZ cG a_x_haunts a_x_haunts_places a_x_haunts_weight a_o1_haunts a_o1_haunts_places a_o1_haunts_weight x_haunts_size x_haunts_places x_haunts_weight o1_haunts_size o1_haunts_places o1_haunts_weight _ rfl) gX6_copyFrom_X2_copyFrom rfl rfl rfl (by decide +kernel) ⟨Nat.le_of_ble_eq_true rfl, Nat.le_of_ble_eq_true rfl⟩ rfl rfl rfl (Nat.le_of_ble_eq_true rfl) rfl dX6_copyFrom_41 [16, 17, 18, 35, 36, 37] [0, 1, 2, 3, 4, 5, 6, 7, 8, 9, 10, 11, 12, 13, 14, 15, 19, 20, 21, 22, 23, 24, 25, 26, 27, 28, 29, 30, 31, 32, 33, 34] [0, 1, 2, 3, 4, 5, 6, 7, 8, 9, 10, 11, 12, 13, 14, 15, 32, 33, 34, 16, 17, 18, 19, 20, 21, 22, 23, 24, 25, 26, 27, 28, 29, 30, 31, 35, 36, 37] rfl rfl rfl rfl (by decide) rfl rfl rfl (fun H locs hP hD hS => ?_)
  obtain rfl := h
  exact g_vret C hP hD hS dX6_copyFrom_44
theorem in_X7_isMissing_X7 : ∀ w ∈ wsX70, w ∈ wsX7_isMissing := by decide +kernel
theorem mb_X7_isMissing_0 : Cond.fieldLink RX7 15 "GuardDesk$Sheets" "size" "[I" ∈ wsX7_isMissing := List.mem_of_getElem? (i := 1) rfl
set_option maxRecDepth 100000 in
set_option maxHeartbeats 4000000 in
theorem c_X7_isMissing (l : Launch) (D : va_G) (cI cJ cZ cG : ClassId) (a_x a_x_sort a_x_size a_x_numbers : Nat) (x_size : (Nat → Int32)) (p1 : Int32) (q : Int32) (h : f_X7_isMissing x_size p1 = some q) : gMet l yX7_isMissing wsX7_isMissing rm_X7_isMissing [.ref a_x, .int p1] (w_X7_isMissing cI cJ cZ cG a_x a_x_sort a_x_size a_x_numbers x_size) (w_X7_isMissing cI cJ cZ cG a_x a_x_sort a_x_size a_x_numbers x_size) (some (.int q)) D cI cJ cZ cG := by
  refine g_enter (cc := cX7_isMissing) (nL := 2) (ret := (some .boolean)) (by decide) rfl (Nat.le_of_ble_eq_true rfl) ?_
  intro p e s m below meth c A C H locs ls hP hD hS hl
  obtain ⟨hx, hb, hr, hml, hown, hts, hlk, hgk, hA⟩ := id C
  have hK := hgk.1
  have hl : lv_has ls 2 [(0, .ref a_x), (1, .int p1)] := hl
  unfold f_X7_isMissing at h
  refine lv_aload_n hx hb dX7_isMissing_0 rfl (lv_at hl 0 rfl) ?_
  refine va_get (D := D) (ci := 7) (v := .ref a_x_size) (C := RX7) (T := TX7) (N := 3) hx hb hts in_X7_isMissing_X7 hown hK hP 0 rfl rfl 1 (by decide) (hts _ mb_X7_isMissing_0) (fun _ h9 => h9) rfl dX7_isMissing_1 ?_
  refine lv_iload_n hx hb dX7_isMissing_4 rfl (lv_at hl 1 rfl) ?_
  obtain ⟨i1, h⟩ := gI_some h
  refine va_iald hx hb hK hP 1 0 rfl rfl i1 dX7_isMissing_5 ?_
  refine lv_if_ge (tgt := 13) hx hb dX7_isMissing_6 (by decide) (fun c2 => ?_) (fun c2 => ?_)
  · have h := ift c2 h
    refine lv_iconst (v := 0) hx hb dX7_isMissing_13 (by decide) ?_
    obtain rfl := Option.some.inj h
    exact g_zret C hP hD hS (nz_b (Or.inl rfl)) dX7_isMissing_14
  · have h := iff_ c2 h
    refine lv_iconst (v := 1) hx hb dX7_isMissing_9 (by decide) ?_
    refine lv_goto (tgt := 14) hx hb dX7_isMissing_10 (by decide) ?_
    obtain rfl := Option.some.inj h
    exact g_zret C hP hD hS (nz_b (Or.inr rfl)) dX7_isMissing_14
theorem in_X7_renew_X7 : ∀ w ∈ wsX70, w ∈ wsX7_renew := by decide +kernel
theorem mb_X7_renew_0 : Cond.fieldLink RX7 9 "GuardDesk$Sheets" "sort" "[I" ∈ wsX7_renew := List.mem_of_getElem? (i := 1) rfl
theorem mb_X7_renew_1 : Cond.fieldLink RX7 15 "GuardDesk$Sheets" "size" "[I" ∈ wsX7_renew := List.mem_of_getElem? (i := 2) rfl
theorem mb_X7_renew_2 : Cond.fieldLink RX7 20 "GuardDesk$Sheets" "numbers" "[[I" ∈ wsX7_renew := List.mem_of_getElem? (i := 3) rfl
set_option maxRecDepth 100000 in
set_option maxHeartbeats 4000000 in
theorem c_X7_renew (l : Launch) (D : va_G) (cI cJ cZ cG : ClassId) (a_x a_x_sort a_x_size a_x_numbers a_x_numbers_0 a_x_numbers_1 a_x_numbers_2 a_x_numbers_3 : Nat) (x_sort : (Nat → Int32)) (x_size : (Nat → Int32)) (x_numbers_0 : (Nat → Int32)) (x_numbers_1 : (Nat → Int32)) (x_numbers_2 : (Nat → Int32)) (x_numbers_3 : (Nat → Int32)) (p1 : Int32) (p2 : Int32) (p3 : Int32) (N : Nat) (q : (Nat → Int32) × (Nat → Int32) × (Nat → Int32) × (Nat → Int32) × (Nat → Int32) × (Nat → Int32)) (h : f_X7_renew N x_sort x_size x_numbers_0 x_numbers_1 x_numbers_2 x_numbers_3 p1 p2 p3 = some q) : gMet l yX7_renew wsX7_renew rm_X7_renew [.ref a_x, .int p1, .int p2, .int p3] (w_X7_renew cI cJ cZ cG a_x a_x_sort a_x_size a_x_numbers a_x_numbers_0 a_x_numbers_1 a_x_numbers_2 a_x_numbers_3 x_sort x_size x_numbers_0 x_numbers_1 x_numbers_2 x_numbers_3) (w_X7_renew cI cJ cZ cG a_x a_x_sort a_x_size a_x_numbers a_x_numbers_0 a_x_numbers_1 a_x_numbers_2 a_x_numbers_3 q.1 q.2.1 q.2.2.1 q.2.2.2.1 q.2.2.2.2.1 q.2.2.2.2.2) none D cI cJ cZ cG := by
  refine g_enter (cc := cX7_renew) (nL := 4) (ret := none) (by decide) rfl (Nat.le_of_ble_eq_true rfl) ?_
  intro p e s m below meth c A C H locs ls hP hD hS hl
  obtain ⟨hx, hb, hr, hml, hown, hts, hlk, hgk, hA⟩ := id C
  have hK := hgk.1
  have hl : lv_has ls 4 [(0, .ref a_x), (1, .int p1), (2, .int p2), (3, .int p3)] := hl
  unfold f_X7_renew at h
  refine lv_aload_n hx hb dX7_renew_0 rfl (lv_at hl 0 rfl) ?_
  refine va_get (D := D) (ci := 7) (v := .ref a_x_sort) (C := RX7) (T := TX7) (N := 3) hx hb hts in_X7_renew_X7 hown hK hP 0 rfl rfl 0 (by decide) (hts _ mb_X7_renew_0) (fun _ h9 => h9) rfl dX7_renew_1 ?_
  refine lv_iload_n hx hb dX7_renew_4 rfl (lv_at hl 1 rfl) ?_
  refine lv_iload_n hx hb dX7_renew_5 rfl (lv_at hl 2 rfl) ?_
  obtain ⟨i1, h⟩ := gI_some h
  refine va_iast hx hb hK hP hD hS 1 0 rfl rfl i1 dX7_renew_6 (fun H locs hP hD hS => ?_)
  have hP : va_P D vwCl (w_X7_renew cI cJ cZ cG a_x a_x_sort a_x_size a_x_numbers a_x_numbers_0 a_x_numbers_1 a_x_numbers_2 a_x_numbers_3 (upd x_sort p1.toNatClampNeg p2) x_size x_numbers_0 x_numbers_1 x_numbers_2 x_numbers_3) H := hP
  have hD : va_D A (w_X7_renew cI cJ cZ cG a_x a_x_sort a_x_size a_x_numbers a_x_numbers_0 a_x_numbers_1 a_x_numbers_2 a_x_numbers_3 (upd x_sort p1.toNatClampNeg p2) x_size x_numbers_0 x_numbers_1 x_numbers_2 x_numbers_3) := hD
  refine lv_aload_n hx hb dX7_renew_7 rfl (lv_at hl 0 rfl) ?_
  refine va_get (D := D) (ci := 7) (v := .ref a_x_size) (C := RX7) (T := TX7) (N := 3) hx hb hts in_X7_renew_X7 hown hK hP 0 rfl rfl 1 (by decide) (hts _ mb_X7_renew_1) (fun _ h9 => h9) rfl dX7_renew_8 ?_
  refine lv_iload_n hx hb dX7_renew_11 rfl (lv_at hl 1 rfl) ?_
  refine lv_iload_n hx hb dX7_renew_12 rfl (lv_at hl 3 rfl) ?_
  obtain ⟨i2, h⟩ := gI_some h
  refine va_iast hx hb hK hP hD hS 2 0 rfl rfl i2 dX7_renew_13 (fun H locs hP hD hS => ?_)
  have hP : va_P D vwCl (w_X7_renew cI cJ cZ cG a_x a_x_sort a_x_size a_x_numbers a_x_numbers_0 a_x_numbers_1 a_x_numbers_2 a_x_numbers_3 (upd x_sort p1.toNatClampNeg p2) (upd x_size p1.toNatClampNeg p3) x_numbers_0 x_numbers_1 x_numbers_2 x_numbers_3) H := hP
  have hD : va_D A (w_X7_renew cI cJ cZ cG a_x a_x_sort a_x_size a_x_numbers a_x_numbers_0 a_x_numbers_1 a_x_numbers_2 a_x_numbers_3 (upd x_sort p1.toNatClampNeg p2) (upd x_size p1.toNatClampNeg p3) x_numbers_0 x_numbers_1 x_numbers_2 x_numbers_3) := hD
  refine lv_aload_n hx hb dX7_renew_14 rfl (lv_at hl 0 rfl) ?_
  refine va_get (D := D) (ci := 7) (v := .ref a_x_numbers) (C := RX7) (T := TX7) (N := 3) hx hb hts in_X7_renew_X7 hown hK hP 0 rfl rfl 2 (by decide) (hts _ mb_X7_renew_2) (fun _ h9 => h9) rfl dX7_renew_15 ?_
  refine lv_iload_n hx hb dX7_renew_18 rfl (lv_at hl 1 rfl) ?_
  obtain ⟨i3, h⟩ := gI_some h
  by_cases e3_0 : p1 = 0
  · have h := ift e3_0 h
    refine g_aldr (r := a_x_numbers_0) C hP 3 rfl i3 (by rw [e3_0]; rfl) dX7_renew_19 ?_
    refine lv_iconst (v := 0) hx hb dX7_renew_20 (by decide) ?_
    obtain ⟨q4, e4, h⟩ := bd_some h
    refine g_callS (index := 23) (maxL := 4) (n := 2) (As := [.ref a_x_numbers_0, .int 0]) (rest := []) (st1 := []) (ws2 := (w_X7_renew cI cJ cZ cG a_x a_x_sort a_x_size a_x_numbers a_x_numbers_0 a_x_numbers_1 a_x_numbers_2 a_x_numbers_3 (upd x_sort p1.toNatClampNeg p2) (upd x_size p1.toNatClampNeg p3) q4 x_numbers_1 x_numbers_2 x_numbers_3)) C hP hD hS hl.1 (c_J7_fill_53178 l D cI cJ cZ cG a_x_numbers_0 40 x_numbers_0 0 N q4 e4) gX7_renew_J7_fill_53178 rfl rfl rfl (by decide +kernel) ⟨Nat.le_of_ble_eq_true rfl, Nat.le_of_ble_eq_true rfl⟩ rfl (Nat.le_of_ble_eq_true rfl) rfl dX7_renew_21 [4] [0, 1, 2, 3, 5, 6, 7] [0, 1, 2, 3, 7, 4, 5, 6] rfl rfl rfl rfl (by decide) rfl rfl rfl (fun H locs hP hD hS => ?_)
    obtain rfl := Option.some.inj h
    exact g_vret C hP hD hS dX7_renew_24
  have h := iff_ e3_0 h
  by_cases e3_1 : p1 = 1
  · have h := ift e3_1 h
    refine g_aldr (r := a_x_numbers_1) C hP 3 rfl i3 (by rw [e3_1]; rfl) dX7_renew_19 ?_
    refine lv_iconst (v := 0) hx hb dX7_renew_20 (by decide) ?_
    obtain ⟨q5, e5, h⟩ := bd_some h
    refine g_callS (index := 23) (maxL := 4) (n := 2) (As := [.ref a_x_numbers_1, .int 0]) (rest := []) (st1 := []) (ws2 := (w_X7_renew cI cJ cZ cG a_x a_x_sort a_x_size a_x_numbers a_x_numbers_0 a_x_numbers_1 a_x_numbers_2 a_x_numbers_3 (upd x_sort p1.toNatClampNeg p2) (upd x_size p1.toNatClampNeg p3) x_numbers_0 q5 x_numbers_2 x_numbers_3)) C hP hD hS hl.1 (c_J7_fill_53178 l D cI cJ cZ cG a_x_numbers_1 40 x_numbers_1 0 N q5 e5) gX7_renew_J7_fill_53178 rfl rfl rfl (by decide +kernel) ⟨Nat.le_of_ble_eq_true rfl, Nat.le_of_ble_eq_true rfl⟩ rfl (Nat.le_of_ble_eq_true rfl) rfl dX7_renew_21 [5] [0, 1, 2, 3, 4, 6, 7] [0, 1, 2, 3, 4, 7, 5, 6] rfl rfl rfl rfl (by decide) rfl rfl rfl (fun H locs hP hD hS => ?_)
    obtain rfl := Option.some.inj h
    exact g_vret C hP hD hS dX7_renew_24
  have h := iff_ e3_1 h
  by_cases e3_2 : p1 = 2
  · have h := ift e3_2 h
    refine g_aldr (r := a_x_numbers_2) C hP 3 rfl i3 (by rw [e3_2]; rfl) dX7_renew_19 ?_
    refine lv_iconst (v := 0) hx hb dX7_renew_20 (by decide) ?_
    obtain ⟨q6, e6, h⟩ := bd_some h
    refine g_callS (index := 23) (maxL := 4) (n := 2) (As := [.ref a_x_numbers_2, .int 0]) (rest := []) (st1 := []) (ws2 := (w_X7_renew cI cJ cZ cG a_x a_x_sort a_x_size a_x_numbers a_x_numbers_0 a_x_numbers_1 a_x_numbers_2 a_x_numbers_3 (upd x_sort p1.toNatClampNeg p2) (upd x_size p1.toNatClampNeg p3) x_numbers_0 x_numbers_1 q6 x_numbers_3)) C hP hD hS hl.1 (c_J7_fill_53178 l D cI cJ cZ cG a_x_numbers_2 40 x_numbers_2 0 N q6 e6) gX7_renew_J7_fill_53178 rfl rfl rfl (by decide +kernel) ⟨Nat.le_of_ble_eq_true rfl, Nat.le_of_ble_eq_true rfl⟩ rfl (Nat.le_of_ble_eq_true rfl) rfl dX7_renew_21 [6] [0, 1, 2, 3, 4, 5, 7] [0, 1, 2, 3, 4, 5, 7, 6] rfl rfl rfl rfl (by decide) rfl rfl rfl (fun H locs hP hD hS => ?_)
    obtain rfl := Option.some.inj h
    exact g_vret C hP hD hS dX7_renew_24
  have h := iff_ e3_2 h
  have e3_3 := g_in4 i3 e3_0 e3_1 e3_2
  refine g_aldr (r := a_x_numbers_3) C hP 3 rfl i3 (by rw [e3_3]; rfl) dX7_renew_19 ?_
  refine lv_iconst (v := 0) hx hb dX7_renew_20 (by decide) ?_
  obtain ⟨q7, e7, h⟩ := bd_some h
  refine g_callS (index := 23) (maxL := 4) (n := 2) (As := [.ref a_x_numbers_3, .int 0]) (rest := []) (st1 := []) (ws2 := (w_X7_renew cI cJ cZ cG a_x a_x_sort a_x_size a_x_numbers a_x_numbers_0 a_x_numbers_1 a_x_numbers_2 a_x_numbers_3 (upd x_sort p1.toNatClampNeg p2) (upd x_size p1.toNatClampNeg p3) x_numbers_0 x_numbers_1 x_numbers_2 q7)) C hP hD hS hl.1 (c_J7_fill_53178 l D cI cJ cZ cG a_x_numbers_3 40 x_numbers_3 0 N q7 e7) gX7_renew_J7_fill_53178 rfl rfl rfl (by decide +kernel) ⟨Nat.le_of_ble_eq_true rfl, Nat.le_of_ble_eq_true rfl⟩ rfl (Nat.le_of_ble_eq_true rfl) rfl dX7_renew_21 [7] [0, 1, 2, 3, 4, 5, 6] [0, 1, 2, 3, 4, 5, 6, 7] rfl rfl rfl rfl (by decide) rfl rfl rfl (fun H locs hP hD hS => ?_)
  obtain rfl := Option.some.inj h
  exact g_vret C hP hD hS dX7_renew_24
set_option maxRecDepth 100000 in
set_option maxHeartbeats 4000000 in
theorem c_X7_narrowed (l : Launch) (D : va_G) (cI cJ cZ cG : ClassId) (p0 : Int32) (p1 : Int32) (q : Int32) (h : f_X7_narrowed p0 p1 = q) : gMet l yX7_narrowed wsX7_narrowed rm_X7_narrowed [.int p0, .int p1] (w_X7_narrowed cI cJ cZ cG) (w_X7_narrowed cI cJ cZ cG) (some (.int q)) D cI cJ cZ cG := by
  refine g_enter (cc := cX7_narrowed) (nL := 2) (ret := (some .int)) (by decide) rfl (Nat.le_of_ble_eq_true rfl) ?_
  intro p e s m below meth c A C H locs ls hP hD hS hl
  obtain ⟨hx, hb, hr, hml, hown, hts, hlk, hgk, hA⟩ := id C
  have hK := hgk.1
  have hl : lv_has ls 2 [(0, .int p0), (1, .int p1)] := hl
  unfold f_X7_narrowed at h
  refine lv_iload_n hx hb dX7_narrowed_0 rfl (lv_at hl 1 rfl) ?_
  by_cases c1_0 : p1 = 0
  · have h := ift c1_0 h
    refine lv_lookup (tgt := 28) (off := 27) hx hb dX7_narrowed_1 (by decide) (by rw [c1_0] <;> rfl) (by decide) ?_
    refine lv_iload_n hx hb dX7_narrowed_28 rfl (lv_at hl 0 rfl) ?_
    refine lv_i2b (v := p0.toInt8.toInt32) hx hb dX7_narrowed_29 rfl ?_
    obtain rfl := h
    exact g_iret C hP hD hS dX7_narrowed_30
  have h := iff_ c1_0 h
  by_cases c1_1 : p1 = 1
  · have h := ift c1_1 h
    refine lv_lookup (tgt := 31) (off := 30) hx hb dX7_narrowed_1 (by decide) (by rw [c1_1] <;> rfl) (by decide) ?_
    refine lv_iload_n hx hb dX7_narrowed_31 rfl (lv_at hl 0 rfl) ?_
    refine lv_i2s (v := p0.toInt16.toInt32) hx hb dX7_narrowed_32 rfl ?_
    obtain rfl := h
    exact g_iret C hP hD hS dX7_narrowed_33
  have h := iff_ c1_1 h
  refine lv_lookup (tgt := 34) (off := 33) hx hb dX7_narrowed_1 (by decide) (by rw [show (#[(0, 27), (1, 30)] : Array (Int × Int)).toList = [(0, 27), (1, 30)] from rfl, lv_osw c1_0 (show (0 : Int32).toInt = 0 from rfl), lv_osw c1_1 (show (1 : Int32).toInt = 1 from rfl)] <;> rfl) (by decide) ?_
  refine lv_iload_n hx hb dX7_narrowed_34 rfl (lv_at hl 0 rfl) ?_
  obtain rfl := h
  exact g_iret C hP hD hS dX7_narrowed_35
theorem in_X7_replace_X7 : ∀ w ∈ wsX70, w ∈ wsX7_replace := by decide +kernel
theorem mb_X7_replace_0 : Cond.fieldLink RX7 20 "GuardDesk$Sheets" "numbers" "[[I" ∈ wsX7_replace := List.mem_of_getElem? (i := 1) rfl
theorem mb_X7_replace_1 : Cond.fieldLink RX7 9 "GuardDesk$Sheets" "sort" "[I" ∈ wsX7_replace := List.mem_of_getElem? (i := 2) rfl
set_option maxRecDepth 100000 in
set_option maxHeartbeats 4000000 in
theorem c_X7_replace (l : Launch) (D : va_G) (cI cJ cZ cG : ClassId) (a_x a_x_sort a_x_size a_x_numbers a_x_numbers_0 a_x_numbers_1 a_x_numbers_2 a_x_numbers_3 : Nat) (x_sort : (Nat → Int32)) (x_numbers_0 : (Nat → Int32)) (x_numbers_1 : (Nat → Int32)) (x_numbers_2 : (Nat → Int32)) (x_numbers_3 : (Nat → Int32)) (p1 : Int32) (p2 : Int32) (p3 : Int32) (q : Int32 × (Nat → Int32) × (Nat → Int32) × (Nat → Int32) × (Nat → Int32)) (h : f_X7_replace x_sort x_numbers_0 x_numbers_1 x_numbers_2 x_numbers_3 p1 p2 p3 = some q) : gMet l yX7_replace wsX7_replace rm_X7_replace [.ref a_x, .int p1, .int p2, .int p3] (w_X7_replace cI cJ cZ cG a_x a_x_sort a_x_size a_x_numbers a_x_numbers_0 a_x_numbers_1 a_x_numbers_2 a_x_numbers_3 x_sort x_numbers_0 x_numbers_1 x_numbers_2 x_numbers_3) (w_X7_replace cI cJ cZ cG a_x a_x_sort a_x_size a_x_numbers a_x_numbers_0 a_x_numbers_1 a_x_numbers_2 a_x_numbers_3 x_sort q.2.1 q.2.2.1 q.2.2.2.1 q.2.2.2.2) (some (.int q.1)) D cI cJ cZ cG := by
  refine g_enter (cc := cX7_replace) (nL := 5) (ret := (some .int)) (by decide) rfl (Nat.le_of_ble_eq_true rfl) ?_
  intro p e s m below meth c A C H locs ls hP hD hS hl
  obtain ⟨hx, hb, hr, hml, hown, hts, hlk, hgk, hA⟩ := id C
  have hK := hgk.1
  have hl : lv_has ls 5 [(0, .ref a_x), (1, .int p1), (2, .int p2), (3, .int p3)] := hl
  unfold f_X7_replace at h
  refine lv_aload_n hx hb dX7_replace_0 rfl (lv_at hl 0 rfl) ?_
  refine va_get (D := D) (ci := 7) (v := .ref a_x_numbers) (C := RX7) (T := TX7) (N := 3) hx hb hts in_X7_replace_X7 hown hK hP 0 rfl rfl 2 (by decide) (hts _ mb_X7_replace_0) (fun _ h9 => h9) rfl dX7_replace_1 ?_
  refine lv_iload_n hx hb dX7_replace_4 rfl (lv_at hl 1 rfl) ?_
  obtain ⟨i1, h⟩ := gI_some h
  by_cases e1_0 : p1 = 0
  · have h := ift e1_0 h
    refine g_aldr (r := a_x_numbers_0) C hP 2 rfl i1 (by rw [e1_0]; rfl) dX7_replace_5 ?_
    refine lv_iload_n hx hb dX7_replace_6 rfl (lv_at hl 2 rfl) ?_
    obtain ⟨i2, h⟩ := gI_some h
    refine va_iald hx hb hK hP 3 0 rfl rfl i2 dX7_replace_7 ?_
    refine lv_istore (lv' := [(4, .int (x_numbers_0 p2.toNatClampNeg)), (0, .ref a_x), (1, .int p1), (2, .int p2), (3, .int p3)]) hx hb dX7_replace_8 hl (by decide) rfl (fun ls hl => ?_)
    refine lv_aload_n hx hb dX7_replace_10 rfl (lv_at hl 1 rfl) ?_
    refine va_get (D := D) (ci := 7) (v := .ref a_x_numbers) (C := RX7) (T := TX7) (N := 3) hx hb hts in_X7_replace_X7 hown hK hP 0 rfl rfl 2 (by decide) (hts _ mb_X7_replace_0) (fun _ h9 => h9) rfl dX7_replace_11 ?_
    refine lv_iload_n hx hb dX7_replace_14 rfl (lv_at hl 2 rfl) ?_
    obtain ⟨i3, h⟩ := gI_some h
    by_cases e3_0 : p1 = 0
    · have h := ift e3_0 h
      refine g_aldr (r := a_x_numbers_0) C hP 2 rfl i3 (by rw [e3_0]; rfl) dX7_replace_15 ?_
      refine lv_iload_n hx hb dX7_replace_16 rfl (lv_at hl 3 rfl) ?_
      refine lv_iload_n hx hb dX7_replace_17 rfl (lv_at hl 4 rfl) ?_
      refine lv_aload_n hx hb dX7_replace_18 rfl (lv_at hl 1 rfl) ?_
      refine va_get (D := D) (ci := 7) (v := .ref a_x_sort) (C := RX7) (T := TX7) (N := 3) hx hb hts in_X7_replace_X7 hown hK hP 0 rfl rfl 0 (by decide) (hts _ mb_X7_replace_1) (fun _ h9 => h9) rfl dX7_replace_19 ?_
      refine lv_iload_n hx hb dX7_replace_22 rfl (lv_at hl 2 rfl) ?_
      obtain ⟨i4, h⟩ := gI_some h
      refine va_iald hx hb hK hP 1 0 rfl rfl i4 dX7_replace_23 ?_
      refine g_callS0 (index := 29) (maxL := 2) (n := 2) (As := [.int p3, .int (x_sort p1.toNatClampNeg)]) (rest := [.int p2, .ref a_x_numbers_0]) (st1 := [.int (f_X7_narrowed p3 (x_sort p1.toNatClampNeg)), .int p2, .ref a_x_numbers_0]) C hP hS hl.1 (c_X7_narrowed l D cI cJ cZ cG p3 (x_sort p1.toNatClampNeg) _ rfl) gX7_replace_X7_narrowed rfl rfl rfl (by decide +kernel) ⟨Nat.le_of_ble_eq_true rfl, Nat.le_of_ble_eq_true rfl⟩ rfl (Nat.le_of_ble_eq_true rfl) rfl dX7_replace_24 rfl (fun H locs hP hS => ?_)
      obtain ⟨i5, h⟩ := gI_some h
      refine va_iast hx hb hK hP hD hS 3 0 rfl rfl i5 dX7_replace_27 (fun H locs hP hD hS => ?_)
      have hP : va_P D vwCl (w_X7_replace cI cJ cZ cG a_x a_x_sort a_x_size a_x_numbers a_x_numbers_0 a_x_numbers_1 a_x_numbers_2 a_x_numbers_3 x_sort (upd x_numbers_0 p2.toNatClampNeg (f_X7_narrowed p3 (x_sort p1.toNatClampNeg))) x_numbers_1 x_numbers_2 x_numbers_3) H := hP
      have hD : va_D A (w_X7_replace cI cJ cZ cG a_x a_x_sort a_x_size a_x_numbers a_x_numbers_0 a_x_numbers_1 a_x_numbers_2 a_x_numbers_3 x_sort (upd x_numbers_0 p2.toNatClampNeg (f_X7_narrowed p3 (x_sort p1.toNatClampNeg))) x_numbers_1 x_numbers_2 x_numbers_3) := hD
      refine lv_iload hx hb dX7_replace_28 (lv_at hl 0 rfl) ?_
      obtain rfl := Option.some.inj h
      exact g_iret C hP hD hS dX7_replace_30
    have h := iff_ e3_0 h
    by_cases e3_1 : p1 = 1
    · have h := ift e3_1 h
      refine g_aldr (r := a_x_numbers_1) C hP 2 rfl i3 (by rw [e3_1]; rfl) dX7_replace_15 ?_
      refine lv_iload_n hx hb dX7_replace_16 rfl (lv_at hl 3 rfl) ?_
      refine lv_iload_n hx hb dX7_replace_17 rfl (lv_at hl 4 rfl) ?_
      refine lv_aload_n hx hb dX7_replace_18 rfl (lv_at hl 1 rfl) ?_
      refine va_get (D := D) (ci := 7) (v := .ref a_x_sort) (C := RX7) (T := TX7) (N := 3) hx hb hts in_X7_replace_X7 hown hK hP 0 rfl rfl 0 (by decide) (hts _ mb_X7_replace_1) (fun _ h9 => h9) rfl dX7_replace_19 ?_
      refine lv_iload_n hx hb dX7_replace_22 rfl (lv_at hl 2 rfl) ?_
      obtain ⟨i6, h⟩ := gI_some h
      refine va_iald hx hb hK hP 1 0 rfl rfl i6 dX7_replace_23 ?_
      refine g_callS0 (index := 29) (maxL := 2) (n := 2) (As := [.int p3, .int (x_sort p1.toNatClampNeg)]) (rest := [.int p2, .ref a_x_numbers_1]) (st1 := [.int (f_X7_narrowed p3 (x_sort p1.toNatClampNeg)), .int p2, .ref a_x_numbers_1]) C hP hS hl.1 (c_X7_narrowed l D cI cJ cZ cG p3 (x_sort p1.toNatClampNeg) _ rfl) gX7_replace_X7_narrowed rfl rfl rfl (by decide +kernel) ⟨Nat.le_of_ble_eq_true rfl, Nat.le_of_ble_eq_true rfl⟩ rfl (Nat.le_of_ble_eq_true rfl) rfl dX7_replace_24 rfl (fun H locs hP hS => ?_)
      obtain ⟨i7, h⟩ := gI_some h
      refine va_iast hx hb hK hP hD hS 4 0 rfl rfl i7 dX7_replace_27 (fun H locs hP hD hS => ?_)
      have hP : va_P D vwCl (w_X7_replace cI cJ cZ cG a_x a_x_sort a_x_size a_x_numbers a_x_numbers_0 a_x_numbers_1 a_x_numbers_2 a_x_numbers_3 x_sort x_numbers_0 (upd x_numbers_1 p2.toNatClampNeg (f_X7_narrowed p3 (x_sort p1.toNatClampNeg))) x_numbers_2 x_numbers_3) H := hP
      have hD : va_D A (w_X7_replace cI cJ cZ cG a_x a_x_sort a_x_size a_x_numbers a_x_numbers_0 a_x_numbers_1 a_x_numbers_2 a_x_numbers_3 x_sort x_numbers_0 (upd x_numbers_1 p2.toNatClampNeg (f_X7_narrowed p3 (x_sort p1.toNatClampNeg))) x_numbers_2 x_numbers_3) := hD
      refine lv_iload hx hb dX7_replace_28 (lv_at hl 0 rfl) ?_
      obtain rfl := Option.some.inj h
      exact g_iret C hP hD hS dX7_replace_30
    have h := iff_ e3_1 h
    by_cases e3_2 : p1 = 2
    · have h := ift e3_2 h
      refine g_aldr (r := a_x_numbers_2) C hP 2 rfl i3 (by rw [e3_2]; rfl) dX7_replace_15 ?_
      refine lv_iload_n hx hb dX7_replace_16 rfl (lv_at hl 3 rfl) ?_
      refine lv_iload_n hx hb dX7_replace_17 rfl (lv_at hl 4 rfl) ?_
      refine lv_aload_n hx hb dX7_replace_18 rfl (lv_at hl 1 rfl) ?_
      refine va_get (D := D) (ci := 7) (v := .ref a_x_sort) (C := RX7) (T := TX7) (N := 3) hx hb hts in_X7_replace_X7 hown hK hP 0 rfl rfl 0 (by decide) (hts _ mb_X7_replace_1) (fun _ h9 => h9) rfl dX7_replace_19 ?_
      refine lv_iload_n hx hb dX7_replace_22 rfl (lv_at hl 2 rfl) ?_
      obtain ⟨i8, h⟩ := gI_some h
      refine va_iald hx hb hK hP 1 0 rfl rfl i8 dX7_replace_23 ?_
      refine g_callS0 (index := 29) (maxL := 2) (n := 2) (As := [.int p3, .int (x_sort p1.toNatClampNeg)]) (rest := [.int p2, .ref a_x_numbers_2]) (st1 := [.int (f_X7_narrowed p3 (x_sort p1.toNatClampNeg)), .int p2, .ref a_x_numbers_2]) C hP hS hl.1 (c_X7_narrowed l D cI cJ cZ cG p3 (x_sort p1.toNatClampNeg) _ rfl) gX7_replace_X7_narrowed rfl rfl rfl (by decide +kernel) ⟨Nat.le_of_ble_eq_true rfl, Nat.le_of_ble_eq_true rfl⟩ rfl (Nat.le_of_ble_eq_true rfl) rfl dX7_replace_24 rfl (fun H locs hP hS => ?_)
      obtain ⟨i9, h⟩ := gI_some h
      refine va_iast hx hb hK hP hD hS 5 0 rfl rfl i9 dX7_replace_27 (fun H locs hP hD hS => ?_)
      have hP : va_P D vwCl (w_X7_replace cI cJ cZ cG a_x a_x_sort a_x_size a_x_numbers a_x_numbers_0 a_x_numbers_1 a_x_numbers_2 a_x_numbers_3 x_sort x_numbers_0 x_numbers_1 (upd x_numbers_2 p2.toNatClampNeg (f_X7_narrowed p3 (x_sort p1.toNatClampNeg))) x_numbers_3) H := hP
      have hD : va_D A (w_X7_replace cI cJ cZ cG a_x a_x_sort a_x_size a_x_numbers a_x_numbers_0 a_x_numbers_1 a_x_numbers_2 a_x_numbers_3 x_sort x_numbers_0 x_numbers_1 (upd x_numbers_2 p2.toNatClampNeg (f_X7_narrowed p3 (x_sort p1.toNatClampNeg))) x_numbers_3) := hD
      refine lv_iload hx hb dX7_replace_28 (lv_at hl 0 rfl) ?_
      obtain rfl := Option.some.inj h
      exact g_iret C hP hD hS dX7_replace_30
    have h := iff_ e3_2 h
    have e3_3 := g_in4 i3 e3_0 e3_1 e3_2
    refine g_aldr (r := a_x_numbers_3) C hP 2 rfl i3 (by rw [e3_3]; rfl) dX7_replace_15 ?_
    refine lv_iload_n hx hb dX7_replace_16 rfl (lv_at hl 3 rfl) ?_
    refine lv_iload_n hx hb dX7_replace_17 rfl (lv_at hl 4 rfl) ?_
    refine lv_aload_n hx hb dX7_replace_18 rfl (lv_at hl 1 rfl) ?_
    refine va_get (D := D) (ci := 7) (v := .ref a_x_sort) (C := RX7) (T := TX7) (N := 3) hx hb hts in_X7_replace_X7 hown hK hP 0 rfl rfl 0 (by decide) (hts _ mb_X7_replace_1) (fun _ h9 => h9) rfl dX7_replace_19 ?_
    refine lv_iload_n hx hb dX7_replace_22 rfl (lv_at hl 2 rfl) ?_
    obtain ⟨i10, h⟩ := gI_some h
    refine va_iald hx hb hK hP 1 0 rfl rfl i10 dX7_replace_23 ?_
    refine g_callS0 (index := 29) (maxL := 2) (n := 2) (As := [.int p3, .int (x_sort p1.toNatClampNeg)]) (rest := [.int p2, .ref a_x_numbers_3]) (st1 := [.int (f_X7_narrowed p3 (x_sort p1.toNatClampNeg)), .int p2, .ref a_x_numbers_3]) C hP hS hl.1 (c_X7_narrowed l D cI cJ cZ cG p3 (x_sort p1.toNatClampNeg) _ rfl) gX7_replace_X7_narrowed rfl rfl rfl (by decide +kernel) ⟨Nat.le_of_ble_eq_true rfl, Nat.le_of_ble_eq_true rfl⟩ rfl (Nat.le_of_ble_eq_true rfl) rfl dX7_replace_24 rfl (fun H locs hP hS => ?_)
    obtain ⟨i11, h⟩ := gI_some h
    refine va_iast hx hb hK hP hD hS 6 0 rfl rfl i11 dX7_replace_27 (fun H locs hP hD hS => ?_)
    have hP : va_P D vwCl (w_X7_replace cI cJ cZ cG a_x a_x_sort a_x_size a_x_numbers a_x_numbers_0 a_x_numbers_1 a_x_numbers_2 a_x_numbers_3 x_sort x_numbers_0 x_numbers_1 x_numbers_2 (upd x_numbers_3 p2.toNatClampNeg (f_X7_narrowed p3 (x_sort p1.toNatClampNeg)))) H := hP
    have hD : va_D A (w_X7_replace cI cJ cZ cG a_x a_x_sort a_x_size a_x_numbers a_x_numbers_0 a_x_numbers_1 a_x_numbers_2 a_x_numbers_3 x_sort x_numbers_0 x_numbers_1 x_numbers_2 (upd x_numbers_3 p2.toNatClampNeg (f_X7_narrowed p3 (x_sort p1.toNatClampNeg)))) := hD
    refine lv_iload hx hb dX7_replace_28 (lv_at hl 0 rfl) ?_
    obtain rfl := Option.some.inj h
    exact g_iret C hP hD hS dX7_replace_30
  have h := iff_ e1_0 h
  by_cases e1_1 : p1 = 1
  · have h := ift e1_1 h
    refine g_aldr (r := a_x_numbers_1) C hP 2 rfl i1 (by rw [e1_1]; rfl) dX7_replace_5 ?_
    refine lv_iload_n hx hb dX7_replace_6 rfl (lv_at hl 2 rfl) ?_
    obtain ⟨i12, h⟩ := gI_some h
    refine va_iald hx hb hK hP 4 0 rfl rfl i12 dX7_replace_7 ?_
    refine lv_istore (lv' := [(4, .int (x_numbers_1 p2.toNatClampNeg)), (0, .ref a_x), (1, .int p1), (2, .int p2), (3, .int p3)]) hx hb dX7_replace_8 hl (by decide) rfl (fun ls hl => ?_)
    refine lv_aload_n hx hb dX7_replace_10 rfl (lv_at hl 1 rfl) ?_
    refine va_get (D := D) (ci := 7) (v := .ref a_x_numbers) (C := RX7) (T := TX7) (N := 3) hx hb hts in_X7_replace_X7 hown hK hP 0 rfl rfl 2 (by decide) (hts _ mb_X7_replace_0) (fun _ h9 => h9) rfl dX7_replace_11 ?_
    refine lv_iload_n hx hb dX7_replace_14 rfl (lv_at hl 2 rfl) ?_
    obtain ⟨i13, h⟩ := gI_some h
    by_cases e13_0 : p1 = 0
    · have h := ift e13_0 h
      refine g_aldr (r := a_x_numbers_0) C hP 2 rfl i13 (by rw [e13_0]; rfl) dX7_replace_15 ?_
      refine lv_iload_n hx hb dX7_replace_16 rfl (lv_at hl 3 rfl) ?_
      refine lv_iload_n hx hb dX7_replace_17 rfl (lv_at hl 4 rfl) ?_
      refine lv_aload_n hx hb dX7_replace_18 rfl (lv_at hl 1 rfl) ?_
      refine va_get (D := D) (ci := 7) (v := .ref a_x_sort) (C := RX7) (T := TX7) (N := 3) hx hb hts in_X7_replace_X7 hown hK hP 0 rfl rfl 0 (by decide) (hts _ mb_X7_replace_1) (fun _ h9 => h9) rfl dX7_replace_19 ?_
      refine lv_iload_n hx hb dX7_replace_22 rfl (lv_at hl 2 rfl) ?_
      obtain ⟨i14, h⟩ := gI_some h
      refine va_iald hx hb hK hP 1 0 rfl rfl i14 dX7_replace_23 ?_
      refine g_callS0 (index := 29) (maxL := 2) (n := 2) (As := [.int p3, .int (x_sort p1.toNatClampNeg)]) (rest := [.int p2, .ref a_x_numbers_0]) (st1 := [.int (f_X7_narrowed p3 (x_sort p1.toNatClampNeg)), .int p2, .ref a_x_numbers_0]) C hP hS hl.1 (c_X7_narrowed l D cI cJ cZ cG p3 (x_sort p1.toNatClampNeg) _ rfl) gX7_replace_X7_narrowed rfl rfl rfl (by decide +kernel) ⟨Nat.le_of_ble_eq_true rfl, Nat.le_of_ble_eq_true rfl⟩ rfl (Nat.le_of_ble_eq_true rfl) rfl dX7_replace_24 rfl (fun H locs hP hS => ?_)
      obtain ⟨i15, h⟩ := gI_some h
      refine va_iast hx hb hK hP hD hS 3 0 rfl rfl i15 dX7_replace_27 (fun H locs hP hD hS => ?_)
      have hP : va_P D vwCl (w_X7_replace cI cJ cZ cG a_x a_x_sort a_x_size a_x_numbers a_x_numbers_0 a_x_numbers_1 a_x_numbers_2 a_x_numbers_3 x_sort (upd x_numbers_0 p2.toNatClampNeg (f_X7_narrowed p3 (x_sort p1.toNatClampNeg))) x_numbers_1 x_numbers_2 x_numbers_3) H := hP
      have hD : va_D A (w_X7_replace cI cJ cZ cG a_x a_x_sort a_x_size a_x_numbers a_x_numbers_0 a_x_numbers_1 a_x_numbers_2 a_x_numbers_3 x_sort (upd x_numbers_0 p2.toNatClampNeg (f_X7_narrowed p3 (x_sort p1.toNatClampNeg))) x_numbers_1 x_numbers_2 x_numbers_3) := hD
      refine lv_iload hx hb dX7_replace_28 (lv_at hl 0 rfl) ?_
      obtain rfl := Option.some.inj h
      exact g_iret C hP hD hS dX7_replace_30
    have h := iff_ e13_0 h
    by_cases e13_1 : p1 = 1
    · have h := ift e13_1 h
      refine g_aldr (r := a_x_numbers_1) C hP 2 rfl i13 (by rw [e13_1]; rfl) dX7_replace_15 ?_
      refine lv_iload_n hx hb dX7_replace_16 rfl (lv_at hl 3 rfl) ?_
      refine lv_iload_n hx hb dX7_replace_17 rfl (lv_at hl 4 rfl) ?_
      refine lv_aload_n hx hb dX7_replace_18 rfl (lv_at hl 1 rfl) ?_
      refine va_get (D := D) (ci := 7) (v := .ref a_x_sort) (C := RX7) (T := TX7) (N := 3) hx hb hts in_X7_replace_X7 hown hK hP 0 rfl rfl 0 (by decide) (hts _ mb_X7_replace_1) (fun _ h9 => h9) rfl dX7_replace_19 ?_
      refine lv_iload_n hx hb dX7_replace_22 rfl (lv_at hl 2 rfl) ?_
      obtain ⟨i16, h⟩ := gI_some h
      refine va_iald hx hb hK hP 1 0 rfl rfl i16 dX7_replace_23 ?_
      refine g_callS0 (index := 29) (maxL := 2) (n := 2) (As := [.int p3, .int (x_sort p1.toNatClampNeg)]) (rest := [.int p2, .ref a_x_numbers_1]) (st1 := [.int (f_X7_narrowed p3 (x_sort p1.toNatClampNeg)), .int p2, .ref a_x_numbers_1]) C hP hS hl.1 (c_X7_narrowed l D cI cJ cZ cG p3 (x_sort p1.toNatClampNeg) _ rfl) gX7_replace_X7_narrowed rfl rfl rfl (by decide +kernel) ⟨Nat.le_of_ble_eq_true rfl, Nat.le_of_ble_eq_true rfl⟩ rfl (Nat.le_of_ble_eq_true rfl) rfl dX7_replace_24 rfl (fun H locs hP hS => ?_)
      obtain ⟨i17, h⟩ := gI_some h
      refine va_iast hx hb hK hP hD hS 4 0 rfl rfl i17 dX7_replace_27 (fun H locs hP hD hS => ?_)
      have hP : va_P D vwCl (w_X7_replace cI cJ cZ cG a_x a_x_sort a_x_size a_x_numbers a_x_numbers_0 a_x_numbers_1 a_x_numbers_2 a_x_numbers_3 x_sort x_numbers_0 (upd x_numbers_1 p2.toNatClampNeg (f_X7_narrowed p3 (x_sort p1.toNatClampNeg))) x_numbers_2 x_numbers_3) H := hP
      have hD : va_D A (w_X7_replace cI cJ cZ cG a_x a_x_sort a_x_size a_x_numbers a_x_numbers_0 a_x_numbers_1 a_x_numbers_2 a_x_numbers_3 x_sort x_numbers_0 (upd x_numbers_1 p2.toNatClampNeg (f_X7_narrowed p3 (x_sort p1.toNatClampNeg))) x_numbers_2 x_numbers_3) := hD
      refine lv_iload hx hb dX7_replace_28 (lv_at hl 0 rfl) ?_
      obtain rfl := Option.some.inj h
      exact g_iret C hP hD hS dX7_replace_30
    have h := iff_ e13_1 h
    by_cases e13_2 : p1 = 2
    · have h := ift e13_2 h
      refine g_aldr (r := a_x_numbers_2) C hP 2 rfl i13 (by rw [e13_2]; rfl) dX7_replace_15 ?_
      refine lv_iload_n hx hb dX7_replace_16 rfl (lv_at hl 3 rfl) ?_
      refine lv_iload_n hx hb dX7_replace_17 rfl (lv_at hl 4 rfl) ?_
      refine lv_aload_n hx hb dX7_replace_18 rfl (lv_at hl 1 rfl) ?_
      refine va_get (D := D) (ci := 7) (v := .ref a_x_sort) (C := RX7) (T := TX7) (N := 3) hx hb hts in_X7_replace_X7 hown hK hP 0 rfl rfl 0 (by decide) (hts _ mb_X7_replace_1) (fun _ h9 => h9) rfl dX7_replace_19 ?_
      refine lv_iload_n hx hb dX7_replace_22 rfl (lv_at hl 2 rfl) ?_
      obtain ⟨i18, h⟩ := gI_some h
      refine va_iald hx hb hK hP 1 0 rfl rfl i18 dX7_replace_23 ?_
      refine g_callS0 (index := 29) (maxL := 2) (n := 2) (As := [.int p3, .int (x_sort p1.toNatClampNeg)]) (rest := [.int p2, .ref a_x_numbers_2]) (st1 := [.int (f_X7_narrowed p3 (x_sort p1.toNatClampNeg)), .int p2, .ref a_x_numbers_2]) C hP hS hl.1 (c_X7_narrowed l D cI cJ cZ cG p3 (x_sort p1.toNatClampNeg) _ rfl) gX7_replace_X7_narrowed rfl rfl rfl (by decide +kernel) ⟨Nat.le_of_ble_eq_true rfl, Nat.le_of_ble_eq_true rfl⟩ rfl (Nat.le_of_ble_eq_true rfl) rfl dX7_replace_24 rfl (fun H locs hP hS => ?_)
      obtain ⟨i19, h⟩ := gI_some h
      refine va_iast hx hb hK hP hD hS 5 0 rfl rfl i19 dX7_replace_27 (fun H locs hP hD hS => ?_)
      have hP : va_P D vwCl (w_X7_replace cI cJ cZ cG a_x a_x_sort a_x_size a_x_numbers a_x_numbers_0 a_x_numbers_1 a_x_numbers_2 a_x_numbers_3 x_sort x_numbers_0 x_numbers_1 (upd x_numbers_2 p2.toNatClampNeg (f_X7_narrowed p3 (x_sort p1.toNatClampNeg))) x_numbers_3) H := hP
      have hD : va_D A (w_X7_replace cI cJ cZ cG a_x a_x_sort a_x_size a_x_numbers a_x_numbers_0 a_x_numbers_1 a_x_numbers_2 a_x_numbers_3 x_sort x_numbers_0 x_numbers_1 (upd x_numbers_2 p2.toNatClampNeg (f_X7_narrowed p3 (x_sort p1.toNatClampNeg))) x_numbers_3) := hD
      refine lv_iload hx hb dX7_replace_28 (lv_at hl 0 rfl) ?_
      obtain rfl := Option.some.inj h
      exact g_iret C hP hD hS dX7_replace_30
    have h := iff_ e13_2 h
    have e13_3 := g_in4 i13 e13_0 e13_1 e13_2
    refine g_aldr (r := a_x_numbers_3) C hP 2 rfl i13 (by rw [e13_3]; rfl) dX7_replace_15 ?_
    refine lv_iload_n hx hb dX7_replace_16 rfl (lv_at hl 3 rfl) ?_
    refine lv_iload_n hx hb dX7_replace_17 rfl (lv_at hl 4 rfl) ?_
    refine lv_aload_n hx hb dX7_replace_18 rfl (lv_at hl 1 rfl) ?_
    refine va_get (D := D) (ci := 7) (v := .ref a_x_sort) (C := RX7) (T := TX7) (N := 3) hx hb hts in_X7_replace_X7 hown hK hP 0 rfl rfl 0 (by decide) (hts _ mb_X7_replace_1) (fun _ h9 => h9) rfl dX7_replace_19 ?_
    refine lv_iload_n hx hb dX7_replace_22 rfl (lv_at hl 2 rfl) ?_
    obtain ⟨i20, h⟩ := gI_some h
    refine va_iald hx hb hK hP 1 0 rfl rfl i20 dX7_replace_23 ?_
    refine g_callS0 (index := 29) (maxL := 2) (n := 2) (As := [.int p3, .int (x_sort p1.toNatClampNeg)]) (rest := [.int p2, .ref a_x_numbers_3]) (st1 := [.int (f_X7_narrowed p3 (x_sort p1.toNatClampNeg)), .int p2, .ref a_x_numbers_3]) C hP hS hl.1 (c_X7_narrowed l D cI cJ cZ cG p3 (x_sort p1.toNatClampNeg) _ rfl) gX7_replace_X7_narrowed rfl rfl rfl (by decide +kernel) ⟨Nat.le_of_ble_eq_true rfl, Nat.le_of_ble_eq_true rfl⟩ rfl (Nat.le_of_ble_eq_true rfl) rfl dX7_replace_24 rfl (fun H locs hP hS => ?_)
    obtain ⟨i21, h⟩ := gI_some h
    refine va_iast hx hb hK hP hD hS 6 0 rfl rfl i21 dX7_replace_27 (fun H locs hP hD hS => ?_)
    have hP : va_P D vwCl (w_X7_replace cI cJ cZ cG a_x a_x_sort a_x_size a_x_numbers a_x_numbers_0 a_x_numbers_1 a_x_numbers_2 a_x_numbers_3 x_sort x_numbers_0 x_numbers_1 x_numbers_2 (upd x_numbers_3 p2.toNatClampNeg (f_X7_narrowed p3 (x_sort p1.toNatClampNeg)))) H := hP
    have hD : va_D A (w_X7_replace cI cJ cZ cG a_x a_x_sort a_x_size a_x_numbers a_x_numbers_0 a_x_numbers_1 a_x_numbers_2 a_x_numbers_3 x_sort x_numbers_0 x_numbers_1 x_numbers_2 (upd x_numbers_3 p2.toNatClampNeg (f_X7_narrowed p3 (x_sort p1.toNatClampNeg)))) := hD
    refine lv_iload hx hb dX7_replace_28 (lv_at hl 0 rfl) ?_
    obtain rfl := Option.some.inj h
    exact g_iret C hP hD hS dX7_replace_30
  have h := iff_ e1_1 h
  by_cases e1_2 : p1 = 2
  · have h := ift e1_2 h
    refine g_aldr (r := a_x_numbers_2) C hP 2 rfl i1 (by rw [e1_2]; rfl) dX7_replace_5 ?_
    refine lv_iload_n hx hb dX7_replace_6 rfl (lv_at hl 2 rfl) ?_
    obtain ⟨i22, h⟩ := gI_some h
    refine va_iald hx hb hK hP 5 0 rfl rfl i22 dX7_replace_7 ?_
    refine lv_istore (lv' := [(4, .int (x_numbers_2 p2.toNatClampNeg)), (0, .ref a_x), (1, .int p1), (2, .int p2), (3, .int p3)]) hx hb dX7_replace_8 hl (by decide) rfl (fun ls hl => ?_)
    refine lv_aload_n hx hb dX7_replace_10 rfl (lv_at hl 1 rfl) ?_
    refine va_get (D := D) (ci := 7) (v := .ref a_x_numbers) (C := RX7) (T := TX7) (N := 3) hx hb hts in_X7_replace_X7 hown hK hP 0 rfl rfl 2 (by decide) (hts _ mb_X7_replace_0) (fun _ h9 => h9) rfl dX7_replace_11 ?_
    refine lv_iload_n hx hb dX7_replace_14 rfl (lv_at hl 2 rfl) ?_
    obtain ⟨i23, h⟩ := gI_some h
    by_cases e23_0 : p1 = 0
    · have h := ift e23_0 h
      refine g_aldr (r := a_x_numbers_0) C hP 2 rfl i23 (by rw [e23_0]; rfl) dX7_replace_15 ?_
      refine lv_iload_n hx hb dX7_replace_16 rfl (lv_at hl 3 rfl) ?_
      refine lv_iload_n hx hb dX7_replace_17 rfl (lv_at hl 4 rfl) ?_
      refine lv_aload_n hx hb dX7_replace_18 rfl (lv_at hl 1 rfl) ?_
      refine va_get (D := D) (ci := 7) (v := .ref a_x_sort) (C := RX7) (T := TX7) (N := 3) hx hb hts in_X7_replace_X7 hown hK hP 0 rfl rfl 0 (by decide) (hts _ mb_X7_replace_1) (fun _ h9 => h9) rfl dX7_replace_19 ?_
      refine lv_iload_n hx hb dX7_replace_22 rfl (lv_at hl 2 rfl) ?_
      obtain ⟨i24, h⟩ := gI_some h
      refine va_iald hx hb hK hP 1 0 rfl rfl i24 dX7_replace_23 ?_
      refine g_callS0 (index := 29) (maxL := 2) (n := 2) (As := [.int p3, .int (x_sort p1.toNatClampNeg)]) (rest := [.int p2, .ref a_x_numbers_0]) (st1 := [.int (f_X7_narrowed p3 (x_sort p1.toNatClampNeg)), .int p2, .ref a_x_numbers_0]) C hP hS hl.1 (c_X7_narrowed l D cI cJ cZ cG p3 (x_sort p1.toNatClampNeg) _ rfl) gX7_replace_X7_narrowed rfl rfl rfl (by decide +kernel) ⟨Nat.le_of_ble_eq_true rfl, Nat.le_of_ble_eq_true rfl⟩ rfl (Nat.le_of_ble_eq_true rfl) rfl dX7_replace_24 rfl (fun H locs hP hS => ?_)
      obtain ⟨i25, h⟩ := gI_some h
      refine va_iast hx hb hK hP hD hS 3 0 rfl rfl i25 dX7_replace_27 (fun H locs hP hD hS => ?_)
      have hP : va_P D vwCl (w_X7_replace cI cJ cZ cG a_x a_x_sort a_x_size a_x_numbers a_x_numbers_0 a_x_numbers_1 a_x_numbers_2 a_x_numbers_3 x_sort (upd x_numbers_0 p2.toNatClampNeg (f_X7_narrowed p3 (x_sort p1.toNatClampNeg))) x_numbers_1 x_numbers_2 x_numbers_3) H := hP
      have hD : va_D A (w_X7_replace cI cJ cZ cG a_x a_x_sort a_x_size a_x_numbers a_x_numbers_0 a_x_numbers_1 a_x_numbers_2 a_x_numbers_3 x_sort (upd x_numbers_0 p2.toNatClampNeg (f_X7_narrowed p3 (x_sort p1.toNatClampNeg))) x_numbers_1 x_numbers_2 x_numbers_3) := hD
      refine lv_iload hx hb dX7_replace_28 (lv_at hl 0 rfl) ?_
      obtain rfl := Option.some.inj h
      exact g_iret C hP hD hS dX7_replace_30
    have h := iff_ e23_0 h
    by_cases e23_1 : p1 = 1
    · have h := ift e23_1 h
      refine g_aldr (r := a_x_numbers_1) C hP 2 rfl i23 (by rw [e23_1]; rfl) dX7_replace_15 ?_
      refine lv_iload_n hx hb dX7_replace_16 rfl (lv_at hl 3 rfl) ?_
      refine lv_iload_n hx hb dX7_replace_17 rfl (lv_at hl 4 rfl) ?_
      refine lv_aload_n hx hb dX7_replace_18 rfl (lv_at hl 1 rfl) ?_
      refine va_get (D := D) (ci := 7) (v := .ref a_x_sort) (C := RX7) (T := TX7) (N := 3) hx hb hts in_X7_replace_X7 hown hK hP 0 rfl rfl 0 (by decide) (hts _ mb_X7_replace_1) (fun _ h9 => h9) rfl dX7_replace_19 ?_
      refine lv_iload_n hx hb dX7_replace_22 rfl (lv_at hl 2 rfl) ?_
      obtain ⟨i26, h⟩ := gI_some h
      refine va_iald hx hb hK hP 1 0 rfl rfl i26 dX7_replace_23 ?_
      refine g_callS0 (index := 29) (maxL := 2) (n := 2) (As := [.int p3, .int (x_sort p1.toNatClampNeg)]) (rest := [.int p2, .ref a_x_numbers_1]) (st1 := [.int (f_X7_narrowed p3 (x_sort p1.toNatClampNeg)), .int p2, .ref a_x_numbers_1]) C hP hS hl.1 (c_X7_narrowed l D cI cJ cZ cG p3 (x_sort p1.toNatClampNeg) _ rfl) gX7_replace_X7_narrowed rfl rfl rfl (by decide +kernel) ⟨Nat.le_of_ble_eq_true rfl, Nat.le_of_ble_eq_true rfl⟩ rfl (Nat.le_of_ble_eq_true rfl) rfl dX7_replace_24 rfl (fun H locs hP hS => ?_)
      obtain ⟨i27, h⟩ := gI_some h
      refine va_iast hx hb hK hP hD hS 4 0 rfl rfl i27 dX7_replace_27 (fun H locs hP hD hS => ?_)
      have hP : va_P D vwCl (w_X7_replace cI cJ cZ cG a_x a_x_sort a_x_size a_x_numbers a_x_numbers_0 a_x_numbers_1 a_x_numbers_2 a_x_numbers_3 x_sort x_numbers_0 (upd x_numbers_1 p2.toNatClampNeg (f_X7_narrowed p3 (x_sort p1.toNatClampNeg))) x_numbers_2 x_numbers_3) H := hP
      have hD : va_D A (w_X7_replace cI cJ cZ cG a_x a_x_sort a_x_size a_x_numbers a_x_numbers_0 a_x_numbers_1 a_x_numbers_2 a_x_numbers_3 x_sort x_numbers_0 (upd x_numbers_1 p2.toNatClampNeg (f_X7_narrowed p3 (x_sort p1.toNatClampNeg))) x_numbers_2 x_numbers_3) := hD
      refine lv_iload hx hb dX7_replace_28 (lv_at hl 0 rfl) ?_
      obtain rfl := Option.some.inj h
      exact g_iret C hP hD hS dX7_replace_30
    have h := iff_ e23_1 h
    by_cases e23_2 : p1 = 2
    · have h := ift e23_2 h
      refine g_aldr (r := a_x_numbers_2) C hP 2 rfl i23 (by rw [e23_2]; rfl) dX7_replace_15 ?_
      refine lv_iload_n hx hb dX7_replace_16 rfl (lv_at hl 3 rfl) ?_
      refine lv_iload_n hx hb dX7_replace_17 rfl (lv_at hl 4 rfl) ?_
      refine lv_aload_n hx hb dX7_replace_18 rfl (lv_at hl 1 rfl) ?_
      refine va_get (D := D) (ci := 7) (v := .ref a_x_sort) (C := RX7) (T := TX7) (N := 3) hx hb hts in_X7_replace_X7 hown hK hP 0 rfl rfl 0 (by decide) (hts _ mb_X7_replace_1) (fun _ h9 => h9) rfl dX7_replace_19 ?_
      refine lv_iload_n hx hb dX7_replace_22 rfl (lv_at hl 2 rfl) ?_
      obtain ⟨i28, h⟩ := gI_some h
      refine va_iald hx hb hK hP 1 0 rfl rfl i28 dX7_replace_23 ?_
      refine g_callS0 (index := 29) (maxL := 2) (n := 2) (As := [.int p3, .int (x_sort p1.toNatClampNeg)]) (rest := [.int p2, .ref a_x_numbers_2]) (st1 := [.int (f_X7_narrowed p3 (x_sort p1.toNatClampNeg)), .int p2, .ref a_x_numbers_2]) C hP hS hl.1 (c_X7_narrowed l D cI cJ cZ cG p3 (x_sort p1.toNatClampNeg) _ rfl) gX7_replace_X7_narrowed rfl rfl rfl (by decide +kernel) ⟨Nat.le_of_ble_eq_true rfl, Nat.le_of_ble_eq_true rfl⟩ rfl (Nat.le_of_ble_eq_true rfl) rfl dX7_replace_24 rfl (fun H locs hP hS => ?_)
      obtain ⟨i29, h⟩ := gI_some h
      refine va_iast hx hb hK hP hD hS 5 0 rfl rfl i29 dX7_replace_27 (fun H locs hP hD hS => ?_)
      have hP : va_P D vwCl (w_X7_replace cI cJ cZ cG a_x a_x_sort a_x_size a_x_numbers a_x_numbers_0 a_x_numbers_1 a_x_numbers_2 a_x_numbers_3 x_sort x_numbers_0 x_numbers_1 (upd x_numbers_2 p2.toNatClampNeg (f_X7_narrowed p3 (x_sort p1.toNatClampNeg))) x_numbers_3) H := hP
      have hD : va_D A (w_X7_replace cI cJ cZ cG a_x a_x_sort a_x_size a_x_numbers a_x_numbers_0 a_x_numbers_1 a_x_numbers_2 a_x_numbers_3 x_sort x_numbers_0 x_numbers_1 (upd x_numbers_2 p2.toNatClampNeg (f_X7_narrowed p3 (x_sort p1.toNatClampNeg))) x_numbers_3) := hD
      refine lv_iload hx hb dX7_replace_28 (lv_at hl 0 rfl) ?_
      obtain rfl := Option.some.inj h
      exact g_iret C hP hD hS dX7_replace_30
    have h := iff_ e23_2 h
    have e23_3 := g_in4 i23 e23_0 e23_1 e23_2
    refine g_aldr (r := a_x_numbers_3) C hP 2 rfl i23 (by rw [e23_3]; rfl) dX7_replace_15 ?_
    refine lv_iload_n hx hb dX7_replace_16 rfl (lv_at hl 3 rfl) ?_
    refine lv_iload_n hx hb dX7_replace_17 rfl (lv_at hl 4 rfl) ?_
    refine lv_aload_n hx hb dX7_replace_18 rfl (lv_at hl 1 rfl) ?_
    refine va_get (D := D) (ci := 7) (v := .ref a_x_sort) (C := RX7) (T := TX7) (N := 3) hx hb hts in_X7_replace_X7 hown hK hP 0 rfl rfl 0 (by decide) (hts _ mb_X7_replace_1) (fun _ h9 => h9) rfl dX7_replace_19 ?_
    refine lv_iload_n hx hb dX7_replace_22 rfl (lv_at hl 2 rfl) ?_
    obtain ⟨i30, h⟩ := gI_some h
    refine va_iald hx hb hK hP 1 0 rfl rfl i30 dX7_replace_23 ?_
    refine g_callS0 (index := 29) (maxL := 2) (n := 2) (As := [.int p3, .int (x_sort p1.toNatClampNeg)]) (rest := [.int p2, .ref a_x_numbers_3]) (st1 := [.int (f_X7_narrowed p3 (x_sort p1.toNatClampNeg)), .int p2, .ref a_x_numbers_3]) C hP hS hl.1 (c_X7_narrowed l D cI cJ cZ cG p3 (x_sort p1.toNatClampNeg) _ rfl) gX7_replace_X7_narrowed rfl rfl rfl (by decide +kernel) ⟨Nat.le_of_ble_eq_true rfl, Nat.le_of_ble_eq_true rfl⟩ rfl (Nat.le_of_ble_eq_true rfl) rfl dX7_replace_24 rfl (fun H locs hP hS => ?_)
    obtain ⟨i31, h⟩ := gI_some h
    refine va_iast hx hb hK hP hD hS 6 0 rfl rfl i31 dX7_replace_27 (fun H locs hP hD hS => ?_)
    have hP : va_P D vwCl (w_X7_replace cI cJ cZ cG a_x a_x_sort a_x_size a_x_numbers a_x_numbers_0 a_x_numbers_1 a_x_numbers_2 a_x_numbers_3 x_sort x_numbers_0 x_numbers_1 x_numbers_2 (upd x_numbers_3 p2.toNatClampNeg (f_X7_narrowed p3 (x_sort p1.toNatClampNeg)))) H := hP
    have hD : va_D A (w_X7_replace cI cJ cZ cG a_x a_x_sort a_x_size a_x_numbers a_x_numbers_0 a_x_numbers_1 a_x_numbers_2 a_x_numbers_3 x_sort x_numbers_0 x_numbers_1 x_numbers_2 (upd x_numbers_3 p2.toNatClampNeg (f_X7_narrowed p3 (x_sort p1.toNatClampNeg)))) := hD
    refine lv_iload hx hb dX7_replace_28 (lv_at hl 0 rfl) ?_
    obtain rfl := Option.some.inj h
    exact g_iret C hP hD hS dX7_replace_30
  have h := iff_ e1_2 h
  have e1_3 := g_in4 i1 e1_0 e1_1 e1_2
  refine g_aldr (r := a_x_numbers_3) C hP 2 rfl i1 (by rw [e1_3]; rfl) dX7_replace_5 ?_
  refine lv_iload_n hx hb dX7_replace_6 rfl (lv_at hl 2 rfl) ?_
  obtain ⟨i32, h⟩ := gI_some h
  refine va_iald hx hb hK hP 6 0 rfl rfl i32 dX7_replace_7 ?_
  refine lv_istore (lv' := [(4, .int (x_numbers_3 p2.toNatClampNeg)), (0, .ref a_x), (1, .int p1), (2, .int p2), (3, .int p3)]) hx hb dX7_replace_8 hl (by decide) rfl (fun ls hl => ?_)
  refine lv_aload_n hx hb dX7_replace_10 rfl (lv_at hl 1 rfl) ?_
  refine va_get (D := D) (ci := 7) (v := .ref a_x_numbers) (C := RX7) (T := TX7) (N := 3) hx hb hts in_X7_replace_X7 hown hK hP 0 rfl rfl 2 (by decide) (hts _ mb_X7_replace_0) (fun _ h9 => h9) rfl dX7_replace_11 ?_
  refine lv_iload_n hx hb dX7_replace_14 rfl (lv_at hl 2 rfl) ?_
  obtain ⟨i33, h⟩ := gI_some h
  by_cases e33_0 : p1 = 0
  · have h := ift e33_0 h
    refine g_aldr (r := a_x_numbers_0) C hP 2 rfl i33 (by rw [e33_0]; rfl) dX7_replace_15 ?_
    refine lv_iload_n hx hb dX7_replace_16 rfl (lv_at hl 3 rfl) ?_
    refine lv_iload_n hx hb dX7_replace_17 rfl (lv_at hl 4 rfl) ?_
    refine lv_aload_n hx hb dX7_replace_18 rfl (lv_at hl 1 rfl) ?_
    refine va_get (D := D) (ci := 7) (v := .ref a_x_sort) (C := RX7) (T := TX7) (N := 3) hx hb hts in_X7_replace_X7 hown hK hP 0 rfl rfl 0 (by decide) (hts _ mb_X7_replace_1) (fun _ h9 => h9) rfl dX7_replace_19 ?_
    refine lv_iload_n hx hb dX7_replace_22 rfl (lv_at hl 2 rfl) ?_
    obtain ⟨i34, h⟩ := gI_some h
    refine va_iald hx hb hK hP 1 0 rfl rfl i34 dX7_replace_23 ?_
    refine g_callS0 (index := 29) (maxL := 2) (n := 2) (As := [.int p3, .int (x_sort p1.toNatClampNeg)]) (rest := [.int p2, .ref a_x_numbers_0]) (st1 := [.int (f_X7_narrowed p3 (x_sort p1.toNatClampNeg)), .int p2, .ref a_x_numbers_0]) C hP hS hl.1 (c_X7_narrowed l D cI cJ cZ cG p3 (x_sort p1.toNatClampNeg) _ rfl) gX7_replace_X7_narrowed rfl rfl rfl (by decide +kernel) ⟨Nat.le_of_ble_eq_true rfl, Nat.le_of_ble_eq_true rfl⟩ rfl (Nat.le_of_ble_eq_true rfl) rfl dX7_replace_24 rfl (fun H locs hP hS => ?_)
    obtain ⟨i35, h⟩ := gI_some h
    refine va_iast hx hb hK hP hD hS 3 0 rfl rfl i35 dX7_replace_27 (fun H locs hP hD hS => ?_)
    have hP : va_P D vwCl (w_X7_replace cI cJ cZ cG a_x a_x_sort a_x_size a_x_numbers a_x_numbers_0 a_x_numbers_1 a_x_numbers_2 a_x_numbers_3 x_sort (upd x_numbers_0 p2.toNatClampNeg (f_X7_narrowed p3 (x_sort p1.toNatClampNeg))) x_numbers_1 x_numbers_2 x_numbers_3) H := hP
    have hD : va_D A (w_X7_replace cI cJ cZ cG a_x a_x_sort a_x_size a_x_numbers a_x_numbers_0 a_x_numbers_1 a_x_numbers_2 a_x_numbers_3 x_sort (upd x_numbers_0 p2.toNatClampNeg (f_X7_narrowed p3 (x_sort p1.toNatClampNeg))) x_numbers_1 x_numbers_2 x_numbers_3) := hD
    refine lv_iload hx hb dX7_replace_28 (lv_at hl 0 rfl) ?_
    obtain rfl := Option.some.inj h
    exact g_iret C hP hD hS dX7_replace_30
  have h := iff_ e33_0 h
  by_cases e33_1 : p1 = 1
  · have h := ift e33_1 h
    refine g_aldr (r := a_x_numbers_1) C hP 2 rfl i33 (by rw [e33_1]; rfl) dX7_replace_15 ?_
    refine lv_iload_n hx hb dX7_replace_16 rfl (lv_at hl 3 rfl) ?_
    refine lv_iload_n hx hb dX7_replace_17 rfl (lv_at hl 4 rfl) ?_
    refine lv_aload_n hx hb dX7_replace_18 rfl (lv_at hl 1 rfl) ?_
    refine va_get (D := D) (ci := 7) (v := .ref a_x_sort) (C := RX7) (T := TX7) (N := 3) hx hb hts in_X7_replace_X7 hown hK hP 0 rfl rfl 0 (by decide) (hts _ mb_X7_replace_1) (fun _ h9 => h9) rfl dX7_replace_19 ?_
    refine lv_iload_n hx hb dX7_replace_22 rfl (lv_at hl 2 rfl) ?_
    obtain ⟨i36, h⟩ := gI_some h
    refine va_iald hx hb hK hP 1 0 rfl rfl i36 dX7_replace_23 ?_
    refine g_callS0 (index := 29) (maxL := 2) (n := 2) (As := [.int p3, .int (x_sort p1.toNatClampNeg)]) (rest := [.int p2, .ref a_x_numbers_1]) (st1 := [.int (f_X7_narrowed p3 (x_sort p1.toNatClampNeg)), .int p2, .ref a_x_numbers_1]) C hP hS hl.1 (c_X7_narrowed l D cI cJ cZ cG p3 (x_sort p1.toNatClampNeg) _ rfl) gX7_replace_X7_narrowed rfl rfl rfl (by decide +kernel) ⟨Nat.le_of_ble_eq_true rfl, Nat.le_of_ble_eq_true rfl⟩ rfl (Nat.le_of_ble_eq_true rfl) rfl dX7_replace_24 rfl (fun H locs hP hS => ?_)
    obtain ⟨i37, h⟩ := gI_some h
    refine va_iast hx hb hK hP hD hS 4 0 rfl rfl i37 dX7_replace_27 (fun H locs hP hD hS => ?_)
    have hP : va_P D vwCl (w_X7_replace cI cJ cZ cG a_x a_x_sort a_x_size a_x_numbers a_x_numbers_0 a_x_numbers_1 a_x_numbers_2 a_x_numbers_3 x_sort x_numbers_0 (upd x_numbers_1 p2.toNatClampNeg (f_X7_narrowed p3 (x_sort p1.toNatClampNeg))) x_numbers_2 x_numbers_3) H := hP
    have hD : va_D A (w_X7_replace cI cJ cZ cG a_x a_x_sort a_x_size a_x_numbers a_x_numbers_0 a_x_numbers_1 a_x_numbers_2 a_x_numbers_3 x_sort x_numbers_0 (upd x_numbers_1 p2.toNatClampNeg (f_X7_narrowed p3 (x_sort p1.toNatClampNeg))) x_numbers_2 x_numbers_3) := hD
    refine lv_iload hx hb dX7_replace_28 (lv_at hl 0 rfl) ?_
    obtain rfl := Option.some.inj h
    exact g_iret C hP hD hS dX7_replace_30
  have h := iff_ e33_1 h
  by_cases e33_2 : p1 = 2
  · have h := ift e33_2 h
    refine g_aldr (r := a_x_numbers_2) C hP 2 rfl i33 (by rw [e33_2]; rfl) dX7_replace_15 ?_
    refine lv_iload_n hx hb dX7_replace_16 rfl (lv_at hl 3 rfl) ?_
    refine lv_iload_n hx hb dX7_replace_17 rfl (lv_at hl 4 rfl) ?_
    refine lv_aload_n hx hb dX7_replace_18 rfl (lv_at hl 1 rfl) ?_
    refine va_get (D := D) (ci := 7) (v := .ref a_x_sort) (C := RX7) (T := TX7) (N := 3) hx hb hts in_X7_replace_X7 hown hK hP 0 rfl rfl 0 (by decide) (hts _ mb_X7_replace_1) (fun _ h9 => h9) rfl dX7_replace_19 ?_
    refine lv_iload_n hx hb dX7_replace_22 rfl (lv_at hl 2 rfl) ?_
    obtain ⟨i38, h⟩ := gI_some h
    refine va_iald hx hb hK hP 1 0 rfl rfl i38 dX7_replace_23 ?_
    refine g_callS0 (index := 29) (maxL := 2) (n := 2) (As := [.int p3, .int (x_sort p1.toNatClampNeg)]) (rest := [.int p2, .ref a_x_numbers_2]) (st1 := [.int (f_X7_narrowed p3 (x_sort p1.toNatClampNeg)), .int p2, .ref a_x_numbers_2]) C hP hS hl.1 (c_X7_narrowed l D cI cJ cZ cG p3 (x_sort p1.toNatClampNeg) _ rfl) gX7_replace_X7_narrowed rfl rfl rfl (by decide +kernel) ⟨Nat.le_of_ble_eq_true rfl, Nat.le_of_ble_eq_true rfl⟩ rfl (Nat.le_of_ble_eq_true rfl) rfl dX7_replace_24 rfl (fun H locs hP hS => ?_)
    obtain ⟨i39, h⟩ := gI_some h
    refine va_iast hx hb hK hP hD hS 5 0 rfl rfl i39 dX7_replace_27 (fun H locs hP hD hS => ?_)
    have hP : va_P D vwCl (w_X7_replace cI cJ cZ cG a_x a_x_sort a_x_size a_x_numbers a_x_numbers_0 a_x_numbers_1 a_x_numbers_2 a_x_numbers_3 x_sort x_numbers_0 x_numbers_1 (upd x_numbers_2 p2.toNatClampNeg (f_X7_narrowed p3 (x_sort p1.toNatClampNeg))) x_numbers_3) H := hP
    have hD : va_D A (w_X7_replace cI cJ cZ cG a_x a_x_sort a_x_size a_x_numbers a_x_numbers_0 a_x_numbers_1 a_x_numbers_2 a_x_numbers_3 x_sort x_numbers_0 x_numbers_1 (upd x_numbers_2 p2.toNatClampNeg (f_X7_narrowed p3 (x_sort p1.toNatClampNeg))) x_numbers_3) := hD
    refine lv_iload hx hb dX7_replace_28 (lv_at hl 0 rfl) ?_
    obtain rfl := Option.some.inj h
    exact g_iret C hP hD hS dX7_replace_30
  have h := iff_ e33_2 h
  have e33_3 := g_in4 i33 e33_0 e33_1 e33_2
  refine g_aldr (r := a_x_numbers_3) C hP 2 rfl i33 (by rw [e33_3]; rfl) dX7_replace_15 ?_
  refine lv_iload_n hx hb dX7_replace_16 rfl (lv_at hl 3 rfl) ?_
  refine lv_iload_n hx hb dX7_replace_17 rfl (lv_at hl 4 rfl) ?_
  refine lv_aload_n hx hb dX7_replace_18 rfl (lv_at hl 1 rfl) ?_
  refine va_get (D := D) (ci := 7) (v := .ref a_x_sort) (C := RX7) (T := TX7) (N := 3) hx hb hts in_X7_replace_X7 hown hK hP 0 rfl rfl 0 (by decide) (hts _ mb_X7_replace_1) (fun _ h9 => h9) rfl dX7_replace_19 ?_
  refine lv_iload_n hx hb dX7_replace_22 rfl (lv_at hl 2 rfl) ?_
  obtain ⟨i40, h⟩ := gI_some h
  refine va_iald hx hb hK hP 1 0 rfl rfl i40 dX7_replace_23 ?_
  refine g_callS0 (index := 29) (maxL := 2) (n := 2) (As := [.int p3, .int (x_sort p1.toNatClampNeg)]) (rest := [.int p2, .ref a_x_numbers_3]) (st1 := [.int (f_X7_narrowed p3 (x_sort p1.toNatClampNeg)), .int p2, .ref a_x_numbers_3]) C hP hS hl.1 (c_X7_narrowed l D cI cJ cZ cG p3 (x_sort p1.toNatClampNeg) _ rfl) gX7_replace_X7_narrowed rfl rfl rfl (by decide +kernel) ⟨Nat.le_of_ble_eq_true rfl, Nat.le_of_ble_eq_true rfl⟩ rfl (Nat.le_of_ble_eq_true rfl) rfl dX7_replace_24 rfl (fun H locs hP hS => ?_)
  obtain ⟨i41, h⟩ := gI_some h
  refine va_iast hx hb hK hP hD hS 6 0 rfl rfl i41 dX7_replace_27 (fun H locs hP hD hS => ?_)
  have hP : va_P D vwCl (w_X7_replace cI cJ cZ cG a_x a_x_sort a_x_size a_x_numbers a_x_numbers_0 a_x_numbers_1 a_x_numbers_2 a_x_numbers_3 x_sort x_numbers_0 x_numbers_1 x_numbers_2 (upd x_numbers_3 p2.toNatClampNeg (f_X7_narrowed p3 (x_sort p1.toNatClampNeg)))) H := hP
  have hD : va_D A (w_X7_replace cI cJ cZ cG a_x a_x_sort a_x_size a_x_numbers a_x_numbers_0 a_x_numbers_1 a_x_numbers_2 a_x_numbers_3 x_sort x_numbers_0 x_numbers_1 x_numbers_2 (upd x_numbers_3 p2.toNatClampNeg (f_X7_narrowed p3 (x_sort p1.toNatClampNeg)))) := hD
  refine lv_iload hx hb dX7_replace_28 (lv_at hl 0 rfl) ?_
  obtain rfl := Option.some.inj h
  exact g_iret C hP hD hS dX7_replace_30
set_option maxRecDepth 100000 in
set_option maxHeartbeats 4000000 in
theorem c_X10_isFrom (l : Launch) (D : va_G) (cI cJ cZ cG : ClassId) (p0 : Int32) (p1 : Int32) (p2 : Int32) (q : Int32) (h : f_X10_isFrom p0 p1 p2 = q) : gMet l yX10_isFrom wsX10_isFrom rm_X10_isFrom [.int p0, .int p1, .int p2] (w_X10_isFrom cI cJ cZ cG) (w_X10_isFrom cI cJ cZ cG) (some (.int q)) D cI cJ cZ cG := by
  refine g_enter (cc := cX10_isFrom) (nL := 3) (ret := (some .boolean)) (by decide) rfl (Nat.le_of_ble_eq_true rfl) ?_
  intro p e s m below meth c A C H locs ls hP hD hS hl
  obtain ⟨hx, hb, hr, hml, hown, hts, hlk, hgk, hA⟩ := id C
  have hK := hgk.1
  have hl : lv_has ls 3 [(0, .int p0), (1, .int p1), (2, .int p2)] := hl
  unfold f_X10_isFrom at h
  refine lv_iload_n hx hb dX10_isFrom_0 rfl (lv_at hl 0 rfl) ?_
  refine lv_iload_n hx hb dX10_isFrom_1 rfl (lv_at hl 1 rfl) ?_
  refine lv_icmp_lt (tgt := 14) hx hb dX10_isFrom_2 (by decide) (fun c1 => ?_) (fun c1 => ?_)
  · have h := ift c1 h
    refine lv_iconst (v := 0) hx hb dX10_isFrom_14 (by decide) ?_
    obtain rfl := h
    exact g_zret C hP hD hS (nz_b (Or.inl rfl)) dX10_isFrom_15
  · have h := iff_ c1 h
    refine lv_iload_n hx hb dX10_isFrom_5 rfl (lv_at hl 0 rfl) ?_
    refine lv_iload_n hx hb dX10_isFrom_6 rfl (lv_at hl 2 rfl) ?_
    refine lv_icmp_gt (tgt := 14) hx hb dX10_isFrom_7 (by decide) (fun c2 => ?_) (fun c2 => ?_)
    · have h := ift c2 h
      refine lv_iconst (v := 0) hx hb dX10_isFrom_14 (by decide) ?_
      obtain rfl := h
      exact g_zret C hP hD hS (nz_b (Or.inl rfl)) dX10_isFrom_15
    · have h := iff_ c2 h
      refine lv_iconst (v := 1) hx hb dX10_isFrom_10 (by decide) ?_
      refine lv_goto (tgt := 15) hx hb dX10_isFrom_11 (by decide) ?_
      obtain rfl := h
      exact g_zret C hP hD hS (nz_b (Or.inr rfl)) dX10_isFrom_15
theorem in_X8_has_X8 : ∀ w ∈ wsX80, w ∈ wsX8_has := by decide +kernel
theorem mb_X8_has_0 : Cond.fieldLink RX8 40 "GuardDesk$Targets" "size" "I" ∈ wsX8_has := List.mem_of_getElem? (i := 1) rfl
theorem mb_X8_has_1 : Cond.initialized yX10_isFrom.cls ∈ wsX8_has := List.mem_of_getElem? (i := 3) rfl
theorem mb_X8_has_2 : Cond.static yX10_isFrom ∈ wsX8_has := List.mem_of_getElem? (i := 2) rfl
set_option maxRecDepth 100000 in
set_option maxHeartbeats 4000000 in
theorem c_X8_has (l : Launch) (D : va_G) (cI cJ cZ cG : ClassId) (a_x a_x_kind a_x_saved a_x_lost a_x_gain a_x_gap a_x_least a_x_most a_x_hand : Nat) (x_size : Int32) (x_guards : Int32) (p1 : Int32) (q : Int32) (h : f_X8_has x_size p1 = q) : gMet l yX8_has wsX8_has rm_X8_has [.ref a_x, .int p1] (w_X8_has cI cJ cZ cG a_x a_x_kind a_x_saved a_x_lost a_x_gain a_x_gap a_x_least a_x_most a_x_hand x_size x_guards) (w_X8_has cI cJ cZ cG a_x a_x_kind a_x_saved a_x_lost a_x_gain a_x_gap a_x_least a_x_most a_x_hand x_size x_guards) (some (.int q)) D cI cJ cZ cG := by
  refine g_enter (cc := cX8_has) (nL := 2) (ret := (some .boolean)) (by decide) rfl (Nat.le_of_ble_eq_true rfl) ?_
  intro p e s m below meth c A C H locs ls hP hD hS hl
  obtain ⟨hx, hb, hr, hml, hown, hts, hlk, hgk, hA⟩ := id C
  have hK := hgk.1
  have hl : lv_has ls 2 [(0, .ref a_x), (1, .int p1)] := hl
  unfold f_X8_has at h
  refine lv_iload_n hx hb dX8_has_0 rfl (lv_at hl 1 rfl) ?_
  refine lv_iconst (v := 0) hx hb dX8_has_1 (by decide) ?_
  refine lv_aload_n hx hb dX8_has_2 rfl (lv_at hl 0 rfl) ?_
  refine va_get (D := D) (ci := 8) (v := .int x_size) (C := RX8) (T := TX8) (N := 10) hx hb hts in_X8_has_X8 hown hK hP 0 rfl rfl 0 (by decide) (hts _ mb_X8_has_0) (fun _ h9 => h9) rfl dX8_has_3 ?_
  refine lv_iconst (v := 1) hx hb dX8_has_6 (by decide) ?_
  refine lv_isub hx hb dX8_has_7 ?_
  refine g_callN0 (index := 43) (maxL := 3) (n := 3) (As := [.int p1, .int 0, .int (x_size - 1)]) (rest := []) (st1 := [.int (f_X10_isFrom p1 0 (x_size - 1))]) C hP hS hl.1 (c_X10_isFrom l D cI cJ cZ cG p1 0 (x_size - 1) _ rfl) gX8_has_X10_isFrom_n43 rfl rfl rfl hgk.2 mb_X8_has_1 mb_X8_has_2 (by decide +kernel) ⟨Nat.le_of_ble_eq_true rfl, Nat.le_of_ble_eq_true rfl⟩ rfl (Nat.le_of_ble_eq_true rfl) rfl dX8_has_8 rfl (fun H locs hP hS => ?_)
  obtain rfl := h
  exact g_zret C hP hD hS (nz_b (z_X10_isFrom p1 0 (x_size - 1))) dX8_has_11
theorem in_X8_add_X8 : ∀ w ∈ wsX80, w ∈ wsX8_add := by decide +kernel
theorem mb_X8_add_0 : Cond.fieldLink RX8 37 "GuardDesk$Targets" "hand" "[I" ∈ wsX8_add := List.mem_of_getElem? (i := 9) rfl
theorem mb_X8_add_1 : Cond.fieldLink RX8 40 "GuardDesk$Targets" "size" "I" ∈ wsX8_add := List.mem_of_getElem? (i := 1) rfl
theorem mb_X8_add_2 : Cond.fieldLink RX8 15 "GuardDesk$Targets" "kind" "[I" ∈ wsX8_add := List.mem_of_getElem? (i := 2) rfl
theorem mb_X8_add_3 : Cond.fieldLink RX8 19 "GuardDesk$Targets" "saved" "[I" ∈ wsX8_add := List.mem_of_getElem? (i := 3) rfl
theorem mb_X8_add_4 : Cond.fieldLink RX8 22 "GuardDesk$Targets" "lost" "[I" ∈ wsX8_add := List.mem_of_getElem? (i := 4) rfl
theorem mb_X8_add_5 : Cond.fieldLink RX8 25 "GuardDesk$Targets" "gain" "[I" ∈ wsX8_add := List.mem_of_getElem? (i := 5) rfl
theorem mb_X8_add_6 : Cond.fieldLink RX8 28 "GuardDesk$Targets" "gap" "[I" ∈ wsX8_add := List.mem_of_getElem? (i := 6) rfl
theorem mb_X8_add_7 : Cond.fieldLink RX8 31 "GuardDesk$Targets" "least" "[I" ∈ wsX8_add := List.mem_of_getElem? (i := 7) rfl
theorem mb_X8_add_8 : Cond.fieldLink RX8 34 "GuardDesk$Targets" "most" "[I" ∈ wsX8_add := List.mem_of_getElem? (i := 8) rfl
set_option maxRecDepth 100000 in
set_option maxHeartbeats 4000000 in
theorem t_X8_add_b73 (C : cx D cI cJ cZ cG A cX8_add 7 (some .int) RX8 wsX8_add p s m args meth c) (a_x a_x_kind a_x_saved a_x_lost a_x_gain a_x_gap a_x_least a_x_most a_x_hand : Nat) (x_guards : Int32) (q : Int32 × Int32 × (Nat → Int32) × (Nat → Int32) × (Nat → Int32) × (Nat → Int32) × (Nat → Int32) × (Nat → Int32) × (Nat → Int32) × (Nat → Int32)) (x_size : Int32) (x_kind : (Nat → Int32)) (x_saved : (Nat → Int32)) (x_lost : (Nat → Int32)) (x_gain : (Nat → Int32)) (x_gap : (Nat → Int32)) (x_least : (Nat → Int32)) (x_most : (Nat → Int32)) (x_hand : (Nat → Int32)) (k1 : Int32) (k2 : Int32) (v6 : Int32) (h : f_X8_add_b73 x_size x_kind x_saved x_lost x_gain x_gap x_least x_most x_hand k1 k2 v6 = some q) : WB p l e rm_X8_add s m args below meth c (MQ below (Qg D (some (.int q.1)) (w_X8_add cI cJ cZ cG a_x a_x_kind a_x_saved a_x_lost a_x_gain a_x_gap a_x_least a_x_most a_x_hand q.2.1 x_guards q.2.2.1 q.2.2.2.1 q.2.2.2.2.1 q.2.2.2.2.2.1 q.2.2.2.2.2.2.1 q.2.2.2.2.2.2.2.1 q.2.2.2.2.2.2.2.2.1 q.2.2.2.2.2.2.2.2.2) A) args s 0 0 A) D A 7 (w_X8_add cI cJ cZ cG a_x a_x_kind a_x_saved a_x_lost a_x_gain a_x_gap a_x_least a_x_most a_x_hand x_size x_guards x_kind x_saved x_lost x_gain x_gap x_least x_most x_hand) [(0, .ref a_x), (6, .int v6)] [.int k2, .int k1, .ref a_x_most] 73 := by
  obtain ⟨hx, hb, hr, hml, hown, hts, hlk, hgk, hA⟩ := id C
  have hK := hgk.1
  unfold f_X8_add_b73 at h
  intro H locs ls hP hD hS hl
  obtain ⟨i1, h⟩ := gI_some h
  refine va_iast hx hb hK hP hD hS 7 0 rfl rfl i1 dX8_add_73 (fun H locs hP hD hS => ?_)
  have hP : va_P D vwCl (w_X8_add cI cJ cZ cG a_x a_x_kind a_x_saved a_x_lost a_x_gain a_x_gap a_x_least a_x_most a_x_hand x_size x_guards x_kind x_saved x_lost x_gain x_gap x_least (upd x_most k1.toNatClampNeg k2) x_hand) H := hP
  have hD : va_D A (w_X8_add cI cJ cZ cG a_x a_x_kind a_x_saved a_x_lost a_x_gain a_x_gap a_x_least a_x_most a_x_hand x_size x_guards x_kind x_saved x_lost x_gain x_gap x_least (upd x_most k1.toNatClampNeg k2) x_hand) := hD
  refine lv_aload_n hx hb dX8_add_74 rfl (lv_at hl 0 rfl) ?_
  refine va_get (D := D) (ci := 8) (v := .ref a_x_hand) (C := RX8) (T := TX8) (N := 10) hx hb hts in_X8_add_X8 hown hK hP 0 rfl rfl 9 (by decide) (hts _ mb_X8_add_0) (fun _ h9 => h9) rfl dX8_add_75 ?_
  refine lv_iload hx hb dX8_add_78 (lv_at hl 1 rfl) ?_
  refine lv_iconst (v := 0) hx hb dX8_add_80 (by decide) ?_
  obtain ⟨i2, h⟩ := gI_some h
  refine va_iast hx hb hK hP hD hS 8 0 rfl rfl i2 dX8_add_81 (fun H locs hP hD hS => ?_)
  have hP : va_P D vwCl (w_X8_add cI cJ cZ cG a_x a_x_kind a_x_saved a_x_lost a_x_gain a_x_gap a_x_least a_x_most a_x_hand x_size x_guards x_kind x_saved x_lost x_gain x_gap x_least (upd x_most k1.toNatClampNeg k2) (upd x_hand v6.toNatClampNeg 0)) H := hP
  have hD : va_D A (w_X8_add cI cJ cZ cG a_x a_x_kind a_x_saved a_x_lost a_x_gain a_x_gap a_x_least a_x_most a_x_hand x_size x_guards x_kind x_saved x_lost x_gain x_gap x_least (upd x_most k1.toNatClampNeg k2) (upd x_hand v6.toNatClampNeg 0)) := hD
  refine lv_aload_n hx hb dX8_add_82 rfl (lv_at hl 0 rfl) ?_
  refine lv_dup hx hb dX8_add_83 rfl ?_
  refine va_get (D := D) (ci := 8) (v := .int x_size) (C := RX8) (T := TX8) (N := 10) hx hb hts in_X8_add_X8 hown hK hP 0 rfl rfl 0 (by decide) (hts _ mb_X8_add_1) (fun _ h9 => h9) rfl dX8_add_84 ?_
  refine lv_iconst (v := 1) hx hb dX8_add_87 (by decide) ?_
  refine lv_iadd hx hb dX8_add_88 ?_
  refine va_put (D := D) (ci := 8) (v := .int (x_size + 1)) (ty := .int) (C := RX8) (T := TX8) (N := 10) hx hb hts in_X8_add_X8 tyX8 tyX8_ok nmX8 hown hK hP hD hS 0 rfl rfl 0 (by decide) (hts _ mb_X8_add_1) (fun _ h9 => h9) rfl (by decide +kernel) rfl rfl (Nat.le_of_ble_eq_true rfl) dX8_add_89 (fun H locs hP hD hS => ?_)
  have hP : va_P D vwCl (w_X8_add cI cJ cZ cG a_x a_x_kind a_x_saved a_x_lost a_x_gain a_x_gap a_x_least a_x_most a_x_hand (x_size + 1) x_guards x_kind x_saved x_lost x_gain x_gap x_least (upd x_most k1.toNatClampNeg k2) (upd x_hand v6.toNatClampNeg 0)) H := hP
  have hD : va_D A (w_X8_add cI cJ cZ cG a_x a_x_kind a_x_saved a_x_lost a_x_gain a_x_gap a_x_least a_x_most a_x_hand (x_size + 1) x_guards x_kind x_saved x_lost x_gain x_gap x_least (upd x_most k1.toNatClampNeg k2) (upd x_hand v6.toNatClampNeg 0)) := hD
  refine lv_iload hx hb dX8_add_92 (lv_at hl 1 rfl) ?_
  obtain rfl := Option.some.inj h
  exact g_iret C hP hD hS dX8_add_94
set_option maxRecDepth 100000 in
set_option maxHeartbeats 4000000 in
theorem c_X8_add (l : Launch) (D : va_G) (cI cJ cZ cG : ClassId) (a_x a_x_kind a_x_saved a_x_lost a_x_gain a_x_gap a_x_least a_x_most a_x_hand : Nat) (x_size : Int32) (x_guards : Int32) (x_kind : (Nat → Int32)) (x_saved : (Nat → Int32)) (x_lost : (Nat → Int32)) (x_gain : (Nat → Int32)) (x_gap : (Nat → Int32)) (x_least : (Nat → Int32)) (x_most : (Nat → Int32)) (x_hand : (Nat → Int32)) (p1 : Int32) (p2 : Int32) (p3 : Int32) (p4 : Int32) (p5 : Int32) (q : Int32 × Int32 × (Nat → Int32) × (Nat → Int32) × (Nat → Int32) × (Nat → Int32) × (Nat → Int32) × (Nat → Int32) × (Nat → Int32) × (Nat → Int32)) (h : f_X8_add x_size x_kind x_saved x_lost x_gain x_gap x_least x_most x_hand p1 p2 p3 p4 p5 = some q) : gMet l yX8_add wsX8_add rm_X8_add [.ref a_x, .int p1, .int p2, .int p3, .int p4, .int p5] (w_X8_add cI cJ cZ cG a_x a_x_kind a_x_saved a_x_lost a_x_gain a_x_gap a_x_least a_x_most a_x_hand x_size x_guards x_kind x_saved x_lost x_gain x_gap x_least x_most x_hand) (w_X8_add cI cJ cZ cG a_x a_x_kind a_x_saved a_x_lost a_x_gain a_x_gap a_x_least a_x_most a_x_hand q.2.1 x_guards q.2.2.1 q.2.2.2.1 q.2.2.2.2.1 q.2.2.2.2.2.1 q.2.2.2.2.2.2.1 q.2.2.2.2.2.2.2.1 q.2.2.2.2.2.2.2.2.1 q.2.2.2.2.2.2.2.2.2) (some (.int q.1)) D cI cJ cZ cG := by
  refine g_enter (cc := cX8_add) (nL := 7) (ret := (some .int)) (by decide) rfl (Nat.le_of_ble_eq_true rfl) ?_
  intro p e s m below meth c A C H locs ls hP hD hS hl
  obtain ⟨hx, hb, hr, hml, hown, hts, hlk, hgk, hA⟩ := id C
  have hK := hgk.1
  have hl : lv_has ls 7 [(0, .ref a_x), (1, .int p1), (2, .int p2), (3, .int p3), (4, .int p4), (5, .int p5)] := hl
  unfold f_X8_add at h
  refine lv_aload_n hx hb dX8_add_0 rfl (lv_at hl 0 rfl) ?_
  refine va_get (D := D) (ci := 8) (v := .int x_size) (C := RX8) (T := TX8) (N := 10) hx hb hts in_X8_add_X8 hown hK hP 0 rfl rfl 0 (by decide) (hts _ mb_X8_add_1) (fun _ h9 => h9) rfl dX8_add_1 ?_
  refine lv_istore (lv' := [(6, .int x_size), (0, .ref a_x), (1, .int p1), (2, .int p2), (3, .int p3), (4, .int p4), (5, .int p5)]) hx hb dX8_add_4 hl (by decide) rfl (fun ls hl => ?_)
  refine lv_aload_n hx hb dX8_add_6 rfl (lv_at hl 1 rfl) ?_
  refine va_get (D := D) (ci := 8) (v := .ref a_x_kind) (C := RX8) (T := TX8) (N := 10) hx hb hts in_X8_add_X8 hown hK hP 0 rfl rfl 2 (by decide) (hts _ mb_X8_add_2) (fun _ h9 => h9) rfl dX8_add_7 ?_
  refine lv_iload hx hb dX8_add_10 (lv_at hl 0 rfl) ?_
  refine lv_iload_n hx hb dX8_add_12 rfl (lv_at hl 2 rfl) ?_
  obtain ⟨i1, h⟩ := gI_some h
  refine va_iast hx hb hK hP hD hS 1 0 rfl rfl i1 dX8_add_13 (fun H locs hP hD hS => ?_)
  have hP : va_P D vwCl (w_X8_add cI cJ cZ cG a_x a_x_kind a_x_saved a_x_lost a_x_gain a_x_gap a_x_least a_x_most a_x_hand x_size x_guards (upd x_kind x_size.toNatClampNeg p1) x_saved x_lost x_gain x_gap x_least x_most x_hand) H := hP
  have hD : va_D A (w_X8_add cI cJ cZ cG a_x a_x_kind a_x_saved a_x_lost a_x_gain a_x_gap a_x_least a_x_most a_x_hand x_size x_guards (upd x_kind x_size.toNatClampNeg p1) x_saved x_lost x_gain x_gap x_least x_most x_hand) := hD
  refine lv_aload_n hx hb dX8_add_14 rfl (lv_at hl 1 rfl) ?_
  refine va_get (D := D) (ci := 8) (v := .ref a_x_saved) (C := RX8) (T := TX8) (N := 10) hx hb hts in_X8_add_X8 hown hK hP 0 rfl rfl 3 (by decide) (hts _ mb_X8_add_3) (fun _ h9 => h9) rfl dX8_add_15 ?_
  refine lv_iload hx hb dX8_add_18 (lv_at hl 0 rfl) ?_
  refine lv_iload_n hx hb dX8_add_20 rfl (lv_at hl 3 rfl) ?_
  obtain ⟨i2, h⟩ := gI_some h
  refine va_iast hx hb hK hP hD hS 2 0 rfl rfl i2 dX8_add_21 (fun H locs hP hD hS => ?_)
  have hP : va_P D vwCl (w_X8_add cI cJ cZ cG a_x a_x_kind a_x_saved a_x_lost a_x_gain a_x_gap a_x_least a_x_most a_x_hand x_size x_guards (upd x_kind x_size.toNatClampNeg p1) (upd x_saved x_size.toNatClampNeg p2) x_lost x_gain x_gap x_least x_most x_hand) H := hP
  have hD : va_D A (w_X8_add cI cJ cZ cG a_x a_x_kind a_x_saved a_x_lost a_x_gain a_x_gap a_x_least a_x_most a_x_hand x_size x_guards (upd x_kind x_size.toNatClampNeg p1) (upd x_saved x_size.toNatClampNeg p2) x_lost x_gain x_gap x_least x_most x_hand) := hD
  refine lv_aload_n hx hb dX8_add_22 rfl (lv_at hl 1 rfl) ?_
  refine va_get (D := D) (ci := 8) (v := .ref a_x_lost) (C := RX8) (T := TX8) (N := 10) hx hb hts in_X8_add_X8 hown hK hP 0 rfl rfl 4 (by decide) (hts _ mb_X8_add_4) (fun _ h9 => h9) rfl dX8_add_23 ?_
  refine lv_iload hx hb dX8_add_26 (lv_at hl 0 rfl) ?_
  refine lv_iload_n hx hb dX8_add_28 rfl (lv_at hl 4 rfl) ?_
  obtain ⟨i3, h⟩ := gI_some h
  refine va_iast hx hb hK hP hD hS 3 0 rfl rfl i3 dX8_add_29 (fun H locs hP hD hS => ?_)
  have hP : va_P D vwCl (w_X8_add cI cJ cZ cG a_x a_x_kind a_x_saved a_x_lost a_x_gain a_x_gap a_x_least a_x_most a_x_hand x_size x_guards (upd x_kind x_size.toNatClampNeg p1) (upd x_saved x_size.toNatClampNeg p2) (upd x_lost x_size.toNatClampNeg p3) x_gain x_gap x_least x_most x_hand) H := hP
  have hD : va_D A (w_X8_add cI cJ cZ cG a_x a_x_kind a_x_saved a_x_lost a_x_gain a_x_gap a_x_least a_x_most a_x_hand x_size x_guards (upd x_kind x_size.toNatClampNeg p1) (upd x_saved x_size.toNatClampNeg p2) (upd x_lost x_size.toNatClampNeg p3) x_gain x_gap x_least x_most x_hand) := hD
  refine lv_aload_n hx hb dX8_add_30 rfl (lv_at hl 1 rfl) ?_
  refine va_get (D := D) (ci := 8) (v := .ref a_x_gain) (C := RX8) (T := TX8) (N := 10) hx hb hts in_X8_add_X8 hown hK hP 0 rfl rfl 5 (by decide) (hts _ mb_X8_add_5) (fun _ h9 => h9) rfl dX8_add_31 ?_
  refine lv_iload hx hb dX8_add_34 (lv_at hl 0 rfl) ?_
  refine lv_iload hx hb dX8_add_36 (lv_at hl 5 rfl) ?_
  obtain ⟨i4, h⟩ := gI_some h
  refine va_iast hx hb hK hP hD hS 4 0 rfl rfl i4 dX8_add_38 (fun H locs hP hD hS => ?_)
  have hP : va_P D vwCl (w_X8_add cI cJ cZ cG a_x a_x_kind a_x_saved a_x_lost a_x_gain a_x_gap a_x_least a_x_most a_x_hand x_size x_guards (upd x_kind x_size.toNatClampNeg p1) (upd x_saved x_size.toNatClampNeg p2) (upd x_lost x_size.toNatClampNeg p3) (upd x_gain x_size.toNatClampNeg p4) x_gap x_least x_most x_hand) H := hP
  have hD : va_D A (w_X8_add cI cJ cZ cG a_x a_x_kind a_x_saved a_x_lost a_x_gain a_x_gap a_x_least a_x_most a_x_hand x_size x_guards (upd x_kind x_size.toNatClampNeg p1) (upd x_saved x_size.toNatClampNeg p2) (upd x_lost x_size.toNatClampNeg p3) (upd x_gain x_size.toNatClampNeg p4) x_gap x_least x_most x_hand) := hD
  refine lv_aload_n hx hb dX8_add_39 rfl (lv_at hl 1 rfl) ?_
  refine va_get (D := D) (ci := 8) (v := .ref a_x_gap) (C := RX8) (T := TX8) (N := 10) hx hb hts in_X8_add_X8 hown hK hP 0 rfl rfl 6 (by decide) (hts _ mb_X8_add_6) (fun _ h9 => h9) rfl dX8_add_40 ?_
  refine lv_iload hx hb dX8_add_43 (lv_at hl 0 rfl) ?_
  refine lv_iload hx hb dX8_add_45 (lv_at hl 6 rfl) ?_
  obtain ⟨i5, h⟩ := gI_some h
  refine va_iast hx hb hK hP hD hS 5 0 rfl rfl i5 dX8_add_47 (fun H locs hP hD hS => ?_)
  have hP : va_P D vwCl (w_X8_add cI cJ cZ cG a_x a_x_kind a_x_saved a_x_lost a_x_gain a_x_gap a_x_least a_x_most a_x_hand x_size x_guards (upd x_kind x_size.toNatClampNeg p1) (upd x_saved x_size.toNatClampNeg p2) (upd x_lost x_size.toNatClampNeg p3) (upd x_gain x_size.toNatClampNeg p4) (upd x_gap x_size.toNatClampNeg p5) x_least x_most x_hand) H := hP
  have hD : va_D A (w_X8_add cI cJ cZ cG a_x a_x_kind a_x_saved a_x_lost a_x_gain a_x_gap a_x_least a_x_most a_x_hand x_size x_guards (upd x_kind x_size.toNatClampNeg p1) (upd x_saved x_size.toNatClampNeg p2) (upd x_lost x_size.toNatClampNeg p3) (upd x_gain x_size.toNatClampNeg p4) (upd x_gap x_size.toNatClampNeg p5) x_least x_most x_hand) := hD
  refine lv_aload_n hx hb dX8_add_48 rfl (lv_at hl 1 rfl) ?_
  refine va_get (D := D) (ci := 8) (v := .ref a_x_least) (C := RX8) (T := TX8) (N := 10) hx hb hts in_X8_add_X8 hown hK hP 0 rfl rfl 7 (by decide) (hts _ mb_X8_add_7) (fun _ h9 => h9) rfl dX8_add_49 ?_
  refine lv_iload hx hb dX8_add_52 (lv_at hl 0 rfl) ?_
  refine lv_iconst (v := 0) hx hb dX8_add_54 (by decide) ?_
  obtain ⟨i6, h⟩ := gI_some h
  refine va_iast hx hb hK hP hD hS 6 0 rfl rfl i6 dX8_add_55 (fun H locs hP hD hS => ?_)
  have hP : va_P D vwCl (w_X8_add cI cJ cZ cG a_x a_x_kind a_x_saved a_x_lost a_x_gain a_x_gap a_x_least a_x_most a_x_hand x_size x_guards (upd x_kind x_size.toNatClampNeg p1) (upd x_saved x_size.toNatClampNeg p2) (upd x_lost x_size.toNatClampNeg p3) (upd x_gain x_size.toNatClampNeg p4) (upd x_gap x_size.toNatClampNeg p5) (upd x_least x_size.toNatClampNeg 0) x_most x_hand) H := hP
  have hD : va_D A (w_X8_add cI cJ cZ cG a_x a_x_kind a_x_saved a_x_lost a_x_gain a_x_gap a_x_least a_x_most a_x_hand x_size x_guards (upd x_kind x_size.toNatClampNeg p1) (upd x_saved x_size.toNatClampNeg p2) (upd x_lost x_size.toNatClampNeg p3) (upd x_gain x_size.toNatClampNeg p4) (upd x_gap x_size.toNatClampNeg p5) (upd x_least x_size.toNatClampNeg 0) x_most x_hand) := hD
  refine lv_aload_n hx hb dX8_add_56 rfl (lv_at hl 1 rfl) ?_
  refine va_get (D := D) (ci := 8) (v := .ref a_x_most) (C := RX8) (T := TX8) (N := 10) hx hb hts in_X8_add_X8 hown hK hP 0 rfl rfl 8 (by decide) (hts _ mb_X8_add_8) (fun _ h9 => h9) rfl dX8_add_57 ?_
  refine lv_iload hx hb dX8_add_60 (lv_at hl 0 rfl) ?_
  refine lv_iload_n hx hb dX8_add_62 rfl (lv_at hl 2 rfl) ?_
  refine lv_iconst (v := 1) hx hb dX8_add_63 (by decide) ?_
  refine lv_icmp_ne (tgt := 71) hx hb dX8_add_64 (by decide) (fun c7 => ?_) (fun c7 => ?_)
  · have h := iff_ c7 h
    refine lv_bipush (v := 60) hx hb dX8_add_71 (by decide) ?_
    exact t_X8_add_b73 C a_x a_x_kind a_x_saved a_x_lost a_x_gain a_x_gap a_x_least a_x_most a_x_hand x_guards q x_size (upd x_kind x_size.toNatClampNeg p1) (upd x_saved x_size.toNatClampNeg p2) (upd x_lost x_size.toNatClampNeg p3) (upd x_gain x_size.toNatClampNeg p4) (upd x_gap x_size.toNatClampNeg p5) (upd x_least x_size.toNatClampNeg 0) x_most x_hand x_size 60 x_size h H locs ls hP hD hS (lv_sub hl [1, 0] rfl)
  · have h := ift c7 h
    refine lv_iconst (v := 0) hx hb dX8_add_67 (by decide) ?_
    refine lv_goto (tgt := 73) hx hb dX8_add_68 (by decide) ?_
    exact t_X8_add_b73 C a_x a_x_kind a_x_saved a_x_lost a_x_gain a_x_gap a_x_least a_x_most a_x_hand x_guards q x_size (upd x_kind x_size.toNatClampNeg p1) (upd x_saved x_size.toNatClampNeg p2) (upd x_lost x_size.toNatClampNeg p3) (upd x_gain x_size.toNatClampNeg p4) (upd x_gap x_size.toNatClampNeg p5) (upd x_least x_size.toNatClampNeg 0) x_most x_hand x_size 0 x_size h H locs ls hP hD hS (lv_sub hl [1, 0] rfl)
theorem in_X8_putNearest_X8 : ∀ w ∈ wsX80, w ∈ wsX8_putNearest := by decide +kernel
theorem mb_X8_putNearest_0 : Cond.fieldLink RX8 37 "GuardDesk$Targets" "hand" "[I" ∈ wsX8_putNearest := List.mem_of_getElem? (i := 1) rfl
theorem mb_X8_putNearest_1 : Cond.fieldLink RX8 31 "GuardDesk$Targets" "least" "[I" ∈ wsX8_putNearest := List.mem_of_getElem? (i := 2) rfl
theorem mb_X8_putNearest_2 : Cond.fieldLink RX8 34 "GuardDesk$Targets" "most" "[I" ∈ wsX8_putNearest := List.mem_of_getElem? (i := 3) rfl
theorem mb_X8_putNearest_3 : Cond.methodLink RX8 53 Lib.Math.min.name ∈ wsX8_putNearest := List.mem_of_getElem? (i := 4) rfl
theorem mb_X8_putNearest_4 : Cond.static Lib.Math.min.name ∈ wsX8_putNearest := List.mem_of_getElem? (i := 5) rfl
theorem mb_X8_putNearest_5 : Cond.initialized "java/lang/Math" ∈ wsX8_putNearest := List.mem_of_getElem? (i := 6) rfl
theorem mb_X8_putNearest_6 : Cond.code Lib.Math.min.name Lib.Math.min.code 2 (some .int) ∈ wsX8_putNearest := List.mem_of_getElem? (i := 7) rfl
theorem mb_X8_putNearest_7 : Cond.methodLink RX8 59 Lib.Math.max.name ∈ wsX8_putNearest := List.mem_of_getElem? (i := 8) rfl
theorem mb_X8_putNearest_8 : Cond.static Lib.Math.max.name ∈ wsX8_putNearest := List.mem_of_getElem? (i := 9) rfl
theorem mb_X8_putNearest_9 : Cond.code Lib.Math.max.name Lib.Math.max.code 2 (some .int) ∈ wsX8_putNearest := List.mem_of_getElem? (i := 10) rfl
set_option maxRecDepth 100000 in
set_option maxHeartbeats 4000000 in
theorem c_X8_putNearest (l : Launch) (D : va_G) (cI cJ cZ cG : ClassId) (a_x a_x_kind a_x_saved a_x_lost a_x_gain a_x_gap a_x_least a_x_most a_x_hand : Nat) (x_size : Int32) (x_guards : Int32) (x_least : (Nat → Int32)) (x_most : (Nat → Int32)) (x_hand : (Nat → Int32)) (p1 : Int32) (p2 : Int32) (q : Int32 × (Nat → Int32)) (h : f_X8_putNearest x_least x_most x_hand p1 p2 = some q) : gMet l yX8_putNearest wsX8_putNearest rm_X8_putNearest [.ref a_x, .int p1, .int p2] (w_X8_putNearest cI cJ cZ cG a_x a_x_kind a_x_saved a_x_lost a_x_gain a_x_gap a_x_least a_x_most a_x_hand x_size x_guards x_least x_most x_hand) (w_X8_putNearest cI cJ cZ cG a_x a_x_kind a_x_saved a_x_lost a_x_gain a_x_gap a_x_least a_x_most a_x_hand x_size x_guards x_least x_most q.2) (some (.int q.1)) D cI cJ cZ cG := by
  refine g_enter (cc := cX8_putNearest) (nL := 3) (ret := (some .int)) (by decide) rfl (Nat.le_of_ble_eq_true rfl) ?_
  intro p e s m below meth c A C H locs ls hP hD hS hl
  obtain ⟨hx, hb, hr, hml, hown, hts, hlk, hgk, hA⟩ := id C
  have hK := hgk.1
  have hl : lv_has ls 3 [(0, .ref a_x), (1, .int p1), (2, .int p2)] := hl
  unfold f_X8_putNearest at h
  refine lv_aload_n hx hb dX8_putNearest_0 rfl (lv_at hl 0 rfl) ?_
  refine va_get (D := D) (ci := 8) (v := .ref a_x_hand) (C := RX8) (T := TX8) (N := 10) hx hb hts in_X8_putNearest_X8 hown hK hP 0 rfl rfl 9 (by decide) (hts _ mb_X8_putNearest_0) (fun _ h9 => h9) rfl dX8_putNearest_1 ?_
  refine lv_iload_n hx hb dX8_putNearest_4 rfl (lv_at hl 1 rfl) ?_
  refine lv_aload_n hx hb dX8_putNearest_5 rfl (lv_at hl 0 rfl) ?_
  refine va_get (D := D) (ci := 8) (v := .ref a_x_least) (C := RX8) (T := TX8) (N := 10) hx hb hts in_X8_putNearest_X8 hown hK hP 0 rfl rfl 7 (by decide) (hts _ mb_X8_putNearest_1) (fun _ h9 => h9) rfl dX8_putNearest_6 ?_
  refine lv_iload_n hx hb dX8_putNearest_9 rfl (lv_at hl 1 rfl) ?_
  obtain ⟨i1, h⟩ := gI_some h
  refine va_iald hx hb hK hP 1 0 rfl rfl i1 dX8_putNearest_10 ?_
  refine lv_aload_n hx hb dX8_putNearest_11 rfl (lv_at hl 0 rfl) ?_
  refine va_get (D := D) (ci := 8) (v := .ref a_x_most) (C := RX8) (T := TX8) (N := 10) hx hb hts in_X8_putNearest_X8 hown hK hP 0 rfl rfl 8 (by decide) (hts _ mb_X8_putNearest_2) (fun _ h9 => h9) rfl dX8_putNearest_12 ?_
  refine lv_iload_n hx hb dX8_putNearest_15 rfl (lv_at hl 1 rfl) ?_
  obtain ⟨i2, h⟩ := gI_some h
  refine va_iald hx hb hK hP 2 0 rfl rfl i2 dX8_putNearest_16 ?_
  refine lv_iload_n hx hb dX8_putNearest_17 rfl (lv_at hl 2 rfl) ?_
  refine va_mmin hx hb (hml.trans hl.1.symm) hown (hts _ mb_X8_putNearest_3) (hts _ mb_X8_putNearest_4) (hts _ mb_X8_putNearest_5) (hts _ mb_X8_putNearest_6) (Nat.le_of_ble_eq_true rfl) (Nat.le_of_ble_eq_true rfl) (Nat.zero_le _) (Nat.zero_le _) dX8_putNearest_18 ?_
  refine va_mmax hx hb (hml.trans hl.1.symm) hown (hts _ mb_X8_putNearest_7) (hts _ mb_X8_putNearest_8) (hts _ mb_X8_putNearest_5) (hts _ mb_X8_putNearest_9) (Nat.le_of_ble_eq_true rfl) (Nat.le_of_ble_eq_true rfl) (Nat.zero_le _) (Nat.zero_le _) dX8_putNearest_21 ?_
  obtain ⟨i3, h⟩ := gI_some h
  refine va_iast hx hb hK hP hD hS 3 0 rfl rfl i3 dX8_putNearest_24 (fun H locs hP hD hS => ?_)
  have hP : va_P D vwCl (w_X8_putNearest cI cJ cZ cG a_x a_x_kind a_x_saved a_x_lost a_x_gain a_x_gap a_x_least a_x_most a_x_hand x_size x_guards x_least x_most (upd x_hand p1.toNatClampNeg (if (x_least p1.toNatClampNeg) < (if p2 < (x_most p1.toNatClampNeg) then p2 else (x_most p1.toNatClampNeg)) then (if p2 < (x_most p1.toNatClampNeg) then p2 else (x_most p1.toNatClampNeg)) else (x_least p1.toNatClampNeg)))) H := hP
  have hD : va_D A (w_X8_putNearest cI cJ cZ cG a_x a_x_kind a_x_saved a_x_lost a_x_gain a_x_gap a_x_least a_x_most a_x_hand x_size x_guards x_least x_most (upd x_hand p1.toNatClampNeg (if (x_least p1.toNatClampNeg) < (if p2 < (x_most p1.toNatClampNeg) then p2 else (x_most p1.toNatClampNeg)) then (if p2 < (x_most p1.toNatClampNeg) then p2 else (x_most p1.toNatClampNeg)) else (x_least p1.toNatClampNeg)))) := hD
  refine lv_aload_n hx hb dX8_putNearest_25 rfl (lv_at hl 0 rfl) ?_
  refine va_get (D := D) (ci := 8) (v := .ref a_x_hand) (C := RX8) (T := TX8) (N := 10) hx hb hts in_X8_putNearest_X8 hown hK hP 0 rfl rfl 9 (by decide) (hts _ mb_X8_putNearest_0) (fun _ h9 => h9) rfl dX8_putNearest_26 ?_
  refine lv_iload_n hx hb dX8_putNearest_29 rfl (lv_at hl 1 rfl) ?_
  obtain ⟨i4, h⟩ := gI_some h
  refine va_iald hx hb hK hP 3 0 rfl rfl i4 dX8_putNearest_30 ?_
  refine lv_iload_n hx hb dX8_putNearest_31 rfl (lv_at hl 2 rfl) ?_
  refine lv_icmp_ne (tgt := 39) hx hb dX8_putNearest_32 (by decide) (fun c5 => ?_) (fun c5 => ?_)
  · have h := iff_ c5 h
    refine lv_iconst (v := 1) hx hb dX8_putNearest_39 (by decide) ?_
    obtain rfl := Option.some.inj h
    exact g_iret C hP hD hS dX8_putNearest_40
  · have h := ift c5 h
    refine lv_iconst (v := 0) hx hb dX8_putNearest_35 (by decide) ?_
    refine lv_goto (tgt := 40) hx hb dX8_putNearest_36 (by decide) ?_
    obtain rfl := Option.some.inj h
    exact g_iret C hP hD hS dX8_putNearest_40
theorem in_X8_thiefByHand_X8 : ∀ w ∈ wsX80, w ∈ wsX8_thiefByHand := by decide +kernel
theorem mb_X8_thiefByHand_0 : Cond.fieldLink RX8 25 "GuardDesk$Targets" "gain" "[I" ∈ wsX8_thiefByHand := List.mem_of_getElem? (i := 1) rfl
theorem mb_X8_thiefByHand_1 : Cond.fieldLink RX8 37 "GuardDesk$Targets" "hand" "[I" ∈ wsX8_thiefByHand := List.mem_of_getElem? (i := 2) rfl
theorem mb_X8_thiefByHand_2 : Cond.fieldLink RX8 28 "GuardDesk$Targets" "gap" "[I" ∈ wsX8_thiefByHand := List.mem_of_getElem? (i := 3) rfl
set_option maxRecDepth 100000 in
set_option maxHeartbeats 4000000 in
theorem c_X8_thiefByHand (l : Launch) (D : va_G) (cI cJ cZ cG : ClassId) (a_x a_x_kind a_x_saved a_x_lost a_x_gain a_x_gap a_x_least a_x_most a_x_hand : Nat) (x_size : Int32) (x_guards : Int32) (x_gain : (Nat → Int32)) (x_gap : (Nat → Int32)) (x_hand : (Nat → Int32)) (p1 : Int32) (q : Int32) (h : f_X8_thiefByHand x_gain x_gap x_hand p1 = some q) : gMet l yX8_thiefByHand wsX8_thiefByHand rm_X8_thiefByHand [.ref a_x, .int p1] (w_X8_thiefByHand cI cJ cZ cG a_x a_x_kind a_x_saved a_x_lost a_x_gain a_x_gap a_x_least a_x_most a_x_hand x_size x_guards x_gain x_gap x_hand) (w_X8_thiefByHand cI cJ cZ cG a_x a_x_kind a_x_saved a_x_lost a_x_gain a_x_gap a_x_least a_x_most a_x_hand x_size x_guards x_gain x_gap x_hand) (some (.int q)) D cI cJ cZ cG := by
  refine g_enter (cc := cX8_thiefByHand) (nL := 2) (ret := (some .int)) (by decide) rfl (Nat.le_of_ble_eq_true rfl) ?_
  intro p e s m below meth c A C H locs ls hP hD hS hl
  obtain ⟨hx, hb, hr, hml, hown, hts, hlk, hgk, hA⟩ := id C
  have hK := hgk.1
  have hl : lv_has ls 2 [(0, .ref a_x), (1, .int p1)] := hl
  unfold f_X8_thiefByHand at h
  refine lv_bipush (v := 60) hx hb dX8_thiefByHand_0 (by decide) ?_
  refine lv_aload_n hx hb dX8_thiefByHand_2 rfl (lv_at hl 0 rfl) ?_
  refine va_get (D := D) (ci := 8) (v := .ref a_x_gain) (C := RX8) (T := TX8) (N := 10) hx hb hts in_X8_thiefByHand_X8 hown hK hP 0 rfl rfl 5 (by decide) (hts _ mb_X8_thiefByHand_0) (fun _ h9 => h9) rfl dX8_thiefByHand_3 ?_
  refine lv_iload_n hx hb dX8_thiefByHand_6 rfl (lv_at hl 1 rfl) ?_
  obtain ⟨i1, h⟩ := gI_some h
  refine va_iald hx hb hK hP 1 0 rfl rfl i1 dX8_thiefByHand_7 ?_
  refine lv_imul hx hb dX8_thiefByHand_8 ?_
  refine lv_aload_n hx hb dX8_thiefByHand_9 rfl (lv_at hl 0 rfl) ?_
  refine va_get (D := D) (ci := 8) (v := .ref a_x_hand) (C := RX8) (T := TX8) (N := 10) hx hb hts in_X8_thiefByHand_X8 hown hK hP 0 rfl rfl 9 (by decide) (hts _ mb_X8_thiefByHand_1) (fun _ h9 => h9) rfl dX8_thiefByHand_10 ?_
  refine lv_iload_n hx hb dX8_thiefByHand_13 rfl (lv_at hl 1 rfl) ?_
  obtain ⟨i2, h⟩ := gI_some h
  refine va_iald hx hb hK hP 3 0 rfl rfl i2 dX8_thiefByHand_14 ?_
  refine lv_aload_n hx hb dX8_thiefByHand_15 rfl (lv_at hl 0 rfl) ?_
  refine va_get (D := D) (ci := 8) (v := .ref a_x_gap) (C := RX8) (T := TX8) (N := 10) hx hb hts in_X8_thiefByHand_X8 hown hK hP 0 rfl rfl 6 (by decide) (hts _ mb_X8_thiefByHand_2) (fun _ h9 => h9) rfl dX8_thiefByHand_16 ?_
  refine lv_iload_n hx hb dX8_thiefByHand_19 rfl (lv_at hl 1 rfl) ?_
  obtain ⟨i3, h⟩ := gI_some h
  refine va_iald hx hb hK hP 2 0 rfl rfl i3 dX8_thiefByHand_20 ?_
  refine lv_imul hx hb dX8_thiefByHand_21 ?_
  refine lv_isub hx hb dX8_thiefByHand_22 ?_
  obtain rfl := Option.some.inj h
  exact g_iret C hP hD hS dX8_thiefByHand_23
theorem in_X8_keeperByHand_X8 : ∀ w ∈ wsX80, w ∈ wsX8_keeperByHand := by decide +kernel
theorem mb_X8_keeperByHand_0 : Cond.fieldLink RX8 22 "GuardDesk$Targets" "lost" "[I" ∈ wsX8_keeperByHand := List.mem_of_getElem? (i := 1) rfl
theorem mb_X8_keeperByHand_1 : Cond.fieldLink RX8 37 "GuardDesk$Targets" "hand" "[I" ∈ wsX8_keeperByHand := List.mem_of_getElem? (i := 2) rfl
theorem mb_X8_keeperByHand_2 : Cond.fieldLink RX8 19 "GuardDesk$Targets" "saved" "[I" ∈ wsX8_keeperByHand := List.mem_of_getElem? (i := 3) rfl
set_option maxRecDepth 100000 in
set_option maxHeartbeats 4000000 in
theorem c_X8_keeperByHand (l : Launch) (D : va_G) (cI cJ cZ cG : ClassId) (a_x a_x_kind a_x_saved a_x_lost a_x_gain a_x_gap a_x_least a_x_most a_x_hand : Nat) (x_size : Int32) (x_guards : Int32) (x_saved : (Nat → Int32)) (x_lost : (Nat → Int32)) (x_hand : (Nat → Int32)) (p1 : Int32) (q : Int32) (h : f_X8_keeperByHand x_saved x_lost x_hand p1 = some q) : gMet l yX8_keeperByHand wsX8_keeperByHand rm_X8_keeperByHand [.ref a_x, .int p1] (w_X8_keeperByHand cI cJ cZ cG a_x a_x_kind a_x_saved a_x_lost a_x_gain a_x_gap a_x_least a_x_most a_x_hand x_size x_guards x_saved x_lost x_hand) (w_X8_keeperByHand cI cJ cZ cG a_x a_x_kind a_x_saved a_x_lost a_x_gain a_x_gap a_x_least a_x_most a_x_hand x_size x_guards x_saved x_lost x_hand) (some (.int q)) D cI cJ cZ cG := by
  refine g_enter (cc := cX8_keeperByHand) (nL := 2) (ret := (some .int)) (by decide) rfl (Nat.le_of_ble_eq_true rfl) ?_
  intro p e s m below meth c A C H locs ls hP hD hS hl
  obtain ⟨hx, hb, hr, hml, hown, hts, hlk, hgk, hA⟩ := id C
  have hK := hgk.1
  have hl : lv_has ls 2 [(0, .ref a_x), (1, .int p1)] := hl
  unfold f_X8_keeperByHand at h
  refine lv_bipush (v := 60) hx hb dX8_keeperByHand_0 (by decide) ?_
  refine lv_aload_n hx hb dX8_keeperByHand_2 rfl (lv_at hl 0 rfl) ?_
  refine va_get (D := D) (ci := 8) (v := .ref a_x_lost) (C := RX8) (T := TX8) (N := 10) hx hb hts in_X8_keeperByHand_X8 hown hK hP 0 rfl rfl 4 (by decide) (hts _ mb_X8_keeperByHand_0) (fun _ h9 => h9) rfl dX8_keeperByHand_3 ?_
  refine lv_iload_n hx hb dX8_keeperByHand_6 rfl (lv_at hl 1 rfl) ?_
  obtain ⟨i1, h⟩ := gI_some h
  refine va_iald hx hb hK hP 2 0 rfl rfl i1 dX8_keeperByHand_7 ?_
  refine lv_imul hx hb dX8_keeperByHand_8 ?_
  refine lv_aload_n hx hb dX8_keeperByHand_9 rfl (lv_at hl 0 rfl) ?_
  refine va_get (D := D) (ci := 8) (v := .ref a_x_hand) (C := RX8) (T := TX8) (N := 10) hx hb hts in_X8_keeperByHand_X8 hown hK hP 0 rfl rfl 9 (by decide) (hts _ mb_X8_keeperByHand_1) (fun _ h9 => h9) rfl dX8_keeperByHand_10 ?_
  refine lv_iload_n hx hb dX8_keeperByHand_13 rfl (lv_at hl 1 rfl) ?_
  obtain ⟨i2, h⟩ := gI_some h
  refine va_iald hx hb hK hP 3 0 rfl rfl i2 dX8_keeperByHand_14 ?_
  refine lv_aload_n hx hb dX8_keeperByHand_15 rfl (lv_at hl 0 rfl) ?_
  refine va_get (D := D) (ci := 8) (v := .ref a_x_saved) (C := RX8) (T := TX8) (N := 10) hx hb hts in_X8_keeperByHand_X8 hown hK hP 0 rfl rfl 3 (by decide) (hts _ mb_X8_keeperByHand_2) (fun _ h9 => h9) rfl dX8_keeperByHand_16 ?_
  refine lv_iload_n hx hb dX8_keeperByHand_19 rfl (lv_at hl 1 rfl) ?_
  obtain ⟨i3, h⟩ := gI_some h
  refine va_iald hx hb hK hP 1 0 rfl rfl i3 dX8_keeperByHand_20 ?_
  refine lv_aload_n hx hb dX8_keeperByHand_21 rfl (lv_at hl 0 rfl) ?_
  refine va_get (D := D) (ci := 8) (v := .ref a_x_lost) (C := RX8) (T := TX8) (N := 10) hx hb hts in_X8_keeperByHand_X8 hown hK hP 0 rfl rfl 4 (by decide) (hts _ mb_X8_keeperByHand_0) (fun _ h9 => h9) rfl dX8_keeperByHand_22 ?_
  refine lv_iload_n hx hb dX8_keeperByHand_25 rfl (lv_at hl 1 rfl) ?_
  obtain ⟨i4, h⟩ := gI_some h
  refine va_iald hx hb hK hP 2 0 rfl rfl i4 dX8_keeperByHand_26 ?_
  refine lv_isub hx hb dX8_keeperByHand_27 ?_
  refine lv_imul hx hb dX8_keeperByHand_28 ?_
  refine lv_iadd hx hb dX8_keeperByHand_29 ?_
  obtain rfl := Option.some.inj h
  exact g_iret C hP hD hS dX8_keeperByHand_30
theorem in_X8_goalByHand_X8 : ∀ w ∈ wsX80, w ∈ wsX8_goalByHand := by decide +kernel
theorem mb_X8_goalByHand_0 : Cond.fieldLink RX8 40 "GuardDesk$Targets" "size" "I" ∈ wsX8_goalByHand := List.mem_of_getElem? (i := 1) rfl
set_option maxRecDepth 100000 in
set_option maxHeartbeats 4000000 in
theorem t_X8_goalByHand_b4 (C : cx D cI cJ cZ cG A cX8_goalByHand 4 (some .int) RX8 wsX8_goalByHand p s m args meth c) (a_x a_x_kind a_x_saved a_x_lost a_x_gain a_x_gap a_x_least a_x_most a_x_hand : Nat) (x_size : Int32) (x_guards : Int32) (x_saved : (Nat → Int32)) (x_lost : (Nat → Int32)) (x_gain : (Nat → Int32)) (x_gap : (Nat → Int32)) (x_hand : (Nat → Int32)) (N : Nat) (q : Int32) : ∀ (n : Nat) (v1 : Int32) (v2 : Int32), f_X8_goalByHand_b4 N x_size x_saved x_lost x_gain x_gap x_hand n v1 v2 = some q → WB p l e rm_X8_goalByHand s m args below meth c (MQ below (Qg D (some (.int q)) (w_X8_goalByHand cI cJ cZ cG a_x a_x_kind a_x_saved a_x_lost a_x_gain a_x_gap a_x_least a_x_most a_x_hand x_size x_guards x_saved x_lost x_gain x_gap x_hand) A) args s 0 0 A) D A 4 (w_X8_goalByHand cI cJ cZ cG a_x a_x_kind a_x_saved a_x_lost a_x_gain a_x_gap a_x_least a_x_most a_x_hand x_size x_guards x_saved x_lost x_gain x_gap x_hand) [(0, .ref a_x), (1, .int v1), (2, .int v2)] [] 4 := by
  obtain ⟨hx, hb, hr, hml, hown, hts, hlk, hgk, hA⟩ := id C
  have hK := hgk.1
  intro n
  induction n with
  | zero => intro v1 v2 h; cases h
  | succ n hk_4 =>
    intro v1 v2 h
    have h : g_X8_goalByHand_b4 N x_size x_saved x_lost x_gain x_gap x_hand (f_X8_goalByHand_b4 N x_size x_saved x_lost x_gain x_gap x_hand n) v1 v2 = some q := h
    generalize f_X8_goalByHand_b4 N x_size x_saved x_lost x_gain x_gap x_hand n = k_4 at h hk_4
    unfold g_X8_goalByHand_b4 at h
    intro H locs ls hP hD hS hl
    refine lv_iload_n hx hb dX8_goalByHand_4 rfl (lv_at hl 2 rfl) ?_
    refine lv_aload_n hx hb dX8_goalByHand_5 rfl (lv_at hl 0 rfl) ?_
    refine va_get (D := D) (ci := 8) (v := .int x_size) (C := RX8) (T := TX8) (N := 10) hx hb hts in_X8_goalByHand_X8 hown hK hP 0 rfl rfl 0 (by decide) (hts _ mb_X8_goalByHand_0) (fun _ h9 => h9) rfl dX8_goalByHand_6 ?_
    refine lv_icmp_ge (tgt := 53) hx hb dX8_goalByHand_9 (by decide) (fun c1 => ?_) (fun c1 => ?_)
    · have h := ift c1 h
      refine lv_iload_n hx hb dX8_goalByHand_53 rfl (lv_at hl 1 rfl) ?_
      obtain rfl := Option.some.inj h
      exact g_iret C hP hD hS dX8_goalByHand_54
    · have h := iff_ c1 h
      refine lv_aload_n hx hb dX8_goalByHand_12 rfl (lv_at hl 0 rfl) ?_
      refine lv_iload_n hx hb dX8_goalByHand_13 rfl (lv_at hl 2 rfl) ?_
      obtain ⟨q2, e2, h⟩ := bd_some h
      refine g_callV (index := 62) (maxL := 2) (n := 1) (As := [.int v2]) (rest := []) (st1 := [.int q2]) (C1 := RX8) (T1 := TX8) (N1 := 10) (ws2 := (w_X8_goalByHand cI cJ cZ cG a_x a_x_kind a_x_saved a_x_lost a_x_gain a_x_gap a_x_least a_x_most a_x_hand x_size x_guards x_saved x_lost x_gain x_gap x_hand)) C hP hD hS hl.1 8 0 (c_X8_thiefByHand l D cI cJ cZ cG a_x a_x_kind a_x_saved a_x_lost a_x_gain a_x_gap a_x_least a_x_most a_x_hand x_size x_guards x_gain x_gap x_hand v2 q2 e2) gX8_goalByHand_X8_thiefByHand rfl rfl rfl (by decide +kernel) ⟨Nat.le_of_ble_eq_true rfl, Nat.le_of_ble_eq_true rfl⟩ rfl rfl rfl (Nat.le_of_ble_eq_true rfl) rfl dX8_goalByHand_14 [0, 3, 4, 5] [1, 2] [2, 0, 1, 3, 4, 5] rfl rfl rfl rfl (by decide) rfl rfl rfl (fun H locs hP hD hS => ?_)
      refine lv_aload_n hx hb dX8_goalByHand_17 rfl (lv_at hl 0 rfl) ?_
      refine lv_iload_n hx hb dX8_goalByHand_18 rfl (lv_at hl 1 rfl) ?_
      obtain ⟨q3, e3, h⟩ := bd_some h
      refine g_callV (index := 62) (maxL := 2) (n := 1) (As := [.int v1]) (rest := [.int q2]) (st1 := [.int q3, .int q2]) (C1 := RX8) (T1 := TX8) (N1 := 10) (ws2 := (w_X8_goalByHand cI cJ cZ cG a_x a_x_kind a_x_saved a_x_lost a_x_gain a_x_gap a_x_least a_x_most a_x_hand x_size x_guards x_saved x_lost x_gain x_gap x_hand)) C hP hD hS hl.1 8 0 (c_X8_thiefByHand l D cI cJ cZ cG a_x a_x_kind a_x_saved a_x_lost a_x_gain a_x_gap a_x_least a_x_most a_x_hand x_size x_guards x_gain x_gap x_hand v1 q3 e3) gX8_goalByHand_X8_thiefByHand rfl rfl rfl (by decide +kernel) ⟨Nat.le_of_ble_eq_true rfl, Nat.le_of_ble_eq_true rfl⟩ rfl rfl rfl (Nat.le_of_ble_eq_true rfl) rfl dX8_goalByHand_19 [0, 3, 4, 5] [1, 2] [2, 0, 1, 3, 4, 5] rfl rfl rfl rfl (by decide) rfl rfl rfl (fun H locs hP hD hS => ?_)
      refine lv_isub hx hb dX8_goalByHand_22 ?_
      refine lv_istore_n (lv' := [(3, .int (q2 - q3)), (0, .ref a_x), (1, .int v1), (2, .int v2)]) hx hb dX8_goalByHand_23 rfl hl (by decide) rfl (fun ls hl => ?_)
      refine lv_iload_n hx hb dX8_goalByHand_24 rfl (lv_at hl 0 rfl) ?_
      refine lv_if_gt (tgt := 45) hx hb dX8_goalByHand_25 (by decide) (fun c4 => ?_) (fun c4 => ?_)
      · have h := ift c4 h
        refine lv_iload_n hx hb dX8_goalByHand_45 rfl (lv_at hl 3 rfl) ?_
        refine lv_istore_n (lv' := [(1, .int v2), (3, .int (q2 - q3)), (0, .ref a_x), (2, .int v2)]) hx hb dX8_goalByHand_46 rfl hl (by decide) rfl (fun ls hl => ?_)
        refine lv_iinc (v := v2 + 1) (lv' := [(2, .int (v2 + 1)), (1, .int v2), (3, .int (q2 - q3)), (0, .ref a_x)]) hx hb dX8_goalByHand_47 hl (k := 3) rfl rfl (by decide) rfl (fun ls hl => ?_)
        refine lv_goto (tgt := 4) hx hb dX8_goalByHand_50 (by decide) ?_
        exact hk_4 v2 (v2 + 1) h H locs ls hP hD hS (lv_sub hl [3, 1, 0] rfl)
      · have h := iff_ c4 h
        refine lv_iload_n hx hb dX8_goalByHand_28 rfl (lv_at hl 0 rfl) ?_
        refine lv_if_ne (tgt := 47) hx hb dX8_goalByHand_29 (by decide) (fun c5 => ?_) (fun c5 => ?_)
        · have h := iff_ c5 h
          refine lv_iinc (v := v2 + 1) (lv' := [(2, .int (v2 + 1)), (3, .int (q2 - q3)), (0, .ref a_x), (1, .int v1)]) hx hb dX8_goalByHand_47 hl (k := 3) rfl rfl (by decide) rfl (fun ls hl => ?_)
          refine lv_goto (tgt := 4) hx hb dX8_goalByHand_50 (by decide) ?_
          exact hk_4 v1 (v2 + 1) h H locs ls hP hD hS (lv_sub hl [2, 3, 0] rfl)
        · have h := ift c5 h
          refine lv_aload_n hx hb dX8_goalByHand_32 rfl (lv_at hl 1 rfl) ?_
          refine lv_iload_n hx hb dX8_goalByHand_33 rfl (lv_at hl 3 rfl) ?_
          obtain ⟨q6, e6, h⟩ := bd_some h
          refine g_callV (index := 66) (maxL := 2) (n := 1) (As := [.int v2]) (rest := []) (st1 := [.int q6]) (C1 := RX8) (T1 := TX8) (N1 := 10) (ws2 := (w_X8_goalByHand cI cJ cZ cG a_x a_x_kind a_x_saved a_x_lost a_x_gain a_x_gap a_x_least a_x_most a_x_hand x_size x_guards x_saved x_lost x_gain x_gap x_hand)) C hP hD hS hl.1 8 0 (c_X8_keeperByHand l D cI cJ cZ cG a_x a_x_kind a_x_saved a_x_lost a_x_gain a_x_gap a_x_least a_x_most a_x_hand x_size x_guards x_saved x_lost x_hand v2 q6 e6) gX8_goalByHand_X8_keeperByHand rfl rfl rfl (by decide +kernel) ⟨Nat.le_of_ble_eq_true rfl, Nat.le_of_ble_eq_true rfl⟩ rfl rfl rfl (Nat.le_of_ble_eq_true rfl) rfl dX8_goalByHand_34 [0, 1, 2, 5] [3, 4] [2, 3, 4, 0, 1, 5] rfl rfl rfl rfl (by decide) rfl rfl rfl (fun H locs hP hD hS => ?_)
          refine lv_aload_n hx hb dX8_goalByHand_37 rfl (lv_at hl 1 rfl) ?_
          refine lv_iload_n hx hb dX8_goalByHand_38 rfl (lv_at hl 2 rfl) ?_
          obtain ⟨q7, e7, h⟩ := bd_some h
          refine g_callV (index := 66) (maxL := 2) (n := 1) (As := [.int v1]) (rest := [.int q6]) (st1 := [.int q7, .int q6]) (C1 := RX8) (T1 := TX8) (N1 := 10) (ws2 := (w_X8_goalByHand cI cJ cZ cG a_x a_x_kind a_x_saved a_x_lost a_x_gain a_x_gap a_x_least a_x_most a_x_hand x_size x_guards x_saved x_lost x_gain x_gap x_hand)) C hP hD hS hl.1 8 0 (c_X8_keeperByHand l D cI cJ cZ cG a_x a_x_kind a_x_saved a_x_lost a_x_gain a_x_gap a_x_least a_x_most a_x_hand x_size x_guards x_saved x_lost x_hand v1 q7 e7) gX8_goalByHand_X8_keeperByHand rfl rfl rfl (by decide +kernel) ⟨Nat.le_of_ble_eq_true rfl, Nat.le_of_ble_eq_true rfl⟩ rfl rfl rfl (Nat.le_of_ble_eq_true rfl) rfl dX8_goalByHand_39 [0, 1, 2, 5] [3, 4] [2, 3, 4, 0, 1, 5] rfl rfl rfl rfl (by decide) rfl rfl rfl (fun H locs hP hD hS => ?_)
          refine lv_icmp_le (tgt := 47) hx hb dX8_goalByHand_42 (by decide) (fun c8 => ?_) (fun c8 => ?_)
          · have h := ift c8 h
            refine lv_iinc (v := v2 + 1) (lv' := [(2, .int (v2 + 1)), (3, .int (q2 - q3)), (0, .ref a_x), (1, .int v1)]) hx hb dX8_goalByHand_47 hl (k := 3) rfl rfl (by decide) rfl (fun ls hl => ?_)
            refine lv_goto (tgt := 4) hx hb dX8_goalByHand_50 (by decide) ?_
            exact hk_4 v1 (v2 + 1) h H locs ls hP hD hS (lv_sub hl [2, 3, 0] rfl)
          · have h := iff_ c8 h
            refine lv_iload_n hx hb dX8_goalByHand_45 rfl (lv_at hl 3 rfl) ?_
            refine lv_istore_n (lv' := [(1, .int v2), (3, .int (q2 - q3)), (0, .ref a_x), (2, .int v2)]) hx hb dX8_goalByHand_46 rfl hl (by decide) rfl (fun ls hl => ?_)
            refine lv_iinc (v := v2 + 1) (lv' := [(2, .int (v2 + 1)), (1, .int v2), (3, .int (q2 - q3)), (0, .ref a_x)]) hx hb dX8_goalByHand_47 hl (k := 3) rfl rfl (by decide) rfl (fun ls hl => ?_)
            refine lv_goto (tgt := 4) hx hb dX8_goalByHand_50 (by decide) ?_
            exact hk_4 v2 (v2 + 1) h H locs ls hP hD hS (lv_sub hl [3, 1, 0] rfl)
set_option maxRecDepth 100000 in
set_option maxHeartbeats 4000000 in
theorem c_X8_goalByHand (l : Launch) (D : va_G) (cI cJ cZ cG : ClassId) (a_x a_x_kind a_x_saved a_x_lost a_x_gain a_x_gap a_x_least a_x_most a_x_hand : Nat) (x_size : Int32) (x_guards : Int32) (x_saved : (Nat → Int32)) (x_lost : (Nat → Int32)) (x_gain : (Nat → Int32)) (x_gap : (Nat → Int32)) (x_hand : (Nat → Int32)) (N : Nat) (q : Int32) (h : f_X8_goalByHand N x_size x_saved x_lost x_gain x_gap x_hand = some q) : gMet l yX8_goalByHand wsX8_goalByHand rm_X8_goalByHand [.ref a_x] (w_X8_goalByHand cI cJ cZ cG a_x a_x_kind a_x_saved a_x_lost a_x_gain a_x_gap a_x_least a_x_most a_x_hand x_size x_guards x_saved x_lost x_gain x_gap x_hand) (w_X8_goalByHand cI cJ cZ cG a_x a_x_kind a_x_saved a_x_lost a_x_gain a_x_gap a_x_least a_x_most a_x_hand x_size x_guards x_saved x_lost x_gain x_gap x_hand) (some (.int q)) D cI cJ cZ cG := by
  refine g_enter (cc := cX8_goalByHand) (nL := 4) (ret := (some .int)) (by decide) rfl (Nat.le_of_ble_eq_true rfl) ?_
  intro p e s m below meth c A C H locs ls hP hD hS hl
  obtain ⟨hx, hb, hr, hml, hown, hts, hlk, hgk, hA⟩ := id C
  have hK := hgk.1
  have hl : lv_has ls 4 [(0, .ref a_x)] := hl
  unfold f_X8_goalByHand at h
  refine lv_iconst (v := 0) hx hb dX8_goalByHand_0 (by decide) ?_
  refine lv_istore_n (lv' := [(1, .int 0), (0, .ref a_x)]) hx hb dX8_goalByHand_1 rfl hl (by decide) rfl (fun ls hl => ?_)
  refine lv_iconst (v := 1) hx hb dX8_goalByHand_2 (by decide) ?_
  refine lv_istore_n (lv' := [(2, .int 1), (1, .int 0), (0, .ref a_x)]) hx hb dX8_goalByHand_3 rfl hl (by decide) rfl (fun ls hl => ?_)
  exact t_X8_goalByHand_b4 C a_x a_x_kind a_x_saved a_x_lost a_x_gain a_x_gap a_x_least a_x_most a_x_hand x_size x_guards x_saved x_lost x_gain x_gap x_hand N q N 0 1 h H locs ls hP hD hS (lv_sub hl [2, 1, 0] rfl)
theorem in_X8_worstByHand_X8 : ∀ w ∈ wsX80, w ∈ wsX8_worstByHand := by decide +kernel
theorem mb_X8_worstByHand_0 : Cond.fieldLink RX8 40 "GuardDesk$Targets" "size" "I" ∈ wsX8_worstByHand := List.mem_of_getElem? (i := 1) rfl
theorem mb_X8_worstByHand_1 : Cond.methodLink RX8 53 Lib.Math.min.name ∈ wsX8_worstByHand := List.mem_of_getElem? (i := 2) rfl
theorem mb_X8_worstByHand_2 : Cond.static Lib.Math.min.name ∈ wsX8_worstByHand := List.mem_of_getElem? (i := 3) rfl
theorem mb_X8_worstByHand_3 : Cond.initialized "java/lang/Math" ∈ wsX8_worstByHand := List.mem_of_getElem? (i := 4) rfl
theorem mb_X8_worstByHand_4 : Cond.code Lib.Math.min.name Lib.Math.min.code 2 (some .int) ∈ wsX8_worstByHand := List.mem_of_getElem? (i := 5) rfl
set_option maxRecDepth 100000 in
set_option maxHeartbeats 4000000 in
theorem t_X8_worstByHand_b23 (C : cx D cI cJ cZ cG A cX8_worstByHand 6 (some .int) RX8 wsX8_worstByHand p s m args meth c) (a_x a_x_kind a_x_saved a_x_lost a_x_gain a_x_gap a_x_least a_x_most a_x_hand : Nat) (x_size : Int32) (x_guards : Int32) (x_saved : (Nat → Int32)) (x_lost : (Nat → Int32)) (x_gain : (Nat → Int32)) (x_gap : (Nat → Int32)) (x_hand : (Nat → Int32)) (N : Nat) (q : Int32) (v3 : Int32) : ∀ (n : Nat) (v4 : Int32) (v5 : Int32), f_X8_worstByHand_b23 N x_size x_saved x_lost x_gain x_gap x_hand v3 n v4 v5 = some q → WB p l e rm_X8_worstByHand s m args below meth c (MQ below (Qg D (some (.int q)) (w_X8_worstByHand cI cJ cZ cG a_x a_x_kind a_x_saved a_x_lost a_x_gain a_x_gap a_x_least a_x_most a_x_hand x_size x_guards x_saved x_lost x_gain x_gap x_hand) A) args s 0 0 A) D A 6 (w_X8_worstByHand cI cJ cZ cG a_x a_x_kind a_x_saved a_x_lost a_x_gain a_x_gap a_x_least a_x_most a_x_hand x_size x_guards x_saved x_lost x_gain x_gap x_hand) [(0, .ref a_x), (3, .int v3), (4, .int v4), (5, .int v5)] [] 23 := by
  obtain ⟨hx, hb, hr, hml, hown, hts, hlk, hgk, hA⟩ := id C
  have hK := hgk.1
  intro n
  induction n with
  | zero => intro v4 v5 h; cases h
  | succ n hk_23 =>
    intro v4 v5 h
    have h : g_X8_worstByHand_b23 N x_size x_saved x_lost x_gain x_gap x_hand v3 (f_X8_worstByHand_b23 N x_size x_saved x_lost x_gain x_gap x_hand v3 n) v4 v5 = some q := h
    generalize f_X8_worstByHand_b23 N x_size x_saved x_lost x_gain x_gap x_hand v3 n = k_23 at h hk_23
    unfold g_X8_worstByHand_b23 at h
    intro H locs ls hP hD hS hl
    refine lv_iload hx hb dX8_worstByHand_23 (lv_at hl 3 rfl) ?_
    refine lv_aload_n hx hb dX8_worstByHand_25 rfl (lv_at hl 0 rfl) ?_
    refine va_get (D := D) (ci := 8) (v := .int x_size) (C := RX8) (T := TX8) (N := 10) hx hb hts in_X8_worstByHand_X8 hown hK hP 0 rfl rfl 0 (by decide) (hts _ mb_X8_worstByHand_0) (fun _ h9 => h9) rfl dX8_worstByHand_26 ?_
    refine lv_icmp_ge (tgt := 61) hx hb dX8_worstByHand_29 (by decide) (fun c1 => ?_) (fun c1 => ?_)
    · have h := ift c1 h
      refine lv_iload hx hb dX8_worstByHand_61 (lv_at hl 2 rfl) ?_
      obtain rfl := Option.some.inj h
      exact g_iret C hP hD hS dX8_worstByHand_63
    · have h := iff_ c1 h
      refine lv_aload_n hx hb dX8_worstByHand_32 rfl (lv_at hl 0 rfl) ?_
      refine lv_iload hx hb dX8_worstByHand_33 (lv_at hl 3 rfl) ?_
      obtain ⟨q2, e2, h⟩ := bd_some h
      refine g_callV (index := 62) (maxL := 2) (n := 1) (As := [.int v5]) (rest := []) (st1 := [.int q2]) (C1 := RX8) (T1 := TX8) (N1 := 10) (ws2 := (w_X8_worstByHand cI cJ cZ cG a_x a_x_kind a_x_saved a_x_lost a_x_gain a_x_gap a_x_least a_x_most a_x_hand x_size x_guards x_saved x_lost x_gain x_gap x_hand)) C hP hD hS hl.1 8 0 (c_X8_thiefByHand l D cI cJ cZ cG a_x a_x_kind a_x_saved a_x_lost a_x_gain a_x_gap a_x_least a_x_most a_x_hand x_size x_guards x_gain x_gap x_hand v5 q2 e2) gX8_worstByHand_X8_thiefByHand rfl rfl rfl (by decide +kernel) ⟨Nat.le_of_ble_eq_true rfl, Nat.le_of_ble_eq_true rfl⟩ rfl rfl rfl (Nat.le_of_ble_eq_true rfl) rfl dX8_worstByHand_35 [0, 3, 4, 5] [1, 2] [2, 0, 1, 3, 4, 5] rfl rfl rfl rfl (by decide) rfl rfl rfl (fun H locs hP hD hS => ?_)
      refine lv_iload_n hx hb dX8_worstByHand_38 rfl (lv_at hl 1 rfl) ?_
      refine lv_icmp_lt (tgt := 55) hx hb dX8_worstByHand_39 (by decide) (fun c3 => ?_) (fun c3 => ?_)
      · have h := ift c3 h
        refine lv_iinc (v := v5 + 1) (lv' := [(5, .int (v5 + 1)), (0, .ref a_x), (3, .int v3), (4, .int v4)]) hx hb dX8_worstByHand_55 hl (k := 3) rfl rfl (by decide) rfl (fun ls hl => ?_)
        refine lv_goto (tgt := 23) hx hb dX8_worstByHand_58 (by decide) ?_
        exact hk_23 v4 (v5 + 1) h H locs ls hP hD hS (lv_sub hl [1, 2, 3, 0] rfl)
      · have h := iff_ c3 h
        refine lv_iload hx hb dX8_worstByHand_42 (lv_at hl 2 rfl) ?_
        refine lv_aload_n hx hb dX8_worstByHand_44 rfl (lv_at hl 0 rfl) ?_
        refine lv_iload hx hb dX8_worstByHand_45 (lv_at hl 3 rfl) ?_
        obtain ⟨q4, e4, h⟩ := bd_some h
        refine g_callV (index := 66) (maxL := 2) (n := 1) (As := [.int v5]) (rest := [.int v4]) (st1 := [.int q4, .int v4]) (C1 := RX8) (T1 := TX8) (N1 := 10) (ws2 := (w_X8_worstByHand cI cJ cZ cG a_x a_x_kind a_x_saved a_x_lost a_x_gain a_x_gap a_x_least a_x_most a_x_hand x_size x_guards x_saved x_lost x_gain x_gap x_hand)) C hP hD hS hl.1 8 0 (c_X8_keeperByHand l D cI cJ cZ cG a_x a_x_kind a_x_saved a_x_lost a_x_gain a_x_gap a_x_least a_x_most a_x_hand x_size x_guards x_saved x_lost x_hand v5 q4 e4) gX8_worstByHand_X8_keeperByHand rfl rfl rfl (by decide +kernel) ⟨Nat.le_of_ble_eq_true rfl, Nat.le_of_ble_eq_true rfl⟩ rfl rfl rfl (Nat.le_of_ble_eq_true rfl) rfl dX8_worstByHand_47 [0, 1, 2, 5] [3, 4] [2, 3, 4, 0, 1, 5] rfl rfl rfl rfl (by decide) rfl rfl rfl (fun H locs hP hD hS => ?_)
        refine va_mmin hx hb (hml.trans hl.1.symm) hown (hts _ mb_X8_worstByHand_1) (hts _ mb_X8_worstByHand_2) (hts _ mb_X8_worstByHand_3) (hts _ mb_X8_worstByHand_4) (Nat.le_of_ble_eq_true rfl) (Nat.le_of_ble_eq_true rfl) (Nat.zero_le _) (Nat.zero_le _) dX8_worstByHand_50 ?_
        refine lv_istore (lv' := [(4, .int (if q4 < v4 then q4 else v4)), (0, .ref a_x), (3, .int v3), (5, .int v5)]) hx hb dX8_worstByHand_53 hl (by decide) rfl (fun ls hl => ?_)
        refine lv_iinc (v := v5 + 1) (lv' := [(5, .int (v5 + 1)), (4, .int (if q4 < v4 then q4 else v4)), (0, .ref a_x), (3, .int v3)]) hx hb dX8_worstByHand_55 hl (k := 3) rfl rfl (by decide) rfl (fun ls hl => ?_)
        refine lv_goto (tgt := 23) hx hb dX8_worstByHand_58 (by decide) ?_
        exact hk_23 (if q4 < v4 then q4 else v4) (v5 + 1) h H locs ls hP hD hS (lv_sub hl [2, 3, 1, 0] rfl)
set_option maxRecDepth 100000 in
set_option maxHeartbeats 4000000 in
theorem c_X8_worstByHand (l : Launch) (D : va_G) (cI cJ cZ cG : ClassId) (a_x a_x_kind a_x_saved a_x_lost a_x_gain a_x_gap a_x_least a_x_most a_x_hand : Nat) (x_size : Int32) (x_guards : Int32) (x_saved : (Nat → Int32)) (x_lost : (Nat → Int32)) (x_gain : (Nat → Int32)) (x_gap : (Nat → Int32)) (x_hand : (Nat → Int32)) (p1 : Int32) (N : Nat) (q : Int32) (h : f_X8_worstByHand N x_size x_saved x_lost x_gain x_gap x_hand p1 = some q) : gMet l yX8_worstByHand wsX8_worstByHand rm_X8_worstByHand [.ref a_x, .int p1] (w_X8_worstByHand cI cJ cZ cG a_x a_x_kind a_x_saved a_x_lost a_x_gain a_x_gap a_x_least a_x_most a_x_hand x_size x_guards x_saved x_lost x_gain x_gap x_hand) (w_X8_worstByHand cI cJ cZ cG a_x a_x_kind a_x_saved a_x_lost a_x_gain a_x_gap a_x_least a_x_most a_x_hand x_size x_guards x_saved x_lost x_gain x_gap x_hand) (some (.int q)) D cI cJ cZ cG := by
  refine g_enter (cc := cX8_worstByHand) (nL := 6) (ret := (some .int)) (by decide) rfl (Nat.le_of_ble_eq_true rfl) ?_
  intro p e s m below meth c A C H locs ls hP hD hS hl
  obtain ⟨hx, hb, hr, hml, hown, hts, hlk, hgk, hA⟩ := id C
  have hK := hgk.1
  have hl : lv_has ls 6 [(0, .ref a_x), (1, .int p1)] := hl
  unfold f_X8_worstByHand at h
  refine lv_aload_n hx hb dX8_worstByHand_0 rfl (lv_at hl 0 rfl) ?_
  obtain ⟨q1, e1, h⟩ := bd_some h
  refine g_callV (index := 69) (maxL := 4) (n := 0) (As := []) (rest := []) (st1 := [.int q1]) (C1 := RX8) (T1 := TX8) (N1 := 10) (ws2 := (w_X8_worstByHand cI cJ cZ cG a_x a_x_kind a_x_saved a_x_lost a_x_gain a_x_gap a_x_least a_x_most a_x_hand x_size x_guards x_saved x_lost x_gain x_gap x_hand)) C hP hD hS hl.1 8 0 (c_X8_goalByHand l D cI cJ cZ cG a_x a_x_kind a_x_saved a_x_lost a_x_gain a_x_gap a_x_least a_x_most a_x_hand x_size x_guards x_saved x_lost x_gain x_gap x_hand N q1 e1) gX8_worstByHand_X8_goalByHand rfl rfl rfl (by decide +kernel) ⟨Nat.le_of_ble_eq_true rfl, Nat.le_of_ble_eq_true rfl⟩ rfl rfl rfl (Nat.le_of_ble_eq_true rfl) rfl dX8_worstByHand_1 [0, 1, 2, 3, 4, 5] [] [0, 1, 2, 3, 4, 5] rfl rfl rfl rfl (by decide) rfl rfl rfl (fun H locs hP hD hS => ?_)
  refine lv_istore_n (lv' := [(2, .int q1), (0, .ref a_x), (1, .int p1)]) hx hb dX8_worstByHand_4 rfl hl (by decide) rfl (fun ls hl => ?_)
  refine lv_aload_n hx hb dX8_worstByHand_5 rfl (lv_at hl 1 rfl) ?_
  refine lv_iload_n hx hb dX8_worstByHand_6 rfl (lv_at hl 0 rfl) ?_
  obtain ⟨q2, e2, h⟩ := bd_some h
  refine g_callV (index := 62) (maxL := 2) (n := 1) (As := [.int q1]) (rest := []) (st1 := [.int q2]) (C1 := RX8) (T1 := TX8) (N1 := 10) (ws2 := (w_X8_worstByHand cI cJ cZ cG a_x a_x_kind a_x_saved a_x_lost a_x_gain a_x_gap a_x_least a_x_most a_x_hand x_size x_guards x_saved x_lost x_gain x_gap x_hand)) C hP hD hS hl.1 8 0 (c_X8_thiefByHand l D cI cJ cZ cG a_x a_x_kind a_x_saved a_x_lost a_x_gain a_x_gap a_x_least a_x_most a_x_hand x_size x_guards x_gain x_gap x_hand q1 q2 e2) gX8_worstByHand_X8_thiefByHand rfl rfl rfl (by decide +kernel) ⟨Nat.le_of_ble_eq_true rfl, Nat.le_of_ble_eq_true rfl⟩ rfl rfl rfl (Nat.le_of_ble_eq_true rfl) rfl dX8_worstByHand_7 [0, 3, 4, 5] [1, 2] [2, 0, 1, 3, 4, 5] rfl rfl rfl rfl (by decide) rfl rfl rfl (fun H locs hP hD hS => ?_)
  refine lv_iload_n hx hb dX8_worstByHand_10 rfl (lv_at hl 2 rfl) ?_
  refine lv_isub hx hb dX8_worstByHand_11 ?_
  refine lv_istore_n (lv' := [(3, .int (q2 - p1)), (2, .int q1), (0, .ref a_x), (1, .int p1)]) hx hb dX8_worstByHand_12 rfl hl (by decide) rfl (fun ls hl => ?_)
  refine lv_aload_n hx hb dX8_worstByHand_13 rfl (lv_at hl 2 rfl) ?_
  refine lv_iload_n hx hb dX8_worstByHand_14 rfl (lv_at hl 1 rfl) ?_
  obtain ⟨q3, e3, h⟩ := bd_some h
  refine g_callV (index := 66) (maxL := 2) (n := 1) (As := [.int q1]) (rest := []) (st1 := [.int q3]) (C1 := RX8) (T1 := TX8) (N1 := 10) (ws2 := (w_X8_worstByHand cI cJ cZ cG a_x a_x_kind a_x_saved a_x_lost a_x_gain a_x_gap a_x_least a_x_most a_x_hand x_size x_guards x_saved x_lost x_gain x_gap x_hand)) C hP hD hS hl.1 8 0 (c_X8_keeperByHand l D cI cJ cZ cG a_x a_x_kind a_x_saved a_x_lost a_x_gain a_x_gap a_x_least a_x_most a_x_hand x_size x_guards x_saved x_lost x_hand q1 q3 e3) gX8_worstByHand_X8_keeperByHand rfl rfl rfl (by decide +kernel) ⟨Nat.le_of_ble_eq_true rfl, Nat.le_of_ble_eq_true rfl⟩ rfl rfl rfl (Nat.le_of_ble_eq_true rfl) rfl dX8_worstByHand_15 [0, 1, 2, 5] [3, 4] [2, 3, 4, 0, 1, 5] rfl rfl rfl rfl (by decide) rfl rfl rfl (fun H locs hP hD hS => ?_)
  refine lv_istore (lv' := [(4, .int q3), (3, .int (q2 - p1)), (2, .int q1), (0, .ref a_x), (1, .int p1)]) hx hb dX8_worstByHand_18 hl (by decide) rfl (fun ls hl => ?_)
  refine lv_iconst (v := 0) hx hb dX8_worstByHand_20 (by decide) ?_
  refine lv_istore (lv' := [(5, .int 0), (4, .int q3), (3, .int (q2 - p1)), (2, .int q1), (0, .ref a_x), (1, .int p1)]) hx hb dX8_worstByHand_21 hl (by decide) rfl (fun ls hl => ?_)
  exact t_X8_worstByHand_b23 C a_x a_x_kind a_x_saved a_x_lost a_x_gain a_x_gap a_x_least a_x_most a_x_hand x_size x_guards x_saved x_lost x_gain x_gap x_hand N q (q2 - p1) N q3 0 h H locs ls hP hD hS (lv_sub hl [4, 2, 1, 0] rfl)
set_option maxRecDepth 100000 in
set_option maxHeartbeats 4000000 in
theorem t_J7_fill_d0a16_b6 (C : cx D cI cJ cZ cG A cJ7_fill_d0a16 5 none RJ7 wsJ7_fill_d0a16 p s m args meth c) (a_o0 : Nat) (n_o0 : Nat) (N : Nat) (q : (Nat → Int64)) (v1 : Int64) (v4 : Int32) : ∀ (n : Nat) (o0 : (Nat → Int64)) (v3 : Int32), f_J7_fill_d0a16_b6 N n_o0 v1 v4 n o0 v3 = some q → WB p l e rm_J7_fill_d0a16 s m args below meth c (MQ below (Qg D none (w_J7_fill_d0a16 cI cJ cZ cG a_o0 n_o0 q) A) args s 0 0 A) D A 5 (w_J7_fill_d0a16 cI cJ cZ cG a_o0 n_o0 o0) [(0, .ref a_o0), (1, .long v1), (3, .int v3), (4, .int v4)] [] 6 := by
  obtain ⟨hx, hb, hr, hml, hown, hts, hlk, hgk, hA⟩ := id C
  have hK := hgk.1
  intro n
  induction n with
  | zero => intro o0 v3 h; cases h
  | succ n hk_6 =>
    intro o0 v3 h
    have h : g_J7_fill_d0a16_b6 N n_o0 v1 v4 (f_J7_fill_d0a16_b6 N n_o0 v1 v4 n) o0 v3 = some q := h
    generalize f_J7_fill_d0a16_b6 N n_o0 v1 v4 n = k_6 at h hk_6
    unfold g_J7_fill_d0a16_b6 at h
    intro H locs ls hP hD hS hl
    refine lv_iload_n hx hb dJ7_fill_d0a16_6 rfl (lv_at hl 2 rfl) ?_
    refine lv_iload hx hb dJ7_fill_d0a16_7 (lv_at hl 3 rfl) ?_
    refine lv_icmp_ge (tgt := 22) hx hb dJ7_fill_d0a16_9 (by decide) (fun c1 => ?_) (fun c1 => ?_)
    · have h := ift c1 h
      obtain rfl := Option.some.inj h
      exact g_vret C hP hD hS dJ7_fill_d0a16_22
    · have h := iff_ c1 h
      refine lv_aload_n hx hb dJ7_fill_d0a16_12 rfl (lv_at hl 0 rfl) ?_
      refine lv_iload_n hx hb dJ7_fill_d0a16_13 rfl (lv_at hl 2 rfl) ?_
      refine lv_lload_n hx hb dJ7_fill_d0a16_14 rfl (lv_at hl 1 rfl) ?_
      obtain ⟨i2, h⟩ := gI_some h
      refine va_last hx hb hK hP hD hS 0 1 rfl rfl i2 dJ7_fill_d0a16_15 (fun H locs hP hD hS => ?_)
      have hP : va_P D vwCl (w_J7_fill_d0a16 cI cJ cZ cG a_o0 n_o0 (vp_updL o0 v3.toNatClampNeg v1)) H := hP
      have hD : va_D A (w_J7_fill_d0a16 cI cJ cZ cG a_o0 n_o0 (vp_updL o0 v3.toNatClampNeg v1)) := hD
      refine lv_iinc (v := v3 + 1) (lv' := [(3, .int (v3 + 1)), (0, .ref a_o0), (1, .long v1), (4, .int v4)]) hx hb dJ7_fill_d0a16_16 hl (k := 2) rfl rfl (by decide) rfl (fun ls hl => ?_)
      refine lv_goto (tgt := 6) hx hb dJ7_fill_d0a16_19 (by decide) ?_
      exact hk_6 (vp_updL o0 v3.toNatClampNeg v1) (v3 + 1) h H locs ls hP hD hS (lv_sub hl [1, 2, 0, 3] rfl)
set_option maxRecDepth 100000 in
set_option maxHeartbeats 4000000 in
theorem c_J7_fill_d0a16 (l : Launch) (D : va_G) (cI cJ cZ cG : ClassId) (a_o0 : Nat) (n_o0 : Nat) (o0 : (Nat → Int64)) (p1 : Int64) (N : Nat) (q : (Nat → Int64)) (h : f_J7_fill_d0a16 N n_o0 o0 p1 = some q) : gMet l yJ7_fill_d0a16 wsJ7_fill_d0a16 rm_J7_fill_d0a16 [.ref a_o0, .long p1] (w_J7_fill_d0a16 cI cJ cZ cG a_o0 n_o0 o0) (w_J7_fill_d0a16 cI cJ cZ cG a_o0 n_o0 q) none D cI cJ cZ cG := by
  refine g_enter (cc := cJ7_fill_d0a16) (nL := 5) (ret := none) (by decide) rfl (Nat.le_of_ble_eq_true rfl) ?_
  intro p e s m below meth c A C H locs ls hP hD hS hl
  obtain ⟨hx, hb, hr, hml, hown, hts, hlk, hgk, hA⟩ := id C
  have hK := hgk.1
  have hl : lv_has ls 5 [(0, .ref a_o0), (1, .long p1)] := hl
  unfold f_J7_fill_d0a16 at h
  refine lv_iconst (v := 0) hx hb dJ7_fill_d0a16_0 (by decide) ?_
  refine lv_istore_n (lv' := [(3, .int 0), (0, .ref a_o0), (1, .long p1)]) hx hb dJ7_fill_d0a16_1 rfl hl (by decide) rfl (fun ls hl => ?_)
  refine lv_aload_n hx hb dJ7_fill_d0a16_2 rfl (lv_at hl 1 rfl) ?_
  refine va_alen (v := Int32.ofNat n_o0) hx hb hK hP 0 1 rfl rfl rfl dJ7_fill_d0a16_3 ?_
  refine lv_istore (lv' := [(4, .int (Int32.ofNat n_o0)), (3, .int 0), (0, .ref a_o0), (1, .long p1)]) hx hb dJ7_fill_d0a16_4 hl (by decide) rfl (fun ls hl => ?_)
  exact t_J7_fill_d0a16_b6 C a_o0 n_o0 N q p1 (Int32.ofNat n_o0) N o0 0 h H locs ls hP hD hS (lv_sub hl [2, 3, 1, 0] rfl)
theorem in_X9_fullState_X4 : ∀ w ∈ wsX40, w ∈ wsX9_fullState := by decide +kernel
theorem in_X9_fullState_X9 : ∀ w ∈ wsX90, w ∈ wsX9_fullState := by decide +kernel
theorem mb_X9_fullState_0 : Cond.fieldLink RX9 14 "GuardDesk$Watch" "madeFor" "LGuardDesk$Posts;" ∈ wsX9_fullState := List.mem_of_getElem? (i := 1) rfl
theorem mb_X9_fullState_1 : Cond.fieldLink RX9 67 "GuardDesk$Posts" "size" "I" ∈ wsX9_fullState := List.mem_of_getElem? (i := 2) rfl
theorem mb_X9_fullState_2 : Cond.fieldLink RX9 84 "GuardDesk$Posts" "every" "[I" ∈ wsX9_fullState := List.mem_of_getElem? (i := 3) rfl
set_option maxRecDepth 100000 in
set_option maxHeartbeats 4000000 in
theorem t_X9_fullState_b4 (C : cx D cI cJ cZ cG A cX9_fullState 3 (some .int) RX9 wsX9_fullState p s m args meth c) (a_x a_x_madeFor a_x_dead a_x_met a_x_states a_x_visits a_x_madeFor_every : Nat) (x_size : Int32) (x_roundStart : Int32) (x_madeFor_size : Int32) (x_madeFor_every : (Nat → Int32)) (N : Nat) (q : Int32) : ∀ (n : Nat) (v1 : Int32) (v2 : Int32), f_X9_fullState_b4 N x_madeFor_size x_madeFor_every n v1 v2 = some q → WB p l e rm_X9_fullState s m args below meth c (MQ below (Qg D (some (.int q)) (w_X9_fullState cI cJ cZ cG a_x a_x_madeFor a_x_dead a_x_met a_x_states a_x_visits a_x_madeFor_every x_size x_roundStart x_madeFor_size x_madeFor_every) A) args s 0 0 A) D A 3 (w_X9_fullState cI cJ cZ cG a_x a_x_madeFor a_x_dead a_x_met a_x_states a_x_visits a_x_madeFor_every x_size x_roundStart x_madeFor_size x_madeFor_every) [(0, .ref a_x), (1, .int v1), (2, .int v2)] [] 4 := by
  obtain ⟨hx, hb, hr, hml, hown, hts, hlk, hgk, hA⟩ := id C
  have hK := hgk.1
  intro n
  induction n with
  | zero => intro v1 v2 h; cases h
  | succ n hk_4 =>
    intro v1 v2 h
    have h : g_X9_fullState_b4 N x_madeFor_size x_madeFor_every (f_X9_fullState_b4 N x_madeFor_size x_madeFor_every n) v1 v2 = some q := h
    generalize f_X9_fullState_b4 N x_madeFor_size x_madeFor_every n = k_4 at h hk_4
    unfold g_X9_fullState_b4 at h
    intro H locs ls hP hD hS hl
    refine lv_iload_n hx hb dX9_fullState_4 rfl (lv_at hl 2 rfl) ?_
    refine lv_aload_n hx hb dX9_fullState_5 rfl (lv_at hl 0 rfl) ?_
    refine va_get (D := D) (ci := 9) (v := .ref a_x_madeFor) (C := RX9) (T := TX9) (N := 7) hx hb hts in_X9_fullState_X9 hown hK hP 0 rfl rfl 0 (by decide) (hts _ mb_X9_fullState_0) (fun _ h9 => h9) rfl dX9_fullState_6 ?_
    refine va_get (D := D) (ci := 4) (v := .int x_madeFor_size) (C := RX4) (T := TX4) (N := 2) hx hb hts in_X9_fullState_X4 hown hK hP 1 rfl rfl 0 (by decide) (hts _ mb_X9_fullState_1) (fun _ h9 => h9) rfl dX9_fullState_9 ?_
    refine lv_icmp_ge (tgt := 39) hx hb dX9_fullState_12 (by decide) (fun c1 => ?_) (fun c1 => ?_)
    · have h := ift c1 h
      refine lv_iload_n hx hb dX9_fullState_39 rfl (lv_at hl 1 rfl) ?_
      obtain rfl := Option.some.inj h
      exact g_iret C hP hD hS dX9_fullState_40
    · have h := iff_ c1 h
      refine lv_iload_n hx hb dX9_fullState_15 rfl (lv_at hl 1 rfl) ?_
      refine lv_aload_n hx hb dX9_fullState_16 rfl (lv_at hl 0 rfl) ?_
      refine va_get (D := D) (ci := 9) (v := .ref a_x_madeFor) (C := RX9) (T := TX9) (N := 7) hx hb hts in_X9_fullState_X9 hown hK hP 0 rfl rfl 0 (by decide) (hts _ mb_X9_fullState_0) (fun _ h9 => h9) rfl dX9_fullState_17 ?_
      refine va_get (D := D) (ci := 4) (v := .ref a_x_madeFor_every) (C := RX4) (T := TX4) (N := 2) hx hb hts in_X9_fullState_X4 hown hK hP 1 rfl rfl 1 (by decide) (hts _ mb_X9_fullState_2) (fun _ h9 => h9) rfl dX9_fullState_20 ?_
      refine lv_iload_n hx hb dX9_fullState_23 rfl (lv_at hl 2 rfl) ?_
      obtain ⟨i2, h⟩ := gI_some h
      refine va_iald hx hb hK hP 2 0 rfl rfl i2 dX9_fullState_24 ?_
      refine lv_iconst (v := 1) hx hb dX9_fullState_25 (by decide) ?_
      refine lv_isub hx hb dX9_fullState_26 ?_
      refine lv_iconst (v := 3) hx hb dX9_fullState_27 (by decide) ?_
      refine lv_iload_n hx hb dX9_fullState_28 rfl (lv_at hl 2 rfl) ?_
      refine lv_imul hx hb dX9_fullState_29 ?_
      refine lv_ishl hx hb dX9_fullState_30 ?_
      refine lv_ior hx hb dX9_fullState_31 ?_
      refine lv_istore_n (lv' := [(1, .int (v1 ||| (((x_madeFor_every v2.toNatClampNeg) - 1) <<< ((3 * v2) &&& 31)))), (0, .ref a_x), (2, .int v2)]) hx hb dX9_fullState_32 rfl hl (by decide) rfl (fun ls hl => ?_)
      refine lv_iinc (v := v2 + 1) (lv' := [(2, .int (v2 + 1)), (1, .int (v1 ||| (((x_madeFor_every v2.toNatClampNeg) - 1) <<< ((3 * v2) &&& 31)))), (0, .ref a_x)]) hx hb dX9_fullState_33 hl (k := 2) rfl rfl (by decide) rfl (fun ls hl => ?_)
      refine lv_goto (tgt := 4) hx hb dX9_fullState_36 (by decide) ?_
      exact hk_4 (v1 ||| (((x_madeFor_every v2.toNatClampNeg) - 1) <<< ((3 * v2) &&& 31))) (v2 + 1) h H locs ls hP hD hS (lv_sub hl [2, 1, 0] rfl)
set_option maxRecDepth 100000 in
set_option maxHeartbeats 4000000 in
theorem c_X9_fullState (l : Launch) (D : va_G) (cI cJ cZ cG : ClassId) (a_x a_x_madeFor a_x_dead a_x_met a_x_states a_x_visits a_x_madeFor_every : Nat) (x_size : Int32) (x_roundStart : Int32) (x_madeFor_size : Int32) (x_madeFor_every : (Nat → Int32)) (N : Nat) (q : Int32) (h : f_X9_fullState N x_madeFor_size x_madeFor_every = some q) : gMet l yX9_fullState wsX9_fullState rm_X9_fullState [.ref a_x] (w_X9_fullState cI cJ cZ cG a_x a_x_madeFor a_x_dead a_x_met a_x_states a_x_visits a_x_madeFor_every x_size x_roundStart x_madeFor_size x_madeFor_every) (w_X9_fullState cI cJ cZ cG a_x a_x_madeFor a_x_dead a_x_met a_x_states a_x_visits a_x_madeFor_every x_size x_roundStart x_madeFor_size x_madeFor_every) (some (.int q)) D cI cJ cZ cG := by
  refine g_enter (cc := cX9_fullState) (nL := 3) (ret := (some .int)) (by decide) rfl (Nat.le_of_ble_eq_true rfl) ?_
  intro p e s m below meth c A C H locs ls hP hD hS hl
  obtain ⟨hx, hb, hr, hml, hown, hts, hlk, hgk, hA⟩ := id C
  have hK := hgk.1
  have hl : lv_has ls 3 [(0, .ref a_x)] := hl
  unfold f_X9_fullState at h
  refine lv_iconst (v := 0) hx hb dX9_fullState_0 (by decide) ?_
  refine lv_istore_n (lv' := [(1, .int 0), (0, .ref a_x)]) hx hb dX9_fullState_1 rfl hl (by decide) rfl (fun ls hl => ?_)
  refine lv_iconst (v := 0) hx hb dX9_fullState_2 (by decide) ?_
  refine lv_istore_n (lv' := [(2, .int 0), (1, .int 0), (0, .ref a_x)]) hx hb dX9_fullState_3 rfl hl (by decide) rfl (fun ls hl => ?_)
  exact t_X9_fullState_b4 C a_x a_x_madeFor a_x_dead a_x_met a_x_states a_x_visits a_x_madeFor_every x_size x_roundStart x_madeFor_size x_madeFor_every N q N 0 0 h H locs ls hP hD hS (lv_sub hl [2, 1, 0] rfl)
