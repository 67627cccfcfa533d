variable {p : Program} {l : Launch} {e : Env} {s : State} {m : MethodId} {args : Array Value} {below : List Frame} {meth : Method} {c : Code} {D : va_G} {A : Nat → Prop} {cI cJ cZ cG : ClassId}
theorem in_X10_back_X10 : ∀ w ∈ wsX100, w ∈ wsX10_back := by decide +kernel
theorem in_X10_back_X6 : ∀ w ∈ wsX60, w ∈ wsX10_back := by decide +kernel
theorem in_X10_back_X8 : ∀ w ∈ wsX80, w ∈ wsX10_back := by decide +kernel
theorem mb_X10_back_0 : Cond.fieldLink RX10 269 "GuardDesk" "isKept" "Z" ∈ wsX10_back := List.mem_of_getElem? (i := 1) rfl
theorem mb_X10_back_1 : Cond.fieldLink RX10 10 "GuardDesk" "now" "LGuardDesk$Scene;" ∈ wsX10_back := List.mem_of_getElem? (i := 3) rfl
theorem mb_X10_back_2 : Cond.fieldLink RX10 16 "GuardDesk" "kept" "LGuardDesk$Scene;" ∈ wsX10_back := List.mem_of_getElem? (i := 4) rfl
theorem mb_X10_back_3 : Cond.fieldLink RX10 69 "GuardDesk$Scene" "targets" "LGuardDesk$Targets;" ∈ wsX10_back := List.mem_of_getElem? (i := 5) rfl
theorem mb_X10_back_4 : Cond.fieldLink RX10 73 "GuardDesk$Targets" "size" "I" ∈ wsX10_back := List.mem_of_getElem? (i := 6) rfl
theorem mb_X10_back_5 : Cond.constant RX10 119 (-1000000010) ∈ wsX10_back := List.mem_of_getElem? (i := 2) rfl
set_option maxRecDepth 100000 in
set_option maxHeartbeats 4000000 in
theorem c_X10_back (l : Launch) (D : va_G) (cI cJ cZ cG : ClassId) (a_x a_x_now a_x_kept a_x_sheets a_x_plan a_x_draw a_x_blockade a_x_watch a_x_now_targets a_x_now_roads a_x_now_posts a_x_now_haunts a_x_now_targets_kind a_x_now_targets_saved a_x_now_targets_lost a_x_now_targets_gain a_x_now_targets_gap a_x_now_targets_least a_x_now_targets_most a_x_now_targets_hand a_x_now_roads_from a_x_now_roads_to a_x_now_roads_length a_x_now_roads_reach a_x_now_roads_lastRoad a_x_now_posts_every a_x_now_haunts_places a_x_now_haunts_weight a_x_kept_targets a_x_kept_roads a_x_kept_posts a_x_kept_haunts a_x_kept_targets_kind a_x_kept_targets_saved a_x_kept_targets_lost a_x_kept_targets_gain a_x_kept_targets_gap a_x_kept_targets_least a_x_kept_targets_most a_x_kept_targets_hand a_x_kept_roads_from a_x_kept_roads_to a_x_kept_roads_length a_x_kept_roads_reach a_x_kept_roads_lastRoad a_x_kept_posts_every a_x_kept_haunts_places a_x_kept_haunts_weight : Nat) (x_isKept : Int32) (x_latestBelow : Int32) (x_findings : Int32) (x_now_targets_size : Int32) (x_now_targets_guards : Int32) (x_now_targets_kind : (Nat → Int32)) (x_now_targets_saved : (Nat → Int32)) (x_now_targets_lost : (Nat → Int32)) (x_now_targets_gain : (Nat → Int32)) (x_now_targets_gap : (Nat → Int32)) (x_now_targets_least : (Nat → Int32)) (x_now_targets_most : (Nat → Int32)) (x_now_targets_hand : (Nat → Int32)) (x_now_roads_size : Int32) (x_now_roads_barred : Int32) (x_now_roads_from : (Nat → Int32)) (x_now_roads_to : (Nat → Int32)) (x_now_roads_length : (Nat → Int32)) (x_now_posts_size : Int32) (x_now_posts_every : (Nat → Int32)) (x_now_haunts_size : Int32) (x_now_haunts_places : (Nat → Int32)) (x_now_haunts_weight : (Nat → Int32)) (x_kept_targets_size : Int32) (x_kept_targets_guards : Int32) (x_kept_targets_kind : (Nat → Int32)) (x_kept_targets_saved : (Nat → Int32)) (x_kept_targets_lost : (Nat → Int32)) (x_kept_targets_gain : (Nat → Int32)) (x_kept_targets_gap : (Nat → Int32)) (x_kept_targets_least : (Nat → Int32)) (x_kept_targets_most : (Nat → Int32)) (x_kept_targets_hand : (Nat → Int32)) (x_kept_roads_size : Int32) (x_kept_roads_barred : Int32) (x_kept_roads_from : (Nat → Int32)) (x_kept_roads_to : (Nat → Int32)) (x_kept_roads_length : (Nat → Int32)) (x_kept_posts_size : Int32) (x_kept_posts_every : (Nat → Int32)) (x_kept_haunts_size : Int32) (x_kept_haunts_places : (Nat → Int32)) (x_kept_haunts_weight : (Nat → Int32)) (q : Int32 × Int32 × Int32 × Int32 × (Nat → Int32) × (Nat → Int32) × (Nat → Int32) × (Nat → Int32) × (Nat → Int32) × (Nat → Int32) × (Nat → Int32) × (Nat → Int32) × Int32 × Int32 × (Nat → Int32) × (Nat → Int32) × (Nat → Int32) × Int32 × (Nat → Int32) × Int32 × (Nat → Int32) × (Nat → Int32)) (h : f_X10_back x_isKept x_findings x_now_targets_size x_now_targets_guards x_now_targets_kind x_now_targets_saved x_now_targets_lost x_now_targets_gain x_now_targets_gap x_now_targets_least x_now_targets_most x_now_targets_hand x_now_roads_size x_now_roads_barred x_now_roads_from x_now_roads_to x_now_roads_length x_now_posts_size x_now_posts_every x_now_haunts_size x_now_haunts_places x_now_haunts_weight x_kept_targets_size x_kept_targets_guards x_kept_targets_kind x_kept_targets_saved x_kept_targets_lost x_kept_targets_gain x_kept_targets_gap x_kept_targets_least x_kept_targets_most x_kept_targets_hand x_kept_roads_size x_kept_roads_barred x_kept_roads_from x_kept_roads_to x_kept_roads_length x_kept_posts_size x_kept_posts_every x_kept_haunts_size x_kept_haunts_places x_kept_haunts_weight = q) : gMet l yX10_back wsX10_back rm_X10_back [.ref a_x] (w_X10_back cI cJ cZ cG a_x a_x_now a_x_kept a_x_sheets a_x_plan a_x_draw a_x_blockade a_x_watch a_x_now_targets a_x_now_roads a_x_now_posts a_x_now_haunts a_x_now_targets_kind a_x_now_targets_saved a_x_now_targets_lost a_x_now_targets_gain a_x_now_targets_gap a_x_now_targets_least a_x_now_targets_most a_x_now_targets_hand a_x_now_roads_from a_x_now_roads_to a_x_now_roads_length a_x_now_roads_reach a_x_now_roads_lastRoad a_x_now_posts_every a_x_now_haunts_places a_x_now_haunts_weight a_x_kept_targets a_x_kept_roads a_x_kept_posts a_x_kept_haunts a_x_kept_targets_kind a_x_kept_targets_saved a_x_kept_targets_lost a_x_kept_targets_gain a_x_kept_targets_gap a_x_kept_targets_least a_x_kept_targets_most a_x_kept_targets_hand a_x_kept_roads_from a_x_kept_roads_to a_x_kept_roads_length a_x_kept_roads_reach a_x_kept_roads_lastRoad a_x_kept_posts_every a_x_kept_haunts_places a_x_kept_haunts_weight x_isKept x_latestBelow x_findings x_now_targets_size x_now_targets_guards x_now_targets_kind x_now_targets_saved x_now_targets_lost x_now_targets_gain x_now_targets_gap x_now_targets_least x_now_targets_most x_now_targets_hand x_now_roads_size x_now_roads_barred x_now_roads_from x_now_roads_to x_now_roads_length x_now_posts_size x_now_posts_every x_now_haunts_size x_now_haunts_places x_now_haunts_weight x_kept_targets_size x_kept_targets_guards x_kept_targets_kind x_kept_targets_saved x_kept_targets_lost x_kept_targets_gain x_kept_targets_gap x_kept_targets_least x_kept_targets_most x_kept_targets_hand x_kept_roads_size x_kept_roads_barred x_kept_roads_from x_kept_roads_to x_kept_roads_length x_kept_posts_size x_kept_posts_every x_kept_haunts_size x_kept_haunts_places x_kept_haunts_weight) (w_X10_back cI cJ cZ cG a_x a_x_now a_x_kept a_x_sheets a_x_plan a_x_draw a_x_blockade a_x_watch a_x_now_targets a_x_now_roads a_x_now_posts a_x_now_haunts a_x_now_targets_kind a_x_now_targets_saved a_x_now_targets_lost a_x_now_targets_gain a_x_now_targets_gap a_x_now_targets_least a_x_now_targets_most a_x_now_targets_hand a_x_now_roads_from a_x_now_roads_to a_x_now_roads_length a_x_now_roads_reach a_x_now_roads_lastRoad a_x_now_posts_every a_x_now_haunts_places a_x_now_haunts_weight a_x_kept_targets a_x_kept_roads a_x_kept_posts a_x_kept_haunts a_x_kept_targets_kind a_x_kept_targets_saved a_x_kept_targets_lost a_x_kept_targets_gain a_x_kept_targets_gap a_x_kept_targets_least a_x_kept_targets_most a_x_kept_targets_hand a_x_kept_roads_from a_x_kept_roads_to a_x_kept_roads_length a_x_kept_roads_reach a_x_kept_roads_lastRoad a_x_kept_posts_every a_x_kept_haunts_places a_x_kept_haunts_weight x_isKept x_latestBelow q.2.1 q.2.2.1 q.2.2.2.1 q.2.2.2.2.1 q.2.2.2.2.2.1 q.2.2.2.2.2.2.1 q.2.2.2.2.2.2.2.1 q.2.2.2.2.2.2.2.2.1 q.2.2.2.2.2.2.2.2.2.1 q.2.2.2.2.2.2.2.2.2.2.1 q.2.2.2.2.2.2.2.2.2.2.2.1 q.2.2.2.2.2.2.2.2.2.2.2.2.1 q.2.2.2.2.2.2.2.2.2.2.2.2.2.1 q.2.2.2.2.2.2.2.2.2.2.2.2.2.2.1 q.2.2.2.2.2.2.2.2.2.2.2.2.2.2.2.1 q.2.2.2.2.2.2.2.2.2.2.2.2.2.2.2.2.1 q.2.2.2.2.2.2.2.2.2.2.2.2.2.2.2.2.2.1 q.2.2.2.2.2.2.2.2.2.2.2.2.2.2.2.2.2.2.1 q.2.2.2.2.2.2.2.2.2.2.2.2.2.2.2.2.2.2.2.1 q.2.2.2.2.2.2.2.2.2.2.2.2.2.2.2.2.2.2.2.2.1 q.2.2.2.2.2.2.2.2.2.2.2.2.2.2.2.2.2.2.2.2.2 x_kept_targets_size x_kept_targets_guards x_kept_targets_kind x_kept_targets_saved x_kept_targets_lost x_kept_targets_gain x_kept_targets_gap x_kept_targets_least x_kept_targets_most x_kept_targets_hand x_kept_roads_size x_kept_roads_barred x_kept_roads_from x_kept_roads_to x_kept_roads_length x_kept_posts_size x_kept_posts_every x_kept_haunts_size x_kept_haunts_places x_kept_haunts_weight) (some (.int q.1)) D cI cJ cZ cG := by
  refine g_enter (cc := cX10_back) (nL := 1) (ret := (some .int)) (by decide) rfl (Nat.le_of_ble_eq_true rfl) ?_
  intro p e s m below meth c A C H locs ls hP hD hS hl
  obtain ⟨hx, hb, hr, hml, hown, hts, hlk, hgk, hA⟩ := id C
  have hK := hgk.1
  have hl : lv_has ls 1 [(0, .ref a_x)] := hl
  unfold f_X10_back at h
  refine lv_aload_n hx hb dX10_back_0 rfl (lv_at hl 0 rfl) ?_
  refine va_get (D := D) (ci := 10) (v := .int x_isKept) (C := RX10) (T := TX10) (N := 10) hx hb hts in_X10_back_X10 hown hK hP 0 rfl rfl 7 (by decide) (hts _ mb_X10_back_0) (fun _ h9 => h9) rfl dX10_back_1 ?_
  refine lv_if_ne (tgt := 14) hx hb dX10_back_4 (by decide) (fun c1 => ?_) (fun c1 => ?_)
  · have h := iff_ c1 h
    refine lv_aload_n hx hb dX10_back_14 rfl (lv_at hl 0 rfl) ?_
    refine va_get (D := D) (ci := 10) (v := .ref a_x_now) (C := RX10) (T := TX10) (N := 10) hx hb hts in_X10_back_X10 hown hK hP 0 rfl rfl 0 (by decide) (hts _ mb_X10_back_1) (fun _ h9 => h9) rfl dX10_back_15 ?_
    refine lv_aload_n hx hb dX10_back_18 rfl (lv_at hl 0 rfl) ?_
    refine va_get (D := D) (ci := 10) (v := .ref a_x_kept) (C := RX10) (T := TX10) (N := 10) hx hb hts in_X10_back_X10 hown hK hP 0 rfl rfl 1 (by decide) (hts _ mb_X10_back_2) (fun _ h9 => h9) rfl dX10_back_19 ?_
    refine g_callV (index := 265) (maxL := 2) (n := 1) (As := [.ref a_x_kept]) (rest := []) (st1 := []) (C1 := RX6) (T1 := TX6) (N1 := 4) (ws2 := (w_X10_back cI cJ cZ cG a_x a_x_now a_x_kept a_x_sheets a_x_plan a_x_draw a_x_blockade a_x_watch a_x_now_targets a_x_now_roads a_x_now_posts a_x_now_haunts a_x_now_targets_kind a_x_now_targets_saved a_x_now_targets_lost a_x_now_targets_gain a_x_now_targets_gap a_x_now_targets_least a_x_now_targets_most a_x_now_targets_hand a_x_now_roads_from a_x_now_roads_to a_x_now_roads_length a_x_now_roads_reach a_x_now_roads_lastRoad a_x_now_posts_every a_x_now_haunts_places a_x_now_haunts_weight a_x_kept_targets a_x_kept_roads a_x_kept_posts a_x_kept_haunts a_x_kept_targets_kind a_x_kept_targets_saved a_x_kept_targets_lost a_x_kept_targets_gain a_x_kept_targets_gap a_x_kept_targets_least a_x_kept_targets_most a_x_kept_targets_hand a_x_kept_roads_from a_x_kept_roads_to a_x_kept_roads_length a_x_kept_roads_reach a_x_kept_roads_lastRoad a_x_kept_posts_every a_x_kept_haunts_places a_x_kept_haunts_weight x_isKept x_latestBelow x_findings ((f_X6_copyFrom x_now_targets_size x_now_targets_guards x_now_targets_kind x_now_targets_saved x_now_targets_lost x_now_targets_gain x_now_targets_gap x_now_targets_least x_now_targets_most x_now_targets_hand x_now_roads_size x_now_roads_barred x_now_roads_from x_now_roads_to x_now_roads_length x_now_posts_size x_now_posts_every x_now_haunts_size x_now_haunts_places x_now_haunts_weight x_kept_targets_size x_kept_targets_guards x_kept_targets_kind x_kept_targets_saved x_kept_targets_lost x_kept_targets_gain x_kept_targets_gap x_kept_targets_least x_kept_targets_most x_kept_targets_hand x_kept_roads_size x_kept_roads_barred x_kept_roads_from x_kept_roads_to x_kept_roads_length x_kept_posts_size x_kept_posts_every x_kept_haunts_size x_kept_haunts_places x_kept_haunts_weight).1) ((f_X6_copyFrom x_now_targets_size x_now_targets_guards x_now_targets_kind x_now_targets_saved x_now_targets_lost x_now_targets_gain x_now_targets_gap x_now_targets_least x_now_targets_most x_now_targets_hand x_now_roads_size x_now_roads_barred x_now_roads_from x_now_roads_to x_now_roads_length x_now_posts_size x_now_posts_every x_now_haunts_size x_now_haunts_places x_now_haunts_weight x_kept_targets_size x_kept_targets_guards x_kept_targets_kind x_kept_targets_saved x_kept_targets_lost x_kept_targets_gain x_kept_targets_gap x_kept_targets_least x_kept_targets_most x_kept_targets_hand x_kept_roads_size x_kept_roads_barred x_kept_roads_from x_kept_roads_to x_kept_roads_length x_kept_posts_size x_kept_posts_every x_kept_haunts_size x_kept_haunts_places x_kept_haunts_weight).2.1) ((f_X6_copyFrom x_now_targets_size x_now_targets_guards x_now_targets_kind x_now_targets_saved x_now_targets_lost x_now_targets_gain x_now_targets_gap x_now_targets_least x_now_targets_most x_now_targets_hand x_now_roads_size x_now_roads_barred x_now_roads_from x_now_roads_to x_now_roads_length x_now_posts_size x_now_posts_every x_now_haunts_size x_now_haunts_places x_now_haunts_weight x_kept_targets_size x_kept_targets_guards x_kept_targets_kind x_kept_targets_saved x_kept_targets_lost x_kept_targets_gain x_kept_targets_gap x_kept_targets_least x_kept_targets_most x_kept_targets_hand x_kept_roads_size x_kept_roads_barred x_kept_roads_from x_kept_roads_to x_kept_roads_length x_kept_posts_size x_kept_posts_every x_kept_haunts_size x_kept_haunts_places x_kept_haunts_weight).2.2.1) ((f_X6_copyFrom x_now_targets_size x_now_targets_guards x_now_targets_kind x_now_targets_saved x_now_targets_lost x_now_targets_gain x_now_targets_gap x_now_targets_least x_now_targets_most x_now_targets_hand x_now_roads_size x_now_roads_barred x_now_roads_from x_now_roads_to x_now_roads_length x_now_posts_size x_now_posts_every x_now_haunts_size x_now_haunts_places x_now_haunts_weight x_kept_targets_size x_kept_targets_guards x_kept_targets_kind x_kept_targets_saved x_kept_targets_lost x_kept_targets_gain x_kept_targets_gap x_kept_targets_least x_kept_targets_most x_kept_targets_hand x_kept_roads_size x_kept_roads_barred x_kept_roads_from x_kept_roads_to x_kept_roads_length x_kept_posts_size x_kept_posts_every x_kept_haunts_size x_kept_haunts_places x_kept_haunts_weight).2.2.2.1) ((f_X6_copyFrom x_now_targets_size x_now_targets_guards x_now_targets_kind x_now_targets_saved x_now_targets_lost x_now_targets_gain x_now_targets_gap x_now_targets_least x_now_targets_most x_now_targets_hand x_now_roads_size x_now_roads_barred x_now_roads_from x_now_roads_to x_now_roads_length x_now_posts_size x_now_posts_every x_now_haunts_size x_now_haunts_places x_now_haunts_weight x_kept_targets_size x_kept_targets_guards x_kept_targets_kind x_kept_targets_saved x_kept_targets_lost x_kept_targets_gain x_kept_targets_gap x_kept_targets_least x_kept_targets_most x_kept_targets_hand x_kept_roads_size x_kept_roads_barred x_kept_roads_from x_kept_roads_to x_kept_roads_length x_kept_posts_size x_kept_posts_every x_kept_haunts_size x_kept_haunts_places x_kept_haunts_weight).2.2.2.2.1) ((f_X6_copyFrom x_now_targets_size x_now_targets_guards x_now_targets_kind x_now_targets_saved x_now_targets_lost x_now_targets_gain x_now_targets_gap x_now_targets_least x_now_targets_most x_now_targets_hand x_now_roads_size x_now_roads_barred x_now_roads_from x_now_roads_to x_now_roads_length x_now_posts_size x_now_posts_every x_now_haunts_size x_now_haunts_places x_now_haunts_weight x_kept_targets_size x_kept_targets_guards x_kept_targets_kind x_kept_targets_saved x_kept_targets_lost x_kept_targets_gain x_kept_targets_gap x_kept_targets_least x_kept_targets_most x_kept_targets_hand x_kept_roads_size x_kept_roads_barred x_kept_roads_from x_kept_roads_to x_kept_roads_length x_kept_posts_size x_kept_posts_every x_kept_haunts_size x_kept_haunts_places x_kept_haunts_weight).2.2.2.2.2.1) ((f_X6_copyFrom x_now_targets_size x_now_targets_guards x_now_targets_kind x_now_targets_saved x_now_targets_lost x_now_targets_gain x_now_targets_gap x_now_targets_least x_now_targets_most x_now_targets_hand x_now_roads_size x_now_roads_barred x_now_roads_from x_now_roads_to x_now_roads_length x_now_posts_size x_now_posts_every x_now_haunts_size x_now_haunts_places x_now_haunts_weight x_kept_targets_size x_kept_targets_guards x_kept_targets_kind x_kept_targets_saved x_kept_targets_lost x_kept_targets_gain x_kept_targets_gap x_kept_targets_least x_kept_targets_most x_kept_targets_hand x_kept_roads_size x_kept_roads_barred x_kept_roads_from x_kept_roads_to x_kept_roads_length x_kept_posts_size x_kept_posts_every x_kept_haunts_size x_kept_haunts_places x_kept_haunts_weight).2.2.2.2.2.2.1) ((f_X6_copyFrom x_now_targets_size x_now_targets_guards x_now_targets_kind x_now_targets_saved x_now_targets_lost x_now_targets_gain x_now_targets_gap x_now_targets_least x_now_targets_most x_now_targets_hand x_now_roads_size x_now_roads_barred x_now_roads_from x_now_roads_to x_now_roads_length x_now_posts_size x_now_posts_every x_now_haunts_size x_now_haunts_places x_now_haunts_weight x_kept_targets_size x_kept_targets_guards x_kept_targets_kind x_kept_targets_saved x_kept_targets_lost x_kept_targets_gain x_kept_targets_gap x_kept_targets_least x_kept_targets_most x_kept_targets_hand x_kept_roads_size x_kept_roads_barred x_kept_roads_from x_kept_roads_to x_kept_roads_length x_kept_posts_size x_kept_posts_every x_kept_haunts_size x_kept_haunts_places x_kept_haunts_weight).2.2.2.2.2.2.2.1) ((f_X6_copyFrom x_now_targets_size x_now_targets_guards x_now_targets_kind x_now_targets_saved x_now_targets_lost x_now_targets_gain x_now_targets_gap x_now_targets_least x_now_targets_most x_now_targets_hand x_now_roads_size x_now_roads_barred x_now_roads_from x_now_roads_to x_now_roads_length x_now_posts_size x_now_posts_every x_now_haunts_size x_now_haunts_places x_now_haunts_weight x_kept_targets_size x_kept_targets_guards x_kept_targets_kind x_kept_targets_saved x_kept_targets_lost x_kept_targets_gain x_kept_targets_gap x_kept_targets_least x_kept_targets_most x_kept_targets_hand x_kept_roads_size x_kept_roads_barred x_kept_roads_from x_kept_roads_to x_kept_roads_length x_kept_posts_size x_kept_posts_every x_kept_haunts_size x_kept_haunts_places x_kept_haunts_weight).2.2.2.2.2.2.2.2.1) ((f_X6_copyFrom x_now_targets_size x_now_targets_guards x_now_targets_kind x_now_targets_saved x_now_targets_lost x_now_targets_gain x_now_targets_gap x_now_targets_least x_now_targets_most x_now_targets_hand x_now_roads_size x_now_roads_barred x_now_roads_from x_now_roads_to x_now_roads_length x_now_posts_size x_now_posts_every x_now_haunts_size x_now_haunts_places x_now_haunts_weight x_kept_targets_size x_kept_targets_guards x_kept_targets_kind x_kept_targets_saved x_kept_targets_lost x_kept_targets_gain x_kept_targets_gap x_kept_targets_least x_kept_targets_most x_kept_targets_hand x_kept_roads_size x_kept_roads_barred x_kept_roads_from x_kept_roads_to x_kept_roads_length x_kept_posts_size x_kept_posts_every x_kept_haunts_size x_kept_haunts_places x_kept_haunts_weight).2.2.2.2.2.2.2.2.2.1) ((f_X6_copyFrom x_now_targets_size x_now_targets_guards x_now_targets_kind x_now_targets_saved x_now_targets_lost x_now_targets_gain x_now_targets_gap x_now_targets_least x_now_targets_most x_now_targets_hand x_now_roads_size x_now_roads_barred x_now_roads_from x_now_roads_to x_now_roads_length x_now_posts_size x_now_posts_every x_now_haunts_size x_now_haunts_places x_now_haunts_weight x_kept_targets_size x_kept_targets_guards x_kept_targets_kind x_kept_targets_saved x_kept_targets_lost x_kept_targets_gain x_kept_targets_gap x_kept_targets_least x_kept_targets_most x_kept_targets_hand x_kept_roads_size x_kept_roads_barred x_kept_roads_from x_kept_roads_to x_kept_roads_length x_kept_posts_size x_kept_posts_every x_kept_haunts_size x_kept_haunts_places x_kept_haunts_weight).2.2.2.2.2.2.2.2.2.2.1) ((f_X6_copyFrom x_now_targets_size x_now_targets_guards x_now_targets_kind x_now_targets_saved x_now_targets_lost x_now_targets_gain x_now_targets_gap x_now_targets_least x_now_targets_most x_now_targets_hand x_now_roads_size x_now_roads_barred x_now_roads_from x_now_roads_to x_now_roads_length x_now_posts_size x_now_posts_every x_now_haunts_size x_now_haunts_places x_now_haunts_weight x_kept_targets_size x_kept_targets_guards x_kept_targets_kind x_kept_targets_saved x_kept_targets_lost x_kept_targets_gain x_kept_targets_gap x_kept_targets_least x_kept_targets_most x_kept_targets_hand x_kept_roads_size x_kept_roads_barred x_kept_roads_from x_kept_roads_to x_kept_roads_length x_kept_posts_size x_kept_posts_every x_kept_haunts_size x_kept_haunts_places x_kept_haunts_weight).2.2.2.2.2.2.2.2.2.2.2.1) ((f_X6_copyFrom x_now_targets_size x_now_targets_guards x_now_targets_kind x_now_targets_saved x_now_targets_lost x_now_targets_gain x_now_targets_gap x_now_targets_least x_now_targets_most x_now_targets_hand x_now_roads_size x_now_roads_barred x_now_roads_from x_now_roads_to x_now_roads_length x_now_posts_size x_now_posts_every x_now_haunts_size x_now_haunts_places x_now_haunts_weight x_kept_targets_size x_kept_targets_guards x_kept_targets_kind x_kept_targets_saved x_kept_targets_lost x_kept_targets_gain x_kept_targets_gap x_kept_targets_least x_kept_targets_most x_kept_targets_hand x_kept_roads_size x_kept_roads_barred x_kept_roads_from x_kept_roads_to x_kept_roads_length x_kept_posts_size x_kept_posts_every x_kept_haunts_size x_kept_haunts_places x_kept_haunts_weight).2.2.2.2.2.2.2.2.2.2.2.2.1) ((f_X6_copyFrom x_now_targets_size x_now_targets_guards x_now_targets_kind x_now_targets_saved x_now_targets_lost x_now_targets_gain x_now_targets_gap x_now_targets_least x_now_targets_most x_now_targets_hand x_now_roads_size x_now_roads_barred x_now_roads_from x_now_roads_to x_now_roads_length x_now_posts_size x_now_posts_every x_now_haunts_size x_now_haunts_places x_now_haunts_weight x_kept_targets_size x_kept_targets_guards x_kept_targets_kind x_kept_targets_saved x_kept_targets_lost x_kept_targets_gain x_kept_targets_gap x_kept_targets_least x_kept_targets_most x_kept_targets_hand x_kept_roads_size x_kept_roads_barred x_kept_roads_from x_kept_roads_to x_kept_roads_length x_kept_posts_size x_kept_posts_every x_kept_haunts_size x_kept_haunts_places x_kept_haunts_weight).2.2.2.2.2.2.2.2.2.2.2.2.2.1) ((f_X6_copyFrom x_now_targets_size x_now_targets_guards x_now_targets_kind x_now_targets_saved x_now_targets_lost x_now_targets_gain x_now_targets_gap x_now_targets_least x_now_targets_most x_now_targets_hand x_now_roads_size x_now_roads_barred x_now_roads_from x_now_roads_to x_now_roads_length x_now_posts_size x_now_posts_every x_now_haunts_size x_now_haunts_places x_now_haunts_weight x_kept_targets_size x_kept_targets_guards x_kept_targets_kind x_kept_targets_saved x_kept_targets_lost x_kept_targets_gain x_kept_targets_gap x_kept_targets_least x_kept_targets_most x_kept_targets_hand x_kept_roads_size x_kept_roads_barred x_kept_roads_from x_kept_roads_to x_kept_roads_length x_kept_posts_size x_kept_posts_every x_kept_haunts_size x_kept_haunts_places x_kept_haunts_weight).2.2.2.2.2.2.2.2.2.2.2.2.2.2.1) ((f_X6_copyFrom x_now_targets_size x_now_targets_guards x_now_targets_kind x_now_targets_saved x_now_targets_lost x_now_targets_gain x_now_targets_gap x_now_targets_least x_now_targets_most x_now_targets_hand x_now_roads_size x_now_roads_barred x_now_roads_from x_now_roads_to x_now_roads_length x_now_posts_size x_now_posts_every x_now_haunts_size x_now_haunts_places x_now_haunts_weight x_kept_targets_size x_kept_targets_guards x_kept_targets_kind x_kept_targets_saved x_kept_targets_lost x_kept_targets_gain x_kept_targets_gap x_kept_targets_least x_kept_targets_most x_kept_targets_hand x_kept_roads_size x_kept_roads_barred x_kept_roads_from x_kept_roads_to x_kept_roads_length x_kept_posts_size x_kept_posts_every x_kept_haunts_size x_kept_haunts_places x_kept_haunts_weight).2.2.2.2.2.2.2.2.2.2.2.2.2.2.2.1) ((f_X6_copyFrom x_now_targets_size x_now_targets_guards x_now_targets_kind x_now_targets_saved x_now_targets_lost x_now_targets_gain x_now_targets_gap x_now_targets_least x_now_targets_most x_now_targets_hand x_now_roads_size x_now_roads_barred x_now_roads_from x_now_roads_to x_now_roads_length x_now_posts_size x_now_posts_every x_now_haunts_size x_now_haunts_places x_now_haunts_weight x_kept_targets_size x_kept_targets_guards x_kept_targets_kind x_kept_targets_saved x_kept_targets_lost x_kept_targets_gain x_kept_targets_gap x_kept_targets_least x_kept_targets_most x_kept_targets_hand x_kept_roads_size x_kept_roads_barred x_kept_roads_from x_kept_roads_to x_kept_roads_length x_kept_posts_size x_kept_posts_every x_kept_haunts_size x_kept_haunts_places x_kept_haunts_weight).2.2.2.2.2.2.2.2.2.2.2.2.2.2.2.2.1) ((f_X6_copyFrom x_now_targets_size x_now_targets_guards x_now_targets_kind x_now_targets_saved x_now_targets_lost x_now_targets_gain x_now_targets_gap x_now_targets_least x_now_targets_most x_now_targets_hand x_now_roads_size x_now_roads_barred x_now_roads_from x_now_roads_to x_now_roads_length x_now_posts_size x_now_posts_every x_now_haunts_size x_now_haunts_places x_now_haunts_weight x_kept_targets_size x_kept_targets_guards x_kept_targets_kind x_kept_targets_saved x_kept_targets_lost x_kept_targets_gain x_kept_targets_gap x_kept_targets_least x_kept_targets_most x_kept_targets_hand x_kept_roads_size x_kept_roads_barred x_kept_roads_from x_kept_roads_to x_kept_roads_length x_kept_posts_size x_kept_posts_every x_kept_haunts_size x_kept_haunts_places x_kept_haunts_weight).2.2.2.2.2.2.2.2.2.2.2.2.2.2.2.2.2.1) ((f_X6_copyFrom x_now_targets_size x_now_targets_guards x_now_targets_kind x_now_targets_saved x_now_targets_lost x_now_targets_gain x_now_targets_gap x_now_targets_least x_now_targets_most x_now_targets_hand x_now_roads_size x_now_roads_barred x_now_roads_from x_now_roads_to x_now_roads_length x_now_posts_size x_now_posts_every x_now_haunts_size x_now_haunts_places x_now_haunts_weight x_kept_targets_size x_kept_targets_guards x_kept_targets_kind x_kept_targets_saved x_kept_targets_lost x_kept_targets_gain x_kept_targets_gap x_kept_targets_least x_kept_targets_most x_kept_targets_hand x_kept_roads_size x_kept_roads_barred x_kept_roads_from x_kept_roads_to x_kept_roads_length x_kept_posts_size x_kept_posts_every x_kept_haunts_size x_kept_haunts_places x_kept_haunts_weight).2.2.2.2.2.2.2.2.2.2.2.2.2.2.2.2.2.2.1) ((f_X6_copyFrom x_now_targets_size x_now_targets_guards x_now_targets_kind x_now_targets_saved x_now_targets_lost x_now_targets_gain x_now_targets_gap x_now_targets_least x_now_targets_most x_now_targets_hand x_now_roads_size x_now_roads_barred x_now_roads_from x_now_roads_to x_now_roads_length x_now_posts_size x_now_posts_every x_now_haunts_size x_now_haunts_places x_now_haunts_weight x_kept_targets_size x_kept_targets_guards x_kept_targets_kind x_kept_targets_saved x_kept_targets_lost x_kept_targets_gain x_kept_targets_gap x_kept_targets_least x_kept_targets_most x_kept_targets_hand x_kept_roads_size x_kept_roads_barred x_kept_roads_from x_kept_roads_to x_kept_roads_length x_kept_posts_size x_kept_posts_every x_kept_haunts_size x_kept_haunts_places x_kept_haunts_weight).2.2.2.2.2.2.2.2.2.2.2.2.2.2.2.2.2.2.2) x_kept_targets_size x_kept_targets_guards x_kept_targets_kind x_kept_targets_saved x_kept_targets_lost x_kept_targets_gain x_kept_targets_gap x_kept_targets_least x_kept_targets_most x_kept_targets_hand x_kept_roads_size x_kept_roads_barred x_kept_roads_from x_kept_roads_to x_kept_roads_length x_kept_posts_size x_kept_posts_every x_kept_haunts_size x_kept_haunts_places x_kept_haunts_weight)) C hP hD hS hl.1 6 0 (c_X6_copyFrom l D cI cJ cZ cG a_x_now a_x_now_targets a_x_now_roads a_x_now_posts a_x_now_haunts a_x_now_targets_kind a_x_now_targets_saved a_x_now_targets_lost a_x_now_targets_gain a_x_now_targets_gap a_x_now_targets_least a_x_now_targets_most a_x_now_targets_hand a_x_now_roads_from a_x_now_roads_to a_x_now_roads_length a_x_now_roads_reach a_x_now_roads_lastRoad a_x_now_posts_every a_x_now_haunts_places a_x_now_haunts_weight a_x_kept a_x_kept_targets a_x_kept_roads a_x_kept_posts a_x_kept_haunts a_x_kept_targets_kind a_x_kept_targets_saved a_x_kept_targets_lost a_x_kept_targets_gain a_x_kept_targets_gap a_x_kept_targets_least a_x_kept_targets_most a_x_kept_targets_hand a_x_kept_roads_from a_x_kept_roads_to a_x_kept_roads_length a_x_kept_roads_reach a_x_kept_roads_lastRoad a_x_kept_posts_every a_x_kept_haunts_places a_x_kept_haunts_weight x_now_targets_size x_now_targets_guards x_now_targets_kind x_now_targets_saved x_now_targets_lost x_now_targets_gain x_now_targets_gap x_now_targets_least x_now_targets_most x_now_targets_hand x_now_roads_size x_now_roads_barred x_now_roads_from x_now_roads_to x_now_roads_length x_now_posts_size x_now_posts_every x_now_haunts_size x_now_haunts_places x_now_haunts_weight x_kept_targets_size x_kept_targets_guards x_kept_targets_kind x_kept_targets_saved x_kept_targets_lost x_kept_targets_gain x_kept_targets_gap x_kept_targets_least x_kept_targets_most x_kept_targets_hand x_kept_roads_size x_kept_roads_barred x_kept_roads_from x_kept_roads_to x_kept_roads_length x_kept_posts_size x_kept_posts_every x_kept_haunts_size x_kept_haunts_places x_kept_haunts_weight _ rfl) gX10_back_X6_copyFrom rfl rfl rfl (by decide +kernel) ⟨Nat.le_of_ble_eq_true rfl, Nat.le_of_ble_eq_true rfl⟩ rfl rfl rfl (Nat.le_of_ble_eq_true rfl) rfl dX10_back_22 [1, 2, 3, 4, 5, 6, 7, 8, 9, 10, 11, 12, 13, 14, 15, 16, 17, 18, 19, 20, 21, 22, 23, 24, 25, 26, 27, 28, 29, 30, 31, 32, 33, 34, 35, 36, 37, 38] [0] [0, 1, 2, 3, 4, 5, 6, 7, 8, 9, 10, 11, 12, 13, 14, 15, 16, 17, 18, 19, 20, 21, 22, 23, 24, 25, 26, 27, 28, 29, 30, 31, 32, 33, 34, 35, 36, 37, 38] rfl rfl rfl rfl (by decide) rfl rfl rfl (fun H locs hP hD hS => ?_)
    refine lv_aload_n hx hb dX10_back_25 rfl (lv_at hl 0 rfl) ?_
    refine va_get (D := D) (ci := 10) (v := .ref a_x_now) (C := RX10) (T := TX10) (N := 10) hx hb hts in_X10_back_X10 hown hK hP 0 rfl rfl 0 (by decide) (hts _ mb_X10_back_1) (fun _ h9 => h9) rfl dX10_back_26 ?_
    refine va_get (D := D) (ci := 6) (v := .ref a_x_now_targets) (C := RX6) (T := TX6) (N := 4) hx hb hts in_X10_back_X6 hown hK hP 1 rfl rfl 0 (by decide) (hts _ mb_X10_back_3) (fun _ h9 => h9) rfl dX10_back_29 ?_
    refine va_get (D := D) (ci := 8) (v := .int ((f_X6_copyFrom x_now_targets_size x_now_targets_guards x_now_targets_kind x_now_targets_saved x_now_targets_lost x_now_targets_gain x_now_targets_gap x_now_targets_least x_now_targets_most x_now_targets_hand x_now_roads_size x_now_roads_barred x_now_roads_from x_now_roads_to x_now_roads_length x_now_posts_size x_now_posts_every x_now_haunts_size x_now_haunts_places x_now_haunts_weight x_kept_targets_size x_kept_targets_guards x_kept_targets_kind x_kept_targets_saved x_kept_targets_lost x_kept_targets_gain x_kept_targets_gap x_kept_targets_least x_kept_targets_most x_kept_targets_hand x_kept_roads_size x_kept_roads_barred x_kept_roads_from x_kept_roads_to x_kept_roads_length x_kept_posts_size x_kept_posts_every x_kept_haunts_size x_kept_haunts_places x_kept_haunts_weight).1)) (C := RX8) (T := TX8) (N := 10) hx hb hts in_X10_back_X8 hown hK hP 2 rfl rfl 0 (by decide) (hts _ mb_X10_back_4) (fun _ h9 => h9) rfl dX10_back_32 ?_
    obtain rfl := h
    exact g_iret C hP hD hS dX10_back_35
  · have h := ift c1 h
    refine lv_aload_n hx hb dX10_back_7 rfl (lv_at hl 0 rfl) ?_
    refine lv_ldc (v := (-1000000010)) hx hb hown (hts _ mb_X10_back_5) dX10_back_8 ?_
    refine g_callV (index := 91) (maxL := 2) (n := 1) (As := [.int (-1000000010)]) (rest := []) (st1 := [.int ((f_X10_hostFinding x_findings (-1000000010)).1)]) (C1 := RX10) (T1 := TX10) (N1 := 10) (ws2 := (w_X10_back cI cJ cZ cG a_x a_x_now a_x_kept a_x_sheets a_x_plan a_x_draw a_x_blockade a_x_watch a_x_now_targets a_x_now_roads a_x_now_posts a_x_now_haunts a_x_now_targets_kind a_x_now_targets_saved a_x_now_targets_lost a_x_now_targets_gain a_x_now_targets_gap a_x_now_targets_least a_x_now_targets_most a_x_now_targets_hand a_x_now_roads_from a_x_now_roads_to a_x_now_roads_length a_x_now_roads_reach a_x_now_roads_lastRoad a_x_now_posts_every a_x_now_haunts_places a_x_now_haunts_weight a_x_kept_targets a_x_kept_roads a_x_kept_posts a_x_kept_haunts a_x_kept_targets_kind a_x_kept_targets_saved a_x_kept_targets_lost a_x_kept_targets_gain a_x_kept_targets_gap a_x_kept_targets_least a_x_kept_targets_most a_x_kept_targets_hand a_x_kept_roads_from a_x_kept_roads_to a_x_kept_roads_length a_x_kept_roads_reach a_x_kept_roads_lastRoad a_x_kept_posts_every a_x_kept_haunts_places a_x_kept_haunts_weight x_isKept x_latestBelow ((f_X10_hostFinding x_findings (-1000000010)).2) x_now_targets_size x_now_targets_guards x_now_targets_kind x_now_targets_saved x_now_targets_lost x_now_targets_gain x_now_targets_gap x_now_targets_least x_now_targets_most x_now_targets_hand x_now_roads_size x_now_roads_barred x_now_roads_from x_now_roads_to x_now_roads_length x_now_posts_size x_now_posts_every x_now_haunts_size x_now_haunts_places x_now_haunts_weight x_kept_targets_size x_kept_targets_guards x_kept_targets_kind x_kept_targets_saved x_kept_targets_lost x_kept_targets_gain x_kept_targets_gap x_kept_targets_least x_kept_targets_most x_kept_targets_hand x_kept_roads_size x_kept_roads_barred x_kept_roads_from x_kept_roads_to x_kept_roads_length x_kept_posts_size x_kept_posts_every x_kept_haunts_size x_kept_haunts_places x_kept_haunts_weight)) C hP hD hS hl.1 10 0 (c_X10_hostFinding l D cI cJ cZ cG a_x a_x_now a_x_kept a_x_sheets a_x_plan a_x_draw a_x_blockade a_x_watch x_isKept x_latestBelow x_findings (-1000000010) _ rfl) gX10_back_X10_hostFinding rfl rfl rfl (by decide +kernel) ⟨Nat.le_of_ble_eq_true rfl, Nat.le_of_ble_eq_true rfl⟩ rfl rfl rfl (Nat.le_of_ble_eq_true rfl) rfl dX10_back_10 [0] [1, 2, 3, 4, 5, 6, 7, 8, 9, 10, 11, 12, 13, 14, 15, 16, 17, 18, 19, 20, 21, 22, 23, 24, 25, 26, 27, 28, 29, 30, 31, 32, 33, 34, 35, 36, 37, 38] [38, 0, 1, 2, 3, 4, 5, 6, 7, 8, 9, 10, 11, 12, 13, 14, 15, 16, 17, 18, 19, 20, 21, 22, 23, 24, 25, 26, 27, 28, 29, 30, 31, 32, 33, 34, 35, 36, 37] rfl rfl rfl rfl (by decide) rfl rfl rfl (fun H locs hP hD hS => ?_)
    obtain rfl := h
    exact g_iret C hP hD hS dX10_back_13
theorem in_X10_count_X10 : ∀ w ∈ wsX100, w ∈ wsX10_count := by decide +kernel
theorem in_X10_count_X2 : ∀ w ∈ wsX20, w ∈ wsX10_count := by decide +kernel
theorem in_X10_count_X4 : ∀ w ∈ wsX40, w ∈ wsX10_count := by decide +kernel
theorem in_X10_count_X5 : ∀ w ∈ wsX50, w ∈ wsX10_count := by decide +kernel
theorem in_X10_count_X6 : ∀ w ∈ wsX60, w ∈ wsX10_count := by decide +kernel
theorem in_X10_count_X8 : ∀ w ∈ wsX80, w ∈ wsX10_count := by decide +kernel
theorem mb_X10_count_0 : Cond.fieldLink RX10 10 "GuardDesk" "now" "LGuardDesk$Scene;" ∈ wsX10_count := List.mem_of_getElem? (i := 1) rfl
theorem mb_X10_count_1 : Cond.fieldLink RX10 69 "GuardDesk$Scene" "targets" "LGuardDesk$Targets;" ∈ wsX10_count := List.mem_of_getElem? (i := 2) rfl
theorem mb_X10_count_2 : Cond.fieldLink RX10 73 "GuardDesk$Targets" "size" "I" ∈ wsX10_count := List.mem_of_getElem? (i := 3) rfl
theorem mb_X10_count_3 : Cond.fieldLink RX10 101 "GuardDesk$Targets" "guards" "I" ∈ wsX10_count := List.mem_of_getElem? (i := 4) rfl
theorem mb_X10_count_4 : Cond.fieldLink RX10 177 "GuardDesk$Scene" "roads" "LGuardDesk$Roads;" ∈ wsX10_count := List.mem_of_getElem? (i := 5) rfl
theorem mb_X10_count_5 : Cond.fieldLink RX10 181 "GuardDesk$Roads" "size" "I" ∈ wsX10_count := List.mem_of_getElem? (i := 6) rfl
theorem mb_X10_count_6 : Cond.fieldLink RX10 187 "GuardDesk$Roads" "barred" "I" ∈ wsX10_count := List.mem_of_getElem? (i := 7) rfl
theorem mb_X10_count_7 : Cond.fieldLink RX10 198 "GuardDesk$Scene" "posts" "LGuardDesk$Posts;" ∈ wsX10_count := List.mem_of_getElem? (i := 8) rfl
theorem mb_X10_count_8 : Cond.fieldLink RX10 202 "GuardDesk$Posts" "size" "I" ∈ wsX10_count := List.mem_of_getElem? (i := 9) rfl
theorem mb_X10_count_9 : Cond.fieldLink RX10 216 "GuardDesk$Scene" "haunts" "LGuardDesk$Haunts;" ∈ wsX10_count := List.mem_of_getElem? (i := 10) rfl
theorem mb_X10_count_10 : Cond.fieldLink RX10 220 "GuardDesk$Haunts" "size" "I" ∈ wsX10_count := List.mem_of_getElem? (i := 11) rfl
theorem mb_X10_count_11 : Cond.fieldLink RX10 278 "GuardDesk" "findings" "I" ∈ wsX10_count := List.mem_of_getElem? (i := 12) rfl
theorem mb_X10_count_12 : Cond.constant RX10 78 (-1000000002) ∈ wsX10_count := List.mem_of_getElem? (i := 13) rfl
set_option maxRecDepth 100000 in
set_option maxHeartbeats 4000000 in
theorem c_X10_count (l : Launch) (D : va_G) (cI cJ cZ cG : ClassId) (a_x a_x_now a_x_kept a_x_sheets a_x_plan a_x_draw a_x_blockade a_x_watch a_x_now_targets a_x_now_roads a_x_now_posts a_x_now_haunts a_x_now_targets_kind a_x_now_targets_saved a_x_now_targets_lost a_x_now_targets_gain a_x_now_targets_gap a_x_now_targets_least a_x_now_targets_most a_x_now_targets_hand a_x_now_roads_from a_x_now_roads_to a_x_now_roads_length a_x_now_roads_reach a_x_now_roads_lastRoad a_x_now_posts_every a_x_now_haunts_places a_x_now_haunts_weight : Nat) (x_isKept : Int32) (x_latestBelow : Int32) (x_findings : Int32) (x_now_targets_size : Int32) (x_now_targets_guards : Int32) (x_now_roads_size : Int32) (x_now_roads_barred : Int32) (x_now_posts_size : Int32) (x_now_haunts_size : Int32) (p1 : Int32) (q : Int32) (h : f_X10_count x_findings x_now_targets_size x_now_targets_guards x_now_roads_size x_now_roads_barred x_now_posts_size x_now_haunts_size p1 = q) : gMet l yX10_count wsX10_count rm_X10_count [.ref a_x, .int p1] (w_X10_count cI cJ cZ cG a_x a_x_now a_x_kept a_x_sheets a_x_plan a_x_draw a_x_blockade a_x_watch a_x_now_targets a_x_now_roads a_x_now_posts a_x_now_haunts a_x_now_targets_kind a_x_now_targets_saved a_x_now_targets_lost a_x_now_targets_gain a_x_now_targets_gap a_x_now_targets_least a_x_now_targets_most a_x_now_targets_hand a_x_now_roads_from a_x_now_roads_to a_x_now_roads_length a_x_now_roads_reach a_x_now_roads_lastRoad a_x_now_posts_every a_x_now_haunts_places a_x_now_haunts_weight x_isKept x_latestBelow x_findings x_now_targets_size x_now_targets_guards x_now_roads_size x_now_roads_barred x_now_posts_size x_now_haunts_size) (w_X10_count cI cJ cZ cG a_x a_x_now a_x_kept a_x_sheets a_x_plan a_x_draw a_x_blockade a_x_watch a_x_now_targets a_x_now_roads a_x_now_posts a_x_now_haunts a_x_now_targets_kind a_x_now_targets_saved a_x_now_targets_lost a_x_now_targets_gain a_x_now_targets_gap a_x_now_targets_least a_x_now_targets_most a_x_now_targets_hand a_x_now_roads_from a_x_now_roads_to a_x_now_roads_length a_x_now_roads_reach a_x_now_roads_lastRoad a_x_now_posts_every a_x_now_haunts_places a_x_now_haunts_weight x_isKept x_latestBelow x_findings x_now_targets_size x_now_targets_guards x_now_roads_size x_now_roads_barred x_now_posts_size x_now_haunts_size) (some (.int q)) D cI cJ cZ cG := by
  refine g_enter (cc := cX10_count) (nL := 2) (ret := (some .int)) (by decide) rfl (Nat.le_of_ble_eq_true rfl) ?_
  intro p e s m below meth c A C H locs ls hP hD hS hl
  obtain ⟨hx, hb, hr, hml, hown, hts, hlk, hgk, hA⟩ := id C
  have hK := hgk.1
  have hl : lv_has ls 2 [(0, .ref a_x), (1, .int p1)] := hl
  unfold f_X10_count at h
  refine lv_iload_n hx hb dX10_count_0 rfl (lv_at hl 1 rfl) ?_
  by_cases c1_0 : p1 = 0
  · have h := ift c1_0 h
    refine lv_tableIn (tgt := 44) hx hb dX10_count_1 (by rw [c1_0]; decide) (by rw [c1_0]; decide) (by rw [c1_0]; rfl) (by decide) ?_
    refine lv_aload_n hx hb dX10_count_44 rfl (lv_at hl 0 rfl) ?_
    refine va_get (D := D) (ci := 10) (v := .ref a_x_now) (C := RX10) (T := TX10) (N := 10) hx hb hts in_X10_count_X10 hown hK hP 0 rfl rfl 0 (by decide) (hts _ mb_X10_count_0) (fun _ h9 => h9) rfl dX10_count_45 ?_
    refine va_get (D := D) (ci := 6) (v := .ref a_x_now_targets) (C := RX6) (T := TX6) (N := 4) hx hb hts in_X10_count_X6 hown hK hP 1 rfl rfl 0 (by decide) (hts _ mb_X10_count_1) (fun _ h9 => h9) rfl dX10_count_48 ?_
    refine va_get (D := D) (ci := 8) (v := .int x_now_targets_size) (C := RX8) (T := TX8) (N := 10) hx hb hts in_X10_count_X8 hown hK hP 2 rfl rfl 0 (by decide) (hts _ mb_X10_count_2) (fun _ h9 => h9) rfl dX10_count_51 ?_
    obtain rfl := h
    exact g_iret C hP hD hS dX10_count_54
  have h := iff_ c1_0 h
  by_cases c1_1 : p1 = 1
  · have h := ift c1_1 h
    refine lv_tableIn (tgt := 55) hx hb dX10_count_1 (by rw [c1_1]; decide) (by rw [c1_1]; decide) (by rw [c1_1]; rfl) (by decide) ?_
    refine lv_aload_n hx hb dX10_count_55 rfl (lv_at hl 0 rfl) ?_
    refine va_get (D := D) (ci := 10) (v := .ref a_x_now) (C := RX10) (T := TX10) (N := 10) hx hb hts in_X10_count_X10 hown hK hP 0 rfl rfl 0 (by decide) (hts _ mb_X10_count_0) (fun _ h9 => h9) rfl dX10_count_56 ?_
    refine va_get (D := D) (ci := 6) (v := .ref a_x_now_targets) (C := RX6) (T := TX6) (N := 4) hx hb hts in_X10_count_X6 hown hK hP 1 rfl rfl 0 (by decide) (hts _ mb_X10_count_1) (fun _ h9 => h9) rfl dX10_count_59 ?_
    refine va_get (D := D) (ci := 8) (v := .int x_now_targets_guards) (C := RX8) (T := TX8) (N := 10) hx hb hts in_X10_count_X8 hown hK hP 2 rfl rfl 1 (by decide) (hts _ mb_X10_count_3) (fun _ h9 => h9) rfl dX10_count_62 ?_
    obtain rfl := h
    exact g_iret C hP hD hS dX10_count_65
  have h := iff_ c1_1 h
  by_cases c1_2 : p1 = 2
  · have h := ift c1_2 h
    refine lv_tableIn (tgt := 66) hx hb dX10_count_1 (by rw [c1_2]; decide) (by rw [c1_2]; decide) (by rw [c1_2]; rfl) (by decide) ?_
    refine lv_aload_n hx hb dX10_count_66 rfl (lv_at hl 0 rfl) ?_
    refine va_get (D := D) (ci := 10) (v := .ref a_x_now) (C := RX10) (T := TX10) (N := 10) hx hb hts in_X10_count_X10 hown hK hP 0 rfl rfl 0 (by decide) (hts _ mb_X10_count_0) (fun _ h9 => h9) rfl dX10_count_67 ?_
    refine va_get (D := D) (ci := 6) (v := .ref a_x_now_roads) (C := RX6) (T := TX6) (N := 4) hx hb hts in_X10_count_X6 hown hK hP 1 rfl rfl 1 (by decide) (hts _ mb_X10_count_4) (fun _ h9 => h9) rfl dX10_count_70 ?_
    refine va_get (D := D) (ci := 5) (v := .int x_now_roads_size) (C := RX5) (T := TX5) (N := 7) hx hb hts in_X10_count_X5 hown hK hP 3 rfl rfl 0 (by decide) (hts _ mb_X10_count_5) (fun _ h9 => h9) rfl dX10_count_73 ?_
    obtain rfl := h
    exact g_iret C hP hD hS dX10_count_76
  have h := iff_ c1_2 h
  by_cases c1_3 : p1 = 3
  · have h := ift c1_3 h
    refine lv_tableIn (tgt := 77) hx hb dX10_count_1 (by rw [c1_3]; decide) (by rw [c1_3]; decide) (by rw [c1_3]; rfl) (by decide) ?_
    refine lv_aload_n hx hb dX10_count_77 rfl (lv_at hl 0 rfl) ?_
    refine va_get (D := D) (ci := 10) (v := .ref a_x_now) (C := RX10) (T := TX10) (N := 10) hx hb hts in_X10_count_X10 hown hK hP 0 rfl rfl 0 (by decide) (hts _ mb_X10_count_0) (fun _ h9 => h9) rfl dX10_count_78 ?_
    refine va_get (D := D) (ci := 6) (v := .ref a_x_now_roads) (C := RX6) (T := TX6) (N := 4) hx hb hts in_X10_count_X6 hown hK hP 1 rfl rfl 1 (by decide) (hts _ mb_X10_count_4) (fun _ h9 => h9) rfl dX10_count_81 ?_
    refine va_get (D := D) (ci := 5) (v := .int x_now_roads_barred) (C := RX5) (T := TX5) (N := 7) hx hb hts in_X10_count_X5 hown hK hP 3 rfl rfl 1 (by decide) (hts _ mb_X10_count_6) (fun _ h9 => h9) rfl dX10_count_84 ?_
    refine g_callS0 (index := 273) (maxL := 1) (n := 1) (As := [.int x_now_roads_barred]) (rest := []) (st1 := [.int (f_J6_bitCount_0f7a4 x_now_roads_barred)]) C hP hS hl.1 (c_J6_bitCount_0f7a4 l D cI cJ cZ cG x_now_roads_barred _ rfl) gX10_count_J6_bitCount_0f7a4 rfl rfl rfl (by decide +kernel) ⟨Nat.le_of_ble_eq_true rfl, Nat.le_of_ble_eq_true rfl⟩ rfl (Nat.le_of_ble_eq_true rfl) rfl dX10_count_87 rfl (fun H locs hP hS => ?_)
    obtain rfl := h
    exact g_iret C hP hD hS dX10_count_90
  have h := iff_ c1_3 h
  by_cases c1_4 : p1 = 4
  · have h := ift c1_4 h
    refine lv_tableIn (tgt := 91) hx hb dX10_count_1 (by rw [c1_4]; decide) (by rw [c1_4]; decide) (by rw [c1_4]; rfl) (by decide) ?_
    refine lv_aload_n hx hb dX10_count_91 rfl (lv_at hl 0 rfl) ?_
    refine va_get (D := D) (ci := 10) (v := .ref a_x_now) (C := RX10) (T := TX10) (N := 10) hx hb hts in_X10_count_X10 hown hK hP 0 rfl rfl 0 (by decide) (hts _ mb_X10_count_0) (fun _ h9 => h9) rfl dX10_count_92 ?_
    refine va_get (D := D) (ci := 6) (v := .ref a_x_now_posts) (C := RX6) (T := TX6) (N := 4) hx hb hts in_X10_count_X6 hown hK hP 1 rfl rfl 2 (by decide) (hts _ mb_X10_count_7) (fun _ h9 => h9) rfl dX10_count_95 ?_
    refine va_get (D := D) (ci := 4) (v := .int x_now_posts_size) (C := RX4) (T := TX4) (N := 2) hx hb hts in_X10_count_X4 hown hK hP 4 rfl rfl 0 (by decide) (hts _ mb_X10_count_8) (fun _ h9 => h9) rfl dX10_count_98 ?_
    obtain rfl := h
    exact g_iret C hP hD hS dX10_count_101
  have h := iff_ c1_4 h
  by_cases c1_5 : p1 = 5
  · have h := ift c1_5 h
    refine lv_tableIn (tgt := 102) hx hb dX10_count_1 (by rw [c1_5]; decide) (by rw [c1_5]; decide) (by rw [c1_5]; rfl) (by decide) ?_
    refine lv_aload_n hx hb dX10_count_102 rfl (lv_at hl 0 rfl) ?_
    refine va_get (D := D) (ci := 10) (v := .ref a_x_now) (C := RX10) (T := TX10) (N := 10) hx hb hts in_X10_count_X10 hown hK hP 0 rfl rfl 0 (by decide) (hts _ mb_X10_count_0) (fun _ h9 => h9) rfl dX10_count_103 ?_
    refine va_get (D := D) (ci := 6) (v := .ref a_x_now_haunts) (C := RX6) (T := TX6) (N := 4) hx hb hts in_X10_count_X6 hown hK hP 1 rfl rfl 3 (by decide) (hts _ mb_X10_count_9) (fun _ h9 => h9) rfl dX10_count_106 ?_
    refine va_get (D := D) (ci := 2) (v := .int x_now_haunts_size) (C := RX2) (T := TX2) (N := 3) hx hb hts in_X10_count_X2 hown hK hP 5 rfl rfl 0 (by decide) (hts _ mb_X10_count_10) (fun _ h9 => h9) rfl dX10_count_109 ?_
    obtain rfl := h
    exact g_iret C hP hD hS dX10_count_112
  have h := iff_ c1_5 h
  by_cases c1_6 : p1 = 6
  · have h := ift c1_6 h
    refine lv_tableIn (tgt := 113) hx hb dX10_count_1 (by rw [c1_6]; decide) (by rw [c1_6]; decide) (by rw [c1_6]; rfl) (by decide) ?_
    refine lv_aload_n hx hb dX10_count_113 rfl (lv_at hl 0 rfl) ?_
    refine va_get (D := D) (ci := 10) (v := .int x_findings) (C := RX10) (T := TX10) (N := 10) hx hb hts in_X10_count_X10 hown hK hP 0 rfl rfl 9 (by decide) (hts _ mb_X10_count_11) (fun _ h9 => h9) rfl dX10_count_114 ?_
    obtain rfl := h
    exact g_iret C hP hD hS dX10_count_117
  have h := iff_ c1_6 h
  refine lv_tableOut (tgt := 118) hx hb dX10_count_1 (by have y0 := lv_neT c1_0 (a := 0) rfl; have y1 := lv_neT c1_1 (a := 1) rfl; have y2 := lv_neT c1_2 (a := 2) rfl; have y3 := lv_neT c1_3 (a := 3) rfl; have y4 := lv_neT c1_4 (a := 4) rfl; have y5 := lv_neT c1_5 (a := 5) rfl; have y6 := lv_neT c1_6 (a := 6) rfl; omega) (by decide) ?_
  refine lv_ldc (v := (-1000000002)) hx hb hown (hts _ mb_X10_count_12) dX10_count_118 ?_
  obtain rfl := h
  exact g_iret C hP hD hS dX10_count_120
theorem in_X11_found_X11 : ∀ w ∈ wsX110, w ∈ wsX11_found := by decide +kernel
theorem mb_X11_found_0 : Cond.fieldLink RX11 44 "GuardDeskModel" "host" "I" ∈ wsX11_found := List.mem_of_getElem? (i := 1) rfl
set_option maxRecDepth 100000 in
set_option maxHeartbeats 4000000 in
theorem c_X11_found (l : Launch) (D : va_G) (cI cJ cZ cG : ClassId) (a_x a_x_now a_x_kept a_x_sortOf a_x_sizeOf a_x_sheets a_x_parts a_x_edge a_x_far a_x_lost : Nat) (x_isKept : Int32) (x_host : Int32) (x_below : Int32) (x_bestTarget : Int32) (x_high : Int64) (x_low : Int64) (x_whole : Int64) (x_tryHigh : Int64) (x_tryLow : Int64) (x_lots : Int32) (p1 : Int32) (q : Int32 × Int32) (h : f_X11_found x_host p1 = q) : gMet l yX11_found wsX11_found rm_X11_found [.ref a_x, .int p1] (w_X11_found cI cJ cZ cG a_x a_x_now a_x_kept a_x_sortOf a_x_sizeOf a_x_sheets a_x_parts a_x_edge a_x_far a_x_lost x_isKept x_host x_below x_bestTarget x_high x_low x_whole x_tryHigh x_tryLow x_lots) (w_X11_found cI cJ cZ cG a_x a_x_now a_x_kept a_x_sortOf a_x_sizeOf a_x_sheets a_x_parts a_x_edge a_x_far a_x_lost x_isKept q.2 x_below x_bestTarget x_high x_low x_whole x_tryHigh x_tryLow x_lots) (some (.int q.1)) D cI cJ cZ cG := by
  refine g_enter (cc := cX11_found) (nL := 2) (ret := (some .int)) (by decide) rfl (Nat.le_of_ble_eq_true rfl) ?_
  intro p e s m below meth c A C H locs ls hP hD hS hl
  obtain ⟨hx, hb, hr, hml, hown, hts, hlk, hgk, hA⟩ := id C
  have hK := hgk.1
  have hl : lv_has ls 2 [(0, .ref a_x), (1, .int p1)] := hl
  unfold f_X11_found at h
  refine lv_aload_n hx hb dX11_found_0 rfl (lv_at hl 0 rfl) ?_
  refine lv_dup hx hb dX11_found_1 rfl ?_
  refine va_get (D := D) (ci := 11) (v := .int x_host) (C := RX11) (T := TX11) (N := 19) hx hb hts in_X11_found_X11 hown hK hP 0 rfl rfl 3 (by decide) (hts _ mb_X11_found_0) (fun _ h9 => h9) rfl dX11_found_2 ?_
  refine lv_iconst (v := 1) hx hb dX11_found_5 (by decide) ?_
  refine lv_iadd hx hb dX11_found_6 ?_
  refine va_put (D := D) (ci := 11) (v := .int (x_host + 1)) (ty := .int) (C := RX11) (T := TX11) (N := 19) hx hb hts in_X11_found_X11 tyX11 tyX11_ok nmX11 hown hK hP hD hS 0 rfl rfl 3 (by decide) (hts _ mb_X11_found_0) (fun _ h9 => h9) rfl (by decide +kernel) rfl rfl (Nat.le_of_ble_eq_true rfl) dX11_found_7 (fun H locs hP hD hS => ?_)
  have hP : va_P D vwCl (w_X11_found cI cJ cZ cG a_x a_x_now a_x_kept a_x_sortOf a_x_sizeOf a_x_sheets a_x_parts a_x_edge a_x_far a_x_lost x_isKept (x_host + 1) x_below x_bestTarget x_high x_low x_whole x_tryHigh x_tryLow x_lots) H := hP
  have hD : va_D A (w_X11_found cI cJ cZ cG a_x a_x_now a_x_kept a_x_sortOf a_x_sizeOf a_x_sheets a_x_parts a_x_edge a_x_far a_x_lost x_isKept (x_host + 1) x_below x_bestTarget x_high x_low x_whole x_tryHigh x_tryLow x_lots) := hD
  refine lv_iload_n hx hb dX11_found_10 rfl (lv_at hl 1 rfl) ?_
  obtain rfl := h
  exact g_iret C hP hD hS dX11_found_11
set_option maxRecDepth 100000 in
set_option maxHeartbeats 4000000 in
theorem c_X11_within (l : Launch) (D : va_G) (cI cJ cZ cG : ClassId) (p0 : Int32) (p1 : Int32) (p2 : Int32) (q : Int32) (h : f_X11_within p0 p1 p2 = q) : gMet l yX11_within wsX11_within rm_X11_within [.int p0, .int p1, .int p2] (w_X11_within cI cJ cZ cG) (w_X11_within cI cJ cZ cG) (some (.int q)) D cI cJ cZ cG := by
  refine g_enter (cc := cX11_within) (nL := 3) (ret := (some .boolean)) (by decide) rfl (Nat.le_of_ble_eq_true rfl) ?_
  intro p e s m below meth c A C H locs ls hP hD hS hl
  obtain ⟨hx, hb, hr, hml, hown, hts, hlk, hgk, hA⟩ := id C
  have hK := hgk.1
  have hl : lv_has ls 3 [(0, .int p0), (1, .int p1), (2, .int p2)] := hl
  unfold f_X11_within at h
  refine lv_iload_n hx hb dX11_within_0 rfl (lv_at hl 0 rfl) ?_
  refine lv_iload_n hx hb dX11_within_1 rfl (lv_at hl 1 rfl) ?_
  refine lv_icmp_lt (tgt := 14) hx hb dX11_within_2 (by decide) (fun c1 => ?_) (fun c1 => ?_)
  · have h := ift c1 h
    refine lv_iconst (v := 0) hx hb dX11_within_14 (by decide) ?_
    obtain rfl := h
    exact g_zret C hP hD hS (nz_b (Or.inl rfl)) dX11_within_15
  · have h := iff_ c1 h
    refine lv_iload_n hx hb dX11_within_5 rfl (lv_at hl 0 rfl) ?_
    refine lv_iload_n hx hb dX11_within_6 rfl (lv_at hl 2 rfl) ?_
    refine lv_icmp_gt (tgt := 14) hx hb dX11_within_7 (by decide) (fun c2 => ?_) (fun c2 => ?_)
    · have h := ift c2 h
      refine lv_iconst (v := 0) hx hb dX11_within_14 (by decide) ?_
      obtain rfl := h
      exact g_zret C hP hD hS (nz_b (Or.inl rfl)) dX11_within_15
    · have h := iff_ c2 h
      refine lv_iconst (v := 1) hx hb dX11_within_10 (by decide) ?_
      refine lv_goto (tgt := 15) hx hb dX11_within_11 (by decide) ?_
      obtain rfl := h
      exact g_zret C hP hD hS (nz_b (Or.inr rfl)) dX11_within_15
theorem in_X11_isTarget_X11 : ∀ w ∈ wsX110, w ∈ wsX11_isTarget := by decide +kernel
theorem mb_X11_isTarget_0 : Cond.fieldLink RX11 9 "GuardDeskModel" "now" "[I" ∈ wsX11_isTarget := List.mem_of_getElem? (i := 1) rfl
set_option maxRecDepth 100000 in
set_option maxHeartbeats 4000000 in
theorem c_X11_isTarget (l : Launch) (D : va_G) (cI cJ cZ cG : ClassId) (a_x a_x_now a_x_kept a_x_sortOf a_x_sizeOf a_x_sheets a_x_parts a_x_edge a_x_far a_x_lost : Nat) (x_isKept : Int32) (x_host : Int32) (x_below : Int32) (x_bestTarget : Int32) (x_high : Int64) (x_low : Int64) (x_whole : Int64) (x_tryHigh : Int64) (x_tryLow : Int64) (x_lots : Int32) (x_now : (Nat → Int32)) (p1 : Int32) (q : Int32) (h : f_X11_isTarget x_now p1 = some q) : gMet l yX11_isTarget wsX11_isTarget rm_X11_isTarget [.ref a_x, .int p1] (w_X11_isTarget cI cJ cZ cG a_x a_x_now a_x_kept a_x_sortOf a_x_sizeOf a_x_sheets a_x_parts a_x_edge a_x_far a_x_lost x_isKept x_host x_below x_bestTarget x_high x_low x_whole x_tryHigh x_tryLow x_lots x_now) (w_X11_isTarget cI cJ cZ cG a_x a_x_now a_x_kept a_x_sortOf a_x_sizeOf a_x_sheets a_x_parts a_x_edge a_x_far a_x_lost x_isKept x_host x_below x_bestTarget x_high x_low x_whole x_tryHigh x_tryLow x_lots x_now) (some (.int q)) D cI cJ cZ cG := by
  refine g_enter (cc := cX11_isTarget) (nL := 2) (ret := (some .boolean)) (by decide) rfl (Nat.le_of_ble_eq_true rfl) ?_
  intro p e s m below meth c A C H locs ls hP hD hS hl
  obtain ⟨hx, hb, hr, hml, hown, hts, hlk, hgk, hA⟩ := id C
  have hK := hgk.1
  have hl : lv_has ls 2 [(0, .ref a_x), (1, .int p1)] := hl
  unfold f_X11_isTarget at h
  refine lv_iload_n hx hb dX11_isTarget_0 rfl (lv_at hl 1 rfl) ?_
  refine lv_iconst (v := 0) hx hb dX11_isTarget_1 (by decide) ?_
  refine lv_aload_n hx hb dX11_isTarget_2 rfl (lv_at hl 0 rfl) ?_
  refine va_get (D := D) (ci := 11) (v := .ref a_x_now) (C := RX11) (T := TX11) (N := 19) hx hb hts in_X11_isTarget_X11 hown hK hP 0 rfl rfl 0 (by decide) (hts _ mb_X11_isTarget_0) (fun _ h9 => h9) rfl dX11_isTarget_3 ?_
  refine lv_iconst (v := 0) hx hb dX11_isTarget_6 (by decide) ?_
  refine va_iald hx hb hK hP 1 0 rfl rfl (g_lit (i := 0) (n := 194) (by decide)) dX11_isTarget_7 ?_
  refine W.eq (g2 := F0 m 8 ls [.int (x_now 0), .int 0, .int p1]) rfl ?_
  refine lv_iconst (v := 1) hx hb dX11_isTarget_8 (by decide) ?_
  refine lv_isub hx hb dX11_isTarget_9 ?_
  refine g_callS0 (index := 47) (maxL := 3) (n := 3) (As := [.int p1, .int 0, .int ((x_now 0) - 1)]) (rest := []) (st1 := [.int (f_X11_within p1 0 ((x_now 0) - 1))]) C hP hS hl.1 (c_X11_within l D cI cJ cZ cG p1 0 ((x_now 0) - 1) _ rfl) gX11_isTarget_X11_within rfl rfl rfl (by decide +kernel) ⟨Nat.le_of_ble_eq_true rfl, Nat.le_of_ble_eq_true rfl⟩ rfl (Nat.le_of_ble_eq_true rfl) rfl dX11_isTarget_10 rfl (fun H locs hP hS => ?_)
  obtain rfl := Option.some.inj h
  exact g_zret C hP hD hS (nz_b (z_X11_within p1 0 ((x_now 0) - 1))) dX11_isTarget_13
set_option maxRecDepth 100000 in
set_option maxHeartbeats 4000000 in
theorem c_X11_isGap (l : Launch) (D : va_G) (cI cJ cZ cG : ClassId) (p0 : Int32) (q : Int32) (h : f_X11_isGap p0 = some q) : gMet l yX11_isGap wsX11_isGap rm_X11_isGap [.int p0] (w_X11_isGap cI cJ cZ cG) (w_X11_isGap cI cJ cZ cG) (some (.int q)) D cI cJ cZ cG := by
  refine g_enter (cc := cX11_isGap) (nL := 1) (ret := (some .boolean)) (by decide) rfl (Nat.le_of_ble_eq_true rfl) ?_
  intro p e s m below meth c A C H locs ls hP hD hS hl
  obtain ⟨hx, hb, hr, hml, hown, hts, hlk, hgk, hA⟩ := id C
  have hK := hgk.1
  have hl : lv_has ls 1 [(0, .int p0)] := hl
  unfold f_X11_isGap at h
  refine lv_iload_n hx hb dX11_isGap_0 rfl (lv_at hl 0 rfl) ?_
  refine lv_iconst (v := 1) hx hb dX11_isGap_1 (by decide) ?_
  refine lv_bipush (v := 60) hx hb dX11_isGap_2 (by decide) ?_
  refine g_callS0 (index := 47) (maxL := 3) (n := 3) (As := [.int p0, .int 1, .int 60]) (rest := []) (st1 := [.int (f_X11_within p0 1 60)]) C hP hS hl.1 (c_X11_within l D cI cJ cZ cG p0 1 60 _ rfl) gX11_isGap_X11_within rfl rfl rfl (by decide +kernel) ⟨Nat.le_of_ble_eq_true rfl, Nat.le_of_ble_eq_true rfl⟩ rfl (Nat.le_of_ble_eq_true rfl) rfl dX11_isGap_4 rfl (fun H locs hP hS => ?_)
  refine lv_if_eq (tgt := 21) hx hb dX11_isGap_7 (by decide) (fun c1 => ?_) (fun c1 => ?_)
  · have h := ift c1 h
    refine lv_iconst (v := 0) hx hb dX11_isGap_21 (by decide) ?_
    obtain rfl := Option.some.inj h
    exact g_zret C hP hD hS (nz_b (Or.inl rfl)) dX11_isGap_22
  · have h := iff_ c1 h
    refine lv_bipush (v := 60) hx hb dX11_isGap_10 (by decide) ?_
    refine lv_iload_n hx hb dX11_isGap_12 rfl (lv_at hl 0 rfl) ?_
    obtain ⟨z2, h⟩ := gDi_some h
    refine lv_irem hx hb dX11_isGap_13 z2 ?_
    refine lv_if_ne (tgt := 21) hx hb dX11_isGap_14 (by decide) (fun c3 => ?_) (fun c3 => ?_)
    · have h := iff_ c3 h
      refine lv_iconst (v := 0) hx hb dX11_isGap_21 (by decide) ?_
      obtain rfl := Option.some.inj h
      exact g_zret C hP hD hS (nz_b (Or.inl rfl)) dX11_isGap_22
    · have h := ift c3 h
      refine lv_iconst (v := 1) hx hb dX11_isGap_17 (by decide) ?_
      refine lv_goto (tgt := 22) hx hb dX11_isGap_18 (by decide) ?_
      obtain rfl := Option.some.inj h
      exact g_zret C hP hD hS (nz_b (Or.inr rfl)) dX11_isGap_22
theorem in_X11_target_X11 : ∀ w ∈ wsX110, w ∈ wsX11_target := by decide +kernel
theorem mb_X11_target_0 : Cond.fieldLink RX11 9 "GuardDeskModel" "now" "[I" ∈ wsX11_target := List.mem_of_getElem? (i := 1) rfl
theorem mb_X11_target_1 : Cond.constant RX11 55 (-1000000002) ∈ wsX11_target := List.mem_of_getElem? (i := 2) rfl
set_option maxRecDepth 100000 in
set_option maxHeartbeats 4000000 in
theorem t_X11_target_b173 (C : cx D cI cJ cZ cG A cX11_target 8 (some .int) RX11 wsX11_target p s m args meth c) (a_x a_x_now a_x_kept a_x_sortOf a_x_sizeOf a_x_sheets a_x_parts a_x_edge a_x_far a_x_lost : Nat) (x_isKept : Int32) (x_host : Int32) (x_below : Int32) (x_bestTarget : Int32) (x_high : Int64) (x_low : Int64) (x_whole : Int64) (x_tryHigh : Int64) (x_tryLow : Int64) (x_lots : Int32) (q : Int32 × (Nat → Int32)) (x_now : (Nat → Int32)) (k1 : Int32) (k2 : Int32) (v6 : Int32) (h : f_X11_target_b173 x_now k1 k2 v6 = some q) : WB p l e rm_X11_target s m args below meth c (MQ below (Qg D (some (.int q.1)) (w_X11_target cI cJ cZ cG a_x a_x_now a_x_kept a_x_sortOf a_x_sizeOf a_x_sheets a_x_parts a_x_edge a_x_far a_x_lost x_isKept x_host x_below x_bestTarget x_high x_low x_whole x_tryHigh x_tryLow x_lots q.2) A) args s 0 0 A) D A 8 (w_X11_target cI cJ cZ cG a_x a_x_now a_x_kept a_x_sortOf a_x_sizeOf a_x_sheets a_x_parts a_x_edge a_x_far a_x_lost x_isKept x_host x_below x_bestTarget x_high x_low x_whole x_tryHigh x_tryLow x_lots x_now) [(0, .ref a_x), (6, .int v6)] [.int k2, .int k1, .ref a_x_now] 173 := by
  obtain ⟨hx, hb, hr, hml, hown, hts, hlk, hgk, hA⟩ := id C
  have hK := hgk.1
  unfold f_X11_target_b173 at h
  intro H locs ls hP hD hS hl
  obtain ⟨i1, h⟩ := gI_some h
  refine va_iast hx hb hK hP hD hS 1 0 rfl rfl i1 dX11_target_173 (fun H locs hP hD hS => ?_)
  have hP : va_P D vwCl (w_X11_target cI cJ cZ cG a_x a_x_now a_x_kept a_x_sortOf a_x_sizeOf a_x_sheets a_x_parts a_x_edge a_x_far a_x_lost x_isKept x_host x_below x_bestTarget x_high x_low x_whole x_tryHigh x_tryLow x_lots (upd x_now k1.toNatClampNeg k2)) H := hP
  have hD : va_D A (w_X11_target cI cJ cZ cG a_x a_x_now a_x_kept a_x_sortOf a_x_sizeOf a_x_sheets a_x_parts a_x_edge a_x_far a_x_lost x_isKept x_host x_below x_bestTarget x_high x_low x_whole x_tryHigh x_tryLow x_lots (upd x_now k1.toNatClampNeg k2)) := hD
  refine lv_aload_n hx hb dX11_target_174 rfl (lv_at hl 0 rfl) ?_
  refine va_get (D := D) (ci := 11) (v := .ref a_x_now) (C := RX11) (T := TX11) (N := 19) hx hb hts in_X11_target_X11 hown hK hP 0 rfl rfl 0 (by decide) (hts _ mb_X11_target_0) (fun _ h9 => h9) rfl dX11_target_175 ?_
  refine lv_bipush (v := 75) hx hb dX11_target_178 (by decide) ?_
  refine lv_iload hx hb dX11_target_180 (lv_at hl 1 rfl) ?_
  refine lv_iadd hx hb dX11_target_182 ?_
  refine lv_iconst (v := 0) hx hb dX11_target_183 (by decide) ?_
  obtain ⟨i2, h⟩ := gI_some h
  refine va_iast hx hb hK hP hD hS 1 0 rfl rfl i2 dX11_target_184 (fun H locs hP hD hS => ?_)
  have hP : va_P D vwCl (w_X11_target cI cJ cZ cG a_x a_x_now a_x_kept a_x_sortOf a_x_sizeOf a_x_sheets a_x_parts a_x_edge a_x_far a_x_lost x_isKept x_host x_below x_bestTarget x_high x_low x_whole x_tryHigh x_tryLow x_lots (upd (upd x_now k1.toNatClampNeg k2) (75 + v6).toNatClampNeg 0)) H := hP
  have hD : va_D A (w_X11_target cI cJ cZ cG a_x a_x_now a_x_kept a_x_sortOf a_x_sizeOf a_x_sheets a_x_parts a_x_edge a_x_far a_x_lost x_isKept x_host x_below x_bestTarget x_high x_low x_whole x_tryHigh x_tryLow x_lots (upd (upd x_now k1.toNatClampNeg k2) (75 + v6).toNatClampNeg 0)) := hD
  refine lv_aload_n hx hb dX11_target_185 rfl (lv_at hl 0 rfl) ?_
  refine va_get (D := D) (ci := 11) (v := .ref a_x_now) (C := RX11) (T := TX11) (N := 19) hx hb hts in_X11_target_X11 hown hK hP 0 rfl rfl 0 (by decide) (hts _ mb_X11_target_0) (fun _ h9 => h9) rfl dX11_target_186 ?_
  refine lv_iconst (v := 0) hx hb dX11_target_189 (by decide) ?_
  refine lv_dup2_11 hx hb dX11_target_190 rfl rfl ?_
  refine va_iald hx hb hK hP 1 0 rfl rfl (g_lit (i := 0) (n := 194) (by decide)) dX11_target_191 ?_
  refine W.eq (g2 := F0 m 192 ls [.int ((upd (upd x_now k1.toNatClampNeg k2) (75 + v6).toNatClampNeg 0) 0), .int 0, .ref a_x_now]) rfl ?_
  refine lv_iconst (v := 1) hx hb dX11_target_192 (by decide) ?_
  refine lv_iadd hx hb dX11_target_193 ?_
  refine va_iast hx hb hK hP hD hS 1 0 rfl rfl (g_lit (i := 0) (n := 194) (by decide)) dX11_target_194 (fun H locs hP hD hS => ?_)
  have hP : va_P D vwCl (w_X11_target cI cJ cZ cG a_x a_x_now a_x_kept a_x_sortOf a_x_sizeOf a_x_sheets a_x_parts a_x_edge a_x_far a_x_lost x_isKept x_host x_below x_bestTarget x_high x_low x_whole x_tryHigh x_tryLow x_lots (upd (upd (upd x_now k1.toNatClampNeg k2) (75 + v6).toNatClampNeg 0) 0 (((upd (upd x_now k1.toNatClampNeg k2) (75 + v6).toNatClampNeg 0) 0) + 1))) H := hP
  have hD : va_D A (w_X11_target cI cJ cZ cG a_x a_x_now a_x_kept a_x_sortOf a_x_sizeOf a_x_sheets a_x_parts a_x_edge a_x_far a_x_lost x_isKept x_host x_below x_bestTarget x_high x_low x_whole x_tryHigh x_tryLow x_lots (upd (upd (upd x_now k1.toNatClampNeg k2) (75 + v6).toNatClampNeg 0) 0 (((upd (upd x_now k1.toNatClampNeg k2) (75 + v6).toNatClampNeg 0) 0) + 1))) := hD
  refine lv_iload hx hb dX11_target_195 (lv_at hl 1 rfl) ?_
  obtain rfl := Option.some.inj h
  exact g_iret C hP hD hS dX11_target_197
set_option maxRecDepth 100000 in
set_option maxHeartbeats 4000000 in
theorem t_X11_target_b69 (C : cx D cI cJ cZ cG A cX11_target 8 (some .int) RX11 wsX11_target p s m args meth c) (a_x a_x_now a_x_kept a_x_sortOf a_x_sizeOf a_x_sheets a_x_parts a_x_edge a_x_far a_x_lost : Nat) (x_isKept : Int32) (x_host : Int32) (x_below : Int32) (x_bestTarget : Int32) (x_high : Int64) (x_low : Int64) (x_whole : Int64) (x_tryHigh : Int64) (x_tryLow : Int64) (x_lots : Int32) (q : Int32 × (Nat → Int32)) (x_now : (Nat → Int32)) (k0 : Int32) (v1 : Int32) (v2 : Int32) (v3 : Int32) (v4 : Int32) (v5 : Int32) (v6 : Int32) (h : f_X11_target_b69 x_now k0 v1 v2 v3 v4 v5 v6 = some q) : WB p l e rm_X11_target s m args below meth c (MQ below (Qg D (some (.int q.1)) (w_X11_target cI cJ cZ cG a_x a_x_now a_x_kept a_x_sortOf a_x_sizeOf a_x_sheets a_x_parts a_x_edge a_x_far a_x_lost x_isKept x_host x_below x_bestTarget x_high x_low x_whole x_tryHigh x_tryLow x_lots q.2) A) args s 0 0 A) D A 8 (w_X11_target cI cJ cZ cG a_x a_x_now a_x_kept a_x_sortOf a_x_sizeOf a_x_sheets a_x_parts a_x_edge a_x_far a_x_lost x_isKept x_host x_below x_bestTarget x_high x_low x_whole x_tryHigh x_tryLow x_lots x_now) [(0, .ref a_x), (1, .int v1), (2, .int v2), (3, .int v3), (4, .int v4), (5, .int v5), (6, .int v6)] [.int k0] 69 := by
  obtain ⟨hx, hb, hr, hml, hown, hts, hlk, hgk, hA⟩ := id C
  have hK := hgk.1
  unfold f_X11_target_b69 at h
  intro H locs ls hP hD hS hl
  refine lv_istore (lv' := [(7, .int k0), (0, .ref a_x), (1, .int v1), (2, .int v2), (3, .int v3), (4, .int v4), (5, .int v5), (6, .int v6)]) hx hb dX11_target_69 hl (by decide) rfl (fun ls hl => ?_)
  refine lv_iload hx hb dX11_target_71 (lv_at hl 0 rfl) ?_
  refine lv_if_eq (tgt := 83) hx hb dX11_target_73 (by decide) (fun c1 => ?_) (fun c1 => ?_)
  · have h := ift c1 h
    refine lv_ldc (v := (-1000000002)) hx hb hown (hts _ mb_X11_target_1) dX11_target_83 ?_
    obtain rfl := Option.some.inj h
    exact g_iret C hP hD hS dX11_target_85
  · have h := iff_ c1 h
    refine lv_iload hx hb dX11_target_76 (lv_at hl 7 rfl) ?_
    refine lv_bipush (v := 10) hx hb dX11_target_78 (by decide) ?_
    refine lv_icmp_ne (tgt := 86) hx hb dX11_target_80 (by decide) (fun c2 => ?_) (fun c2 => ?_)
    · have h := iff_ c2 h
      refine lv_aload_n hx hb dX11_target_86 rfl (lv_at hl 1 rfl) ?_
      refine va_get (D := D) (ci := 11) (v := .ref a_x_now) (C := RX11) (T := TX11) (N := 19) hx hb hts in_X11_target_X11 hown hK hP 0 rfl rfl 0 (by decide) (hts _ mb_X11_target_0) (fun _ h9 => h9) rfl dX11_target_87 ?_
      refine lv_iconst (v := 5) hx hb dX11_target_90 (by decide) ?_
      refine lv_iload hx hb dX11_target_91 (lv_at hl 7 rfl) ?_
      refine lv_iadd hx hb dX11_target_93 ?_
      refine lv_iload_n hx hb dX11_target_94 rfl (lv_at hl 2 rfl) ?_
      obtain ⟨i3, h⟩ := gI_some h
      refine va_iast hx hb hK hP hD hS 1 0 rfl rfl i3 dX11_target_95 (fun H locs hP hD hS => ?_)
      have hP : va_P D vwCl (w_X11_target cI cJ cZ cG a_x a_x_now a_x_kept a_x_sortOf a_x_sizeOf a_x_sheets a_x_parts a_x_edge a_x_far a_x_lost x_isKept x_host x_below x_bestTarget x_high x_low x_whole x_tryHigh x_tryLow x_lots (upd x_now (5 + v6).toNatClampNeg v1)) H := hP
      have hD : va_D A (w_X11_target cI cJ cZ cG a_x a_x_now a_x_kept a_x_sortOf a_x_sizeOf a_x_sheets a_x_parts a_x_edge a_x_far a_x_lost x_isKept x_host x_below x_bestTarget x_high x_low x_whole x_tryHigh x_tryLow x_lots (upd x_now (5 + v6).toNatClampNeg v1)) := hD
      refine lv_aload_n hx hb dX11_target_96 rfl (lv_at hl 1 rfl) ?_
      refine va_get (D := D) (ci := 11) (v := .ref a_x_now) (C := RX11) (T := TX11) (N := 19) hx hb hts in_X11_target_X11 hown hK hP 0 rfl rfl 0 (by decide) (hts _ mb_X11_target_0) (fun _ h9 => h9) rfl dX11_target_97 ?_
      refine lv_bipush (v := 15) hx hb dX11_target_100 (by decide) ?_
      refine lv_iload hx hb dX11_target_102 (lv_at hl 7 rfl) ?_
      refine lv_iadd hx hb dX11_target_104 ?_
      refine lv_iload_n hx hb dX11_target_105 rfl (lv_at hl 3 rfl) ?_
      obtain ⟨i4, h⟩ := gI_some h
      refine va_iast hx hb hK hP hD hS 1 0 rfl rfl i4 dX11_target_106 (fun H locs hP hD hS => ?_)
      have hP : va_P D vwCl (w_X11_target cI cJ cZ cG a_x a_x_now a_x_kept a_x_sortOf a_x_sizeOf a_x_sheets a_x_parts a_x_edge a_x_far a_x_lost x_isKept x_host x_below x_bestTarget x_high x_low x_whole x_tryHigh x_tryLow x_lots (upd (upd x_now (5 + v6).toNatClampNeg v1) (15 + v6).toNatClampNeg v2)) H := hP
      have hD : va_D A (w_X11_target cI cJ cZ cG a_x a_x_now a_x_kept a_x_sortOf a_x_sizeOf a_x_sheets a_x_parts a_x_edge a_x_far a_x_lost x_isKept x_host x_below x_bestTarget x_high x_low x_whole x_tryHigh x_tryLow x_lots (upd (upd x_now (5 + v6).toNatClampNeg v1) (15 + v6).toNatClampNeg v2)) := hD
      refine lv_aload_n hx hb dX11_target_107 rfl (lv_at hl 1 rfl) ?_
      refine va_get (D := D) (ci := 11) (v := .ref a_x_now) (C := RX11) (T := TX11) (N := 19) hx hb hts in_X11_target_X11 hown hK hP 0 rfl rfl 0 (by decide) (hts _ mb_X11_target_0) (fun _ h9 => h9) rfl dX11_target_108 ?_
      refine lv_bipush (v := 25) hx hb dX11_target_111 (by decide) ?_
      refine lv_iload hx hb dX11_target_113 (lv_at hl 7 rfl) ?_
      refine lv_iadd hx hb dX11_target_115 ?_
      refine lv_iload_n hx hb dX11_target_116 rfl (lv_at hl 4 rfl) ?_
      obtain ⟨i5, h⟩ := gI_some h
      refine va_iast hx hb hK hP hD hS 1 0 rfl rfl i5 dX11_target_117 (fun H locs hP hD hS => ?_)
      have hP : va_P D vwCl (w_X11_target cI cJ cZ cG a_x a_x_now a_x_kept a_x_sortOf a_x_sizeOf a_x_sheets a_x_parts a_x_edge a_x_far a_x_lost x_isKept x_host x_below x_bestTarget x_high x_low x_whole x_tryHigh x_tryLow x_lots (upd (upd (upd x_now (5 + v6).toNatClampNeg v1) (15 + v6).toNatClampNeg v2) (25 + v6).toNatClampNeg v3)) H := hP
      have hD : va_D A (w_X11_target cI cJ cZ cG a_x a_x_now a_x_kept a_x_sortOf a_x_sizeOf a_x_sheets a_x_parts a_x_edge a_x_far a_x_lost x_isKept x_host x_below x_bestTarget x_high x_low x_whole x_tryHigh x_tryLow x_lots (upd (upd (upd x_now (5 + v6).toNatClampNeg v1) (15 + v6).toNatClampNeg v2) (25 + v6).toNatClampNeg v3)) := hD
      refine lv_aload_n hx hb dX11_target_118 rfl (lv_at hl 1 rfl) ?_
      refine va_get (D := D) (ci := 11) (v := .ref a_x_now) (C := RX11) (T := TX11) (N := 19) hx hb hts in_X11_target_X11 hown hK hP 0 rfl rfl 0 (by decide) (hts _ mb_X11_target_0) (fun _ h9 => h9) rfl dX11_target_119 ?_
      refine lv_bipush (v := 35) hx hb dX11_target_122 (by decide) ?_
      refine lv_iload hx hb dX11_target_124 (lv_at hl 7 rfl) ?_
      refine lv_iadd hx hb dX11_target_126 ?_
      refine lv_iload hx hb dX11_target_127 (lv_at hl 5 rfl) ?_
      obtain ⟨i6, h⟩ := gI_some h
      refine va_iast hx hb hK hP hD hS 1 0 rfl rfl i6 dX11_target_129 (fun H locs hP hD hS => ?_)
      have hP : va_P D vwCl (w_X11_target cI cJ cZ cG a_x a_x_now a_x_kept a_x_sortOf a_x_sizeOf a_x_sheets a_x_parts a_x_edge a_x_far a_x_lost x_isKept x_host x_below x_bestTarget x_high x_low x_whole x_tryHigh x_tryLow x_lots (upd (upd (upd (upd x_now (5 + v6).toNatClampNeg v1) (15 + v6).toNatClampNeg v2) (25 + v6).toNatClampNeg v3) (35 + v6).toNatClampNeg v4)) H := hP
      have hD : va_D A (w_X11_target cI cJ cZ cG a_x a_x_now a_x_kept a_x_sortOf a_x_sizeOf a_x_sheets a_x_parts a_x_edge a_x_far a_x_lost x_isKept x_host x_below x_bestTarget x_high x_low x_whole x_tryHigh x_tryLow x_lots (upd (upd (upd (upd x_now (5 + v6).toNatClampNeg v1) (15 + v6).toNatClampNeg v2) (25 + v6).toNatClampNeg v3) (35 + v6).toNatClampNeg v4)) := hD
      refine lv_aload_n hx hb dX11_target_130 rfl (lv_at hl 1 rfl) ?_
      refine va_get (D := D) (ci := 11) (v := .ref a_x_now) (C := RX11) (T := TX11) (N := 19) hx hb hts in_X11_target_X11 hown hK hP 0 rfl rfl 0 (by decide) (hts _ mb_X11_target_0) (fun _ h9 => h9) rfl dX11_target_131 ?_
      refine lv_bipush (v := 45) hx hb dX11_target_134 (by decide) ?_
      refine lv_iload hx hb dX11_target_136 (lv_at hl 7 rfl) ?_
      refine lv_iadd hx hb dX11_target_138 ?_
      refine lv_iload hx hb dX11_target_139 (lv_at hl 6 rfl) ?_
      obtain ⟨i7, h⟩ := gI_some h
      refine va_iast hx hb hK hP hD hS 1 0 rfl rfl i7 dX11_target_141 (fun H locs hP hD hS => ?_)
      have hP : va_P D vwCl (w_X11_target cI cJ cZ cG a_x a_x_now a_x_kept a_x_sortOf a_x_sizeOf a_x_sheets a_x_parts a_x_edge a_x_far a_x_lost x_isKept x_host x_below x_bestTarget x_high x_low x_whole x_tryHigh x_tryLow x_lots (upd (upd (upd (upd (upd x_now (5 + v6).toNatClampNeg v1) (15 + v6).toNatClampNeg v2) (25 + v6).toNatClampNeg v3) (35 + v6).toNatClampNeg v4) (45 + v6).toNatClampNeg v5)) H := hP
      have hD : va_D A (w_X11_target cI cJ cZ cG a_x a_x_now a_x_kept a_x_sortOf a_x_sizeOf a_x_sheets a_x_parts a_x_edge a_x_far a_x_lost x_isKept x_host x_below x_bestTarget x_high x_low x_whole x_tryHigh x_tryLow x_lots (upd (upd (upd (upd (upd x_now (5 + v6).toNatClampNeg v1) (15 + v6).toNatClampNeg v2) (25 + v6).toNatClampNeg v3) (35 + v6).toNatClampNeg v4) (45 + v6).toNatClampNeg v5)) := hD
      refine lv_aload_n hx hb dX11_target_142 rfl (lv_at hl 1 rfl) ?_
      refine va_get (D := D) (ci := 11) (v := .ref a_x_now) (C := RX11) (T := TX11) (N := 19) hx hb hts in_X11_target_X11 hown hK hP 0 rfl rfl 0 (by decide) (hts _ mb_X11_target_0) (fun _ h9 => h9) rfl dX11_target_143 ?_
      refine lv_bipush (v := 55) hx hb dX11_target_146 (by decide) ?_
      refine lv_iload hx hb dX11_target_148 (lv_at hl 7 rfl) ?_
      refine lv_iadd hx hb dX11_target_150 ?_
      refine lv_iconst (v := 0) hx hb dX11_target_151 (by decide) ?_
      obtain ⟨i8, h⟩ := gI_some h
      refine va_iast hx hb hK hP hD hS 1 0 rfl rfl i8 dX11_target_152 (fun H locs hP hD hS => ?_)
      have hP : va_P D vwCl (w_X11_target cI cJ cZ cG a_x a_x_now a_x_kept a_x_sortOf a_x_sizeOf a_x_sheets a_x_parts a_x_edge a_x_far a_x_lost x_isKept x_host x_below x_bestTarget x_high x_low x_whole x_tryHigh x_tryLow x_lots (upd (upd (upd (upd (upd (upd x_now (5 + v6).toNatClampNeg v1) (15 + v6).toNatClampNeg v2) (25 + v6).toNatClampNeg v3) (35 + v6).toNatClampNeg v4) (45 + v6).toNatClampNeg v5) (55 + v6).toNatClampNeg 0)) H := hP
      have hD : va_D A (w_X11_target cI cJ cZ cG a_x a_x_now a_x_kept a_x_sortOf a_x_sizeOf a_x_sheets a_x_parts a_x_edge a_x_far a_x_lost x_isKept x_host x_below x_bestTarget x_high x_low x_whole x_tryHigh x_tryLow x_lots (upd (upd (upd (upd (upd (upd x_now (5 + v6).toNatClampNeg v1) (15 + v6).toNatClampNeg v2) (25 + v6).toNatClampNeg v3) (35 + v6).toNatClampNeg v4) (45 + v6).toNatClampNeg v5) (55 + v6).toNatClampNeg 0)) := hD
      refine lv_aload_n hx hb dX11_target_153 rfl (lv_at hl 1 rfl) ?_
      refine va_get (D := D) (ci := 11) (v := .ref a_x_now) (C := RX11) (T := TX11) (N := 19) hx hb hts in_X11_target_X11 hown hK hP 0 rfl rfl 0 (by decide) (hts _ mb_X11_target_0) (fun _ h9 => h9) rfl dX11_target_154 ?_
      refine lv_bipush (v := 65) hx hb dX11_target_157 (by decide) ?_
      refine lv_iload hx hb dX11_target_159 (lv_at hl 7 rfl) ?_
      refine lv_iadd hx hb dX11_target_161 ?_
      refine lv_iload_n hx hb dX11_target_162 rfl (lv_at hl 2 rfl) ?_
      refine lv_iconst (v := 1) hx hb dX11_target_163 (by decide) ?_
      refine lv_icmp_ne (tgt := 171) hx hb dX11_target_164 (by decide) (fun c9 => ?_) (fun c9 => ?_)
      · have h := iff_ c9 h
        refine lv_bipush (v := 60) hx hb dX11_target_171 (by decide) ?_
        exact t_X11_target_b173 C a_x a_x_now a_x_kept a_x_sortOf a_x_sizeOf a_x_sheets a_x_parts a_x_edge a_x_far a_x_lost x_isKept x_host x_below x_bestTarget x_high x_low x_whole x_tryHigh x_tryLow x_lots q (upd (upd (upd (upd (upd (upd x_now (5 + v6).toNatClampNeg v1) (15 + v6).toNatClampNeg v2) (25 + v6).toNatClampNeg v3) (35 + v6).toNatClampNeg v4) (45 + v6).toNatClampNeg v5) (55 + v6).toNatClampNeg 0) (65 + v6) 60 v6 h H locs ls hP hD hS (lv_sub hl [1, 7] rfl)
      · have h := ift c9 h
        refine lv_iconst (v := 0) hx hb dX11_target_167 (by decide) ?_
        refine lv_goto (tgt := 173) hx hb dX11_target_168 (by decide) ?_
        exact t_X11_target_b173 C a_x a_x_now a_x_kept a_x_sortOf a_x_sizeOf a_x_sheets a_x_parts a_x_edge a_x_far a_x_lost x_isKept x_host x_below x_bestTarget x_high x_low x_whole x_tryHigh x_tryLow x_lots q (upd (upd (upd (upd (upd (upd x_now (5 + v6).toNatClampNeg v1) (15 + v6).toNatClampNeg v2) (25 + v6).toNatClampNeg v3) (35 + v6).toNatClampNeg v4) (45 + v6).toNatClampNeg v5) (55 + v6).toNatClampNeg 0) (65 + v6) 0 v6 h H locs ls hP hD hS (lv_sub hl [1, 7] rfl)
    · have h := ift c2 h
      refine lv_ldc (v := (-1000000002)) hx hb hown (hts _ mb_X11_target_1) dX11_target_83 ?_
      obtain rfl := Option.some.inj h
      exact g_iret C hP hD hS dX11_target_85
set_option maxRecDepth 100000 in
set_option maxHeartbeats 4000000 in
theorem t_X11_target_b68 (C : cx D cI cJ cZ cG A cX11_target 8 (some .int) RX11 wsX11_target p s m args meth c) (a_x a_x_now a_x_kept a_x_sortOf a_x_sizeOf a_x_sheets a_x_parts a_x_edge a_x_far a_x_lost : Nat) (x_isKept : Int32) (x_host : Int32) (x_below : Int32) (x_bestTarget : Int32) (x_high : Int64) (x_low : Int64) (x_whole : Int64) (x_tryHigh : Int64) (x_tryLow : Int64) (x_lots : Int32) (q : Int32 × (Nat → Int32)) (x_now : (Nat → Int32)) (v1 : Int32) (v2 : Int32) (v3 : Int32) (v4 : Int32) (v5 : Int32) (v6 : Int32) (h : f_X11_target_b68 x_now v1 v2 v3 v4 v5 v6 = some q) : WB p l e rm_X11_target s m args below meth c (MQ below (Qg D (some (.int q.1)) (w_X11_target cI cJ cZ cG a_x a_x_now a_x_kept a_x_sortOf a_x_sizeOf a_x_sheets a_x_parts a_x_edge a_x_far a_x_lost x_isKept x_host x_below x_bestTarget x_high x_low x_whole x_tryHigh x_tryLow x_lots q.2) A) args s 0 0 A) D A 8 (w_X11_target cI cJ cZ cG a_x a_x_now a_x_kept a_x_sortOf a_x_sizeOf a_x_sheets a_x_parts a_x_edge a_x_far a_x_lost x_isKept x_host x_below x_bestTarget x_high x_low x_whole x_tryHigh x_tryLow x_lots x_now) [(0, .ref a_x), (1, .int v1), (2, .int v2), (3, .int v3), (4, .int v4), (5, .int v5), (6, .int v6)] [] 68 := by
  obtain ⟨hx, hb, hr, hml, hown, hts, hlk, hgk, hA⟩ := id C
  have hK := hgk.1
  unfold f_X11_target_b68 at h
  intro H locs ls hP hD hS hl
  refine lv_iconst (v := 0) hx hb dX11_target_68 (by decide) ?_
  exact t_X11_target_b69 C a_x a_x_now a_x_kept a_x_sortOf a_x_sizeOf a_x_sheets a_x_parts a_x_edge a_x_far a_x_lost x_isKept x_host x_below x_bestTarget x_high x_low x_whole x_tryHigh x_tryLow x_lots q x_now 0 v1 v2 v3 v4 v5 v6 h H locs ls hP hD hS (lv_sub hl [0, 1, 2, 3, 4, 5, 6] rfl)
set_option maxRecDepth 100000 in
set_option maxHeartbeats 4000000 in
theorem c_X11_target (l : Launch) (D : va_G) (cI cJ cZ cG : ClassId) (a_x a_x_now a_x_kept a_x_sortOf a_x_sizeOf a_x_sheets a_x_parts a_x_edge a_x_far a_x_lost : Nat) (x_isKept : Int32) (x_host : Int32) (x_below : Int32) (x_bestTarget : Int32) (x_high : Int64) (x_low : Int64) (x_whole : Int64) (x_tryHigh : Int64) (x_tryLow : Int64) (x_lots : Int32) (x_now : (Nat → Int32)) (p1 : Int32) (p2 : Int32) (p3 : Int32) (p4 : Int32) (p5 : Int32) (q : Int32 × (Nat → Int32)) (h : f_X11_target x_now p1 p2 p3 p4 p5 = some q) : gMet l yX11_target wsX11_target rm_X11_target [.ref a_x, .int p1, .int p2, .int p3, .int p4, .int p5] (w_X11_target cI cJ cZ cG a_x a_x_now a_x_kept a_x_sortOf a_x_sizeOf a_x_sheets a_x_parts a_x_edge a_x_far a_x_lost x_isKept x_host x_below x_bestTarget x_high x_low x_whole x_tryHigh x_tryLow x_lots x_now) (w_X11_target cI cJ cZ cG a_x a_x_now a_x_kept a_x_sortOf a_x_sizeOf a_x_sheets a_x_parts a_x_edge a_x_far a_x_lost x_isKept x_host x_below x_bestTarget x_high x_low x_whole x_tryHigh x_tryLow x_lots q.2) (some (.int q.1)) D cI cJ cZ cG := by
  refine g_enter (cc := cX11_target) (nL := 8) (ret := (some .int)) (by decide) rfl (Nat.le_of_ble_eq_true rfl) ?_
  intro p e s m below meth c A C H locs ls hP hD hS hl
  obtain ⟨hx, hb, hr, hml, hown, hts, hlk, hgk, hA⟩ := id C
  have hK := hgk.1
  have hl : lv_has ls 8 [(0, .ref a_x), (1, .int p1), (2, .int p2), (3, .int p3), (4, .int p4), (5, .int p5)] := hl
  unfold f_X11_target at h
  refine lv_aload_n hx hb dX11_target_0 rfl (lv_at hl 0 rfl) ?_
  refine va_get (D := D) (ci := 11) (v := .ref a_x_now) (C := RX11) (T := TX11) (N := 19) hx hb hts in_X11_target_X11 hown hK hP 0 rfl rfl 0 (by decide) (hts _ mb_X11_target_0) (fun _ h9 => h9) rfl dX11_target_1 ?_
  refine lv_iconst (v := 0) hx hb dX11_target_4 (by decide) ?_
  refine va_iald hx hb hK hP 1 0 rfl rfl (g_lit (i := 0) (n := 194) (by decide)) dX11_target_5 ?_
  refine W.eq (g2 := F0 m 6 ls [.int (x_now 0)]) rfl ?_
  refine lv_istore (lv' := [(6, .int (x_now 0)), (0, .ref a_x), (1, .int p1), (2, .int p2), (3, .int p3), (4, .int p4), (5, .int p5)]) hx hb dX11_target_6 hl (by decide) rfl (fun ls hl => ?_)
  refine lv_iload_n hx hb dX11_target_8 rfl (lv_at hl 2 rfl) ?_
  refine lv_iconst (v := 0) hx hb dX11_target_9 (by decide) ?_
  refine lv_iconst (v := 3) hx hb dX11_target_10 (by decide) ?_
  refine g_callS0 (index := 47) (maxL := 3) (n := 3) (As := [.int p1, .int 0, .int 3]) (rest := []) (st1 := [.int (f_X11_within p1 0 3)]) C hP hS hl.1 (c_X11_within l D cI cJ cZ cG p1 0 3 _ rfl) gX11_target_X11_within rfl rfl rfl (by decide +kernel) ⟨Nat.le_of_ble_eq_true rfl, Nat.le_of_ble_eq_true rfl⟩ rfl (Nat.le_of_ble_eq_true rfl) rfl dX11_target_11 rfl (fun H locs hP hS => ?_)
  refine lv_if_eq (tgt := 68) hx hb dX11_target_14 (by decide) (fun c1 => ?_) (fun c1 => ?_)
  · have h := ift c1 h
    exact t_X11_target_b68 C a_x a_x_now a_x_kept a_x_sortOf a_x_sizeOf a_x_sheets a_x_parts a_x_edge a_x_far a_x_lost x_isKept x_host x_below x_bestTarget x_high x_low x_whole x_tryHigh x_tryLow x_lots q x_now p1 p2 p3 p4 p5 (x_now 0) h H locs ls hP hD hS (lv_sub hl [1, 2, 3, 4, 5, 6, 0] rfl)
  · have h := iff_ c1 h
    refine lv_iload_n hx hb dX11_target_17 rfl (lv_at hl 3 rfl) ?_
    refine lv_bipush (v := (-60)) hx hb dX11_target_18 (by decide) ?_
    refine lv_bipush (v := 60) hx hb dX11_target_20 (by decide) ?_
    refine g_callS0 (index := 47) (maxL := 3) (n := 3) (As := [.int p2, .int (-60), .int 60]) (rest := []) (st1 := [.int (f_X11_within p2 (-60) 60)]) C hP hS hl.1 (c_X11_within l D cI cJ cZ cG p2 (-60) 60 _ rfl) gX11_target_X11_within rfl rfl rfl (by decide +kernel) ⟨Nat.le_of_ble_eq_true rfl, Nat.le_of_ble_eq_true rfl⟩ rfl (Nat.le_of_ble_eq_true rfl) rfl dX11_target_22 rfl (fun H locs hP hS => ?_)
    refine lv_if_eq (tgt := 68) hx hb dX11_target_25 (by decide) (fun c2 => ?_) (fun c2 => ?_)
    · have h := ift c2 h
      exact t_X11_target_b68 C a_x a_x_now a_x_kept a_x_sortOf a_x_sizeOf a_x_sheets a_x_parts a_x_edge a_x_far a_x_lost x_isKept x_host x_below x_bestTarget x_high x_low x_whole x_tryHigh x_tryLow x_lots q x_now p1 p2 p3 p4 p5 (x_now 0) h H locs ls hP hD hS (lv_sub hl [1, 2, 3, 4, 5, 6, 0] rfl)
    · have h := iff_ c2 h
      refine lv_iload_n hx hb dX11_target_28 rfl (lv_at hl 4 rfl) ?_
      refine lv_bipush (v := (-60)) hx hb dX11_target_29 (by decide) ?_
      refine lv_bipush (v := 60) hx hb dX11_target_31 (by decide) ?_
      refine g_callS0 (index := 47) (maxL := 3) (n := 3) (As := [.int p3, .int (-60), .int 60]) (rest := []) (st1 := [.int (f_X11_within p3 (-60) 60)]) C hP hS hl.1 (c_X11_within l D cI cJ cZ cG p3 (-60) 60 _ rfl) gX11_target_X11_within rfl rfl rfl (by decide +kernel) ⟨Nat.le_of_ble_eq_true rfl, Nat.le_of_ble_eq_true rfl⟩ rfl (Nat.le_of_ble_eq_true rfl) rfl dX11_target_33 rfl (fun H locs hP hS => ?_)
      refine lv_if_eq (tgt := 68) hx hb dX11_target_36 (by decide) (fun c3 => ?_) (fun c3 => ?_)
      · have h := ift c3 h
        exact t_X11_target_b68 C a_x a_x_now a_x_kept a_x_sortOf a_x_sizeOf a_x_sheets a_x_parts a_x_edge a_x_far a_x_lost x_isKept x_host x_below x_bestTarget x_high x_low x_whole x_tryHigh x_tryLow x_lots q x_now p1 p2 p3 p4 p5 (x_now 0) h H locs ls hP hD hS (lv_sub hl [1, 2, 3, 4, 5, 6, 0] rfl)
      · have h := iff_ c3 h
        refine lv_iload hx hb dX11_target_39 (lv_at hl 5 rfl) ?_
        refine lv_bipush (v := (-60)) hx hb dX11_target_41 (by decide) ?_
        refine lv_bipush (v := 60) hx hb dX11_target_43 (by decide) ?_
        refine g_callS0 (index := 47) (maxL := 3) (n := 3) (As := [.int p4, .int (-60), .int 60]) (rest := []) (st1 := [.int (f_X11_within p4 (-60) 60)]) C hP hS hl.1 (c_X11_within l D cI cJ cZ cG p4 (-60) 60 _ rfl) gX11_target_X11_within rfl rfl rfl (by decide +kernel) ⟨Nat.le_of_ble_eq_true rfl, Nat.le_of_ble_eq_true rfl⟩ rfl (Nat.le_of_ble_eq_true rfl) rfl dX11_target_45 rfl (fun H locs hP hS => ?_)
        refine lv_if_eq (tgt := 68) hx hb dX11_target_48 (by decide) (fun c4 => ?_) (fun c4 => ?_)
        · have h := ift c4 h
          exact t_X11_target_b68 C a_x a_x_now a_x_kept a_x_sortOf a_x_sizeOf a_x_sheets a_x_parts a_x_edge a_x_far a_x_lost x_isKept x_host x_below x_bestTarget x_high x_low x_whole x_tryHigh x_tryLow x_lots q x_now p1 p2 p3 p4 p5 (x_now 0) h H locs ls hP hD hS (lv_sub hl [1, 2, 3, 4, 5, 6, 0] rfl)
        · have h := iff_ c4 h
          refine lv_iload_n hx hb dX11_target_51 rfl (lv_at hl 4 rfl) ?_
          refine lv_iload_n hx hb dX11_target_52 rfl (lv_at hl 3 rfl) ?_
          refine lv_icmp_gt (tgt := 68) hx hb dX11_target_53 (by decide) (fun c5 => ?_) (fun c5 => ?_)
          · have h := ift c5 h
            exact t_X11_target_b68 C a_x a_x_now a_x_kept a_x_sortOf a_x_sizeOf a_x_sheets a_x_parts a_x_edge a_x_far a_x_lost x_isKept x_host x_below x_bestTarget x_high x_low x_whole x_tryHigh x_tryLow x_lots q x_now p1 p2 p3 p4 p5 (x_now 0) h H locs ls hP hD hS (lv_sub hl [1, 2, 3, 4, 5, 6, 0] rfl)
          · have h := iff_ c5 h
            refine lv_iload hx hb dX11_target_56 (lv_at hl 6 rfl) ?_
            obtain ⟨q6, e6, h⟩ := bd_some h
            refine g_callS0 (index := 51) (maxL := 1) (n := 1) (As := [.int p5]) (rest := []) (st1 := [.int q6]) C hP hS hl.1 (c_X11_isGap l D cI cJ cZ cG p5 q6 e6) gX11_target_X11_isGap rfl rfl rfl (by decide +kernel) ⟨Nat.le_of_ble_eq_true rfl, Nat.le_of_ble_eq_true rfl⟩ rfl (Nat.le_of_ble_eq_true rfl) rfl dX11_target_58 rfl (fun H locs hP hS => ?_)
            refine lv_if_eq (tgt := 68) hx hb dX11_target_61 (by decide) (fun c7 => ?_) (fun c7 => ?_)
            · have h := ift c7 h
              exact t_X11_target_b68 C a_x a_x_now a_x_kept a_x_sortOf a_x_sizeOf a_x_sheets a_x_parts a_x_edge a_x_far a_x_lost x_isKept x_host x_below x_bestTarget x_high x_low x_whole x_tryHigh x_tryLow x_lots q x_now p1 p2 p3 p4 p5 (x_now 0) h H locs ls hP hD hS (lv_sub hl [1, 2, 3, 4, 5, 6, 0] rfl)
            · have h := iff_ c7 h
              refine lv_iconst (v := 1) hx hb dX11_target_64 (by decide) ?_
              refine lv_goto (tgt := 69) hx hb dX11_target_65 (by decide) ?_
              exact t_X11_target_b69 C a_x a_x_now a_x_kept a_x_sortOf a_x_sizeOf a_x_sheets a_x_parts a_x_edge a_x_far a_x_lost x_isKept x_host x_below x_bestTarget x_high x_low x_whole x_tryHigh x_tryLow x_lots q x_now 1 p1 p2 p3 p4 p5 (x_now 0) h H locs ls hP hD hS (lv_sub hl [1, 2, 3, 4, 5, 6, 0] rfl)
theorem in_X11_bounds_X11 : ∀ w ∈ wsX110, w ∈ wsX11_bounds := by decide +kernel
theorem mb_X11_bounds_0 : Cond.fieldLink RX11 9 "GuardDeskModel" "now" "[I" ∈ wsX11_bounds := List.mem_of_getElem? (i := 2) rfl
theorem mb_X11_bounds_1 : Cond.constant RX11 55 (-1000000002) ∈ wsX11_bounds := List.mem_of_getElem? (i := 1) rfl
theorem mb_X11_bounds_2 : Cond.constant RX11 59 (-1000000012) ∈ wsX11_bounds := List.mem_of_getElem? (i := 3) rfl
set_option maxRecDepth 100000 in
set_option maxHeartbeats 4000000 in
theorem t_X11_bounds_b72 (C : cx D cI cJ cZ cG A cX11_bounds 5 (some .int) RX11 wsX11_bounds p s m args meth c) (a_x a_x_now a_x_kept a_x_sortOf a_x_sizeOf a_x_sheets a_x_parts a_x_edge a_x_far a_x_lost : Nat) (x_isKept : Int32) (x_below : Int32) (x_bestTarget : Int32) (x_high : Int64) (x_low : Int64) (x_whole : Int64) (x_tryHigh : Int64) (x_tryLow : Int64) (x_lots : Int32) (q : Int32 × Int32 × (Nat → Int32)) (x_host : Int32) (x_now : (Nat → Int32)) (v1 : Int32) (v2 : Int32) (v3 : Int32) (h : f_X11_bounds_b72 x_host x_now v1 v2 v3 = some q) : WB p l e rm_X11_bounds s m args below meth c (MQ below (Qg D (some (.int q.1)) (w_X11_bounds cI cJ cZ cG a_x a_x_now a_x_kept a_x_sortOf a_x_sizeOf a_x_sheets a_x_parts a_x_edge a_x_far a_x_lost x_isKept q.2.1 x_below x_bestTarget x_high x_low x_whole x_tryHigh x_tryLow x_lots q.2.2) A) args s 0 0 A) D A 5 (w_X11_bounds cI cJ cZ cG a_x a_x_now a_x_kept a_x_sortOf a_x_sizeOf a_x_sheets a_x_parts a_x_edge a_x_far a_x_lost x_isKept x_host x_below x_bestTarget x_high x_low x_whole x_tryHigh x_tryLow x_lots x_now) [(0, .ref a_x), (1, .int v1), (2, .int v2), (3, .int v3)] [] 72 := by
  obtain ⟨hx, hb, hr, hml, hown, hts, hlk, hgk, hA⟩ := id C
  have hK := hgk.1
  unfold f_X11_bounds_b72 at h
  intro H locs ls hP hD hS hl
  refine lv_aload_n hx hb dX11_bounds_72 rfl (lv_at hl 0 rfl) ?_
  refine va_get (D := D) (ci := 11) (v := .ref a_x_now) (C := RX11) (T := TX11) (N := 19) hx hb hts in_X11_bounds_X11 hown hK hP 0 rfl rfl 0 (by decide) (hts _ mb_X11_bounds_0) (fun _ h9 => h9) rfl dX11_bounds_73 ?_
  refine lv_bipush (v := 55) hx hb dX11_bounds_76 (by decide) ?_
  refine lv_iload_n hx hb dX11_bounds_78 rfl (lv_at hl 1 rfl) ?_
  refine lv_iadd hx hb dX11_bounds_79 ?_
  refine lv_iload_n hx hb dX11_bounds_80 rfl (lv_at hl 2 rfl) ?_
  obtain ⟨i1, h⟩ := gI_some h
  refine va_iast hx hb hK hP hD hS 1 0 rfl rfl i1 dX11_bounds_81 (fun H locs hP hD hS => ?_)
  have hP : va_P D vwCl (w_X11_bounds cI cJ cZ cG a_x a_x_now a_x_kept a_x_sortOf a_x_sizeOf a_x_sheets a_x_parts a_x_edge a_x_far a_x_lost x_isKept x_host x_below x_bestTarget x_high x_low x_whole x_tryHigh x_tryLow x_lots (upd x_now (55 + v1).toNatClampNeg v2)) H := hP
  have hD : va_D A (w_X11_bounds cI cJ cZ cG a_x a_x_now a_x_kept a_x_sortOf a_x_sizeOf a_x_sheets a_x_parts a_x_edge a_x_far a_x_lost x_isKept x_host x_below x_bestTarget x_high x_low x_whole x_tryHigh x_tryLow x_lots (upd x_now (55 + v1).toNatClampNeg v2)) := hD
  refine lv_aload_n hx hb dX11_bounds_82 rfl (lv_at hl 0 rfl) ?_
  refine va_get (D := D) (ci := 11) (v := .ref a_x_now) (C := RX11) (T := TX11) (N := 19) hx hb hts in_X11_bounds_X11 hown hK hP 0 rfl rfl 0 (by decide) (hts _ mb_X11_bounds_0) (fun _ h9 => h9) rfl dX11_bounds_83 ?_
  refine lv_bipush (v := 65) hx hb dX11_bounds_86 (by decide) ?_
  refine lv_iload_n hx hb dX11_bounds_88 rfl (lv_at hl 1 rfl) ?_
  refine lv_iadd hx hb dX11_bounds_89 ?_
  refine lv_iload_n hx hb dX11_bounds_90 rfl (lv_at hl 3 rfl) ?_
  obtain ⟨i2, h⟩ := gI_some h
  refine va_iast hx hb hK hP hD hS 1 0 rfl rfl i2 dX11_bounds_91 (fun H locs hP hD hS => ?_)
  have hP : va_P D vwCl (w_X11_bounds cI cJ cZ cG a_x a_x_now a_x_kept a_x_sortOf a_x_sizeOf a_x_sheets a_x_parts a_x_edge a_x_far a_x_lost x_isKept x_host x_below x_bestTarget x_high x_low x_whole x_tryHigh x_tryLow x_lots (upd (upd x_now (55 + v1).toNatClampNeg v2) (65 + v1).toNatClampNeg v3)) H := hP
  have hD : va_D A (w_X11_bounds cI cJ cZ cG a_x a_x_now a_x_kept a_x_sortOf a_x_sizeOf a_x_sheets a_x_parts a_x_edge a_x_far a_x_lost x_isKept x_host x_below x_bestTarget x_high x_low x_whole x_tryHigh x_tryLow x_lots (upd (upd x_now (55 + v1).toNatClampNeg v2) (65 + v1).toNatClampNeg v3)) := hD
  refine lv_iconst (v := 1) hx hb dX11_bounds_92 (by decide) ?_
  obtain rfl := Option.some.inj h
  exact g_iret C hP hD hS dX11_bounds_93
set_option maxRecDepth 100000 in
set_option maxHeartbeats 4000000 in
theorem t_X11_bounds_b59 (C : cx D cI cJ cZ cG A cX11_bounds 5 (some .int) RX11 wsX11_bounds p s m args meth c) (a_x a_x_now a_x_kept a_x_sortOf a_x_sizeOf a_x_sheets a_x_parts a_x_edge a_x_far a_x_lost : Nat) (x_isKept : Int32) (x_below : Int32) (x_bestTarget : Int32) (x_high : Int64) (x_low : Int64) (x_whole : Int64) (x_tryHigh : Int64) (x_tryLow : Int64) (x_lots : Int32) (q : Int32 × Int32 × (Nat → Int32)) (x_host : Int32) (x_now : (Nat → Int32)) (v1 : Int32) (v2 : Int32) (v3 : Int32) (v4 : Int32) (h : f_X11_bounds_b59 x_host x_now v1 v2 v3 v4 = some q) : WB p l e rm_X11_bounds s m args below meth c (MQ below (Qg D (some (.int q.1)) (w_X11_bounds cI cJ cZ cG a_x a_x_now a_x_kept a_x_sortOf a_x_sizeOf a_x_sheets a_x_parts a_x_edge a_x_far a_x_lost x_isKept q.2.1 x_below x_bestTarget x_high x_low x_whole x_tryHigh x_tryLow x_lots q.2.2) A) args s 0 0 A) D A 5 (w_X11_bounds cI cJ cZ cG a_x a_x_now a_x_kept a_x_sortOf a_x_sizeOf a_x_sheets a_x_parts a_x_edge a_x_far a_x_lost x_isKept x_host x_below x_bestTarget x_high x_low x_whole x_tryHigh x_tryLow x_lots x_now) [(0, .ref a_x), (1, .int v1), (2, .int v2), (3, .int v3), (4, .int v4)] [] 59 := by
  obtain ⟨hx, hb, hr, hml, hown, hts, hlk, hgk, hA⟩ := id C
  have hK := hgk.1
  unfold f_X11_bounds_b59 at h
  intro H locs ls hP hD hS hl
  refine lv_iload hx hb dX11_bounds_59 (lv_at hl 4 rfl) ?_
  refine lv_iconst (v := 2) hx hb dX11_bounds_61 (by decide) ?_
  refine lv_icmp_ne (tgt := 72) hx hb dX11_bounds_62 (by decide) (fun c1 => ?_) (fun c1 => ?_)
  · have h := iff_ c1 h
    exact t_X11_bounds_b72 C a_x a_x_now a_x_kept a_x_sortOf a_x_sizeOf a_x_sheets a_x_parts a_x_edge a_x_far a_x_lost x_isKept x_below x_bestTarget x_high x_low x_whole x_tryHigh x_tryLow x_lots q x_host x_now v1 v2 v3 h H locs ls hP hD hS (lv_sub hl [0, 1, 2, 3] rfl)
  · have h := ift c1 h
    refine lv_iload_n hx hb dX11_bounds_65 rfl (lv_at hl 2 rfl) ?_
    refine lv_if_eq (tgt := 72) hx hb dX11_bounds_66 (by decide) (fun c2 => ?_) (fun c2 => ?_)
    · have h := ift c2 h
      exact t_X11_bounds_b72 C a_x a_x_now a_x_kept a_x_sortOf a_x_sizeOf a_x_sheets a_x_parts a_x_edge a_x_far a_x_lost x_isKept x_below x_bestTarget x_high x_low x_whole x_tryHigh x_tryLow x_lots q x_host x_now v1 v2 v3 h H locs ls hP hD hS (lv_sub hl [0, 1, 2, 3] rfl)
    · have h := iff_ c2 h
      refine lv_ldc (v := (-1000000002)) hx hb hown (hts _ mb_X11_bounds_1) dX11_bounds_69 ?_
      obtain rfl := Option.some.inj h
      exact g_iret C hP hD hS dX11_bounds_71
set_option maxRecDepth 100000 in
set_option maxHeartbeats 4000000 in
theorem c_X11_bounds (l : Launch) (D : va_G) (cI cJ cZ cG : ClassId) (a_x a_x_now a_x_kept a_x_sortOf a_x_sizeOf a_x_sheets a_x_parts a_x_edge a_x_far a_x_lost : Nat) (x_isKept : Int32) (x_host : Int32) (x_below : Int32) (x_bestTarget : Int32) (x_high : Int64) (x_low : Int64) (x_whole : Int64) (x_tryHigh : Int64) (x_tryLow : Int64) (x_lots : Int32) (x_now : (Nat → Int32)) (p1 : Int32) (p2 : Int32) (p3 : Int32) (q : Int32 × Int32 × (Nat → Int32)) (h : f_X11_bounds x_host x_now p1 p2 p3 = some q) : gMet l yX11_bounds wsX11_bounds rm_X11_bounds [.ref a_x, .int p1, .int p2, .int p3] (w_X11_bounds cI cJ cZ cG a_x a_x_now a_x_kept a_x_sortOf a_x_sizeOf a_x_sheets a_x_parts a_x_edge a_x_far a_x_lost x_isKept x_host x_below x_bestTarget x_high x_low x_whole x_tryHigh x_tryLow x_lots x_now) (w_X11_bounds cI cJ cZ cG a_x a_x_now a_x_kept a_x_sortOf a_x_sizeOf a_x_sheets a_x_parts a_x_edge a_x_far a_x_lost x_isKept q.2.1 x_below x_bestTarget x_high x_low x_whole x_tryHigh x_tryLow x_lots q.2.2) (some (.int q.1)) D cI cJ cZ cG := by
  refine g_enter (cc := cX11_bounds) (nL := 5) (ret := (some .int)) (by decide) rfl (Nat.le_of_ble_eq_true rfl) ?_
  intro p e s m below meth c A C H locs ls hP hD hS hl
  obtain ⟨hx, hb, hr, hml, hown, hts, hlk, hgk, hA⟩ := id C
  have hK := hgk.1
  have hl : lv_has ls 5 [(0, .ref a_x), (1, .int p1), (2, .int p2), (3, .int p3)] := hl
  unfold f_X11_bounds at h
  refine lv_aload_n hx hb dX11_bounds_0 rfl (lv_at hl 0 rfl) ?_
  refine lv_iload_n hx hb dX11_bounds_1 rfl (lv_at hl 1 rfl) ?_
  obtain ⟨q1, e1, h⟩ := bd_some h
  refine g_callV (index := 56) (maxL := 2) (n := 1) (As := [.int p1]) (rest := []) (st1 := [.int q1]) (C1 := RX11) (T1 := TX11) (N1 := 19) (ws2 := (w_X11_bounds cI cJ cZ cG a_x a_x_now a_x_kept a_x_sortOf a_x_sizeOf a_x_sheets a_x_parts a_x_edge a_x_far a_x_lost x_isKept x_host x_below x_bestTarget x_high x_low x_whole x_tryHigh x_tryLow x_lots x_now)) C hP hD hS hl.1 11 0 (c_X11_isTarget l D cI cJ cZ cG a_x a_x_now a_x_kept a_x_sortOf a_x_sizeOf a_x_sheets a_x_parts a_x_edge a_x_far a_x_lost x_isKept x_host x_below x_bestTarget x_high x_low x_whole x_tryHigh x_tryLow x_lots x_now p1 q1 e1) gX11_bounds_X11_isTarget rfl rfl rfl (by decide +kernel) ⟨Nat.le_of_ble_eq_true rfl, Nat.le_of_ble_eq_true rfl⟩ rfl rfl rfl (Nat.le_of_ble_eq_true rfl) rfl dX11_bounds_2 [0, 1] [] [0, 1] rfl rfl rfl rfl (by decide) rfl rfl rfl (fun H locs hP hD hS => ?_)
  refine lv_if_eq (tgt := 27) hx hb dX11_bounds_5 (by decide) (fun c2 => ?_) (fun c2 => ?_)
  · have h := ift c2 h
    refine lv_ldc (v := (-1000000002)) hx hb hown (hts _ mb_X11_bounds_1) dX11_bounds_27 ?_
    obtain rfl := Option.some.inj h
    exact g_iret C hP hD hS dX11_bounds_29
  · have h := iff_ c2 h
    refine lv_iload_n hx hb dX11_bounds_8 rfl (lv_at hl 3 rfl) ?_
    refine lv_iconst (v := 0) hx hb dX11_bounds_9 (by decide) ?_
    refine lv_bipush (v := 60) hx hb dX11_bounds_10 (by decide) ?_
    refine g_callS0 (index := 47) (maxL := 3) (n := 3) (As := [.int p3, .int 0, .int 60]) (rest := []) (st1 := [.int (f_X11_within p3 0 60)]) C hP hS hl.1 (c_X11_within l D cI cJ cZ cG p3 0 60 _ rfl) gX11_bounds_X11_within rfl rfl rfl (by decide +kernel) ⟨Nat.le_of_ble_eq_true rfl, Nat.le_of_ble_eq_true rfl⟩ rfl (Nat.le_of_ble_eq_true rfl) rfl dX11_bounds_12 rfl (fun H locs hP hS => ?_)
    refine lv_if_eq (tgt := 27) hx hb dX11_bounds_15 (by decide) (fun c3 => ?_) (fun c3 => ?_)
    · have h := ift c3 h
      refine lv_ldc (v := (-1000000002)) hx hb hown (hts _ mb_X11_bounds_1) dX11_bounds_27 ?_
      obtain rfl := Option.some.inj h
      exact g_iret C hP hD hS dX11_bounds_29
    · have h := iff_ c3 h
      refine lv_iload_n hx hb dX11_bounds_18 rfl (lv_at hl 2 rfl) ?_
      refine lv_iconst (v := 0) hx hb dX11_bounds_19 (by decide) ?_
      refine lv_iload_n hx hb dX11_bounds_20 rfl (lv_at hl 3 rfl) ?_
      refine g_callS0 (index := 47) (maxL := 3) (n := 3) (As := [.int p2, .int 0, .int p3]) (rest := []) (st1 := [.int (f_X11_within p2 0 p3)]) C hP hS hl.1 (c_X11_within l D cI cJ cZ cG p2 0 p3 _ rfl) gX11_bounds_X11_within rfl rfl rfl (by decide +kernel) ⟨Nat.le_of_ble_eq_true rfl, Nat.le_of_ble_eq_true rfl⟩ rfl (Nat.le_of_ble_eq_true rfl) rfl dX11_bounds_21 rfl (fun H locs hP hS => ?_)
      refine lv_if_ne (tgt := 30) hx hb dX11_bounds_24 (by decide) (fun c4 => ?_) (fun c4 => ?_)
      · have h := iff_ c4 h
        refine lv_aload_n hx hb dX11_bounds_30 rfl (lv_at hl 0 rfl) ?_
        refine va_get (D := D) (ci := 11) (v := .ref a_x_now) (C := RX11) (T := TX11) (N := 19) hx hb hts in_X11_bounds_X11 hown hK hP 0 rfl rfl 0 (by decide) (hts _ mb_X11_bounds_0) (fun _ h9 => h9) rfl dX11_bounds_31 ?_
        refine lv_iconst (v := 5) hx hb dX11_bounds_34 (by decide) ?_
        refine lv_iload_n hx hb dX11_bounds_35 rfl (lv_at hl 1 rfl) ?_
        refine lv_iadd hx hb dX11_bounds_36 ?_
        obtain ⟨i5, h⟩ := gI_some h
        refine va_iald hx hb hK hP 1 0 rfl rfl i5 dX11_bounds_37 ?_
        refine lv_istore (lv' := [(4, .int (x_now (5 + p1).toNatClampNeg)), (0, .ref a_x), (1, .int p1), (2, .int p2), (3, .int p3)]) hx hb dX11_bounds_38 hl (by decide) rfl (fun ls hl => ?_)
        refine lv_iload hx hb dX11_bounds_40 (lv_at hl 0 rfl) ?_
        refine lv_iconst (v := 2) hx hb dX11_bounds_42 (by decide) ?_
        refine lv_icmp_eq (tgt := 59) hx hb dX11_bounds_43 (by decide) (fun c6 => ?_) (fun c6 => ?_)
        · have h := ift c6 h
          exact t_X11_bounds_b59 C a_x a_x_now a_x_kept a_x_sortOf a_x_sizeOf a_x_sheets a_x_parts a_x_edge a_x_far a_x_lost x_isKept x_below x_bestTarget x_high x_low x_whole x_tryHigh x_tryLow x_lots q x_host x_now p1 p2 p3 (x_now (5 + p1).toNatClampNeg) h H locs ls hP hD hS (lv_sub hl [1, 2, 3, 4, 0] rfl)
        · have h := iff_ c6 h
          refine lv_iload hx hb dX11_bounds_46 (lv_at hl 0 rfl) ?_
          refine lv_iconst (v := 3) hx hb dX11_bounds_48 (by decide) ?_
          refine lv_icmp_eq (tgt := 59) hx hb dX11_bounds_49 (by decide) (fun c7 => ?_) (fun c7 => ?_)
          · have h := ift c7 h
            exact t_X11_bounds_b59 C a_x a_x_now a_x_kept a_x_sortOf a_x_sizeOf a_x_sheets a_x_parts a_x_edge a_x_far a_x_lost x_isKept x_below x_bestTarget x_high x_low x_whole x_tryHigh x_tryLow x_lots q x_host x_now p1 p2 p3 (x_now (5 + p1).toNatClampNeg) h H locs ls hP hD hS (lv_sub hl [1, 2, 3, 4, 0] rfl)
          · have h := iff_ c7 h
            refine lv_aload_n hx hb dX11_bounds_52 rfl (lv_at hl 1 rfl) ?_
            refine lv_ldc (v := (-1000000012)) hx hb hown (hts _ mb_X11_bounds_2) dX11_bounds_53 ?_
            refine g_callV (index := 60) (maxL := 2) (n := 1) (As := [.int (-1000000012)]) (rest := []) (st1 := [.int ((f_X11_found x_host (-1000000012)).1)]) (C1 := RX11) (T1 := TX11) (N1 := 19) (ws2 := (w_X11_bounds cI cJ cZ cG a_x a_x_now a_x_kept a_x_sortOf a_x_sizeOf a_x_sheets a_x_parts a_x_edge a_x_far a_x_lost x_isKept ((f_X11_found x_host (-1000000012)).2) x_below x_bestTarget x_high x_low x_whole x_tryHigh x_tryLow x_lots x_now)) C hP hD hS hl.1 11 0 (c_X11_found l D cI cJ cZ cG a_x a_x_now a_x_kept a_x_sortOf a_x_sizeOf a_x_sheets a_x_parts a_x_edge a_x_far a_x_lost x_isKept x_host x_below x_bestTarget x_high x_low x_whole x_tryHigh x_tryLow x_lots (-1000000012) _ rfl) gX11_bounds_X11_found rfl rfl rfl (by decide +kernel) ⟨Nat.le_of_ble_eq_true rfl, Nat.le_of_ble_eq_true rfl⟩ rfl rfl rfl (Nat.le_of_ble_eq_true rfl) rfl dX11_bounds_55 [0] [1] [1, 0] rfl rfl rfl rfl (by decide) rfl rfl rfl (fun H locs hP hD hS => ?_)
            obtain rfl := Option.some.inj h
            exact g_iret C hP hD hS dX11_bounds_58
      · have h := ift c4 h
        refine lv_ldc (v := (-1000000002)) hx hb hown (hts _ mb_X11_bounds_1) dX11_bounds_27 ?_
        obtain rfl := Option.some.inj h
        exact g_iret C hP hD hS dX11_bounds_29
theorem in_X11_guards_X11 : ∀ w ∈ wsX110, w ∈ wsX11_guards := by decide +kernel
theorem mb_X11_guards_0 : Cond.fieldLink RX11 9 "GuardDeskModel" "now" "[I" ∈ wsX11_guards := List.mem_of_getElem? (i := 2) rfl
theorem mb_X11_guards_1 : Cond.constant RX11 55 (-1000000002) ∈ wsX11_guards := List.mem_of_getElem? (i := 1) rfl
set_option maxRecDepth 100000 in
set_option maxHeartbeats 4000000 in
theorem c_X11_guards (l : Launch) (D : va_G) (cI cJ cZ cG : ClassId) (a_x a_x_now a_x_kept a_x_sortOf a_x_sizeOf a_x_sheets a_x_parts a_x_edge a_x_far a_x_lost : Nat) (x_isKept : Int32) (x_host : Int32) (x_below : Int32) (x_bestTarget : Int32) (x_high : Int64) (x_low : Int64) (x_whole : Int64) (x_tryHigh : Int64) (x_tryLow : Int64) (x_lots : Int32) (x_now : (Nat → Int32)) (p1 : Int32) (q : Int32 × (Nat → Int32)) (h : f_X11_guards x_now p1 = some q) : gMet l yX11_guards wsX11_guards rm_X11_guards [.ref a_x, .int p1] (w_X11_guards cI cJ cZ cG a_x a_x_now a_x_kept a_x_sortOf a_x_sizeOf a_x_sheets a_x_parts a_x_edge a_x_far a_x_lost x_isKept x_host x_below x_bestTarget x_high x_low x_whole x_tryHigh x_tryLow x_lots x_now) (w_X11_guards cI cJ cZ cG a_x a_x_now a_x_kept a_x_sortOf a_x_sizeOf a_x_sheets a_x_parts a_x_edge a_x_far a_x_lost x_isKept x_host x_below x_bestTarget x_high x_low x_whole x_tryHigh x_tryLow x_lots q.2) (some (.int q.1)) D cI cJ cZ cG := by
  refine g_enter (cc := cX11_guards) (nL := 3) (ret := (some .int)) (by decide) rfl (Nat.le_of_ble_eq_true rfl) ?_
  intro p e s m below meth c A C H locs ls hP hD hS hl
  obtain ⟨hx, hb, hr, hml, hown, hts, hlk, hgk, hA⟩ := id C
  have hK := hgk.1
  have hl : lv_has ls 3 [(0, .ref a_x), (1, .int p1)] := hl
  unfold f_X11_guards at h
  refine lv_iload_n hx hb dX11_guards_0 rfl (lv_at hl 1 rfl) ?_
  refine lv_iconst (v := 0) hx hb dX11_guards_1 (by decide) ?_
  refine lv_bipush (v := 10) hx hb dX11_guards_2 (by decide) ?_
  refine g_callS0 (index := 47) (maxL := 3) (n := 3) (As := [.int p1, .int 0, .int 10]) (rest := []) (st1 := [.int (f_X11_within p1 0 10)]) C hP hS hl.1 (c_X11_within l D cI cJ cZ cG p1 0 10 _ rfl) gX11_guards_X11_within rfl rfl rfl (by decide +kernel) ⟨Nat.le_of_ble_eq_true rfl, Nat.le_of_ble_eq_true rfl⟩ rfl (Nat.le_of_ble_eq_true rfl) rfl dX11_guards_4 rfl (fun H locs hP hS => ?_)
  refine lv_if_ne (tgt := 13) hx hb dX11_guards_7 (by decide) (fun c1 => ?_) (fun c1 => ?_)
  · have h := iff_ c1 h
    refine lv_aload_n hx hb dX11_guards_13 rfl (lv_at hl 0 rfl) ?_
    refine va_get (D := D) (ci := 11) (v := .ref a_x_now) (C := RX11) (T := TX11) (N := 19) hx hb hts in_X11_guards_X11 hown hK hP 0 rfl rfl 0 (by decide) (hts _ mb_X11_guards_0) (fun _ h9 => h9) rfl dX11_guards_14 ?_
    refine lv_iconst (v := 1) hx hb dX11_guards_17 (by decide) ?_
    refine va_iald hx hb hK hP 1 0 rfl rfl (g_lit (i := 1) (n := 194) (by decide)) dX11_guards_18 ?_
    refine W.eq (g2 := F0 m 19 ls [.int (x_now 1)]) rfl ?_
    refine lv_istore_n (lv' := [(2, .int (x_now 1)), (0, .ref a_x), (1, .int p1)]) hx hb dX11_guards_19 rfl hl (by decide) rfl (fun ls hl => ?_)
    refine lv_aload_n hx hb dX11_guards_20 rfl (lv_at hl 1 rfl) ?_
    refine va_get (D := D) (ci := 11) (v := .ref a_x_now) (C := RX11) (T := TX11) (N := 19) hx hb hts in_X11_guards_X11 hown hK hP 0 rfl rfl 0 (by decide) (hts _ mb_X11_guards_0) (fun _ h9 => h9) rfl dX11_guards_21 ?_
    refine lv_iconst (v := 1) hx hb dX11_guards_24 (by decide) ?_
    refine lv_iload_n hx hb dX11_guards_25 rfl (lv_at hl 2 rfl) ?_
    refine va_iast hx hb hK hP hD hS 1 0 rfl rfl (g_lit (i := 1) (n := 194) (by decide)) dX11_guards_26 (fun H locs hP hD hS => ?_)
    have hP : va_P D vwCl (w_X11_guards cI cJ cZ cG a_x a_x_now a_x_kept a_x_sortOf a_x_sizeOf a_x_sheets a_x_parts a_x_edge a_x_far a_x_lost x_isKept x_host x_below x_bestTarget x_high x_low x_whole x_tryHigh x_tryLow x_lots (upd x_now 1 p1)) H := hP
    have hD : va_D A (w_X11_guards cI cJ cZ cG a_x a_x_now a_x_kept a_x_sortOf a_x_sizeOf a_x_sheets a_x_parts a_x_edge a_x_far a_x_lost x_isKept x_host x_below x_bestTarget x_high x_low x_whole x_tryHigh x_tryLow x_lots (upd x_now 1 p1)) := hD
    refine lv_iload_n hx hb dX11_guards_27 rfl (lv_at hl 0 rfl) ?_
    obtain rfl := Option.some.inj h
    exact g_iret C hP hD hS dX11_guards_28
  · have h := ift c1 h
    refine lv_ldc (v := (-1000000002)) hx hb hown (hts _ mb_X11_guards_1) dX11_guards_10 ?_
    obtain rfl := Option.some.inj h
    exact g_iret C hP hD hS dX11_guards_12
theorem in_X11_of_X11 : ∀ w ∈ wsX110, w ∈ wsX11_of := by decide +kernel
theorem mb_X11_of_0 : Cond.constant RX11 55 (-1000000002) ∈ wsX11_of := List.mem_of_getElem? (i := 2) rfl
theorem mb_X11_of_1 : Cond.fieldLink RX11 9 "GuardDeskModel" "now" "[I" ∈ wsX11_of := List.mem_of_getElem? (i := 1) rfl
set_option maxRecDepth 100000 in
set_option maxHeartbeats 4000000 in
theorem c_X11_of (l : Launch) (D : va_G) (cI cJ cZ cG : ClassId) (a_x a_x_now a_x_kept a_x_sortOf a_x_sizeOf a_x_sheets a_x_parts a_x_edge a_x_far a_x_lost : Nat) (x_isKept : Int32) (x_host : Int32) (x_below : Int32) (x_bestTarget : Int32) (x_high : Int64) (x_low : Int64) (x_whole : Int64) (x_tryHigh : Int64) (x_tryLow : Int64) (x_lots : Int32) (x_now : (Nat → Int32)) (p1 : Int32) (p2 : Int32) (q : Int32) (h : f_X11_of x_now p1 p2 = some q) : gMet l yX11_of wsX11_of rm_X11_of [.ref a_x, .int p1, .int p2] (w_X11_of cI cJ cZ cG a_x a_x_now a_x_kept a_x_sortOf a_x_sizeOf a_x_sheets a_x_parts a_x_edge a_x_far a_x_lost x_isKept x_host x_below x_bestTarget x_high x_low x_whole x_tryHigh x_tryLow x_lots x_now) (w_X11_of cI cJ cZ cG a_x a_x_now a_x_kept a_x_sortOf a_x_sizeOf a_x_sheets a_x_parts a_x_edge a_x_far a_x_lost x_isKept x_host x_below x_bestTarget x_high x_low x_whole x_tryHigh x_tryLow x_lots x_now) (some (.int q)) D cI cJ cZ cG := by
  refine g_enter (cc := cX11_of) (nL := 3) (ret := (some .int)) (by decide) rfl (Nat.le_of_ble_eq_true rfl) ?_
  intro p e s m below meth c A C H locs ls hP hD hS hl
  obtain ⟨hx, hb, hr, hml, hown, hts, hlk, hgk, hA⟩ := id C
  have hK := hgk.1
  have hl : lv_has ls 3 [(0, .ref a_x), (1, .int p1), (2, .int p2)] := hl
  unfold f_X11_of at h
  refine lv_aload_n hx hb dX11_of_0 rfl (lv_at hl 0 rfl) ?_
  refine lv_iload_n hx hb dX11_of_1 rfl (lv_at hl 1 rfl) ?_
  obtain ⟨q1, e1, h⟩ := bd_some h
  refine g_callV (index := 56) (maxL := 2) (n := 1) (As := [.int p1]) (rest := []) (st1 := [.int q1]) (C1 := RX11) (T1 := TX11) (N1 := 19) (ws2 := (w_X11_of cI cJ cZ cG a_x a_x_now a_x_kept a_x_sortOf a_x_sizeOf a_x_sheets a_x_parts a_x_edge a_x_far a_x_lost x_isKept x_host x_below x_bestTarget x_high x_low x_whole x_tryHigh x_tryLow x_lots x_now)) C hP hD hS hl.1 11 0 (c_X11_isTarget l D cI cJ cZ cG a_x a_x_now a_x_kept a_x_sortOf a_x_sizeOf a_x_sheets a_x_parts a_x_edge a_x_far a_x_lost x_isKept x_host x_below x_bestTarget x_high x_low x_whole x_tryHigh x_tryLow x_lots x_now p1 q1 e1) gX11_of_X11_isTarget rfl rfl rfl (by decide +kernel) ⟨Nat.le_of_ble_eq_true rfl, Nat.le_of_ble_eq_true rfl⟩ rfl rfl rfl (Nat.le_of_ble_eq_true rfl) rfl dX11_of_2 [0, 1] [] [0, 1] rfl rfl rfl rfl (by decide) rfl rfl rfl (fun H locs hP hD hS => ?_)
  refine lv_if_eq (tgt := 34) hx hb dX11_of_5 (by decide) (fun c2 => ?_) (fun c2 => ?_)
  · have h := ift c2 h
    refine lv_ldc (v := (-1000000002)) hx hb hown (hts _ mb_X11_of_0) dX11_of_34 ?_
    obtain rfl := Option.some.inj h
    exact g_iret C hP hD hS dX11_of_36
  · have h := iff_ c2 h
    refine lv_iload_n hx hb dX11_of_8 rfl (lv_at hl 2 rfl) ?_
    refine lv_iconst (v := 0) hx hb dX11_of_9 (by decide) ?_
    refine lv_bipush (v := 7) hx hb dX11_of_10 (by decide) ?_
    refine g_callS0 (index := 47) (maxL := 3) (n := 3) (As := [.int p2, .int 0, .int 7]) (rest := []) (st1 := [.int (f_X11_within p2 0 7)]) C hP hS hl.1 (c_X11_within l D cI cJ cZ cG p2 0 7 _ rfl) gX11_of_X11_within rfl rfl rfl (by decide +kernel) ⟨Nat.le_of_ble_eq_true rfl, Nat.le_of_ble_eq_true rfl⟩ rfl (Nat.le_of_ble_eq_true rfl) rfl dX11_of_12 rfl (fun H locs hP hS => ?_)
    refine lv_if_eq (tgt := 34) hx hb dX11_of_15 (by decide) (fun c3 => ?_) (fun c3 => ?_)
    · have h := ift c3 h
      refine lv_ldc (v := (-1000000002)) hx hb hown (hts _ mb_X11_of_0) dX11_of_34 ?_
      obtain rfl := Option.some.inj h
      exact g_iret C hP hD hS dX11_of_36
    · have h := iff_ c3 h
      refine lv_aload_n hx hb dX11_of_18 rfl (lv_at hl 0 rfl) ?_
      refine va_get (D := D) (ci := 11) (v := .ref a_x_now) (C := RX11) (T := TX11) (N := 19) hx hb hts in_X11_of_X11 hown hK hP 0 rfl rfl 0 (by decide) (hts _ mb_X11_of_1) (fun _ h9 => h9) rfl dX11_of_19 ?_
      refine lv_iconst (v := 5) hx hb dX11_of_22 (by decide) ?_
      refine lv_bipush (v := 10) hx hb dX11_of_23 (by decide) ?_
      refine lv_iload_n hx hb dX11_of_25 rfl (lv_at hl 2 rfl) ?_
      refine lv_imul hx hb dX11_of_26 ?_
      refine lv_iadd hx hb dX11_of_27 ?_
      refine lv_iload_n hx hb dX11_of_28 rfl (lv_at hl 1 rfl) ?_
      refine lv_iadd hx hb dX11_of_29 ?_
      obtain ⟨i4, h⟩ := gI_some h
      refine va_iald hx hb hK hP 1 0 rfl rfl i4 dX11_of_30 ?_
      refine lv_goto (tgt := 36) hx hb dX11_of_31 (by decide) ?_
      obtain rfl := Option.some.inj h
      exact g_iret C hP hD hS dX11_of_36
theorem in_X11_drop_X11 : ∀ w ∈ wsX110, w ∈ wsX11_drop := by decide +kernel
theorem mb_X11_drop_0 : Cond.fieldLink RX11 9 "GuardDeskModel" "now" "[I" ∈ wsX11_drop := List.mem_of_getElem? (i := 1) rfl
theorem mb_X11_drop_1 : Cond.constant RX11 64 (-1000000010) ∈ wsX11_drop := List.mem_of_getElem? (i := 2) rfl
set_option maxRecDepth 100000 in
set_option maxHeartbeats 4000000 in
theorem c_X11_drop (l : Launch) (D : va_G) (cI cJ cZ cG : ClassId) (a_x a_x_now a_x_kept a_x_sortOf a_x_sizeOf a_x_sheets a_x_parts a_x_edge a_x_far a_x_lost : Nat) (x_isKept : Int32) (x_host : Int32) (x_below : Int32) (x_bestTarget : Int32) (x_high : Int64) (x_low : Int64) (x_whole : Int64) (x_tryHigh : Int64) (x_tryLow : Int64) (x_lots : Int32) (x_now : (Nat → Int32)) (q : Int32 × Int32 × (Nat → Int32)) (h : f_X11_drop x_host x_now = some q) : gMet l yX11_drop wsX11_drop rm_X11_drop [.ref a_x] (w_X11_drop cI cJ cZ cG a_x a_x_now a_x_kept a_x_sortOf a_x_sizeOf a_x_sheets a_x_parts a_x_edge a_x_far a_x_lost x_isKept x_host x_below x_bestTarget x_high x_low x_whole x_tryHigh x_tryLow x_lots x_now) (w_X11_drop cI cJ cZ cG a_x a_x_now a_x_kept a_x_sortOf a_x_sizeOf a_x_sheets a_x_parts a_x_edge a_x_far a_x_lost x_isKept q.2.1 x_below x_bestTarget x_high x_low x_whole x_tryHigh x_tryLow x_lots q.2.2) (some (.int q.1)) D cI cJ cZ cG := by
  refine g_enter (cc := cX11_drop) (nL := 1) (ret := (some .int)) (by decide) rfl (Nat.le_of_ble_eq_true rfl) ?_
  intro p e s m below meth c A C H locs ls hP hD hS hl
  obtain ⟨hx, hb, hr, hml, hown, hts, hlk, hgk, hA⟩ := id C
  have hK := hgk.1
  have hl : lv_has ls 1 [(0, .ref a_x)] := hl
  unfold f_X11_drop at h
  refine lv_aload_n hx hb dX11_drop_0 rfl (lv_at hl 0 rfl) ?_
  refine va_get (D := D) (ci := 11) (v := .ref a_x_now) (C := RX11) (T := TX11) (N := 19) hx hb hts in_X11_drop_X11 hown hK hP 0 rfl rfl 0 (by decide) (hts _ mb_X11_drop_0) (fun _ h9 => h9) rfl dX11_drop_1 ?_
  refine lv_iconst (v := 0) hx hb dX11_drop_4 (by decide) ?_
  refine va_iald hx hb hK hP 1 0 rfl rfl (g_lit (i := 0) (n := 194) (by decide)) dX11_drop_5 ?_
  refine W.eq (g2 := F0 m 6 ls [.int (x_now 0)]) rfl ?_
  refine lv_if_ne (tgt := 16) hx hb dX11_drop_6 (by decide) (fun c1 => ?_) (fun c1 => ?_)
  · have h := iff_ c1 h
    refine lv_aload_n hx hb dX11_drop_16 rfl (lv_at hl 0 rfl) ?_
    refine va_get (D := D) (ci := 11) (v := .ref a_x_now) (C := RX11) (T := TX11) (N := 19) hx hb hts in_X11_drop_X11 hown hK hP 0 rfl rfl 0 (by decide) (hts _ mb_X11_drop_0) (fun _ h9 => h9) rfl dX11_drop_17 ?_
    refine lv_iconst (v := 0) hx hb dX11_drop_20 (by decide) ?_
    refine lv_dup2_11 hx hb dX11_drop_21 rfl rfl ?_
    refine va_iald hx hb hK hP 1 0 rfl rfl (g_lit (i := 0) (n := 194) (by decide)) dX11_drop_22 ?_
    refine W.eq (g2 := F0 m 23 ls [.int (x_now 0), .int 0, .ref a_x_now]) rfl ?_
    refine lv_iconst (v := 1) hx hb dX11_drop_23 (by decide) ?_
    refine lv_isub hx hb dX11_drop_24 ?_
    refine va_iast hx hb hK hP hD hS 1 0 rfl rfl (g_lit (i := 0) (n := 194) (by decide)) dX11_drop_25 (fun H locs hP hD hS => ?_)
    have hP : va_P D vwCl (w_X11_drop cI cJ cZ cG a_x a_x_now a_x_kept a_x_sortOf a_x_sizeOf a_x_sheets a_x_parts a_x_edge a_x_far a_x_lost x_isKept x_host x_below x_bestTarget x_high x_low x_whole x_tryHigh x_tryLow x_lots (upd x_now 0 ((x_now 0) - 1))) H := hP
    have hD : va_D A (w_X11_drop cI cJ cZ cG a_x a_x_now a_x_kept a_x_sortOf a_x_sizeOf a_x_sheets a_x_parts a_x_edge a_x_far a_x_lost x_isKept x_host x_below x_bestTarget x_high x_low x_whole x_tryHigh x_tryLow x_lots (upd x_now 0 ((x_now 0) - 1))) := hD
    refine lv_aload_n hx hb dX11_drop_26 rfl (lv_at hl 0 rfl) ?_
    refine va_get (D := D) (ci := 11) (v := .ref a_x_now) (C := RX11) (T := TX11) (N := 19) hx hb hts in_X11_drop_X11 hown hK hP 0 rfl rfl 0 (by decide) (hts _ mb_X11_drop_0) (fun _ h9 => h9) rfl dX11_drop_27 ?_
    refine lv_iconst (v := 0) hx hb dX11_drop_30 (by decide) ?_
    refine va_iald hx hb hK hP 1 0 rfl rfl (g_lit (i := 0) (n := 194) (by decide)) dX11_drop_31 ?_
    refine W.eq (g2 := F0 m 32 ls [.int ((upd x_now 0 ((x_now 0) - 1)) 0)]) rfl ?_
    obtain rfl := Option.some.inj h
    exact g_iret C hP hD hS dX11_drop_32
  · have h := ift c1 h
    refine lv_aload_n hx hb dX11_drop_9 rfl (lv_at hl 0 rfl) ?_
    refine lv_ldc (v := (-1000000010)) hx hb hown (hts _ mb_X11_drop_1) dX11_drop_10 ?_
    refine g_callV (index := 60) (maxL := 2) (n := 1) (As := [.int (-1000000010)]) (rest := []) (st1 := [.int ((f_X11_found x_host (-1000000010)).1)]) (C1 := RX11) (T1 := TX11) (N1 := 19) (ws2 := (w_X11_drop cI cJ cZ cG a_x a_x_now a_x_kept a_x_sortOf a_x_sizeOf a_x_sheets a_x_parts a_x_edge a_x_far a_x_lost x_isKept ((f_X11_found x_host (-1000000010)).2) x_below x_bestTarget x_high x_low x_whole x_tryHigh x_tryLow x_lots x_now)) C hP hD hS hl.1 11 0 (c_X11_found l D cI cJ cZ cG a_x a_x_now a_x_kept a_x_sortOf a_x_sizeOf a_x_sheets a_x_parts a_x_edge a_x_far a_x_lost x_isKept x_host x_below x_bestTarget x_high x_low x_whole x_tryHigh x_tryLow x_lots (-1000000010) _ rfl) gX11_drop_X11_found rfl rfl rfl (by decide +kernel) ⟨Nat.le_of_ble_eq_true rfl, Nat.le_of_ble_eq_true rfl⟩ rfl rfl rfl (Nat.le_of_ble_eq_true rfl) rfl dX11_drop_12 [0] [1] [1, 0] rfl rfl rfl rfl (by decide) rfl rfl rfl (fun H locs hP hD hS => ?_)
    obtain rfl := Option.some.inj h
    exact g_iret C hP hD hS dX11_drop_15
set_option maxRecDepth 100000 in
set_option maxHeartbeats 4000000 in
theorem t_X11_common_b17 (C : cx D cI cJ cZ cG A cX11_common 10 (some .long) RX11 wsX11_common p s m args meth c) (N : Nat) (q : Int64) : ∀ (n : Nat) (v4 : Int64) (v6 : Int64), f_X11_common_b17 N n v4 v6 = some q → WB p l e rm_X11_common s m args below meth c (MQ below (Qg D (some (.long q)) (w_X11_common cI cJ cZ cG) A) args s 0 0 A) D A 10 (w_X11_common cI cJ cZ cG) [(4, .long v4), (6, .long v6)] [] 17 := by
  obtain ⟨hx, hb, hr, hml, hown, hts, hlk, hgk, hA⟩ := id C
  have hK := hgk.1
  intro n
  induction n with
  | zero => intro v4 v6 h; cases h
  | succ n hk_17 =>
    intro v4 v6 h
    have h : g_X11_common_b17 N (f_X11_common_b17 N n) v4 v6 = some q := h
    generalize f_X11_common_b17 N n = k_17 at h hk_17
    unfold g_X11_common_b17 at h
    intro H locs ls hP hD hS hl
    refine lv_lload hx hb dX11_common_17 (lv_at hl 1 rfl) ?_
    refine lv_lconst (v := 0) hx hb dX11_common_19 (by decide) ?_
    refine W.lcmp hx hb dX11_common_20 ?_
    refine lv_if_eq (tgt := 42) hx hb dX11_common_21 (by decide) (fun c1 => ?_) (fun c1 => ?_)
    · have c1 := lc_eq.mp c1
      have h := ift c1 h
      refine lv_lload hx hb dX11_common_42 (lv_at hl 0 rfl) ?_
      obtain rfl := Option.some.inj h
      exact g_lret C hP hD hS dX11_common_44
    · have c1 := (not_congr lc_eq).mp c1
      have h := iff_ c1 h
      refine lv_lload hx hb dX11_common_24 (lv_at hl 0 rfl) ?_
      refine lv_lload hx hb dX11_common_26 (lv_at hl 1 rfl) ?_
      obtain ⟨z2, h⟩ := gDl_some h
      refine lv_lrem hx hb dX11_common_28 z2 ?_
      refine lv_lstore (lv' := [(8, .long (v4 - v4 / v6 * v6)), (4, .long v4), (6, .long v6)]) hx hb dX11_common_29 hl (by decide) rfl (fun ls hl => ?_)
      refine lv_lload hx hb dX11_common_31 (lv_at hl 2 rfl) ?_
      refine lv_lstore (lv' := [(4, .long v6), (8, .long (v4 - v4 / v6 * v6)), (6, .long v6)]) hx hb dX11_common_33 hl (by decide) rfl (fun ls hl => ?_)
      refine lv_lload hx hb dX11_common_35 (lv_at hl 1 rfl) ?_
      refine lv_lstore (lv' := [(6, .long (v4 - v4 / v6 * v6)), (4, .long v6), (8, .long (v4 - v4 / v6 * v6))]) hx hb dX11_common_37 hl (by decide) rfl (fun ls hl => ?_)
      refine lv_goto (tgt := 17) hx hb dX11_common_39 (by decide) ?_
      exact hk_17 v6 (v4 - v4 / v6 * v6) h H locs ls hP hD hS (lv_sub hl [1, 0] rfl)
set_option maxRecDepth 100000 in
set_option maxHeartbeats 4000000 in
theorem t_X11_common_b12 (C : cx D cI cJ cZ cG A cX11_common 10 (some .long) RX11 wsX11_common p s m args meth c) (N : Nat) (q : Int64) (k0 : Int64) (v2 : Int64) (h : f_X11_common_b12 N k0 v2 = some q) : WB p l e rm_X11_common s m args below meth c (MQ below (Qg D (some (.long q)) (w_X11_common cI cJ cZ cG) A) args s 0 0 A) D A 10 (w_X11_common cI cJ cZ cG) [(2, .long v2)] [.long k0] 12 := by
  obtain ⟨hx, hb, hr, hml, hown, hts, hlk, hgk, hA⟩ := id C
  have hK := hgk.1
  unfold f_X11_common_b12 at h
  intro H locs ls hP hD hS hl
  refine lv_lstore (lv' := [(4, .long k0), (2, .long v2)]) hx hb dX11_common_12 hl (by decide) rfl (fun ls hl => ?_)
  refine lv_lload_n hx hb dX11_common_14 rfl (lv_at hl 1 rfl) ?_
  refine lv_lstore (lv' := [(6, .long v2), (4, .long k0), (2, .long v2)]) hx hb dX11_common_15 hl (by decide) rfl (fun ls hl => ?_)
  exact t_X11_common_b17 C N q N k0 v2 h H locs ls hP hD hS (lv_sub hl [1, 0] rfl)
set_option maxRecDepth 100000 in
set_option maxHeartbeats 4000000 in
theorem c_X11_common (l : Launch) (D : va_G) (cI cJ cZ cG : ClassId) (p0 : Int64) (p2 : Int64) (N : Nat) (q : Int64) (h : f_X11_common N p0 p2 = some q) : gMet l yX11_common wsX11_common rm_X11_common [.long p0, .long p2] (w_X11_common cI cJ cZ cG) (w_X11_common cI cJ cZ cG) (some (.long q)) D cI cJ cZ cG := by
  refine g_enter (cc := cX11_common) (nL := 10) (ret := (some .long)) (by decide) rfl (Nat.le_of_ble_eq_true rfl) ?_
  intro p e s m below meth c A C H locs ls hP hD hS hl
  obtain ⟨hx, hb, hr, hml, hown, hts, hlk, hgk, hA⟩ := id C
  have hK := hgk.1
  have hl : lv_has ls 10 [(0, .long p0), (2, .long p2)] := hl
  unfold f_X11_common at h
  refine lv_lload_n hx hb dX11_common_0 rfl (lv_at hl 0 rfl) ?_
  refine lv_lconst (v := 0) hx hb dX11_common_1 (by decide) ?_
  refine W.lcmp hx hb dX11_common_2 ?_
  refine lv_if_ge (tgt := 11) hx hb dX11_common_3 (by decide) (fun c1 => ?_) (fun c1 => ?_)
  · have c1 := lc_ge.mp c1
    have h := ift c1 h
    refine lv_lload_n hx hb dX11_common_11 rfl (lv_at hl 0 rfl) ?_
    exact t_X11_common_b12 C N q p0 p2 h H locs ls hP hD hS (lv_sub hl [1] rfl)
  · have c1 := (not_congr lc_ge).mp c1
    have h := iff_ c1 h
    refine lv_lload_n hx hb dX11_common_6 rfl (lv_at hl 0 rfl) ?_
    refine lv_lneg hx hb dX11_common_7 ?_
    refine lv_goto (tgt := 12) hx hb dX11_common_8 (by decide) ?_
    exact t_X11_common_b12 C N q (-p0) p2 h H locs ls hP hD hS (lv_sub hl [1] rfl)
theorem in_X11_fraction_X11 : ∀ w ∈ wsX110, w ∈ wsX11_fraction := by decide +kernel
theorem mb_X11_fraction_0 : Cond.fieldLink RX11 16 "GuardDeskModel" "below" "I" ∈ wsX11_fraction := List.mem_of_getElem? (i := 1) rfl
set_option maxRecDepth 100000 in
set_option maxHeartbeats 4000000 in
theorem c_X11_fraction (l : Launch) (D : va_G) (cI cJ cZ cG : ClassId) (a_x a_x_now a_x_kept a_x_sortOf a_x_sizeOf a_x_sheets a_x_parts a_x_edge a_x_far a_x_lost : Nat) (x_isKept : Int32) (x_host : Int32) (x_below : Int32) (x_bestTarget : Int32) (x_high : Int64) (x_low : Int64) (x_whole : Int64) (x_tryHigh : Int64) (x_tryLow : Int64) (x_lots : Int32) (p1 : Int64) (p3 : Int64) (N : Nat) (q : Int32 × Int32) (h : f_X11_fraction N x_below p1 p3 = some q) : gMet l yX11_fraction wsX11_fraction rm_X11_fraction [.ref a_x, .long p1, .long p3] (w_X11_fraction cI cJ cZ cG a_x a_x_now a_x_kept a_x_sortOf a_x_sizeOf a_x_sheets a_x_parts a_x_edge a_x_far a_x_lost x_isKept x_host x_below x_bestTarget x_high x_low x_whole x_tryHigh x_tryLow x_lots) (w_X11_fraction cI cJ cZ cG a_x a_x_now a_x_kept a_x_sortOf a_x_sizeOf a_x_sheets a_x_parts a_x_edge a_x_far a_x_lost x_isKept x_host q.2 x_bestTarget x_high x_low x_whole x_tryHigh x_tryLow x_lots) (some (.int q.1)) D cI cJ cZ cG := by
  refine g_enter (cc := cX11_fraction) (nL := 7) (ret := (some .int)) (by decide) rfl (Nat.le_of_ble_eq_true rfl) ?_
  intro p e s m below meth c A C H locs ls hP hD hS hl
  obtain ⟨hx, hb, hr, hml, hown, hts, hlk, hgk, hA⟩ := id C
  have hK := hgk.1
  have hl : lv_has ls 7 [(0, .ref a_x), (1, .long p1), (3, .long p3)] := hl
  unfold f_X11_fraction at h
  refine lv_lload_n hx hb dX11_fraction_0 rfl (lv_at hl 1 rfl) ?_
  refine lv_lload_n hx hb dX11_fraction_1 rfl (lv_at hl 2 rfl) ?_
  obtain ⟨q1, e1, h⟩ := bd_some h
  refine g_callS0 (index := 65) (maxL := 10) (n := 2) (As := [.long p1, .long p3]) (rest := []) (st1 := [.long q1]) C hP hS hl.1 (c_X11_common l D cI cJ cZ cG p1 p3 N q1 e1) gX11_fraction_X11_common rfl rfl rfl (by decide +kernel) ⟨Nat.le_of_ble_eq_true rfl, Nat.le_of_ble_eq_true rfl⟩ rfl (Nat.le_of_ble_eq_true rfl) rfl dX11_fraction_2 rfl (fun H locs hP hS => ?_)
  refine lv_lstore (lv' := [(5, .long q1), (0, .ref a_x), (1, .long p1), (3, .long p3)]) hx hb dX11_fraction_5 hl (by decide) rfl (fun ls hl => ?_)
  refine lv_aload_n hx hb dX11_fraction_7 rfl (lv_at hl 1 rfl) ?_
  refine lv_lload_n hx hb dX11_fraction_8 rfl (lv_at hl 3 rfl) ?_
  refine lv_lload hx hb dX11_fraction_9 (lv_at hl 0 rfl) ?_
  obtain ⟨z2, h⟩ := gDl_some h
  refine lv_ldiv hx hb dX11_fraction_11 z2 ?_
  refine lv_l2i (v := (p3 / q1).toInt32) hx hb dX11_fraction_12 rfl ?_
  refine va_put (D := D) (ci := 11) (v := .int ((p3 / q1).toInt32)) (ty := .int) (C := RX11) (T := TX11) (N := 19) hx hb hts in_X11_fraction_X11 tyX11 tyX11_ok nmX11 hown hK hP hD hS 0 rfl rfl 4 (by decide) (hts _ mb_X11_fraction_0) (fun _ h9 => h9) rfl (by decide +kernel) rfl rfl (Nat.le_of_ble_eq_true rfl) dX11_fraction_13 (fun H locs hP hD hS => ?_)
  have hP : va_P D vwCl (w_X11_fraction cI cJ cZ cG a_x a_x_now a_x_kept a_x_sortOf a_x_sizeOf a_x_sheets a_x_parts a_x_edge a_x_far a_x_lost x_isKept x_host ((p3 / q1).toInt32) x_bestTarget x_high x_low x_whole x_tryHigh x_tryLow x_lots) H := hP
  have hD : va_D A (w_X11_fraction cI cJ cZ cG a_x a_x_now a_x_kept a_x_sortOf a_x_sizeOf a_x_sheets a_x_parts a_x_edge a_x_far a_x_lost x_isKept x_host ((p3 / q1).toInt32) x_bestTarget x_high x_low x_whole x_tryHigh x_tryLow x_lots) := hD
  refine lv_lload_n hx hb dX11_fraction_16 rfl (lv_at hl 2 rfl) ?_
  refine lv_lload hx hb dX11_fraction_17 (lv_at hl 0 rfl) ?_
  obtain ⟨z3, h⟩ := gDl_some h
  refine lv_ldiv hx hb dX11_fraction_19 z3 ?_
  refine lv_l2i (v := (p1 / q1).toInt32) hx hb dX11_fraction_20 rfl ?_
  obtain rfl := Option.some.inj h
  exact g_iret C hP hD hS dX11_fraction_21
theorem in_X11_atMost_X11 : ∀ w ∈ wsX110, w ∈ wsX11_atMost := by decide +kernel
theorem mb_X11_atMost_0 : Cond.fieldLink RX11 69 "GuardDeskModel" "tryLow" "J" ∈ wsX11_atMost := List.mem_of_getElem? (i := 1) rfl
theorem mb_X11_atMost_1 : Cond.fieldLink RX11 73 "GuardDeskModel" "tryHigh" "J" ∈ wsX11_atMost := List.mem_of_getElem? (i := 2) rfl
set_option maxRecDepth 100000 in
set_option maxHeartbeats 4000000 in
theorem c_X11_atMost (l : Launch) (D : va_G) (cI cJ cZ cG : ClassId) (a_x a_x_now a_x_kept a_x_sortOf a_x_sizeOf a_x_sheets a_x_parts a_x_edge a_x_far a_x_lost : Nat) (x_isKept : Int32) (x_host : Int32) (x_below : Int32) (x_bestTarget : Int32) (x_high : Int64) (x_low : Int64) (x_whole : Int64) (x_tryHigh : Int64) (x_tryLow : Int64) (x_lots : Int32) (p1 : Int64) (p3 : Int64) (q : Int64 × Int64) (h : f_X11_atMost x_tryHigh x_tryLow p1 p3 = q) : gMet l yX11_atMost wsX11_atMost rm_X11_atMost [.ref a_x, .long p1, .long p3] (w_X11_atMost cI cJ cZ cG a_x a_x_now a_x_kept a_x_sortOf a_x_sizeOf a_x_sheets a_x_parts a_x_edge a_x_far a_x_lost x_isKept x_host x_below x_bestTarget x_high x_low x_whole x_tryHigh x_tryLow x_lots) (w_X11_atMost cI cJ cZ cG a_x a_x_now a_x_kept a_x_sortOf a_x_sizeOf a_x_sheets a_x_parts a_x_edge a_x_far a_x_lost x_isKept x_host x_below x_bestTarget x_high x_low x_whole q.1 q.2 x_lots) none D cI cJ cZ cG := by
  refine g_enter (cc := cX11_atMost) (nL := 5) (ret := none) (by decide) rfl (Nat.le_of_ble_eq_true rfl) ?_
  intro p e s m below meth c A C H locs ls hP hD hS hl
  obtain ⟨hx, hb, hr, hml, hown, hts, hlk, hgk, hA⟩ := id C
  have hK := hgk.1
  have hl : lv_has ls 5 [(0, .ref a_x), (1, .long p1), (3, .long p3)] := hl
  unfold f_X11_atMost at h
  refine lv_lload_n hx hb dX11_atMost_0 rfl (lv_at hl 1 rfl) ?_
  refine lv_aload_n hx hb dX11_atMost_1 rfl (lv_at hl 0 rfl) ?_
  refine va_get (D := D) (ci := 11) (v := .long x_tryLow) (C := RX11) (T := TX11) (N := 19) hx hb hts in_X11_atMost_X11 hown hK hP 0 rfl rfl 14 (by decide) (hts _ mb_X11_atMost_0) (fun _ h9 => h9) rfl dX11_atMost_2 ?_
  refine lv_lmul hx hb dX11_atMost_5 ?_
  refine lv_aload_n hx hb dX11_atMost_6 rfl (lv_at hl 0 rfl) ?_
  refine va_get (D := D) (ci := 11) (v := .long x_tryHigh) (C := RX11) (T := TX11) (N := 19) hx hb hts in_X11_atMost_X11 hown hK hP 0 rfl rfl 13 (by decide) (hts _ mb_X11_atMost_1) (fun _ h9 => h9) rfl dX11_atMost_7 ?_
  refine lv_lload_n hx hb dX11_atMost_10 rfl (lv_at hl 2 rfl) ?_
  refine lv_lmul hx hb dX11_atMost_11 ?_
  refine W.lcmp hx hb dX11_atMost_12 ?_
  refine lv_if_ge (tgt := 26) hx hb dX11_atMost_13 (by decide) (fun c1 => ?_) (fun c1 => ?_)
  · have c1 := lc_ge.mp c1
    have h := ift c1 h
    obtain rfl := h
    exact g_vret C hP hD hS dX11_atMost_26
  · have c1 := (not_congr lc_ge).mp c1
    have h := iff_ c1 h
    refine lv_aload_n hx hb dX11_atMost_16 rfl (lv_at hl 0 rfl) ?_
    refine lv_lload_n hx hb dX11_atMost_17 rfl (lv_at hl 1 rfl) ?_
    refine va_put (D := D) (ci := 11) (v := .long p1) (ty := .long) (C := RX11) (T := TX11) (N := 19) hx hb hts in_X11_atMost_X11 tyX11 tyX11_ok nmX11 hown hK hP hD hS 0 rfl rfl 13 (by decide) (hts _ mb_X11_atMost_1) (fun _ h9 => h9) rfl (by decide +kernel) rfl rfl (Nat.le_of_ble_eq_true rfl) dX11_atMost_18 (fun H locs hP hD hS => ?_)
    have hP : va_P D vwCl (w_X11_atMost cI cJ cZ cG a_x a_x_now a_x_kept a_x_sortOf a_x_sizeOf a_x_sheets a_x_parts a_x_edge a_x_far a_x_lost x_isKept x_host x_below x_bestTarget x_high x_low x_whole p1 x_tryLow x_lots) H := hP
    have hD : va_D A (w_X11_atMost cI cJ cZ cG a_x a_x_now a_x_kept a_x_sortOf a_x_sizeOf a_x_sheets a_x_parts a_x_edge a_x_far a_x_lost x_isKept x_host x_below x_bestTarget x_high x_low x_whole p1 x_tryLow x_lots) := hD
    refine lv_aload_n hx hb dX11_atMost_21 rfl (lv_at hl 0 rfl) ?_
    refine lv_lload_n hx hb dX11_atMost_22 rfl (lv_at hl 2 rfl) ?_
    refine va_put (D := D) (ci := 11) (v := .long p3) (ty := .long) (C := RX11) (T := TX11) (N := 19) hx hb hts in_X11_atMost_X11 tyX11 tyX11_ok nmX11 hown hK hP hD hS 0 rfl rfl 14 (by decide) (hts _ mb_X11_atMost_0) (fun _ h9 => h9) rfl (by decide +kernel) rfl rfl (Nat.le_of_ble_eq_true rfl) dX11_atMost_23 (fun H locs hP hD hS => ?_)
    have hP : va_P D vwCl (w_X11_atMost cI cJ cZ cG a_x a_x_now a_x_kept a_x_sortOf a_x_sizeOf a_x_sheets a_x_parts a_x_edge a_x_far a_x_lost x_isKept x_host x_below x_bestTarget x_high x_low x_whole p1 p3 x_lots) H := hP
    have hD : va_D A (w_X11_atMost cI cJ cZ cG a_x a_x_now a_x_kept a_x_sortOf a_x_sizeOf a_x_sheets a_x_parts a_x_edge a_x_far a_x_lost x_isKept x_host x_below x_bestTarget x_high x_low x_whole p1 p3 x_lots) := hD
    obtain rfl := h
    exact g_vret C hP hD hS dX11_atMost_26
theorem in_X11_find_X11 : ∀ w ∈ wsX110, w ∈ wsX11_find := by decide +kernel
theorem mb_X11_find_0 : Cond.constantLong RX11 76 (60) ∈ wsX11_find := List.mem_of_getElem? (i := 3) rfl
theorem mb_X11_find_1 : Cond.fieldLink RX11 9 "GuardDeskModel" "now" "[I" ∈ wsX11_find := List.mem_of_getElem? (i := 1) rfl
theorem mb_X11_find_2 : Cond.fieldLink RX11 73 "GuardDeskModel" "tryHigh" "J" ∈ wsX11_find := List.mem_of_getElem? (i := 2) rfl
theorem mb_X11_find_3 : Cond.fieldLink RX11 69 "GuardDeskModel" "tryLow" "J" ∈ wsX11_find := List.mem_of_getElem? (i := 4) rfl
set_option maxRecDepth 100000 in
set_option maxHeartbeats 4000000 in
theorem t_X11_find_b162 (C : cx D cI cJ cZ cG A cX11_find 13 (some .boolean) RX11 wsX11_find p s m args meth c) (a_x a_x_now a_x_kept a_x_sortOf a_x_sizeOf a_x_sheets a_x_parts a_x_edge a_x_far a_x_lost : Nat) (x_isKept : Int32) (x_host : Int32) (x_below : Int32) (x_bestTarget : Int32) (x_high : Int64) (x_low : Int64) (x_whole : Int64) (x_lots : Int32) (x_now : (Nat → Int32)) (N : Nat) (q : Int32 × Int64 × Int64) (x_tryHigh : Int64) (x_tryLow : Int64) (v1 : Int32) (v2 : Int32) (v3 : Int64) (v5 : Int32) (k_120 : Int64 → Int64 → Int32 → Option (Int32 × Int64 × Int64)) (hk_120 : ∀ (x_tryHigh : Int64) (x_tryLow : Int64) (v5 : Int32), k_120 x_tryHigh x_tryLow v5 = some q → WB p l e rm_X11_find s m args below meth c (MQ below (Qg D (some (.int q.1)) (w_X11_find cI cJ cZ cG a_x a_x_now a_x_kept a_x_sortOf a_x_sizeOf a_x_sheets a_x_parts a_x_edge a_x_far a_x_lost x_isKept x_host x_below x_bestTarget x_high x_low x_whole q.2.1 q.2.2 x_lots x_now) A) args s 0 0 A) D A 13 (w_X11_find cI cJ cZ cG a_x a_x_now a_x_kept a_x_sortOf a_x_sizeOf a_x_sheets a_x_parts a_x_edge a_x_far a_x_lost x_isKept x_host x_below x_bestTarget x_high x_low x_whole x_tryHigh x_tryLow x_lots x_now) [(0, .ref a_x), (1, .int v1), (2, .int v2), (3, .long v3), (5, .int v5)] [] 120) : ∀ (n : Nat) (v6 : Int64) (v8 : Int64) (v10 : Int32), f_X11_find_b162 N x_now k_120 x_tryHigh x_tryLow v1 v2 v3 v5 n v6 v8 v10 = some q → WB p l e rm_X11_find s m args below meth c (MQ below (Qg D (some (.int q.1)) (w_X11_find cI cJ cZ cG a_x a_x_now a_x_kept a_x_sortOf a_x_sizeOf a_x_sheets a_x_parts a_x_edge a_x_far a_x_lost x_isKept x_host x_below x_bestTarget x_high x_low x_whole q.2.1 q.2.2 x_lots x_now) A) args s 0 0 A) D A 13 (w_X11_find cI cJ cZ cG a_x a_x_now a_x_kept a_x_sortOf a_x_sizeOf a_x_sheets a_x_parts a_x_edge a_x_far a_x_lost x_isKept x_host x_below x_bestTarget x_high x_low x_whole x_tryHigh x_tryLow x_lots x_now) [(0, .ref a_x), (1, .int v1), (2, .int v2), (3, .long v3), (5, .int v5), (6, .long v6), (8, .long v8), (10, .int v10)] [] 162 := by
  obtain ⟨hx, hb, hr, hml, hown, hts, hlk, hgk, hA⟩ := id C
  have hK := hgk.1
  intro n
  induction n with
  | zero => intro v6 v8 v10 h; cases h
  | succ n hk_162 =>
    intro v6 v8 v10 h
    have h : g_X11_find_b162 N x_now k_120 x_tryHigh x_tryLow v1 v2 v3 v5 (f_X11_find_b162 N x_now k_120 x_tryHigh x_tryLow v1 v2 v3 v5 n) v6 v8 v10 = some q := h
    generalize f_X11_find_b162 N x_now k_120 x_tryHigh x_tryLow v1 v2 v3 v5 n = k_162 at h hk_162
    unfold g_X11_find_b162 at h
    intro H locs ls hP hD hS hl
    refine lv_iload hx hb dX11_find_162 (lv_at hl 7 rfl) ?_
    refine lv_iload_n hx hb dX11_find_164 rfl (lv_at hl 2 rfl) ?_
    refine lv_icmp_ge (tgt := 268) hx hb dX11_find_165 (by decide) (fun c1 => ?_) (fun c1 => ?_)
    · have h := ift c1 h
      refine lv_aload_n hx hb dX11_find_268 rfl (lv_at hl 0 rfl) ?_
      refine lv_lload hx hb dX11_find_269 (lv_at hl 5 rfl) ?_
      refine lv_lload hx hb dX11_find_271 (lv_at hl 6 rfl) ?_
      refine g_callV (index := 78) (maxL := 5) (n := 2) (As := [.long v6, .long v8]) (rest := []) (st1 := []) (C1 := RX11) (T1 := TX11) (N1 := 19) (ws2 := (w_X11_find cI cJ cZ cG a_x a_x_now a_x_kept a_x_sortOf a_x_sizeOf a_x_sheets a_x_parts a_x_edge a_x_far a_x_lost x_isKept x_host x_below x_bestTarget x_high x_low x_whole ((f_X11_atMost x_tryHigh x_tryLow v6 v8).1) ((f_X11_atMost x_tryHigh x_tryLow v6 v8).2) x_lots x_now)) C hP hD hS hl.1 11 0 (c_X11_atMost l D cI cJ cZ cG a_x a_x_now a_x_kept a_x_sortOf a_x_sizeOf a_x_sheets a_x_parts a_x_edge a_x_far a_x_lost x_isKept x_host x_below x_bestTarget x_high x_low x_whole x_tryHigh x_tryLow x_lots v6 v8 _ rfl) gX11_find_X11_atMost rfl rfl rfl (by decide +kernel) ⟨Nat.le_of_ble_eq_true rfl, Nat.le_of_ble_eq_true rfl⟩ rfl rfl rfl (Nat.le_of_ble_eq_true rfl) rfl dX11_find_273 [0] [1] [1, 0] rfl rfl rfl rfl (by decide) rfl rfl rfl (fun H locs hP hD hS => ?_)
      refine lv_iinc (v := v5 + 1) (lv' := [(5, .int (v5 + 1)), (0, .ref a_x), (1, .int v1), (2, .int v2), (3, .long v3), (6, .long v6), (8, .long v8), (10, .int v10)]) hx hb dX11_find_276 hl (k := 4) rfl rfl (by decide) rfl (fun ls hl => ?_)
      refine lv_goto (tgt := 120) hx hb dX11_find_279 (by decide) ?_
      exact hk_120 ((f_X11_atMost x_tryHigh x_tryLow v6 v8).1) ((f_X11_atMost x_tryHigh x_tryLow v6 v8).2) (v5 + 1) h H locs ls hP hD hS (lv_sub hl [1, 2, 3, 4, 0] rfl)
    · have h := iff_ c1 h
      refine lv_iload hx hb dX11_find_168 (lv_at hl 7 rfl) ?_
      refine lv_iload_n hx hb dX11_find_170 rfl (lv_at hl 1 rfl) ?_
      refine lv_icmp_ne (tgt := 177) hx hb dX11_find_171 (by decide) (fun c2 => ?_) (fun c2 => ?_)
      · have h := iff_ c2 h
        refine lv_ldc2 (v := 60) hx hb hown (hts _ mb_X11_find_0) dX11_find_177 ?_
        refine lv_aload_n hx hb dX11_find_180 rfl (lv_at hl 0 rfl) ?_
        refine va_get (D := D) (ci := 11) (v := .ref a_x_now) (C := RX11) (T := TX11) (N := 19) hx hb hts in_X11_find_X11 hown hK hP 0 rfl rfl 0 (by decide) (hts _ mb_X11_find_1) (fun _ h9 => h9) rfl dX11_find_181 ?_
        refine lv_bipush (v := 45) hx hb dX11_find_184 (by decide) ?_
        refine lv_iload hx hb dX11_find_186 (lv_at hl 7 rfl) ?_
        refine lv_iadd hx hb dX11_find_188 ?_
        obtain ⟨i3, h⟩ := gI_some h
        refine va_iald hx hb hK hP 1 0 rfl rfl i3 dX11_find_189 ?_
        refine lv_i2l (v := (x_now (45 + v10).toNatClampNeg).toInt64) hx hb dX11_find_190 rfl ?_
        obtain ⟨z4, h⟩ := gDl_some h
        refine lv_ldiv hx hb dX11_find_191 z4 ?_
        refine lv_lstore (lv' := [(11, .long (60 / ((x_now (45 + v10).toNatClampNeg).toInt64))), (0, .ref a_x), (1, .int v1), (2, .int v2), (3, .long v3), (5, .int v5), (6, .long v6), (8, .long v8), (10, .int v10)]) hx hb dX11_find_192 hl (by decide) rfl (fun ls hl => ?_)
        refine lv_iload hx hb dX11_find_194 (lv_at hl 5 rfl) ?_
        refine lv_iload hx hb dX11_find_196 (lv_at hl 8 rfl) ?_
        refine lv_ishr hx hb dX11_find_198 ?_
        refine lv_iconst (v := 1) hx hb dX11_find_199 (by decide) ?_
        refine lv_iand hx hb dX11_find_200 ?_
        refine lv_iconst (v := 1) hx hb dX11_find_201 (by decide) ?_
        refine lv_icmp_ne (tgt := 246) hx hb dX11_find_202 (by decide) (fun c5 => ?_) (fun c5 => ?_)
        · have h := iff_ c5 h
          refine lv_lload hx hb dX11_find_246 (lv_at hl 6 rfl) ?_
          refine lv_aload_n hx hb dX11_find_248 rfl (lv_at hl 1 rfl) ?_
          refine va_get (D := D) (ci := 11) (v := .ref a_x_now) (C := RX11) (T := TX11) (N := 19) hx hb hts in_X11_find_X11 hown hK hP 0 rfl rfl 0 (by decide) (hts _ mb_X11_find_1) (fun _ h9 => h9) rfl dX11_find_249 ?_
          refine lv_bipush (v := 55) hx hb dX11_find_252 (by decide) ?_
          refine lv_iload hx hb dX11_find_254 (lv_at hl 8 rfl) ?_
          refine lv_iadd hx hb dX11_find_256 ?_
          obtain ⟨i6, h⟩ := gI_some h
          refine va_iald hx hb hK hP 1 0 rfl rfl i6 dX11_find_257 ?_
          refine lv_i2l (v := (x_now (55 + v10).toNatClampNeg).toInt64) hx hb dX11_find_258 rfl ?_
          refine lv_lsub hx hb dX11_find_259 ?_
          refine lv_lstore (lv' := [(6, .long (v6 - ((x_now (55 + v10).toNatClampNeg).toInt64))), (11, .long (60 / ((x_now (45 + v10).toNatClampNeg).toInt64))), (0, .ref a_x), (1, .int v1), (2, .int v2), (3, .long v3), (5, .int v5), (8, .long v8), (10, .int v10)]) hx hb dX11_find_260 hl (by decide) rfl (fun ls hl => ?_)
          refine lv_iinc (v := v10 + 1) (lv' := [(10, .int (v10 + 1)), (6, .long (v6 - ((x_now (55 + v10).toNatClampNeg).toInt64))), (11, .long (60 / ((x_now (45 + v10).toNatClampNeg).toInt64))), (0, .ref a_x), (1, .int v1), (2, .int v2), (3, .long v3), (5, .int v5), (8, .long v8)]) hx hb dX11_find_262 hl (k := 8) rfl rfl (by decide) rfl (fun ls hl => ?_)
          refine lv_goto (tgt := 162) hx hb dX11_find_265 (by decide) ?_
          exact hk_162 (v6 - ((x_now (55 + v10).toNatClampNeg).toInt64)) v8 (v10 + 1) h H locs ls hP hD hS (lv_sub hl [3, 4, 5, 6, 7, 1, 8, 0] rfl)
        · have h := ift c5 h
          refine lv_lload hx hb dX11_find_205 (lv_at hl 6 rfl) ?_
          refine lv_lload hx hb dX11_find_207 (lv_at hl 0 rfl) ?_
          refine lv_aload_n hx hb dX11_find_209 rfl (lv_at hl 1 rfl) ?_
          refine va_get (D := D) (ci := 11) (v := .ref a_x_now) (C := RX11) (T := TX11) (N := 19) hx hb hts in_X11_find_X11 hown hK hP 0 rfl rfl 0 (by decide) (hts _ mb_X11_find_1) (fun _ h9 => h9) rfl dX11_find_210 ?_
          refine lv_bipush (v := 35) hx hb dX11_find_213 (by decide) ?_
          refine lv_iload hx hb dX11_find_215 (lv_at hl 8 rfl) ?_
          refine lv_iadd hx hb dX11_find_217 ?_
          obtain ⟨i7, h⟩ := gI_some h
          refine va_iald hx hb hK hP 1 0 rfl rfl i7 dX11_find_218 ?_
          refine lv_aload_n hx hb dX11_find_219 rfl (lv_at hl 1 rfl) ?_
          refine va_get (D := D) (ci := 11) (v := .ref a_x_now) (C := RX11) (T := TX11) (N := 19) hx hb hts in_X11_find_X11 hown hK hP 0 rfl rfl 0 (by decide) (hts _ mb_X11_find_1) (fun _ h9 => h9) rfl dX11_find_220 ?_
          refine lv_bipush (v := 35) hx hb dX11_find_223 (by decide) ?_
          refine lv_iload_n hx hb dX11_find_225 rfl (lv_at hl 2 rfl) ?_
          refine lv_iadd hx hb dX11_find_226 ?_
          obtain ⟨i8, h⟩ := gI_some h
          refine va_iald hx hb hK hP 1 0 rfl rfl i8 dX11_find_227 ?_
          refine lv_isub hx hb dX11_find_228 ?_
          refine lv_i2l (v := ((x_now (35 + v10).toNatClampNeg) - (x_now (35 + v1).toNatClampNeg)).toInt64) hx hb dX11_find_229 rfl ?_
          refine lv_lmul hx hb dX11_find_230 ?_
          refine lv_lsub hx hb dX11_find_231 ?_
          refine lv_lstore (lv' := [(6, .long (v6 - ((60 / ((x_now (45 + v10).toNatClampNeg).toInt64)) * (((x_now (35 + v10).toNatClampNeg) - (x_now (35 + v1).toNatClampNeg)).toInt64)))), (11, .long (60 / ((x_now (45 + v10).toNatClampNeg).toInt64))), (0, .ref a_x), (1, .int v1), (2, .int v2), (3, .long v3), (5, .int v5), (8, .long v8), (10, .int v10)]) hx hb dX11_find_232 hl (by decide) rfl (fun ls hl => ?_)
          refine lv_lload hx hb dX11_find_234 (lv_at hl 7 rfl) ?_
          refine lv_lload hx hb dX11_find_236 (lv_at hl 1 rfl) ?_
          refine lv_lload_n hx hb dX11_find_238 rfl (lv_at hl 5 rfl) ?_
          refine lv_lmul hx hb dX11_find_239 ?_
          refine lv_ladd hx hb dX11_find_240 ?_
          refine lv_lstore (lv' := [(8, .long (v8 + ((60 / ((x_now (45 + v10).toNatClampNeg).toInt64)) * v3))), (6, .long (v6 - ((60 / ((x_now (45 + v10).toNatClampNeg).toInt64)) * (((x_now (35 + v10).toNatClampNeg) - (x_now (35 + v1).toNatClampNeg)).toInt64)))), (11, .long (60 / ((x_now (45 + v10).toNatClampNeg).toInt64))), (0, .ref a_x), (1, .int v1), (2, .int v2), (3, .long v3), (5, .int v5), (10, .int v10)]) hx hb dX11_find_241 hl (by decide) rfl (fun ls hl => ?_)
          refine lv_goto (tgt := 262) hx hb dX11_find_243 (by decide) ?_
          refine lv_iinc (v := v10 + 1) (lv' := [(10, .int (v10 + 1)), (8, .long (v8 + ((60 / ((x_now (45 + v10).toNatClampNeg).toInt64)) * v3))), (6, .long (v6 - ((60 / ((x_now (45 + v10).toNatClampNeg).toInt64)) * (((x_now (35 + v10).toNatClampNeg) - (x_now (35 + v1).toNatClampNeg)).toInt64)))), (11, .long (60 / ((x_now (45 + v10).toNatClampNeg).toInt64))), (0, .ref a_x), (1, .int v1), (2, .int v2), (3, .long v3), (5, .int v5)]) hx hb dX11_find_262 hl (k := 8) rfl rfl (by decide) rfl (fun ls hl => ?_)
          refine lv_goto (tgt := 162) hx hb dX11_find_265 (by decide) ?_
          exact hk_162 (v6 - ((60 / ((x_now (45 + v10).toNatClampNeg).toInt64)) * (((x_now (35 + v10).toNatClampNeg) - (x_now (35 + v1).toNatClampNeg)).toInt64))) (v8 + ((60 / ((x_now (45 + v10).toNatClampNeg).toInt64)) * v3)) (v10 + 1) h H locs ls hP hD hS (lv_sub hl [4, 5, 6, 7, 8, 2, 1, 0] rfl)
      · have h := ift c2 h
        refine lv_goto (tgt := 262) hx hb dX11_find_174 (by decide) ?_
        refine lv_iinc (v := v10 + 1) (lv' := [(10, .int (v10 + 1)), (0, .ref a_x), (1, .int v1), (2, .int v2), (3, .long v3), (5, .int v5), (6, .long v6), (8, .long v8)]) hx hb dX11_find_262 hl (k := 7) rfl rfl (by decide) rfl (fun ls hl => ?_)
        refine lv_goto (tgt := 162) hx hb dX11_find_265 (by decide) ?_
        exact hk_162 v6 v8 (v10 + 1) h H locs ls hP hD hS (lv_sub hl [1, 2, 3, 4, 5, 6, 7, 0] rfl)
set_option maxRecDepth 100000 in
set_option maxHeartbeats 4000000 in
theorem t_X11_find_b120 (C : cx D cI cJ cZ cG A cX11_find 13 (some .boolean) RX11 wsX11_find p s m args meth c) (a_x a_x_now a_x_kept a_x_sortOf a_x_sizeOf a_x_sheets a_x_parts a_x_edge a_x_far a_x_lost : Nat) (x_isKept : Int32) (x_host : Int32) (x_below : Int32) (x_bestTarget : Int32) (x_high : Int64) (x_low : Int64) (x_whole : Int64) (x_lots : Int32) (x_now : (Nat → Int32)) (N : Nat) (q : Int32 × Int64 × Int64) (v1 : Int32) (v2 : Int32) (v3 : Int64) : ∀ (n : Nat) (x_tryHigh : Int64) (x_tryLow : Int64) (v5 : Int32), f_X11_find_b120 N x_now v1 v2 v3 n x_tryHigh x_tryLow v5 = some q → WB p l e rm_X11_find s m args below meth c (MQ below (Qg D (some (.int q.1)) (w_X11_find cI cJ cZ cG a_x a_x_now a_x_kept a_x_sortOf a_x_sizeOf a_x_sheets a_x_parts a_x_edge a_x_far a_x_lost x_isKept x_host x_below x_bestTarget x_high x_low x_whole q.2.1 q.2.2 x_lots x_now) A) args s 0 0 A) D A 13 (w_X11_find cI cJ cZ cG a_x a_x_now a_x_kept a_x_sortOf a_x_sizeOf a_x_sheets a_x_parts a_x_edge a_x_far a_x_lost x_isKept x_host x_below x_bestTarget x_high x_low x_whole x_tryHigh x_tryLow x_lots x_now) [(0, .ref a_x), (1, .int v1), (2, .int v2), (3, .long v3), (5, .int v5)] [] 120 := by
  obtain ⟨hx, hb, hr, hml, hown, hts, hlk, hgk, hA⟩ := id C
  have hK := hgk.1
  intro n
  induction n with
  | zero => intro x_tryHigh x_tryLow v5 h; cases h
  | succ n hk_120 =>
    intro x_tryHigh x_tryLow v5 h
    have h : g_X11_find_b120 N x_now v1 v2 v3 (f_X11_find_b120 N x_now v1 v2 v3 n) x_tryHigh x_tryLow v5 = some q := h
    generalize f_X11_find_b120 N x_now v1 v2 v3 n = k_120 at h hk_120
    unfold g_X11_find_b120 at h
    intro H locs ls hP hD hS hl
    refine lv_iload hx hb dX11_find_120 (lv_at hl 4 rfl) ?_
    refine lv_iconst (v := 1) hx hb dX11_find_122 (by decide) ?_
    refine lv_iload_n hx hb dX11_find_123 rfl (lv_at hl 2 rfl) ?_
    refine lv_ishl hx hb dX11_find_124 ?_
    refine lv_icmp_ge (tgt := 282) hx hb dX11_find_125 (by decide) (fun c1 => ?_) (fun c1 => ?_)
    · have h := ift c1 h
      refine lv_aload_n hx hb dX11_find_282 rfl (lv_at hl 0 rfl) ?_
      refine va_get (D := D) (ci := 11) (v := .long x_tryHigh) (C := RX11) (T := TX11) (N := 19) hx hb hts in_X11_find_X11 hown hK hP 0 rfl rfl 13 (by decide) (hts _ mb_X11_find_2) (fun _ h9 => h9) rfl dX11_find_283 ?_
      refine lv_ldc2 (v := 60) hx hb hown (hts _ mb_X11_find_0) dX11_find_286 ?_
      refine lv_lmul hx hb dX11_find_289 ?_
      refine lv_aload_n hx hb dX11_find_290 rfl (lv_at hl 0 rfl) ?_
      refine va_get (D := D) (ci := 11) (v := .ref a_x_now) (C := RX11) (T := TX11) (N := 19) hx hb hts in_X11_find_X11 hown hK hP 0 rfl rfl 0 (by decide) (hts _ mb_X11_find_1) (fun _ h9 => h9) rfl dX11_find_291 ?_
      refine lv_bipush (v := 55) hx hb dX11_find_294 (by decide) ?_
      refine lv_iload_n hx hb dX11_find_296 rfl (lv_at hl 1 rfl) ?_
      refine lv_iadd hx hb dX11_find_297 ?_
      obtain ⟨i2, h⟩ := gI_some h
      refine va_iald hx hb hK hP 1 0 rfl rfl i2 dX11_find_298 ?_
      refine lv_i2l (v := (x_now (55 + v1).toNatClampNeg).toInt64) hx hb dX11_find_299 rfl ?_
      refine lv_aload_n hx hb dX11_find_300 rfl (lv_at hl 0 rfl) ?_
      refine va_get (D := D) (ci := 11) (v := .long x_tryLow) (C := RX11) (T := TX11) (N := 19) hx hb hts in_X11_find_X11 hown hK hP 0 rfl rfl 14 (by decide) (hts _ mb_X11_find_3) (fun _ h9 => h9) rfl dX11_find_301 ?_
      refine lv_lmul hx hb dX11_find_304 ?_
      refine W.lcmp hx hb dX11_find_305 ?_
      refine lv_if_lt (tgt := 313) hx hb dX11_find_306 (by decide) (fun c3 => ?_) (fun c3 => ?_)
      · have c3 := lc_lt.mp c3
        have h := ift c3 h
        refine lv_iconst (v := 0) hx hb dX11_find_313 (by decide) ?_
        obtain rfl := Option.some.inj h
        exact g_zret C hP hD hS (nz_b (Or.inl rfl)) dX11_find_314
      · have c3 := (not_congr lc_lt).mp c3
        have h := iff_ c3 h
        refine lv_iconst (v := 1) hx hb dX11_find_309 (by decide) ?_
        refine lv_goto (tgt := 314) hx hb dX11_find_310 (by decide) ?_
        obtain rfl := Option.some.inj h
        exact g_zret C hP hD hS (nz_b (Or.inr rfl)) dX11_find_314
    · have h := iff_ c1 h
      refine lv_iload hx hb dX11_find_128 (lv_at hl 4 rfl) ?_
      refine lv_iload_n hx hb dX11_find_130 rfl (lv_at hl 1 rfl) ?_
      refine lv_ishr hx hb dX11_find_131 ?_
      refine lv_iconst (v := 1) hx hb dX11_find_132 (by decide) ?_
      refine lv_iand hx hb dX11_find_133 ?_
      refine lv_iconst (v := 1) hx hb dX11_find_134 (by decide) ?_
      refine lv_icmp_ne (tgt := 141) hx hb dX11_find_135 (by decide) (fun c4 => ?_) (fun c4 => ?_)
      · have h := iff_ c4 h
        refine lv_ldc2 (v := 60) hx hb hown (hts _ mb_X11_find_0) dX11_find_141 ?_
        refine lv_aload_n hx hb dX11_find_144 rfl (lv_at hl 0 rfl) ?_
        refine va_get (D := D) (ci := 11) (v := .ref a_x_now) (C := RX11) (T := TX11) (N := 19) hx hb hts in_X11_find_X11 hown hK hP 0 rfl rfl 0 (by decide) (hts _ mb_X11_find_1) (fun _ h9 => h9) rfl dX11_find_145 ?_
        refine lv_iconst (v := 1) hx hb dX11_find_148 (by decide) ?_
        refine va_iald hx hb hK hP 1 0 rfl rfl (g_lit (i := 1) (n := 194) (by decide)) dX11_find_149 ?_
        refine W.eq (g2 := F0 m 150 ls [.int (x_now 1), .long 60]) rfl ?_
        refine lv_i2l (v := (x_now 1).toInt64) hx hb dX11_find_150 rfl ?_
        refine lv_lmul hx hb dX11_find_151 ?_
        refine lv_lstore (lv' := [(6, .long (60 * ((x_now 1).toInt64))), (0, .ref a_x), (1, .int v1), (2, .int v2), (3, .long v3), (5, .int v5)]) hx hb dX11_find_152 hl (by decide) rfl (fun ls hl => ?_)
        refine lv_ldc2 (v := 60) hx hb hown (hts _ mb_X11_find_0) dX11_find_154 ?_
        refine lv_lstore (lv' := [(8, .long 60), (6, .long (60 * ((x_now 1).toInt64))), (0, .ref a_x), (1, .int v1), (2, .int v2), (3, .long v3), (5, .int v5)]) hx hb dX11_find_157 hl (by decide) rfl (fun ls hl => ?_)
        refine lv_iconst (v := 0) hx hb dX11_find_159 (by decide) ?_
        refine lv_istore (lv' := [(10, .int 0), (8, .long 60), (6, .long (60 * ((x_now 1).toInt64))), (0, .ref a_x), (1, .int v1), (2, .int v2), (3, .long v3), (5, .int v5)]) hx hb dX11_find_160 hl (by decide) rfl (fun ls hl => ?_)
        exact t_X11_find_b162 C a_x a_x_now a_x_kept a_x_sortOf a_x_sizeOf a_x_sheets a_x_parts a_x_edge a_x_far a_x_lost x_isKept x_host x_below x_bestTarget x_high x_low x_whole x_lots x_now N q x_tryHigh x_tryLow v1 v2 v3 v5 k_120 hk_120 N (60 * ((x_now 1).toInt64)) 60 0 h H locs ls hP hD hS (lv_sub hl [3, 4, 5, 6, 7, 2, 1, 0] rfl)
      · have h := ift c4 h
        refine lv_goto (tgt := 276) hx hb dX11_find_138 (by decide) ?_
        refine lv_iinc (v := v5 + 1) (lv' := [(5, .int (v5 + 1)), (0, .ref a_x), (1, .int v1), (2, .int v2), (3, .long v3)]) hx hb dX11_find_276 hl (k := 4) rfl rfl (by decide) rfl (fun ls hl => ?_)
        refine lv_goto (tgt := 120) hx hb dX11_find_279 (by decide) ?_
        exact hk_120 x_tryHigh x_tryLow (v5 + 1) h H locs ls hP hD hS (lv_sub hl [1, 2, 3, 4, 0] rfl)
set_option maxRecDepth 100000 in
set_option maxHeartbeats 4000000 in
theorem t_X11_find_b42 (C : cx D cI cJ cZ cG A cX11_find 13 (some .boolean) RX11 wsX11_find p s m args meth c) (a_x a_x_now a_x_kept a_x_sortOf a_x_sizeOf a_x_sheets a_x_parts a_x_edge a_x_far a_x_lost : Nat) (x_isKept : Int32) (x_host : Int32) (x_below : Int32) (x_bestTarget : Int32) (x_high : Int64) (x_low : Int64) (x_whole : Int64) (x_lots : Int32) (x_now : (Nat → Int32)) (N : Nat) (q : Int32 × Int64 × Int64) (v1 : Int32) (v2 : Int32) (v3 : Int64) : ∀ (n : Nat) (x_tryHigh : Int64) (x_tryLow : Int64) (v5 : Int32), f_X11_find_b42 N x_now v1 v2 v3 n x_tryHigh x_tryLow v5 = some q → WB p l e rm_X11_find s m args below meth c (MQ below (Qg D (some (.int q.1)) (w_X11_find cI cJ cZ cG a_x a_x_now a_x_kept a_x_sortOf a_x_sizeOf a_x_sheets a_x_parts a_x_edge a_x_far a_x_lost x_isKept x_host x_below x_bestTarget x_high x_low x_whole q.2.1 q.2.2 x_lots x_now) A) args s 0 0 A) D A 13 (w_X11_find cI cJ cZ cG a_x a_x_now a_x_kept a_x_sortOf a_x_sizeOf a_x_sheets a_x_parts a_x_edge a_x_far a_x_lost x_isKept x_host x_below x_bestTarget x_high x_low x_whole x_tryHigh x_tryLow x_lots x_now) [(0, .ref a_x), (1, .int v1), (2, .int v2), (3, .long v3), (5, .int v5)] [] 42 := by
  obtain ⟨hx, hb, hr, hml, hown, hts, hlk, hgk, hA⟩ := id C
  have hK := hgk.1
  intro n
  induction n with
  | zero => intro x_tryHigh x_tryLow v5 h; cases h
  | succ n hk_42 =>
    intro x_tryHigh x_tryLow v5 h
    have h : g_X11_find_b42 N x_now v1 v2 v3 (f_X11_find_b42 N x_now v1 v2 v3 n) x_tryHigh x_tryLow v5 = some q := h
    generalize f_X11_find_b42 N x_now v1 v2 v3 n = k_42 at h hk_42
    unfold g_X11_find_b42 at h
    intro H locs ls hP hD hS hl
    refine lv_iload hx hb dX11_find_42 (lv_at hl 4 rfl) ?_
    refine lv_iload_n hx hb dX11_find_44 rfl (lv_at hl 2 rfl) ?_
    refine lv_icmp_ge (tgt := 117) hx hb dX11_find_45 (by decide) (fun c1 => ?_) (fun c1 => ?_)
    · have h := ift c1 h
      refine lv_iconst (v := 0) hx hb dX11_find_117 (by decide) ?_
      refine lv_istore (lv' := [(5, .int 0), (0, .ref a_x), (1, .int v1), (2, .int v2), (3, .long v3)]) hx hb dX11_find_118 hl (by decide) rfl (fun ls hl => ?_)
      exact t_X11_find_b120 C a_x a_x_now a_x_kept a_x_sortOf a_x_sizeOf a_x_sheets a_x_parts a_x_edge a_x_far a_x_lost x_isKept x_host x_below x_bestTarget x_high x_low x_whole x_lots x_now N q v1 v2 v3 N x_tryHigh x_tryLow 0 h H locs ls hP hD hS (lv_sub hl [1, 2, 3, 4, 0] rfl)
    · have h := iff_ c1 h
      refine lv_iload hx hb dX11_find_48 (lv_at hl 4 rfl) ?_
      refine lv_iload_n hx hb dX11_find_50 rfl (lv_at hl 1 rfl) ?_
      refine lv_icmp_eq (tgt := 111) hx hb dX11_find_51 (by decide) (fun c2 => ?_) (fun c2 => ?_)
      · have h := ift c2 h
        refine lv_iinc (v := v5 + 1) (lv' := [(5, .int (v5 + 1)), (0, .ref a_x), (1, .int v1), (2, .int v2), (3, .long v3)]) hx hb dX11_find_111 hl (k := 4) rfl rfl (by decide) rfl (fun ls hl => ?_)
        refine lv_goto (tgt := 42) hx hb dX11_find_114 (by decide) ?_
        exact hk_42 x_tryHigh x_tryLow (v5 + 1) h H locs ls hP hD hS (lv_sub hl [1, 2, 3, 4, 0] rfl)
      · have h := iff_ c2 h
        refine lv_aload_n hx hb dX11_find_54 rfl (lv_at hl 0 rfl) ?_
        refine lv_ldc2 (v := 60) hx hb hown (hts _ mb_X11_find_0) dX11_find_55 ?_
        refine lv_aload_n hx hb dX11_find_58 rfl (lv_at hl 0 rfl) ?_
        refine va_get (D := D) (ci := 11) (v := .ref a_x_now) (C := RX11) (T := TX11) (N := 19) hx hb hts in_X11_find_X11 hown hK hP 0 rfl rfl 0 (by decide) (hts _ mb_X11_find_1) (fun _ h9 => h9) rfl dX11_find_59 ?_
        refine lv_bipush (v := 35) hx hb dX11_find_62 (by decide) ?_
        refine lv_iload_n hx hb dX11_find_64 rfl (lv_at hl 1 rfl) ?_
        refine lv_iadd hx hb dX11_find_65 ?_
        obtain ⟨i3, h⟩ := gI_some h
        refine va_iald hx hb hK hP 1 0 rfl rfl i3 dX11_find_66 ?_
        refine lv_aload_n hx hb dX11_find_67 rfl (lv_at hl 0 rfl) ?_
        refine va_get (D := D) (ci := 11) (v := .ref a_x_now) (C := RX11) (T := TX11) (N := 19) hx hb hts in_X11_find_X11 hown hK hP 0 rfl rfl 0 (by decide) (hts _ mb_X11_find_1) (fun _ h9 => h9) rfl dX11_find_68 ?_
        refine lv_bipush (v := 35) hx hb dX11_find_71 (by decide) ?_
        refine lv_iload hx hb dX11_find_73 (lv_at hl 4 rfl) ?_
        refine lv_iadd hx hb dX11_find_75 ?_
        obtain ⟨i4, h⟩ := gI_some h
        refine va_iald hx hb hK hP 1 0 rfl rfl i4 dX11_find_76 ?_
        refine lv_isub hx hb dX11_find_77 ?_
        refine lv_i2l (v := ((x_now (35 + v1).toNatClampNeg) - (x_now (35 + v5).toNatClampNeg)).toInt64) hx hb dX11_find_78 rfl ?_
        refine lv_lmul hx hb dX11_find_79 ?_
        refine lv_aload_n hx hb dX11_find_80 rfl (lv_at hl 0 rfl) ?_
        refine va_get (D := D) (ci := 11) (v := .ref a_x_now) (C := RX11) (T := TX11) (N := 19) hx hb hts in_X11_find_X11 hown hK hP 0 rfl rfl 0 (by decide) (hts _ mb_X11_find_1) (fun _ h9 => h9) rfl dX11_find_81 ?_
        refine lv_bipush (v := 65) hx hb dX11_find_84 (by decide) ?_
        refine lv_iload hx hb dX11_find_86 (lv_at hl 4 rfl) ?_
        refine lv_iadd hx hb dX11_find_88 ?_
        obtain ⟨i5, h⟩ := gI_some h
        refine va_iald hx hb hK hP 1 0 rfl rfl i5 dX11_find_89 ?_
        refine lv_aload_n hx hb dX11_find_90 rfl (lv_at hl 0 rfl) ?_
        refine va_get (D := D) (ci := 11) (v := .ref a_x_now) (C := RX11) (T := TX11) (N := 19) hx hb hts in_X11_find_X11 hown hK hP 0 rfl rfl 0 (by decide) (hts _ mb_X11_find_1) (fun _ h9 => h9) rfl dX11_find_91 ?_
        refine lv_bipush (v := 45) hx hb dX11_find_94 (by decide) ?_
        refine lv_iload hx hb dX11_find_96 (lv_at hl 4 rfl) ?_
        refine lv_iadd hx hb dX11_find_98 ?_
        obtain ⟨i6, h⟩ := gI_some h
        refine va_iald hx hb hK hP 1 0 rfl rfl i6 dX11_find_99 ?_
        refine lv_imul hx hb dX11_find_100 ?_
        refine lv_i2l (v := ((x_now (65 + v5).toNatClampNeg) * (x_now (45 + v5).toNatClampNeg)).toInt64) hx hb dX11_find_101 rfl ?_
        refine lv_ladd hx hb dX11_find_102 ?_
        refine lv_ldc2 (v := 60) hx hb hown (hts _ mb_X11_find_0) dX11_find_103 ?_
        refine lv_lload_n hx hb dX11_find_106 rfl (lv_at hl 3 rfl) ?_
        refine lv_lmul hx hb dX11_find_107 ?_
        refine g_callV (index := 78) (maxL := 5) (n := 2) (As := [.long ((60 * (((x_now (35 + v1).toNatClampNeg) - (x_now (35 + v5).toNatClampNeg)).toInt64)) + (((x_now (65 + v5).toNatClampNeg) * (x_now (45 + v5).toNatClampNeg)).toInt64)), .long (60 * v3)]) (rest := []) (st1 := []) (C1 := RX11) (T1 := TX11) (N1 := 19) (ws2 := (w_X11_find cI cJ cZ cG a_x a_x_now a_x_kept a_x_sortOf a_x_sizeOf a_x_sheets a_x_parts a_x_edge a_x_far a_x_lost x_isKept x_host x_below x_bestTarget x_high x_low x_whole ((f_X11_atMost x_tryHigh x_tryLow ((60 * (((x_now (35 + v1).toNatClampNeg) - (x_now (35 + v5).toNatClampNeg)).toInt64)) + (((x_now (65 + v5).toNatClampNeg) * (x_now (45 + v5).toNatClampNeg)).toInt64)) (60 * v3)).1) ((f_X11_atMost x_tryHigh x_tryLow ((60 * (((x_now (35 + v1).toNatClampNeg) - (x_now (35 + v5).toNatClampNeg)).toInt64)) + (((x_now (65 + v5).toNatClampNeg) * (x_now (45 + v5).toNatClampNeg)).toInt64)) (60 * v3)).2) x_lots x_now)) C hP hD hS hl.1 11 0 (c_X11_atMost l D cI cJ cZ cG a_x a_x_now a_x_kept a_x_sortOf a_x_sizeOf a_x_sheets a_x_parts a_x_edge a_x_far a_x_lost x_isKept x_host x_below x_bestTarget x_high x_low x_whole x_tryHigh x_tryLow x_lots ((60 * (((x_now (35 + v1).toNatClampNeg) - (x_now (35 + v5).toNatClampNeg)).toInt64)) + (((x_now (65 + v5).toNatClampNeg) * (x_now (45 + v5).toNatClampNeg)).toInt64)) (60 * v3) _ rfl) gX11_find_X11_atMost rfl rfl rfl (by decide +kernel) ⟨Nat.le_of_ble_eq_true rfl, Nat.le_of_ble_eq_true rfl⟩ rfl rfl rfl (Nat.le_of_ble_eq_true rfl) rfl dX11_find_108 [0] [1] [1, 0] rfl rfl rfl rfl (by decide) rfl rfl rfl (fun H locs hP hD hS => ?_)
        refine lv_iinc (v := v5 + 1) (lv' := [(5, .int (v5 + 1)), (0, .ref a_x), (1, .int v1), (2, .int v2), (3, .long v3)]) hx hb dX11_find_111 hl (k := 4) rfl rfl (by decide) rfl (fun ls hl => ?_)
        refine lv_goto (tgt := 42) hx hb dX11_find_114 (by decide) ?_
        exact hk_42 ((f_X11_atMost x_tryHigh x_tryLow ((60 * (((x_now (35 + v1).toNatClampNeg) - (x_now (35 + v5).toNatClampNeg)).toInt64)) + (((x_now (65 + v5).toNatClampNeg) * (x_now (45 + v5).toNatClampNeg)).toInt64)) (60 * v3)).1) ((f_X11_atMost x_tryHigh x_tryLow ((60 * (((x_now (35 + v1).toNatClampNeg) - (x_now (35 + v5).toNatClampNeg)).toInt64)) + (((x_now (65 + v5).toNatClampNeg) * (x_now (45 + v5).toNatClampNeg)).toInt64)) (60 * v3)).2) (v5 + 1) h H locs ls hP hD hS (lv_sub hl [1, 2, 3, 4, 0] rfl)
set_option maxRecDepth 100000 in
set_option maxHeartbeats 4000000 in
theorem c_X11_find (l : Launch) (D : va_G) (cI cJ cZ cG : ClassId) (a_x a_x_now a_x_kept a_x_sortOf a_x_sizeOf a_x_sheets a_x_parts a_x_edge a_x_far a_x_lost : Nat) (x_isKept : Int32) (x_host : Int32) (x_below : Int32) (x_bestTarget : Int32) (x_high : Int64) (x_low : Int64) (x_whole : Int64) (x_tryHigh : Int64) (x_tryLow : Int64) (x_lots : Int32) (x_now : (Nat → Int32)) (p1 : Int32) (N : Nat) (q : Int32 × Int64 × Int64) (h : f_X11_find N x_tryHigh x_tryLow x_now p1 = some q) : gMet l yX11_find wsX11_find rm_X11_find [.ref a_x, .int p1] (w_X11_find cI cJ cZ cG a_x a_x_now a_x_kept a_x_sortOf a_x_sizeOf a_x_sheets a_x_parts a_x_edge a_x_far a_x_lost x_isKept x_host x_below x_bestTarget x_high x_low x_whole x_tryHigh x_tryLow x_lots x_now) (w_X11_find cI cJ cZ cG a_x a_x_now a_x_kept a_x_sortOf a_x_sizeOf a_x_sheets a_x_parts a_x_edge a_x_far a_x_lost x_isKept x_host x_below x_bestTarget x_high x_low x_whole q.2.1 q.2.2 x_lots x_now) (some (.int q.1)) D cI cJ cZ cG := by
  refine g_enter (cc := cX11_find) (nL := 13) (ret := (some .boolean)) (by decide) rfl (Nat.le_of_ble_eq_true rfl) ?_
  intro p e s m below meth c A C H locs ls hP hD hS hl
  obtain ⟨hx, hb, hr, hml, hown, hts, hlk, hgk, hA⟩ := id C
  have hK := hgk.1
  have hl : lv_has ls 13 [(0, .ref a_x), (1, .int p1)] := hl
  unfold f_X11_find at h
  refine lv_aload_n hx hb dX11_find_0 rfl (lv_at hl 0 rfl) ?_
  refine va_get (D := D) (ci := 11) (v := .ref a_x_now) (C := RX11) (T := TX11) (N := 19) hx hb hts in_X11_find_X11 hown hK hP 0 rfl rfl 0 (by decide) (hts _ mb_X11_find_1) (fun _ h9 => h9) rfl dX11_find_1 ?_
  refine lv_iconst (v := 0) hx hb dX11_find_4 (by decide) ?_
  refine va_iald hx hb hK hP 1 0 rfl rfl (g_lit (i := 0) (n := 194) (by decide)) dX11_find_5 ?_
  refine W.eq (g2 := F0 m 6 ls [.int (x_now 0)]) rfl ?_
  refine lv_istore_n (lv' := [(2, .int (x_now 0)), (0, .ref a_x), (1, .int p1)]) hx hb dX11_find_6 rfl hl (by decide) rfl (fun ls hl => ?_)
  refine lv_aload_n hx hb dX11_find_7 rfl (lv_at hl 1 rfl) ?_
  refine va_get (D := D) (ci := 11) (v := .ref a_x_now) (C := RX11) (T := TX11) (N := 19) hx hb hts in_X11_find_X11 hown hK hP 0 rfl rfl 0 (by decide) (hts _ mb_X11_find_1) (fun _ h9 => h9) rfl dX11_find_8 ?_
  refine lv_bipush (v := 45) hx hb dX11_find_11 (by decide) ?_
  refine lv_iload_n hx hb dX11_find_13 rfl (lv_at hl 2 rfl) ?_
  refine lv_iadd hx hb dX11_find_14 ?_
  obtain ⟨i1, h⟩ := gI_some h
  refine va_iald hx hb hK hP 1 0 rfl rfl i1 dX11_find_15 ?_
  refine lv_i2l (v := (x_now (45 + p1).toNatClampNeg).toInt64) hx hb dX11_find_16 rfl ?_
  refine lv_lstore_n (lv' := [(3, .long ((x_now (45 + p1).toNatClampNeg).toInt64)), (2, .int (x_now 0)), (0, .ref a_x), (1, .int p1)]) hx hb dX11_find_17 rfl hl (by decide) rfl (fun ls hl => ?_)
  refine lv_aload_n hx hb dX11_find_18 rfl (lv_at hl 2 rfl) ?_
  refine lv_aload_n hx hb dX11_find_19 rfl (lv_at hl 2 rfl) ?_
  refine va_get (D := D) (ci := 11) (v := .ref a_x_now) (C := RX11) (T := TX11) (N := 19) hx hb hts in_X11_find_X11 hown hK hP 0 rfl rfl 0 (by decide) (hts _ mb_X11_find_1) (fun _ h9 => h9) rfl dX11_find_20 ?_
  refine lv_bipush (v := 65) hx hb dX11_find_23 (by decide) ?_
  refine lv_iload_n hx hb dX11_find_25 rfl (lv_at hl 3 rfl) ?_
  refine lv_iadd hx hb dX11_find_26 ?_
  obtain ⟨i2, h⟩ := gI_some h
  refine va_iald hx hb hK hP 1 0 rfl rfl i2 dX11_find_27 ?_
  refine lv_i2l (v := (x_now (65 + p1).toNatClampNeg).toInt64) hx hb dX11_find_28 rfl ?_
  refine va_put (D := D) (ci := 11) (v := .long ((x_now (65 + p1).toNatClampNeg).toInt64)) (ty := .long) (C := RX11) (T := TX11) (N := 19) hx hb hts in_X11_find_X11 tyX11 tyX11_ok nmX11 hown hK hP hD hS 0 rfl rfl 13 (by decide) (hts _ mb_X11_find_2) (fun _ h9 => h9) rfl (by decide +kernel) rfl rfl (Nat.le_of_ble_eq_true rfl) dX11_find_29 (fun H locs hP hD hS => ?_)
  have hP : va_P D vwCl (w_X11_find cI cJ cZ cG a_x a_x_now a_x_kept a_x_sortOf a_x_sizeOf a_x_sheets a_x_parts a_x_edge a_x_far a_x_lost x_isKept x_host x_below x_bestTarget x_high x_low x_whole ((x_now (65 + p1).toNatClampNeg).toInt64) x_tryLow x_lots x_now) H := hP
  have hD : va_D A (w_X11_find cI cJ cZ cG a_x a_x_now a_x_kept a_x_sortOf a_x_sizeOf a_x_sheets a_x_parts a_x_edge a_x_far a_x_lost x_isKept x_host x_below x_bestTarget x_high x_low x_whole ((x_now (65 + p1).toNatClampNeg).toInt64) x_tryLow x_lots x_now) := hD
  refine lv_aload_n hx hb dX11_find_32 rfl (lv_at hl 2 rfl) ?_
  refine lv_ldc2 (v := 60) hx hb hown (hts _ mb_X11_find_0) dX11_find_33 ?_
  refine va_put (D := D) (ci := 11) (v := .long 60) (ty := .long) (C := RX11) (T := TX11) (N := 19) hx hb hts in_X11_find_X11 tyX11 tyX11_ok nmX11 hown hK hP hD hS 0 rfl rfl 14 (by decide) (hts _ mb_X11_find_3) (fun _ h9 => h9) rfl (by decide +kernel) rfl rfl (Nat.le_of_ble_eq_true rfl) dX11_find_36 (fun H locs hP hD hS => ?_)
  have hP : va_P D vwCl (w_X11_find cI cJ cZ cG a_x a_x_now a_x_kept a_x_sortOf a_x_sizeOf a_x_sheets a_x_parts a_x_edge a_x_far a_x_lost x_isKept x_host x_below x_bestTarget x_high x_low x_whole ((x_now (65 + p1).toNatClampNeg).toInt64) 60 x_lots x_now) H := hP
  have hD : va_D A (w_X11_find cI cJ cZ cG a_x a_x_now a_x_kept a_x_sortOf a_x_sizeOf a_x_sheets a_x_parts a_x_edge a_x_far a_x_lost x_isKept x_host x_below x_bestTarget x_high x_low x_whole ((x_now (65 + p1).toNatClampNeg).toInt64) 60 x_lots x_now) := hD
  refine lv_iconst (v := 0) hx hb dX11_find_39 (by decide) ?_
  refine lv_istore (lv' := [(5, .int 0), (3, .long ((x_now (45 + p1).toNatClampNeg).toInt64)), (2, .int (x_now 0)), (0, .ref a_x), (1, .int p1)]) hx hb dX11_find_40 hl (by decide) rfl (fun ls hl => ?_)
  exact t_X11_find_b42 C a_x a_x_now a_x_kept a_x_sortOf a_x_sizeOf a_x_sheets a_x_parts a_x_edge a_x_far a_x_lost x_isKept x_host x_below x_bestTarget x_high x_low x_whole x_lots x_now N q p1 (x_now 0) ((x_now (45 + p1).toNatClampNeg).toInt64) N ((x_now (65 + p1).toNatClampNeg).toInt64) 60 0 h H locs ls hP hD hS (lv_sub hl [3, 4, 2, 1, 0] rfl)
