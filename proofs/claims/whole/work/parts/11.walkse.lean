variable {p : Program} {l : Launch} {e : Env} {s : State} {m : MethodId} {args : Array Value} {below : List Frame} {meth : Method} {c : Code} {D : va_G} {A : Nat → Prop} {cI cJ cZ cG : ClassId}
theorem in_X10_best_X10 : ∀ w ∈ wsX100, w ∈ wsX10_best := by decide +kernel
theorem in_X10_best_X3 : ∀ w ∈ wsX30, w ∈ wsX10_best := by decide +kernel
theorem in_X10_best_X6 : ∀ w ∈ wsX60, w ∈ wsX10_best := by decide +kernel
theorem mb_X10_best_0 : Cond.fieldLink RX10 29 "GuardDesk" "plan" "LGuardDesk$Plan;" ∈ wsX10_best := List.mem_of_getElem? (i := 1) rfl
theorem mb_X10_best_1 : Cond.fieldLink RX10 10 "GuardDesk" "now" "LGuardDesk$Scene;" ∈ wsX10_best := List.mem_of_getElem? (i := 2) rfl
theorem mb_X10_best_2 : Cond.fieldLink RX10 69 "GuardDesk$Scene" "targets" "LGuardDesk$Targets;" ∈ wsX10_best := List.mem_of_getElem? (i := 3) rfl
theorem mb_X10_best_3 : Cond.constant RX10 127 (-1000000003) ∈ wsX10_best := List.mem_of_getElem? (i := 5) rfl
theorem mb_X10_best_4 : Cond.fieldLink RX10 124 "GuardDesk$Plan" "goal" "I" ∈ wsX10_best := List.mem_of_getElem? (i := 4) rfl
set_option maxRecDepth 100000 in
set_option maxHeartbeats 4000000 in
theorem c_X10_best (l : Launch) (D : va_G) (cI cJ cZ cG : ClassId) (a_x a_x_now a_x_kept a_x_sheets a_x_plan a_x_draw a_x_blockade a_x_watch a_x_now_targets a_x_now_roads a_x_now_posts a_x_now_haunts a_x_now_targets_kind a_x_now_targets_saved a_x_now_targets_lost a_x_now_targets_gain a_x_now_targets_gap a_x_now_targets_least a_x_now_targets_most a_x_now_targets_hand a_x_plan_parts : Nat) (x_isKept : Int32) (x_latestBelow : Int32) (x_findings : Int32) (x_now_targets_size : Int32) (x_now_targets_guards : Int32) (x_now_targets_saved : (Nat → Int32)) (x_now_targets_lost : (Nat → Int32)) (x_now_targets_gain : (Nat → Int32)) (x_now_targets_gap : (Nat → Int32)) (x_now_targets_least : (Nat → Int32)) (x_now_targets_most : (Nat → Int32)) (x_plan_levelAbove : Int64) (x_plan_levelBelow : Int64) (x_plan_unit : Int64) (x_plan_size : Int32) (x_plan_goal : Int32) (x_plan_parts : (Nat → Int64)) (N : Nat) (q : Int32 × Int64 × Int64 × Int64 × Int32 × Int32 × (Nat → Int64)) (h : f_X10_best N x_now_targets_size x_now_targets_guards x_now_targets_saved x_now_targets_lost x_now_targets_gain x_now_targets_gap x_now_targets_least x_now_targets_most x_plan_levelAbove x_plan_levelBelow x_plan_unit x_plan_size x_plan_goal x_plan_parts = some q) : gMet l yX10_best wsX10_best rm_X10_best [.ref a_x] (w_X10_best cI cJ cZ cG a_x a_x_now a_x_kept a_x_sheets a_x_plan a_x_draw a_x_blockade a_x_watch a_x_now_targets a_x_now_roads a_x_now_posts a_x_now_haunts a_x_now_targets_kind a_x_now_targets_saved a_x_now_targets_lost a_x_now_targets_gain a_x_now_targets_gap a_x_now_targets_least a_x_now_targets_most a_x_now_targets_hand a_x_plan_parts x_isKept x_latestBelow x_findings x_now_targets_size x_now_targets_guards x_now_targets_saved x_now_targets_lost x_now_targets_gain x_now_targets_gap x_now_targets_least x_now_targets_most x_plan_levelAbove x_plan_levelBelow x_plan_unit x_plan_size x_plan_goal x_plan_parts) (w_X10_best cI cJ cZ cG a_x a_x_now a_x_kept a_x_sheets a_x_plan a_x_draw a_x_blockade a_x_watch a_x_now_targets a_x_now_roads a_x_now_posts a_x_now_haunts a_x_now_targets_kind a_x_now_targets_saved a_x_now_targets_lost a_x_now_targets_gain a_x_now_targets_gap a_x_now_targets_least a_x_now_targets_most a_x_now_targets_hand a_x_plan_parts x_isKept x_latestBelow x_findings x_now_targets_size x_now_targets_guards x_now_targets_saved x_now_targets_lost x_now_targets_gain x_now_targets_gap x_now_targets_least x_now_targets_most q.2.1 q.2.2.1 q.2.2.2.1 q.2.2.2.2.1 q.2.2.2.2.2.1 q.2.2.2.2.2.2) (some (.int q.1)) D cI cJ cZ cG := by
  refine g_enter (cc := cX10_best) (nL := 1) (ret := (some .int)) (by decide) rfl (Nat.le_of_ble_eq_true rfl) ?_
  intro p e s m below meth c A C H locs ls hP hD hS hl
  obtain ⟨hx, hb, hr, hml, hown, hts, hlk, hgk, hA⟩ := id C
  have hK := hgk.1
  have hl : lv_has ls 1 [(0, .ref a_x)] := hl
  unfold f_X10_best at h
  refine lv_aload_n hx hb dX10_best_0 rfl (lv_at hl 0 rfl) ?_
  refine va_get (D := D) (ci := 10) (v := .ref a_x_plan) (C := RX10) (T := TX10) (N := 10) hx hb hts in_X10_best_X10 hown hK hP 0 rfl rfl 3 (by decide) (hts _ mb_X10_best_0) (fun _ h9 => h9) rfl dX10_best_1 ?_
  refine lv_aload_n hx hb dX10_best_4 rfl (lv_at hl 0 rfl) ?_
  refine va_get (D := D) (ci := 10) (v := .ref a_x_now) (C := RX10) (T := TX10) (N := 10) hx hb hts in_X10_best_X10 hown hK hP 0 rfl rfl 0 (by decide) (hts _ mb_X10_best_1) (fun _ h9 => h9) rfl dX10_best_5 ?_
  refine va_get (D := D) (ci := 6) (v := .ref a_x_now_targets) (C := RX6) (T := TX6) (N := 4) hx hb hts in_X10_best_X6 hown hK hP 1 rfl rfl 0 (by decide) (hts _ mb_X10_best_2) (fun _ h9 => h9) rfl dX10_best_8 ?_
  obtain ⟨q1, e1, h⟩ := bd_some h
  refine g_callV (index := 120) (maxL := 6) (n := 1) (As := [.ref a_x_now_targets]) (rest := []) (st1 := [.int q1.1]) (C1 := RX3) (T1 := TX3) (N1 := 6) (ws2 := (w_X10_best cI cJ cZ cG a_x a_x_now a_x_kept a_x_sheets a_x_plan a_x_draw a_x_blockade a_x_watch a_x_now_targets a_x_now_roads a_x_now_posts a_x_now_haunts a_x_now_targets_kind a_x_now_targets_saved a_x_now_targets_lost a_x_now_targets_gain a_x_now_targets_gap a_x_now_targets_least a_x_now_targets_most a_x_now_targets_hand a_x_plan_parts x_isKept x_latestBelow x_findings x_now_targets_size x_now_targets_guards x_now_targets_saved x_now_targets_lost x_now_targets_gain x_now_targets_gap x_now_targets_least x_now_targets_most q1.2.1 q1.2.2.1 q1.2.2.2.1 q1.2.2.2.2.1 q1.2.2.2.2.2.1 q1.2.2.2.2.2.2)) C hP hD hS hl.1 3 0 (c_X3_make l D cI cJ cZ cG a_x_plan a_x_plan_parts a_x_now_targets a_x_now_targets_kind a_x_now_targets_saved a_x_now_targets_lost a_x_now_targets_gain a_x_now_targets_gap a_x_now_targets_least a_x_now_targets_most a_x_now_targets_hand x_plan_levelAbove x_plan_levelBelow x_plan_unit x_plan_size x_plan_goal x_plan_parts x_now_targets_size x_now_targets_guards x_now_targets_saved x_now_targets_lost x_now_targets_gain x_now_targets_gap x_now_targets_least x_now_targets_most N q1 e1) gX10_best_X3_make rfl rfl rfl (by decide +kernel) ⟨Nat.le_of_ble_eq_true rfl, Nat.le_of_ble_eq_true rfl⟩ rfl rfl rfl (Nat.le_of_ble_eq_true rfl) rfl dX10_best_11 [9, 10, 2, 3, 4, 5, 6, 7, 8] [0, 1] [0, 1, 4, 5, 6, 7, 8, 9, 10, 2, 3] rfl rfl rfl rfl (by decide) rfl rfl rfl (fun H locs hP hD hS => ?_)
  refine lv_if_eq (tgt := 27) hx hb dX10_best_14 (by decide) (fun c2 => ?_) (fun c2 => ?_)
  · have h := ift c2 h
    refine lv_ldc (v := (-1000000003)) hx hb hown (hts _ mb_X10_best_3) dX10_best_27 ?_
    obtain rfl := Option.some.inj h
    exact g_iret C hP hD hS dX10_best_29
  · have h := iff_ c2 h
    refine lv_aload_n hx hb dX10_best_17 rfl (lv_at hl 0 rfl) ?_
    refine va_get (D := D) (ci := 10) (v := .ref a_x_plan) (C := RX10) (T := TX10) (N := 10) hx hb hts in_X10_best_X10 hown hK hP 0 rfl rfl 3 (by decide) (hts _ mb_X10_best_0) (fun _ h9 => h9) rfl dX10_best_18 ?_
    refine va_get (D := D) (ci := 3) (v := .int q1.2.2.2.2.2.1) (C := RX3) (T := TX3) (N := 6) hx hb hts in_X10_best_X3 hown hK hP 9 rfl rfl 4 (by decide) (hts _ mb_X10_best_4) (fun _ h9 => h9) rfl dX10_best_21 ?_
    refine lv_goto (tgt := 29) hx hb dX10_best_24 (by decide) ?_
    obtain rfl := Option.some.inj h
    exact g_iret C hP hD hS dX10_best_29
theorem mb_X10_commonDivisor_0 : Cond.methodLink RX10 288 Lib.MathLoose.abs_long.x ∈ wsX10_commonDivisor := List.mem_of_getElem? (i := 1) rfl
theorem mb_X10_commonDivisor_1 : Cond.static Lib.MathLoose.abs_long.x ∈ wsX10_commonDivisor := List.mem_of_getElem? (i := 2) rfl
theorem mb_X10_commonDivisor_2 : Cond.initialized "java/lang/Math" ∈ wsX10_commonDivisor := List.mem_of_getElem? (i := 3) rfl
theorem mb_X10_commonDivisor_3 : Cond.code Lib.MathLoose.abs_long.x Lib.MathLoose.abs_long.code 2 (some .long) ∈ wsX10_commonDivisor := List.mem_of_getElem? (i := 4) rfl
set_option maxRecDepth 100000 in
set_option maxHeartbeats 4000000 in
theorem t_X10_commonDivisor_b15 (C : cx D cI cJ cZ cG A cX10_commonDivisor 11 (some .long) RX10 wsX10_commonDivisor p s m args meth c) (N : Nat) (q : Int64) : ∀ (n : Nat) (v4 : Int64) (v6 : Int64) (v8 : Int32), f_X10_commonDivisor_b15 N n v4 v6 v8 = some q → WB p l e rm_X10_commonDivisor s m args below meth c (MQ below (Qg D (some (.long q)) (w_X10_commonDivisor cI cJ cZ cG) A) args s 0 0 A) D A 11 (w_X10_commonDivisor cI cJ cZ cG) [(4, .long v4), (6, .long v6), (8, .int v8)] [] 15 := by
  obtain ⟨hx, hb, hr, hml, hown, hts, hlk, hgk, hA⟩ := id C
  have hK := hgk.1
  intro n
  induction n with
  | zero => intro v4 v6 v8 h; cases h
  | succ n hk_15 =>
    intro v4 v6 v8 h
    have h : g_X10_commonDivisor_b15 N (f_X10_commonDivisor_b15 N n) v4 v6 v8 = some q := h
    generalize f_X10_commonDivisor_b15 N n = k_15 at h hk_15
    unfold g_X10_commonDivisor_b15 at h
    intro H locs ls hP hD hS hl
    refine lv_iload hx hb dX10_commonDivisor_15 (lv_at hl 2 rfl) ?_
    refine lv_sipush (v := 200) hx hb dX10_commonDivisor_17 (by decide) ?_
    refine lv_icmp_ge (tgt := 51) hx hb dX10_commonDivisor_20 (by decide) (fun c1 => ?_) (fun c1 => ?_)
    · have h := ift c1 h
      refine lv_lload hx hb dX10_commonDivisor_51 (lv_at hl 0 rfl) ?_
      obtain rfl := Option.some.inj h
      exact g_lret C hP hD hS dX10_commonDivisor_53
    · have h := iff_ c1 h
      refine lv_lload hx hb dX10_commonDivisor_23 (lv_at hl 1 rfl) ?_
      refine lv_lconst (v := 0) hx hb dX10_commonDivisor_25 (by decide) ?_
      refine W.lcmp hx hb dX10_commonDivisor_26 ?_
      refine lv_if_eq (tgt := 51) hx hb dX10_commonDivisor_27 (by decide) (fun c2 => ?_) (fun c2 => ?_)
      · have c2 := lc_eq.mp c2
        have h := ift c2 h
        refine lv_lload hx hb dX10_commonDivisor_51 (lv_at hl 0 rfl) ?_
        obtain rfl := Option.some.inj h
        exact g_lret C hP hD hS dX10_commonDivisor_53
      · have c2 := (not_congr lc_eq).mp c2
        have h := iff_ c2 h
        refine lv_lload hx hb dX10_commonDivisor_30 (lv_at hl 0 rfl) ?_
        refine lv_lload hx hb dX10_commonDivisor_32 (lv_at hl 1 rfl) ?_
        obtain ⟨z3, h⟩ := gDl_some h
        refine lv_lrem hx hb dX10_commonDivisor_34 z3 ?_
        refine lv_lstore (lv' := [(9, .long (v4 - v4 / v6 * v6)), (4, .long v4), (6, .long v6), (8, .int v8)]) hx hb dX10_commonDivisor_35 hl (by decide) rfl (fun ls hl => ?_)
        refine lv_lload hx hb dX10_commonDivisor_37 (lv_at hl 2 rfl) ?_
        refine lv_lstore (lv' := [(4, .long v6), (9, .long (v4 - v4 / v6 * v6)), (6, .long v6), (8, .int v8)]) hx hb dX10_commonDivisor_39 hl (by decide) rfl (fun ls hl => ?_)
        refine lv_lload hx hb dX10_commonDivisor_41 (lv_at hl 1 rfl) ?_
        refine lv_lstore (lv' := [(6, .long (v4 - v4 / v6 * v6)), (4, .long v6), (9, .long (v4 - v4 / v6 * v6)), (8, .int v8)]) hx hb dX10_commonDivisor_43 hl (by decide) rfl (fun ls hl => ?_)
        refine lv_iinc (v := v8 + 1) (lv' := [(8, .int (v8 + 1)), (6, .long (v4 - v4 / v6 * v6)), (4, .long v6), (9, .long (v4 - v4 / v6 * v6))]) hx hb dX10_commonDivisor_45 hl (k := 3) rfl rfl (by decide) rfl (fun ls hl => ?_)
        refine lv_goto (tgt := 15) hx hb dX10_commonDivisor_48 (by decide) ?_
        exact hk_15 v6 (v4 - v4 / v6 * v6) (v8 + 1) h H locs ls hP hD hS (lv_sub hl [2, 1, 0] rfl)
set_option maxRecDepth 100000 in
set_option maxHeartbeats 4000000 in
theorem c_X10_commonDivisor (l : Launch) (D : va_G) (cI cJ cZ cG : ClassId) (p0 : Int64) (p2 : Int64) (N : Nat) (q : Int64) (h : f_X10_commonDivisor N p0 p2 = some q) : gMet l yX10_commonDivisor wsX10_commonDivisor rm_X10_commonDivisor [.long p0, .long p2] (w_X10_commonDivisor cI cJ cZ cG) (w_X10_commonDivisor cI cJ cZ cG) (some (.long q)) D cI cJ cZ cG := by
  refine g_enter (cc := cX10_commonDivisor) (nL := 11) (ret := (some .long)) (by decide) rfl (Nat.le_of_ble_eq_true rfl) ?_
  intro p e s m below meth c A C H locs ls hP hD hS hl
  obtain ⟨hx, hb, hr, hml, hown, hts, hlk, hgk, hA⟩ := id C
  have hK := hgk.1
  have hl : lv_has ls 11 [(0, .long p0), (2, .long p2)] := hl
  unfold f_X10_commonDivisor at h
  refine lv_lload_n hx hb dX10_commonDivisor_0 rfl (lv_at hl 0 rfl) ?_
  refine va_mabs_long hx hb (hml.trans hl.1.symm) hown (hts _ mb_X10_commonDivisor_0) (hts _ mb_X10_commonDivisor_1) (hts _ mb_X10_commonDivisor_2) (hts _ mb_X10_commonDivisor_3) (Nat.le_of_ble_eq_true rfl) (Nat.le_of_ble_eq_true rfl) (Nat.zero_le _) (Nat.zero_le _) dX10_commonDivisor_1 ?_
  refine lv_lstore (lv' := [(4, .long (if 0 < p0 then p0 else -p0)), (0, .long p0), (2, .long p2)]) hx hb dX10_commonDivisor_4 hl (by decide) rfl (fun ls hl => ?_)
  refine lv_lload_n hx hb dX10_commonDivisor_6 rfl (lv_at hl 2 rfl) ?_
  refine va_mabs_long hx hb (hml.trans hl.1.symm) hown (hts _ mb_X10_commonDivisor_0) (hts _ mb_X10_commonDivisor_1) (hts _ mb_X10_commonDivisor_2) (hts _ mb_X10_commonDivisor_3) (Nat.le_of_ble_eq_true rfl) (Nat.le_of_ble_eq_true rfl) (Nat.zero_le _) (Nat.zero_le _) dX10_commonDivisor_7 ?_
  refine lv_lstore (lv' := [(6, .long (if 0 < p2 then p2 else -p2)), (4, .long (if 0 < p0 then p0 else -p0)), (0, .long p0), (2, .long p2)]) hx hb dX10_commonDivisor_10 hl (by decide) rfl (fun ls hl => ?_)
  refine lv_iconst (v := 0) hx hb dX10_commonDivisor_12 (by decide) ?_
  refine lv_istore (lv' := [(8, .int 0), (6, .long (if 0 < p2 then p2 else -p2)), (4, .long (if 0 < p0 then p0 else -p0)), (0, .long p0), (2, .long p2)]) hx hb dX10_commonDivisor_13 hl (by decide) rfl (fun ls hl => ?_)
  exact t_X10_commonDivisor_b15 C N q N (if 0 < p0 then p0 else -p0) (if 0 < p2 then p2 else -p2) 0 h H locs ls hP hD hS (lv_sub hl [2, 1, 0] rfl)
theorem in_X10_fraction_X10 : ∀ w ∈ wsX100, w ∈ wsX10_fraction := by decide +kernel
theorem mb_X10_fraction_0 : Cond.fieldLink RX10 54 "GuardDesk" "latestBelow" "I" ∈ wsX10_fraction := List.mem_of_getElem? (i := 2) rfl
theorem mb_X10_fraction_1 : Cond.constant RX10 78 (-1000000002) ∈ wsX10_fraction := List.mem_of_getElem? (i := 1) rfl
set_option maxRecDepth 100000 in
set_option maxHeartbeats 4000000 in
theorem c_X10_fraction (l : Launch) (D : va_G) (cI cJ cZ cG : ClassId) (a_x a_x_now a_x_kept a_x_sheets a_x_plan a_x_draw a_x_blockade a_x_watch : Nat) (x_isKept : Int32) (x_latestBelow : Int32) (x_findings : Int32) (p1 : Int64) (p3 : Int64) (N : Nat) (q : Int32 × Int32) (h : f_X10_fraction N x_latestBelow p1 p3 = some q) : gMet l yX10_fraction wsX10_fraction rm_X10_fraction [.ref a_x, .long p1, .long p3] (w_X10_fraction cI cJ cZ cG a_x a_x_now a_x_kept a_x_sheets a_x_plan a_x_draw a_x_blockade a_x_watch x_isKept x_latestBelow x_findings) (w_X10_fraction cI cJ cZ cG a_x a_x_now a_x_kept a_x_sheets a_x_plan a_x_draw a_x_blockade a_x_watch x_isKept q.2 x_findings) (some (.int q.1)) D cI cJ cZ cG := by
  refine g_enter (cc := cX10_fraction) (nL := 7) (ret := (some .int)) (by decide) rfl (Nat.le_of_ble_eq_true rfl) ?_
  intro p e s m below meth c A C H locs ls hP hD hS hl
  obtain ⟨hx, hb, hr, hml, hown, hts, hlk, hgk, hA⟩ := id C
  have hK := hgk.1
  have hl : lv_has ls 7 [(0, .ref a_x), (1, .long p1), (3, .long p3)] := hl
  unfold f_X10_fraction at h
  refine lv_lload_n hx hb dX10_fraction_0 rfl (lv_at hl 1 rfl) ?_
  refine lv_lload_n hx hb dX10_fraction_1 rfl (lv_at hl 2 rfl) ?_
  obtain ⟨q1, e1, h⟩ := bd_some h
  refine g_callS0 (index := 281) (maxL := 11) (n := 2) (As := [.long p1, .long p3]) (rest := []) (st1 := [.long q1]) C hP hS hl.1 (c_X10_commonDivisor l D cI cJ cZ cG p1 p3 N q1 e1) gX10_fraction_X10_commonDivisor rfl rfl rfl (by decide +kernel) ⟨Nat.le_of_ble_eq_true rfl, Nat.le_of_ble_eq_true rfl⟩ rfl (Nat.le_of_ble_eq_true rfl) rfl dX10_fraction_2 rfl (fun H locs hP hS => ?_)
  refine lv_lstore (lv' := [(5, .long q1), (0, .ref a_x), (1, .long p1), (3, .long p3)]) hx hb dX10_fraction_5 hl (by decide) rfl (fun ls hl => ?_)
  refine lv_lload hx hb dX10_fraction_7 (lv_at hl 0 rfl) ?_
  refine lv_lconst (v := 0) hx hb dX10_fraction_9 (by decide) ?_
  refine W.lcmp hx hb dX10_fraction_10 ?_
  refine lv_if_gt (tgt := 17) hx hb dX10_fraction_11 (by decide) (fun c2 => ?_) (fun c2 => ?_)
  · have c2 := lc_gt.mp c2
    have h := ift c2 h
    refine lv_aload_n hx hb dX10_fraction_17 rfl (lv_at hl 1 rfl) ?_
    refine lv_lload_n hx hb dX10_fraction_18 rfl (lv_at hl 3 rfl) ?_
    refine lv_lload hx hb dX10_fraction_19 (lv_at hl 0 rfl) ?_
    obtain ⟨z3, h⟩ := gDl_some h
    refine lv_ldiv hx hb dX10_fraction_21 z3 ?_
    refine lv_l2i (v := (p3 / q1).toInt32) hx hb dX10_fraction_22 rfl ?_
    refine va_put (D := D) (ci := 10) (v := .int ((p3 / q1).toInt32)) (ty := .int) (C := RX10) (T := TX10) (N := 10) hx hb hts in_X10_fraction_X10 tyX10 tyX10_ok nmX10 hown hK hP hD hS 0 rfl rfl 8 (by decide) (hts _ mb_X10_fraction_0) (fun _ h9 => h9) rfl (by decide +kernel) rfl rfl (Nat.le_of_ble_eq_true rfl) dX10_fraction_23 (fun H locs hP hD hS => ?_)
    have hP : va_P D vwCl (w_X10_fraction cI cJ cZ cG a_x a_x_now a_x_kept a_x_sheets a_x_plan a_x_draw a_x_blockade a_x_watch x_isKept ((p3 / q1).toInt32) x_findings) H := hP
    have hD : va_D A (w_X10_fraction cI cJ cZ cG a_x a_x_now a_x_kept a_x_sheets a_x_plan a_x_draw a_x_blockade a_x_watch x_isKept ((p3 / q1).toInt32) x_findings) := hD
    refine lv_lload_n hx hb dX10_fraction_26 rfl (lv_at hl 2 rfl) ?_
    refine lv_lload hx hb dX10_fraction_27 (lv_at hl 0 rfl) ?_
    obtain ⟨z4, h⟩ := gDl_some h
    refine lv_ldiv hx hb dX10_fraction_29 z4 ?_
    refine lv_l2i (v := (p1 / q1).toInt32) hx hb dX10_fraction_30 rfl ?_
    obtain rfl := Option.some.inj h
    exact g_iret C hP hD hS dX10_fraction_31
  · have c2 := (not_congr lc_gt).mp c2
    have h := iff_ c2 h
    refine lv_ldc (v := (-1000000002)) hx hb hown (hts _ mb_X10_fraction_1) dX10_fraction_14 ?_
    obtain rfl := Option.some.inj h
    exact g_iret C hP hD hS dX10_fraction_16
theorem in_X10_worth_X10 : ∀ w ∈ wsX100, w ∈ wsX10_worth := by decide +kernel
theorem in_X10_worth_X3 : ∀ w ∈ wsX30, w ∈ wsX10_worth := by decide +kernel
theorem in_X10_worth_X6 : ∀ w ∈ wsX60, w ∈ wsX10_worth := by decide +kernel
theorem mb_X10_worth_0 : Cond.fieldLink RX10 29 "GuardDesk" "plan" "LGuardDesk$Plan;" ∈ wsX10_worth := List.mem_of_getElem? (i := 1) rfl
theorem mb_X10_worth_1 : Cond.fieldLink RX10 10 "GuardDesk" "now" "LGuardDesk$Scene;" ∈ wsX10_worth := List.mem_of_getElem? (i := 2) rfl
theorem mb_X10_worth_2 : Cond.fieldLink RX10 69 "GuardDesk$Scene" "targets" "LGuardDesk$Targets;" ∈ wsX10_worth := List.mem_of_getElem? (i := 3) rfl
theorem mb_X10_worth_3 : Cond.fieldLink RX10 124 "GuardDesk$Plan" "goal" "I" ∈ wsX10_worth := List.mem_of_getElem? (i := 5) rfl
theorem mb_X10_worth_4 : Cond.fieldLink RX10 132 "GuardDesk$Plan" "unit" "J" ∈ wsX10_worth := List.mem_of_getElem? (i := 6) rfl
theorem mb_X10_worth_5 : Cond.constant RX10 127 (-1000000003) ∈ wsX10_worth := List.mem_of_getElem? (i := 4) rfl
set_option maxRecDepth 100000 in
set_option maxHeartbeats 4000000 in
theorem c_X10_worth (l : Launch) (D : va_G) (cI cJ cZ cG : ClassId) (a_x a_x_now a_x_kept a_x_sheets a_x_plan a_x_draw a_x_blockade a_x_watch a_x_now_targets a_x_now_roads a_x_now_posts a_x_now_haunts a_x_now_targets_kind a_x_now_targets_saved a_x_now_targets_lost a_x_now_targets_gain a_x_now_targets_gap a_x_now_targets_least a_x_now_targets_most a_x_now_targets_hand a_x_plan_parts : Nat) (x_isKept : Int32) (x_latestBelow : Int32) (x_findings : Int32) (x_now_targets_size : Int32) (x_now_targets_guards : Int32) (x_now_targets_saved : (Nat → Int32)) (x_now_targets_lost : (Nat → Int32)) (x_now_targets_gain : (Nat → Int32)) (x_now_targets_gap : (Nat → Int32)) (x_now_targets_least : (Nat → Int32)) (x_now_targets_most : (Nat → Int32)) (x_plan_levelAbove : Int64) (x_plan_levelBelow : Int64) (x_plan_unit : Int64) (x_plan_size : Int32) (x_plan_goal : Int32) (x_plan_parts : (Nat → Int64)) (N : Nat) (q : Int32 × Int32 × Int64 × Int64 × Int64 × Int32 × Int32 × (Nat → Int64)) (h : f_X10_worth N x_latestBelow x_now_targets_size x_now_targets_guards x_now_targets_saved x_now_targets_lost x_now_targets_gain x_now_targets_gap x_now_targets_least x_now_targets_most x_plan_levelAbove x_plan_levelBelow x_plan_unit x_plan_size x_plan_goal x_plan_parts = some q) : gMet l yX10_worth wsX10_worth rm_X10_worth [.ref a_x] (w_X10_worth cI cJ cZ cG a_x a_x_now a_x_kept a_x_sheets a_x_plan a_x_draw a_x_blockade a_x_watch a_x_now_targets a_x_now_roads a_x_now_posts a_x_now_haunts a_x_now_targets_kind a_x_now_targets_saved a_x_now_targets_lost a_x_now_targets_gain a_x_now_targets_gap a_x_now_targets_least a_x_now_targets_most a_x_now_targets_hand a_x_plan_parts x_isKept x_latestBelow x_findings x_now_targets_size x_now_targets_guards x_now_targets_saved x_now_targets_lost x_now_targets_gain x_now_targets_gap x_now_targets_least x_now_targets_most x_plan_levelAbove x_plan_levelBelow x_plan_unit x_plan_size x_plan_goal x_plan_parts) (w_X10_worth cI cJ cZ cG a_x a_x_now a_x_kept a_x_sheets a_x_plan a_x_draw a_x_blockade a_x_watch a_x_now_targets a_x_now_roads a_x_now_posts a_x_now_haunts a_x_now_targets_kind a_x_now_targets_saved a_x_now_targets_lost a_x_now_targets_gain a_x_now_targets_gap a_x_now_targets_least a_x_now_targets_most a_x_now_targets_hand a_x_plan_parts x_isKept q.2.1 x_findings x_now_targets_size x_now_targets_guards x_now_targets_saved x_now_targets_lost x_now_targets_gain x_now_targets_gap x_now_targets_least x_now_targets_most q.2.2.1 q.2.2.2.1 q.2.2.2.2.1 q.2.2.2.2.2.1 q.2.2.2.2.2.2.1 q.2.2.2.2.2.2.2) (some (.int q.1)) D cI cJ cZ cG := by
  refine g_enter (cc := cX10_worth) (nL := 1) (ret := (some .int)) (by decide) rfl (Nat.le_of_ble_eq_true rfl) ?_
  intro p e s m below meth c A C H locs ls hP hD hS hl
  obtain ⟨hx, hb, hr, hml, hown, hts, hlk, hgk, hA⟩ := id C
  have hK := hgk.1
  have hl : lv_has ls 1 [(0, .ref a_x)] := hl
  unfold f_X10_worth at h
  refine lv_aload_n hx hb dX10_worth_0 rfl (lv_at hl 0 rfl) ?_
  refine va_get (D := D) (ci := 10) (v := .ref a_x_plan) (C := RX10) (T := TX10) (N := 10) hx hb hts in_X10_worth_X10 hown hK hP 0 rfl rfl 3 (by decide) (hts _ mb_X10_worth_0) (fun _ h9 => h9) rfl dX10_worth_1 ?_
  refine lv_aload_n hx hb dX10_worth_4 rfl (lv_at hl 0 rfl) ?_
  refine va_get (D := D) (ci := 10) (v := .ref a_x_now) (C := RX10) (T := TX10) (N := 10) hx hb hts in_X10_worth_X10 hown hK hP 0 rfl rfl 0 (by decide) (hts _ mb_X10_worth_1) (fun _ h9 => h9) rfl dX10_worth_5 ?_
  refine va_get (D := D) (ci := 6) (v := .ref a_x_now_targets) (C := RX6) (T := TX6) (N := 4) hx hb hts in_X10_worth_X6 hown hK hP 1 rfl rfl 0 (by decide) (hts _ mb_X10_worth_2) (fun _ h9 => h9) rfl dX10_worth_8 ?_
  obtain ⟨q1, e1, h⟩ := bd_some h
  refine g_callV (index := 120) (maxL := 6) (n := 1) (As := [.ref a_x_now_targets]) (rest := []) (st1 := [.int q1.1]) (C1 := RX3) (T1 := TX3) (N1 := 6) (ws2 := (w_X10_worth cI cJ cZ cG a_x a_x_now a_x_kept a_x_sheets a_x_plan a_x_draw a_x_blockade a_x_watch a_x_now_targets a_x_now_roads a_x_now_posts a_x_now_haunts a_x_now_targets_kind a_x_now_targets_saved a_x_now_targets_lost a_x_now_targets_gain a_x_now_targets_gap a_x_now_targets_least a_x_now_targets_most a_x_now_targets_hand a_x_plan_parts x_isKept x_latestBelow x_findings x_now_targets_size x_now_targets_guards x_now_targets_saved x_now_targets_lost x_now_targets_gain x_now_targets_gap x_now_targets_least x_now_targets_most q1.2.1 q1.2.2.1 q1.2.2.2.1 q1.2.2.2.2.1 q1.2.2.2.2.2.1 q1.2.2.2.2.2.2)) C hP hD hS hl.1 3 0 (c_X3_make l D cI cJ cZ cG a_x_plan a_x_plan_parts a_x_now_targets a_x_now_targets_kind a_x_now_targets_saved a_x_now_targets_lost a_x_now_targets_gain a_x_now_targets_gap a_x_now_targets_least a_x_now_targets_most a_x_now_targets_hand x_plan_levelAbove x_plan_levelBelow x_plan_unit x_plan_size x_plan_goal x_plan_parts x_now_targets_size x_now_targets_guards x_now_targets_saved x_now_targets_lost x_now_targets_gain x_now_targets_gap x_now_targets_least x_now_targets_most N q1 e1) gX10_worth_X3_make rfl rfl rfl (by decide +kernel) ⟨Nat.le_of_ble_eq_true rfl, Nat.le_of_ble_eq_true rfl⟩ rfl rfl rfl (Nat.le_of_ble_eq_true rfl) rfl dX10_worth_11 [9, 10, 2, 3, 4, 5, 6, 7, 8] [0, 1] [0, 1, 4, 5, 6, 7, 8, 9, 10, 2, 3] rfl rfl rfl rfl (by decide) rfl rfl rfl (fun H locs hP hD hS => ?_)
  refine lv_if_ne (tgt := 20) hx hb dX10_worth_14 (by decide) (fun c2 => ?_) (fun c2 => ?_)
  · have h := iff_ c2 h
    refine lv_aload_n hx hb dX10_worth_20 rfl (lv_at hl 0 rfl) ?_
    refine lv_aload_n hx hb dX10_worth_21 rfl (lv_at hl 0 rfl) ?_
    refine va_get (D := D) (ci := 10) (v := .ref a_x_plan) (C := RX10) (T := TX10) (N := 10) hx hb hts in_X10_worth_X10 hown hK hP 0 rfl rfl 3 (by decide) (hts _ mb_X10_worth_0) (fun _ h9 => h9) rfl dX10_worth_22 ?_
    refine lv_aload_n hx hb dX10_worth_25 rfl (lv_at hl 0 rfl) ?_
    refine va_get (D := D) (ci := 10) (v := .ref a_x_now) (C := RX10) (T := TX10) (N := 10) hx hb hts in_X10_worth_X10 hown hK hP 0 rfl rfl 0 (by decide) (hts _ mb_X10_worth_1) (fun _ h9 => h9) rfl dX10_worth_26 ?_
    refine va_get (D := D) (ci := 6) (v := .ref a_x_now_targets) (C := RX6) (T := TX6) (N := 4) hx hb hts in_X10_worth_X6 hown hK hP 1 rfl rfl 0 (by decide) (hts _ mb_X10_worth_2) (fun _ h9 => h9) rfl dX10_worth_29 ?_
    refine lv_aload_n hx hb dX10_worth_32 rfl (lv_at hl 0 rfl) ?_
    refine va_get (D := D) (ci := 10) (v := .ref a_x_plan) (C := RX10) (T := TX10) (N := 10) hx hb hts in_X10_worth_X10 hown hK hP 0 rfl rfl 3 (by decide) (hts _ mb_X10_worth_0) (fun _ h9 => h9) rfl dX10_worth_33 ?_
    refine va_get (D := D) (ci := 3) (v := .int q1.2.2.2.2.2.1) (C := RX3) (T := TX3) (N := 6) hx hb hts in_X10_worth_X3 hown hK hP 9 rfl rfl 4 (by decide) (hts _ mb_X10_worth_3) (fun _ h9 => h9) rfl dX10_worth_36 ?_
    obtain ⟨q3, e3, h⟩ := bd_some h
    refine g_callV (index := 128) (maxL := 3) (n := 2) (As := [.ref a_x_now_targets, .int q1.2.2.2.2.2.1]) (rest := [.ref a_x]) (st1 := [.long q3, .ref a_x]) (C1 := RX3) (T1 := TX3) (N1 := 6) (ws2 := (w_X10_worth cI cJ cZ cG a_x a_x_now a_x_kept a_x_sheets a_x_plan a_x_draw a_x_blockade a_x_watch a_x_now_targets a_x_now_roads a_x_now_posts a_x_now_haunts a_x_now_targets_kind a_x_now_targets_saved a_x_now_targets_lost a_x_now_targets_gain a_x_now_targets_gap a_x_now_targets_least a_x_now_targets_most a_x_now_targets_hand a_x_plan_parts x_isKept x_latestBelow x_findings x_now_targets_size x_now_targets_guards x_now_targets_saved x_now_targets_lost x_now_targets_gain x_now_targets_gap x_now_targets_least x_now_targets_most q1.2.1 q1.2.2.1 q1.2.2.2.1 q1.2.2.2.2.1 q1.2.2.2.2.2.1 q1.2.2.2.2.2.2)) C hP hD hS hl.1 3 0 (c_X3_keeperParts l D cI cJ cZ cG a_x_plan a_x_plan_parts a_x_now_targets a_x_now_targets_kind a_x_now_targets_saved a_x_now_targets_lost a_x_now_targets_gain a_x_now_targets_gap a_x_now_targets_least a_x_now_targets_most a_x_now_targets_hand q1.2.1 q1.2.2.1 q1.2.2.2.1 q1.2.2.2.2.1 q1.2.2.2.2.2.1 q1.2.2.2.2.2.2 x_now_targets_size x_now_targets_guards x_now_targets_saved x_now_targets_lost q1.2.2.2.2.2.1 q3 e3) gX10_worth_X3_keeperParts rfl rfl rfl (by decide +kernel) ⟨Nat.le_of_ble_eq_true rfl, Nat.le_of_ble_eq_true rfl⟩ rfl rfl rfl (Nat.le_of_ble_eq_true rfl) rfl dX10_worth_39 [9, 10, 2, 3, 4] [0, 1, 5, 6, 7, 8] [0, 1, 8, 9, 10, 2, 3, 4, 5, 6, 7] rfl rfl rfl rfl (by decide) rfl rfl rfl (fun H locs hP hD hS => ?_)
    refine lv_aload_n hx hb dX10_worth_42 rfl (lv_at hl 0 rfl) ?_
    refine va_get (D := D) (ci := 10) (v := .ref a_x_plan) (C := RX10) (T := TX10) (N := 10) hx hb hts in_X10_worth_X10 hown hK hP 0 rfl rfl 3 (by decide) (hts _ mb_X10_worth_0) (fun _ h9 => h9) rfl dX10_worth_43 ?_
    refine va_get (D := D) (ci := 3) (v := .long q1.2.2.2.1) (C := RX3) (T := TX3) (N := 6) hx hb hts in_X10_worth_X3 hown hK hP 9 rfl rfl 2 (by decide) (hts _ mb_X10_worth_4) (fun _ h9 => h9) rfl dX10_worth_46 ?_
    obtain ⟨q4, e4, h⟩ := bd_some h
    refine g_callV (index := 136) (maxL := 7) (n := 2) (As := [.long q3, .long q1.2.2.2.1]) (rest := []) (st1 := [.int q4.1]) (C1 := RX10) (T1 := TX10) (N1 := 10) (ws2 := (w_X10_worth cI cJ cZ cG a_x a_x_now a_x_kept a_x_sheets a_x_plan a_x_draw a_x_blockade a_x_watch a_x_now_targets a_x_now_roads a_x_now_posts a_x_now_haunts a_x_now_targets_kind a_x_now_targets_saved a_x_now_targets_lost a_x_now_targets_gain a_x_now_targets_gap a_x_now_targets_least a_x_now_targets_most a_x_now_targets_hand a_x_plan_parts x_isKept q4.2 x_findings x_now_targets_size x_now_targets_guards x_now_targets_saved x_now_targets_lost x_now_targets_gain x_now_targets_gap x_now_targets_least x_now_targets_most q1.2.1 q1.2.2.1 q1.2.2.2.1 q1.2.2.2.2.1 q1.2.2.2.2.2.1 q1.2.2.2.2.2.2)) C hP hD hS hl.1 10 0 (c_X10_fraction l D cI cJ cZ cG a_x a_x_now a_x_kept a_x_sheets a_x_plan a_x_draw a_x_blockade a_x_watch x_isKept x_latestBelow x_findings q3 q1.2.2.2.1 N q4 e4) gX10_worth_X10_fraction rfl rfl rfl (by decide +kernel) ⟨Nat.le_of_ble_eq_true rfl, Nat.le_of_ble_eq_true rfl⟩ rfl rfl rfl (Nat.le_of_ble_eq_true rfl) rfl dX10_worth_49 [0] [1, 2, 3, 4, 5, 6, 7, 8, 9, 10] [10, 0, 1, 2, 3, 4, 5, 6, 7, 8, 9] rfl rfl rfl rfl (by decide) rfl rfl rfl (fun H locs hP hD hS => ?_)
    obtain rfl := Option.some.inj h
    exact g_iret C hP hD hS dX10_worth_52
  · have h := ift c2 h
    refine lv_ldc (v := (-1000000003)) hx hb hown (hts _ mb_X10_worth_5) dX10_worth_17 ?_
    obtain rfl := Option.some.inj h
    exact g_iret C hP hD hS dX10_worth_19
theorem in_X10_prize_X10 : ∀ w ∈ wsX100, w ∈ wsX10_prize := by decide +kernel
theorem in_X10_prize_X3 : ∀ w ∈ wsX30, w ∈ wsX10_prize := by decide +kernel
theorem in_X10_prize_X6 : ∀ w ∈ wsX60, w ∈ wsX10_prize := by decide +kernel
theorem mb_X10_prize_0 : Cond.fieldLink RX10 29 "GuardDesk" "plan" "LGuardDesk$Plan;" ∈ wsX10_prize := List.mem_of_getElem? (i := 1) rfl
theorem mb_X10_prize_1 : Cond.fieldLink RX10 10 "GuardDesk" "now" "LGuardDesk$Scene;" ∈ wsX10_prize := List.mem_of_getElem? (i := 2) rfl
theorem mb_X10_prize_2 : Cond.fieldLink RX10 69 "GuardDesk$Scene" "targets" "LGuardDesk$Targets;" ∈ wsX10_prize := List.mem_of_getElem? (i := 3) rfl
theorem mb_X10_prize_3 : Cond.fieldLink RX10 140 "GuardDesk$Plan" "levelAbove" "J" ∈ wsX10_prize := List.mem_of_getElem? (i := 5) rfl
theorem mb_X10_prize_4 : Cond.constantLong RX10 143 (60) ∈ wsX10_prize := List.mem_of_getElem? (i := 6) rfl
theorem mb_X10_prize_5 : Cond.fieldLink RX10 145 "GuardDesk$Plan" "levelBelow" "J" ∈ wsX10_prize := List.mem_of_getElem? (i := 7) rfl
theorem mb_X10_prize_6 : Cond.constant RX10 127 (-1000000003) ∈ wsX10_prize := List.mem_of_getElem? (i := 4) rfl
set_option maxRecDepth 100000 in
set_option maxHeartbeats 4000000 in
theorem c_X10_prize (l : Launch) (D : va_G) (cI cJ cZ cG : ClassId) (a_x a_x_now a_x_kept a_x_sheets a_x_plan a_x_draw a_x_blockade a_x_watch a_x_now_targets a_x_now_roads a_x_now_posts a_x_now_haunts a_x_now_targets_kind a_x_now_targets_saved a_x_now_targets_lost a_x_now_targets_gain a_x_now_targets_gap a_x_now_targets_least a_x_now_targets_most a_x_now_targets_hand a_x_plan_parts : Nat) (x_isKept : Int32) (x_latestBelow : Int32) (x_findings : Int32) (x_now_targets_size : Int32) (x_now_targets_guards : Int32) (x_now_targets_saved : (Nat → Int32)) (x_now_targets_lost : (Nat → Int32)) (x_now_targets_gain : (Nat → Int32)) (x_now_targets_gap : (Nat → Int32)) (x_now_targets_least : (Nat → Int32)) (x_now_targets_most : (Nat → Int32)) (x_plan_levelAbove : Int64) (x_plan_levelBelow : Int64) (x_plan_unit : Int64) (x_plan_size : Int32) (x_plan_goal : Int32) (x_plan_parts : (Nat → Int64)) (N : Nat) (q : Int32 × Int32 × Int64 × Int64 × Int64 × Int32 × Int32 × (Nat → Int64)) (h : f_X10_prize N x_latestBelow x_now_targets_size x_now_targets_guards x_now_targets_saved x_now_targets_lost x_now_targets_gain x_now_targets_gap x_now_targets_least x_now_targets_most x_plan_levelAbove x_plan_levelBelow x_plan_unit x_plan_size x_plan_goal x_plan_parts = some q) : gMet l yX10_prize wsX10_prize rm_X10_prize [.ref a_x] (w_X10_prize cI cJ cZ cG a_x a_x_now a_x_kept a_x_sheets a_x_plan a_x_draw a_x_blockade a_x_watch a_x_now_targets a_x_now_roads a_x_now_posts a_x_now_haunts a_x_now_targets_kind a_x_now_targets_saved a_x_now_targets_lost a_x_now_targets_gain a_x_now_targets_gap a_x_now_targets_least a_x_now_targets_most a_x_now_targets_hand a_x_plan_parts x_isKept x_latestBelow x_findings x_now_targets_size x_now_targets_guards x_now_targets_saved x_now_targets_lost x_now_targets_gain x_now_targets_gap x_now_targets_least x_now_targets_most x_plan_levelAbove x_plan_levelBelow x_plan_unit x_plan_size x_plan_goal x_plan_parts) (w_X10_prize cI cJ cZ cG a_x a_x_now a_x_kept a_x_sheets a_x_plan a_x_draw a_x_blockade a_x_watch a_x_now_targets a_x_now_roads a_x_now_posts a_x_now_haunts a_x_now_targets_kind a_x_now_targets_saved a_x_now_targets_lost a_x_now_targets_gain a_x_now_targets_gap a_x_now_targets_least a_x_now_targets_most a_x_now_targets_hand a_x_plan_parts x_isKept q.2.1 x_findings x_now_targets_size x_now_targets_guards x_now_targets_saved x_now_targets_lost x_now_targets_gain x_now_targets_gap x_now_targets_least x_now_targets_most q.2.2.1 q.2.2.2.1 q.2.2.2.2.1 q.2.2.2.2.2.1 q.2.2.2.2.2.2.1 q.2.2.2.2.2.2.2) (some (.int q.1)) D cI cJ cZ cG := by
  refine g_enter (cc := cX10_prize) (nL := 1) (ret := (some .int)) (by decide) rfl (Nat.le_of_ble_eq_true rfl) ?_
  intro p e s m below meth c A C H locs ls hP hD hS hl
  obtain ⟨hx, hb, hr, hml, hown, hts, hlk, hgk, hA⟩ := id C
  have hK := hgk.1
  have hl : lv_has ls 1 [(0, .ref a_x)] := hl
  unfold f_X10_prize at h
  refine lv_aload_n hx hb dX10_prize_0 rfl (lv_at hl 0 rfl) ?_
  refine va_get (D := D) (ci := 10) (v := .ref a_x_plan) (C := RX10) (T := TX10) (N := 10) hx hb hts in_X10_prize_X10 hown hK hP 0 rfl rfl 3 (by decide) (hts _ mb_X10_prize_0) (fun _ h9 => h9) rfl dX10_prize_1 ?_
  refine lv_aload_n hx hb dX10_prize_4 rfl (lv_at hl 0 rfl) ?_
  refine va_get (D := D) (ci := 10) (v := .ref a_x_now) (C := RX10) (T := TX10) (N := 10) hx hb hts in_X10_prize_X10 hown hK hP 0 rfl rfl 0 (by decide) (hts _ mb_X10_prize_1) (fun _ h9 => h9) rfl dX10_prize_5 ?_
  refine va_get (D := D) (ci := 6) (v := .ref a_x_now_targets) (C := RX6) (T := TX6) (N := 4) hx hb hts in_X10_prize_X6 hown hK hP 1 rfl rfl 0 (by decide) (hts _ mb_X10_prize_2) (fun _ h9 => h9) rfl dX10_prize_8 ?_
  obtain ⟨q1, e1, h⟩ := bd_some h
  refine g_callV (index := 120) (maxL := 6) (n := 1) (As := [.ref a_x_now_targets]) (rest := []) (st1 := [.int q1.1]) (C1 := RX3) (T1 := TX3) (N1 := 6) (ws2 := (w_X10_prize cI cJ cZ cG a_x a_x_now a_x_kept a_x_sheets a_x_plan a_x_draw a_x_blockade a_x_watch a_x_now_targets a_x_now_roads a_x_now_posts a_x_now_haunts a_x_now_targets_kind a_x_now_targets_saved a_x_now_targets_lost a_x_now_targets_gain a_x_now_targets_gap a_x_now_targets_least a_x_now_targets_most a_x_now_targets_hand a_x_plan_parts x_isKept x_latestBelow x_findings x_now_targets_size x_now_targets_guards x_now_targets_saved x_now_targets_lost x_now_targets_gain x_now_targets_gap x_now_targets_least x_now_targets_most q1.2.1 q1.2.2.1 q1.2.2.2.1 q1.2.2.2.2.1 q1.2.2.2.2.2.1 q1.2.2.2.2.2.2)) C hP hD hS hl.1 3 0 (c_X3_make l D cI cJ cZ cG a_x_plan a_x_plan_parts a_x_now_targets a_x_now_targets_kind a_x_now_targets_saved a_x_now_targets_lost a_x_now_targets_gain a_x_now_targets_gap a_x_now_targets_least a_x_now_targets_most a_x_now_targets_hand x_plan_levelAbove x_plan_levelBelow x_plan_unit x_plan_size x_plan_goal x_plan_parts x_now_targets_size x_now_targets_guards x_now_targets_saved x_now_targets_lost x_now_targets_gain x_now_targets_gap x_now_targets_least x_now_targets_most N q1 e1) gX10_prize_X3_make rfl rfl rfl (by decide +kernel) ⟨Nat.le_of_ble_eq_true rfl, Nat.le_of_ble_eq_true rfl⟩ rfl rfl rfl (Nat.le_of_ble_eq_true rfl) rfl dX10_prize_11 [9, 10, 2, 3, 4, 5, 6, 7, 8] [0, 1] [0, 1, 4, 5, 6, 7, 8, 9, 10, 2, 3] rfl rfl rfl rfl (by decide) rfl rfl rfl (fun H locs hP hD hS => ?_)
  refine lv_if_ne (tgt := 20) hx hb dX10_prize_14 (by decide) (fun c2 => ?_) (fun c2 => ?_)
  · have h := iff_ c2 h
    refine lv_aload_n hx hb dX10_prize_20 rfl (lv_at hl 0 rfl) ?_
    refine lv_aload_n hx hb dX10_prize_21 rfl (lv_at hl 0 rfl) ?_
    refine va_get (D := D) (ci := 10) (v := .ref a_x_plan) (C := RX10) (T := TX10) (N := 10) hx hb hts in_X10_prize_X10 hown hK hP 0 rfl rfl 3 (by decide) (hts _ mb_X10_prize_0) (fun _ h9 => h9) rfl dX10_prize_22 ?_
    refine va_get (D := D) (ci := 3) (v := .long q1.2.1) (C := RX3) (T := TX3) (N := 6) hx hb hts in_X10_prize_X3 hown hK hP 9 rfl rfl 0 (by decide) (hts _ mb_X10_prize_3) (fun _ h9 => h9) rfl dX10_prize_25 ?_
    refine lv_ldc2 (v := 60) hx hb hown (hts _ mb_X10_prize_4) dX10_prize_28 ?_
    refine lv_aload_n hx hb dX10_prize_31 rfl (lv_at hl 0 rfl) ?_
    refine va_get (D := D) (ci := 10) (v := .ref a_x_plan) (C := RX10) (T := TX10) (N := 10) hx hb hts in_X10_prize_X10 hown hK hP 0 rfl rfl 3 (by decide) (hts _ mb_X10_prize_0) (fun _ h9 => h9) rfl dX10_prize_32 ?_
    refine va_get (D := D) (ci := 3) (v := .long q1.2.2.1) (C := RX3) (T := TX3) (N := 6) hx hb hts in_X10_prize_X3 hown hK hP 9 rfl rfl 1 (by decide) (hts _ mb_X10_prize_5) (fun _ h9 => h9) rfl dX10_prize_35 ?_
    refine lv_lmul hx hb dX10_prize_38 ?_
    obtain ⟨q3, e3, h⟩ := bd_some h
    refine g_callV (index := 136) (maxL := 7) (n := 2) (As := [.long q1.2.1, .long (60 * q1.2.2.1)]) (rest := []) (st1 := [.int q3.1]) (C1 := RX10) (T1 := TX10) (N1 := 10) (ws2 := (w_X10_prize cI cJ cZ cG a_x a_x_now a_x_kept a_x_sheets a_x_plan a_x_draw a_x_blockade a_x_watch a_x_now_targets a_x_now_roads a_x_now_posts a_x_now_haunts a_x_now_targets_kind a_x_now_targets_saved a_x_now_targets_lost a_x_now_targets_gain a_x_now_targets_gap a_x_now_targets_least a_x_now_targets_most a_x_now_targets_hand a_x_plan_parts x_isKept q3.2 x_findings x_now_targets_size x_now_targets_guards x_now_targets_saved x_now_targets_lost x_now_targets_gain x_now_targets_gap x_now_targets_least x_now_targets_most q1.2.1 q1.2.2.1 q1.2.2.2.1 q1.2.2.2.2.1 q1.2.2.2.2.2.1 q1.2.2.2.2.2.2)) C hP hD hS hl.1 10 0 (c_X10_fraction l D cI cJ cZ cG a_x a_x_now a_x_kept a_x_sheets a_x_plan a_x_draw a_x_blockade a_x_watch x_isKept x_latestBelow x_findings q1.2.1 (60 * q1.2.2.1) N q3 e3) gX10_prize_X10_fraction rfl rfl rfl (by decide +kernel) ⟨Nat.le_of_ble_eq_true rfl, Nat.le_of_ble_eq_true rfl⟩ rfl rfl rfl (Nat.le_of_ble_eq_true rfl) rfl dX10_prize_39 [0] [1, 2, 3, 4, 5, 6, 7, 8, 9, 10] [10, 0, 1, 2, 3, 4, 5, 6, 7, 8, 9] rfl rfl rfl rfl (by decide) rfl rfl rfl (fun H locs hP hD hS => ?_)
    obtain rfl := Option.some.inj h
    exact g_iret C hP hD hS dX10_prize_42
  · have h := ift c2 h
    refine lv_ldc (v := (-1000000003)) hx hb hown (hts _ mb_X10_prize_6) dX10_prize_17 ?_
    obtain rfl := Option.some.inj h
    exact g_iret C hP hD hS dX10_prize_19
theorem in_X10_share_X10 : ∀ w ∈ wsX100, w ∈ wsX10_share := by decide +kernel
theorem in_X10_share_X3 : ∀ w ∈ wsX30, w ∈ wsX10_share := by decide +kernel
theorem in_X10_share_X6 : ∀ w ∈ wsX60, w ∈ wsX10_share := by decide +kernel
theorem mb_X10_share_0 : Cond.fieldLink RX10 10 "GuardDesk" "now" "LGuardDesk$Scene;" ∈ wsX10_share := List.mem_of_getElem? (i := 1) rfl
theorem mb_X10_share_1 : Cond.fieldLink RX10 69 "GuardDesk$Scene" "targets" "LGuardDesk$Targets;" ∈ wsX10_share := List.mem_of_getElem? (i := 2) rfl
theorem mb_X10_share_2 : Cond.fieldLink RX10 29 "GuardDesk" "plan" "LGuardDesk$Plan;" ∈ wsX10_share := List.mem_of_getElem? (i := 4) rfl
theorem mb_X10_share_3 : Cond.fieldLink RX10 148 "GuardDesk$Plan" "parts" "[J" ∈ wsX10_share := List.mem_of_getElem? (i := 6) rfl
theorem mb_X10_share_4 : Cond.fieldLink RX10 132 "GuardDesk$Plan" "unit" "J" ∈ wsX10_share := List.mem_of_getElem? (i := 7) rfl
theorem mb_X10_share_5 : Cond.constant RX10 127 (-1000000003) ∈ wsX10_share := List.mem_of_getElem? (i := 5) rfl
theorem mb_X10_share_6 : Cond.constant RX10 78 (-1000000002) ∈ wsX10_share := List.mem_of_getElem? (i := 3) rfl
set_option maxRecDepth 100000 in
set_option maxHeartbeats 4000000 in
theorem c_X10_share (l : Launch) (D : va_G) (cI cJ cZ cG : ClassId) (a_x a_x_now a_x_kept a_x_sheets a_x_plan a_x_draw a_x_blockade a_x_watch a_x_now_targets a_x_now_roads a_x_now_posts a_x_now_haunts a_x_now_targets_kind a_x_now_targets_saved a_x_now_targets_lost a_x_now_targets_gain a_x_now_targets_gap a_x_now_targets_least a_x_now_targets_most a_x_now_targets_hand a_x_plan_parts : Nat) (x_isKept : Int32) (x_latestBelow : Int32) (x_findings : Int32) (x_now_targets_size : Int32) (x_now_targets_guards : Int32) (x_now_targets_saved : (Nat → Int32)) (x_now_targets_lost : (Nat → Int32)) (x_now_targets_gain : (Nat → Int32)) (x_now_targets_gap : (Nat → Int32)) (x_now_targets_least : (Nat → Int32)) (x_now_targets_most : (Nat → Int32)) (x_plan_levelAbove : Int64) (x_plan_levelBelow : Int64) (x_plan_unit : Int64) (x_plan_size : Int32) (x_plan_goal : Int32) (x_plan_parts : (Nat → Int64)) (p1 : Int32) (N : Nat) (q : Int32 × Int32 × Int64 × Int64 × Int64 × Int32 × Int32 × (Nat → Int64)) (h : f_X10_share N x_latestBelow x_now_targets_size x_now_targets_guards x_now_targets_saved x_now_targets_lost x_now_targets_gain x_now_targets_gap x_now_targets_least x_now_targets_most x_plan_levelAbove x_plan_levelBelow x_plan_unit x_plan_size x_plan_goal x_plan_parts p1 = some q) : gMet l yX10_share wsX10_share rm_X10_share [.ref a_x, .int p1] (w_X10_share cI cJ cZ cG a_x a_x_now a_x_kept a_x_sheets a_x_plan a_x_draw a_x_blockade a_x_watch a_x_now_targets a_x_now_roads a_x_now_posts a_x_now_haunts a_x_now_targets_kind a_x_now_targets_saved a_x_now_targets_lost a_x_now_targets_gain a_x_now_targets_gap a_x_now_targets_least a_x_now_targets_most a_x_now_targets_hand a_x_plan_parts x_isKept x_latestBelow x_findings x_now_targets_size x_now_targets_guards x_now_targets_saved x_now_targets_lost x_now_targets_gain x_now_targets_gap x_now_targets_least x_now_targets_most x_plan_levelAbove x_plan_levelBelow x_plan_unit x_plan_size x_plan_goal x_plan_parts) (w_X10_share cI cJ cZ cG a_x a_x_now a_x_kept a_x_sheets a_x_plan a_x_draw a_x_blockade a_x_watch a_x_now_targets a_x_now_roads a_x_now_posts a_x_now_haunts a_x_now_targets_kind a_x_now_targets_saved a_x_now_targets_lost a_x_now_targets_gain a_x_now_targets_gap a_x_now_targets_least a_x_now_targets_most a_x_now_targets_hand a_x_plan_parts x_isKept q.2.1 x_findings x_now_targets_size x_now_targets_guards x_now_targets_saved x_now_targets_lost x_now_targets_gain x_now_targets_gap x_now_targets_least x_now_targets_most q.2.2.1 q.2.2.2.1 q.2.2.2.2.1 q.2.2.2.2.2.1 q.2.2.2.2.2.2.1 q.2.2.2.2.2.2.2) (some (.int q.1)) D cI cJ cZ cG := by
  refine g_enter (cc := cX10_share) (nL := 2) (ret := (some .int)) (by decide) rfl (Nat.le_of_ble_eq_true rfl) ?_
  intro p e s m below meth c A C H locs ls hP hD hS hl
  obtain ⟨hx, hb, hr, hml, hown, hts, hlk, hgk, hA⟩ := id C
  have hK := hgk.1
  have hl : lv_has ls 2 [(0, .ref a_x), (1, .int p1)] := hl
  unfold f_X10_share at h
  refine lv_aload_n hx hb dX10_share_0 rfl (lv_at hl 0 rfl) ?_
  refine va_get (D := D) (ci := 10) (v := .ref a_x_now) (C := RX10) (T := TX10) (N := 10) hx hb hts in_X10_share_X10 hown hK hP 0 rfl rfl 0 (by decide) (hts _ mb_X10_share_0) (fun _ h9 => h9) rfl dX10_share_1 ?_
  refine va_get (D := D) (ci := 6) (v := .ref a_x_now_targets) (C := RX6) (T := TX6) (N := 4) hx hb hts in_X10_share_X6 hown hK hP 1 rfl rfl 0 (by decide) (hts _ mb_X10_share_1) (fun _ h9 => h9) rfl dX10_share_4 ?_
  refine lv_iload_n hx hb dX10_share_7 rfl (lv_at hl 1 rfl) ?_
  refine g_callV (index := 83) (maxL := 2) (n := 1) (As := [.int p1]) (rest := []) (st1 := [.int (f_X8_has x_now_targets_size p1)]) (C1 := RX8) (T1 := TX8) (N1 := 10) (ws2 := (w_X10_share cI cJ cZ cG a_x a_x_now a_x_kept a_x_sheets a_x_plan a_x_draw a_x_blockade a_x_watch a_x_now_targets a_x_now_roads a_x_now_posts a_x_now_haunts a_x_now_targets_kind a_x_now_targets_saved a_x_now_targets_lost a_x_now_targets_gain a_x_now_targets_gap a_x_now_targets_least a_x_now_targets_most a_x_now_targets_hand a_x_plan_parts x_isKept x_latestBelow x_findings x_now_targets_size x_now_targets_guards x_now_targets_saved x_now_targets_lost x_now_targets_gain x_now_targets_gap x_now_targets_least x_now_targets_most x_plan_levelAbove x_plan_levelBelow x_plan_unit x_plan_size x_plan_goal x_plan_parts)) C hP hD hS hl.1 8 0 (c_X8_has l D cI cJ cZ cG a_x_now_targets a_x_now_targets_kind a_x_now_targets_saved a_x_now_targets_lost a_x_now_targets_gain a_x_now_targets_gap a_x_now_targets_least a_x_now_targets_most a_x_now_targets_hand x_now_targets_size x_now_targets_guards p1 _ rfl) gX10_share_X8_has rfl rfl rfl (by decide +kernel) ⟨Nat.le_of_ble_eq_true rfl, Nat.le_of_ble_eq_true rfl⟩ rfl rfl rfl (Nat.le_of_ble_eq_true rfl) rfl dX10_share_8 [2] [0, 1, 3, 4, 5, 6, 7, 8, 9, 10] [0, 1, 10, 2, 3, 4, 5, 6, 7, 8, 9] rfl rfl rfl rfl (by decide) rfl rfl rfl (fun H locs hP hD hS => ?_)
  refine lv_if_ne (tgt := 17) hx hb dX10_share_11 (by decide) (fun c1 => ?_) (fun c1 => ?_)
  · have h := iff_ c1 h
    refine lv_aload_n hx hb dX10_share_17 rfl (lv_at hl 0 rfl) ?_
    refine va_get (D := D) (ci := 10) (v := .ref a_x_plan) (C := RX10) (T := TX10) (N := 10) hx hb hts in_X10_share_X10 hown hK hP 0 rfl rfl 3 (by decide) (hts _ mb_X10_share_2) (fun _ h9 => h9) rfl dX10_share_18 ?_
    refine lv_aload_n hx hb dX10_share_21 rfl (lv_at hl 0 rfl) ?_
    refine va_get (D := D) (ci := 10) (v := .ref a_x_now) (C := RX10) (T := TX10) (N := 10) hx hb hts in_X10_share_X10 hown hK hP 0 rfl rfl 0 (by decide) (hts _ mb_X10_share_0) (fun _ h9 => h9) rfl dX10_share_22 ?_
    refine va_get (D := D) (ci := 6) (v := .ref a_x_now_targets) (C := RX6) (T := TX6) (N := 4) hx hb hts in_X10_share_X6 hown hK hP 1 rfl rfl 0 (by decide) (hts _ mb_X10_share_1) (fun _ h9 => h9) rfl dX10_share_25 ?_
    obtain ⟨q2, e2, h⟩ := bd_some h
    refine g_callV (index := 120) (maxL := 6) (n := 1) (As := [.ref a_x_now_targets]) (rest := []) (st1 := [.int q2.1]) (C1 := RX3) (T1 := TX3) (N1 := 6) (ws2 := (w_X10_share cI cJ cZ cG a_x a_x_now a_x_kept a_x_sheets a_x_plan a_x_draw a_x_blockade a_x_watch a_x_now_targets a_x_now_roads a_x_now_posts a_x_now_haunts a_x_now_targets_kind a_x_now_targets_saved a_x_now_targets_lost a_x_now_targets_gain a_x_now_targets_gap a_x_now_targets_least a_x_now_targets_most a_x_now_targets_hand a_x_plan_parts x_isKept x_latestBelow x_findings x_now_targets_size x_now_targets_guards x_now_targets_saved x_now_targets_lost x_now_targets_gain x_now_targets_gap x_now_targets_least x_now_targets_most q2.2.1 q2.2.2.1 q2.2.2.2.1 q2.2.2.2.2.1 q2.2.2.2.2.2.1 q2.2.2.2.2.2.2)) C hP hD hS hl.1 3 0 (c_X3_make l D cI cJ cZ cG a_x_plan a_x_plan_parts a_x_now_targets a_x_now_targets_kind a_x_now_targets_saved a_x_now_targets_lost a_x_now_targets_gain a_x_now_targets_gap a_x_now_targets_least a_x_now_targets_most a_x_now_targets_hand x_plan_levelAbove x_plan_levelBelow x_plan_unit x_plan_size x_plan_goal x_plan_parts x_now_targets_size x_now_targets_guards x_now_targets_saved x_now_targets_lost x_now_targets_gain x_now_targets_gap x_now_targets_least x_now_targets_most N q2 e2) gX10_share_X3_make rfl rfl rfl (by decide +kernel) ⟨Nat.le_of_ble_eq_true rfl, Nat.le_of_ble_eq_true rfl⟩ rfl rfl rfl (Nat.le_of_ble_eq_true rfl) rfl dX10_share_28 [9, 10, 2, 3, 4, 5, 6, 7, 8] [0, 1] [0, 1, 4, 5, 6, 7, 8, 9, 10, 2, 3] rfl rfl rfl rfl (by decide) rfl rfl rfl (fun H locs hP hD hS => ?_)
    refine lv_if_ne (tgt := 37) hx hb dX10_share_31 (by decide) (fun c3 => ?_) (fun c3 => ?_)
    · have h := iff_ c3 h
      refine lv_aload_n hx hb dX10_share_37 rfl (lv_at hl 0 rfl) ?_
      refine lv_aload_n hx hb dX10_share_38 rfl (lv_at hl 0 rfl) ?_
      refine va_get (D := D) (ci := 10) (v := .ref a_x_plan) (C := RX10) (T := TX10) (N := 10) hx hb hts in_X10_share_X10 hown hK hP 0 rfl rfl 3 (by decide) (hts _ mb_X10_share_2) (fun _ h9 => h9) rfl dX10_share_39 ?_
      refine va_get (D := D) (ci := 3) (v := .ref a_x_plan_parts) (C := RX3) (T := TX3) (N := 6) hx hb hts in_X10_share_X3 hown hK hP 9 rfl rfl 5 (by decide) (hts _ mb_X10_share_3) (fun _ h9 => h9) rfl dX10_share_42 ?_
      refine lv_iload_n hx hb dX10_share_45 rfl (lv_at hl 1 rfl) ?_
      obtain ⟨i4, h⟩ := gI_some h
      refine va_lald hx hb hK hP 10 1 rfl rfl i4 dX10_share_46 ?_
      refine lv_aload_n hx hb dX10_share_47 rfl (lv_at hl 0 rfl) ?_
      refine va_get (D := D) (ci := 10) (v := .ref a_x_plan) (C := RX10) (T := TX10) (N := 10) hx hb hts in_X10_share_X10 hown hK hP 0 rfl rfl 3 (by decide) (hts _ mb_X10_share_2) (fun _ h9 => h9) rfl dX10_share_48 ?_
      refine va_get (D := D) (ci := 3) (v := .long q2.2.2.2.1) (C := RX3) (T := TX3) (N := 6) hx hb hts in_X10_share_X3 hown hK hP 9 rfl rfl 2 (by decide) (hts _ mb_X10_share_4) (fun _ h9 => h9) rfl dX10_share_51 ?_
      obtain ⟨q5, e5, h⟩ := bd_some h
      refine g_callV (index := 136) (maxL := 7) (n := 2) (As := [.long (q2.2.2.2.2.2.2 p1.toNatClampNeg), .long q2.2.2.2.1]) (rest := []) (st1 := [.int q5.1]) (C1 := RX10) (T1 := TX10) (N1 := 10) (ws2 := (w_X10_share cI cJ cZ cG a_x a_x_now a_x_kept a_x_sheets a_x_plan a_x_draw a_x_blockade a_x_watch a_x_now_targets a_x_now_roads a_x_now_posts a_x_now_haunts a_x_now_targets_kind a_x_now_targets_saved a_x_now_targets_lost a_x_now_targets_gain a_x_now_targets_gap a_x_now_targets_least a_x_now_targets_most a_x_now_targets_hand a_x_plan_parts x_isKept q5.2 x_findings x_now_targets_size x_now_targets_guards x_now_targets_saved x_now_targets_lost x_now_targets_gain x_now_targets_gap x_now_targets_least x_now_targets_most q2.2.1 q2.2.2.1 q2.2.2.2.1 q2.2.2.2.2.1 q2.2.2.2.2.2.1 q2.2.2.2.2.2.2)) C hP hD hS hl.1 10 0 (c_X10_fraction l D cI cJ cZ cG a_x a_x_now a_x_kept a_x_sheets a_x_plan a_x_draw a_x_blockade a_x_watch x_isKept x_latestBelow x_findings (q2.2.2.2.2.2.2 p1.toNatClampNeg) q2.2.2.2.1 N q5 e5) gX10_share_X10_fraction rfl rfl rfl (by decide +kernel) ⟨Nat.le_of_ble_eq_true rfl, Nat.le_of_ble_eq_true rfl⟩ rfl rfl rfl (Nat.le_of_ble_eq_true rfl) rfl dX10_share_54 [0] [1, 2, 3, 4, 5, 6, 7, 8, 9, 10] [10, 0, 1, 2, 3, 4, 5, 6, 7, 8, 9] rfl rfl rfl rfl (by decide) rfl rfl rfl (fun H locs hP hD hS => ?_)
      obtain rfl := Option.some.inj h
      exact g_iret C hP hD hS dX10_share_57
    · have h := ift c3 h
      refine lv_ldc (v := (-1000000003)) hx hb hown (hts _ mb_X10_share_5) dX10_share_34 ?_
      obtain rfl := Option.some.inj h
      exact g_iret C hP hD hS dX10_share_36
  · have h := ift c1 h
    refine lv_ldc (v := (-1000000002)) hx hb hown (hts _ mb_X10_share_6) dX10_share_14 ?_
    obtain rfl := Option.some.inj h
    exact g_iret C hP hD hS dX10_share_16
theorem in_X10_below_X10 : ∀ w ∈ wsX100, w ∈ wsX10_below := by decide +kernel
theorem mb_X10_below_0 : Cond.fieldLink RX10 54 "GuardDesk" "latestBelow" "I" ∈ wsX10_below := List.mem_of_getElem? (i := 1) rfl
set_option maxRecDepth 100000 in
set_option maxHeartbeats 4000000 in
theorem c_X10_below (l : Launch) (D : va_G) (cI cJ cZ cG : ClassId) (a_x a_x_now a_x_kept a_x_sheets a_x_plan a_x_draw a_x_blockade a_x_watch : Nat) (x_isKept : Int32) (x_latestBelow : Int32) (x_findings : Int32) (q : Int32) (h : f_X10_below x_latestBelow = q) : gMet l yX10_below wsX10_below rm_X10_below [.ref a_x] (w_X10_below cI cJ cZ cG a_x a_x_now a_x_kept a_x_sheets a_x_plan a_x_draw a_x_blockade a_x_watch x_isKept x_latestBelow x_findings) (w_X10_below cI cJ cZ cG a_x a_x_now a_x_kept a_x_sheets a_x_plan a_x_draw a_x_blockade a_x_watch x_isKept x_latestBelow x_findings) (some (.int q)) D cI cJ cZ cG := by
  refine g_enter (cc := cX10_below) (nL := 1) (ret := (some .int)) (by decide) rfl (Nat.le_of_ble_eq_true rfl) ?_
  intro p e s m below meth c A C H locs ls hP hD hS hl
  obtain ⟨hx, hb, hr, hml, hown, hts, hlk, hgk, hA⟩ := id C
  have hK := hgk.1
  have hl : lv_has ls 1 [(0, .ref a_x)] := hl
  unfold f_X10_below at h
  refine lv_aload_n hx hb dX10_below_0 rfl (lv_at hl 0 rfl) ?_
  refine va_get (D := D) (ci := 10) (v := .int x_latestBelow) (C := RX10) (T := TX10) (N := 10) hx hb hts in_X10_below_X10 hown hK hP 0 rfl rfl 8 (by decide) (hts _ mb_X10_below_0) (fun _ h9 => h9) rfl dX10_below_1 ?_
  obtain rfl := h
  exact g_iret C hP hD hS dX10_below_4
theorem in_X10_put_X10 : ∀ w ∈ wsX100, w ∈ wsX10_put := by decide +kernel
theorem in_X10_put_X6 : ∀ w ∈ wsX60, w ∈ wsX10_put := by decide +kernel
theorem in_X10_put_X8 : ∀ w ∈ wsX80, w ∈ wsX10_put := by decide +kernel
theorem mb_X10_put_0 : Cond.fieldLink RX10 10 "GuardDesk" "now" "LGuardDesk$Scene;" ∈ wsX10_put := List.mem_of_getElem? (i := 1) rfl
theorem mb_X10_put_1 : Cond.fieldLink RX10 69 "GuardDesk$Scene" "targets" "LGuardDesk$Targets;" ∈ wsX10_put := List.mem_of_getElem? (i := 2) rfl
theorem mb_X10_put_2 : Cond.constant RX10 78 (-1000000002) ∈ wsX10_put := List.mem_of_getElem? (i := 5) rfl
theorem mb_X10_put_3 : Cond.fieldLink RX10 95 "GuardDesk$Targets" "least" "[I" ∈ wsX10_put := List.mem_of_getElem? (i := 3) rfl
theorem mb_X10_put_4 : Cond.fieldLink RX10 98 "GuardDesk$Targets" "most" "[I" ∈ wsX10_put := List.mem_of_getElem? (i := 4) rfl
theorem mb_X10_put_5 : Cond.fieldLink RX10 116 "GuardDesk$Targets" "hand" "[I" ∈ wsX10_put := List.mem_of_getElem? (i := 6) rfl
set_option maxRecDepth 100000 in
set_option maxHeartbeats 4000000 in
theorem c_X10_put (l : Launch) (D : va_G) (cI cJ cZ cG : ClassId) (a_x a_x_now a_x_kept a_x_sheets a_x_plan a_x_draw a_x_blockade a_x_watch a_x_now_targets a_x_now_roads a_x_now_posts a_x_now_haunts a_x_now_targets_kind a_x_now_targets_saved a_x_now_targets_lost a_x_now_targets_gain a_x_now_targets_gap a_x_now_targets_least a_x_now_targets_most a_x_now_targets_hand : Nat) (x_isKept : Int32) (x_latestBelow : Int32) (x_findings : Int32) (x_now_targets_size : Int32) (x_now_targets_guards : Int32) (x_now_targets_least : (Nat → Int32)) (x_now_targets_most : (Nat → Int32)) (x_now_targets_hand : (Nat → Int32)) (p1 : Int32) (p2 : Int32) (q : Int32 × (Nat → Int32)) (h : f_X10_put x_now_targets_size x_now_targets_least x_now_targets_most x_now_targets_hand p1 p2 = some q) : gMet l yX10_put wsX10_put rm_X10_put [.ref a_x, .int p1, .int p2] (w_X10_put cI cJ cZ cG a_x a_x_now a_x_kept a_x_sheets a_x_plan a_x_draw a_x_blockade a_x_watch a_x_now_targets a_x_now_roads a_x_now_posts a_x_now_haunts a_x_now_targets_kind a_x_now_targets_saved a_x_now_targets_lost a_x_now_targets_gain a_x_now_targets_gap a_x_now_targets_least a_x_now_targets_most a_x_now_targets_hand x_isKept x_latestBelow x_findings x_now_targets_size x_now_targets_guards x_now_targets_least x_now_targets_most x_now_targets_hand) (w_X10_put cI cJ cZ cG a_x a_x_now a_x_kept a_x_sheets a_x_plan a_x_draw a_x_blockade a_x_watch a_x_now_targets a_x_now_roads a_x_now_posts a_x_now_haunts a_x_now_targets_kind a_x_now_targets_saved a_x_now_targets_lost a_x_now_targets_gain a_x_now_targets_gap a_x_now_targets_least a_x_now_targets_most a_x_now_targets_hand x_isKept x_latestBelow x_findings x_now_targets_size x_now_targets_guards x_now_targets_least x_now_targets_most q.2) (some (.int q.1)) D cI cJ cZ cG := by
  refine g_enter (cc := cX10_put) (nL := 5) (ret := (some .int)) (by decide) rfl (Nat.le_of_ble_eq_true rfl) ?_
  intro p e s m below meth c A C H locs ls hP hD hS hl
  obtain ⟨hx, hb, hr, hml, hown, hts, hlk, hgk, hA⟩ := id C
  have hK := hgk.1
  have hl : lv_has ls 5 [(0, .ref a_x), (1, .int p1), (2, .int p2)] := hl
  unfold f_X10_put at h
  refine lv_aload_n hx hb dX10_put_0 rfl (lv_at hl 0 rfl) ?_
  refine va_get (D := D) (ci := 10) (v := .ref a_x_now) (C := RX10) (T := TX10) (N := 10) hx hb hts in_X10_put_X10 hown hK hP 0 rfl rfl 0 (by decide) (hts _ mb_X10_put_0) (fun _ h9 => h9) rfl dX10_put_1 ?_
  refine va_get (D := D) (ci := 6) (v := .ref a_x_now_targets) (C := RX6) (T := TX6) (N := 4) hx hb hts in_X10_put_X6 hown hK hP 1 rfl rfl 0 (by decide) (hts _ mb_X10_put_1) (fun _ h9 => h9) rfl dX10_put_4 ?_
  refine lv_astore_n (lv' := [(3, .ref a_x_now_targets), (0, .ref a_x), (1, .int p1), (2, .int p2)]) hx hb dX10_put_7 rfl hl (by decide) rfl (fun ls hl => ?_)
  refine lv_aload_n hx hb dX10_put_8 rfl (lv_at hl 0 rfl) ?_
  refine lv_iload_n hx hb dX10_put_9 rfl (lv_at hl 2 rfl) ?_
  refine g_callV (index := 83) (maxL := 2) (n := 1) (As := [.int p1]) (rest := []) (st1 := [.int (f_X8_has x_now_targets_size p1)]) (C1 := RX8) (T1 := TX8) (N1 := 10) (ws2 := (w_X10_put cI cJ cZ cG a_x a_x_now a_x_kept a_x_sheets a_x_plan a_x_draw a_x_blockade a_x_watch a_x_now_targets a_x_now_roads a_x_now_posts a_x_now_haunts a_x_now_targets_kind a_x_now_targets_saved a_x_now_targets_lost a_x_now_targets_gain a_x_now_targets_gap a_x_now_targets_least a_x_now_targets_most a_x_now_targets_hand x_isKept x_latestBelow x_findings x_now_targets_size x_now_targets_guards x_now_targets_least x_now_targets_most x_now_targets_hand)) C hP hD hS hl.1 8 0 (c_X8_has l D cI cJ cZ cG a_x_now_targets a_x_now_targets_kind a_x_now_targets_saved a_x_now_targets_lost a_x_now_targets_gain a_x_now_targets_gap a_x_now_targets_least a_x_now_targets_most a_x_now_targets_hand x_now_targets_size x_now_targets_guards p1 _ rfl) gX10_put_X8_has rfl rfl rfl (by decide +kernel) ⟨Nat.le_of_ble_eq_true rfl, Nat.le_of_ble_eq_true rfl⟩ rfl rfl rfl (Nat.le_of_ble_eq_true rfl) rfl dX10_put_10 [2] [0, 1, 3, 4, 5] [0, 1, 5, 2, 3, 4] rfl rfl rfl rfl (by decide) rfl rfl rfl (fun H locs hP hD hS => ?_)
  refine lv_if_eq (tgt := 35) hx hb dX10_put_13 (by decide) (fun c1 => ?_) (fun c1 => ?_)
  · have h := ift c1 h
    refine lv_ldc (v := (-1000000002)) hx hb hown (hts _ mb_X10_put_2) dX10_put_35 ?_
    obtain rfl := Option.some.inj h
    exact g_iret C hP hD hS dX10_put_37
  · have h := iff_ c1 h
    refine lv_iload_n hx hb dX10_put_16 rfl (lv_at hl 3 rfl) ?_
    refine lv_aload_n hx hb dX10_put_17 rfl (lv_at hl 0 rfl) ?_
    refine va_get (D := D) (ci := 8) (v := .ref a_x_now_targets_least) (C := RX8) (T := TX8) (N := 10) hx hb hts in_X10_put_X8 hown hK hP 2 rfl rfl 7 (by decide) (hts _ mb_X10_put_3) (fun _ h9 => h9) rfl dX10_put_18 ?_
    refine lv_iload_n hx hb dX10_put_21 rfl (lv_at hl 2 rfl) ?_
    obtain ⟨i2, h⟩ := gI_some h
    refine va_iald hx hb hK hP 3 0 rfl rfl i2 dX10_put_22 ?_
    refine lv_aload_n hx hb dX10_put_23 rfl (lv_at hl 0 rfl) ?_
    refine va_get (D := D) (ci := 8) (v := .ref a_x_now_targets_most) (C := RX8) (T := TX8) (N := 10) hx hb hts in_X10_put_X8 hown hK hP 2 rfl rfl 8 (by decide) (hts _ mb_X10_put_4) (fun _ h9 => h9) rfl dX10_put_24 ?_
    refine lv_iload_n hx hb dX10_put_27 rfl (lv_at hl 2 rfl) ?_
    obtain ⟨i3, h⟩ := gI_some h
    refine va_iald hx hb hK hP 4 0 rfl rfl i3 dX10_put_28 ?_
    refine g_callS0 (index := 58) (maxL := 3) (n := 3) (As := [.int p2, .int (x_now_targets_least p1.toNatClampNeg), .int (x_now_targets_most p1.toNatClampNeg)]) (rest := []) (st1 := [.int (f_X10_isFrom p2 (x_now_targets_least p1.toNatClampNeg) (x_now_targets_most p1.toNatClampNeg))]) C hP hS hl.1 (c_X10_isFrom l D cI cJ cZ cG p2 (x_now_targets_least p1.toNatClampNeg) (x_now_targets_most p1.toNatClampNeg) _ rfl) gX10_put_X10_isFrom rfl rfl rfl (by decide +kernel) ⟨Nat.le_of_ble_eq_true rfl, Nat.le_of_ble_eq_true rfl⟩ rfl (Nat.le_of_ble_eq_true rfl) rfl dX10_put_29 rfl (fun H locs hP hS => ?_)
    refine lv_if_ne (tgt := 38) hx hb dX10_put_32 (by decide) (fun c4 => ?_) (fun c4 => ?_)
    · have h := iff_ c4 h
      refine lv_aload_n hx hb dX10_put_38 rfl (lv_at hl 0 rfl) ?_
      refine va_get (D := D) (ci := 8) (v := .ref a_x_now_targets_hand) (C := RX8) (T := TX8) (N := 10) hx hb hts in_X10_put_X8 hown hK hP 2 rfl rfl 9 (by decide) (hts _ mb_X10_put_5) (fun _ h9 => h9) rfl dX10_put_39 ?_
      refine lv_iload_n hx hb dX10_put_42 rfl (lv_at hl 2 rfl) ?_
      obtain ⟨i5, h⟩ := gI_some h
      refine va_iald hx hb hK hP 5 0 rfl rfl i5 dX10_put_43 ?_
      refine lv_istore (lv' := [(4, .int (x_now_targets_hand p1.toNatClampNeg)), (3, .ref a_x_now_targets), (0, .ref a_x), (1, .int p1), (2, .int p2)]) hx hb dX10_put_44 hl (by decide) rfl (fun ls hl => ?_)
      refine lv_aload_n hx hb dX10_put_46 rfl (lv_at hl 1 rfl) ?_
      refine va_get (D := D) (ci := 8) (v := .ref a_x_now_targets_hand) (C := RX8) (T := TX8) (N := 10) hx hb hts in_X10_put_X8 hown hK hP 2 rfl rfl 9 (by decide) (hts _ mb_X10_put_5) (fun _ h9 => h9) rfl dX10_put_47 ?_
      refine lv_iload_n hx hb dX10_put_50 rfl (lv_at hl 3 rfl) ?_
      refine lv_iload_n hx hb dX10_put_51 rfl (lv_at hl 4 rfl) ?_
      obtain ⟨i6, h⟩ := gI_some h
      refine va_iast hx hb hK hP hD hS 5 0 rfl rfl i6 dX10_put_52 (fun H locs hP hD hS => ?_)
      have hP : va_P D vwCl (w_X10_put cI cJ cZ cG a_x a_x_now a_x_kept a_x_sheets a_x_plan a_x_draw a_x_blockade a_x_watch a_x_now_targets a_x_now_roads a_x_now_posts a_x_now_haunts a_x_now_targets_kind a_x_now_targets_saved a_x_now_targets_lost a_x_now_targets_gain a_x_now_targets_gap a_x_now_targets_least a_x_now_targets_most a_x_now_targets_hand x_isKept x_latestBelow x_findings x_now_targets_size x_now_targets_guards x_now_targets_least x_now_targets_most (upd x_now_targets_hand p1.toNatClampNeg p2)) H := hP
      have hD : va_D A (w_X10_put cI cJ cZ cG a_x a_x_now a_x_kept a_x_sheets a_x_plan a_x_draw a_x_blockade a_x_watch a_x_now_targets a_x_now_roads a_x_now_posts a_x_now_haunts a_x_now_targets_kind a_x_now_targets_saved a_x_now_targets_lost a_x_now_targets_gain a_x_now_targets_gap a_x_now_targets_least a_x_now_targets_most a_x_now_targets_hand x_isKept x_latestBelow x_findings x_now_targets_size x_now_targets_guards x_now_targets_least x_now_targets_most (upd x_now_targets_hand p1.toNatClampNeg p2)) := hD
      refine lv_iload hx hb dX10_put_53 (lv_at hl 0 rfl) ?_
      obtain rfl := Option.some.inj h
      exact g_iret C hP hD hS dX10_put_55
    · have h := ift c4 h
      refine lv_ldc (v := (-1000000002)) hx hb hown (hts _ mb_X10_put_2) dX10_put_35 ?_
      obtain rfl := Option.some.inj h
      exact g_iret C hP hD hS dX10_put_37
theorem in_X10_spare_X10 : ∀ w ∈ wsX100, w ∈ wsX10_spare := by decide +kernel
theorem in_X10_spare_X6 : ∀ w ∈ wsX60, w ∈ wsX10_spare := by decide +kernel
theorem in_X10_spare_X8 : ∀ w ∈ wsX80, w ∈ wsX10_spare := by decide +kernel
theorem mb_X10_spare_0 : Cond.fieldLink RX10 73 "GuardDesk$Targets" "size" "I" ∈ wsX10_spare := List.mem_of_getElem? (i := 3) rfl
theorem mb_X10_spare_1 : Cond.fieldLink RX10 101 "GuardDesk$Targets" "guards" "I" ∈ wsX10_spare := List.mem_of_getElem? (i := 5) rfl
theorem mb_X10_spare_2 : Cond.fieldLink RX10 116 "GuardDesk$Targets" "hand" "[I" ∈ wsX10_spare := List.mem_of_getElem? (i := 4) rfl
theorem mb_X10_spare_3 : Cond.fieldLink RX10 10 "GuardDesk" "now" "LGuardDesk$Scene;" ∈ wsX10_spare := List.mem_of_getElem? (i := 1) rfl
theorem mb_X10_spare_4 : Cond.fieldLink RX10 69 "GuardDesk$Scene" "targets" "LGuardDesk$Targets;" ∈ wsX10_spare := List.mem_of_getElem? (i := 2) rfl
set_option maxRecDepth 100000 in
set_option maxHeartbeats 4000000 in
theorem t_X10_spare_b12 (C : cx D cI cJ cZ cG A cX10_spare 4 (some .int) RX10 wsX10_spare p s m args meth c) (a_x a_x_now a_x_kept a_x_sheets a_x_plan a_x_draw a_x_blockade a_x_watch a_x_now_targets a_x_now_roads a_x_now_posts a_x_now_haunts a_x_now_targets_kind a_x_now_targets_saved a_x_now_targets_lost a_x_now_targets_gain a_x_now_targets_gap a_x_now_targets_least a_x_now_targets_most a_x_now_targets_hand : Nat) (x_isKept : Int32) (x_latestBelow : Int32) (x_findings : Int32) (x_now_targets_size : Int32) (x_now_targets_guards : Int32) (x_now_targets_hand : (Nat → Int32)) (N : Nat) (q : Int32) : ∀ (n : Nat) (v2 : Int32) (v3 : Int32), f_X10_spare_b12 N x_now_targets_size x_now_targets_guards x_now_targets_hand n v2 v3 = some q → WB p l e rm_X10_spare s m args below meth c (MQ below (Qg D (some (.int q)) (w_X10_spare cI cJ cZ cG a_x a_x_now a_x_kept a_x_sheets a_x_plan a_x_draw a_x_blockade a_x_watch a_x_now_targets a_x_now_roads a_x_now_posts a_x_now_haunts a_x_now_targets_kind a_x_now_targets_saved a_x_now_targets_lost a_x_now_targets_gain a_x_now_targets_gap a_x_now_targets_least a_x_now_targets_most a_x_now_targets_hand x_isKept x_latestBelow x_findings x_now_targets_size x_now_targets_guards x_now_targets_hand) A) args s 0 0 A) D A 4 (w_X10_spare cI cJ cZ cG a_x a_x_now a_x_kept a_x_sheets a_x_plan a_x_draw a_x_blockade a_x_watch a_x_now_targets a_x_now_roads a_x_now_posts a_x_now_haunts a_x_now_targets_kind a_x_now_targets_saved a_x_now_targets_lost a_x_now_targets_gain a_x_now_targets_gap a_x_now_targets_least a_x_now_targets_most a_x_now_targets_hand x_isKept x_latestBelow x_findings x_now_targets_size x_now_targets_guards x_now_targets_hand) [(1, .ref a_x_now_targets), (2, .int v2), (3, .int v3)] [] 12 := by
  obtain ⟨hx, hb, hr, hml, hown, hts, hlk, hgk, hA⟩ := id C
  have hK := hgk.1
  intro n
  induction n with
  | zero => intro v2 v3 h; cases h
  | succ n hk_12 =>
    intro v2 v3 h
    have h : g_X10_spare_b12 N x_now_targets_size x_now_targets_guards x_now_targets_hand (f_X10_spare_b12 N x_now_targets_size x_now_targets_guards x_now_targets_hand n) v2 v3 = some q := h
    generalize f_X10_spare_b12 N x_now_targets_size x_now_targets_guards x_now_targets_hand n = k_12 at h hk_12
    unfold g_X10_spare_b12 at h
    intro H locs ls hP hD hS hl
    refine lv_iload_n hx hb dX10_spare_12 rfl (lv_at hl 2 rfl) ?_
    refine lv_aload_n hx hb dX10_spare_13 rfl (lv_at hl 0 rfl) ?_
    refine va_get (D := D) (ci := 8) (v := .int x_now_targets_size) (C := RX8) (T := TX8) (N := 10) hx hb hts in_X10_spare_X8 hown hK hP 2 rfl rfl 0 (by decide) (hts _ mb_X10_spare_0) (fun _ h9 => h9) rfl dX10_spare_14 ?_
    refine lv_icmp_ge (tgt := 35) hx hb dX10_spare_17 (by decide) (fun c1 => ?_) (fun c1 => ?_)
    · have h := ift c1 h
      refine lv_iload_n hx hb dX10_spare_35 rfl (lv_at hl 1 rfl) ?_
      refine lv_bipush (v := 60) hx hb dX10_spare_36 (by decide) ?_
      refine lv_aload_n hx hb dX10_spare_38 rfl (lv_at hl 0 rfl) ?_
      refine va_get (D := D) (ci := 8) (v := .int x_now_targets_guards) (C := RX8) (T := TX8) (N := 10) hx hb hts in_X10_spare_X8 hown hK hP 2 rfl rfl 1 (by decide) (hts _ mb_X10_spare_1) (fun _ h9 => h9) rfl dX10_spare_39 ?_
      refine lv_imul hx hb dX10_spare_42 ?_
      refine lv_isub hx hb dX10_spare_43 ?_
      obtain rfl := Option.some.inj h
      exact g_iret C hP hD hS dX10_spare_44
    · have h := iff_ c1 h
      refine lv_iload_n hx hb dX10_spare_20 rfl (lv_at hl 1 rfl) ?_
      refine lv_aload_n hx hb dX10_spare_21 rfl (lv_at hl 0 rfl) ?_
      refine va_get (D := D) (ci := 8) (v := .ref a_x_now_targets_hand) (C := RX8) (T := TX8) (N := 10) hx hb hts in_X10_spare_X8 hown hK hP 2 rfl rfl 9 (by decide) (hts _ mb_X10_spare_2) (fun _ h9 => h9) rfl dX10_spare_22 ?_
      refine lv_iload_n hx hb dX10_spare_25 rfl (lv_at hl 2 rfl) ?_
      obtain ⟨i2, h⟩ := gI_some h
      refine va_iald hx hb hK hP 3 0 rfl rfl i2 dX10_spare_26 ?_
      refine lv_iadd hx hb dX10_spare_27 ?_
      refine lv_istore_n (lv' := [(2, .int (v2 + (x_now_targets_hand v3.toNatClampNeg))), (1, .ref a_x_now_targets), (3, .int v3)]) hx hb dX10_spare_28 rfl hl (by decide) rfl (fun ls hl => ?_)
      refine lv_iinc (v := v3 + 1) (lv' := [(3, .int (v3 + 1)), (2, .int (v2 + (x_now_targets_hand v3.toNatClampNeg))), (1, .ref a_x_now_targets)]) hx hb dX10_spare_29 hl (k := 2) rfl rfl (by decide) rfl (fun ls hl => ?_)
      refine lv_goto (tgt := 12) hx hb dX10_spare_32 (by decide) ?_
      exact hk_12 (v2 + (x_now_targets_hand v3.toNatClampNeg)) (v3 + 1) h H locs ls hP hD hS (lv_sub hl [2, 1, 0] rfl)
set_option maxRecDepth 100000 in
set_option maxHeartbeats 4000000 in
theorem c_X10_spare (l : Launch) (D : va_G) (cI cJ cZ cG : ClassId) (a_x a_x_now a_x_kept a_x_sheets a_x_plan a_x_draw a_x_blockade a_x_watch a_x_now_targets a_x_now_roads a_x_now_posts a_x_now_haunts a_x_now_targets_kind a_x_now_targets_saved a_x_now_targets_lost a_x_now_targets_gain a_x_now_targets_gap a_x_now_targets_least a_x_now_targets_most a_x_now_targets_hand : Nat) (x_isKept : Int32) (x_latestBelow : Int32) (x_findings : Int32) (x_now_targets_size : Int32) (x_now_targets_guards : Int32) (x_now_targets_hand : (Nat → Int32)) (N : Nat) (q : Int32) (h : f_X10_spare N x_now_targets_size x_now_targets_guards x_now_targets_hand = some q) : gMet l yX10_spare wsX10_spare rm_X10_spare [.ref a_x] (w_X10_spare cI cJ cZ cG a_x a_x_now a_x_kept a_x_sheets a_x_plan a_x_draw a_x_blockade a_x_watch a_x_now_targets a_x_now_roads a_x_now_posts a_x_now_haunts a_x_now_targets_kind a_x_now_targets_saved a_x_now_targets_lost a_x_now_targets_gain a_x_now_targets_gap a_x_now_targets_least a_x_now_targets_most a_x_now_targets_hand x_isKept x_latestBelow x_findings x_now_targets_size x_now_targets_guards x_now_targets_hand) (w_X10_spare cI cJ cZ cG a_x a_x_now a_x_kept a_x_sheets a_x_plan a_x_draw a_x_blockade a_x_watch a_x_now_targets a_x_now_roads a_x_now_posts a_x_now_haunts a_x_now_targets_kind a_x_now_targets_saved a_x_now_targets_lost a_x_now_targets_gain a_x_now_targets_gap a_x_now_targets_least a_x_now_targets_most a_x_now_targets_hand x_isKept x_latestBelow x_findings x_now_targets_size x_now_targets_guards x_now_targets_hand) (some (.int q)) D cI cJ cZ cG := by
  refine g_enter (cc := cX10_spare) (nL := 4) (ret := (some .int)) (by decide) rfl (Nat.le_of_ble_eq_true rfl) ?_
  intro p e s m below meth c A C H locs ls hP hD hS hl
  obtain ⟨hx, hb, hr, hml, hown, hts, hlk, hgk, hA⟩ := id C
  have hK := hgk.1
  have hl : lv_has ls 4 [(0, .ref a_x)] := hl
  unfold f_X10_spare at h
  refine lv_aload_n hx hb dX10_spare_0 rfl (lv_at hl 0 rfl) ?_
  refine va_get (D := D) (ci := 10) (v := .ref a_x_now) (C := RX10) (T := TX10) (N := 10) hx hb hts in_X10_spare_X10 hown hK hP 0 rfl rfl 0 (by decide) (hts _ mb_X10_spare_3) (fun _ h9 => h9) rfl dX10_spare_1 ?_
  refine va_get (D := D) (ci := 6) (v := .ref a_x_now_targets) (C := RX6) (T := TX6) (N := 4) hx hb hts in_X10_spare_X6 hown hK hP 1 rfl rfl 0 (by decide) (hts _ mb_X10_spare_4) (fun _ h9 => h9) rfl dX10_spare_4 ?_
  refine lv_astore_n (lv' := [(1, .ref a_x_now_targets), (0, .ref a_x)]) hx hb dX10_spare_7 rfl hl (by decide) rfl (fun ls hl => ?_)
  refine lv_iconst (v := 0) hx hb dX10_spare_8 (by decide) ?_
  refine lv_istore_n (lv' := [(2, .int 0), (1, .ref a_x_now_targets), (0, .ref a_x)]) hx hb dX10_spare_9 rfl hl (by decide) rfl (fun ls hl => ?_)
  refine lv_iconst (v := 0) hx hb dX10_spare_10 (by decide) ?_
  refine lv_istore_n (lv' := [(3, .int 0), (2, .int 0), (1, .ref a_x_now_targets), (0, .ref a_x)]) hx hb dX10_spare_11 rfl hl (by decide) rfl (fun ls hl => ?_)
  exact t_X10_spare_b12 C a_x a_x_now a_x_kept a_x_sheets a_x_plan a_x_draw a_x_blockade a_x_watch a_x_now_targets a_x_now_roads a_x_now_posts a_x_now_haunts a_x_now_targets_kind a_x_now_targets_saved a_x_now_targets_lost a_x_now_targets_gain a_x_now_targets_gap a_x_now_targets_least a_x_now_targets_most a_x_now_targets_hand x_isKept x_latestBelow x_findings x_now_targets_size x_now_targets_guards x_now_targets_hand N q N 0 0 h H locs ls hP hD hS (lv_sub hl [2, 1, 0] rfl)
theorem in_X10_comes_X10 : ∀ w ∈ wsX100, w ∈ wsX10_comes := by decide +kernel
theorem in_X10_comes_X6 : ∀ w ∈ wsX60, w ∈ wsX10_comes := by decide +kernel
theorem in_X10_comes_X8 : ∀ w ∈ wsX80, w ∈ wsX10_comes := by decide +kernel
theorem mb_X10_comes_0 : Cond.fieldLink RX10 10 "GuardDesk" "now" "LGuardDesk$Scene;" ∈ wsX10_comes := List.mem_of_getElem? (i := 1) rfl
theorem mb_X10_comes_1 : Cond.fieldLink RX10 69 "GuardDesk$Scene" "targets" "LGuardDesk$Targets;" ∈ wsX10_comes := List.mem_of_getElem? (i := 2) rfl
theorem mb_X10_comes_2 : Cond.fieldLink RX10 73 "GuardDesk$Targets" "size" "I" ∈ wsX10_comes := List.mem_of_getElem? (i := 3) rfl
theorem mb_X10_comes_3 : Cond.constant RX10 127 (-1000000003) ∈ wsX10_comes := List.mem_of_getElem? (i := 4) rfl
set_option maxRecDepth 100000 in
set_option maxHeartbeats 4000000 in
theorem c_X10_comes (l : Launch) (D : va_G) (cI cJ cZ cG : ClassId) (a_x a_x_now a_x_kept a_x_sheets a_x_plan a_x_draw a_x_blockade a_x_watch a_x_now_targets a_x_now_roads a_x_now_posts a_x_now_haunts a_x_now_targets_kind a_x_now_targets_saved a_x_now_targets_lost a_x_now_targets_gain a_x_now_targets_gap a_x_now_targets_least a_x_now_targets_most a_x_now_targets_hand : Nat) (x_isKept : Int32) (x_latestBelow : Int32) (x_findings : Int32) (x_now_targets_size : Int32) (x_now_targets_guards : Int32) (x_now_targets_saved : (Nat → Int32)) (x_now_targets_lost : (Nat → Int32)) (x_now_targets_gain : (Nat → Int32)) (x_now_targets_gap : (Nat → Int32)) (x_now_targets_hand : (Nat → Int32)) (N : Nat) (q : Int32) (h : f_X10_comes N x_now_targets_size x_now_targets_saved x_now_targets_lost x_now_targets_gain x_now_targets_gap x_now_targets_hand = some q) : gMet l yX10_comes wsX10_comes rm_X10_comes [.ref a_x] (w_X10_comes cI cJ cZ cG a_x a_x_now a_x_kept a_x_sheets a_x_plan a_x_draw a_x_blockade a_x_watch a_x_now_targets a_x_now_roads a_x_now_posts a_x_now_haunts a_x_now_targets_kind a_x_now_targets_saved a_x_now_targets_lost a_x_now_targets_gain a_x_now_targets_gap a_x_now_targets_least a_x_now_targets_most a_x_now_targets_hand x_isKept x_latestBelow x_findings x_now_targets_size x_now_targets_guards x_now_targets_saved x_now_targets_lost x_now_targets_gain x_now_targets_gap x_now_targets_hand) (w_X10_comes cI cJ cZ cG a_x a_x_now a_x_kept a_x_sheets a_x_plan a_x_draw a_x_blockade a_x_watch a_x_now_targets a_x_now_roads a_x_now_posts a_x_now_haunts a_x_now_targets_kind a_x_now_targets_saved a_x_now_targets_lost a_x_now_targets_gain a_x_now_targets_gap a_x_now_targets_least a_x_now_targets_most a_x_now_targets_hand x_isKept x_latestBelow x_findings x_now_targets_size x_now_targets_guards x_now_targets_saved x_now_targets_lost x_now_targets_gain x_now_targets_gap x_now_targets_hand) (some (.int q)) D cI cJ cZ cG := by
  refine g_enter (cc := cX10_comes) (nL := 1) (ret := (some .int)) (by decide) rfl (Nat.le_of_ble_eq_true rfl) ?_
  intro p e s m below meth c A C H locs ls hP hD hS hl
  obtain ⟨hx, hb, hr, hml, hown, hts, hlk, hgk, hA⟩ := id C
  have hK := hgk.1
  have hl : lv_has ls 1 [(0, .ref a_x)] := hl
  unfold f_X10_comes at h
  refine lv_aload_n hx hb dX10_comes_0 rfl (lv_at hl 0 rfl) ?_
  refine va_get (D := D) (ci := 10) (v := .ref a_x_now) (C := RX10) (T := TX10) (N := 10) hx hb hts in_X10_comes_X10 hown hK hP 0 rfl rfl 0 (by decide) (hts _ mb_X10_comes_0) (fun _ h9 => h9) rfl dX10_comes_1 ?_
  refine va_get (D := D) (ci := 6) (v := .ref a_x_now_targets) (C := RX6) (T := TX6) (N := 4) hx hb hts in_X10_comes_X6 hown hK hP 1 rfl rfl 0 (by decide) (hts _ mb_X10_comes_1) (fun _ h9 => h9) rfl dX10_comes_4 ?_
  refine va_get (D := D) (ci := 8) (v := .int x_now_targets_size) (C := RX8) (T := TX8) (N := 10) hx hb hts in_X10_comes_X8 hown hK hP 2 rfl rfl 0 (by decide) (hts _ mb_X10_comes_2) (fun _ h9 => h9) rfl dX10_comes_7 ?_
  refine lv_if_ne (tgt := 18) hx hb dX10_comes_10 (by decide) (fun c1 => ?_) (fun c1 => ?_)
  · have h := iff_ c1 h
    refine lv_aload_n hx hb dX10_comes_18 rfl (lv_at hl 0 rfl) ?_
    refine va_get (D := D) (ci := 10) (v := .ref a_x_now) (C := RX10) (T := TX10) (N := 10) hx hb hts in_X10_comes_X10 hown hK hP 0 rfl rfl 0 (by decide) (hts _ mb_X10_comes_0) (fun _ h9 => h9) rfl dX10_comes_19 ?_
    refine va_get (D := D) (ci := 6) (v := .ref a_x_now_targets) (C := RX6) (T := TX6) (N := 4) hx hb hts in_X10_comes_X6 hown hK hP 1 rfl rfl 0 (by decide) (hts _ mb_X10_comes_1) (fun _ h9 => h9) rfl dX10_comes_22 ?_
    obtain ⟨q2, e2, h⟩ := bd_some h
    refine g_callV (index := 152) (maxL := 4) (n := 0) (As := []) (rest := []) (st1 := [.int q2]) (C1 := RX8) (T1 := TX8) (N1 := 10) (ws2 := (w_X10_comes cI cJ cZ cG a_x a_x_now a_x_kept a_x_sheets a_x_plan a_x_draw a_x_blockade a_x_watch a_x_now_targets a_x_now_roads a_x_now_posts a_x_now_haunts a_x_now_targets_kind a_x_now_targets_saved a_x_now_targets_lost a_x_now_targets_gain a_x_now_targets_gap a_x_now_targets_least a_x_now_targets_most a_x_now_targets_hand x_isKept x_latestBelow x_findings x_now_targets_size x_now_targets_guards x_now_targets_saved x_now_targets_lost x_now_targets_gain x_now_targets_gap x_now_targets_hand)) C hP hD hS hl.1 8 0 (c_X8_goalByHand l D cI cJ cZ cG a_x_now_targets a_x_now_targets_kind a_x_now_targets_saved a_x_now_targets_lost a_x_now_targets_gain a_x_now_targets_gap a_x_now_targets_least a_x_now_targets_most a_x_now_targets_hand x_now_targets_size x_now_targets_guards x_now_targets_saved x_now_targets_lost x_now_targets_gain x_now_targets_gap x_now_targets_hand N q2 e2) gX10_comes_X8_goalByHand rfl rfl rfl (by decide +kernel) ⟨Nat.le_of_ble_eq_true rfl, Nat.le_of_ble_eq_true rfl⟩ rfl rfl rfl (Nat.le_of_ble_eq_true rfl) rfl dX10_comes_25 [2, 3, 4, 5, 6, 7] [0, 1] [0, 1, 2, 3, 4, 5, 6, 7] rfl rfl rfl rfl (by decide) rfl rfl rfl (fun H locs hP hD hS => ?_)
    obtain rfl := Option.some.inj h
    exact g_iret C hP hD hS dX10_comes_28
  · have h := ift c1 h
    refine lv_ldc (v := (-1000000003)) hx hb hown (hts _ mb_X10_comes_3) dX10_comes_13 ?_
    refine lv_goto (tgt := 28) hx hb dX10_comes_15 (by decide) ?_
    obtain rfl := Option.some.inj h
    exact g_iret C hP hD hS dX10_comes_28
theorem in_X10_handWorth_X10 : ∀ w ∈ wsX100, w ∈ wsX10_handWorth := by decide +kernel
theorem in_X10_handWorth_X6 : ∀ w ∈ wsX60, w ∈ wsX10_handWorth := by decide +kernel
theorem in_X10_handWorth_X8 : ∀ w ∈ wsX80, w ∈ wsX10_handWorth := by decide +kernel
theorem mb_X10_handWorth_0 : Cond.fieldLink RX10 10 "GuardDesk" "now" "LGuardDesk$Scene;" ∈ wsX10_handWorth := List.mem_of_getElem? (i := 1) rfl
theorem mb_X10_handWorth_1 : Cond.fieldLink RX10 69 "GuardDesk$Scene" "targets" "LGuardDesk$Targets;" ∈ wsX10_handWorth := List.mem_of_getElem? (i := 2) rfl
theorem mb_X10_handWorth_2 : Cond.fieldLink RX10 73 "GuardDesk$Targets" "size" "I" ∈ wsX10_handWorth := List.mem_of_getElem? (i := 3) rfl
theorem mb_X10_handWorth_3 : Cond.constantLong RX10 143 (60) ∈ wsX10_handWorth := List.mem_of_getElem? (i := 5) rfl
theorem mb_X10_handWorth_4 : Cond.constant RX10 127 (-1000000003) ∈ wsX10_handWorth := List.mem_of_getElem? (i := 4) rfl
set_option maxRecDepth 100000 in
set_option maxHeartbeats 4000000 in
theorem c_X10_handWorth (l : Launch) (D : va_G) (cI cJ cZ cG : ClassId) (a_x a_x_now a_x_kept a_x_sheets a_x_plan a_x_draw a_x_blockade a_x_watch a_x_now_targets a_x_now_roads a_x_now_posts a_x_now_haunts a_x_now_targets_kind a_x_now_targets_saved a_x_now_targets_lost a_x_now_targets_gain a_x_now_targets_gap a_x_now_targets_least a_x_now_targets_most a_x_now_targets_hand : Nat) (x_isKept : Int32) (x_latestBelow : Int32) (x_findings : Int32) (x_now_targets_size : Int32) (x_now_targets_guards : Int32) (x_now_targets_saved : (Nat → Int32)) (x_now_targets_lost : (Nat → Int32)) (x_now_targets_gain : (Nat → Int32)) (x_now_targets_gap : (Nat → Int32)) (x_now_targets_hand : (Nat → Int32)) (N : Nat) (q : Int32 × Int32) (h : f_X10_handWorth N x_latestBelow x_now_targets_size x_now_targets_saved x_now_targets_lost x_now_targets_gain x_now_targets_gap x_now_targets_hand = some q) : gMet l yX10_handWorth wsX10_handWorth rm_X10_handWorth [.ref a_x] (w_X10_handWorth cI cJ cZ cG a_x a_x_now a_x_kept a_x_sheets a_x_plan a_x_draw a_x_blockade a_x_watch a_x_now_targets a_x_now_roads a_x_now_posts a_x_now_haunts a_x_now_targets_kind a_x_now_targets_saved a_x_now_targets_lost a_x_now_targets_gain a_x_now_targets_gap a_x_now_targets_least a_x_now_targets_most a_x_now_targets_hand x_isKept x_latestBelow x_findings x_now_targets_size x_now_targets_guards x_now_targets_saved x_now_targets_lost x_now_targets_gain x_now_targets_gap x_now_targets_hand) (w_X10_handWorth cI cJ cZ cG a_x a_x_now a_x_kept a_x_sheets a_x_plan a_x_draw a_x_blockade a_x_watch a_x_now_targets a_x_now_roads a_x_now_posts a_x_now_haunts a_x_now_targets_kind a_x_now_targets_saved a_x_now_targets_lost a_x_now_targets_gain a_x_now_targets_gap a_x_now_targets_least a_x_now_targets_most a_x_now_targets_hand x_isKept q.2 x_findings x_now_targets_size x_now_targets_guards x_now_targets_saved x_now_targets_lost x_now_targets_gain x_now_targets_gap x_now_targets_hand) (some (.int q.1)) D cI cJ cZ cG := by
  refine g_enter (cc := cX10_handWorth) (nL := 1) (ret := (some .int)) (by decide) rfl (Nat.le_of_ble_eq_true rfl) ?_
  intro p e s m below meth c A C H locs ls hP hD hS hl
  obtain ⟨hx, hb, hr, hml, hown, hts, hlk, hgk, hA⟩ := id C
  have hK := hgk.1
  have hl : lv_has ls 1 [(0, .ref a_x)] := hl
  unfold f_X10_handWorth at h
  refine lv_aload_n hx hb dX10_handWorth_0 rfl (lv_at hl 0 rfl) ?_
  refine va_get (D := D) (ci := 10) (v := .ref a_x_now) (C := RX10) (T := TX10) (N := 10) hx hb hts in_X10_handWorth_X10 hown hK hP 0 rfl rfl 0 (by decide) (hts _ mb_X10_handWorth_0) (fun _ h9 => h9) rfl dX10_handWorth_1 ?_
  refine va_get (D := D) (ci := 6) (v := .ref a_x_now_targets) (C := RX6) (T := TX6) (N := 4) hx hb hts in_X10_handWorth_X6 hown hK hP 1 rfl rfl 0 (by decide) (hts _ mb_X10_handWorth_1) (fun _ h9 => h9) rfl dX10_handWorth_4 ?_
  refine va_get (D := D) (ci := 8) (v := .int x_now_targets_size) (C := RX8) (T := TX8) (N := 10) hx hb hts in_X10_handWorth_X8 hown hK hP 2 rfl rfl 0 (by decide) (hts _ mb_X10_handWorth_2) (fun _ h9 => h9) rfl dX10_handWorth_7 ?_
  refine lv_if_ne (tgt := 16) hx hb dX10_handWorth_10 (by decide) (fun c1 => ?_) (fun c1 => ?_)
  · have h := iff_ c1 h
    refine lv_aload_n hx hb dX10_handWorth_16 rfl (lv_at hl 0 rfl) ?_
    refine lv_aload_n hx hb dX10_handWorth_17 rfl (lv_at hl 0 rfl) ?_
    refine va_get (D := D) (ci := 10) (v := .ref a_x_now) (C := RX10) (T := TX10) (N := 10) hx hb hts in_X10_handWorth_X10 hown hK hP 0 rfl rfl 0 (by decide) (hts _ mb_X10_handWorth_0) (fun _ h9 => h9) rfl dX10_handWorth_18 ?_
    refine va_get (D := D) (ci := 6) (v := .ref a_x_now_targets) (C := RX6) (T := TX6) (N := 4) hx hb hts in_X10_handWorth_X6 hown hK hP 1 rfl rfl 0 (by decide) (hts _ mb_X10_handWorth_1) (fun _ h9 => h9) rfl dX10_handWorth_21 ?_
    refine lv_aload_n hx hb dX10_handWorth_24 rfl (lv_at hl 0 rfl) ?_
    refine va_get (D := D) (ci := 10) (v := .ref a_x_now) (C := RX10) (T := TX10) (N := 10) hx hb hts in_X10_handWorth_X10 hown hK hP 0 rfl rfl 0 (by decide) (hts _ mb_X10_handWorth_0) (fun _ h9 => h9) rfl dX10_handWorth_25 ?_
    refine va_get (D := D) (ci := 6) (v := .ref a_x_now_targets) (C := RX6) (T := TX6) (N := 4) hx hb hts in_X10_handWorth_X6 hown hK hP 1 rfl rfl 0 (by decide) (hts _ mb_X10_handWorth_1) (fun _ h9 => h9) rfl dX10_handWorth_28 ?_
    obtain ⟨q2, e2, h⟩ := bd_some h
    refine g_callV (index := 152) (maxL := 4) (n := 0) (As := []) (rest := [.ref a_x_now_targets, .ref a_x]) (st1 := [.int q2, .ref a_x_now_targets, .ref a_x]) (C1 := RX8) (T1 := TX8) (N1 := 10) (ws2 := (w_X10_handWorth cI cJ cZ cG a_x a_x_now a_x_kept a_x_sheets a_x_plan a_x_draw a_x_blockade a_x_watch a_x_now_targets a_x_now_roads a_x_now_posts a_x_now_haunts a_x_now_targets_kind a_x_now_targets_saved a_x_now_targets_lost a_x_now_targets_gain a_x_now_targets_gap a_x_now_targets_least a_x_now_targets_most a_x_now_targets_hand x_isKept x_latestBelow x_findings x_now_targets_size x_now_targets_guards x_now_targets_saved x_now_targets_lost x_now_targets_gain x_now_targets_gap x_now_targets_hand)) C hP hD hS hl.1 8 0 (c_X8_goalByHand l D cI cJ cZ cG a_x_now_targets a_x_now_targets_kind a_x_now_targets_saved a_x_now_targets_lost a_x_now_targets_gain a_x_now_targets_gap a_x_now_targets_least a_x_now_targets_most a_x_now_targets_hand x_now_targets_size x_now_targets_guards x_now_targets_saved x_now_targets_lost x_now_targets_gain x_now_targets_gap x_now_targets_hand N q2 e2) gX10_handWorth_X8_goalByHand rfl rfl rfl (by decide +kernel) ⟨Nat.le_of_ble_eq_true rfl, Nat.le_of_ble_eq_true rfl⟩ rfl rfl rfl (Nat.le_of_ble_eq_true rfl) rfl dX10_handWorth_31 [2, 3, 4, 5, 6, 7] [0, 1] [0, 1, 2, 3, 4, 5, 6, 7] rfl rfl rfl rfl (by decide) rfl rfl rfl (fun H locs hP hD hS => ?_)
    obtain ⟨q3, e3, h⟩ := bd_some h
    refine g_callV (index := 156) (maxL := 2) (n := 1) (As := [.int q2]) (rest := [.ref a_x]) (st1 := [.int q3, .ref a_x]) (C1 := RX8) (T1 := TX8) (N1 := 10) (ws2 := (w_X10_handWorth cI cJ cZ cG a_x a_x_now a_x_kept a_x_sheets a_x_plan a_x_draw a_x_blockade a_x_watch a_x_now_targets a_x_now_roads a_x_now_posts a_x_now_haunts a_x_now_targets_kind a_x_now_targets_saved a_x_now_targets_lost a_x_now_targets_gain a_x_now_targets_gap a_x_now_targets_least a_x_now_targets_most a_x_now_targets_hand x_isKept x_latestBelow x_findings x_now_targets_size x_now_targets_guards x_now_targets_saved x_now_targets_lost x_now_targets_gain x_now_targets_gap x_now_targets_hand)) C hP hD hS hl.1 8 0 (c_X8_keeperByHand l D cI cJ cZ cG a_x_now_targets a_x_now_targets_kind a_x_now_targets_saved a_x_now_targets_lost a_x_now_targets_gain a_x_now_targets_gap a_x_now_targets_least a_x_now_targets_most a_x_now_targets_hand x_now_targets_size x_now_targets_guards x_now_targets_saved x_now_targets_lost x_now_targets_hand q2 q3 e3) gX10_handWorth_X8_keeperByHand rfl rfl rfl (by decide +kernel) ⟨Nat.le_of_ble_eq_true rfl, Nat.le_of_ble_eq_true rfl⟩ rfl rfl rfl (Nat.le_of_ble_eq_true rfl) rfl dX10_handWorth_34 [2, 3, 4, 7] [0, 1, 5, 6] [0, 1, 4, 5, 6, 2, 3, 7] rfl rfl rfl rfl (by decide) rfl rfl rfl (fun H locs hP hD hS => ?_)
    refine lv_i2l (v := q3.toInt64) hx hb dX10_handWorth_37 rfl ?_
    refine lv_ldc2 (v := 60) hx hb hown (hts _ mb_X10_handWorth_3) dX10_handWorth_38 ?_
    obtain ⟨q4, e4, h⟩ := bd_some h
    refine g_callV (index := 136) (maxL := 7) (n := 2) (As := [.long q3.toInt64, .long 60]) (rest := []) (st1 := [.int q4.1]) (C1 := RX10) (T1 := TX10) (N1 := 10) (ws2 := (w_X10_handWorth cI cJ cZ cG a_x a_x_now a_x_kept a_x_sheets a_x_plan a_x_draw a_x_blockade a_x_watch a_x_now_targets a_x_now_roads a_x_now_posts a_x_now_haunts a_x_now_targets_kind a_x_now_targets_saved a_x_now_targets_lost a_x_now_targets_gain a_x_now_targets_gap a_x_now_targets_least a_x_now_targets_most a_x_now_targets_hand x_isKept q4.2 x_findings x_now_targets_size x_now_targets_guards x_now_targets_saved x_now_targets_lost x_now_targets_gain x_now_targets_gap x_now_targets_hand)) C hP hD hS hl.1 10 0 (c_X10_fraction l D cI cJ cZ cG a_x a_x_now a_x_kept a_x_sheets a_x_plan a_x_draw a_x_blockade a_x_watch x_isKept x_latestBelow x_findings q3.toInt64 60 N q4 e4) gX10_handWorth_X10_fraction rfl rfl rfl (by decide +kernel) ⟨Nat.le_of_ble_eq_true rfl, Nat.le_of_ble_eq_true rfl⟩ rfl rfl rfl (Nat.le_of_ble_eq_true rfl) rfl dX10_handWorth_41 [0] [1, 2, 3, 4, 5, 6, 7] [7, 0, 1, 2, 3, 4, 5, 6] rfl rfl rfl rfl (by decide) rfl rfl rfl (fun H locs hP hD hS => ?_)
    obtain rfl := Option.some.inj h
    exact g_iret C hP hD hS dX10_handWorth_44
  · have h := ift c1 h
    refine lv_ldc (v := (-1000000003)) hx hb hown (hts _ mb_X10_handWorth_4) dX10_handWorth_13 ?_
    obtain rfl := Option.some.inj h
    exact g_iret C hP hD hS dX10_handWorth_15
theorem in_X10_errs_X10 : ∀ w ∈ wsX100, w ∈ wsX10_errs := by decide +kernel
theorem in_X10_errs_X6 : ∀ w ∈ wsX60, w ∈ wsX10_errs := by decide +kernel
theorem in_X10_errs_X8 : ∀ w ∈ wsX80, w ∈ wsX10_errs := by decide +kernel
theorem mb_X10_errs_0 : Cond.fieldLink RX10 10 "GuardDesk" "now" "LGuardDesk$Scene;" ∈ wsX10_errs := List.mem_of_getElem? (i := 2) rfl
theorem mb_X10_errs_1 : Cond.fieldLink RX10 69 "GuardDesk$Scene" "targets" "LGuardDesk$Targets;" ∈ wsX10_errs := List.mem_of_getElem? (i := 3) rfl
theorem mb_X10_errs_2 : Cond.fieldLink RX10 73 "GuardDesk$Targets" "size" "I" ∈ wsX10_errs := List.mem_of_getElem? (i := 4) rfl
theorem mb_X10_errs_3 : Cond.constantLong RX10 143 (60) ∈ wsX10_errs := List.mem_of_getElem? (i := 6) rfl
theorem mb_X10_errs_4 : Cond.constant RX10 127 (-1000000003) ∈ wsX10_errs := List.mem_of_getElem? (i := 5) rfl
theorem mb_X10_errs_5 : Cond.constant RX10 78 (-1000000002) ∈ wsX10_errs := List.mem_of_getElem? (i := 1) rfl
set_option maxRecDepth 100000 in
set_option maxHeartbeats 4000000 in
theorem c_X10_errs (l : Launch) (D : va_G) (cI cJ cZ cG : ClassId) (a_x a_x_now a_x_kept a_x_sheets a_x_plan a_x_draw a_x_blockade a_x_watch a_x_now_targets a_x_now_roads a_x_now_posts a_x_now_haunts a_x_now_targets_kind a_x_now_targets_saved a_x_now_targets_lost a_x_now_targets_gain a_x_now_targets_gap a_x_now_targets_least a_x_now_targets_most a_x_now_targets_hand : Nat) (x_isKept : Int32) (x_latestBelow : Int32) (x_findings : Int32) (x_now_targets_size : Int32) (x_now_targets_guards : Int32) (x_now_targets_saved : (Nat → Int32)) (x_now_targets_lost : (Nat → Int32)) (x_now_targets_gain : (Nat → Int32)) (x_now_targets_gap : (Nat → Int32)) (x_now_targets_hand : (Nat → Int32)) (p1 : Int32) (N : Nat) (q : Int32 × Int32) (h : f_X10_errs N x_latestBelow x_now_targets_size x_now_targets_saved x_now_targets_lost x_now_targets_gain x_now_targets_gap x_now_targets_hand p1 = some q) : gMet l yX10_errs wsX10_errs rm_X10_errs [.ref a_x, .int p1] (w_X10_errs cI cJ cZ cG a_x a_x_now a_x_kept a_x_sheets a_x_plan a_x_draw a_x_blockade a_x_watch a_x_now_targets a_x_now_roads a_x_now_posts a_x_now_haunts a_x_now_targets_kind a_x_now_targets_saved a_x_now_targets_lost a_x_now_targets_gain a_x_now_targets_gap a_x_now_targets_least a_x_now_targets_most a_x_now_targets_hand x_isKept x_latestBelow x_findings x_now_targets_size x_now_targets_guards x_now_targets_saved x_now_targets_lost x_now_targets_gain x_now_targets_gap x_now_targets_hand) (w_X10_errs cI cJ cZ cG a_x a_x_now a_x_kept a_x_sheets a_x_plan a_x_draw a_x_blockade a_x_watch a_x_now_targets a_x_now_roads a_x_now_posts a_x_now_haunts a_x_now_targets_kind a_x_now_targets_saved a_x_now_targets_lost a_x_now_targets_gain a_x_now_targets_gap a_x_now_targets_least a_x_now_targets_most a_x_now_targets_hand x_isKept q.2 x_findings x_now_targets_size x_now_targets_guards x_now_targets_saved x_now_targets_lost x_now_targets_gain x_now_targets_gap x_now_targets_hand) (some (.int q.1)) D cI cJ cZ cG := by
  refine g_enter (cc := cX10_errs) (nL := 2) (ret := (some .int)) (by decide) rfl (Nat.le_of_ble_eq_true rfl) ?_
  intro p e s m below meth c A C H locs ls hP hD hS hl
  obtain ⟨hx, hb, hr, hml, hown, hts, hlk, hgk, hA⟩ := id C
  have hK := hgk.1
  have hl : lv_has ls 2 [(0, .ref a_x), (1, .int p1)] := hl
  unfold f_X10_errs at h
  refine lv_iload_n hx hb dX10_errs_0 rfl (lv_at hl 1 rfl) ?_
  refine lv_iconst (v := 0) hx hb dX10_errs_1 (by decide) ?_
  refine lv_sipush (v := 3600) hx hb dX10_errs_2 (by decide) ?_
  refine g_callS0 (index := 58) (maxL := 3) (n := 3) (As := [.int p1, .int 0, .int 3600]) (rest := []) (st1 := [.int (f_X10_isFrom p1 0 3600)]) C hP hS hl.1 (c_X10_isFrom l D cI cJ cZ cG p1 0 3600 _ rfl) gX10_errs_X10_isFrom rfl rfl rfl (by decide +kernel) ⟨Nat.le_of_ble_eq_true rfl, Nat.le_of_ble_eq_true rfl⟩ rfl (Nat.le_of_ble_eq_true rfl) rfl dX10_errs_5 rfl (fun H locs hP hS => ?_)
  refine lv_if_ne (tgt := 14) hx hb dX10_errs_8 (by decide) (fun c1 => ?_) (fun c1 => ?_)
  · have h := iff_ c1 h
    refine lv_aload_n hx hb dX10_errs_14 rfl (lv_at hl 0 rfl) ?_
    refine va_get (D := D) (ci := 10) (v := .ref a_x_now) (C := RX10) (T := TX10) (N := 10) hx hb hts in_X10_errs_X10 hown hK hP 0 rfl rfl 0 (by decide) (hts _ mb_X10_errs_0) (fun _ h9 => h9) rfl dX10_errs_15 ?_
    refine va_get (D := D) (ci := 6) (v := .ref a_x_now_targets) (C := RX6) (T := TX6) (N := 4) hx hb hts in_X10_errs_X6 hown hK hP 1 rfl rfl 0 (by decide) (hts _ mb_X10_errs_1) (fun _ h9 => h9) rfl dX10_errs_18 ?_
    refine va_get (D := D) (ci := 8) (v := .int x_now_targets_size) (C := RX8) (T := TX8) (N := 10) hx hb hts in_X10_errs_X8 hown hK hP 2 rfl rfl 0 (by decide) (hts _ mb_X10_errs_2) (fun _ h9 => h9) rfl dX10_errs_21 ?_
    refine lv_if_ne (tgt := 30) hx hb dX10_errs_24 (by decide) (fun c2 => ?_) (fun c2 => ?_)
    · have h := iff_ c2 h
      refine lv_aload_n hx hb dX10_errs_30 rfl (lv_at hl 0 rfl) ?_
      refine lv_aload_n hx hb dX10_errs_31 rfl (lv_at hl 0 rfl) ?_
      refine va_get (D := D) (ci := 10) (v := .ref a_x_now) (C := RX10) (T := TX10) (N := 10) hx hb hts in_X10_errs_X10 hown hK hP 0 rfl rfl 0 (by decide) (hts _ mb_X10_errs_0) (fun _ h9 => h9) rfl dX10_errs_32 ?_
      refine va_get (D := D) (ci := 6) (v := .ref a_x_now_targets) (C := RX6) (T := TX6) (N := 4) hx hb hts in_X10_errs_X6 hown hK hP 1 rfl rfl 0 (by decide) (hts _ mb_X10_errs_1) (fun _ h9 => h9) rfl dX10_errs_35 ?_
      refine lv_iload_n hx hb dX10_errs_38 rfl (lv_at hl 1 rfl) ?_
      obtain ⟨q3, e3, h⟩ := bd_some h
      refine g_callV (index := 159) (maxL := 6) (n := 1) (As := [.int p1]) (rest := [.ref a_x]) (st1 := [.int q3, .ref a_x]) (C1 := RX8) (T1 := TX8) (N1 := 10) (ws2 := (w_X10_errs cI cJ cZ cG a_x a_x_now a_x_kept a_x_sheets a_x_plan a_x_draw a_x_blockade a_x_watch a_x_now_targets a_x_now_roads a_x_now_posts a_x_now_haunts a_x_now_targets_kind a_x_now_targets_saved a_x_now_targets_lost a_x_now_targets_gain a_x_now_targets_gap a_x_now_targets_least a_x_now_targets_most a_x_now_targets_hand x_isKept x_latestBelow x_findings x_now_targets_size x_now_targets_guards x_now_targets_saved x_now_targets_lost x_now_targets_gain x_now_targets_gap x_now_targets_hand)) C hP hD hS hl.1 8 0 (c_X8_worstByHand l D cI cJ cZ cG a_x_now_targets a_x_now_targets_kind a_x_now_targets_saved a_x_now_targets_lost a_x_now_targets_gain a_x_now_targets_gap a_x_now_targets_least a_x_now_targets_most a_x_now_targets_hand x_now_targets_size x_now_targets_guards x_now_targets_saved x_now_targets_lost x_now_targets_gain x_now_targets_gap x_now_targets_hand p1 N q3 e3) gX10_errs_X8_worstByHand rfl rfl rfl (by decide +kernel) ⟨Nat.le_of_ble_eq_true rfl, Nat.le_of_ble_eq_true rfl⟩ rfl rfl rfl (Nat.le_of_ble_eq_true rfl) rfl dX10_errs_39 [2, 3, 4, 5, 6, 7] [0, 1] [0, 1, 2, 3, 4, 5, 6, 7] rfl rfl rfl rfl (by decide) rfl rfl rfl (fun H locs hP hD hS => ?_)
      refine lv_i2l (v := q3.toInt64) hx hb dX10_errs_42 rfl ?_
      refine lv_ldc2 (v := 60) hx hb hown (hts _ mb_X10_errs_3) dX10_errs_43 ?_
      obtain ⟨q4, e4, h⟩ := bd_some h
      refine g_callV (index := 136) (maxL := 7) (n := 2) (As := [.long q3.toInt64, .long 60]) (rest := []) (st1 := [.int q4.1]) (C1 := RX10) (T1 := TX10) (N1 := 10) (ws2 := (w_X10_errs cI cJ cZ cG a_x a_x_now a_x_kept a_x_sheets a_x_plan a_x_draw a_x_blockade a_x_watch a_x_now_targets a_x_now_roads a_x_now_posts a_x_now_haunts a_x_now_targets_kind a_x_now_targets_saved a_x_now_targets_lost a_x_now_targets_gain a_x_now_targets_gap a_x_now_targets_least a_x_now_targets_most a_x_now_targets_hand x_isKept q4.2 x_findings x_now_targets_size x_now_targets_guards x_now_targets_saved x_now_targets_lost x_now_targets_gain x_now_targets_gap x_now_targets_hand)) C hP hD hS hl.1 10 0 (c_X10_fraction l D cI cJ cZ cG a_x a_x_now a_x_kept a_x_sheets a_x_plan a_x_draw a_x_blockade a_x_watch x_isKept x_latestBelow x_findings q3.toInt64 60 N q4 e4) gX10_errs_X10_fraction rfl rfl rfl (by decide +kernel) ⟨Nat.le_of_ble_eq_true rfl, Nat.le_of_ble_eq_true rfl⟩ rfl rfl rfl (Nat.le_of_ble_eq_true rfl) rfl dX10_errs_46 [0] [1, 2, 3, 4, 5, 6, 7] [7, 0, 1, 2, 3, 4, 5, 6] rfl rfl rfl rfl (by decide) rfl rfl rfl (fun H locs hP hD hS => ?_)
      obtain rfl := Option.some.inj h
      exact g_iret C hP hD hS dX10_errs_49
    · have h := ift c2 h
      refine lv_ldc (v := (-1000000003)) hx hb hown (hts _ mb_X10_errs_4) dX10_errs_27 ?_
      obtain rfl := Option.some.inj h
      exact g_iret C hP hD hS dX10_errs_29
  · have h := ift c1 h
    refine lv_ldc (v := (-1000000002)) hx hb hown (hts _ mb_X10_errs_5) dX10_errs_11 ?_
    obtain rfl := Option.some.inj h
    exact g_iret C hP hD hS dX10_errs_13
theorem in_X10_makeDraw_X10 : ∀ w ∈ wsX100, w ∈ wsX10_makeDraw := by decide +kernel
theorem in_X10_makeDraw_X6 : ∀ w ∈ wsX60, w ∈ wsX10_makeDraw := by decide +kernel
theorem mb_X10_makeDraw_0 : Cond.fieldLink RX10 29 "GuardDesk" "plan" "LGuardDesk$Plan;" ∈ wsX10_makeDraw := List.mem_of_getElem? (i := 1) rfl
theorem mb_X10_makeDraw_1 : Cond.fieldLink RX10 10 "GuardDesk" "now" "LGuardDesk$Scene;" ∈ wsX10_makeDraw := List.mem_of_getElem? (i := 2) rfl
theorem mb_X10_makeDraw_2 : Cond.fieldLink RX10 69 "GuardDesk$Scene" "targets" "LGuardDesk$Targets;" ∈ wsX10_makeDraw := List.mem_of_getElem? (i := 3) rfl
theorem mb_X10_makeDraw_3 : Cond.fieldLink RX10 36 "GuardDesk" "draw" "LGuardDesk$Draw;" ∈ wsX10_makeDraw := List.mem_of_getElem? (i := 4) rfl
set_option maxRecDepth 100000 in
set_option maxHeartbeats 4000000 in
theorem c_X10_makeDraw (l : Launch) (D : va_G) (cI cJ cZ cG : ClassId) (a_x a_x_now a_x_kept a_x_sheets a_x_plan a_x_draw a_x_blockade a_x_watch a_x_now_targets a_x_now_roads a_x_now_posts a_x_now_haunts a_x_now_targets_kind a_x_now_targets_saved a_x_now_targets_lost a_x_now_targets_gain a_x_now_targets_gap a_x_now_targets_least a_x_now_targets_most a_x_now_targets_hand a_x_plan_parts a_x_draw_cuts : Nat) (x_isKept : Int32) (x_latestBelow : Int32) (x_findings : Int32) (x_now_targets_size : Int32) (x_now_targets_guards : Int32) (x_now_targets_saved : (Nat → Int32)) (x_now_targets_lost : (Nat → Int32)) (x_now_targets_gain : (Nat → Int32)) (x_now_targets_gap : (Nat → Int32)) (x_now_targets_least : (Nat → Int32)) (x_now_targets_most : (Nat → Int32)) (x_plan_levelAbove : Int64) (x_plan_levelBelow : Int64) (x_plan_unit : Int64) (x_plan_size : Int32) (x_plan_goal : Int32) (x_plan_parts : (Nat → Int64)) (x_draw_size : Int32) (x_draw_cuts : (Nat → Int64)) (N : Nat) (q : Int32 × Int64 × Int64 × Int64 × Int32 × Int32 × (Nat → Int64) × Int32 × (Nat → Int64)) (h : f_X10_makeDraw N x_now_targets_size x_now_targets_guards x_now_targets_saved x_now_targets_lost x_now_targets_gain x_now_targets_gap x_now_targets_least x_now_targets_most x_plan_levelAbove x_plan_levelBelow x_plan_unit x_plan_size x_plan_goal x_plan_parts x_draw_size x_draw_cuts = some q) : gMet l yX10_makeDraw wsX10_makeDraw rm_X10_makeDraw [.ref a_x] (w_X10_makeDraw cI cJ cZ cG a_x a_x_now a_x_kept a_x_sheets a_x_plan a_x_draw a_x_blockade a_x_watch a_x_now_targets a_x_now_roads a_x_now_posts a_x_now_haunts a_x_now_targets_kind a_x_now_targets_saved a_x_now_targets_lost a_x_now_targets_gain a_x_now_targets_gap a_x_now_targets_least a_x_now_targets_most a_x_now_targets_hand a_x_plan_parts a_x_draw_cuts x_isKept x_latestBelow x_findings x_now_targets_size x_now_targets_guards x_now_targets_saved x_now_targets_lost x_now_targets_gain x_now_targets_gap x_now_targets_least x_now_targets_most x_plan_levelAbove x_plan_levelBelow x_plan_unit x_plan_size x_plan_goal x_plan_parts x_draw_size x_draw_cuts) (w_X10_makeDraw cI cJ cZ cG a_x a_x_now a_x_kept a_x_sheets a_x_plan a_x_draw a_x_blockade a_x_watch a_x_now_targets a_x_now_roads a_x_now_posts a_x_now_haunts a_x_now_targets_kind a_x_now_targets_saved a_x_now_targets_lost a_x_now_targets_gain a_x_now_targets_gap a_x_now_targets_least a_x_now_targets_most a_x_now_targets_hand a_x_plan_parts a_x_draw_cuts x_isKept x_latestBelow x_findings x_now_targets_size x_now_targets_guards x_now_targets_saved x_now_targets_lost x_now_targets_gain x_now_targets_gap x_now_targets_least x_now_targets_most q.2.1 q.2.2.1 q.2.2.2.1 q.2.2.2.2.1 q.2.2.2.2.2.1 q.2.2.2.2.2.2.1 q.2.2.2.2.2.2.2.1 q.2.2.2.2.2.2.2.2) (some (.int q.1)) D cI cJ cZ cG := by
  refine g_enter (cc := cX10_makeDraw) (nL := 1) (ret := (some .boolean)) (by decide) rfl (Nat.le_of_ble_eq_true rfl) ?_
  intro p e s m below meth c A C H locs ls hP hD hS hl
  obtain ⟨hx, hb, hr, hml, hown, hts, hlk, hgk, hA⟩ := id C
  have hK := hgk.1
  have hl : lv_has ls 1 [(0, .ref a_x)] := hl
  unfold f_X10_makeDraw at h
  refine lv_aload_n hx hb dX10_makeDraw_0 rfl (lv_at hl 0 rfl) ?_
  refine va_get (D := D) (ci := 10) (v := .ref a_x_plan) (C := RX10) (T := TX10) (N := 10) hx hb hts in_X10_makeDraw_X10 hown hK hP 0 rfl rfl 3 (by decide) (hts _ mb_X10_makeDraw_0) (fun _ h9 => h9) rfl dX10_makeDraw_1 ?_
  refine lv_aload_n hx hb dX10_makeDraw_4 rfl (lv_at hl 0 rfl) ?_
  refine va_get (D := D) (ci := 10) (v := .ref a_x_now) (C := RX10) (T := TX10) (N := 10) hx hb hts in_X10_makeDraw_X10 hown hK hP 0 rfl rfl 0 (by decide) (hts _ mb_X10_makeDraw_1) (fun _ h9 => h9) rfl dX10_makeDraw_5 ?_
  refine va_get (D := D) (ci := 6) (v := .ref a_x_now_targets) (C := RX6) (T := TX6) (N := 4) hx hb hts in_X10_makeDraw_X6 hown hK hP 1 rfl rfl 0 (by decide) (hts _ mb_X10_makeDraw_2) (fun _ h9 => h9) rfl dX10_makeDraw_8 ?_
  obtain ⟨q1, e1, h⟩ := bd_some h
  refine g_callV (index := 120) (maxL := 6) (n := 1) (As := [.ref a_x_now_targets]) (rest := []) (st1 := [.int q1.1]) (C1 := RX3) (T1 := TX3) (N1 := 6) (ws2 := (w_X10_makeDraw cI cJ cZ cG a_x a_x_now a_x_kept a_x_sheets a_x_plan a_x_draw a_x_blockade a_x_watch a_x_now_targets a_x_now_roads a_x_now_posts a_x_now_haunts a_x_now_targets_kind a_x_now_targets_saved a_x_now_targets_lost a_x_now_targets_gain a_x_now_targets_gap a_x_now_targets_least a_x_now_targets_most a_x_now_targets_hand a_x_plan_parts a_x_draw_cuts x_isKept x_latestBelow x_findings x_now_targets_size x_now_targets_guards x_now_targets_saved x_now_targets_lost x_now_targets_gain x_now_targets_gap x_now_targets_least x_now_targets_most q1.2.1 q1.2.2.1 q1.2.2.2.1 q1.2.2.2.2.1 q1.2.2.2.2.2.1 q1.2.2.2.2.2.2 x_draw_size x_draw_cuts)) C hP hD hS hl.1 3 0 (c_X3_make l D cI cJ cZ cG a_x_plan a_x_plan_parts a_x_now_targets a_x_now_targets_kind a_x_now_targets_saved a_x_now_targets_lost a_x_now_targets_gain a_x_now_targets_gap a_x_now_targets_least a_x_now_targets_most a_x_now_targets_hand x_plan_levelAbove x_plan_levelBelow x_plan_unit x_plan_size x_plan_goal x_plan_parts x_now_targets_size x_now_targets_guards x_now_targets_saved x_now_targets_lost x_now_targets_gain x_now_targets_gap x_now_targets_least x_now_targets_most N q1 e1) gX10_makeDraw_X3_make rfl rfl rfl (by decide +kernel) ⟨Nat.le_of_ble_eq_true rfl, Nat.le_of_ble_eq_true rfl⟩ rfl rfl rfl (Nat.le_of_ble_eq_true rfl) rfl dX10_makeDraw_11 [9, 10, 2, 3, 4, 5, 6, 7, 8] [0, 1, 11, 12] [0, 1, 6, 7, 8, 9, 10, 11, 12, 4, 5, 2, 3] rfl rfl rfl rfl (by decide) rfl rfl rfl (fun H locs hP hD hS => ?_)
  refine lv_if_ne (tgt := 19) hx hb dX10_makeDraw_14 (by decide) (fun c2 => ?_) (fun c2 => ?_)
  · have h := iff_ c2 h
    refine lv_aload_n hx hb dX10_makeDraw_19 rfl (lv_at hl 0 rfl) ?_
    refine va_get (D := D) (ci := 10) (v := .ref a_x_draw) (C := RX10) (T := TX10) (N := 10) hx hb hts in_X10_makeDraw_X10 hown hK hP 0 rfl rfl 4 (by decide) (hts _ mb_X10_makeDraw_3) (fun _ h9 => h9) rfl dX10_makeDraw_20 ?_
    refine lv_aload_n hx hb dX10_makeDraw_23 rfl (lv_at hl 0 rfl) ?_
    refine va_get (D := D) (ci := 10) (v := .ref a_x_plan) (C := RX10) (T := TX10) (N := 10) hx hb hts in_X10_makeDraw_X10 hown hK hP 0 rfl rfl 3 (by decide) (hts _ mb_X10_makeDraw_0) (fun _ h9 => h9) rfl dX10_makeDraw_24 ?_
    obtain ⟨q3, e3, h⟩ := bd_some h
    refine g_callV (index := 285) (maxL := 5) (n := 1) (As := [.ref a_x_plan]) (rest := []) (st1 := []) (C1 := RX1) (T1 := TX1) (N1 := 2) (ws2 := (w_X10_makeDraw cI cJ cZ cG a_x a_x_now a_x_kept a_x_sheets a_x_plan a_x_draw a_x_blockade a_x_watch a_x_now_targets a_x_now_roads a_x_now_posts a_x_now_haunts a_x_now_targets_kind a_x_now_targets_saved a_x_now_targets_lost a_x_now_targets_gain a_x_now_targets_gap a_x_now_targets_least a_x_now_targets_most a_x_now_targets_hand a_x_plan_parts a_x_draw_cuts x_isKept x_latestBelow x_findings x_now_targets_size x_now_targets_guards x_now_targets_saved x_now_targets_lost x_now_targets_gain x_now_targets_gap x_now_targets_least x_now_targets_most q1.2.1 q1.2.2.1 q1.2.2.2.1 q1.2.2.2.2.1 q1.2.2.2.2.2.1 q1.2.2.2.2.2.2 q3.1 q3.2)) C hP hD hS hl.1 1 0 (c_X1_make l D cI cJ cZ cG a_x_draw a_x_draw_cuts a_x_plan a_x_plan_parts x_draw_size x_draw_cuts q1.2.1 q1.2.2.1 q1.2.2.2.1 q1.2.2.2.2.1 q1.2.2.2.2.2.1 q1.2.2.2.2.2.2 N q3 e3) gX10_makeDraw_X1_make rfl rfl rfl (by decide +kernel) ⟨Nat.le_of_ble_eq_true rfl, Nat.le_of_ble_eq_true rfl⟩ rfl rfl rfl (Nat.le_of_ble_eq_true rfl) rfl dX10_makeDraw_27 [11, 12, 9, 10] [0, 1, 2, 3, 4, 5, 6, 7, 8] [0, 1, 2, 3, 4, 5, 6, 7, 8, 11, 12, 9, 10] rfl rfl rfl rfl (by decide) rfl rfl rfl (fun H locs hP hD hS => ?_)
    refine lv_iconst (v := 1) hx hb dX10_makeDraw_30 (by decide) ?_
    obtain rfl := Option.some.inj h
    exact g_zret C hP hD hS (nz_b (Or.inr rfl)) dX10_makeDraw_31
  · have h := ift c2 h
    refine lv_iconst (v := 0) hx hb dX10_makeDraw_17 (by decide) ?_
    obtain rfl := Option.some.inj h
    exact g_zret C hP hD hS (nz_b (Or.inl rfl)) dX10_makeDraw_18
theorem in_X10_lots_X1 : ∀ w ∈ wsX10, w ∈ wsX10_lots := by decide +kernel
theorem in_X10_lots_X10 : ∀ w ∈ wsX100, w ∈ wsX10_lots := by decide +kernel
theorem mb_X10_lots_0 : Cond.constant RX10 127 (-1000000003) ∈ wsX10_lots := List.mem_of_getElem? (i := 3) rfl
theorem mb_X10_lots_1 : Cond.fieldLink RX10 36 "GuardDesk" "draw" "LGuardDesk$Draw;" ∈ wsX10_lots := List.mem_of_getElem? (i := 1) rfl
theorem mb_X10_lots_2 : Cond.fieldLink RX10 166 "GuardDesk$Draw" "size" "I" ∈ wsX10_lots := List.mem_of_getElem? (i := 2) rfl
set_option maxRecDepth 100000 in
set_option maxHeartbeats 4000000 in
theorem c_X10_lots (l : Launch) (D : va_G) (cI cJ cZ cG : ClassId) (a_x a_x_now a_x_kept a_x_sheets a_x_plan a_x_draw a_x_blockade a_x_watch a_x_now_targets a_x_now_roads a_x_now_posts a_x_now_haunts a_x_now_targets_kind a_x_now_targets_saved a_x_now_targets_lost a_x_now_targets_gain a_x_now_targets_gap a_x_now_targets_least a_x_now_targets_most a_x_now_targets_hand a_x_plan_parts a_x_draw_cuts : Nat) (x_isKept : Int32) (x_latestBelow : Int32) (x_findings : Int32) (x_now_targets_size : Int32) (x_now_targets_guards : Int32) (x_now_targets_saved : (Nat → Int32)) (x_now_targets_lost : (Nat → Int32)) (x_now_targets_gain : (Nat → Int32)) (x_now_targets_gap : (Nat → Int32)) (x_now_targets_least : (Nat → Int32)) (x_now_targets_most : (Nat → Int32)) (x_plan_levelAbove : Int64) (x_plan_levelBelow : Int64) (x_plan_unit : Int64) (x_plan_size : Int32) (x_plan_goal : Int32) (x_plan_parts : (Nat → Int64)) (x_draw_size : Int32) (x_draw_cuts : (Nat → Int64)) (N : Nat) (q : Int32 × Int64 × Int64 × Int64 × Int32 × Int32 × (Nat → Int64) × Int32 × (Nat → Int64)) (h : f_X10_lots N x_now_targets_size x_now_targets_guards x_now_targets_saved x_now_targets_lost x_now_targets_gain x_now_targets_gap x_now_targets_least x_now_targets_most x_plan_levelAbove x_plan_levelBelow x_plan_unit x_plan_size x_plan_goal x_plan_parts x_draw_size x_draw_cuts = some q) : gMet l yX10_lots wsX10_lots rm_X10_lots [.ref a_x] (w_X10_lots cI cJ cZ cG a_x a_x_now a_x_kept a_x_sheets a_x_plan a_x_draw a_x_blockade a_x_watch a_x_now_targets a_x_now_roads a_x_now_posts a_x_now_haunts a_x_now_targets_kind a_x_now_targets_saved a_x_now_targets_lost a_x_now_targets_gain a_x_now_targets_gap a_x_now_targets_least a_x_now_targets_most a_x_now_targets_hand a_x_plan_parts a_x_draw_cuts x_isKept x_latestBelow x_findings x_now_targets_size x_now_targets_guards x_now_targets_saved x_now_targets_lost x_now_targets_gain x_now_targets_gap x_now_targets_least x_now_targets_most x_plan_levelAbove x_plan_levelBelow x_plan_unit x_plan_size x_plan_goal x_plan_parts x_draw_size x_draw_cuts) (w_X10_lots cI cJ cZ cG a_x a_x_now a_x_kept a_x_sheets a_x_plan a_x_draw a_x_blockade a_x_watch a_x_now_targets a_x_now_roads a_x_now_posts a_x_now_haunts a_x_now_targets_kind a_x_now_targets_saved a_x_now_targets_lost a_x_now_targets_gain a_x_now_targets_gap a_x_now_targets_least a_x_now_targets_most a_x_now_targets_hand a_x_plan_parts a_x_draw_cuts x_isKept x_latestBelow x_findings x_now_targets_size x_now_targets_guards x_now_targets_saved x_now_targets_lost x_now_targets_gain x_now_targets_gap x_now_targets_least x_now_targets_most q.2.1 q.2.2.1 q.2.2.2.1 q.2.2.2.2.1 q.2.2.2.2.2.1 q.2.2.2.2.2.2.1 q.2.2.2.2.2.2.2.1 q.2.2.2.2.2.2.2.2) (some (.int q.1)) D cI cJ cZ cG := by
  refine g_enter (cc := cX10_lots) (nL := 1) (ret := (some .int)) (by decide) rfl (Nat.le_of_ble_eq_true rfl) ?_
  intro p e s m below meth c A C H locs ls hP hD hS hl
  obtain ⟨hx, hb, hr, hml, hown, hts, hlk, hgk, hA⟩ := id C
  have hK := hgk.1
  have hl : lv_has ls 1 [(0, .ref a_x)] := hl
  unfold f_X10_lots at h
  refine lv_aload_n hx hb dX10_lots_0 rfl (lv_at hl 0 rfl) ?_
  obtain ⟨q1, e1, h⟩ := bd_some h
  refine g_callV (index := 162) (maxL := 1) (n := 0) (As := []) (rest := []) (st1 := [.int q1.1]) (C1 := RX10) (T1 := TX10) (N1 := 10) (ws2 := (w_X10_lots cI cJ cZ cG a_x a_x_now a_x_kept a_x_sheets a_x_plan a_x_draw a_x_blockade a_x_watch a_x_now_targets a_x_now_roads a_x_now_posts a_x_now_haunts a_x_now_targets_kind a_x_now_targets_saved a_x_now_targets_lost a_x_now_targets_gain a_x_now_targets_gap a_x_now_targets_least a_x_now_targets_most a_x_now_targets_hand a_x_plan_parts a_x_draw_cuts x_isKept x_latestBelow x_findings x_now_targets_size x_now_targets_guards x_now_targets_saved x_now_targets_lost x_now_targets_gain x_now_targets_gap x_now_targets_least x_now_targets_most q1.2.1 q1.2.2.1 q1.2.2.2.1 q1.2.2.2.2.1 q1.2.2.2.2.2.1 q1.2.2.2.2.2.2.1 q1.2.2.2.2.2.2.2.1 q1.2.2.2.2.2.2.2.2)) C hP hD hS hl.1 10 0 (c_X10_makeDraw l D cI cJ cZ cG a_x a_x_now a_x_kept a_x_sheets a_x_plan a_x_draw a_x_blockade a_x_watch a_x_now_targets a_x_now_roads a_x_now_posts a_x_now_haunts a_x_now_targets_kind a_x_now_targets_saved a_x_now_targets_lost a_x_now_targets_gain a_x_now_targets_gap a_x_now_targets_least a_x_now_targets_most a_x_now_targets_hand a_x_plan_parts a_x_draw_cuts x_isKept x_latestBelow x_findings x_now_targets_size x_now_targets_guards x_now_targets_saved x_now_targets_lost x_now_targets_gain x_now_targets_gap x_now_targets_least x_now_targets_most x_plan_levelAbove x_plan_levelBelow x_plan_unit x_plan_size x_plan_goal x_plan_parts x_draw_size x_draw_cuts N q1 e1) gX10_lots_X10_makeDraw rfl rfl rfl (by decide +kernel) ⟨Nat.le_of_ble_eq_true rfl, Nat.le_of_ble_eq_true rfl⟩ rfl rfl rfl (Nat.le_of_ble_eq_true rfl) rfl dX10_lots_1 [0, 1, 2, 3, 4, 5, 6, 7, 8, 9, 10, 11, 12] [] [0, 1, 2, 3, 4, 5, 6, 7, 8, 9, 10, 11, 12] rfl rfl rfl rfl (by decide) rfl rfl rfl (fun H locs hP hD hS => ?_)
  refine lv_if_eq (tgt := 17) hx hb dX10_lots_4 (by decide) (fun c2 => ?_) (fun c2 => ?_)
  · have h := ift c2 h
    refine lv_ldc (v := (-1000000003)) hx hb hown (hts _ mb_X10_lots_0) dX10_lots_17 ?_
    obtain rfl := Option.some.inj h
    exact g_iret C hP hD hS dX10_lots_19
  · have h := iff_ c2 h
    refine lv_aload_n hx hb dX10_lots_7 rfl (lv_at hl 0 rfl) ?_
    refine va_get (D := D) (ci := 10) (v := .ref a_x_draw) (C := RX10) (T := TX10) (N := 10) hx hb hts in_X10_lots_X10 hown hK hP 0 rfl rfl 4 (by decide) (hts _ mb_X10_lots_1) (fun _ h9 => h9) rfl dX10_lots_8 ?_
    refine va_get (D := D) (ci := 1) (v := .int q1.2.2.2.2.2.2.2.1) (C := RX1) (T := TX1) (N := 2) hx hb hts in_X10_lots_X1 hown hK hP 11 rfl rfl 0 (by decide) (hts _ mb_X10_lots_2) (fun _ h9 => h9) rfl dX10_lots_11 ?_
    refine lv_goto (tgt := 19) hx hb dX10_lots_14 (by decide) ?_
    obtain rfl := Option.some.inj h
    exact g_iret C hP hD hS dX10_lots_19
theorem in_X10_team_X1 : ∀ w ∈ wsX10, w ∈ wsX10_team := by decide +kernel
theorem in_X10_team_X10 : ∀ w ∈ wsX100, w ∈ wsX10_team := by decide +kernel
theorem mb_X10_team_0 : Cond.constant RX10 127 (-1000000003) ∈ wsX10_team := List.mem_of_getElem? (i := 3) rfl
theorem mb_X10_team_1 : Cond.fieldLink RX10 36 "GuardDesk" "draw" "LGuardDesk$Draw;" ∈ wsX10_team := List.mem_of_getElem? (i := 1) rfl
theorem mb_X10_team_2 : Cond.fieldLink RX10 166 "GuardDesk$Draw" "size" "I" ∈ wsX10_team := List.mem_of_getElem? (i := 2) rfl
theorem mb_X10_team_3 : Cond.fieldLink RX10 29 "GuardDesk" "plan" "LGuardDesk$Plan;" ∈ wsX10_team := List.mem_of_getElem? (i := 4) rfl
theorem mb_X10_team_4 : Cond.fieldLink RX10 167 "GuardDesk$Draw" "cuts" "[J" ∈ wsX10_team := List.mem_of_getElem? (i := 5) rfl
set_option maxRecDepth 100000 in
set_option maxHeartbeats 4000000 in
theorem c_X10_team (l : Launch) (D : va_G) (cI cJ cZ cG : ClassId) (a_x a_x_now a_x_kept a_x_sheets a_x_plan a_x_draw a_x_blockade a_x_watch a_x_now_targets a_x_now_roads a_x_now_posts a_x_now_haunts a_x_now_targets_kind a_x_now_targets_saved a_x_now_targets_lost a_x_now_targets_gain a_x_now_targets_gap a_x_now_targets_least a_x_now_targets_most a_x_now_targets_hand a_x_plan_parts a_x_draw_cuts : Nat) (x_isKept : Int32) (x_latestBelow : Int32) (x_findings : Int32) (x_now_targets_size : Int32) (x_now_targets_guards : Int32) (x_now_targets_saved : (Nat → Int32)) (x_now_targets_lost : (Nat → Int32)) (x_now_targets_gain : (Nat → Int32)) (x_now_targets_gap : (Nat → Int32)) (x_now_targets_least : (Nat → Int32)) (x_now_targets_most : (Nat → Int32)) (x_plan_levelAbove : Int64) (x_plan_levelBelow : Int64) (x_plan_unit : Int64) (x_plan_size : Int32) (x_plan_goal : Int32) (x_plan_parts : (Nat → Int64)) (x_draw_size : Int32) (x_draw_cuts : (Nat → Int64)) (p1 : Int32) (N : Nat) (q : Int32 × Int64 × Int64 × Int64 × Int32 × Int32 × (Nat → Int64) × Int32 × (Nat → Int64)) (h : f_X10_team N x_now_targets_size x_now_targets_guards x_now_targets_saved x_now_targets_lost x_now_targets_gain x_now_targets_gap x_now_targets_least x_now_targets_most x_plan_levelAbove x_plan_levelBelow x_plan_unit x_plan_size x_plan_goal x_plan_parts x_draw_size x_draw_cuts p1 = some q) : gMet l yX10_team wsX10_team rm_X10_team [.ref a_x, .int p1] (w_X10_team cI cJ cZ cG a_x a_x_now a_x_kept a_x_sheets a_x_plan a_x_draw a_x_blockade a_x_watch a_x_now_targets a_x_now_roads a_x_now_posts a_x_now_haunts a_x_now_targets_kind a_x_now_targets_saved a_x_now_targets_lost a_x_now_targets_gain a_x_now_targets_gap a_x_now_targets_least a_x_now_targets_most a_x_now_targets_hand a_x_plan_parts a_x_draw_cuts x_isKept x_latestBelow x_findings x_now_targets_size x_now_targets_guards x_now_targets_saved x_now_targets_lost x_now_targets_gain x_now_targets_gap x_now_targets_least x_now_targets_most x_plan_levelAbove x_plan_levelBelow x_plan_unit x_plan_size x_plan_goal x_plan_parts x_draw_size x_draw_cuts) (w_X10_team cI cJ cZ cG a_x a_x_now a_x_kept a_x_sheets a_x_plan a_x_draw a_x_blockade a_x_watch a_x_now_targets a_x_now_roads a_x_now_posts a_x_now_haunts a_x_now_targets_kind a_x_now_targets_saved a_x_now_targets_lost a_x_now_targets_gain a_x_now_targets_gap a_x_now_targets_least a_x_now_targets_most a_x_now_targets_hand a_x_plan_parts a_x_draw_cuts x_isKept x_latestBelow x_findings x_now_targets_size x_now_targets_guards x_now_targets_saved x_now_targets_lost x_now_targets_gain x_now_targets_gap x_now_targets_least x_now_targets_most q.2.1 q.2.2.1 q.2.2.2.1 q.2.2.2.2.1 q.2.2.2.2.2.1 q.2.2.2.2.2.2.1 q.2.2.2.2.2.2.2.1 q.2.2.2.2.2.2.2.2) (some (.int q.1)) D cI cJ cZ cG := by
  refine g_enter (cc := cX10_team) (nL := 2) (ret := (some .int)) (by decide) rfl (Nat.le_of_ble_eq_true rfl) ?_
  intro p e s m below meth c A C H locs ls hP hD hS hl
  obtain ⟨hx, hb, hr, hml, hown, hts, hlk, hgk, hA⟩ := id C
  have hK := hgk.1
  have hl : lv_has ls 2 [(0, .ref a_x), (1, .int p1)] := hl
  unfold f_X10_team at h
  refine lv_aload_n hx hb dX10_team_0 rfl (lv_at hl 0 rfl) ?_
  obtain ⟨q1, e1, h⟩ := bd_some h
  refine g_callV (index := 162) (maxL := 1) (n := 0) (As := []) (rest := []) (st1 := [.int q1.1]) (C1 := RX10) (T1 := TX10) (N1 := 10) (ws2 := (w_X10_team cI cJ cZ cG a_x a_x_now a_x_kept a_x_sheets a_x_plan a_x_draw a_x_blockade a_x_watch a_x_now_targets a_x_now_roads a_x_now_posts a_x_now_haunts a_x_now_targets_kind a_x_now_targets_saved a_x_now_targets_lost a_x_now_targets_gain a_x_now_targets_gap a_x_now_targets_least a_x_now_targets_most a_x_now_targets_hand a_x_plan_parts a_x_draw_cuts x_isKept x_latestBelow x_findings x_now_targets_size x_now_targets_guards x_now_targets_saved x_now_targets_lost x_now_targets_gain x_now_targets_gap x_now_targets_least x_now_targets_most q1.2.1 q1.2.2.1 q1.2.2.2.1 q1.2.2.2.2.1 q1.2.2.2.2.2.1 q1.2.2.2.2.2.2.1 q1.2.2.2.2.2.2.2.1 q1.2.2.2.2.2.2.2.2)) C hP hD hS hl.1 10 0 (c_X10_makeDraw l D cI cJ cZ cG a_x a_x_now a_x_kept a_x_sheets a_x_plan a_x_draw a_x_blockade a_x_watch a_x_now_targets a_x_now_roads a_x_now_posts a_x_now_haunts a_x_now_targets_kind a_x_now_targets_saved a_x_now_targets_lost a_x_now_targets_gain a_x_now_targets_gap a_x_now_targets_least a_x_now_targets_most a_x_now_targets_hand a_x_plan_parts a_x_draw_cuts x_isKept x_latestBelow x_findings x_now_targets_size x_now_targets_guards x_now_targets_saved x_now_targets_lost x_now_targets_gain x_now_targets_gap x_now_targets_least x_now_targets_most x_plan_levelAbove x_plan_levelBelow x_plan_unit x_plan_size x_plan_goal x_plan_parts x_draw_size x_draw_cuts N q1 e1) gX10_team_X10_makeDraw rfl rfl rfl (by decide +kernel) ⟨Nat.le_of_ble_eq_true rfl, Nat.le_of_ble_eq_true rfl⟩ rfl rfl rfl (Nat.le_of_ble_eq_true rfl) rfl dX10_team_1 [0, 1, 2, 3, 4, 5, 6, 7, 8, 9, 10, 11, 12] [] [0, 1, 2, 3, 4, 5, 6, 7, 8, 9, 10, 11, 12] rfl rfl rfl rfl (by decide) rfl rfl rfl (fun H locs hP hD hS => ?_)
  refine lv_if_eq (tgt := 24) hx hb dX10_team_4 (by decide) (fun c2 => ?_) (fun c2 => ?_)
  · have h := ift c2 h
    refine lv_ldc (v := (-1000000003)) hx hb hown (hts _ mb_X10_team_0) dX10_team_24 ?_
    obtain rfl := Option.some.inj h
    exact g_iret C hP hD hS dX10_team_26
  · have h := iff_ c2 h
    refine lv_iload_n hx hb dX10_team_7 rfl (lv_at hl 1 rfl) ?_
    refine lv_iconst (v := 0) hx hb dX10_team_8 (by decide) ?_
    refine lv_aload_n hx hb dX10_team_9 rfl (lv_at hl 0 rfl) ?_
    refine va_get (D := D) (ci := 10) (v := .ref a_x_draw) (C := RX10) (T := TX10) (N := 10) hx hb hts in_X10_team_X10 hown hK hP 0 rfl rfl 4 (by decide) (hts _ mb_X10_team_1) (fun _ h9 => h9) rfl dX10_team_10 ?_
    refine va_get (D := D) (ci := 1) (v := .int q1.2.2.2.2.2.2.2.1) (C := RX1) (T := TX1) (N := 2) hx hb hts in_X10_team_X1 hown hK hP 11 rfl rfl 0 (by decide) (hts _ mb_X10_team_2) (fun _ h9 => h9) rfl dX10_team_13 ?_
    refine lv_iconst (v := 1) hx hb dX10_team_16 (by decide) ?_
    refine lv_isub hx hb dX10_team_17 ?_
    refine g_callS0 (index := 58) (maxL := 3) (n := 3) (As := [.int p1, .int 0, .int (q1.2.2.2.2.2.2.2.1 - 1)]) (rest := []) (st1 := [.int (f_X10_isFrom p1 0 (q1.2.2.2.2.2.2.2.1 - 1))]) C hP hS hl.1 (c_X10_isFrom l D cI cJ cZ cG p1 0 (q1.2.2.2.2.2.2.2.1 - 1) _ rfl) gX10_team_X10_isFrom rfl rfl rfl (by decide +kernel) ⟨Nat.le_of_ble_eq_true rfl, Nat.le_of_ble_eq_true rfl⟩ rfl (Nat.le_of_ble_eq_true rfl) rfl dX10_team_18 rfl (fun H locs hP hS => ?_)
    refine lv_if_ne (tgt := 27) hx hb dX10_team_21 (by decide) (fun c3 => ?_) (fun c3 => ?_)
    · have h := iff_ c3 h
      refine lv_aload_n hx hb dX10_team_27 rfl (lv_at hl 0 rfl) ?_
      refine va_get (D := D) (ci := 10) (v := .ref a_x_draw) (C := RX10) (T := TX10) (N := 10) hx hb hts in_X10_team_X10 hown hK hP 0 rfl rfl 4 (by decide) (hts _ mb_X10_team_1) (fun _ h9 => h9) rfl dX10_team_28 ?_
      refine lv_aload_n hx hb dX10_team_31 rfl (lv_at hl 0 rfl) ?_
      refine va_get (D := D) (ci := 10) (v := .ref a_x_plan) (C := RX10) (T := TX10) (N := 10) hx hb hts in_X10_team_X10 hown hK hP 0 rfl rfl 3 (by decide) (hts _ mb_X10_team_3) (fun _ h9 => h9) rfl dX10_team_32 ?_
      refine lv_aload_n hx hb dX10_team_35 rfl (lv_at hl 0 rfl) ?_
      refine va_get (D := D) (ci := 10) (v := .ref a_x_draw) (C := RX10) (T := TX10) (N := 10) hx hb hts in_X10_team_X10 hown hK hP 0 rfl rfl 4 (by decide) (hts _ mb_X10_team_1) (fun _ h9 => h9) rfl dX10_team_36 ?_
      refine va_get (D := D) (ci := 1) (v := .ref a_x_draw_cuts) (C := RX1) (T := TX1) (N := 2) hx hb hts in_X10_team_X1 hown hK hP 11 rfl rfl 1 (by decide) (hts _ mb_X10_team_4) (fun _ h9 => h9) rfl dX10_team_39 ?_
      refine lv_iload_n hx hb dX10_team_42 rfl (lv_at hl 1 rfl) ?_
      obtain ⟨i4, h⟩ := gI_some h
      refine va_lald hx hb hK hP 12 1 rfl rfl i4 dX10_team_43 ?_
      obtain ⟨q5, e5, h⟩ := bd_some h
      refine g_callV (index := 170) (maxL := 12) (n := 2) (As := [.ref a_x_plan, .long (q1.2.2.2.2.2.2.2.2 p1.toNatClampNeg)]) (rest := []) (st1 := [.int q5]) (C1 := RX1) (T1 := TX1) (N1 := 2) (ws2 := (w_X10_team cI cJ cZ cG a_x a_x_now a_x_kept a_x_sheets a_x_plan a_x_draw a_x_blockade a_x_watch a_x_now_targets a_x_now_roads a_x_now_posts a_x_now_haunts a_x_now_targets_kind a_x_now_targets_saved a_x_now_targets_lost a_x_now_targets_gain a_x_now_targets_gap a_x_now_targets_least a_x_now_targets_most a_x_now_targets_hand a_x_plan_parts a_x_draw_cuts x_isKept x_latestBelow x_findings x_now_targets_size x_now_targets_guards x_now_targets_saved x_now_targets_lost x_now_targets_gain x_now_targets_gap x_now_targets_least x_now_targets_most q1.2.1 q1.2.2.1 q1.2.2.2.1 q1.2.2.2.2.1 q1.2.2.2.2.2.1 q1.2.2.2.2.2.2.1 q1.2.2.2.2.2.2.2.1 q1.2.2.2.2.2.2.2.2)) C hP hD hS hl.1 1 0 (c_X1_membersAt l D cI cJ cZ cG a_x_draw a_x_draw_cuts a_x_plan a_x_plan_parts q1.2.2.2.2.2.2.2.1 q1.2.1 q1.2.2.1 q1.2.2.2.1 q1.2.2.2.2.1 q1.2.2.2.2.2.1 q1.2.2.2.2.2.2.1 (q1.2.2.2.2.2.2.2.2 p1.toNatClampNeg) N q5 e5) gX10_team_X1_membersAt rfl rfl rfl (by decide +kernel) ⟨Nat.le_of_ble_eq_true rfl, Nat.le_of_ble_eq_true rfl⟩ rfl rfl rfl (Nat.le_of_ble_eq_true rfl) rfl dX10_team_44 [11, 9, 10] [0, 1, 2, 3, 4, 5, 6, 7, 8, 12] [0, 1, 2, 3, 4, 5, 6, 7, 8, 11, 12, 10, 9] rfl rfl rfl rfl (by decide) rfl rfl rfl (fun H locs hP hD hS => ?_)
      obtain rfl := Option.some.inj h
      exact g_iret C hP hD hS dX10_team_47
    · have h := ift c3 h
      refine lv_ldc (v := (-1000000003)) hx hb hown (hts _ mb_X10_team_0) dX10_team_24 ?_
      obtain rfl := Option.some.inj h
      exact g_iret C hP hD hS dX10_team_26
theorem in_X10_chance_X1 : ∀ w ∈ wsX10, w ∈ wsX10_chance := by decide +kernel
theorem in_X10_chance_X10 : ∀ w ∈ wsX100, w ∈ wsX10_chance := by decide +kernel
theorem in_X10_chance_X3 : ∀ w ∈ wsX30, w ∈ wsX10_chance := by decide +kernel
theorem mb_X10_chance_0 : Cond.constant RX10 127 (-1000000003) ∈ wsX10_chance := List.mem_of_getElem? (i := 3) rfl
theorem mb_X10_chance_1 : Cond.fieldLink RX10 36 "GuardDesk" "draw" "LGuardDesk$Draw;" ∈ wsX10_chance := List.mem_of_getElem? (i := 1) rfl
theorem mb_X10_chance_2 : Cond.fieldLink RX10 166 "GuardDesk$Draw" "size" "I" ∈ wsX10_chance := List.mem_of_getElem? (i := 2) rfl
theorem mb_X10_chance_3 : Cond.fieldLink RX10 167 "GuardDesk$Draw" "cuts" "[J" ∈ wsX10_chance := List.mem_of_getElem? (i := 4) rfl
theorem mb_X10_chance_4 : Cond.fieldLink RX10 29 "GuardDesk" "plan" "LGuardDesk$Plan;" ∈ wsX10_chance := List.mem_of_getElem? (i := 5) rfl
theorem mb_X10_chance_5 : Cond.fieldLink RX10 132 "GuardDesk$Plan" "unit" "J" ∈ wsX10_chance := List.mem_of_getElem? (i := 6) rfl
set_option maxRecDepth 100000 in
set_option maxHeartbeats 4000000 in
theorem c_X10_chance (l : Launch) (D : va_G) (cI cJ cZ cG : ClassId) (a_x a_x_now a_x_kept a_x_sheets a_x_plan a_x_draw a_x_blockade a_x_watch a_x_now_targets a_x_now_roads a_x_now_posts a_x_now_haunts a_x_now_targets_kind a_x_now_targets_saved a_x_now_targets_lost a_x_now_targets_gain a_x_now_targets_gap a_x_now_targets_least a_x_now_targets_most a_x_now_targets_hand a_x_plan_parts a_x_draw_cuts : Nat) (x_isKept : Int32) (x_latestBelow : Int32) (x_findings : Int32) (x_now_targets_size : Int32) (x_now_targets_guards : Int32) (x_now_targets_saved : (Nat → Int32)) (x_now_targets_lost : (Nat → Int32)) (x_now_targets_gain : (Nat → Int32)) (x_now_targets_gap : (Nat → Int32)) (x_now_targets_least : (Nat → Int32)) (x_now_targets_most : (Nat → Int32)) (x_plan_levelAbove : Int64) (x_plan_levelBelow : Int64) (x_plan_unit : Int64) (x_plan_size : Int32) (x_plan_goal : Int32) (x_plan_parts : (Nat → Int64)) (x_draw_size : Int32) (x_draw_cuts : (Nat → Int64)) (p1 : Int32) (N : Nat) (q : Int32 × Int32 × Int64 × Int64 × Int64 × Int32 × Int32 × (Nat → Int64) × Int32 × (Nat → Int64)) (h : f_X10_chance N x_latestBelow x_now_targets_size x_now_targets_guards x_now_targets_saved x_now_targets_lost x_now_targets_gain x_now_targets_gap x_now_targets_least x_now_targets_most x_plan_levelAbove x_plan_levelBelow x_plan_unit x_plan_size x_plan_goal x_plan_parts x_draw_size x_draw_cuts p1 = some q) : gMet l yX10_chance wsX10_chance rm_X10_chance [.ref a_x, .int p1] (w_X10_chance cI cJ cZ cG a_x a_x_now a_x_kept a_x_sheets a_x_plan a_x_draw a_x_blockade a_x_watch a_x_now_targets a_x_now_roads a_x_now_posts a_x_now_haunts a_x_now_targets_kind a_x_now_targets_saved a_x_now_targets_lost a_x_now_targets_gain a_x_now_targets_gap a_x_now_targets_least a_x_now_targets_most a_x_now_targets_hand a_x_plan_parts a_x_draw_cuts x_isKept x_latestBelow x_findings x_now_targets_size x_now_targets_guards x_now_targets_saved x_now_targets_lost x_now_targets_gain x_now_targets_gap x_now_targets_least x_now_targets_most x_plan_levelAbove x_plan_levelBelow x_plan_unit x_plan_size x_plan_goal x_plan_parts x_draw_size x_draw_cuts) (w_X10_chance cI cJ cZ cG a_x a_x_now a_x_kept a_x_sheets a_x_plan a_x_draw a_x_blockade a_x_watch a_x_now_targets a_x_now_roads a_x_now_posts a_x_now_haunts a_x_now_targets_kind a_x_now_targets_saved a_x_now_targets_lost a_x_now_targets_gain a_x_now_targets_gap a_x_now_targets_least a_x_now_targets_most a_x_now_targets_hand a_x_plan_parts a_x_draw_cuts x_isKept q.2.1 x_findings x_now_targets_size x_now_targets_guards x_now_targets_saved x_now_targets_lost x_now_targets_gain x_now_targets_gap x_now_targets_least x_now_targets_most q.2.2.1 q.2.2.2.1 q.2.2.2.2.1 q.2.2.2.2.2.1 q.2.2.2.2.2.2.1 q.2.2.2.2.2.2.2.1 q.2.2.2.2.2.2.2.2.1 q.2.2.2.2.2.2.2.2.2) (some (.int q.1)) D cI cJ cZ cG := by
  refine g_enter (cc := cX10_chance) (nL := 2) (ret := (some .int)) (by decide) rfl (Nat.le_of_ble_eq_true rfl) ?_
  intro p e s m below meth c A C H locs ls hP hD hS hl
  obtain ⟨hx, hb, hr, hml, hown, hts, hlk, hgk, hA⟩ := id C
  have hK := hgk.1
  have hl : lv_has ls 2 [(0, .ref a_x), (1, .int p1)] := hl
  unfold f_X10_chance at h
  refine lv_aload_n hx hb dX10_chance_0 rfl (lv_at hl 0 rfl) ?_
  obtain ⟨q1, e1, h⟩ := bd_some h
  refine g_callV (index := 162) (maxL := 1) (n := 0) (As := []) (rest := []) (st1 := [.int q1.1]) (C1 := RX10) (T1 := TX10) (N1 := 10) (ws2 := (w_X10_chance cI cJ cZ cG a_x a_x_now a_x_kept a_x_sheets a_x_plan a_x_draw a_x_blockade a_x_watch a_x_now_targets a_x_now_roads a_x_now_posts a_x_now_haunts a_x_now_targets_kind a_x_now_targets_saved a_x_now_targets_lost a_x_now_targets_gain a_x_now_targets_gap a_x_now_targets_least a_x_now_targets_most a_x_now_targets_hand a_x_plan_parts a_x_draw_cuts x_isKept x_latestBelow x_findings x_now_targets_size x_now_targets_guards x_now_targets_saved x_now_targets_lost x_now_targets_gain x_now_targets_gap x_now_targets_least x_now_targets_most q1.2.1 q1.2.2.1 q1.2.2.2.1 q1.2.2.2.2.1 q1.2.2.2.2.2.1 q1.2.2.2.2.2.2.1 q1.2.2.2.2.2.2.2.1 q1.2.2.2.2.2.2.2.2)) C hP hD hS hl.1 10 0 (c_X10_makeDraw l D cI cJ cZ cG a_x a_x_now a_x_kept a_x_sheets a_x_plan a_x_draw a_x_blockade a_x_watch a_x_now_targets a_x_now_roads a_x_now_posts a_x_now_haunts a_x_now_targets_kind a_x_now_targets_saved a_x_now_targets_lost a_x_now_targets_gain a_x_now_targets_gap a_x_now_targets_least a_x_now_targets_most a_x_now_targets_hand a_x_plan_parts a_x_draw_cuts x_isKept x_latestBelow x_findings x_now_targets_size x_now_targets_guards x_now_targets_saved x_now_targets_lost x_now_targets_gain x_now_targets_gap x_now_targets_least x_now_targets_most x_plan_levelAbove x_plan_levelBelow x_plan_unit x_plan_size x_plan_goal x_plan_parts x_draw_size x_draw_cuts N q1 e1) gX10_chance_X10_makeDraw rfl rfl rfl (by decide +kernel) ⟨Nat.le_of_ble_eq_true rfl, Nat.le_of_ble_eq_true rfl⟩ rfl rfl rfl (Nat.le_of_ble_eq_true rfl) rfl dX10_chance_1 [0, 1, 2, 3, 4, 5, 6, 7, 8, 9, 10, 11, 12] [] [0, 1, 2, 3, 4, 5, 6, 7, 8, 9, 10, 11, 12] rfl rfl rfl rfl (by decide) rfl rfl rfl (fun H locs hP hD hS => ?_)
  refine lv_if_eq (tgt := 24) hx hb dX10_chance_4 (by decide) (fun c2 => ?_) (fun c2 => ?_)
  · have h := ift c2 h
    refine lv_ldc (v := (-1000000003)) hx hb hown (hts _ mb_X10_chance_0) dX10_chance_24 ?_
    obtain rfl := Option.some.inj h
    exact g_iret C hP hD hS dX10_chance_26
  · have h := iff_ c2 h
    refine lv_iload_n hx hb dX10_chance_7 rfl (lv_at hl 1 rfl) ?_
    refine lv_iconst (v := 0) hx hb dX10_chance_8 (by decide) ?_
    refine lv_aload_n hx hb dX10_chance_9 rfl (lv_at hl 0 rfl) ?_
    refine va_get (D := D) (ci := 10) (v := .ref a_x_draw) (C := RX10) (T := TX10) (N := 10) hx hb hts in_X10_chance_X10 hown hK hP 0 rfl rfl 4 (by decide) (hts _ mb_X10_chance_1) (fun _ h9 => h9) rfl dX10_chance_10 ?_
    refine va_get (D := D) (ci := 1) (v := .int q1.2.2.2.2.2.2.2.1) (C := RX1) (T := TX1) (N := 2) hx hb hts in_X10_chance_X1 hown hK hP 11 rfl rfl 0 (by decide) (hts _ mb_X10_chance_2) (fun _ h9 => h9) rfl dX10_chance_13 ?_
    refine lv_iconst (v := 1) hx hb dX10_chance_16 (by decide) ?_
    refine lv_isub hx hb dX10_chance_17 ?_
    refine g_callS0 (index := 58) (maxL := 3) (n := 3) (As := [.int p1, .int 0, .int (q1.2.2.2.2.2.2.2.1 - 1)]) (rest := []) (st1 := [.int (f_X10_isFrom p1 0 (q1.2.2.2.2.2.2.2.1 - 1))]) C hP hS hl.1 (c_X10_isFrom l D cI cJ cZ cG p1 0 (q1.2.2.2.2.2.2.2.1 - 1) _ rfl) gX10_chance_X10_isFrom rfl rfl rfl (by decide +kernel) ⟨Nat.le_of_ble_eq_true rfl, Nat.le_of_ble_eq_true rfl⟩ rfl (Nat.le_of_ble_eq_true rfl) rfl dX10_chance_18 rfl (fun H locs hP hS => ?_)
    refine lv_if_ne (tgt := 27) hx hb dX10_chance_21 (by decide) (fun c3 => ?_) (fun c3 => ?_)
    · have h := iff_ c3 h
      refine lv_aload_n hx hb dX10_chance_27 rfl (lv_at hl 0 rfl) ?_
      refine lv_aload_n hx hb dX10_chance_28 rfl (lv_at hl 0 rfl) ?_
      refine va_get (D := D) (ci := 10) (v := .ref a_x_draw) (C := RX10) (T := TX10) (N := 10) hx hb hts in_X10_chance_X10 hown hK hP 0 rfl rfl 4 (by decide) (hts _ mb_X10_chance_1) (fun _ h9 => h9) rfl dX10_chance_29 ?_
      refine va_get (D := D) (ci := 1) (v := .ref a_x_draw_cuts) (C := RX1) (T := TX1) (N := 2) hx hb hts in_X10_chance_X1 hown hK hP 11 rfl rfl 1 (by decide) (hts _ mb_X10_chance_3) (fun _ h9 => h9) rfl dX10_chance_32 ?_
      refine lv_iload_n hx hb dX10_chance_35 rfl (lv_at hl 1 rfl) ?_
      refine lv_iconst (v := 1) hx hb dX10_chance_36 (by decide) ?_
      refine lv_iadd hx hb dX10_chance_37 ?_
      obtain ⟨i4, h⟩ := gI_some h
      refine va_lald hx hb hK hP 12 1 rfl rfl i4 dX10_chance_38 ?_
      refine lv_aload_n hx hb dX10_chance_39 rfl (lv_at hl 0 rfl) ?_
      refine va_get (D := D) (ci := 10) (v := .ref a_x_draw) (C := RX10) (T := TX10) (N := 10) hx hb hts in_X10_chance_X10 hown hK hP 0 rfl rfl 4 (by decide) (hts _ mb_X10_chance_1) (fun _ h9 => h9) rfl dX10_chance_40 ?_
      refine va_get (D := D) (ci := 1) (v := .ref a_x_draw_cuts) (C := RX1) (T := TX1) (N := 2) hx hb hts in_X10_chance_X1 hown hK hP 11 rfl rfl 1 (by decide) (hts _ mb_X10_chance_3) (fun _ h9 => h9) rfl dX10_chance_43 ?_
      refine lv_iload_n hx hb dX10_chance_46 rfl (lv_at hl 1 rfl) ?_
      obtain ⟨i5, h⟩ := gI_some h
      refine va_lald hx hb hK hP 12 1 rfl rfl i5 dX10_chance_47 ?_
      refine lv_lsub hx hb dX10_chance_48 ?_
      refine lv_aload_n hx hb dX10_chance_49 rfl (lv_at hl 0 rfl) ?_
      refine va_get (D := D) (ci := 10) (v := .ref a_x_plan) (C := RX10) (T := TX10) (N := 10) hx hb hts in_X10_chance_X10 hown hK hP 0 rfl rfl 3 (by decide) (hts _ mb_X10_chance_4) (fun _ h9 => h9) rfl dX10_chance_50 ?_
      refine va_get (D := D) (ci := 3) (v := .long q1.2.2.2.1) (C := RX3) (T := TX3) (N := 6) hx hb hts in_X10_chance_X3 hown hK hP 9 rfl rfl 2 (by decide) (hts _ mb_X10_chance_5) (fun _ h9 => h9) rfl dX10_chance_53 ?_
      obtain ⟨q6, e6, h⟩ := bd_some h
      refine g_callV (index := 136) (maxL := 7) (n := 2) (As := [.long ((q1.2.2.2.2.2.2.2.2 (p1 + 1).toNatClampNeg) - (q1.2.2.2.2.2.2.2.2 p1.toNatClampNeg)), .long q1.2.2.2.1]) (rest := []) (st1 := [.int q6.1]) (C1 := RX10) (T1 := TX10) (N1 := 10) (ws2 := (w_X10_chance cI cJ cZ cG a_x a_x_now a_x_kept a_x_sheets a_x_plan a_x_draw a_x_blockade a_x_watch a_x_now_targets a_x_now_roads a_x_now_posts a_x_now_haunts a_x_now_targets_kind a_x_now_targets_saved a_x_now_targets_lost a_x_now_targets_gain a_x_now_targets_gap a_x_now_targets_least a_x_now_targets_most a_x_now_targets_hand a_x_plan_parts a_x_draw_cuts x_isKept q6.2 x_findings x_now_targets_size x_now_targets_guards x_now_targets_saved x_now_targets_lost x_now_targets_gain x_now_targets_gap x_now_targets_least x_now_targets_most q1.2.1 q1.2.2.1 q1.2.2.2.1 q1.2.2.2.2.1 q1.2.2.2.2.2.1 q1.2.2.2.2.2.2.1 q1.2.2.2.2.2.2.2.1 q1.2.2.2.2.2.2.2.2)) C hP hD hS hl.1 10 0 (c_X10_fraction l D cI cJ cZ cG a_x a_x_now a_x_kept a_x_sheets a_x_plan a_x_draw a_x_blockade a_x_watch x_isKept x_latestBelow x_findings ((q1.2.2.2.2.2.2.2.2 (p1 + 1).toNatClampNeg) - (q1.2.2.2.2.2.2.2.2 p1.toNatClampNeg)) q1.2.2.2.1 N q6 e6) gX10_chance_X10_fraction rfl rfl rfl (by decide +kernel) ⟨Nat.le_of_ble_eq_true rfl, Nat.le_of_ble_eq_true rfl⟩ rfl rfl rfl (Nat.le_of_ble_eq_true rfl) rfl dX10_chance_56 [0] [1, 2, 3, 4, 5, 6, 7, 8, 9, 10, 11, 12] [12, 0, 1, 2, 3, 4, 5, 6, 7, 8, 9, 10, 11] rfl rfl rfl rfl (by decide) rfl rfl rfl (fun H locs hP hD hS => ?_)
      obtain rfl := Option.some.inj h
      exact g_iret C hP hD hS dX10_chance_59
    · have h := ift c3 h
      refine lv_ldc (v := (-1000000003)) hx hb hown (hts _ mb_X10_chance_0) dX10_chance_24 ?_
      obtain rfl := Option.some.inj h
      exact g_iret C hP hD hS dX10_chance_26
set_option maxRecDepth 100000 in
set_option maxHeartbeats 4000000 in
theorem c_X10_isPlace (l : Launch) (D : va_G) (cI cJ cZ cG : ClassId) (p0 : Int32) (q : Int32) (h : f_X10_isPlace p0 = q) : gMet l yX10_isPlace wsX10_isPlace rm_X10_isPlace [.int p0] (w_X10_isPlace cI cJ cZ cG) (w_X10_isPlace cI cJ cZ cG) (some (.int q)) D cI cJ cZ cG := by
  refine g_enter (cc := cX10_isPlace) (nL := 1) (ret := (some .boolean)) (by decide) rfl (Nat.le_of_ble_eq_true rfl) ?_
  intro p e s m below meth c A C H locs ls hP hD hS hl
  obtain ⟨hx, hb, hr, hml, hown, hts, hlk, hgk, hA⟩ := id C
  have hK := hgk.1
  have hl : lv_has ls 1 [(0, .int p0)] := hl
  unfold f_X10_isPlace at h
  refine lv_iload_n hx hb dX10_isPlace_0 rfl (lv_at hl 0 rfl) ?_
  refine lv_iconst (v := 0) hx hb dX10_isPlace_1 (by decide) ?_
  refine lv_bipush (v := 9) hx hb dX10_isPlace_2 (by decide) ?_
  refine g_callS0 (index := 58) (maxL := 3) (n := 3) (As := [.int p0, .int 0, .int 9]) (rest := []) (st1 := [.int (f_X10_isFrom p0 0 9)]) C hP hS hl.1 (c_X10_isFrom l D cI cJ cZ cG p0 0 9 _ rfl) gX10_isPlace_X10_isFrom rfl rfl rfl (by decide +kernel) ⟨Nat.le_of_ble_eq_true rfl, Nat.le_of_ble_eq_true rfl⟩ rfl (Nat.le_of_ble_eq_true rfl) rfl dX10_isPlace_4 rfl (fun H locs hP hS => ?_)
  obtain rfl := h
  exact g_zret C hP hD hS (nz_b (z_X10_isFrom p0 0 9)) dX10_isPlace_7
theorem in_X10_road_X10 : ∀ w ∈ wsX100, w ∈ wsX10_road := by decide +kernel
theorem in_X10_road_X5 : ∀ w ∈ wsX50, w ∈ wsX10_road := by decide +kernel
theorem in_X10_road_X6 : ∀ w ∈ wsX60, w ∈ wsX10_road := by decide +kernel
theorem mb_X10_road_0 : Cond.constant RX10 78 (-1000000002) ∈ wsX10_road := List.mem_of_getElem? (i := 4) rfl
theorem mb_X10_road_1 : Cond.fieldLink RX10 10 "GuardDesk" "now" "LGuardDesk$Scene;" ∈ wsX10_road := List.mem_of_getElem? (i := 1) rfl
theorem mb_X10_road_2 : Cond.fieldLink RX10 177 "GuardDesk$Scene" "roads" "LGuardDesk$Roads;" ∈ wsX10_road := List.mem_of_getElem? (i := 2) rfl
theorem mb_X10_road_3 : Cond.fieldLink RX10 181 "GuardDesk$Roads" "size" "I" ∈ wsX10_road := List.mem_of_getElem? (i := 3) rfl
set_option maxRecDepth 100000 in
set_option maxHeartbeats 4000000 in
theorem t_X10_road_b24 (C : cx D cI cJ cZ cG A cX10_road 5 (some .int) RX10 wsX10_road p s m args meth c) (a_x a_x_now a_x_kept a_x_sheets a_x_plan a_x_draw a_x_blockade a_x_watch a_x_now_targets a_x_now_roads a_x_now_posts a_x_now_haunts a_x_now_roads_from a_x_now_roads_to a_x_now_roads_length a_x_now_roads_reach a_x_now_roads_lastRoad : Nat) (x_isKept : Int32) (x_latestBelow : Int32) (x_findings : Int32) (x_now_roads_barred : Int32) (q : Int32 × Int32 × (Nat → Int32) × (Nat → Int32) × (Nat → Int32)) (x_now_roads_size : Int32) (x_now_roads_from : (Nat → Int32)) (x_now_roads_to : (Nat → Int32)) (x_now_roads_length : (Nat → Int32)) (k0 : Int32) (v1 : Int32) (v2 : Int32) (v3 : Int32) (h : f_X10_road_b24 x_now_roads_size x_now_roads_from x_now_roads_to x_now_roads_length k0 v1 v2 v3 = some q) : WB p l e rm_X10_road s m args below meth c (MQ below (Qg D (some (.int q.1)) (w_X10_road cI cJ cZ cG a_x a_x_now a_x_kept a_x_sheets a_x_plan a_x_draw a_x_blockade a_x_watch a_x_now_targets a_x_now_roads a_x_now_posts a_x_now_haunts a_x_now_roads_from a_x_now_roads_to a_x_now_roads_length a_x_now_roads_reach a_x_now_roads_lastRoad x_isKept x_latestBelow x_findings q.2.1 x_now_roads_barred q.2.2.1 q.2.2.2.1 q.2.2.2.2) A) args s 0 0 A) D A 5 (w_X10_road cI cJ cZ cG a_x a_x_now a_x_kept a_x_sheets a_x_plan a_x_draw a_x_blockade a_x_watch a_x_now_targets a_x_now_roads a_x_now_posts a_x_now_haunts a_x_now_roads_from a_x_now_roads_to a_x_now_roads_length a_x_now_roads_reach a_x_now_roads_lastRoad x_isKept x_latestBelow x_findings x_now_roads_size x_now_roads_barred x_now_roads_from x_now_roads_to x_now_roads_length) [(0, .ref a_x), (1, .int v1), (2, .int v2), (3, .int v3)] [.int k0] 24 := by
  obtain ⟨hx, hb, hr, hml, hown, hts, hlk, hgk, hA⟩ := id C
  have hK := hgk.1
  unfold f_X10_road_b24 at h
  intro H locs ls hP hD hS hl
  refine lv_istore (lv' := [(4, .int k0), (0, .ref a_x), (1, .int v1), (2, .int v2), (3, .int v3)]) hx hb dX10_road_24 hl (by decide) rfl (fun ls hl => ?_)
  refine lv_iload hx hb dX10_road_26 (lv_at hl 0 rfl) ?_
  refine lv_if_eq (tgt := 56) hx hb dX10_road_28 (by decide) (fun c1 => ?_) (fun c1 => ?_)
  · have h := ift c1 h
    refine lv_ldc (v := (-1000000002)) hx hb hown (hts _ mb_X10_road_0) dX10_road_56 ?_
    obtain rfl := Option.some.inj h
    exact g_iret C hP hD hS dX10_road_58
  · have h := iff_ c1 h
    refine lv_iload_n hx hb dX10_road_31 rfl (lv_at hl 4 rfl) ?_
    refine lv_iconst (v := 1) hx hb dX10_road_32 (by decide) ?_
    refine lv_bipush (v := 100) hx hb dX10_road_33 (by decide) ?_
    refine g_callS0 (index := 58) (maxL := 3) (n := 3) (As := [.int v3, .int 1, .int 100]) (rest := []) (st1 := [.int (f_X10_isFrom v3 1 100)]) C hP hS hl.1 (c_X10_isFrom l D cI cJ cZ cG v3 1 100 _ rfl) gX10_road_X10_isFrom rfl rfl rfl (by decide +kernel) ⟨Nat.le_of_ble_eq_true rfl, Nat.le_of_ble_eq_true rfl⟩ rfl (Nat.le_of_ble_eq_true rfl) rfl dX10_road_35 rfl (fun H locs hP hS => ?_)
    refine lv_if_eq (tgt := 56) hx hb dX10_road_38 (by decide) (fun c2 => ?_) (fun c2 => ?_)
    · have h := ift c2 h
      refine lv_ldc (v := (-1000000002)) hx hb hown (hts _ mb_X10_road_0) dX10_road_56 ?_
      obtain rfl := Option.some.inj h
      exact g_iret C hP hD hS dX10_road_58
    · have h := iff_ c2 h
      refine lv_aload_n hx hb dX10_road_41 rfl (lv_at hl 1 rfl) ?_
      refine va_get (D := D) (ci := 10) (v := .ref a_x_now) (C := RX10) (T := TX10) (N := 10) hx hb hts in_X10_road_X10 hown hK hP 0 rfl rfl 0 (by decide) (hts _ mb_X10_road_1) (fun _ h9 => h9) rfl dX10_road_42 ?_
      refine va_get (D := D) (ci := 6) (v := .ref a_x_now_roads) (C := RX6) (T := TX6) (N := 4) hx hb hts in_X10_road_X6 hown hK hP 1 rfl rfl 1 (by decide) (hts _ mb_X10_road_2) (fun _ h9 => h9) rfl dX10_road_45 ?_
      refine va_get (D := D) (ci := 5) (v := .int x_now_roads_size) (C := RX5) (T := TX5) (N := 7) hx hb hts in_X10_road_X5 hown hK hP 2 rfl rfl 0 (by decide) (hts _ mb_X10_road_3) (fun _ h9 => h9) rfl dX10_road_48 ?_
      refine lv_bipush (v := 16) hx hb dX10_road_51 (by decide) ?_
      refine lv_icmp_lt (tgt := 59) hx hb dX10_road_53 (by decide) (fun c3 => ?_) (fun c3 => ?_)
      · have h := ift c3 h
        refine lv_aload_n hx hb dX10_road_59 rfl (lv_at hl 1 rfl) ?_
        refine va_get (D := D) (ci := 10) (v := .ref a_x_now) (C := RX10) (T := TX10) (N := 10) hx hb hts in_X10_road_X10 hown hK hP 0 rfl rfl 0 (by decide) (hts _ mb_X10_road_1) (fun _ h9 => h9) rfl dX10_road_60 ?_
        refine va_get (D := D) (ci := 6) (v := .ref a_x_now_roads) (C := RX6) (T := TX6) (N := 4) hx hb hts in_X10_road_X6 hown hK hP 1 rfl rfl 1 (by decide) (hts _ mb_X10_road_2) (fun _ h9 => h9) rfl dX10_road_63 ?_
        refine lv_iload_n hx hb dX10_road_66 rfl (lv_at hl 2 rfl) ?_
        refine lv_iload_n hx hb dX10_road_67 rfl (lv_at hl 3 rfl) ?_
        refine lv_iload_n hx hb dX10_road_68 rfl (lv_at hl 4 rfl) ?_
        obtain ⟨q4, e4, h⟩ := bd_some h
        refine g_callV (index := 184) (maxL := 5) (n := 3) (As := [.int v1, .int v2, .int v3]) (rest := []) (st1 := [.int q4.1]) (C1 := RX5) (T1 := TX5) (N1 := 7) (ws2 := (w_X10_road cI cJ cZ cG a_x a_x_now a_x_kept a_x_sheets a_x_plan a_x_draw a_x_blockade a_x_watch a_x_now_targets a_x_now_roads a_x_now_posts a_x_now_haunts a_x_now_roads_from a_x_now_roads_to a_x_now_roads_length a_x_now_roads_reach a_x_now_roads_lastRoad x_isKept x_latestBelow x_findings q4.2.1 x_now_roads_barred q4.2.2.1 q4.2.2.2.1 q4.2.2.2.2)) C hP hD hS hl.1 5 0 (c_X5_add l D cI cJ cZ cG a_x_now_roads a_x_now_roads_from a_x_now_roads_to a_x_now_roads_length a_x_now_roads_reach a_x_now_roads_lastRoad x_now_roads_size x_now_roads_barred x_now_roads_from x_now_roads_to x_now_roads_length v1 v2 v3 q4 e4) gX10_road_X5_add rfl rfl rfl (by decide +kernel) ⟨Nat.le_of_ble_eq_true rfl, Nat.le_of_ble_eq_true rfl⟩ rfl rfl rfl (Nat.le_of_ble_eq_true rfl) rfl dX10_road_69 [2, 3, 4, 5] [0, 1] [0, 1, 2, 3, 4, 5] rfl rfl rfl rfl (by decide) rfl rfl rfl (fun H locs hP hD hS => ?_)
        obtain rfl := Option.some.inj h
        exact g_iret C hP hD hS dX10_road_72
      · have h := iff_ c3 h
        refine lv_ldc (v := (-1000000002)) hx hb hown (hts _ mb_X10_road_0) dX10_road_56 ?_
        obtain rfl := Option.some.inj h
        exact g_iret C hP hD hS dX10_road_58
set_option maxRecDepth 100000 in
set_option maxHeartbeats 4000000 in
theorem t_X10_road_b23 (C : cx D cI cJ cZ cG A cX10_road 5 (some .int) RX10 wsX10_road p s m args meth c) (a_x a_x_now a_x_kept a_x_sheets a_x_plan a_x_draw a_x_blockade a_x_watch a_x_now_targets a_x_now_roads a_x_now_posts a_x_now_haunts a_x_now_roads_from a_x_now_roads_to a_x_now_roads_length a_x_now_roads_reach a_x_now_roads_lastRoad : Nat) (x_isKept : Int32) (x_latestBelow : Int32) (x_findings : Int32) (x_now_roads_barred : Int32) (q : Int32 × Int32 × (Nat → Int32) × (Nat → Int32) × (Nat → Int32)) (x_now_roads_size : Int32) (x_now_roads_from : (Nat → Int32)) (x_now_roads_to : (Nat → Int32)) (x_now_roads_length : (Nat → Int32)) (v1 : Int32) (v2 : Int32) (v3 : Int32) (h : f_X10_road_b23 x_now_roads_size x_now_roads_from x_now_roads_to x_now_roads_length v1 v2 v3 = some q) : WB p l e rm_X10_road s m args below meth c (MQ below (Qg D (some (.int q.1)) (w_X10_road cI cJ cZ cG a_x a_x_now a_x_kept a_x_sheets a_x_plan a_x_draw a_x_blockade a_x_watch a_x_now_targets a_x_now_roads a_x_now_posts a_x_now_haunts a_x_now_roads_from a_x_now_roads_to a_x_now_roads_length a_x_now_roads_reach a_x_now_roads_lastRoad x_isKept x_latestBelow x_findings q.2.1 x_now_roads_barred q.2.2.1 q.2.2.2.1 q.2.2.2.2) A) args s 0 0 A) D A 5 (w_X10_road cI cJ cZ cG a_x a_x_now a_x_kept a_x_sheets a_x_plan a_x_draw a_x_blockade a_x_watch a_x_now_targets a_x_now_roads a_x_now_posts a_x_now_haunts a_x_now_roads_from a_x_now_roads_to a_x_now_roads_length a_x_now_roads_reach a_x_now_roads_lastRoad x_isKept x_latestBelow x_findings x_now_roads_size x_now_roads_barred x_now_roads_from x_now_roads_to x_now_roads_length) [(0, .ref a_x), (1, .int v1), (2, .int v2), (3, .int v3)] [] 23 := by
  obtain ⟨hx, hb, hr, hml, hown, hts, hlk, hgk, hA⟩ := id C
  have hK := hgk.1
  unfold f_X10_road_b23 at h
  intro H locs ls hP hD hS hl
  refine lv_iconst (v := 0) hx hb dX10_road_23 (by decide) ?_
  exact t_X10_road_b24 C a_x a_x_now a_x_kept a_x_sheets a_x_plan a_x_draw a_x_blockade a_x_watch a_x_now_targets a_x_now_roads a_x_now_posts a_x_now_haunts a_x_now_roads_from a_x_now_roads_to a_x_now_roads_length a_x_now_roads_reach a_x_now_roads_lastRoad x_isKept x_latestBelow x_findings x_now_roads_barred q x_now_roads_size x_now_roads_from x_now_roads_to x_now_roads_length 0 v1 v2 v3 h H locs ls hP hD hS (lv_sub hl [0, 1, 2, 3] rfl)
set_option maxRecDepth 100000 in
set_option maxHeartbeats 4000000 in
theorem c_X10_road (l : Launch) (D : va_G) (cI cJ cZ cG : ClassId) (a_x a_x_now a_x_kept a_x_sheets a_x_plan a_x_draw a_x_blockade a_x_watch a_x_now_targets a_x_now_roads a_x_now_posts a_x_now_haunts a_x_now_roads_from a_x_now_roads_to a_x_now_roads_length a_x_now_roads_reach a_x_now_roads_lastRoad : Nat) (x_isKept : Int32) (x_latestBelow : Int32) (x_findings : Int32) (x_now_roads_size : Int32) (x_now_roads_barred : Int32) (x_now_roads_from : (Nat → Int32)) (x_now_roads_to : (Nat → Int32)) (x_now_roads_length : (Nat → Int32)) (p1 : Int32) (p2 : Int32) (p3 : Int32) (q : Int32 × Int32 × (Nat → Int32) × (Nat → Int32) × (Nat → Int32)) (h : f_X10_road x_now_roads_size x_now_roads_from x_now_roads_to x_now_roads_length p1 p2 p3 = some q) : gMet l yX10_road wsX10_road rm_X10_road [.ref a_x, .int p1, .int p2, .int p3] (w_X10_road cI cJ cZ cG a_x a_x_now a_x_kept a_x_sheets a_x_plan a_x_draw a_x_blockade a_x_watch a_x_now_targets a_x_now_roads a_x_now_posts a_x_now_haunts a_x_now_roads_from a_x_now_roads_to a_x_now_roads_length a_x_now_roads_reach a_x_now_roads_lastRoad x_isKept x_latestBelow x_findings x_now_roads_size x_now_roads_barred x_now_roads_from x_now_roads_to x_now_roads_length) (w_X10_road cI cJ cZ cG a_x a_x_now a_x_kept a_x_sheets a_x_plan a_x_draw a_x_blockade a_x_watch a_x_now_targets a_x_now_roads a_x_now_posts a_x_now_haunts a_x_now_roads_from a_x_now_roads_to a_x_now_roads_length a_x_now_roads_reach a_x_now_roads_lastRoad x_isKept x_latestBelow x_findings q.2.1 x_now_roads_barred q.2.2.1 q.2.2.2.1 q.2.2.2.2) (some (.int q.1)) D cI cJ cZ cG := by
  refine g_enter (cc := cX10_road) (nL := 5) (ret := (some .int)) (by decide) rfl (Nat.le_of_ble_eq_true rfl) ?_
  intro p e s m below meth c A C H locs ls hP hD hS hl
  obtain ⟨hx, hb, hr, hml, hown, hts, hlk, hgk, hA⟩ := id C
  have hK := hgk.1
  have hl : lv_has ls 5 [(0, .ref a_x), (1, .int p1), (2, .int p2), (3, .int p3)] := hl
  unfold f_X10_road at h
  refine lv_iload_n hx hb dX10_road_0 rfl (lv_at hl 1 rfl) ?_
  refine g_callS0 (index := 174) (maxL := 1) (n := 1) (As := [.int p1]) (rest := []) (st1 := [.int (f_X10_isPlace p1)]) C hP hS hl.1 (c_X10_isPlace l D cI cJ cZ cG p1 _ rfl) gX10_road_X10_isPlace rfl rfl rfl (by decide +kernel) ⟨Nat.le_of_ble_eq_true rfl, Nat.le_of_ble_eq_true rfl⟩ rfl (Nat.le_of_ble_eq_true rfl) rfl dX10_road_1 rfl (fun H locs hP hS => ?_)
  refine lv_if_eq (tgt := 23) hx hb dX10_road_4 (by decide) (fun c1 => ?_) (fun c1 => ?_)
  · have h := ift c1 h
    exact t_X10_road_b23 C a_x a_x_now a_x_kept a_x_sheets a_x_plan a_x_draw a_x_blockade a_x_watch a_x_now_targets a_x_now_roads a_x_now_posts a_x_now_haunts a_x_now_roads_from a_x_now_roads_to a_x_now_roads_length a_x_now_roads_reach a_x_now_roads_lastRoad x_isKept x_latestBelow x_findings x_now_roads_barred q x_now_roads_size x_now_roads_from x_now_roads_to x_now_roads_length p1 p2 p3 h H locs ls hP hD hS (lv_sub hl [0, 1, 2, 3] rfl)
  · have h := iff_ c1 h
    refine lv_iload_n hx hb dX10_road_7 rfl (lv_at hl 2 rfl) ?_
    refine g_callS0 (index := 174) (maxL := 1) (n := 1) (As := [.int p2]) (rest := []) (st1 := [.int (f_X10_isPlace p2)]) C hP hS hl.1 (c_X10_isPlace l D cI cJ cZ cG p2 _ rfl) gX10_road_X10_isPlace rfl rfl rfl (by decide +kernel) ⟨Nat.le_of_ble_eq_true rfl, Nat.le_of_ble_eq_true rfl⟩ rfl (Nat.le_of_ble_eq_true rfl) rfl dX10_road_8 rfl (fun H locs hP hS => ?_)
    refine lv_if_eq (tgt := 23) hx hb dX10_road_11 (by decide) (fun c2 => ?_) (fun c2 => ?_)
    · have h := ift c2 h
      exact t_X10_road_b23 C a_x a_x_now a_x_kept a_x_sheets a_x_plan a_x_draw a_x_blockade a_x_watch a_x_now_targets a_x_now_roads a_x_now_posts a_x_now_haunts a_x_now_roads_from a_x_now_roads_to a_x_now_roads_length a_x_now_roads_reach a_x_now_roads_lastRoad x_isKept x_latestBelow x_findings x_now_roads_barred q x_now_roads_size x_now_roads_from x_now_roads_to x_now_roads_length p1 p2 p3 h H locs ls hP hD hS (lv_sub hl [0, 1, 2, 3] rfl)
    · have h := iff_ c2 h
      refine lv_iload_n hx hb dX10_road_14 rfl (lv_at hl 1 rfl) ?_
      refine lv_iload_n hx hb dX10_road_15 rfl (lv_at hl 2 rfl) ?_
      refine lv_icmp_eq (tgt := 23) hx hb dX10_road_16 (by decide) (fun c3 => ?_) (fun c3 => ?_)
      · have h := ift c3 h
        exact t_X10_road_b23 C a_x a_x_now a_x_kept a_x_sheets a_x_plan a_x_draw a_x_blockade a_x_watch a_x_now_targets a_x_now_roads a_x_now_posts a_x_now_haunts a_x_now_roads_from a_x_now_roads_to a_x_now_roads_length a_x_now_roads_reach a_x_now_roads_lastRoad x_isKept x_latestBelow x_findings x_now_roads_barred q x_now_roads_size x_now_roads_from x_now_roads_to x_now_roads_length p1 p2 p3 h H locs ls hP hD hS (lv_sub hl [0, 1, 2, 3] rfl)
      · have h := iff_ c3 h
        refine lv_iconst (v := 1) hx hb dX10_road_19 (by decide) ?_
        refine lv_goto (tgt := 24) hx hb dX10_road_20 (by decide) ?_
        exact t_X10_road_b24 C a_x a_x_now a_x_kept a_x_sheets a_x_plan a_x_draw a_x_blockade a_x_watch a_x_now_targets a_x_now_roads a_x_now_posts a_x_now_haunts a_x_now_roads_from a_x_now_roads_to a_x_now_roads_length a_x_now_roads_reach a_x_now_roads_lastRoad x_isKept x_latestBelow x_findings x_now_roads_barred q x_now_roads_size x_now_roads_from x_now_roads_to x_now_roads_length 1 p1 p2 p3 h H locs ls hP hD hS (lv_sub hl [0, 1, 2, 3] rfl)
theorem in_X10_bar_X10 : ∀ w ∈ wsX100, w ∈ wsX10_bar := by decide +kernel
theorem in_X10_bar_X5 : ∀ w ∈ wsX50, w ∈ wsX10_bar := by decide +kernel
theorem in_X10_bar_X6 : ∀ w ∈ wsX60, w ∈ wsX10_bar := by decide +kernel
theorem mb_X10_bar_0 : Cond.fieldLink RX10 187 "GuardDesk$Roads" "barred" "I" ∈ wsX10_bar := List.mem_of_getElem? (i := 5) rfl
theorem mb_X10_bar_1 : Cond.fieldLink RX10 10 "GuardDesk" "now" "LGuardDesk$Scene;" ∈ wsX10_bar := List.mem_of_getElem? (i := 1) rfl
theorem mb_X10_bar_2 : Cond.fieldLink RX10 177 "GuardDesk$Scene" "roads" "LGuardDesk$Roads;" ∈ wsX10_bar := List.mem_of_getElem? (i := 2) rfl
theorem mb_X10_bar_3 : Cond.fieldLink RX10 181 "GuardDesk$Roads" "size" "I" ∈ wsX10_bar := List.mem_of_getElem? (i := 3) rfl
theorem mb_X10_bar_4 : Cond.constant RX10 78 (-1000000002) ∈ wsX10_bar := List.mem_of_getElem? (i := 4) rfl
set_option maxRecDepth 100000 in
set_option maxHeartbeats 4000000 in
theorem t_X10_bar_b45 (C : cx D cI cJ cZ cG A cX10_bar 6 (some .int) RX10 wsX10_bar p s m args meth c) (a_x a_x_now a_x_kept a_x_sheets a_x_plan a_x_draw a_x_blockade a_x_watch a_x_now_targets a_x_now_roads a_x_now_posts a_x_now_haunts a_x_now_roads_from a_x_now_roads_to a_x_now_roads_length a_x_now_roads_reach a_x_now_roads_lastRoad : Nat) (x_isKept : Int32) (x_latestBelow : Int32) (x_findings : Int32) (x_now_roads_size : Int32) (q : Int32 × Int32) (x_now_roads_barred : Int32) (k0 : Int32) (v2 : Int32) (v4 : Int32) (h : f_X10_bar_b45 x_now_roads_size x_now_roads_barred k0 v2 v4 = q) : WB p l e rm_X10_bar s m args below meth c (MQ below (Qg D (some (.int q.1)) (w_X10_bar cI cJ cZ cG a_x a_x_now a_x_kept a_x_sheets a_x_plan a_x_draw a_x_blockade a_x_watch a_x_now_targets a_x_now_roads a_x_now_posts a_x_now_haunts a_x_now_roads_from a_x_now_roads_to a_x_now_roads_length a_x_now_roads_reach a_x_now_roads_lastRoad x_isKept x_latestBelow x_findings x_now_roads_size q.2) A) args s 0 0 A) D A 6 (w_X10_bar cI cJ cZ cG a_x a_x_now a_x_kept a_x_sheets a_x_plan a_x_draw a_x_blockade a_x_watch a_x_now_targets a_x_now_roads a_x_now_posts a_x_now_haunts a_x_now_roads_from a_x_now_roads_to a_x_now_roads_length a_x_now_roads_reach a_x_now_roads_lastRoad x_isKept x_latestBelow x_findings x_now_roads_size x_now_roads_barred) [(2, .int v2), (3, .ref a_x_now_roads), (4, .int v4)] [.int k0] 45 := by
  obtain ⟨hx, hb, hr, hml, hown, hts, hlk, hgk, hA⟩ := id C
  have hK := hgk.1
  unfold f_X10_bar_b45 at h
  intro H locs ls hP hD hS hl
  refine lv_istore (lv' := [(5, .int k0), (2, .int v2), (3, .ref a_x_now_roads), (4, .int v4)]) hx hb dX10_bar_45 hl (by decide) rfl (fun ls hl => ?_)
  refine lv_aload_n hx hb dX10_bar_47 rfl (lv_at hl 2 rfl) ?_
  refine lv_iload_n hx hb dX10_bar_48 rfl (lv_at hl 1 rfl) ?_
  refine lv_if_eq (tgt := 62) hx hb dX10_bar_49 (by decide) (fun c1 => ?_) (fun c1 => ?_)
  · have h := ift c1 h
    refine lv_aload_n hx hb dX10_bar_62 rfl (lv_at hl 2 rfl) ?_
    refine va_get (D := D) (ci := 5) (v := .int x_now_roads_barred) (C := RX5) (T := TX5) (N := 7) hx hb hts in_X10_bar_X5 hown hK hP 2 rfl rfl 1 (by decide) (hts _ mb_X10_bar_0) (fun _ h9 => h9) rfl dX10_bar_63 ?_
    refine lv_iload hx hb dX10_bar_66 (lv_at hl 3 rfl) ?_
    refine lv_iconst (v := (-1)) hx hb dX10_bar_68 (by decide) ?_
    refine lv_ixor hx hb dX10_bar_69 ?_
    refine lv_iand hx hb dX10_bar_70 ?_
    refine va_put (D := D) (ci := 5) (v := .int (x_now_roads_barred &&& (v4 ^^^ (-1)))) (ty := .int) (C := RX5) (T := TX5) (N := 7) hx hb hts in_X10_bar_X5 tyX5 tyX5_ok nmX5 hown hK hP hD hS 2 rfl rfl 1 (by decide) (hts _ mb_X10_bar_0) (fun _ h9 => h9) rfl (by decide +kernel) rfl rfl (Nat.le_of_ble_eq_true rfl) dX10_bar_71 (fun H locs hP hD hS => ?_)
    have hP : va_P D vwCl (w_X10_bar cI cJ cZ cG a_x a_x_now a_x_kept a_x_sheets a_x_plan a_x_draw a_x_blockade a_x_watch a_x_now_targets a_x_now_roads a_x_now_posts a_x_now_haunts a_x_now_roads_from a_x_now_roads_to a_x_now_roads_length a_x_now_roads_reach a_x_now_roads_lastRoad x_isKept x_latestBelow x_findings x_now_roads_size (x_now_roads_barred &&& (v4 ^^^ (-1)))) H := hP
    have hD : va_D A (w_X10_bar cI cJ cZ cG a_x a_x_now a_x_kept a_x_sheets a_x_plan a_x_draw a_x_blockade a_x_watch a_x_now_targets a_x_now_roads a_x_now_posts a_x_now_haunts a_x_now_roads_from a_x_now_roads_to a_x_now_roads_length a_x_now_roads_reach a_x_now_roads_lastRoad x_isKept x_latestBelow x_findings x_now_roads_size (x_now_roads_barred &&& (v4 ^^^ (-1)))) := hD
    refine lv_iload hx hb dX10_bar_74 (lv_at hl 0 rfl) ?_
    obtain rfl := h
    exact g_iret C hP hD hS dX10_bar_76
  · have h := iff_ c1 h
    refine lv_aload_n hx hb dX10_bar_52 rfl (lv_at hl 2 rfl) ?_
    refine va_get (D := D) (ci := 5) (v := .int x_now_roads_barred) (C := RX5) (T := TX5) (N := 7) hx hb hts in_X10_bar_X5 hown hK hP 2 rfl rfl 1 (by decide) (hts _ mb_X10_bar_0) (fun _ h9 => h9) rfl dX10_bar_53 ?_
    refine lv_iload hx hb dX10_bar_56 (lv_at hl 3 rfl) ?_
    refine lv_ior hx hb dX10_bar_58 ?_
    refine lv_goto (tgt := 71) hx hb dX10_bar_59 (by decide) ?_
    refine va_put (D := D) (ci := 5) (v := .int (x_now_roads_barred ||| v4)) (ty := .int) (C := RX5) (T := TX5) (N := 7) hx hb hts in_X10_bar_X5 tyX5 tyX5_ok nmX5 hown hK hP hD hS 2 rfl rfl 1 (by decide) (hts _ mb_X10_bar_0) (fun _ h9 => h9) rfl (by decide +kernel) rfl rfl (Nat.le_of_ble_eq_true rfl) dX10_bar_71 (fun H locs hP hD hS => ?_)
    have hP : va_P D vwCl (w_X10_bar cI cJ cZ cG a_x a_x_now a_x_kept a_x_sheets a_x_plan a_x_draw a_x_blockade a_x_watch a_x_now_targets a_x_now_roads a_x_now_posts a_x_now_haunts a_x_now_roads_from a_x_now_roads_to a_x_now_roads_length a_x_now_roads_reach a_x_now_roads_lastRoad x_isKept x_latestBelow x_findings x_now_roads_size (x_now_roads_barred ||| v4)) H := hP
    have hD : va_D A (w_X10_bar cI cJ cZ cG a_x a_x_now a_x_kept a_x_sheets a_x_plan a_x_draw a_x_blockade a_x_watch a_x_now_targets a_x_now_roads a_x_now_posts a_x_now_haunts a_x_now_roads_from a_x_now_roads_to a_x_now_roads_length a_x_now_roads_reach a_x_now_roads_lastRoad x_isKept x_latestBelow x_findings x_now_roads_size (x_now_roads_barred ||| v4)) := hD
    refine lv_iload hx hb dX10_bar_74 (lv_at hl 0 rfl) ?_
    obtain rfl := h
    exact g_iret C hP hD hS dX10_bar_76
set_option maxRecDepth 100000 in
set_option maxHeartbeats 4000000 in
theorem c_X10_bar (l : Launch) (D : va_G) (cI cJ cZ cG : ClassId) (a_x a_x_now a_x_kept a_x_sheets a_x_plan a_x_draw a_x_blockade a_x_watch a_x_now_targets a_x_now_roads a_x_now_posts a_x_now_haunts a_x_now_roads_from a_x_now_roads_to a_x_now_roads_length a_x_now_roads_reach a_x_now_roads_lastRoad : Nat) (x_isKept : Int32) (x_latestBelow : Int32) (x_findings : Int32) (x_now_roads_size : Int32) (x_now_roads_barred : Int32) (p1 : Int32) (p2 : Int32) (q : Int32 × Int32) (h : f_X10_bar x_now_roads_size x_now_roads_barred p1 p2 = q) : gMet l yX10_bar wsX10_bar rm_X10_bar [.ref a_x, .int p1, .int p2] (w_X10_bar cI cJ cZ cG a_x a_x_now a_x_kept a_x_sheets a_x_plan a_x_draw a_x_blockade a_x_watch a_x_now_targets a_x_now_roads a_x_now_posts a_x_now_haunts a_x_now_roads_from a_x_now_roads_to a_x_now_roads_length a_x_now_roads_reach a_x_now_roads_lastRoad x_isKept x_latestBelow x_findings x_now_roads_size x_now_roads_barred) (w_X10_bar cI cJ cZ cG a_x a_x_now a_x_kept a_x_sheets a_x_plan a_x_draw a_x_blockade a_x_watch a_x_now_targets a_x_now_roads a_x_now_posts a_x_now_haunts a_x_now_roads_from a_x_now_roads_to a_x_now_roads_length a_x_now_roads_reach a_x_now_roads_lastRoad x_isKept x_latestBelow x_findings x_now_roads_size q.2) (some (.int q.1)) D cI cJ cZ cG := by
  refine g_enter (cc := cX10_bar) (nL := 6) (ret := (some .int)) (by decide) rfl (Nat.le_of_ble_eq_true rfl) ?_
  intro p e s m below meth c A C H locs ls hP hD hS hl
  obtain ⟨hx, hb, hr, hml, hown, hts, hlk, hgk, hA⟩ := id C
  have hK := hgk.1
  have hl : lv_has ls 6 [(0, .ref a_x), (1, .int p1), (2, .int p2)] := hl
  unfold f_X10_bar at h
  refine lv_aload_n hx hb dX10_bar_0 rfl (lv_at hl 0 rfl) ?_
  refine va_get (D := D) (ci := 10) (v := .ref a_x_now) (C := RX10) (T := TX10) (N := 10) hx hb hts in_X10_bar_X10 hown hK hP 0 rfl rfl 0 (by decide) (hts _ mb_X10_bar_1) (fun _ h9 => h9) rfl dX10_bar_1 ?_
  refine va_get (D := D) (ci := 6) (v := .ref a_x_now_roads) (C := RX6) (T := TX6) (N := 4) hx hb hts in_X10_bar_X6 hown hK hP 1 rfl rfl 1 (by decide) (hts _ mb_X10_bar_2) (fun _ h9 => h9) rfl dX10_bar_4 ?_
  refine lv_astore_n (lv' := [(3, .ref a_x_now_roads), (0, .ref a_x), (1, .int p1), (2, .int p2)]) hx hb dX10_bar_7 rfl hl (by decide) rfl (fun ls hl => ?_)
  refine lv_iload_n hx hb dX10_bar_8 rfl (lv_at hl 2 rfl) ?_
  refine lv_iconst (v := 0) hx hb dX10_bar_9 (by decide) ?_
  refine lv_aload_n hx hb dX10_bar_10 rfl (lv_at hl 0 rfl) ?_
  refine va_get (D := D) (ci := 5) (v := .int x_now_roads_size) (C := RX5) (T := TX5) (N := 7) hx hb hts in_X10_bar_X5 hown hK hP 2 rfl rfl 0 (by decide) (hts _ mb_X10_bar_3) (fun _ h9 => h9) rfl dX10_bar_11 ?_
  refine lv_iconst (v := 1) hx hb dX10_bar_14 (by decide) ?_
  refine lv_isub hx hb dX10_bar_15 ?_
  refine g_callS0 (index := 58) (maxL := 3) (n := 3) (As := [.int p1, .int 0, .int (x_now_roads_size - 1)]) (rest := []) (st1 := [.int (f_X10_isFrom p1 0 (x_now_roads_size - 1))]) C hP hS hl.1 (c_X10_isFrom l D cI cJ cZ cG p1 0 (x_now_roads_size - 1) _ rfl) gX10_bar_X10_isFrom rfl rfl rfl (by decide +kernel) ⟨Nat.le_of_ble_eq_true rfl, Nat.le_of_ble_eq_true rfl⟩ rfl (Nat.le_of_ble_eq_true rfl) rfl dX10_bar_16 rfl (fun H locs hP hS => ?_)
  refine lv_if_ne (tgt := 25) hx hb dX10_bar_19 (by decide) (fun c1 => ?_) (fun c1 => ?_)
  · have h := iff_ c1 h
    refine lv_iconst (v := 1) hx hb dX10_bar_25 (by decide) ?_
    refine lv_iload_n hx hb dX10_bar_26 rfl (lv_at hl 2 rfl) ?_
    refine lv_ishl hx hb dX10_bar_27 ?_
    refine lv_istore (lv' := [(4, .int ((1 : Int32) <<< (p1 &&& 31))), (3, .ref a_x_now_roads), (0, .ref a_x), (1, .int p1), (2, .int p2)]) hx hb dX10_bar_28 hl (by decide) rfl (fun ls hl => ?_)
    refine lv_aload_n hx hb dX10_bar_30 rfl (lv_at hl 1 rfl) ?_
    refine va_get (D := D) (ci := 5) (v := .int x_now_roads_barred) (C := RX5) (T := TX5) (N := 7) hx hb hts in_X10_bar_X5 hown hK hP 2 rfl rfl 1 (by decide) (hts _ mb_X10_bar_0) (fun _ h9 => h9) rfl dX10_bar_31 ?_
    refine lv_iload hx hb dX10_bar_34 (lv_at hl 0 rfl) ?_
    refine lv_iand hx hb dX10_bar_36 ?_
    refine lv_if_eq (tgt := 44) hx hb dX10_bar_37 (by decide) (fun c2 => ?_) (fun c2 => ?_)
    · have h := ift c2 h
      refine lv_iconst (v := 0) hx hb dX10_bar_44 (by decide) ?_
      exact t_X10_bar_b45 C a_x a_x_now a_x_kept a_x_sheets a_x_plan a_x_draw a_x_blockade a_x_watch a_x_now_targets a_x_now_roads a_x_now_posts a_x_now_haunts a_x_now_roads_from a_x_now_roads_to a_x_now_roads_length a_x_now_roads_reach a_x_now_roads_lastRoad x_isKept x_latestBelow x_findings x_now_roads_size q x_now_roads_barred 0 p2 ((1 : Int32) <<< (p1 &&& 31)) h H locs ls hP hD hS (lv_sub hl [4, 1, 0] rfl)
    · have h := iff_ c2 h
      refine lv_iconst (v := 1) hx hb dX10_bar_40 (by decide) ?_
      refine lv_goto (tgt := 45) hx hb dX10_bar_41 (by decide) ?_
      exact t_X10_bar_b45 C a_x a_x_now a_x_kept a_x_sheets a_x_plan a_x_draw a_x_blockade a_x_watch a_x_now_targets a_x_now_roads a_x_now_posts a_x_now_haunts a_x_now_roads_from a_x_now_roads_to a_x_now_roads_length a_x_now_roads_reach a_x_now_roads_lastRoad x_isKept x_latestBelow x_findings x_now_roads_size q x_now_roads_barred 1 p2 ((1 : Int32) <<< (p1 &&& 31)) h H locs ls hP hD hS (lv_sub hl [4, 1, 0] rfl)
  · have h := ift c1 h
    refine lv_ldc (v := (-1000000002)) hx hb hown (hts _ mb_X10_bar_4) dX10_bar_22 ?_
    obtain rfl := h
    exact g_iret C hP hD hS dX10_bar_24
