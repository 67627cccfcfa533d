variable {p : Program} {l : Launch} {e : Env} {s : State} {m : MethodId} {args : Array Value} {below : List Frame} {meth : Method} {c : Code} {D : va_G} {A : Nat → Prop} {cI cJ cZ cG : ClassId}
theorem in_X11_goesOn_X11 : ∀ w ∈ wsX110, w ∈ wsX11_goesOn := by decide +kernel
theorem mb_X11_goesOn_0 : Cond.fieldLink RX11 9 "GuardDeskModel" "now" "[I" ∈ wsX11_goesOn := List.mem_of_getElem? (i := 1) rfl
theorem mb_X11_goesOn_1 : Cond.fieldLink RX11 40 "GuardDeskModel" "lost" "[Z" ∈ wsX11_goesOn := List.mem_of_getElem? (i := 2) rfl
set_option maxRecDepth 100000 in
set_option maxHeartbeats 4000000 in
theorem t_X11_goesOn_b2 (C : cx D cI cJ cZ cG A cX11_goesOn 4 (some .int) RX11 wsX11_goesOn p s m args meth c) (a_x a_x_now a_x_kept a_x_sortOf a_x_sizeOf a_x_sheets a_x_parts a_x_edge a_x_far a_x_lost : Nat) (x_isKept : Int32) (x_host : Int32) (x_below : Int32) (x_bestTarget : Int32) (x_high : Int64) (x_low : Int64) (x_whole : Int64) (x_tryHigh : Int64) (x_tryLow : Int64) (x_lots : Int32) (x_now : (Nat → Int32)) (x_lost : (Nat → Int32)) (N : Nat) (q : Int32) (v1 : Int32) : ∀ (n : Nat) (v2 : Int32), f_X11_goesOn_b2 N x_now x_lost v1 n v2 = some q → WB p l e rm_X11_goesOn s m args below meth c (MQ below (Qg D (some (.int q)) (w_X11_goesOn cI cJ cZ cG a_x a_x_now a_x_kept a_x_sortOf a_x_sizeOf a_x_sheets a_x_parts a_x_edge a_x_far a_x_lost x_isKept x_host x_below x_bestTarget x_high x_low x_whole x_tryHigh x_tryLow x_lots x_now x_lost) A) args s 0 0 A) D A 4 (w_X11_goesOn cI cJ cZ cG a_x a_x_now a_x_kept a_x_sortOf a_x_sizeOf a_x_sheets a_x_parts a_x_edge a_x_far a_x_lost x_isKept x_host x_below x_bestTarget x_high x_low x_whole x_tryHigh x_tryLow x_lots x_now x_lost) [(0, .ref a_x), (1, .int v1), (2, .int v2)] [] 2 := by
  obtain ⟨hx, hb, hr, hml, hown, hts, hlk, hgk, hA⟩ := id C
  have hK := hgk.1
  intro n
  induction n with
  | zero => intro v2 h; cases h
  | succ n hk_2 =>
    intro v2 h
    have h : g_X11_goesOn_b2 N x_now x_lost v1 (f_X11_goesOn_b2 N x_now x_lost v1 n) v2 = some q := h
    generalize f_X11_goesOn_b2 N x_now x_lost v1 n = k_2 at h hk_2
    unfold g_X11_goesOn_b2 at h
    intro H locs ls hP hD hS hl
    refine lv_iload_n hx hb dX11_goesOn_2 rfl (lv_at hl 2 rfl) ?_
    refine lv_aload_n hx hb dX11_goesOn_3 rfl (lv_at hl 0 rfl) ?_
    refine va_get (D := D) (ci := 11) (v := .ref a_x_now) (C := RX11) (T := TX11) (N := 19) hx hb hts in_X11_goesOn_X11 hown hK hP 0 rfl rfl 0 (by decide) (hts _ mb_X11_goesOn_0) (fun _ h9 => h9) rfl dX11_goesOn_4 ?_
    refine lv_iconst (v := 3) hx hb dX11_goesOn_7 (by decide) ?_
    refine va_iald hx hb hK hP 1 0 rfl rfl (g_lit (i := 3) (n := 194) (by decide)) dX11_goesOn_8 ?_
    refine W.eq (g2 := F0 m 9 ls [.int (x_now 3), .int v2]) rfl ?_
    refine lv_icmp_ge (tgt := 40) hx hb dX11_goesOn_9 (by decide) (fun c1 => ?_) (fun c1 => ?_)
    · have h := ift c1 h
      refine lv_iconst (v := (-1)) hx hb dX11_goesOn_40 (by decide) ?_
      obtain rfl := Option.some.inj h
      exact g_iret C hP hD hS dX11_goesOn_41
    · have h := iff_ c1 h
      refine lv_aload_n hx hb dX11_goesOn_12 rfl (lv_at hl 0 rfl) ?_
      refine lv_iload_n hx hb dX11_goesOn_13 rfl (lv_at hl 1 rfl) ?_
      refine lv_iload_n hx hb dX11_goesOn_14 rfl (lv_at hl 2 rfl) ?_
      obtain ⟨q2, e2, h⟩ := bd_some h
      refine g_callV (index := 156) (maxL := 6) (n := 2) (As := [.int v1, .int v2]) (rest := []) (st1 := [.int q2]) (C1 := RX11) (T1 := TX11) (N1 := 19) (ws2 := (w_X11_goesOn cI cJ cZ cG a_x a_x_now a_x_kept a_x_sortOf a_x_sizeOf a_x_sheets a_x_parts a_x_edge a_x_far a_x_lost x_isKept x_host x_below x_bestTarget x_high x_low x_whole x_tryHigh x_tryLow x_lots x_now x_lost)) C hP hD hS hl.1 11 0 (c_X11_behind l D cI cJ cZ cG a_x a_x_now a_x_kept a_x_sortOf a_x_sizeOf a_x_sheets a_x_parts a_x_edge a_x_far a_x_lost x_isKept x_host x_below x_bestTarget x_high x_low x_whole x_tryHigh x_tryLow x_lots x_now v1 v2 N q2 e2) gX11_goesOn_X11_behind rfl rfl rfl (by decide +kernel) ⟨Nat.le_of_ble_eq_true rfl, Nat.le_of_ble_eq_true rfl⟩ rfl rfl rfl (Nat.le_of_ble_eq_true rfl) rfl dX11_goesOn_15 [0, 1] [2] [1, 2, 0] rfl rfl rfl rfl (by decide) rfl rfl rfl (fun H locs hP hD hS => ?_)
      refine lv_istore_n (lv' := [(3, .int q2), (0, .ref a_x), (1, .int v1), (2, .int v2)]) hx hb dX11_goesOn_18 rfl hl (by decide) rfl (fun ls hl => ?_)
      refine lv_iload_n hx hb dX11_goesOn_19 rfl (lv_at hl 0 rfl) ?_
      refine lv_if_lt (tgt := 34) hx hb dX11_goesOn_20 (by decide) (fun c3 => ?_) (fun c3 => ?_)
      · have h := ift c3 h
        refine lv_iinc (v := v2 + 1) (lv' := [(2, .int (v2 + 1)), (3, .int q2), (0, .ref a_x), (1, .int v1)]) hx hb dX11_goesOn_34 hl (k := 3) rfl rfl (by decide) rfl (fun ls hl => ?_)
        refine lv_goto (tgt := 2) hx hb dX11_goesOn_37 (by decide) ?_
        exact hk_2 (v2 + 1) h H locs ls hP hD hS (lv_sub hl [2, 3, 0] rfl)
      · have h := iff_ c3 h
        refine lv_aload_n hx hb dX11_goesOn_23 rfl (lv_at hl 1 rfl) ?_
        refine va_get (D := D) (ci := 11) (v := .ref a_x_lost) (C := RX11) (T := TX11) (N := 19) hx hb hts in_X11_goesOn_X11 hown hK hP 0 rfl rfl 18 (by decide) (hts _ mb_X11_goesOn_1) (fun _ h9 => h9) rfl dX11_goesOn_24 ?_
        refine lv_iload_n hx hb dX11_goesOn_27 rfl (lv_at hl 0 rfl) ?_
        obtain ⟨i4, h⟩ := gI_some h
        refine va_zald hx hb hK hP 2 2 rfl rfl i4 dX11_goesOn_28 ?_
        refine lv_if_ne (tgt := 34) hx hb dX11_goesOn_29 (by decide) (fun c5 => ?_) (fun c5 => ?_)
        · have h := iff_ c5 h
          refine lv_iinc (v := v2 + 1) (lv' := [(2, .int (v2 + 1)), (3, .int q2), (0, .ref a_x), (1, .int v1)]) hx hb dX11_goesOn_34 hl (k := 3) rfl rfl (by decide) rfl (fun ls hl => ?_)
          refine lv_goto (tgt := 2) hx hb dX11_goesOn_37 (by decide) ?_
          exact hk_2 (v2 + 1) h H locs ls hP hD hS (lv_sub hl [2, 3, 0] rfl)
        · have h := ift c5 h
          refine lv_iload_n hx hb dX11_goesOn_32 rfl (lv_at hl 3 rfl) ?_
          obtain rfl := Option.some.inj h
          exact g_iret C hP hD hS dX11_goesOn_33
set_option maxRecDepth 100000 in
set_option maxHeartbeats 4000000 in
theorem c_X11_goesOn (l : Launch) (D : va_G) (cI cJ cZ cG : ClassId) (a_x a_x_now a_x_kept a_x_sortOf a_x_sizeOf a_x_sheets a_x_parts a_x_edge a_x_far a_x_lost : Nat) (x_isKept : Int32) (x_host : Int32) (x_below : Int32) (x_bestTarget : Int32) (x_high : Int64) (x_low : Int64) (x_whole : Int64) (x_tryHigh : Int64) (x_tryLow : Int64) (x_lots : Int32) (x_now : (Nat → Int32)) (x_lost : (Nat → Int32)) (p1 : Int32) (N : Nat) (q : Int32) (h : f_X11_goesOn N x_now x_lost p1 = some q) : gMet l yX11_goesOn wsX11_goesOn rm_X11_goesOn [.ref a_x, .int p1] (w_X11_goesOn cI cJ cZ cG a_x a_x_now a_x_kept a_x_sortOf a_x_sizeOf a_x_sheets a_x_parts a_x_edge a_x_far a_x_lost x_isKept x_host x_below x_bestTarget x_high x_low x_whole x_tryHigh x_tryLow x_lots x_now x_lost) (w_X11_goesOn cI cJ cZ cG a_x a_x_now a_x_kept a_x_sortOf a_x_sizeOf a_x_sheets a_x_parts a_x_edge a_x_far a_x_lost x_isKept x_host x_below x_bestTarget x_high x_low x_whole x_tryHigh x_tryLow x_lots x_now x_lost) (some (.int q)) D cI cJ cZ cG := by
  refine g_enter (cc := cX11_goesOn) (nL := 4) (ret := (some .int)) (by decide) rfl (Nat.le_of_ble_eq_true rfl) ?_
  intro p e s m below meth c A C H locs ls hP hD hS hl
  obtain ⟨hx, hb, hr, hml, hown, hts, hlk, hgk, hA⟩ := id C
  have hK := hgk.1
  have hl : lv_has ls 4 [(0, .ref a_x), (1, .int p1)] := hl
  unfold f_X11_goesOn at h
  refine lv_iconst (v := 0) hx hb dX11_goesOn_0 (by decide) ?_
  refine lv_istore_n (lv' := [(2, .int 0), (0, .ref a_x), (1, .int p1)]) hx hb dX11_goesOn_1 rfl hl (by decide) rfl (fun ls hl => ?_)
  exact t_X11_goesOn_b2 C a_x a_x_now a_x_kept a_x_sortOf a_x_sizeOf a_x_sheets a_x_parts a_x_edge a_x_far a_x_lost x_isKept x_host x_below x_bestTarget x_high x_low x_whole x_tryHigh x_tryLow x_lots x_now x_lost N q p1 N 0 h H locs ls hP hD hS (lv_sub hl [1, 2, 0] rfl)
theorem in_X11_isState_X11 : ∀ w ∈ wsX110, w ∈ wsX11_isState := by decide +kernel
theorem mb_X11_isState_0 : Cond.fieldLink RX11 9 "GuardDeskModel" "now" "[I" ∈ wsX11_isState := List.mem_of_getElem? (i := 1) rfl
set_option maxRecDepth 100000 in
set_option maxHeartbeats 4000000 in
theorem t_X11_isState_b4 (C : cx D cI cJ cZ cG A cX11_isState 4 (some .boolean) RX11 wsX11_isState p s m args meth c) (a_x a_x_now a_x_kept a_x_sortOf a_x_sizeOf a_x_sheets a_x_parts a_x_edge a_x_far a_x_lost : Nat) (x_isKept : Int32) (x_host : Int32) (x_below : Int32) (x_bestTarget : Int32) (x_high : Int64) (x_low : Int64) (x_whole : Int64) (x_tryHigh : Int64) (x_tryLow : Int64) (x_lots : Int32) (x_now : (Nat → Int32)) (N : Nat) (q : Int32) (v1 : Int32) : ∀ (n : Nat) (v2 : Int32) (v3 : Int32), f_X11_isState_b4 N x_now v1 n v2 v3 = some q → WB p l e rm_X11_isState s m args below meth c (MQ below (Qg D (some (.int q)) (w_X11_isState cI cJ cZ cG a_x a_x_now a_x_kept a_x_sortOf a_x_sizeOf a_x_sheets a_x_parts a_x_edge a_x_far a_x_lost x_isKept x_host x_below x_bestTarget x_high x_low x_whole x_tryHigh x_tryLow x_lots x_now) A) args s 0 0 A) D A 4 (w_X11_isState cI cJ cZ cG a_x a_x_now a_x_kept a_x_sortOf a_x_sizeOf a_x_sheets a_x_parts a_x_edge a_x_far a_x_lost x_isKept x_host x_below x_bestTarget x_high x_low x_whole x_tryHigh x_tryLow x_lots x_now) [(0, .ref a_x), (1, .int v1), (2, .int v2), (3, .int v3)] [] 4 := by
  obtain ⟨hx, hb, hr, hml, hown, hts, hlk, hgk, hA⟩ := id C
  have hK := hgk.1
  intro n
  induction n with
  | zero => intro v2 v3 h; cases h
  | succ n hk_4 =>
    intro v2 v3 h
    have h : g_X11_isState_b4 N x_now v1 (f_X11_isState_b4 N x_now v1 n) v2 v3 = some q := h
    generalize f_X11_isState_b4 N x_now v1 n = k_4 at h hk_4
    unfold g_X11_isState_b4 at h
    intro H locs ls hP hD hS hl
    refine lv_iload_n hx hb dX11_isState_4 rfl (lv_at hl 3 rfl) ?_
    refine lv_aload_n hx hb dX11_isState_5 rfl (lv_at hl 0 rfl) ?_
    refine va_get (D := D) (ci := 11) (v := .ref a_x_now) (C := RX11) (T := TX11) (N := 19) hx hb hts in_X11_isState_X11 hown hK hP 0 rfl rfl 0 (by decide) (hts _ mb_X11_isState_0) (fun _ h9 => h9) rfl dX11_isState_6 ?_
    refine lv_iconst (v := 3) hx hb dX11_isState_9 (by decide) ?_
    refine va_iald hx hb hK hP 1 0 rfl rfl (g_lit (i := 3) (n := 194) (by decide)) dX11_isState_10 ?_
    refine W.eq (g2 := F0 m 11 ls [.int (x_now 3), .int v3]) rfl ?_
    refine lv_icmp_ge (tgt := 51) hx hb dX11_isState_11 (by decide) (fun c1 => ?_) (fun c1 => ?_)
    · have h := ift c1 h
      refine lv_iload_n hx hb dX11_isState_51 rfl (lv_at hl 2 rfl) ?_
      obtain ⟨z2, h⟩ := gB_some h
      obtain rfl := Option.some.inj h
      exact g_zret C hP hD hS z2 dX11_isState_52
    · have h := iff_ c1 h
      refine lv_iload_n hx hb dX11_isState_14 rfl (lv_at hl 2 rfl) ?_
      refine lv_if_eq (tgt := 43) hx hb dX11_isState_15 (by decide) (fun c3 => ?_) (fun c3 => ?_)
      · have h := ift c3 h
        refine lv_iconst (v := 0) hx hb dX11_isState_43 (by decide) ?_
        refine lv_istore_n (lv' := [(2, .int 0), (0, .ref a_x), (1, .int v1), (3, .int v3)]) hx hb dX11_isState_44 rfl hl (by decide) rfl (fun ls hl => ?_)
        refine lv_iinc (v := v3 + 1) (lv' := [(3, .int (v3 + 1)), (2, .int 0), (0, .ref a_x), (1, .int v1)]) hx hb dX11_isState_45 hl (k := 3) rfl rfl (by decide) rfl (fun ls hl => ?_)
        refine lv_goto (tgt := 4) hx hb dX11_isState_48 (by decide) ?_
        exact hk_4 0 (v3 + 1) h H locs ls hP hD hS (lv_sub hl [2, 3, 1, 0] rfl)
      · have h := iff_ c3 h
        refine lv_iload_n hx hb dX11_isState_18 rfl (lv_at hl 1 rfl) ?_
        refine lv_iconst (v := 3) hx hb dX11_isState_19 (by decide) ?_
        refine lv_iload_n hx hb dX11_isState_20 rfl (lv_at hl 3 rfl) ?_
        refine lv_imul hx hb dX11_isState_21 ?_
        refine lv_ishr hx hb dX11_isState_22 ?_
        refine lv_bipush (v := 7) hx hb dX11_isState_23 (by decide) ?_
        refine lv_iand hx hb dX11_isState_25 ?_
        refine lv_aload_n hx hb dX11_isState_26 rfl (lv_at hl 0 rfl) ?_
        refine va_get (D := D) (ci := 11) (v := .ref a_x_now) (C := RX11) (T := TX11) (N := 19) hx hb hts in_X11_isState_X11 hown hK hP 0 rfl rfl 0 (by decide) (hts _ mb_X11_isState_0) (fun _ h9 => h9) rfl dX11_isState_27 ?_
        refine lv_sipush (v := 149) hx hb dX11_isState_30 (by decide) ?_
        refine lv_iload_n hx hb dX11_isState_33 rfl (lv_at hl 3 rfl) ?_
        refine lv_iadd hx hb dX11_isState_34 ?_
        obtain ⟨i4, h⟩ := gI_some h
        refine va_iald hx hb hK hP 1 0 rfl rfl i4 dX11_isState_35 ?_
        refine lv_icmp_ge (tgt := 43) hx hb dX11_isState_36 (by decide) (fun c5 => ?_) (fun c5 => ?_)
        · have h := ift c5 h
          refine lv_iconst (v := 0) hx hb dX11_isState_43 (by decide) ?_
          refine lv_istore_n (lv' := [(2, .int 0), (0, .ref a_x), (1, .int v1), (3, .int v3)]) hx hb dX11_isState_44 rfl hl (by decide) rfl (fun ls hl => ?_)
          refine lv_iinc (v := v3 + 1) (lv' := [(3, .int (v3 + 1)), (2, .int 0), (0, .ref a_x), (1, .int v1)]) hx hb dX11_isState_45 hl (k := 3) rfl rfl (by decide) rfl (fun ls hl => ?_)
          refine lv_goto (tgt := 4) hx hb dX11_isState_48 (by decide) ?_
          exact hk_4 0 (v3 + 1) h H locs ls hP hD hS (lv_sub hl [2, 3, 1, 0] rfl)
        · have h := iff_ c5 h
          refine lv_iconst (v := 1) hx hb dX11_isState_39 (by decide) ?_
          refine lv_goto (tgt := 44) hx hb dX11_isState_40 (by decide) ?_
          refine lv_istore_n (lv' := [(2, .int 1), (0, .ref a_x), (1, .int v1), (3, .int v3)]) hx hb dX11_isState_44 rfl hl (by decide) rfl (fun ls hl => ?_)
          refine lv_iinc (v := v3 + 1) (lv' := [(3, .int (v3 + 1)), (2, .int 1), (0, .ref a_x), (1, .int v1)]) hx hb dX11_isState_45 hl (k := 3) rfl rfl (by decide) rfl (fun ls hl => ?_)
          refine lv_goto (tgt := 4) hx hb dX11_isState_48 (by decide) ?_
          exact hk_4 1 (v3 + 1) h H locs ls hP hD hS (lv_sub hl [2, 3, 1, 0] rfl)
set_option maxRecDepth 100000 in
set_option maxHeartbeats 4000000 in
theorem c_X11_isState (l : Launch) (D : va_G) (cI cJ cZ cG : ClassId) (a_x a_x_now a_x_kept a_x_sortOf a_x_sizeOf a_x_sheets a_x_parts a_x_edge a_x_far a_x_lost : Nat) (x_isKept : Int32) (x_host : Int32) (x_below : Int32) (x_bestTarget : Int32) (x_high : Int64) (x_low : Int64) (x_whole : Int64) (x_tryHigh : Int64) (x_tryLow : Int64) (x_lots : Int32) (x_now : (Nat → Int32)) (p1 : Int32) (N : Nat) (q : Int32) (h : f_X11_isState N x_now p1 = some q) : gMet l yX11_isState wsX11_isState rm_X11_isState [.ref a_x, .int p1] (w_X11_isState cI cJ cZ cG a_x a_x_now a_x_kept a_x_sortOf a_x_sizeOf a_x_sheets a_x_parts a_x_edge a_x_far a_x_lost x_isKept x_host x_below x_bestTarget x_high x_low x_whole x_tryHigh x_tryLow x_lots x_now) (w_X11_isState cI cJ cZ cG a_x a_x_now a_x_kept a_x_sortOf a_x_sizeOf a_x_sheets a_x_parts a_x_edge a_x_far a_x_lost x_isKept x_host x_below x_bestTarget x_high x_low x_whole x_tryHigh x_tryLow x_lots x_now) (some (.int q)) D cI cJ cZ cG := by
  refine g_enter (cc := cX11_isState) (nL := 4) (ret := (some .boolean)) (by decide) rfl (Nat.le_of_ble_eq_true rfl) ?_
  intro p e s m below meth c A C H locs ls hP hD hS hl
  obtain ⟨hx, hb, hr, hml, hown, hts, hlk, hgk, hA⟩ := id C
  have hK := hgk.1
  have hl : lv_has ls 4 [(0, .ref a_x), (1, .int p1)] := hl
  unfold f_X11_isState at h
  refine lv_iconst (v := 1) hx hb dX11_isState_0 (by decide) ?_
  refine lv_istore_n (lv' := [(2, .int 1), (0, .ref a_x), (1, .int p1)]) hx hb dX11_isState_1 rfl hl (by decide) rfl (fun ls hl => ?_)
  refine lv_iconst (v := 0) hx hb dX11_isState_2 (by decide) ?_
  refine lv_istore_n (lv' := [(3, .int 0), (2, .int 1), (0, .ref a_x), (1, .int p1)]) hx hb dX11_isState_3 rfl hl (by decide) rfl (fun ls hl => ?_)
  exact t_X11_isState_b4 C a_x a_x_now a_x_kept a_x_sortOf a_x_sizeOf a_x_sheets a_x_parts a_x_edge a_x_far a_x_lost x_isKept x_host x_below x_bestTarget x_high x_low x_whole x_tryHigh x_tryLow x_lots x_now N q p1 N 1 0 h H locs ls hP hD hS (lv_sub hl [2, 3, 1, 0] rfl)
theorem in_X11_strike_X11 : ∀ w ∈ wsX110, w ∈ wsX11_strike := by decide +kernel
theorem mb_X11_strike_0 : Cond.fieldLink RX11 40 "GuardDeskModel" "lost" "[Z" ∈ wsX11_strike := List.mem_of_getElem? (i := 2) rfl
theorem mb_X11_strike_1 : Cond.fieldLink RX11 9 "GuardDeskModel" "now" "[I" ∈ wsX11_strike := List.mem_of_getElem? (i := 1) rfl
set_option maxRecDepth 100000 in
set_option maxHeartbeats 4000000 in
theorem t_X11_strike_b53 (C : cx D cI cJ cZ cG A cX11_strike 4 none RX11 wsX11_strike p s m args meth c) (a_x a_x_now a_x_kept a_x_sortOf a_x_sizeOf a_x_sheets a_x_parts a_x_edge a_x_far a_x_lost : Nat) (x_isKept : Int32) (x_host : Int32) (x_below : Int32) (x_bestTarget : Int32) (x_high : Int64) (x_low : Int64) (x_whole : Int64) (x_tryHigh : Int64) (x_tryLow : Int64) (x_lots : Int32) (x_now : (Nat → Int32)) (N : Nat) (q : (Nat → Int32)) (v1 : Int32) (k_45 : (Nat → Int32) → Int32 → Option ((Nat → Int32))) (hk_45 : ∀ (x_lost : (Nat → Int32)) (v2 : Int32), k_45 x_lost v2 = some q → WB p l e rm_X11_strike s m args below meth c (MQ below (Qg D none (w_X11_strike cI cJ cZ cG a_x a_x_now a_x_kept a_x_sortOf a_x_sizeOf a_x_sheets a_x_parts a_x_edge a_x_far a_x_lost x_isKept x_host x_below x_bestTarget x_high x_low x_whole x_tryHigh x_tryLow x_lots x_now q) A) args s 0 0 A) D A 4 (w_X11_strike cI cJ cZ cG a_x a_x_now a_x_kept a_x_sortOf a_x_sizeOf a_x_sheets a_x_parts a_x_edge a_x_far a_x_lost x_isKept x_host x_below x_bestTarget x_high x_low x_whole x_tryHigh x_tryLow x_lots x_now x_lost) [(0, .ref a_x), (1, .int v1), (2, .int v2)] [] 45) : ∀ (n : Nat) (x_lost : (Nat → Int32)) (v2 : Int32) (v3 : Int32), f_X11_strike_b53 N x_now k_45 v1 n x_lost v2 v3 = some q → WB p l e rm_X11_strike s m args below meth c (MQ below (Qg D none (w_X11_strike cI cJ cZ cG a_x a_x_now a_x_kept a_x_sortOf a_x_sizeOf a_x_sheets a_x_parts a_x_edge a_x_far a_x_lost x_isKept x_host x_below x_bestTarget x_high x_low x_whole x_tryHigh x_tryLow x_lots x_now q) A) args s 0 0 A) D A 4 (w_X11_strike cI cJ cZ cG a_x a_x_now a_x_kept a_x_sortOf a_x_sizeOf a_x_sheets a_x_parts a_x_edge a_x_far a_x_lost x_isKept x_host x_below x_bestTarget x_high x_low x_whole x_tryHigh x_tryLow x_lots x_now x_lost) [(0, .ref a_x), (1, .int v1), (2, .int v2), (3, .int v3)] [] 53 := by
  obtain ⟨hx, hb, hr, hml, hown, hts, hlk, hgk, hA⟩ := id C
  have hK := hgk.1
  intro n
  induction n with
  | zero => intro x_lost v2 v3 h; cases h
  | succ n hk_53 =>
    intro x_lost v2 v3 h
    have h : g_X11_strike_b53 N x_now k_45 v1 (f_X11_strike_b53 N x_now k_45 v1 n) x_lost v2 v3 = some q := h
    generalize f_X11_strike_b53 N x_now k_45 v1 n = k_53 at h hk_53
    unfold g_X11_strike_b53 at h
    intro H locs ls hP hD hS hl
    refine lv_iload_n hx hb dX11_strike_53 rfl (lv_at hl 3 rfl) ?_
    refine lv_iload_n hx hb dX11_strike_54 rfl (lv_at hl 1 rfl) ?_
    refine lv_icmp_ge (tgt := 90) hx hb dX11_strike_55 (by decide) (fun c1 => ?_) (fun c1 => ?_)
    · have h := ift c1 h
      refine lv_goto (tgt := 45) hx hb dX11_strike_90 (by decide) ?_
      exact hk_45 x_lost v2 h H locs ls hP hD hS (lv_sub hl [0, 1, 2] rfl)
    · have h := iff_ c1 h
      refine lv_aload_n hx hb dX11_strike_58 rfl (lv_at hl 0 rfl) ?_
      refine va_get (D := D) (ci := 11) (v := .ref a_x_lost) (C := RX11) (T := TX11) (N := 19) hx hb hts in_X11_strike_X11 hown hK hP 0 rfl rfl 18 (by decide) (hts _ mb_X11_strike_0) (fun _ h9 => h9) rfl dX11_strike_59 ?_
      refine lv_iload_n hx hb dX11_strike_62 rfl (lv_at hl 3 rfl) ?_
      obtain ⟨i2, h⟩ := gI_some h
      refine va_zald hx hb hK hP 2 2 rfl rfl i2 dX11_strike_63 ?_
      refine lv_if_ne (tgt := 84) hx hb dX11_strike_64 (by decide) (fun c3 => ?_) (fun c3 => ?_)
      · have h := iff_ c3 h
        refine lv_iinc (v := v3 + 1) (lv' := [(3, .int (v3 + 1)), (0, .ref a_x), (1, .int v1), (2, .int v2)]) hx hb dX11_strike_84 hl (k := 3) rfl rfl (by decide) rfl (fun ls hl => ?_)
        refine lv_goto (tgt := 53) hx hb dX11_strike_87 (by decide) ?_
        exact hk_53 x_lost v2 (v3 + 1) h H locs ls hP hD hS (lv_sub hl [1, 2, 3, 0] rfl)
      · have h := ift c3 h
        refine lv_aload_n hx hb dX11_strike_67 rfl (lv_at hl 0 rfl) ?_
        refine lv_iload_n hx hb dX11_strike_68 rfl (lv_at hl 3 rfl) ?_
        obtain ⟨q4, e4, h⟩ := bd_some h
        refine g_callV (index := 162) (maxL := 4) (n := 1) (As := [.int v3]) (rest := []) (st1 := [.int q4]) (C1 := RX11) (T1 := TX11) (N1 := 19) (ws2 := (w_X11_strike cI cJ cZ cG a_x a_x_now a_x_kept a_x_sortOf a_x_sizeOf a_x_sheets a_x_parts a_x_edge a_x_far a_x_lost x_isKept x_host x_below x_bestTarget x_high x_low x_whole x_tryHigh x_tryLow x_lots x_now x_lost)) C hP hD hS hl.1 11 0 (c_X11_goesOn l D cI cJ cZ cG a_x a_x_now a_x_kept a_x_sortOf a_x_sizeOf a_x_sheets a_x_parts a_x_edge a_x_far a_x_lost x_isKept x_host x_below x_bestTarget x_high x_low x_whole x_tryHigh x_tryLow x_lots x_now x_lost v3 N q4 e4) gX11_strike_X11_goesOn rfl rfl rfl (by decide +kernel) ⟨Nat.le_of_ble_eq_true rfl, Nat.le_of_ble_eq_true rfl⟩ rfl rfl rfl (Nat.le_of_ble_eq_true rfl) rfl dX11_strike_69 [0, 1, 2] [] [0, 1, 2] rfl rfl rfl rfl (by decide) rfl rfl rfl (fun H locs hP hD hS => ?_)
        refine lv_if_ge (tgt := 84) hx hb dX11_strike_72 (by decide) (fun c5 => ?_) (fun c5 => ?_)
        · have h := ift c5 h
          refine lv_iinc (v := v3 + 1) (lv' := [(3, .int (v3 + 1)), (0, .ref a_x), (1, .int v1), (2, .int v2)]) hx hb dX11_strike_84 hl (k := 3) rfl rfl (by decide) rfl (fun ls hl => ?_)
          refine lv_goto (tgt := 53) hx hb dX11_strike_87 (by decide) ?_
          exact hk_53 x_lost v2 (v3 + 1) h H locs ls hP hD hS (lv_sub hl [1, 2, 3, 0] rfl)
        · have h := iff_ c5 h
          refine lv_aload_n hx hb dX11_strike_75 rfl (lv_at hl 0 rfl) ?_
          refine va_get (D := D) (ci := 11) (v := .ref a_x_lost) (C := RX11) (T := TX11) (N := 19) hx hb hts in_X11_strike_X11 hown hK hP 0 rfl rfl 18 (by decide) (hts _ mb_X11_strike_0) (fun _ h9 => h9) rfl dX11_strike_76 ?_
          refine lv_iload_n hx hb dX11_strike_79 rfl (lv_at hl 3 rfl) ?_
          refine lv_iconst (v := 1) hx hb dX11_strike_80 (by decide) ?_
          obtain ⟨i6, h⟩ := gI_some h
          refine va_zast hx hb hK hP hD hS 2 2 rfl rfl i6 dX11_strike_81 (fun H locs hP hD hS => ?_)
          have hP : va_P D vwCl (w_X11_strike cI cJ cZ cG a_x a_x_now a_x_kept a_x_sortOf a_x_sizeOf a_x_sheets a_x_parts a_x_edge a_x_far a_x_lost x_isKept x_host x_below x_bestTarget x_high x_low x_whole x_tryHigh x_tryLow x_lots x_now (upd x_lost v3.toNatClampNeg (vp_nar .boolean 1))) H := hP
          have hD : va_D A (w_X11_strike cI cJ cZ cG a_x a_x_now a_x_kept a_x_sortOf a_x_sizeOf a_x_sheets a_x_parts a_x_edge a_x_far a_x_lost x_isKept x_host x_below x_bestTarget x_high x_low x_whole x_tryHigh x_tryLow x_lots x_now (upd x_lost v3.toNatClampNeg (vp_nar .boolean 1))) := hD
          refine lv_iconst (v := 1) hx hb dX11_strike_82 (by decide) ?_
          refine lv_istore_n (lv' := [(2, .int 1), (0, .ref a_x), (1, .int v1), (3, .int v3)]) hx hb dX11_strike_83 rfl hl (by decide) rfl (fun ls hl => ?_)
          refine lv_iinc (v := v3 + 1) (lv' := [(3, .int (v3 + 1)), (2, .int 1), (0, .ref a_x), (1, .int v1)]) hx hb dX11_strike_84 hl (k := 3) rfl rfl (by decide) rfl (fun ls hl => ?_)
          refine lv_goto (tgt := 53) hx hb dX11_strike_87 (by decide) ?_
          exact hk_53 (upd x_lost v3.toNatClampNeg (vp_nar .boolean 1)) 1 (v3 + 1) h H locs ls hP hD hS (lv_sub hl [2, 3, 1, 0] rfl)
set_option maxRecDepth 100000 in
set_option maxHeartbeats 4000000 in
theorem t_X11_strike_b45 (C : cx D cI cJ cZ cG A cX11_strike 4 none RX11 wsX11_strike p s m args meth c) (a_x a_x_now a_x_kept a_x_sortOf a_x_sizeOf a_x_sheets a_x_parts a_x_edge a_x_far a_x_lost : Nat) (x_isKept : Int32) (x_host : Int32) (x_below : Int32) (x_bestTarget : Int32) (x_high : Int64) (x_low : Int64) (x_whole : Int64) (x_tryHigh : Int64) (x_tryLow : Int64) (x_lots : Int32) (x_now : (Nat → Int32)) (N : Nat) (q : (Nat → Int32)) (v1 : Int32) : ∀ (n : Nat) (x_lost : (Nat → Int32)) (v2 : Int32), f_X11_strike_b45 N x_now v1 n x_lost v2 = some q → WB p l e rm_X11_strike s m args below meth c (MQ below (Qg D none (w_X11_strike cI cJ cZ cG a_x a_x_now a_x_kept a_x_sortOf a_x_sizeOf a_x_sheets a_x_parts a_x_edge a_x_far a_x_lost x_isKept x_host x_below x_bestTarget x_high x_low x_whole x_tryHigh x_tryLow x_lots x_now q) A) args s 0 0 A) D A 4 (w_X11_strike cI cJ cZ cG a_x a_x_now a_x_kept a_x_sortOf a_x_sizeOf a_x_sheets a_x_parts a_x_edge a_x_far a_x_lost x_isKept x_host x_below x_bestTarget x_high x_low x_whole x_tryHigh x_tryLow x_lots x_now x_lost) [(0, .ref a_x), (1, .int v1), (2, .int v2)] [] 45 := by
  obtain ⟨hx, hb, hr, hml, hown, hts, hlk, hgk, hA⟩ := id C
  have hK := hgk.1
  intro n
  induction n with
  | zero => intro x_lost v2 h; cases h
  | succ n hk_45 =>
    intro x_lost v2 h
    have h : g_X11_strike_b45 N x_now v1 (f_X11_strike_b45 N x_now v1 n) x_lost v2 = some q := h
    generalize f_X11_strike_b45 N x_now v1 n = k_45 at h hk_45
    unfold g_X11_strike_b45 at h
    intro H locs ls hP hD hS hl
    refine lv_iload_n hx hb dX11_strike_45 rfl (lv_at hl 2 rfl) ?_
    refine lv_if_eq (tgt := 93) hx hb dX11_strike_46 (by decide) (fun c1 => ?_) (fun c1 => ?_)
    · have h := ift c1 h
      obtain rfl := Option.some.inj h
      exact g_vret C hP hD hS dX11_strike_93
    · have h := iff_ c1 h
      refine lv_iconst (v := 0) hx hb dX11_strike_49 (by decide) ?_
      refine lv_istore_n (lv' := [(2, .int 0), (0, .ref a_x), (1, .int v1)]) hx hb dX11_strike_50 rfl hl (by decide) rfl (fun ls hl => ?_)
      refine lv_iconst (v := 0) hx hb dX11_strike_51 (by decide) ?_
      refine lv_istore_n (lv' := [(3, .int 0), (2, .int 0), (0, .ref a_x), (1, .int v1)]) hx hb dX11_strike_52 rfl hl (by decide) rfl (fun ls hl => ?_)
      exact t_X11_strike_b53 C a_x a_x_now a_x_kept a_x_sortOf a_x_sizeOf a_x_sheets a_x_parts a_x_edge a_x_far a_x_lost x_isKept x_host x_below x_bestTarget x_high x_low x_whole x_tryHigh x_tryLow x_lots x_now N q v1 k_45 hk_45 N x_lost 0 0 h H locs ls hP hD hS (lv_sub hl [2, 3, 1, 0] rfl)
set_option maxRecDepth 100000 in
set_option maxHeartbeats 4000000 in
theorem t_X11_strike_b13 (C : cx D cI cJ cZ cG A cX11_strike 4 none RX11 wsX11_strike p s m args meth c) (a_x a_x_now a_x_kept a_x_sortOf a_x_sizeOf a_x_sheets a_x_parts a_x_edge a_x_far a_x_lost : Nat) (x_isKept : Int32) (x_host : Int32) (x_below : Int32) (x_bestTarget : Int32) (x_high : Int64) (x_low : Int64) (x_whole : Int64) (x_tryHigh : Int64) (x_tryLow : Int64) (x_lots : Int32) (x_now : (Nat → Int32)) (N : Nat) (q : (Nat → Int32)) (v1 : Int32) : ∀ (n : Nat) (x_lost : (Nat → Int32)) (v2 : Int32), f_X11_strike_b13 N x_now v1 n x_lost v2 = some q → WB p l e rm_X11_strike s m args below meth c (MQ below (Qg D none (w_X11_strike cI cJ cZ cG a_x a_x_now a_x_kept a_x_sortOf a_x_sizeOf a_x_sheets a_x_parts a_x_edge a_x_far a_x_lost x_isKept x_host x_below x_bestTarget x_high x_low x_whole x_tryHigh x_tryLow x_lots x_now q) A) args s 0 0 A) D A 4 (w_X11_strike cI cJ cZ cG a_x a_x_now a_x_kept a_x_sortOf a_x_sizeOf a_x_sheets a_x_parts a_x_edge a_x_far a_x_lost x_isKept x_host x_below x_bestTarget x_high x_low x_whole x_tryHigh x_tryLow x_lots x_now x_lost) [(0, .ref a_x), (1, .int v1), (2, .int v2)] [] 13 := by
  obtain ⟨hx, hb, hr, hml, hown, hts, hlk, hgk, hA⟩ := id C
  have hK := hgk.1
  intro n
  induction n with
  | zero => intro x_lost v2 h; cases h
  | succ n hk_13 =>
    intro x_lost v2 h
    have h : g_X11_strike_b13 N x_now v1 (f_X11_strike_b13 N x_now v1 n) x_lost v2 = some q := h
    generalize f_X11_strike_b13 N x_now v1 n = k_13 at h hk_13
    unfold g_X11_strike_b13 at h
    intro H locs ls hP hD hS hl
    refine lv_iload_n hx hb dX11_strike_13 rfl (lv_at hl 2 rfl) ?_
    refine lv_iload_n hx hb dX11_strike_14 rfl (lv_at hl 1 rfl) ?_
    refine lv_icmp_ge (tgt := 43) hx hb dX11_strike_15 (by decide) (fun c1 => ?_) (fun c1 => ?_)
    · have h := ift c1 h
      refine lv_iconst (v := 1) hx hb dX11_strike_43 (by decide) ?_
      refine lv_istore_n (lv' := [(2, .int 1), (0, .ref a_x), (1, .int v1)]) hx hb dX11_strike_44 rfl hl (by decide) rfl (fun ls hl => ?_)
      exact t_X11_strike_b45 C a_x a_x_now a_x_kept a_x_sortOf a_x_sizeOf a_x_sheets a_x_parts a_x_edge a_x_far a_x_lost x_isKept x_host x_below x_bestTarget x_high x_low x_whole x_tryHigh x_tryLow x_lots x_now N q v1 N x_lost 1 h H locs ls hP hD hS (lv_sub hl [1, 2, 0] rfl)
    · have h := iff_ c1 h
      refine lv_aload_n hx hb dX11_strike_18 rfl (lv_at hl 0 rfl) ?_
      refine va_get (D := D) (ci := 11) (v := .ref a_x_lost) (C := RX11) (T := TX11) (N := 19) hx hb hts in_X11_strike_X11 hown hK hP 0 rfl rfl 18 (by decide) (hts _ mb_X11_strike_0) (fun _ h9 => h9) rfl dX11_strike_19 ?_
      refine lv_iload_n hx hb dX11_strike_22 rfl (lv_at hl 2 rfl) ?_
      refine lv_aload_n hx hb dX11_strike_23 rfl (lv_at hl 0 rfl) ?_
      refine lv_iload_n hx hb dX11_strike_24 rfl (lv_at hl 2 rfl) ?_
      obtain ⟨q2, e2, h⟩ := bd_some h
      refine g_callV (index := 159) (maxL := 4) (n := 1) (As := [.int v2]) (rest := [.int v2, .ref a_x_lost]) (st1 := [.int q2, .int v2, .ref a_x_lost]) (C1 := RX11) (T1 := TX11) (N1 := 19) (ws2 := (w_X11_strike cI cJ cZ cG a_x a_x_now a_x_kept a_x_sortOf a_x_sizeOf a_x_sheets a_x_parts a_x_edge a_x_far a_x_lost x_isKept x_host x_below x_bestTarget x_high x_low x_whole x_tryHigh x_tryLow x_lots x_now x_lost)) C hP hD hS hl.1 11 0 (c_X11_isState l D cI cJ cZ cG a_x a_x_now a_x_kept a_x_sortOf a_x_sizeOf a_x_sheets a_x_parts a_x_edge a_x_far a_x_lost x_isKept x_host x_below x_bestTarget x_high x_low x_whole x_tryHigh x_tryLow x_lots x_now v2 N q2 e2) gX11_strike_X11_isState rfl rfl rfl (by decide +kernel) ⟨Nat.le_of_ble_eq_true rfl, Nat.le_of_ble_eq_true rfl⟩ rfl rfl rfl (Nat.le_of_ble_eq_true rfl) rfl dX11_strike_25 [0, 1] [2] [1, 2, 0] rfl rfl rfl rfl (by decide) rfl rfl rfl (fun H locs hP hD hS => ?_)
      refine lv_if_ne (tgt := 35) hx hb dX11_strike_28 (by decide) (fun c3 => ?_) (fun c3 => ?_)
      · have h := iff_ c3 h
        refine lv_iconst (v := 0) hx hb dX11_strike_35 (by decide) ?_
        obtain ⟨i4, h⟩ := gI_some h
        refine va_zast hx hb hK hP hD hS 2 2 rfl rfl i4 dX11_strike_36 (fun H locs hP hD hS => ?_)
        have hP : va_P D vwCl (w_X11_strike cI cJ cZ cG a_x a_x_now a_x_kept a_x_sortOf a_x_sizeOf a_x_sheets a_x_parts a_x_edge a_x_far a_x_lost x_isKept x_host x_below x_bestTarget x_high x_low x_whole x_tryHigh x_tryLow x_lots x_now (upd x_lost v2.toNatClampNeg (vp_nar .boolean 0))) H := hP
        have hD : va_D A (w_X11_strike cI cJ cZ cG a_x a_x_now a_x_kept a_x_sortOf a_x_sizeOf a_x_sheets a_x_parts a_x_edge a_x_far a_x_lost x_isKept x_host x_below x_bestTarget x_high x_low x_whole x_tryHigh x_tryLow x_lots x_now (upd x_lost v2.toNatClampNeg (vp_nar .boolean 0))) := hD
        refine lv_iinc (v := v2 + 1) (lv' := [(2, .int (v2 + 1)), (0, .ref a_x), (1, .int v1)]) hx hb dX11_strike_37 hl (k := 2) rfl rfl (by decide) rfl (fun ls hl => ?_)
        refine lv_goto (tgt := 13) hx hb dX11_strike_40 (by decide) ?_
        exact hk_13 (upd x_lost v2.toNatClampNeg (vp_nar .boolean 0)) (v2 + 1) h H locs ls hP hD hS (lv_sub hl [1, 2, 0] rfl)
      · have h := ift c3 h
        refine lv_iconst (v := 1) hx hb dX11_strike_31 (by decide) ?_
        refine lv_goto (tgt := 36) hx hb dX11_strike_32 (by decide) ?_
        obtain ⟨i5, h⟩ := gI_some h
        refine va_zast hx hb hK hP hD hS 2 2 rfl rfl i5 dX11_strike_36 (fun H locs hP hD hS => ?_)
        have hP : va_P D vwCl (w_X11_strike cI cJ cZ cG a_x a_x_now a_x_kept a_x_sortOf a_x_sizeOf a_x_sheets a_x_parts a_x_edge a_x_far a_x_lost x_isKept x_host x_below x_bestTarget x_high x_low x_whole x_tryHigh x_tryLow x_lots x_now (upd x_lost v2.toNatClampNeg (vp_nar .boolean 1))) H := hP
        have hD : va_D A (w_X11_strike cI cJ cZ cG a_x a_x_now a_x_kept a_x_sortOf a_x_sizeOf a_x_sheets a_x_parts a_x_edge a_x_far a_x_lost x_isKept x_host x_below x_bestTarget x_high x_low x_whole x_tryHigh x_tryLow x_lots x_now (upd x_lost v2.toNatClampNeg (vp_nar .boolean 1))) := hD
        refine lv_iinc (v := v2 + 1) (lv' := [(2, .int (v2 + 1)), (0, .ref a_x), (1, .int v1)]) hx hb dX11_strike_37 hl (k := 2) rfl rfl (by decide) rfl (fun ls hl => ?_)
        refine lv_goto (tgt := 13) hx hb dX11_strike_40 (by decide) ?_
        exact hk_13 (upd x_lost v2.toNatClampNeg (vp_nar .boolean 1)) (v2 + 1) h H locs ls hP hD hS (lv_sub hl [1, 2, 0] rfl)
set_option maxRecDepth 100000 in
set_option maxHeartbeats 4000000 in
theorem c_X11_strike (l : Launch) (D : va_G) (cI cJ cZ cG : ClassId) (a_x a_x_now a_x_kept a_x_sortOf a_x_sizeOf a_x_sheets a_x_parts a_x_edge a_x_far a_x_lost : Nat) (x_isKept : Int32) (x_host : Int32) (x_below : Int32) (x_bestTarget : Int32) (x_high : Int64) (x_low : Int64) (x_whole : Int64) (x_tryHigh : Int64) (x_tryLow : Int64) (x_lots : Int32) (x_now : (Nat → Int32)) (x_lost : (Nat → Int32)) (N : Nat) (q : (Nat → Int32)) (h : f_X11_strike N x_now x_lost = some q) : gMet l yX11_strike wsX11_strike rm_X11_strike [.ref a_x] (w_X11_strike cI cJ cZ cG a_x a_x_now a_x_kept a_x_sortOf a_x_sizeOf a_x_sheets a_x_parts a_x_edge a_x_far a_x_lost x_isKept x_host x_below x_bestTarget x_high x_low x_whole x_tryHigh x_tryLow x_lots x_now x_lost) (w_X11_strike cI cJ cZ cG a_x a_x_now a_x_kept a_x_sortOf a_x_sizeOf a_x_sheets a_x_parts a_x_edge a_x_far a_x_lost x_isKept x_host x_below x_bestTarget x_high x_low x_whole x_tryHigh x_tryLow x_lots x_now q) none D cI cJ cZ cG := by
  refine g_enter (cc := cX11_strike) (nL := 4) (ret := none) (by decide) rfl (Nat.le_of_ble_eq_true rfl) ?_
  intro p e s m below meth c A C H locs ls hP hD hS hl
  obtain ⟨hx, hb, hr, hml, hown, hts, hlk, hgk, hA⟩ := id C
  have hK := hgk.1
  have hl : lv_has ls 4 [(0, .ref a_x)] := hl
  unfold f_X11_strike at h
  refine lv_iconst (v := 1) hx hb dX11_strike_0 (by decide) ?_
  refine lv_iconst (v := 3) hx hb dX11_strike_1 (by decide) ?_
  refine lv_aload_n hx hb dX11_strike_2 rfl (lv_at hl 0 rfl) ?_
  refine va_get (D := D) (ci := 11) (v := .ref a_x_now) (C := RX11) (T := TX11) (N := 19) hx hb hts in_X11_strike_X11 hown hK hP 0 rfl rfl 0 (by decide) (hts _ mb_X11_strike_1) (fun _ h9 => h9) rfl dX11_strike_3 ?_
  refine lv_iconst (v := 3) hx hb dX11_strike_6 (by decide) ?_
  refine va_iald hx hb hK hP 1 0 rfl rfl (g_lit (i := 3) (n := 194) (by decide)) dX11_strike_7 ?_
  refine W.eq (g2 := F0 m 8 ls [.int (x_now 3), .int 3, .int 1]) rfl ?_
  refine lv_imul hx hb dX11_strike_8 ?_
  refine lv_ishl hx hb dX11_strike_9 ?_
  refine lv_istore_n (lv' := [(1, .int ((1 : Int32) <<< ((3 * (x_now 3)) &&& 31))), (0, .ref a_x)]) hx hb dX11_strike_10 rfl hl (by decide) rfl (fun ls hl => ?_)
  refine lv_iconst (v := 0) hx hb dX11_strike_11 (by decide) ?_
  refine lv_istore_n (lv' := [(2, .int 0), (1, .int ((1 : Int32) <<< ((3 * (x_now 3)) &&& 31))), (0, .ref a_x)]) hx hb dX11_strike_12 rfl hl (by decide) rfl (fun ls hl => ?_)
  exact t_X11_strike_b13 C a_x a_x_now a_x_kept a_x_sortOf a_x_sizeOf a_x_sheets a_x_parts a_x_edge a_x_far a_x_lost x_isKept x_host x_below x_bestTarget x_high x_low x_whole x_tryHigh x_tryLow x_lots x_now N q ((1 : Int32) <<< ((3 * (x_now 3)) &&& 31)) N x_lost 0 h H locs ls hP hD hS (lv_sub hl [2, 1, 0] rfl)
theorem in_X11_visit_X11 : ∀ w ∈ wsX110, w ∈ wsX11_visit := by decide +kernel
theorem mb_X11_visit_0 : Cond.fieldLink RX11 40 "GuardDeskModel" "lost" "[Z" ∈ wsX11_visit := List.mem_of_getElem? (i := 4) rfl
theorem mb_X11_visit_1 : Cond.constant RX11 113 (-1000000003) ∈ wsX11_visit := List.mem_of_getElem? (i := 5) rfl
theorem mb_X11_visit_2 : Cond.fieldLink RX11 9 "GuardDeskModel" "now" "[I" ∈ wsX11_visit := List.mem_of_getElem? (i := 2) rfl
theorem mb_X11_visit_3 : Cond.constant RX11 64 (-1000000010) ∈ wsX11_visit := List.mem_of_getElem? (i := 3) rfl
theorem mb_X11_visit_4 : Cond.constant RX11 55 (-1000000002) ∈ wsX11_visit := List.mem_of_getElem? (i := 1) rfl
set_option maxRecDepth 100000 in
set_option maxHeartbeats 4000000 in
theorem t_X11_visit_b87 (C : cx D cI cJ cZ cG A cX11_visit 4 (some .int) RX11 wsX11_visit p s m args meth c) (a_x a_x_now a_x_kept a_x_sortOf a_x_sizeOf a_x_sheets a_x_parts a_x_edge a_x_far a_x_lost : Nat) (x_isKept : Int32) (x_below : Int32) (x_bestTarget : Int32) (x_high : Int64) (x_low : Int64) (x_whole : Int64) (x_tryHigh : Int64) (x_tryLow : Int64) (x_lots : Int32) (x_now : (Nat → Int32)) (N : Nat) (q : Int32 × Int32 × (Nat → Int32)) (x_host : Int32) (x_lost : (Nat → Int32)) (v1 : Int32) : ∀ (n : Nat) (v2 : Int32) (v3 : Int32), f_X11_visit_b87 N x_now x_host x_lost v1 n v2 v3 = some q → WB p l e rm_X11_visit s m args below meth c (MQ below (Qg D (some (.int q.1)) (w_X11_visit cI cJ cZ cG a_x a_x_now a_x_kept a_x_sortOf a_x_sizeOf a_x_sheets a_x_parts a_x_edge a_x_far a_x_lost x_isKept q.2.1 x_below x_bestTarget x_high x_low x_whole x_tryHigh x_tryLow x_lots x_now q.2.2) A) args s 0 0 A) D A 4 (w_X11_visit cI cJ cZ cG a_x a_x_now a_x_kept a_x_sortOf a_x_sizeOf a_x_sheets a_x_parts a_x_edge a_x_far a_x_lost x_isKept x_host x_below x_bestTarget x_high x_low x_whole x_tryHigh x_tryLow x_lots x_now x_lost) [(0, .ref a_x), (1, .int v1), (2, .int v2), (3, .int v3)] [] 87 := by
  obtain ⟨hx, hb, hr, hml, hown, hts, hlk, hgk, hA⟩ := id C
  have hK := hgk.1
  intro n
  induction n with
  | zero => intro v2 v3 h; cases h
  | succ n hk_87 =>
    intro v2 v3 h
    have h : g_X11_visit_b87 N x_now x_host x_lost v1 (f_X11_visit_b87 N x_now x_host x_lost v1 n) v2 v3 = some q := h
    generalize f_X11_visit_b87 N x_now x_host x_lost v1 n = k_87 at h hk_87
    unfold g_X11_visit_b87 at h
    intro H locs ls hP hD hS hl
    refine lv_iload_n hx hb dX11_visit_87 rfl (lv_at hl 3 rfl) ?_
    refine lv_iload_n hx hb dX11_visit_88 rfl (lv_at hl 1 rfl) ?_
    refine lv_icmp_ge (tgt := 109) hx hb dX11_visit_89 (by decide) (fun c1 => ?_) (fun c1 => ?_)
    · have h := ift c1 h
      refine lv_aload_n hx hb dX11_visit_109 rfl (lv_at hl 0 rfl) ?_
      refine lv_iload_n hx hb dX11_visit_110 rfl (lv_at hl 2 rfl) ?_
      obtain ⟨q2, e2, h⟩ := bd_some h
      refine g_callV (index := 162) (maxL := 4) (n := 1) (As := [.int v2]) (rest := []) (st1 := [.int q2]) (C1 := RX11) (T1 := TX11) (N1 := 19) (ws2 := (w_X11_visit cI cJ cZ cG a_x a_x_now a_x_kept a_x_sortOf a_x_sizeOf a_x_sheets a_x_parts a_x_edge a_x_far a_x_lost x_isKept x_host x_below x_bestTarget x_high x_low x_whole x_tryHigh x_tryLow x_lots x_now x_lost)) C hP hD hS hl.1 11 0 (c_X11_goesOn l D cI cJ cZ cG a_x a_x_now a_x_kept a_x_sortOf a_x_sizeOf a_x_sheets a_x_parts a_x_edge a_x_far a_x_lost x_isKept x_host x_below x_bestTarget x_high x_low x_whole x_tryHigh x_tryLow x_lots x_now x_lost v2 N q2 e2) gX11_visit_X11_goesOn rfl rfl rfl (by decide +kernel) ⟨Nat.le_of_ble_eq_true rfl, Nat.le_of_ble_eq_true rfl⟩ rfl rfl rfl (Nat.le_of_ble_eq_true rfl) rfl dX11_visit_111 [0, 1, 2] [] [0, 1, 2] rfl rfl rfl rfl (by decide) rfl rfl rfl (fun H locs hP hD hS => ?_)
      obtain rfl := Option.some.inj h
      exact g_iret C hP hD hS dX11_visit_114
    · have h := iff_ c1 h
      refine lv_aload_n hx hb dX11_visit_92 rfl (lv_at hl 0 rfl) ?_
      refine lv_iload_n hx hb dX11_visit_93 rfl (lv_at hl 2 rfl) ?_
      refine lv_aload_n hx hb dX11_visit_94 rfl (lv_at hl 0 rfl) ?_
      refine lv_iload_n hx hb dX11_visit_95 rfl (lv_at hl 2 rfl) ?_
      obtain ⟨q3, e3, h⟩ := bd_some h
      refine g_callV (index := 162) (maxL := 4) (n := 1) (As := [.int v2]) (rest := [.int v2, .ref a_x]) (st1 := [.int q3, .int v2, .ref a_x]) (C1 := RX11) (T1 := TX11) (N1 := 19) (ws2 := (w_X11_visit cI cJ cZ cG a_x a_x_now a_x_kept a_x_sortOf a_x_sizeOf a_x_sheets a_x_parts a_x_edge a_x_far a_x_lost x_isKept x_host x_below x_bestTarget x_high x_low x_whole x_tryHigh x_tryLow x_lots x_now x_lost)) C hP hD hS hl.1 11 0 (c_X11_goesOn l D cI cJ cZ cG a_x a_x_now a_x_kept a_x_sortOf a_x_sizeOf a_x_sheets a_x_parts a_x_edge a_x_far a_x_lost x_isKept x_host x_below x_bestTarget x_high x_low x_whole x_tryHigh x_tryLow x_lots x_now x_lost v2 N q3 e3) gX11_visit_X11_goesOn rfl rfl rfl (by decide +kernel) ⟨Nat.le_of_ble_eq_true rfl, Nat.le_of_ble_eq_true rfl⟩ rfl rfl rfl (Nat.le_of_ble_eq_true rfl) rfl dX11_visit_96 [0, 1, 2] [] [0, 1, 2] rfl rfl rfl rfl (by decide) rfl rfl rfl (fun H locs hP hD hS => ?_)
      obtain ⟨q4, e4, h⟩ := bd_some h
      refine g_callV (index := 156) (maxL := 6) (n := 2) (As := [.int v2, .int q3]) (rest := []) (st1 := [.int q4]) (C1 := RX11) (T1 := TX11) (N1 := 19) (ws2 := (w_X11_visit cI cJ cZ cG a_x a_x_now a_x_kept a_x_sortOf a_x_sizeOf a_x_sheets a_x_parts a_x_edge a_x_far a_x_lost x_isKept x_host x_below x_bestTarget x_high x_low x_whole x_tryHigh x_tryLow x_lots x_now x_lost)) C hP hD hS hl.1 11 0 (c_X11_behind l D cI cJ cZ cG a_x a_x_now a_x_kept a_x_sortOf a_x_sizeOf a_x_sheets a_x_parts a_x_edge a_x_far a_x_lost x_isKept x_host x_below x_bestTarget x_high x_low x_whole x_tryHigh x_tryLow x_lots x_now v2 q3 N q4 e4) gX11_visit_X11_behind rfl rfl rfl (by decide +kernel) ⟨Nat.le_of_ble_eq_true rfl, Nat.le_of_ble_eq_true rfl⟩ rfl rfl rfl (Nat.le_of_ble_eq_true rfl) rfl dX11_visit_99 [0, 1] [2] [1, 2, 0] rfl rfl rfl rfl (by decide) rfl rfl rfl (fun H locs hP hD hS => ?_)
      refine lv_istore_n (lv' := [(2, .int q4), (0, .ref a_x), (1, .int v1), (3, .int v3)]) hx hb dX11_visit_102 rfl hl (by decide) rfl (fun ls hl => ?_)
      refine lv_iinc (v := v3 + 1) (lv' := [(3, .int (v3 + 1)), (2, .int q4), (0, .ref a_x), (1, .int v1)]) hx hb dX11_visit_103 hl (k := 3) rfl rfl (by decide) rfl (fun ls hl => ?_)
      refine lv_goto (tgt := 87) hx hb dX11_visit_106 (by decide) ?_
      exact hk_87 q4 (v3 + 1) h H locs ls hP hD hS (lv_sub hl [2, 3, 1, 0] rfl)
set_option maxRecDepth 100000 in
set_option maxHeartbeats 4000000 in
theorem t_X11_visit_b45 (C : cx D cI cJ cZ cG A cX11_visit 4 (some .int) RX11 wsX11_visit p s m args meth c) (a_x a_x_now a_x_kept a_x_sortOf a_x_sizeOf a_x_sheets a_x_parts a_x_edge a_x_far a_x_lost : Nat) (x_isKept : Int32) (x_below : Int32) (x_bestTarget : Int32) (x_high : Int64) (x_low : Int64) (x_whole : Int64) (x_tryHigh : Int64) (x_tryLow : Int64) (x_lots : Int32) (x_now : (Nat → Int32)) (N : Nat) (q : Int32 × Int32 × (Nat → Int32)) (x_host : Int32) (x_lost : (Nat → Int32)) (v1 : Int32) : ∀ (n : Nat) (v2 : Int32) (v3 : Int32), f_X11_visit_b45 N x_now x_host x_lost v1 n v2 v3 = some q → WB p l e rm_X11_visit s m args below meth c (MQ below (Qg D (some (.int q.1)) (w_X11_visit cI cJ cZ cG a_x a_x_now a_x_kept a_x_sortOf a_x_sizeOf a_x_sheets a_x_parts a_x_edge a_x_far a_x_lost x_isKept q.2.1 x_below x_bestTarget x_high x_low x_whole x_tryHigh x_tryLow x_lots x_now q.2.2) A) args s 0 0 A) D A 4 (w_X11_visit cI cJ cZ cG a_x a_x_now a_x_kept a_x_sortOf a_x_sizeOf a_x_sheets a_x_parts a_x_edge a_x_far a_x_lost x_isKept x_host x_below x_bestTarget x_high x_low x_whole x_tryHigh x_tryLow x_lots x_now x_lost) [(0, .ref a_x), (1, .int v1), (2, .int v2), (3, .int v3)] [] 45 := by
  obtain ⟨hx, hb, hr, hml, hown, hts, hlk, hgk, hA⟩ := id C
  have hK := hgk.1
  intro n
  induction n with
  | zero => intro v2 v3 h; cases h
  | succ n hk_45 =>
    intro v2 v3 h
    have h : g_X11_visit_b45 N x_now x_host x_lost v1 (f_X11_visit_b45 N x_now x_host x_lost v1 n) v2 v3 = some q := h
    generalize f_X11_visit_b45 N x_now x_host x_lost v1 n = k_45 at h hk_45
    unfold g_X11_visit_b45 at h
    intro H locs ls hP hD hS hl
    refine lv_iload_n hx hb dX11_visit_45 rfl (lv_at hl 3 rfl) ?_
    refine lv_if_lt (tgt := 73) hx hb dX11_visit_46 (by decide) (fun c1 => ?_) (fun c1 => ?_)
    · have h := ift c1 h
      refine lv_aload_n hx hb dX11_visit_73 rfl (lv_at hl 0 rfl) ?_
      refine va_get (D := D) (ci := 11) (v := .ref a_x_lost) (C := RX11) (T := TX11) (N := 19) hx hb hts in_X11_visit_X11 hown hK hP 0 rfl rfl 18 (by decide) (hts _ mb_X11_visit_0) (fun _ h9 => h9) rfl dX11_visit_74 ?_
      refine lv_iload_n hx hb dX11_visit_77 rfl (lv_at hl 2 rfl) ?_
      obtain ⟨i2, h⟩ := gI_some h
      refine va_zald hx hb hK hP 2 2 rfl rfl i2 dX11_visit_78 ?_
      refine lv_if_eq (tgt := 85) hx hb dX11_visit_79 (by decide) (fun c3 => ?_) (fun c3 => ?_)
      · have h := ift c3 h
        refine lv_iconst (v := 0) hx hb dX11_visit_85 (by decide) ?_
        refine lv_istore_n (lv' := [(3, .int 0), (0, .ref a_x), (1, .int v1), (2, .int v2)]) hx hb dX11_visit_86 rfl hl (by decide) rfl (fun ls hl => ?_)
        exact t_X11_visit_b87 C a_x a_x_now a_x_kept a_x_sortOf a_x_sizeOf a_x_sheets a_x_parts a_x_edge a_x_far a_x_lost x_isKept x_below x_bestTarget x_high x_low x_whole x_tryHigh x_tryLow x_lots x_now N q x_host x_lost v1 N v2 0 h H locs ls hP hD hS (lv_sub hl [1, 2, 3, 0] rfl)
      · have h := iff_ c3 h
        refine lv_ldc (v := (-1000000003)) hx hb hown (hts _ mb_X11_visit_1) dX11_visit_82 ?_
        obtain rfl := Option.some.inj h
        exact g_iret C hP hD hS dX11_visit_84
    · have h := iff_ c1 h
      refine lv_bipush (v := 8) hx hb dX11_visit_49 (by decide) ?_
      refine lv_iload_n hx hb dX11_visit_51 rfl (lv_at hl 2 rfl) ?_
      refine lv_imul hx hb dX11_visit_52 ?_
      refine lv_aload_n hx hb dX11_visit_53 rfl (lv_at hl 0 rfl) ?_
      refine va_get (D := D) (ci := 11) (v := .ref a_x_now) (C := RX11) (T := TX11) (N := 19) hx hb hts in_X11_visit_X11 hown hK hP 0 rfl rfl 0 (by decide) (hts _ mb_X11_visit_2) (fun _ h9 => h9) rfl dX11_visit_54 ?_
      refine lv_sipush (v := 149) hx hb dX11_visit_57 (by decide) ?_
      refine lv_iload_n hx hb dX11_visit_60 rfl (lv_at hl 3 rfl) ?_
      refine lv_iadd hx hb dX11_visit_61 ?_
      obtain ⟨i4, h⟩ := gI_some h
      refine va_iald hx hb hK hP 1 0 rfl rfl i4 dX11_visit_62 ?_
      refine lv_iadd hx hb dX11_visit_63 ?_
      refine lv_iconst (v := 1) hx hb dX11_visit_64 (by decide) ?_
      refine lv_isub hx hb dX11_visit_65 ?_
      refine lv_istore_n (lv' := [(2, .int (((8 * v2) + (x_now (149 + v3).toNatClampNeg)) - 1)), (0, .ref a_x), (1, .int v1), (3, .int v3)]) hx hb dX11_visit_66 rfl hl (by decide) rfl (fun ls hl => ?_)
      refine lv_iinc (v := v3 + (-1)) (lv' := [(3, .int (v3 + (-1))), (2, .int (((8 * v2) + (x_now (149 + v3).toNatClampNeg)) - 1)), (0, .ref a_x), (1, .int v1)]) hx hb dX11_visit_67 hl (k := 3) rfl rfl (by decide) rfl (fun ls hl => ?_)
      refine lv_goto (tgt := 45) hx hb dX11_visit_70 (by decide) ?_
      exact hk_45 (((8 * v2) + (x_now (149 + v3).toNatClampNeg)) - 1) (v3 + (-1)) h H locs ls hP hD hS (lv_sub hl [2, 3, 1, 0] rfl)
set_option maxRecDepth 100000 in
set_option maxHeartbeats 4000000 in
theorem c_X11_visit (l : Launch) (D : va_G) (cI cJ cZ cG : ClassId) (a_x a_x_now a_x_kept a_x_sortOf a_x_sizeOf a_x_sheets a_x_parts a_x_edge a_x_far a_x_lost : Nat) (x_isKept : Int32) (x_host : Int32) (x_below : Int32) (x_bestTarget : Int32) (x_high : Int64) (x_low : Int64) (x_whole : Int64) (x_tryHigh : Int64) (x_tryLow : Int64) (x_lots : Int32) (x_now : (Nat → Int32)) (x_lost : (Nat → Int32)) (p1 : Int32) (N : Nat) (q : Int32 × Int32 × (Nat → Int32)) (h : f_X11_visit N x_host x_now x_lost p1 = some q) : gMet l yX11_visit wsX11_visit rm_X11_visit [.ref a_x, .int p1] (w_X11_visit cI cJ cZ cG a_x a_x_now a_x_kept a_x_sortOf a_x_sizeOf a_x_sheets a_x_parts a_x_edge a_x_far a_x_lost x_isKept x_host x_below x_bestTarget x_high x_low x_whole x_tryHigh x_tryLow x_lots x_now x_lost) (w_X11_visit cI cJ cZ cG a_x a_x_now a_x_kept a_x_sortOf a_x_sizeOf a_x_sheets a_x_parts a_x_edge a_x_far a_x_lost x_isKept q.2.1 x_below x_bestTarget x_high x_low x_whole x_tryHigh x_tryLow x_lots x_now q.2.2) (some (.int q.1)) D cI cJ cZ cG := by
  refine g_enter (cc := cX11_visit) (nL := 4) (ret := (some .int)) (by decide) rfl (Nat.le_of_ble_eq_true rfl) ?_
  intro p e s m below meth c A C H locs ls hP hD hS hl
  obtain ⟨hx, hb, hr, hml, hown, hts, hlk, hgk, hA⟩ := id C
  have hK := hgk.1
  have hl : lv_has ls 4 [(0, .ref a_x), (1, .int p1)] := hl
  unfold f_X11_visit at h
  refine lv_iload_n hx hb dX11_visit_0 rfl (lv_at hl 1 rfl) ?_
  refine lv_iconst (v := 0) hx hb dX11_visit_1 (by decide) ?_
  refine lv_sipush (v := 1000) hx hb dX11_visit_2 (by decide) ?_
  refine g_callS0 (index := 47) (maxL := 3) (n := 3) (As := [.int p1, .int 0, .int 1000]) (rest := []) (st1 := [.int (f_X11_within p1 0 1000)]) C hP hS hl.1 (c_X11_within l D cI cJ cZ cG p1 0 1000 _ rfl) gX11_visit_X11_within rfl rfl rfl (by decide +kernel) ⟨Nat.le_of_ble_eq_true rfl, Nat.le_of_ble_eq_true rfl⟩ rfl (Nat.le_of_ble_eq_true rfl) rfl dX11_visit_5 rfl (fun H locs hP hS => ?_)
  refine lv_if_ne (tgt := 14) hx hb dX11_visit_8 (by decide) (fun c1 => ?_) (fun c1 => ?_)
  · have h := iff_ c1 h
    refine lv_aload_n hx hb dX11_visit_14 rfl (lv_at hl 0 rfl) ?_
    refine va_get (D := D) (ci := 11) (v := .ref a_x_now) (C := RX11) (T := TX11) (N := 19) hx hb hts in_X11_visit_X11 hown hK hP 0 rfl rfl 0 (by decide) (hts _ mb_X11_visit_2) (fun _ h9 => h9) rfl dX11_visit_15 ?_
    refine lv_iconst (v := 3) hx hb dX11_visit_18 (by decide) ?_
    refine va_iald hx hb hK hP 1 0 rfl rfl (g_lit (i := 3) (n := 194) (by decide)) dX11_visit_19 ?_
    refine W.eq (g2 := F0 m 20 ls [.int (x_now 3)]) rfl ?_
    refine lv_if_ne (tgt := 30) hx hb dX11_visit_20 (by decide) (fun c2 => ?_) (fun c2 => ?_)
    · have h := iff_ c2 h
      refine lv_aload_n hx hb dX11_visit_30 rfl (lv_at hl 0 rfl) ?_
      obtain ⟨q3, e3, h⟩ := bd_some h
      refine g_callV (index := 165) (maxL := 4) (n := 0) (As := []) (rest := []) (st1 := []) (C1 := RX11) (T1 := TX11) (N1 := 19) (ws2 := (w_X11_visit cI cJ cZ cG a_x a_x_now a_x_kept a_x_sortOf a_x_sizeOf a_x_sheets a_x_parts a_x_edge a_x_far a_x_lost x_isKept x_host x_below x_bestTarget x_high x_low x_whole x_tryHigh x_tryLow x_lots x_now q3)) C hP hD hS hl.1 11 0 (c_X11_strike l D cI cJ cZ cG a_x a_x_now a_x_kept a_x_sortOf a_x_sizeOf a_x_sheets a_x_parts a_x_edge a_x_far a_x_lost x_isKept x_host x_below x_bestTarget x_high x_low x_whole x_tryHigh x_tryLow x_lots x_now x_lost N q3 e3) gX11_visit_X11_strike rfl rfl rfl (by decide +kernel) ⟨Nat.le_of_ble_eq_true rfl, Nat.le_of_ble_eq_true rfl⟩ rfl rfl rfl (Nat.le_of_ble_eq_true rfl) rfl dX11_visit_31 [0, 1, 2] [] [0, 1, 2] rfl rfl rfl rfl (by decide) rfl rfl rfl (fun H locs hP hD hS => ?_)
      refine lv_iconst (v := 0) hx hb dX11_visit_34 (by decide) ?_
      refine lv_istore_n (lv' := [(2, .int 0), (0, .ref a_x), (1, .int p1)]) hx hb dX11_visit_35 rfl hl (by decide) rfl (fun ls hl => ?_)
      refine lv_aload_n hx hb dX11_visit_36 rfl (lv_at hl 1 rfl) ?_
      refine va_get (D := D) (ci := 11) (v := .ref a_x_now) (C := RX11) (T := TX11) (N := 19) hx hb hts in_X11_visit_X11 hown hK hP 0 rfl rfl 0 (by decide) (hts _ mb_X11_visit_2) (fun _ h9 => h9) rfl dX11_visit_37 ?_
      refine lv_iconst (v := 3) hx hb dX11_visit_40 (by decide) ?_
      refine va_iald hx hb hK hP 1 0 rfl rfl (g_lit (i := 3) (n := 194) (by decide)) dX11_visit_41 ?_
      refine W.eq (g2 := F0 m 42 ls [.int (x_now 3)]) rfl ?_
      refine lv_iconst (v := 1) hx hb dX11_visit_42 (by decide) ?_
      refine lv_isub hx hb dX11_visit_43 ?_
      refine lv_istore_n (lv' := [(3, .int ((x_now 3) - 1)), (2, .int 0), (0, .ref a_x), (1, .int p1)]) hx hb dX11_visit_44 rfl hl (by decide) rfl (fun ls hl => ?_)
      exact t_X11_visit_b45 C a_x a_x_now a_x_kept a_x_sortOf a_x_sizeOf a_x_sheets a_x_parts a_x_edge a_x_far a_x_lost x_isKept x_below x_bestTarget x_high x_low x_whole x_tryHigh x_tryLow x_lots x_now N q x_host q3 p1 N 0 ((x_now 3) - 1) h H locs ls hP hD hS (lv_sub hl [2, 3, 1, 0] rfl)
    · have h := ift c2 h
      refine lv_aload_n hx hb dX11_visit_23 rfl (lv_at hl 0 rfl) ?_
      refine lv_ldc (v := (-1000000010)) hx hb hown (hts _ mb_X11_visit_3) dX11_visit_24 ?_
      refine g_callV (index := 60) (maxL := 2) (n := 1) (As := [.int (-1000000010)]) (rest := []) (st1 := [.int ((f_X11_found x_host (-1000000010)).1)]) (C1 := RX11) (T1 := TX11) (N1 := 19) (ws2 := (w_X11_visit cI cJ cZ cG a_x a_x_now a_x_kept a_x_sortOf a_x_sizeOf a_x_sheets a_x_parts a_x_edge a_x_far a_x_lost x_isKept ((f_X11_found x_host (-1000000010)).2) x_below x_bestTarget x_high x_low x_whole x_tryHigh x_tryLow x_lots x_now x_lost)) C hP hD hS hl.1 11 0 (c_X11_found l D cI cJ cZ cG a_x a_x_now a_x_kept a_x_sortOf a_x_sizeOf a_x_sheets a_x_parts a_x_edge a_x_far a_x_lost x_isKept x_host x_below x_bestTarget x_high x_low x_whole x_tryHigh x_tryLow x_lots (-1000000010) _ rfl) gX11_visit_X11_found rfl rfl rfl (by decide +kernel) ⟨Nat.le_of_ble_eq_true rfl, Nat.le_of_ble_eq_true rfl⟩ rfl rfl rfl (Nat.le_of_ble_eq_true rfl) rfl dX11_visit_26 [0] [1, 2] [2, 0, 1] rfl rfl rfl rfl (by decide) rfl rfl rfl (fun H locs hP hD hS => ?_)
      obtain rfl := Option.some.inj h
      exact g_iret C hP hD hS dX11_visit_29
  · have h := ift c1 h
    refine lv_ldc (v := (-1000000002)) hx hb hown (hts _ mb_X11_visit_4) dX11_visit_11 ?_
    obtain rfl := Option.some.inj h
    exact g_iret C hP hD hS dX11_visit_13
set_option maxRecDepth 100000 in
set_option maxHeartbeats 4000000 in
theorem c_X11_isSet (l : Launch) (D : va_G) (cI cJ cZ cG : ClassId) (p0 : Int32) (q : Int32) (h : f_X11_isSet p0 = q) : gMet l yX11_isSet wsX11_isSet rm_X11_isSet [.int p0] (w_X11_isSet cI cJ cZ cG) (w_X11_isSet cI cJ cZ cG) (some (.int q)) D cI cJ cZ cG := by
  refine g_enter (cc := cX11_isSet) (nL := 1) (ret := (some .boolean)) (by decide) rfl (Nat.le_of_ble_eq_true rfl) ?_
  intro p e s m below meth c A C H locs ls hP hD hS hl
  obtain ⟨hx, hb, hr, hml, hown, hts, hlk, hgk, hA⟩ := id C
  have hK := hgk.1
  have hl : lv_has ls 1 [(0, .int p0)] := hl
  unfold f_X11_isSet at h
  refine lv_iload_n hx hb dX11_isSet_0 rfl (lv_at hl 0 rfl) ?_
  refine lv_iconst (v := 0) hx hb dX11_isSet_1 (by decide) ?_
  refine lv_sipush (v := 1023) hx hb dX11_isSet_2 (by decide) ?_
  refine g_callS0 (index := 47) (maxL := 3) (n := 3) (As := [.int p0, .int 0, .int 1023]) (rest := []) (st1 := [.int (f_X11_within p0 0 1023)]) C hP hS hl.1 (c_X11_within l D cI cJ cZ cG p0 0 1023 _ rfl) gX11_isSet_X11_within rfl rfl rfl (by decide +kernel) ⟨Nat.le_of_ble_eq_true rfl, Nat.le_of_ble_eq_true rfl⟩ rfl (Nat.le_of_ble_eq_true rfl) rfl dX11_isSet_5 rfl (fun H locs hP hS => ?_)
  obtain rfl := h
  exact g_zret C hP hD hS (nz_b (z_X11_within p0 0 1023)) dX11_isSet_8
theorem in_X11_haunt_X11 : ∀ w ∈ wsX110, w ∈ wsX11_haunt := by decide +kernel
theorem mb_X11_haunt_0 : Cond.fieldLink RX11 9 "GuardDeskModel" "now" "[I" ∈ wsX11_haunt := List.mem_of_getElem? (i := 1) rfl
theorem mb_X11_haunt_1 : Cond.constant RX11 55 (-1000000002) ∈ wsX11_haunt := List.mem_of_getElem? (i := 2) rfl
set_option maxRecDepth 100000 in
set_option maxHeartbeats 4000000 in
theorem c_X11_haunt (l : Launch) (D : va_G) (cI cJ cZ cG : ClassId) (a_x a_x_now a_x_kept a_x_sortOf a_x_sizeOf a_x_sheets a_x_parts a_x_edge a_x_far a_x_lost : Nat) (x_isKept : Int32) (x_host : Int32) (x_below : Int32) (x_bestTarget : Int32) (x_high : Int64) (x_low : Int64) (x_whole : Int64) (x_tryHigh : Int64) (x_tryLow : Int64) (x_lots : Int32) (x_now : (Nat → Int32)) (p1 : Int32) (p2 : Int32) (q : Int32 × (Nat → Int32)) (h : f_X11_haunt x_now p1 p2 = some q) : gMet l yX11_haunt wsX11_haunt rm_X11_haunt [.ref a_x, .int p1, .int p2] (w_X11_haunt cI cJ cZ cG a_x a_x_now a_x_kept a_x_sortOf a_x_sizeOf a_x_sheets a_x_parts a_x_edge a_x_far a_x_lost x_isKept x_host x_below x_bestTarget x_high x_low x_whole x_tryHigh x_tryLow x_lots x_now) (w_X11_haunt cI cJ cZ cG a_x a_x_now a_x_kept a_x_sortOf a_x_sizeOf a_x_sheets a_x_parts a_x_edge a_x_far a_x_lost x_isKept x_host x_below x_bestTarget x_high x_low x_whole x_tryHigh x_tryLow x_lots q.2) (some (.int q.1)) D cI cJ cZ cG := by
  refine g_enter (cc := cX11_haunt) (nL := 4) (ret := (some .int)) (by decide) rfl (Nat.le_of_ble_eq_true rfl) ?_
  intro p e s m below meth c A C H locs ls hP hD hS hl
  obtain ⟨hx, hb, hr, hml, hown, hts, hlk, hgk, hA⟩ := id C
  have hK := hgk.1
  have hl : lv_has ls 4 [(0, .ref a_x), (1, .int p1), (2, .int p2)] := hl
  unfold f_X11_haunt at h
  refine lv_aload_n hx hb dX11_haunt_0 rfl (lv_at hl 0 rfl) ?_
  refine va_get (D := D) (ci := 11) (v := .ref a_x_now) (C := RX11) (T := TX11) (N := 19) hx hb hts in_X11_haunt_X11 hown hK hP 0 rfl rfl 0 (by decide) (hts _ mb_X11_haunt_0) (fun _ h9 => h9) rfl dX11_haunt_1 ?_
  refine lv_iconst (v := 4) hx hb dX11_haunt_4 (by decide) ?_
  refine va_iald hx hb hK hP 1 0 rfl rfl (g_lit (i := 4) (n := 194) (by decide)) dX11_haunt_5 ?_
  refine W.eq (g2 := F0 m 6 ls [.int (x_now 4)]) rfl ?_
  refine lv_istore_n (lv' := [(3, .int (x_now 4)), (0, .ref a_x), (1, .int p1), (2, .int p2)]) hx hb dX11_haunt_6 rfl hl (by decide) rfl (fun ls hl => ?_)
  refine lv_iload_n hx hb dX11_haunt_7 rfl (lv_at hl 2 rfl) ?_
  refine lv_iconst (v := 1) hx hb dX11_haunt_8 (by decide) ?_
  refine lv_sipush (v := 1023) hx hb dX11_haunt_9 (by decide) ?_
  refine g_callS0 (index := 47) (maxL := 3) (n := 3) (As := [.int p1, .int 1, .int 1023]) (rest := []) (st1 := [.int (f_X11_within p1 1 1023)]) C hP hS hl.1 (c_X11_within l D cI cJ cZ cG p1 1 1023 _ rfl) gX11_haunt_X11_within rfl rfl rfl (by decide +kernel) ⟨Nat.le_of_ble_eq_true rfl, Nat.le_of_ble_eq_true rfl⟩ rfl (Nat.le_of_ble_eq_true rfl) rfl dX11_haunt_12 rfl (fun H locs hP hS => ?_)
  refine lv_if_eq (tgt := 35) hx hb dX11_haunt_15 (by decide) (fun c1 => ?_) (fun c1 => ?_)
  · have h := ift c1 h
    refine lv_ldc (v := (-1000000002)) hx hb hown (hts _ mb_X11_haunt_1) dX11_haunt_35 ?_
    obtain rfl := Option.some.inj h
    exact g_iret C hP hD hS dX11_haunt_37
  · have h := iff_ c1 h
    refine lv_iload_n hx hb dX11_haunt_18 rfl (lv_at hl 3 rfl) ?_
    refine lv_iconst (v := 1) hx hb dX11_haunt_19 (by decide) ?_
    refine lv_sipush (v := 1000) hx hb dX11_haunt_20 (by decide) ?_
    refine g_callS0 (index := 47) (maxL := 3) (n := 3) (As := [.int p2, .int 1, .int 1000]) (rest := []) (st1 := [.int (f_X11_within p2 1 1000)]) C hP hS hl.1 (c_X11_within l D cI cJ cZ cG p2 1 1000 _ rfl) gX11_haunt_X11_within rfl rfl rfl (by decide +kernel) ⟨Nat.le_of_ble_eq_true rfl, Nat.le_of_ble_eq_true rfl⟩ rfl (Nat.le_of_ble_eq_true rfl) rfl dX11_haunt_23 rfl (fun H locs hP hS => ?_)
    refine lv_if_eq (tgt := 35) hx hb dX11_haunt_26 (by decide) (fun c2 => ?_) (fun c2 => ?_)
    · have h := ift c2 h
      refine lv_ldc (v := (-1000000002)) hx hb hown (hts _ mb_X11_haunt_1) dX11_haunt_35 ?_
      obtain rfl := Option.some.inj h
      exact g_iret C hP hD hS dX11_haunt_37
    · have h := iff_ c2 h
      refine lv_iload_n hx hb dX11_haunt_29 rfl (lv_at hl 0 rfl) ?_
      refine lv_bipush (v := 20) hx hb dX11_haunt_30 (by decide) ?_
      refine lv_icmp_ne (tgt := 38) hx hb dX11_haunt_32 (by decide) (fun c3 => ?_) (fun c3 => ?_)
      · have h := iff_ c3 h
        refine lv_aload_n hx hb dX11_haunt_38 rfl (lv_at hl 1 rfl) ?_
        refine va_get (D := D) (ci := 11) (v := .ref a_x_now) (C := RX11) (T := TX11) (N := 19) hx hb hts in_X11_haunt_X11 hown hK hP 0 rfl rfl 0 (by decide) (hts _ mb_X11_haunt_0) (fun _ h9 => h9) rfl dX11_haunt_39 ?_
        refine lv_sipush (v := 154) hx hb dX11_haunt_42 (by decide) ?_
        refine lv_iload_n hx hb dX11_haunt_45 rfl (lv_at hl 0 rfl) ?_
        refine lv_iadd hx hb dX11_haunt_46 ?_
        refine lv_iload_n hx hb dX11_haunt_47 rfl (lv_at hl 2 rfl) ?_
        obtain ⟨i4, h⟩ := gI_some h
        refine va_iast hx hb hK hP hD hS 1 0 rfl rfl i4 dX11_haunt_48 (fun H locs hP hD hS => ?_)
        have hP : va_P D vwCl (w_X11_haunt cI cJ cZ cG a_x a_x_now a_x_kept a_x_sortOf a_x_sizeOf a_x_sheets a_x_parts a_x_edge a_x_far a_x_lost x_isKept x_host x_below x_bestTarget x_high x_low x_whole x_tryHigh x_tryLow x_lots (upd x_now (154 + (x_now 4)).toNatClampNeg p1)) H := hP
        have hD : va_D A (w_X11_haunt cI cJ cZ cG a_x a_x_now a_x_kept a_x_sortOf a_x_sizeOf a_x_sheets a_x_parts a_x_edge a_x_far a_x_lost x_isKept x_host x_below x_bestTarget x_high x_low x_whole x_tryHigh x_tryLow x_lots (upd x_now (154 + (x_now 4)).toNatClampNeg p1)) := hD
        refine lv_aload_n hx hb dX11_haunt_49 rfl (lv_at hl 1 rfl) ?_
        refine va_get (D := D) (ci := 11) (v := .ref a_x_now) (C := RX11) (T := TX11) (N := 19) hx hb hts in_X11_haunt_X11 hown hK hP 0 rfl rfl 0 (by decide) (hts _ mb_X11_haunt_0) (fun _ h9 => h9) rfl dX11_haunt_50 ?_
        refine lv_sipush (v := 174) hx hb dX11_haunt_53 (by decide) ?_
        refine lv_iload_n hx hb dX11_haunt_56 rfl (lv_at hl 0 rfl) ?_
        refine lv_iadd hx hb dX11_haunt_57 ?_
        refine lv_iload_n hx hb dX11_haunt_58 rfl (lv_at hl 3 rfl) ?_
        obtain ⟨i5, h⟩ := gI_some h
        refine va_iast hx hb hK hP hD hS 1 0 rfl rfl i5 dX11_haunt_59 (fun H locs hP hD hS => ?_)
        have hP : va_P D vwCl (w_X11_haunt cI cJ cZ cG a_x a_x_now a_x_kept a_x_sortOf a_x_sizeOf a_x_sheets a_x_parts a_x_edge a_x_far a_x_lost x_isKept x_host x_below x_bestTarget x_high x_low x_whole x_tryHigh x_tryLow x_lots (upd (upd x_now (154 + (x_now 4)).toNatClampNeg p1) (174 + (x_now 4)).toNatClampNeg p2)) H := hP
        have hD : va_D A (w_X11_haunt cI cJ cZ cG a_x a_x_now a_x_kept a_x_sortOf a_x_sizeOf a_x_sheets a_x_parts a_x_edge a_x_far a_x_lost x_isKept x_host x_below x_bestTarget x_high x_low x_whole x_tryHigh x_tryLow x_lots (upd (upd x_now (154 + (x_now 4)).toNatClampNeg p1) (174 + (x_now 4)).toNatClampNeg p2)) := hD
        refine lv_aload_n hx hb dX11_haunt_60 rfl (lv_at hl 1 rfl) ?_
        refine va_get (D := D) (ci := 11) (v := .ref a_x_now) (C := RX11) (T := TX11) (N := 19) hx hb hts in_X11_haunt_X11 hown hK hP 0 rfl rfl 0 (by decide) (hts _ mb_X11_haunt_0) (fun _ h9 => h9) rfl dX11_haunt_61 ?_
        refine lv_iconst (v := 4) hx hb dX11_haunt_64 (by decide) ?_
        refine lv_dup2_11 hx hb dX11_haunt_65 rfl rfl ?_
        refine va_iald hx hb hK hP 1 0 rfl rfl (g_lit (i := 4) (n := 194) (by decide)) dX11_haunt_66 ?_
        refine W.eq (g2 := F0 m 67 ls [.int ((upd (upd x_now (154 + (x_now 4)).toNatClampNeg p1) (174 + (x_now 4)).toNatClampNeg p2) 4), .int 4, .ref a_x_now]) rfl ?_
        refine lv_iconst (v := 1) hx hb dX11_haunt_67 (by decide) ?_
        refine lv_iadd hx hb dX11_haunt_68 ?_
        refine va_iast hx hb hK hP hD hS 1 0 rfl rfl (g_lit (i := 4) (n := 194) (by decide)) dX11_haunt_69 (fun H locs hP hD hS => ?_)
        have hP : va_P D vwCl (w_X11_haunt cI cJ cZ cG a_x a_x_now a_x_kept a_x_sortOf a_x_sizeOf a_x_sheets a_x_parts a_x_edge a_x_far a_x_lost x_isKept x_host x_below x_bestTarget x_high x_low x_whole x_tryHigh x_tryLow x_lots (upd (upd (upd x_now (154 + (x_now 4)).toNatClampNeg p1) (174 + (x_now 4)).toNatClampNeg p2) 4 (((upd (upd x_now (154 + (x_now 4)).toNatClampNeg p1) (174 + (x_now 4)).toNatClampNeg p2) 4) + 1))) H := hP
        have hD : va_D A (w_X11_haunt cI cJ cZ cG a_x a_x_now a_x_kept a_x_sortOf a_x_sizeOf a_x_sheets a_x_parts a_x_edge a_x_far a_x_lost x_isKept x_host x_below x_bestTarget x_high x_low x_whole x_tryHigh x_tryLow x_lots (upd (upd (upd x_now (154 + (x_now 4)).toNatClampNeg p1) (174 + (x_now 4)).toNatClampNeg p2) 4 (((upd (upd x_now (154 + (x_now 4)).toNatClampNeg p1) (174 + (x_now 4)).toNatClampNeg p2) 4) + 1))) := hD
        refine lv_iload_n hx hb dX11_haunt_70 rfl (lv_at hl 0 rfl) ?_
        obtain rfl := Option.some.inj h
        exact g_iret C hP hD hS dX11_haunt_71
      · have h := ift c3 h
        refine lv_ldc (v := (-1000000002)) hx hb hown (hts _ mb_X11_haunt_1) dX11_haunt_35 ?_
        obtain rfl := Option.some.inj h
        exact g_iret C hP hD hS dX11_haunt_37
theorem in_X11_caughtBy_X11 : ∀ w ∈ wsX110, w ∈ wsX11_caughtBy := by decide +kernel
theorem mb_X11_caughtBy_0 : Cond.fieldLink RX11 9 "GuardDeskModel" "now" "[I" ∈ wsX11_caughtBy := List.mem_of_getElem? (i := 1) rfl
set_option maxRecDepth 100000 in
set_option maxHeartbeats 4000000 in
theorem t_X11_caughtBy_b4 (C : cx D cI cJ cZ cG A cX11_caughtBy 4 (some .int) RX11 wsX11_caughtBy p s m args meth c) (a_x a_x_now a_x_kept a_x_sortOf a_x_sizeOf a_x_sheets a_x_parts a_x_edge a_x_far a_x_lost : Nat) (x_isKept : Int32) (x_host : Int32) (x_below : Int32) (x_bestTarget : Int32) (x_high : Int64) (x_low : Int64) (x_whole : Int64) (x_tryHigh : Int64) (x_tryLow : Int64) (x_lots : Int32) (x_now : (Nat → Int32)) (N : Nat) (q : Int32) (v1 : Int32) : ∀ (n : Nat) (v2 : Int32) (v3 : Int32), f_X11_caughtBy_b4 N x_now v1 n v2 v3 = some q → WB p l e rm_X11_caughtBy s m args below meth c (MQ below (Qg D (some (.int q)) (w_X11_caughtBy cI cJ cZ cG a_x a_x_now a_x_kept a_x_sortOf a_x_sizeOf a_x_sheets a_x_parts a_x_edge a_x_far a_x_lost x_isKept x_host x_below x_bestTarget x_high x_low x_whole x_tryHigh x_tryLow x_lots x_now) A) args s 0 0 A) D A 4 (w_X11_caughtBy cI cJ cZ cG a_x a_x_now a_x_kept a_x_sortOf a_x_sizeOf a_x_sheets a_x_parts a_x_edge a_x_far a_x_lost x_isKept x_host x_below x_bestTarget x_high x_low x_whole x_tryHigh x_tryLow x_lots x_now) [(0, .ref a_x), (1, .int v1), (2, .int v2), (3, .int v3)] [] 4 := by
  obtain ⟨hx, hb, hr, hml, hown, hts, hlk, hgk, hA⟩ := id C
  have hK := hgk.1
  intro n
  induction n with
  | zero => intro v2 v3 h; cases h
  | succ n hk_4 =>
    intro v2 v3 h
    have h : g_X11_caughtBy_b4 N x_now v1 (f_X11_caughtBy_b4 N x_now v1 n) v2 v3 = some q := h
    generalize f_X11_caughtBy_b4 N x_now v1 n = k_4 at h hk_4
    unfold g_X11_caughtBy_b4 at h
    intro H locs ls hP hD hS hl
    refine lv_iload_n hx hb dX11_caughtBy_4 rfl (lv_at hl 3 rfl) ?_
    refine lv_aload_n hx hb dX11_caughtBy_5 rfl (lv_at hl 0 rfl) ?_
    refine va_get (D := D) (ci := 11) (v := .ref a_x_now) (C := RX11) (T := TX11) (N := 19) hx hb hts in_X11_caughtBy_X11 hown hK hP 0 rfl rfl 0 (by decide) (hts _ mb_X11_caughtBy_0) (fun _ h9 => h9) rfl dX11_caughtBy_6 ?_
    refine lv_iconst (v := 4) hx hb dX11_caughtBy_9 (by decide) ?_
    refine va_iald hx hb hK hP 1 0 rfl rfl (g_lit (i := 4) (n := 194) (by decide)) dX11_caughtBy_10 ?_
    refine W.eq (g2 := F0 m 11 ls [.int (x_now 4), .int v3]) rfl ?_
    refine lv_icmp_ge (tgt := 52) hx hb dX11_caughtBy_11 (by decide) (fun c1 => ?_) (fun c1 => ?_)
    · have h := ift c1 h
      refine lv_iload_n hx hb dX11_caughtBy_52 rfl (lv_at hl 2 rfl) ?_
      obtain rfl := Option.some.inj h
      exact g_iret C hP hD hS dX11_caughtBy_53
    · have h := iff_ c1 h
      refine lv_iload_n hx hb dX11_caughtBy_14 rfl (lv_at hl 2 rfl) ?_
      refine lv_aload_n hx hb dX11_caughtBy_15 rfl (lv_at hl 0 rfl) ?_
      refine va_get (D := D) (ci := 11) (v := .ref a_x_now) (C := RX11) (T := TX11) (N := 19) hx hb hts in_X11_caughtBy_X11 hown hK hP 0 rfl rfl 0 (by decide) (hts _ mb_X11_caughtBy_0) (fun _ h9 => h9) rfl dX11_caughtBy_16 ?_
      refine lv_sipush (v := 154) hx hb dX11_caughtBy_19 (by decide) ?_
      refine lv_iload_n hx hb dX11_caughtBy_22 rfl (lv_at hl 3 rfl) ?_
      refine lv_iadd hx hb dX11_caughtBy_23 ?_
      obtain ⟨i2, h⟩ := gI_some h
      refine va_iald hx hb hK hP 1 0 rfl rfl i2 dX11_caughtBy_24 ?_
      refine lv_iload_n hx hb dX11_caughtBy_25 rfl (lv_at hl 1 rfl) ?_
      refine lv_iand hx hb dX11_caughtBy_26 ?_
      refine lv_if_eq (tgt := 43) hx hb dX11_caughtBy_27 (by decide) (fun c3 => ?_) (fun c3 => ?_)
      · have h := ift c3 h
        refine lv_iconst (v := 0) hx hb dX11_caughtBy_43 (by decide) ?_
        refine lv_iadd hx hb dX11_caughtBy_44 ?_
        refine lv_istore_n (lv' := [(2, .int (v2 + 0)), (0, .ref a_x), (1, .int v1), (3, .int v3)]) hx hb dX11_caughtBy_45 rfl hl (by decide) rfl (fun ls hl => ?_)
        refine lv_iinc (v := v3 + 1) (lv' := [(3, .int (v3 + 1)), (2, .int (v2 + 0)), (0, .ref a_x), (1, .int v1)]) hx hb dX11_caughtBy_46 hl (k := 3) rfl rfl (by decide) rfl (fun ls hl => ?_)
        refine lv_goto (tgt := 4) hx hb dX11_caughtBy_49 (by decide) ?_
        exact hk_4 (v2 + 0) (v3 + 1) h H locs ls hP hD hS (lv_sub hl [2, 3, 1, 0] rfl)
      · have h := iff_ c3 h
        refine lv_aload_n hx hb dX11_caughtBy_30 rfl (lv_at hl 0 rfl) ?_
        refine va_get (D := D) (ci := 11) (v := .ref a_x_now) (C := RX11) (T := TX11) (N := 19) hx hb hts in_X11_caughtBy_X11 hown hK hP 0 rfl rfl 0 (by decide) (hts _ mb_X11_caughtBy_0) (fun _ h9 => h9) rfl dX11_caughtBy_31 ?_
        refine lv_sipush (v := 174) hx hb dX11_caughtBy_34 (by decide) ?_
        refine lv_iload_n hx hb dX11_caughtBy_37 rfl (lv_at hl 3 rfl) ?_
        refine lv_iadd hx hb dX11_caughtBy_38 ?_
        obtain ⟨i4, h⟩ := gI_some h
        refine va_iald hx hb hK hP 1 0 rfl rfl i4 dX11_caughtBy_39 ?_
        refine lv_goto (tgt := 44) hx hb dX11_caughtBy_40 (by decide) ?_
        refine lv_iadd hx hb dX11_caughtBy_44 ?_
        refine lv_istore_n (lv' := [(2, .int (v2 + (x_now (174 + v3).toNatClampNeg))), (0, .ref a_x), (1, .int v1), (3, .int v3)]) hx hb dX11_caughtBy_45 rfl hl (by decide) rfl (fun ls hl => ?_)
        refine lv_iinc (v := v3 + 1) (lv' := [(3, .int (v3 + 1)), (2, .int (v2 + (x_now (174 + v3).toNatClampNeg))), (0, .ref a_x), (1, .int v1)]) hx hb dX11_caughtBy_46 hl (k := 3) rfl rfl (by decide) rfl (fun ls hl => ?_)
        refine lv_goto (tgt := 4) hx hb dX11_caughtBy_49 (by decide) ?_
        exact hk_4 (v2 + (x_now (174 + v3).toNatClampNeg)) (v3 + 1) h H locs ls hP hD hS (lv_sub hl [2, 3, 1, 0] rfl)
set_option maxRecDepth 100000 in
set_option maxHeartbeats 4000000 in
theorem c_X11_caughtBy (l : Launch) (D : va_G) (cI cJ cZ cG : ClassId) (a_x a_x_now a_x_kept a_x_sortOf a_x_sizeOf a_x_sheets a_x_parts a_x_edge a_x_far a_x_lost : Nat) (x_isKept : Int32) (x_host : Int32) (x_below : Int32) (x_bestTarget : Int32) (x_high : Int64) (x_low : Int64) (x_whole : Int64) (x_tryHigh : Int64) (x_tryLow : Int64) (x_lots : Int32) (x_now : (Nat → Int32)) (p1 : Int32) (N : Nat) (q : Int32) (h : f_X11_caughtBy N x_now p1 = some q) : gMet l yX11_caughtBy wsX11_caughtBy rm_X11_caughtBy [.ref a_x, .int p1] (w_X11_caughtBy cI cJ cZ cG a_x a_x_now a_x_kept a_x_sortOf a_x_sizeOf a_x_sheets a_x_parts a_x_edge a_x_far a_x_lost x_isKept x_host x_below x_bestTarget x_high x_low x_whole x_tryHigh x_tryLow x_lots x_now) (w_X11_caughtBy cI cJ cZ cG a_x a_x_now a_x_kept a_x_sortOf a_x_sizeOf a_x_sheets a_x_parts a_x_edge a_x_far a_x_lost x_isKept x_host x_below x_bestTarget x_high x_low x_whole x_tryHigh x_tryLow x_lots x_now) (some (.int q)) D cI cJ cZ cG := by
  refine g_enter (cc := cX11_caughtBy) (nL := 4) (ret := (some .int)) (by decide) rfl (Nat.le_of_ble_eq_true rfl) ?_
  intro p e s m below meth c A C H locs ls hP hD hS hl
  obtain ⟨hx, hb, hr, hml, hown, hts, hlk, hgk, hA⟩ := id C
  have hK := hgk.1
  have hl : lv_has ls 4 [(0, .ref a_x), (1, .int p1)] := hl
  unfold f_X11_caughtBy at h
  refine lv_iconst (v := 0) hx hb dX11_caughtBy_0 (by decide) ?_
  refine lv_istore_n (lv' := [(2, .int 0), (0, .ref a_x), (1, .int p1)]) hx hb dX11_caughtBy_1 rfl hl (by decide) rfl (fun ls hl => ?_)
  refine lv_iconst (v := 0) hx hb dX11_caughtBy_2 (by decide) ?_
  refine lv_istore_n (lv' := [(3, .int 0), (2, .int 0), (0, .ref a_x), (1, .int p1)]) hx hb dX11_caughtBy_3 rfl hl (by decide) rfl (fun ls hl => ?_)
  exact t_X11_caughtBy_b4 C a_x a_x_now a_x_kept a_x_sortOf a_x_sizeOf a_x_sheets a_x_parts a_x_edge a_x_far a_x_lost x_isKept x_host x_below x_bestTarget x_high x_low x_whole x_tryHigh x_tryLow x_lots x_now N q p1 N 0 0 h H locs ls hP hD hS (lv_sub hl [2, 3, 1, 0] rfl)
theorem mb_X11_caught_0 : Cond.constant RX11 55 (-1000000002) ∈ wsX11_caught := List.mem_of_getElem? (i := 1) rfl
set_option maxRecDepth 100000 in
set_option maxHeartbeats 4000000 in
theorem c_X11_caught (l : Launch) (D : va_G) (cI cJ cZ cG : ClassId) (a_x a_x_now a_x_kept a_x_sortOf a_x_sizeOf a_x_sheets a_x_parts a_x_edge a_x_far a_x_lost : Nat) (x_isKept : Int32) (x_host : Int32) (x_below : Int32) (x_bestTarget : Int32) (x_high : Int64) (x_low : Int64) (x_whole : Int64) (x_tryHigh : Int64) (x_tryLow : Int64) (x_lots : Int32) (x_now : (Nat → Int32)) (p1 : Int32) (N : Nat) (q : Int32) (h : f_X11_caught N x_now p1 = some q) : gMet l yX11_caught wsX11_caught rm_X11_caught [.ref a_x, .int p1] (w_X11_caught cI cJ cZ cG a_x a_x_now a_x_kept a_x_sortOf a_x_sizeOf a_x_sheets a_x_parts a_x_edge a_x_far a_x_lost x_isKept x_host x_below x_bestTarget x_high x_low x_whole x_tryHigh x_tryLow x_lots x_now) (w_X11_caught cI cJ cZ cG a_x a_x_now a_x_kept a_x_sortOf a_x_sizeOf a_x_sheets a_x_parts a_x_edge a_x_far a_x_lost x_isKept x_host x_below x_bestTarget x_high x_low x_whole x_tryHigh x_tryLow x_lots x_now) (some (.int q)) D cI cJ cZ cG := by
  refine g_enter (cc := cX11_caught) (nL := 2) (ret := (some .int)) (by decide) rfl (Nat.le_of_ble_eq_true rfl) ?_
  intro p e s m below meth c A C H locs ls hP hD hS hl
  obtain ⟨hx, hb, hr, hml, hown, hts, hlk, hgk, hA⟩ := id C
  have hK := hgk.1
  have hl : lv_has ls 2 [(0, .ref a_x), (1, .int p1)] := hl
  unfold f_X11_caught at h
  refine lv_iload_n hx hb dX11_caught_0 rfl (lv_at hl 1 rfl) ?_
  refine g_callS0 (index := 168) (maxL := 1) (n := 1) (As := [.int p1]) (rest := []) (st1 := [.int (f_X11_isSet p1)]) C hP hS hl.1 (c_X11_isSet l D cI cJ cZ cG p1 _ rfl) gX11_caught_X11_isSet rfl rfl rfl (by decide +kernel) ⟨Nat.le_of_ble_eq_true rfl, Nat.le_of_ble_eq_true rfl⟩ rfl (Nat.le_of_ble_eq_true rfl) rfl dX11_caught_1 rfl (fun H locs hP hS => ?_)
  refine lv_if_eq (tgt := 15) hx hb dX11_caught_4 (by decide) (fun c1 => ?_) (fun c1 => ?_)
  · have h := ift c1 h
    refine lv_ldc (v := (-1000000002)) hx hb hown (hts _ mb_X11_caught_0) dX11_caught_15 ?_
    obtain rfl := Option.some.inj h
    exact g_iret C hP hD hS dX11_caught_17
  · have h := iff_ c1 h
    refine lv_aload_n hx hb dX11_caught_7 rfl (lv_at hl 0 rfl) ?_
    refine lv_iload_n hx hb dX11_caught_8 rfl (lv_at hl 1 rfl) ?_
    obtain ⟨q2, e2, h⟩ := bd_some h
    refine g_callV (index := 171) (maxL := 4) (n := 1) (As := [.int p1]) (rest := []) (st1 := [.int q2]) (C1 := RX11) (T1 := TX11) (N1 := 19) (ws2 := (w_X11_caught cI cJ cZ cG a_x a_x_now a_x_kept a_x_sortOf a_x_sizeOf a_x_sheets a_x_parts a_x_edge a_x_far a_x_lost x_isKept x_host x_below x_bestTarget x_high x_low x_whole x_tryHigh x_tryLow x_lots x_now)) C hP hD hS hl.1 11 0 (c_X11_caughtBy l D cI cJ cZ cG a_x a_x_now a_x_kept a_x_sortOf a_x_sizeOf a_x_sheets a_x_parts a_x_edge a_x_far a_x_lost x_isKept x_host x_below x_bestTarget x_high x_low x_whole x_tryHigh x_tryLow x_lots x_now p1 N q2 e2) gX11_caught_X11_caughtBy rfl rfl rfl (by decide +kernel) ⟨Nat.le_of_ble_eq_true rfl, Nat.le_of_ble_eq_true rfl⟩ rfl rfl rfl (Nat.le_of_ble_eq_true rfl) rfl dX11_caught_9 [0, 1] [] [0, 1] rfl rfl rfl rfl (by decide) rfl rfl rfl (fun H locs hP hD hS => ?_)
    refine lv_goto (tgt := 17) hx hb dX11_caught_12 (by decide) ?_
    obtain rfl := Option.some.inj h
    exact g_iret C hP hD hS dX11_caught_17
set_option maxRecDepth 100000 in
set_option maxHeartbeats 4000000 in
theorem t_X11_trap_b12 (C : cx D cI cJ cZ cG A cX11_trap 5 (some .int) RX11 wsX11_trap p s m args meth c) (a_x a_x_now a_x_kept a_x_sortOf a_x_sizeOf a_x_sheets a_x_parts a_x_edge a_x_far a_x_lost : Nat) (x_isKept : Int32) (x_host : Int32) (x_below : Int32) (x_bestTarget : Int32) (x_high : Int64) (x_low : Int64) (x_whole : Int64) (x_tryHigh : Int64) (x_tryLow : Int64) (x_lots : Int32) (x_now : (Nat → Int32)) (N : Nat) (q : Int32) (v1 : Int32) (v3 : Int32) (k_4 : Int32 → Int32 → Option (Int32)) (hk_4 : ∀ (v2 : Int32) (v3 : Int32), k_4 v2 v3 = some q → WB p l e rm_X11_trap s m args below meth c (MQ below (Qg D (some (.int q)) (w_X11_trap cI cJ cZ cG a_x a_x_now a_x_kept a_x_sortOf a_x_sizeOf a_x_sheets a_x_parts a_x_edge a_x_far a_x_lost x_isKept x_host x_below x_bestTarget x_high x_low x_whole x_tryHigh x_tryLow x_lots x_now) A) args s 0 0 A) D A 5 (w_X11_trap cI cJ cZ cG a_x a_x_now a_x_kept a_x_sortOf a_x_sizeOf a_x_sheets a_x_parts a_x_edge a_x_far a_x_lost x_isKept x_host x_below x_bestTarget x_high x_low x_whole x_tryHigh x_tryLow x_lots x_now) [(0, .ref a_x), (1, .int v1), (2, .int v2), (3, .int v3)] [] 4) : ∀ (n : Nat) (v2 : Int32) (v4 : Int32), f_X11_trap_b12 N x_now k_4 v1 v3 n v2 v4 = some q → WB p l e rm_X11_trap s m args below meth c (MQ below (Qg D (some (.int q)) (w_X11_trap cI cJ cZ cG a_x a_x_now a_x_kept a_x_sortOf a_x_sizeOf a_x_sheets a_x_parts a_x_edge a_x_far a_x_lost x_isKept x_host x_below x_bestTarget x_high x_low x_whole x_tryHigh x_tryLow x_lots x_now) A) args s 0 0 A) D A 5 (w_X11_trap cI cJ cZ cG a_x a_x_now a_x_kept a_x_sortOf a_x_sizeOf a_x_sheets a_x_parts a_x_edge a_x_far a_x_lost x_isKept x_host x_below x_bestTarget x_high x_low x_whole x_tryHigh x_tryLow x_lots x_now) [(0, .ref a_x), (1, .int v1), (2, .int v2), (3, .int v3), (4, .int v4)] [] 12 := by
  obtain ⟨hx, hb, hr, hml, hown, hts, hlk, hgk, hA⟩ := id C
  have hK := hgk.1
  intro n
  induction n with
  | zero => intro v2 v4 h; cases h
  | succ n hk_12 =>
    intro v2 v4 h
    have h : g_X11_trap_b12 N x_now k_4 v1 v3 (f_X11_trap_b12 N x_now k_4 v1 v3 n) v2 v4 = some q := h
    generalize f_X11_trap_b12 N x_now k_4 v1 v3 n = k_12 at h hk_12
    unfold g_X11_trap_b12 at h
    intro H locs ls hP hD hS hl
    refine lv_iload hx hb dX11_trap_12 (lv_at hl 4 rfl) ?_
    refine lv_sipush (v := 1024) hx hb dX11_trap_14 (by decide) ?_
    refine lv_icmp_ge (tgt := 52) hx hb dX11_trap_17 (by decide) (fun c1 => ?_) (fun c1 => ?_)
    · have h := ift c1 h
      refine lv_iinc (v := v3 + 1) (lv' := [(3, .int (v3 + 1)), (0, .ref a_x), (1, .int v1), (2, .int v2), (4, .int v4)]) hx hb dX11_trap_52 hl (k := 3) rfl rfl (by decide) rfl (fun ls hl => ?_)
      refine lv_goto (tgt := 4) hx hb dX11_trap_55 (by decide) ?_
      exact hk_4 v2 (v3 + 1) h H locs ls hP hD hS (lv_sub hl [1, 2, 3, 0] rfl)
    · have h := iff_ c1 h
      refine lv_iload hx hb dX11_trap_20 (lv_at hl 4 rfl) ?_
      obtain ⟨q2, e2, h⟩ := bd_some h
      refine g_callS0 (index := 150) (maxL := 3) (n := 1) (As := [.int v4]) (rest := []) (st1 := [.int q2]) C hP hS hl.1 (c_X11_many l D cI cJ cZ cG v4 N q2 e2) gX11_trap_X11_many rfl rfl rfl (by decide +kernel) ⟨Nat.le_of_ble_eq_true rfl, Nat.le_of_ble_eq_true rfl⟩ rfl (Nat.le_of_ble_eq_true rfl) rfl dX11_trap_22 rfl (fun H locs hP hS => ?_)
      refine lv_iload_n hx hb dX11_trap_25 rfl (lv_at hl 3 rfl) ?_
      refine lv_icmp_ne (tgt := 46) hx hb dX11_trap_26 (by decide) (fun c3 => ?_) (fun c3 => ?_)
      · have h := iff_ c3 h
        refine lv_iinc (v := v4 + 1) (lv' := [(4, .int (v4 + 1)), (0, .ref a_x), (1, .int v1), (2, .int v2), (3, .int v3)]) hx hb dX11_trap_46 hl (k := 4) rfl rfl (by decide) rfl (fun ls hl => ?_)
        refine lv_goto (tgt := 12) hx hb dX11_trap_49 (by decide) ?_
        exact hk_12 v2 (v4 + 1) h H locs ls hP hD hS (lv_sub hl [1, 2, 3, 4, 0] rfl)
      · have h := ift c3 h
        refine lv_aload_n hx hb dX11_trap_29 rfl (lv_at hl 0 rfl) ?_
        refine lv_iload hx hb dX11_trap_30 (lv_at hl 4 rfl) ?_
        obtain ⟨q4, e4, h⟩ := bd_some h
        refine g_callV (index := 171) (maxL := 4) (n := 1) (As := [.int v4]) (rest := []) (st1 := [.int q4]) (C1 := RX11) (T1 := TX11) (N1 := 19) (ws2 := (w_X11_trap cI cJ cZ cG a_x a_x_now a_x_kept a_x_sortOf a_x_sizeOf a_x_sheets a_x_parts a_x_edge a_x_far a_x_lost x_isKept x_host x_below x_bestTarget x_high x_low x_whole x_tryHigh x_tryLow x_lots x_now)) C hP hD hS hl.1 11 0 (c_X11_caughtBy l D cI cJ cZ cG a_x a_x_now a_x_kept a_x_sortOf a_x_sizeOf a_x_sheets a_x_parts a_x_edge a_x_far a_x_lost x_isKept x_host x_below x_bestTarget x_high x_low x_whole x_tryHigh x_tryLow x_lots x_now v4 N q4 e4) gX11_trap_X11_caughtBy rfl rfl rfl (by decide +kernel) ⟨Nat.le_of_ble_eq_true rfl, Nat.le_of_ble_eq_true rfl⟩ rfl rfl rfl (Nat.le_of_ble_eq_true rfl) rfl dX11_trap_32 [0, 1] [] [0, 1] rfl rfl rfl rfl (by decide) rfl rfl rfl (fun H locs hP hD hS => ?_)
        refine lv_aload_n hx hb dX11_trap_35 rfl (lv_at hl 0 rfl) ?_
        refine lv_iload_n hx hb dX11_trap_36 rfl (lv_at hl 2 rfl) ?_
        obtain ⟨q5, e5, h⟩ := bd_some h
        refine g_callV (index := 171) (maxL := 4) (n := 1) (As := [.int v2]) (rest := [.int q4]) (st1 := [.int q5, .int q4]) (C1 := RX11) (T1 := TX11) (N1 := 19) (ws2 := (w_X11_trap cI cJ cZ cG a_x a_x_now a_x_kept a_x_sortOf a_x_sizeOf a_x_sheets a_x_parts a_x_edge a_x_far a_x_lost x_isKept x_host x_below x_bestTarget x_high x_low x_whole x_tryHigh x_tryLow x_lots x_now)) C hP hD hS hl.1 11 0 (c_X11_caughtBy l D cI cJ cZ cG a_x a_x_now a_x_kept a_x_sortOf a_x_sizeOf a_x_sheets a_x_parts a_x_edge a_x_far a_x_lost x_isKept x_host x_below x_bestTarget x_high x_low x_whole x_tryHigh x_tryLow x_lots x_now v2 N q5 e5) gX11_trap_X11_caughtBy rfl rfl rfl (by decide +kernel) ⟨Nat.le_of_ble_eq_true rfl, Nat.le_of_ble_eq_true rfl⟩ rfl rfl rfl (Nat.le_of_ble_eq_true rfl) rfl dX11_trap_37 [0, 1] [] [0, 1] rfl rfl rfl rfl (by decide) rfl rfl rfl (fun H locs hP hD hS => ?_)
        refine lv_icmp_le (tgt := 46) hx hb dX11_trap_40 (by decide) (fun c6 => ?_) (fun c6 => ?_)
        · have h := ift c6 h
          refine lv_iinc (v := v4 + 1) (lv' := [(4, .int (v4 + 1)), (0, .ref a_x), (1, .int v1), (2, .int v2), (3, .int v3)]) hx hb dX11_trap_46 hl (k := 4) rfl rfl (by decide) rfl (fun ls hl => ?_)
          refine lv_goto (tgt := 12) hx hb dX11_trap_49 (by decide) ?_
          exact hk_12 v2 (v4 + 1) h H locs ls hP hD hS (lv_sub hl [1, 2, 3, 4, 0] rfl)
        · have h := iff_ c6 h
          refine lv_iload hx hb dX11_trap_43 (lv_at hl 4 rfl) ?_
          refine lv_istore_n (lv' := [(2, .int v4), (0, .ref a_x), (1, .int v1), (3, .int v3), (4, .int v4)]) hx hb dX11_trap_45 rfl hl (by decide) rfl (fun ls hl => ?_)
          refine lv_iinc (v := v4 + 1) (lv' := [(4, .int (v4 + 1)), (2, .int v4), (0, .ref a_x), (1, .int v1), (3, .int v3)]) hx hb dX11_trap_46 hl (k := 4) rfl rfl (by decide) rfl (fun ls hl => ?_)
          refine lv_goto (tgt := 12) hx hb dX11_trap_49 (by decide) ?_
          exact hk_12 v4 (v4 + 1) h H locs ls hP hD hS (lv_sub hl [2, 3, 1, 4, 0] rfl)
set_option maxRecDepth 100000 in
set_option maxHeartbeats 4000000 in
theorem t_X11_trap_b4 (C : cx D cI cJ cZ cG A cX11_trap 5 (some .int) RX11 wsX11_trap p s m args meth c) (a_x a_x_now a_x_kept a_x_sortOf a_x_sizeOf a_x_sheets a_x_parts a_x_edge a_x_far a_x_lost : Nat) (x_isKept : Int32) (x_host : Int32) (x_below : Int32) (x_bestTarget : Int32) (x_high : Int64) (x_low : Int64) (x_whole : Int64) (x_tryHigh : Int64) (x_tryLow : Int64) (x_lots : Int32) (x_now : (Nat → Int32)) (N : Nat) (q : Int32) (v1 : Int32) : ∀ (n : Nat) (v2 : Int32) (v3 : Int32), f_X11_trap_b4 N x_now v1 n v2 v3 = some q → WB p l e rm_X11_trap s m args below meth c (MQ below (Qg D (some (.int q)) (w_X11_trap cI cJ cZ cG a_x a_x_now a_x_kept a_x_sortOf a_x_sizeOf a_x_sheets a_x_parts a_x_edge a_x_far a_x_lost x_isKept x_host x_below x_bestTarget x_high x_low x_whole x_tryHigh x_tryLow x_lots x_now) A) args s 0 0 A) D A 5 (w_X11_trap cI cJ cZ cG a_x a_x_now a_x_kept a_x_sortOf a_x_sizeOf a_x_sheets a_x_parts a_x_edge a_x_far a_x_lost x_isKept x_host x_below x_bestTarget x_high x_low x_whole x_tryHigh x_tryLow x_lots x_now) [(0, .ref a_x), (1, .int v1), (2, .int v2), (3, .int v3)] [] 4 := by
  obtain ⟨hx, hb, hr, hml, hown, hts, hlk, hgk, hA⟩ := id C
  have hK := hgk.1
  intro n
  induction n with
  | zero => intro v2 v3 h; cases h
  | succ n hk_4 =>
    intro v2 v3 h
    have h : g_X11_trap_b4 N x_now v1 (f_X11_trap_b4 N x_now v1 n) v2 v3 = some q := h
    generalize f_X11_trap_b4 N x_now v1 n = k_4 at h hk_4
    unfold g_X11_trap_b4 at h
    intro H locs ls hP hD hS hl
    refine lv_iload_n hx hb dX11_trap_4 rfl (lv_at hl 3 rfl) ?_
    refine lv_iload_n hx hb dX11_trap_5 rfl (lv_at hl 1 rfl) ?_
    refine lv_icmp_gt (tgt := 58) hx hb dX11_trap_6 (by decide) (fun c1 => ?_) (fun c1 => ?_)
    · have h := ift c1 h
      refine lv_iload_n hx hb dX11_trap_58 rfl (lv_at hl 2 rfl) ?_
      obtain rfl := Option.some.inj h
      exact g_iret C hP hD hS dX11_trap_59
    · have h := iff_ c1 h
      refine lv_iconst (v := 1) hx hb dX11_trap_9 (by decide) ?_
      refine lv_istore (lv' := [(4, .int 1), (0, .ref a_x), (1, .int v1), (2, .int v2), (3, .int v3)]) hx hb dX11_trap_10 hl (by decide) rfl (fun ls hl => ?_)
      exact t_X11_trap_b12 C a_x a_x_now a_x_kept a_x_sortOf a_x_sizeOf a_x_sheets a_x_parts a_x_edge a_x_far a_x_lost x_isKept x_host x_below x_bestTarget x_high x_low x_whole x_tryHigh x_tryLow x_lots x_now N q v1 v3 k_4 hk_4 N v2 1 h H locs ls hP hD hS (lv_sub hl [1, 2, 3, 4, 0] rfl)
set_option maxRecDepth 100000 in
set_option maxHeartbeats 4000000 in
theorem c_X11_trap (l : Launch) (D : va_G) (cI cJ cZ cG : ClassId) (a_x a_x_now a_x_kept a_x_sortOf a_x_sizeOf a_x_sheets a_x_parts a_x_edge a_x_far a_x_lost : Nat) (x_isKept : Int32) (x_host : Int32) (x_below : Int32) (x_bestTarget : Int32) (x_high : Int64) (x_low : Int64) (x_whole : Int64) (x_tryHigh : Int64) (x_tryLow : Int64) (x_lots : Int32) (x_now : (Nat → Int32)) (p1 : Int32) (N : Nat) (q : Int32) (h : f_X11_trap N x_now p1 = some q) : gMet l yX11_trap wsX11_trap rm_X11_trap [.ref a_x, .int p1] (w_X11_trap cI cJ cZ cG a_x a_x_now a_x_kept a_x_sortOf a_x_sizeOf a_x_sheets a_x_parts a_x_edge a_x_far a_x_lost x_isKept x_host x_below x_bestTarget x_high x_low x_whole x_tryHigh x_tryLow x_lots x_now) (w_X11_trap cI cJ cZ cG a_x a_x_now a_x_kept a_x_sortOf a_x_sizeOf a_x_sheets a_x_parts a_x_edge a_x_far a_x_lost x_isKept x_host x_below x_bestTarget x_high x_low x_whole x_tryHigh x_tryLow x_lots x_now) (some (.int q)) D cI cJ cZ cG := by
  refine g_enter (cc := cX11_trap) (nL := 5) (ret := (some .int)) (by decide) rfl (Nat.le_of_ble_eq_true rfl) ?_
  intro p e s m below meth c A C H locs ls hP hD hS hl
  obtain ⟨hx, hb, hr, hml, hown, hts, hlk, hgk, hA⟩ := id C
  have hK := hgk.1
  have hl : lv_has ls 5 [(0, .ref a_x), (1, .int p1)] := hl
  unfold f_X11_trap at h
  refine lv_iconst (v := 0) hx hb dX11_trap_0 (by decide) ?_
  refine lv_istore_n (lv' := [(2, .int 0), (0, .ref a_x), (1, .int p1)]) hx hb dX11_trap_1 rfl hl (by decide) rfl (fun ls hl => ?_)
  refine lv_iconst (v := 1) hx hb dX11_trap_2 (by decide) ?_
  refine lv_istore_n (lv' := [(3, .int 1), (2, .int 0), (0, .ref a_x), (1, .int p1)]) hx hb dX11_trap_3 rfl hl (by decide) rfl (fun ls hl => ?_)
  exact t_X11_trap_b4 C a_x a_x_now a_x_kept a_x_sortOf a_x_sizeOf a_x_sheets a_x_parts a_x_edge a_x_far a_x_lost x_isKept x_host x_below x_bestTarget x_high x_low x_whole x_tryHigh x_tryLow x_lots x_now N q p1 N 0 1 h H locs ls hP hD hS (lv_sub hl [2, 3, 1, 0] rfl)
theorem mb_X11_traps_0 : Cond.constant RX11 55 (-1000000002) ∈ wsX11_traps := List.mem_of_getElem? (i := 1) rfl
set_option maxRecDepth 100000 in
set_option maxHeartbeats 4000000 in
theorem c_X11_traps (l : Launch) (D : va_G) (cI cJ cZ cG : ClassId) (a_x a_x_now a_x_kept a_x_sortOf a_x_sizeOf a_x_sheets a_x_parts a_x_edge a_x_far a_x_lost : Nat) (x_isKept : Int32) (x_host : Int32) (x_below : Int32) (x_bestTarget : Int32) (x_high : Int64) (x_low : Int64) (x_whole : Int64) (x_tryHigh : Int64) (x_tryLow : Int64) (x_lots : Int32) (x_now : (Nat → Int32)) (p1 : Int32) (N : Nat) (q : Int32) (h : f_X11_traps N x_now p1 = some q) : gMet l yX11_traps wsX11_traps rm_X11_traps [.ref a_x, .int p1] (w_X11_traps cI cJ cZ cG a_x a_x_now a_x_kept a_x_sortOf a_x_sizeOf a_x_sheets a_x_parts a_x_edge a_x_far a_x_lost x_isKept x_host x_below x_bestTarget x_high x_low x_whole x_tryHigh x_tryLow x_lots x_now) (w_X11_traps cI cJ cZ cG a_x a_x_now a_x_kept a_x_sortOf a_x_sizeOf a_x_sheets a_x_parts a_x_edge a_x_far a_x_lost x_isKept x_host x_below x_bestTarget x_high x_low x_whole x_tryHigh x_tryLow x_lots x_now) (some (.int q)) D cI cJ cZ cG := by
  refine g_enter (cc := cX11_traps) (nL := 2) (ret := (some .int)) (by decide) rfl (Nat.le_of_ble_eq_true rfl) ?_
  intro p e s m below meth c A C H locs ls hP hD hS hl
  obtain ⟨hx, hb, hr, hml, hown, hts, hlk, hgk, hA⟩ := id C
  have hK := hgk.1
  have hl : lv_has ls 2 [(0, .ref a_x), (1, .int p1)] := hl
  unfold f_X11_traps at h
  refine lv_iload_n hx hb dX11_traps_0 rfl (lv_at hl 1 rfl) ?_
  refine lv_iconst (v := 0) hx hb dX11_traps_1 (by decide) ?_
  refine lv_bipush (v := 10) hx hb dX11_traps_2 (by decide) ?_
  refine g_callS0 (index := 47) (maxL := 3) (n := 3) (As := [.int p1, .int 0, .int 10]) (rest := []) (st1 := [.int (f_X11_within p1 0 10)]) C hP hS hl.1 (c_X11_within l D cI cJ cZ cG p1 0 10 _ rfl) gX11_traps_X11_within rfl rfl rfl (by decide +kernel) ⟨Nat.le_of_ble_eq_true rfl, Nat.le_of_ble_eq_true rfl⟩ rfl (Nat.le_of_ble_eq_true rfl) rfl dX11_traps_4 rfl (fun H locs hP hS => ?_)
  refine lv_if_eq (tgt := 18) hx hb dX11_traps_7 (by decide) (fun c1 => ?_) (fun c1 => ?_)
  · have h := ift c1 h
    refine lv_ldc (v := (-1000000002)) hx hb hown (hts _ mb_X11_traps_0) dX11_traps_18 ?_
    obtain rfl := Option.some.inj h
    exact g_iret C hP hD hS dX11_traps_20
  · have h := iff_ c1 h
    refine lv_aload_n hx hb dX11_traps_10 rfl (lv_at hl 0 rfl) ?_
    refine lv_iload_n hx hb dX11_traps_11 rfl (lv_at hl 1 rfl) ?_
    obtain ⟨q2, e2, h⟩ := bd_some h
    refine g_callV (index := 174) (maxL := 5) (n := 1) (As := [.int p1]) (rest := []) (st1 := [.int q2]) (C1 := RX11) (T1 := TX11) (N1 := 19) (ws2 := (w_X11_traps cI cJ cZ cG a_x a_x_now a_x_kept a_x_sortOf a_x_sizeOf a_x_sheets a_x_parts a_x_edge a_x_far a_x_lost x_isKept x_host x_below x_bestTarget x_high x_low x_whole x_tryHigh x_tryLow x_lots x_now)) C hP hD hS hl.1 11 0 (c_X11_trap l D cI cJ cZ cG a_x a_x_now a_x_kept a_x_sortOf a_x_sizeOf a_x_sheets a_x_parts a_x_edge a_x_far a_x_lost x_isKept x_host x_below x_bestTarget x_high x_low x_whole x_tryHigh x_tryLow x_lots x_now p1 N q2 e2) gX11_traps_X11_trap rfl rfl rfl (by decide +kernel) ⟨Nat.le_of_ble_eq_true rfl, Nat.le_of_ble_eq_true rfl⟩ rfl rfl rfl (Nat.le_of_ble_eq_true rfl) rfl dX11_traps_12 [0, 1] [] [0, 1] rfl rfl rfl rfl (by decide) rfl rfl rfl (fun H locs hP hD hS => ?_)
    refine lv_goto (tgt := 20) hx hb dX11_traps_15 (by decide) ?_
    obtain rfl := Option.some.inj h
    exact g_iret C hP hD hS dX11_traps_20
set_option maxRecDepth 100000 in
set_option maxHeartbeats 4000000 in
theorem c_X11_cover (l : Launch) (D : va_G) (cI cJ cZ cG : ClassId) (a_x a_x_now a_x_kept a_x_sortOf a_x_sizeOf a_x_sheets a_x_parts a_x_edge a_x_far a_x_lost : Nat) (x_isKept : Int32) (x_host : Int32) (x_below : Int32) (x_bestTarget : Int32) (x_high : Int64) (x_low : Int64) (x_whole : Int64) (x_tryHigh : Int64) (x_tryLow : Int64) (x_lots : Int32) (x_now : (Nat → Int32)) (N : Nat) (q : Int32) (h : f_X11_cover N x_now = some q) : gMet l yX11_cover wsX11_cover rm_X11_cover [.ref a_x] (w_X11_cover cI cJ cZ cG a_x a_x_now a_x_kept a_x_sortOf a_x_sizeOf a_x_sheets a_x_parts a_x_edge a_x_far a_x_lost x_isKept x_host x_below x_bestTarget x_high x_low x_whole x_tryHigh x_tryLow x_lots x_now) (w_X11_cover cI cJ cZ cG a_x a_x_now a_x_kept a_x_sortOf a_x_sizeOf a_x_sheets a_x_parts a_x_edge a_x_far a_x_lost x_isKept x_host x_below x_bestTarget x_high x_low x_whole x_tryHigh x_tryLow x_lots x_now) (some (.int q)) D cI cJ cZ cG := by
  refine g_enter (cc := cX11_cover) (nL := 1) (ret := (some .int)) (by decide) rfl (Nat.le_of_ble_eq_true rfl) ?_
  intro p e s m below meth c A C H locs ls hP hD hS hl
  obtain ⟨hx, hb, hr, hml, hown, hts, hlk, hgk, hA⟩ := id C
  have hK := hgk.1
  have hl : lv_has ls 1 [(0, .ref a_x)] := hl
  unfold f_X11_cover at h
  refine lv_aload_n hx hb dX11_cover_0 rfl (lv_at hl 0 rfl) ?_
  refine lv_bipush (v := 10) hx hb dX11_cover_1 (by decide) ?_
  obtain ⟨q1, e1, h⟩ := bd_some h
  refine g_callV (index := 174) (maxL := 5) (n := 1) (As := [.int 10]) (rest := []) (st1 := [.int q1]) (C1 := RX11) (T1 := TX11) (N1 := 19) (ws2 := (w_X11_cover cI cJ cZ cG a_x a_x_now a_x_kept a_x_sortOf a_x_sizeOf a_x_sheets a_x_parts a_x_edge a_x_far a_x_lost x_isKept x_host x_below x_bestTarget x_high x_low x_whole x_tryHigh x_tryLow x_lots x_now)) C hP hD hS hl.1 11 0 (c_X11_trap l D cI cJ cZ cG a_x a_x_now a_x_kept a_x_sortOf a_x_sizeOf a_x_sheets a_x_parts a_x_edge a_x_far a_x_lost x_isKept x_host x_below x_bestTarget x_high x_low x_whole x_tryHigh x_tryLow x_lots x_now 10 N q1 e1) gX11_cover_X11_trap rfl rfl rfl (by decide +kernel) ⟨Nat.le_of_ble_eq_true rfl, Nat.le_of_ble_eq_true rfl⟩ rfl rfl rfl (Nat.le_of_ble_eq_true rfl) rfl dX11_cover_3 [0, 1] [] [0, 1] rfl rfl rfl rfl (by decide) rfl rfl rfl (fun H locs hP hD hS => ?_)
  obtain rfl := Option.some.inj h
  exact g_iret C hP hD hS dX11_cover_6
set_option maxRecDepth 100000 in
set_option maxHeartbeats 4000000 in
theorem c_X11_isSheet (l : Launch) (D : va_G) (cI cJ cZ cG : ClassId) (p0 : Int32) (q : Int32) (h : f_X11_isSheet p0 = q) : gMet l yX11_isSheet wsX11_isSheet rm_X11_isSheet [.int p0] (w_X11_isSheet cI cJ cZ cG) (w_X11_isSheet cI cJ cZ cG) (some (.int q)) D cI cJ cZ cG := by
  refine g_enter (cc := cX11_isSheet) (nL := 1) (ret := (some .boolean)) (by decide) rfl (Nat.le_of_ble_eq_true rfl) ?_
  intro p e s m below meth c A C H locs ls hP hD hS hl
  obtain ⟨hx, hb, hr, hml, hown, hts, hlk, hgk, hA⟩ := id C
  have hK := hgk.1
  have hl : lv_has ls 1 [(0, .int p0)] := hl
  unfold f_X11_isSheet at h
  refine lv_iload_n hx hb dX11_isSheet_0 rfl (lv_at hl 0 rfl) ?_
  refine lv_iconst (v := 0) hx hb dX11_isSheet_1 (by decide) ?_
  refine lv_iconst (v := 3) hx hb dX11_isSheet_2 (by decide) ?_
  refine g_callS0 (index := 47) (maxL := 3) (n := 3) (As := [.int p0, .int 0, .int 3]) (rest := []) (st1 := [.int (f_X11_within p0 0 3)]) C hP hS hl.1 (c_X11_within l D cI cJ cZ cG p0 0 3 _ rfl) gX11_isSheet_X11_within rfl rfl rfl (by decide +kernel) ⟨Nat.le_of_ble_eq_true rfl, Nat.le_of_ble_eq_true rfl⟩ rfl (Nat.le_of_ble_eq_true rfl) rfl dX11_isSheet_3 rfl (fun H locs hP hS => ?_)
  obtain rfl := h
  exact g_zret C hP hD hS (nz_b (z_X11_within p0 0 3)) dX11_isSheet_6
theorem in_X11_sheet_X11 : ∀ w ∈ wsX110, w ∈ wsX11_sheet := by decide +kernel
theorem mb_X11_sheet_0 : Cond.fieldLink RX11 26 "GuardDeskModel" "sheets" "[I" ∈ wsX11_sheet := List.mem_of_getElem? (i := 5) rfl
theorem mb_X11_sheet_1 : Cond.constant RX11 55 (-1000000002) ∈ wsX11_sheet := List.mem_of_getElem? (i := 1) rfl
theorem mb_X11_sheet_2 : Cond.fieldLink RX11 20 "GuardDeskModel" "sortOf" "[I" ∈ wsX11_sheet := List.mem_of_getElem? (i := 3) rfl
theorem mb_X11_sheet_3 : Cond.fieldLink RX11 23 "GuardDeskModel" "sizeOf" "[I" ∈ wsX11_sheet := List.mem_of_getElem? (i := 4) rfl
theorem mb_X11_sheet_4 : Cond.constant RX11 180 (-1000000013) ∈ wsX11_sheet := List.mem_of_getElem? (i := 2) rfl
set_option maxRecDepth 100000 in
set_option maxHeartbeats 4000000 in
theorem t_X11_sheet_b53 (C : cx D cI cJ cZ cG A cX11_sheet 5 (some .int) RX11 wsX11_sheet p s m args meth c) (a_x a_x_now a_x_kept a_x_sortOf a_x_sizeOf a_x_sheets a_x_parts a_x_edge a_x_far a_x_lost : Nat) (x_isKept : Int32) (x_below : Int32) (x_bestTarget : Int32) (x_high : Int64) (x_low : Int64) (x_whole : Int64) (x_tryHigh : Int64) (x_tryLow : Int64) (x_lots : Int32) (N : Nat) (q : Int32 × Int32 × (Nat → Int32) × (Nat → Int32) × (Nat → Int32)) (x_host : Int32) (x_sortOf : (Nat → Int32)) (x_sizeOf : (Nat → Int32)) (v1 : Int32) (v3 : Int32) : ∀ (n : Nat) (x_sheets : (Nat → Int32)) (v4 : Int32), f_X11_sheet_b53 N x_host x_sortOf x_sizeOf v1 v3 n x_sheets v4 = some q → WB p l e rm_X11_sheet s m args below meth c (MQ below (Qg D (some (.int q.1)) (w_X11_sheet cI cJ cZ cG a_x a_x_now a_x_kept a_x_sortOf a_x_sizeOf a_x_sheets a_x_parts a_x_edge a_x_far a_x_lost x_isKept q.2.1 x_below x_bestTarget x_high x_low x_whole x_tryHigh x_tryLow x_lots q.2.2.1 q.2.2.2.1 q.2.2.2.2) A) args s 0 0 A) D A 5 (w_X11_sheet cI cJ cZ cG a_x a_x_now a_x_kept a_x_sortOf a_x_sizeOf a_x_sheets a_x_parts a_x_edge a_x_far a_x_lost x_isKept x_host x_below x_bestTarget x_high x_low x_whole x_tryHigh x_tryLow x_lots x_sortOf x_sizeOf x_sheets) [(0, .ref a_x), (1, .int v1), (3, .int v3), (4, .int v4)] [] 53 := by
  obtain ⟨hx, hb, hr, hml, hown, hts, hlk, hgk, hA⟩ := id C
  have hK := hgk.1
  intro n
  induction n with
  | zero => intro x_sheets v4 h; cases h
  | succ n hk_53 =>
    intro x_sheets v4 h
    have h : g_X11_sheet_b53 N x_host x_sortOf x_sizeOf v1 v3 (f_X11_sheet_b53 N x_host x_sortOf x_sizeOf v1 v3 n) x_sheets v4 = some q := h
    generalize f_X11_sheet_b53 N x_host x_sortOf x_sizeOf v1 v3 n = k_53 at h hk_53
    unfold g_X11_sheet_b53 at h
    intro H locs ls hP hD hS hl
    refine lv_iload hx hb dX11_sheet_53 (lv_at hl 3 rfl) ?_
    refine lv_bipush (v := 40) hx hb dX11_sheet_55 (by decide) ?_
    refine lv_icmp_ge (tgt := 79) hx hb dX11_sheet_57 (by decide) (fun c1 => ?_) (fun c1 => ?_)
    · have h := ift c1 h
      refine lv_iload_n hx hb dX11_sheet_79 rfl (lv_at hl 2 rfl) ?_
      obtain rfl := Option.some.inj h
      exact g_iret C hP hD hS dX11_sheet_80
    · have h := iff_ c1 h
      refine lv_aload_n hx hb dX11_sheet_60 rfl (lv_at hl 0 rfl) ?_
      refine va_get (D := D) (ci := 11) (v := .ref a_x_sheets) (C := RX11) (T := TX11) (N := 19) hx hb hts in_X11_sheet_X11 hown hK hP 0 rfl rfl 7 (by decide) (hts _ mb_X11_sheet_0) (fun _ h9 => h9) rfl dX11_sheet_61 ?_
      refine lv_bipush (v := 40) hx hb dX11_sheet_64 (by decide) ?_
      refine lv_iload_n hx hb dX11_sheet_66 rfl (lv_at hl 1 rfl) ?_
      refine lv_imul hx hb dX11_sheet_67 ?_
      refine lv_iload hx hb dX11_sheet_68 (lv_at hl 3 rfl) ?_
      refine lv_iadd hx hb dX11_sheet_70 ?_
      refine lv_iconst (v := 0) hx hb dX11_sheet_71 (by decide) ?_
      obtain ⟨i2, h⟩ := gI_some h
      refine va_iast hx hb hK hP hD hS 3 0 rfl rfl i2 dX11_sheet_72 (fun H locs hP hD hS => ?_)
      have hP : va_P D vwCl (w_X11_sheet cI cJ cZ cG a_x a_x_now a_x_kept a_x_sortOf a_x_sizeOf a_x_sheets a_x_parts a_x_edge a_x_far a_x_lost x_isKept x_host x_below x_bestTarget x_high x_low x_whole x_tryHigh x_tryLow x_lots x_sortOf x_sizeOf (upd x_sheets ((40 * v1) + v4).toNatClampNeg 0)) H := hP
      have hD : va_D A (w_X11_sheet cI cJ cZ cG a_x a_x_now a_x_kept a_x_sortOf a_x_sizeOf a_x_sheets a_x_parts a_x_edge a_x_far a_x_lost x_isKept x_host x_below x_bestTarget x_high x_low x_whole x_tryHigh x_tryLow x_lots x_sortOf x_sizeOf (upd x_sheets ((40 * v1) + v4).toNatClampNeg 0)) := hD
      refine lv_iinc (v := v4 + 1) (lv' := [(4, .int (v4 + 1)), (0, .ref a_x), (1, .int v1), (3, .int v3)]) hx hb dX11_sheet_73 hl (k := 3) rfl rfl (by decide) rfl (fun ls hl => ?_)
      refine lv_goto (tgt := 53) hx hb dX11_sheet_76 (by decide) ?_
      exact hk_53 (upd x_sheets ((40 * v1) + v4).toNatClampNeg 0) (v4 + 1) h H locs ls hP hD hS (lv_sub hl [1, 2, 3, 0] rfl)
set_option maxRecDepth 100000 in
set_option maxHeartbeats 4000000 in
theorem c_X11_sheet (l : Launch) (D : va_G) (cI cJ cZ cG : ClassId) (a_x a_x_now a_x_kept a_x_sortOf a_x_sizeOf a_x_sheets a_x_parts a_x_edge a_x_far a_x_lost : Nat) (x_isKept : Int32) (x_host : Int32) (x_below : Int32) (x_bestTarget : Int32) (x_high : Int64) (x_low : Int64) (x_whole : Int64) (x_tryHigh : Int64) (x_tryLow : Int64) (x_lots : Int32) (x_sortOf : (Nat → Int32)) (x_sizeOf : (Nat → Int32)) (x_sheets : (Nat → Int32)) (p1 : Int32) (p2 : Int32) (p3 : Int32) (N : Nat) (q : Int32 × Int32 × (Nat → Int32) × (Nat → Int32) × (Nat → Int32)) (h : f_X11_sheet N x_host x_sortOf x_sizeOf x_sheets p1 p2 p3 = some q) : gMet l yX11_sheet wsX11_sheet rm_X11_sheet [.ref a_x, .int p1, .int p2, .int p3] (w_X11_sheet cI cJ cZ cG a_x a_x_now a_x_kept a_x_sortOf a_x_sizeOf a_x_sheets a_x_parts a_x_edge a_x_far a_x_lost x_isKept x_host x_below x_bestTarget x_high x_low x_whole x_tryHigh x_tryLow x_lots x_sortOf x_sizeOf x_sheets) (w_X11_sheet cI cJ cZ cG a_x a_x_now a_x_kept a_x_sortOf a_x_sizeOf a_x_sheets a_x_parts a_x_edge a_x_far a_x_lost x_isKept q.2.1 x_below x_bestTarget x_high x_low x_whole x_tryHigh x_tryLow x_lots q.2.2.1 q.2.2.2.1 q.2.2.2.2) (some (.int q.1)) D cI cJ cZ cG := by
  refine g_enter (cc := cX11_sheet) (nL := 5) (ret := (some .int)) (by decide) rfl (Nat.le_of_ble_eq_true rfl) ?_
  intro p e s m below meth c A C H locs ls hP hD hS hl
  obtain ⟨hx, hb, hr, hml, hown, hts, hlk, hgk, hA⟩ := id C
  have hK := hgk.1
  have hl : lv_has ls 5 [(0, .ref a_x), (1, .int p1), (2, .int p2), (3, .int p3)] := hl
  unfold f_X11_sheet at h
  refine lv_iload_n hx hb dX11_sheet_0 rfl (lv_at hl 1 rfl) ?_
  refine g_callS0 (index := 177) (maxL := 1) (n := 1) (As := [.int p1]) (rest := []) (st1 := [.int (f_X11_isSheet p1)]) C hP hS hl.1 (c_X11_isSheet l D cI cJ cZ cG p1 _ rfl) gX11_sheet_X11_isSheet rfl rfl rfl (by decide +kernel) ⟨Nat.le_of_ble_eq_true rfl, Nat.le_of_ble_eq_true rfl⟩ rfl (Nat.le_of_ble_eq_true rfl) rfl dX11_sheet_1 rfl (fun H locs hP hS => ?_)
  refine lv_if_eq (tgt := 22) hx hb dX11_sheet_4 (by decide) (fun c1 => ?_) (fun c1 => ?_)
  · have h := ift c1 h
    refine lv_ldc (v := (-1000000002)) hx hb hown (hts _ mb_X11_sheet_1) dX11_sheet_22 ?_
    obtain rfl := Option.some.inj h
    exact g_iret C hP hD hS dX11_sheet_24
  · have h := iff_ c1 h
    refine lv_iload_n hx hb dX11_sheet_7 rfl (lv_at hl 2 rfl) ?_
    refine lv_iconst (v := 0) hx hb dX11_sheet_8 (by decide) ?_
    refine lv_iconst (v := 2) hx hb dX11_sheet_9 (by decide) ?_
    refine g_callS0 (index := 47) (maxL := 3) (n := 3) (As := [.int p2, .int 0, .int 2]) (rest := []) (st1 := [.int (f_X11_within p2 0 2)]) C hP hS hl.1 (c_X11_within l D cI cJ cZ cG p2 0 2 _ rfl) gX11_sheet_X11_within rfl rfl rfl (by decide +kernel) ⟨Nat.le_of_ble_eq_true rfl, Nat.le_of_ble_eq_true rfl⟩ rfl (Nat.le_of_ble_eq_true rfl) rfl dX11_sheet_10 rfl (fun H locs hP hS => ?_)
    refine lv_if_eq (tgt := 22) hx hb dX11_sheet_13 (by decide) (fun c2 => ?_) (fun c2 => ?_)
    · have h := ift c2 h
      refine lv_ldc (v := (-1000000002)) hx hb hown (hts _ mb_X11_sheet_1) dX11_sheet_22 ?_
      obtain rfl := Option.some.inj h
      exact g_iret C hP hD hS dX11_sheet_24
    · have h := iff_ c2 h
      refine lv_iload_n hx hb dX11_sheet_16 rfl (lv_at hl 3 rfl) ?_
      refine lv_bipush (v := 40) hx hb dX11_sheet_17 (by decide) ?_
      refine lv_icmp_le (tgt := 25) hx hb dX11_sheet_19 (by decide) (fun c3 => ?_) (fun c3 => ?_)
      · have h := ift c3 h
        refine lv_iload_n hx hb dX11_sheet_25 rfl (lv_at hl 3 rfl) ?_
        refine lv_if_ge (tgt := 36) hx hb dX11_sheet_26 (by decide) (fun c4 => ?_) (fun c4 => ?_)
        · have h := ift c4 h
          refine lv_aload_n hx hb dX11_sheet_36 rfl (lv_at hl 0 rfl) ?_
          refine va_get (D := D) (ci := 11) (v := .ref a_x_sortOf) (C := RX11) (T := TX11) (N := 19) hx hb hts in_X11_sheet_X11 hown hK hP 0 rfl rfl 5 (by decide) (hts _ mb_X11_sheet_2) (fun _ h9 => h9) rfl dX11_sheet_37 ?_
          refine lv_iload_n hx hb dX11_sheet_40 rfl (lv_at hl 1 rfl) ?_
          refine lv_iload_n hx hb dX11_sheet_41 rfl (lv_at hl 2 rfl) ?_
          obtain ⟨i5, h⟩ := gI_some h
          refine va_iast hx hb hK hP hD hS 1 0 rfl rfl i5 dX11_sheet_42 (fun H locs hP hD hS => ?_)
          have hP : va_P D vwCl (w_X11_sheet cI cJ cZ cG a_x a_x_now a_x_kept a_x_sortOf a_x_sizeOf a_x_sheets a_x_parts a_x_edge a_x_far a_x_lost x_isKept x_host x_below x_bestTarget x_high x_low x_whole x_tryHigh x_tryLow x_lots (upd x_sortOf p1.toNatClampNeg p2) x_sizeOf x_sheets) H := hP
          have hD : va_D A (w_X11_sheet cI cJ cZ cG a_x a_x_now a_x_kept a_x_sortOf a_x_sizeOf a_x_sheets a_x_parts a_x_edge a_x_far a_x_lost x_isKept x_host x_below x_bestTarget x_high x_low x_whole x_tryHigh x_tryLow x_lots (upd x_sortOf p1.toNatClampNeg p2) x_sizeOf x_sheets) := hD
          refine lv_aload_n hx hb dX11_sheet_43 rfl (lv_at hl 0 rfl) ?_
          refine va_get (D := D) (ci := 11) (v := .ref a_x_sizeOf) (C := RX11) (T := TX11) (N := 19) hx hb hts in_X11_sheet_X11 hown hK hP 0 rfl rfl 6 (by decide) (hts _ mb_X11_sheet_3) (fun _ h9 => h9) rfl dX11_sheet_44 ?_
          refine lv_iload_n hx hb dX11_sheet_47 rfl (lv_at hl 1 rfl) ?_
          refine lv_iload_n hx hb dX11_sheet_48 rfl (lv_at hl 3 rfl) ?_
          obtain ⟨i6, h⟩ := gI_some h
          refine va_iast hx hb hK hP hD hS 2 0 rfl rfl i6 dX11_sheet_49 (fun H locs hP hD hS => ?_)
          have hP : va_P D vwCl (w_X11_sheet cI cJ cZ cG a_x a_x_now a_x_kept a_x_sortOf a_x_sizeOf a_x_sheets a_x_parts a_x_edge a_x_far a_x_lost x_isKept x_host x_below x_bestTarget x_high x_low x_whole x_tryHigh x_tryLow x_lots (upd x_sortOf p1.toNatClampNeg p2) (upd x_sizeOf p1.toNatClampNeg p3) x_sheets) H := hP
          have hD : va_D A (w_X11_sheet cI cJ cZ cG a_x a_x_now a_x_kept a_x_sortOf a_x_sizeOf a_x_sheets a_x_parts a_x_edge a_x_far a_x_lost x_isKept x_host x_below x_bestTarget x_high x_low x_whole x_tryHigh x_tryLow x_lots (upd x_sortOf p1.toNatClampNeg p2) (upd x_sizeOf p1.toNatClampNeg p3) x_sheets) := hD
          refine lv_iconst (v := 0) hx hb dX11_sheet_50 (by decide) ?_
          refine lv_istore (lv' := [(4, .int 0), (0, .ref a_x), (1, .int p1), (2, .int p2), (3, .int p3)]) hx hb dX11_sheet_51 hl (by decide) rfl (fun ls hl => ?_)
          exact t_X11_sheet_b53 C a_x a_x_now a_x_kept a_x_sortOf a_x_sizeOf a_x_sheets a_x_parts a_x_edge a_x_far a_x_lost x_isKept x_below x_bestTarget x_high x_low x_whole x_tryHigh x_tryLow x_lots N q x_host (upd x_sortOf p1.toNatClampNeg p2) (upd x_sizeOf p1.toNatClampNeg p3) p1 p3 N x_sheets 0 h H locs ls hP hD hS (lv_sub hl [1, 2, 4, 0] rfl)
        · have h := iff_ c4 h
          refine lv_aload_n hx hb dX11_sheet_29 rfl (lv_at hl 0 rfl) ?_
          refine lv_ldc (v := (-1000000013)) hx hb hown (hts _ mb_X11_sheet_4) dX11_sheet_30 ?_
          refine g_callV (index := 60) (maxL := 2) (n := 1) (As := [.int (-1000000013)]) (rest := []) (st1 := [.int ((f_X11_found x_host (-1000000013)).1)]) (C1 := RX11) (T1 := TX11) (N1 := 19) (ws2 := (w_X11_sheet cI cJ cZ cG a_x a_x_now a_x_kept a_x_sortOf a_x_sizeOf a_x_sheets a_x_parts a_x_edge a_x_far a_x_lost x_isKept ((f_X11_found x_host (-1000000013)).2) x_below x_bestTarget x_high x_low x_whole x_tryHigh x_tryLow x_lots x_sortOf x_sizeOf x_sheets)) C hP hD hS hl.1 11 0 (c_X11_found l D cI cJ cZ cG a_x a_x_now a_x_kept a_x_sortOf a_x_sizeOf a_x_sheets a_x_parts a_x_edge a_x_far a_x_lost x_isKept x_host x_below x_bestTarget x_high x_low x_whole x_tryHigh x_tryLow x_lots (-1000000013) _ rfl) gX11_sheet_X11_found rfl rfl rfl (by decide +kernel) ⟨Nat.le_of_ble_eq_true rfl, Nat.le_of_ble_eq_true rfl⟩ rfl rfl rfl (Nat.le_of_ble_eq_true rfl) rfl dX11_sheet_32 [0] [1, 2, 3] [3, 0, 1, 2] rfl rfl rfl rfl (by decide) rfl rfl rfl (fun H locs hP hD hS => ?_)
          obtain rfl := Option.some.inj h
          exact g_iret C hP hD hS dX11_sheet_35
      · have h := iff_ c3 h
        refine lv_ldc (v := (-1000000002)) hx hb hown (hts _ mb_X11_sheet_1) dX11_sheet_22 ?_
        obtain rfl := Option.some.inj h
        exact g_iret C hP hD hS dX11_sheet_24
theorem in_X11_write_X11 : ∀ w ∈ wsX110, w ∈ wsX11_write := by decide +kernel
theorem mb_X11_write_0 : Cond.fieldLink RX11 26 "GuardDeskModel" "sheets" "[I" ∈ wsX11_write := List.mem_of_getElem? (i := 6) rfl
theorem mb_X11_write_1 : Cond.fieldLink RX11 20 "GuardDeskModel" "sortOf" "[I" ∈ wsX11_write := List.mem_of_getElem? (i := 2) rfl
theorem mb_X11_write_2 : Cond.fieldLink RX11 23 "GuardDeskModel" "sizeOf" "[I" ∈ wsX11_write := List.mem_of_getElem? (i := 4) rfl
theorem mb_X11_write_3 : Cond.constant RX11 181 (-1000000011) ∈ wsX11_write := List.mem_of_getElem? (i := 5) rfl
theorem mb_X11_write_4 : Cond.constant RX11 64 (-1000000010) ∈ wsX11_write := List.mem_of_getElem? (i := 3) rfl
theorem mb_X11_write_5 : Cond.constant RX11 55 (-1000000002) ∈ wsX11_write := List.mem_of_getElem? (i := 1) rfl
set_option maxRecDepth 100000 in
set_option maxHeartbeats 4000000 in
theorem t_X11_write_b92 (C : cx D cI cJ cZ cG A cX11_write 6 (some .int) RX11 wsX11_write p s m args meth c) (a_x a_x_now a_x_kept a_x_sortOf a_x_sizeOf a_x_sheets a_x_parts a_x_edge a_x_far a_x_lost : Nat) (x_isKept : Int32) (x_below : Int32) (x_bestTarget : Int32) (x_high : Int64) (x_low : Int64) (x_whole : Int64) (x_tryHigh : Int64) (x_tryLow : Int64) (x_lots : Int32) (x_sortOf : (Nat → Int32)) (x_sizeOf : (Nat → Int32)) (q : Int32 × Int32 × (Nat → Int32)) (x_host : Int32) (x_sheets : (Nat → Int32)) (k0 : Int32) (v1 : Int32) (v2 : Int32) (v3 : Int32) (v4 : Int32) (h : f_X11_write_b92 x_sortOf x_sizeOf x_host x_sheets k0 v1 v2 v3 v4 = some q) : WB p l e rm_X11_write s m args below meth c (MQ below (Qg D (some (.int q.1)) (w_X11_write cI cJ cZ cG a_x a_x_now a_x_kept a_x_sortOf a_x_sizeOf a_x_sheets a_x_parts a_x_edge a_x_far a_x_lost x_isKept q.2.1 x_below x_bestTarget x_high x_low x_whole x_tryHigh x_tryLow x_lots x_sortOf x_sizeOf q.2.2) A) args s 0 0 A) D A 6 (w_X11_write cI cJ cZ cG a_x a_x_now a_x_kept a_x_sortOf a_x_sizeOf a_x_sheets a_x_parts a_x_edge a_x_far a_x_lost x_isKept x_host x_below x_bestTarget x_high x_low x_whole x_tryHigh x_tryLow x_lots x_sortOf x_sizeOf x_sheets) [(0, .ref a_x), (1, .int v1), (2, .int v2), (3, .int v3), (4, .int v4)] [.int k0] 92 := by
  obtain ⟨hx, hb, hr, hml, hown, hts, hlk, hgk, hA⟩ := id C
  have hK := hgk.1
  unfold f_X11_write_b92 at h
  intro H locs ls hP hD hS hl
  refine lv_istore (lv' := [(5, .int k0), (0, .ref a_x), (1, .int v1), (2, .int v2), (3, .int v3), (4, .int v4)]) hx hb dX11_write_92 hl (by decide) rfl (fun ls hl => ?_)
  refine lv_aload_n hx hb dX11_write_94 rfl (lv_at hl 1 rfl) ?_
  refine va_get (D := D) (ci := 11) (v := .ref a_x_sheets) (C := RX11) (T := TX11) (N := 19) hx hb hts in_X11_write_X11 hown hK hP 0 rfl rfl 7 (by decide) (hts _ mb_X11_write_0) (fun _ h9 => h9) rfl dX11_write_95 ?_
  refine lv_bipush (v := 40) hx hb dX11_write_98 (by decide) ?_
  refine lv_iload_n hx hb dX11_write_100 rfl (lv_at hl 2 rfl) ?_
  refine lv_imul hx hb dX11_write_101 ?_
  refine lv_iload_n hx hb dX11_write_102 rfl (lv_at hl 3 rfl) ?_
  refine lv_iadd hx hb dX11_write_103 ?_
  refine lv_iload_n hx hb dX11_write_104 rfl (lv_at hl 4 rfl) ?_
  refine lv_iload hx hb dX11_write_105 (lv_at hl 0 rfl) ?_
  refine lv_ishl hx hb dX11_write_107 ?_
  refine lv_iload hx hb dX11_write_108 (lv_at hl 0 rfl) ?_
  refine lv_ishr hx hb dX11_write_110 ?_
  obtain ⟨i1, h⟩ := gI_some h
  refine va_iast hx hb hK hP hD hS 3 0 rfl rfl i1 dX11_write_111 (fun H locs hP hD hS => ?_)
  have hP : va_P D vwCl (w_X11_write cI cJ cZ cG a_x a_x_now a_x_kept a_x_sortOf a_x_sizeOf a_x_sheets a_x_parts a_x_edge a_x_far a_x_lost x_isKept x_host x_below x_bestTarget x_high x_low x_whole x_tryHigh x_tryLow x_lots x_sortOf x_sizeOf (upd x_sheets ((40 * v1) + v2).toNatClampNeg ((v3 <<< (k0 &&& 31)) >>> (k0 &&& 31)))) H := hP
  have hD : va_D A (w_X11_write cI cJ cZ cG a_x a_x_now a_x_kept a_x_sortOf a_x_sizeOf a_x_sheets a_x_parts a_x_edge a_x_far a_x_lost x_isKept x_host x_below x_bestTarget x_high x_low x_whole x_tryHigh x_tryLow x_lots x_sortOf x_sizeOf (upd x_sheets ((40 * v1) + v2).toNatClampNeg ((v3 <<< (k0 &&& 31)) >>> (k0 &&& 31)))) := hD
  refine lv_iload hx hb dX11_write_112 (lv_at hl 5 rfl) ?_
  obtain rfl := Option.some.inj h
  exact g_iret C hP hD hS dX11_write_114
set_option maxRecDepth 100000 in
set_option maxHeartbeats 4000000 in
theorem c_X11_write (l : Launch) (D : va_G) (cI cJ cZ cG : ClassId) (a_x a_x_now a_x_kept a_x_sortOf a_x_sizeOf a_x_sheets a_x_parts a_x_edge a_x_far a_x_lost : Nat) (x_isKept : Int32) (x_host : Int32) (x_below : Int32) (x_bestTarget : Int32) (x_high : Int64) (x_low : Int64) (x_whole : Int64) (x_tryHigh : Int64) (x_tryLow : Int64) (x_lots : Int32) (x_sortOf : (Nat → Int32)) (x_sizeOf : (Nat → Int32)) (x_sheets : (Nat → Int32)) (p1 : Int32) (p2 : Int32) (p3 : Int32) (q : Int32 × Int32 × (Nat → Int32)) (h : f_X11_write x_host x_sortOf x_sizeOf x_sheets p1 p2 p3 = some q) : gMet l yX11_write wsX11_write rm_X11_write [.ref a_x, .int p1, .int p2, .int p3] (w_X11_write cI cJ cZ cG a_x a_x_now a_x_kept a_x_sortOf a_x_sizeOf a_x_sheets a_x_parts a_x_edge a_x_far a_x_lost x_isKept x_host x_below x_bestTarget x_high x_low x_whole x_tryHigh x_tryLow x_lots x_sortOf x_sizeOf x_sheets) (w_X11_write cI cJ cZ cG a_x a_x_now a_x_kept a_x_sortOf a_x_sizeOf a_x_sheets a_x_parts a_x_edge a_x_far a_x_lost x_isKept q.2.1 x_below x_bestTarget x_high x_low x_whole x_tryHigh x_tryLow x_lots x_sortOf x_sizeOf q.2.2) (some (.int q.1)) D cI cJ cZ cG := by
  refine g_enter (cc := cX11_write) (nL := 6) (ret := (some .int)) (by decide) rfl (Nat.le_of_ble_eq_true rfl) ?_
  intro p e s m below meth c A C H locs ls hP hD hS hl
  obtain ⟨hx, hb, hr, hml, hown, hts, hlk, hgk, hA⟩ := id C
  have hK := hgk.1
  have hl : lv_has ls 6 [(0, .ref a_x), (1, .int p1), (2, .int p2), (3, .int p3)] := hl
  unfold f_X11_write at h
  refine lv_iload_n hx hb dX11_write_0 rfl (lv_at hl 1 rfl) ?_
  refine g_callS0 (index := 177) (maxL := 1) (n := 1) (As := [.int p1]) (rest := []) (st1 := [.int (f_X11_isSheet p1)]) C hP hS hl.1 (c_X11_isSheet l D cI cJ cZ cG p1 _ rfl) gX11_write_X11_isSheet rfl rfl rfl (by decide +kernel) ⟨Nat.le_of_ble_eq_true rfl, Nat.le_of_ble_eq_true rfl⟩ rfl (Nat.le_of_ble_eq_true rfl) rfl dX11_write_1 rfl (fun H locs hP hS => ?_)
  refine lv_if_ne (tgt := 10) hx hb dX11_write_4 (by decide) (fun c1 => ?_) (fun c1 => ?_)
  · have h := iff_ c1 h
    refine lv_aload_n hx hb dX11_write_10 rfl (lv_at hl 0 rfl) ?_
    refine va_get (D := D) (ci := 11) (v := .ref a_x_sortOf) (C := RX11) (T := TX11) (N := 19) hx hb hts in_X11_write_X11 hown hK hP 0 rfl rfl 5 (by decide) (hts _ mb_X11_write_1) (fun _ h9 => h9) rfl dX11_write_11 ?_
    refine lv_iload_n hx hb dX11_write_14 rfl (lv_at hl 1 rfl) ?_
    obtain ⟨i2, h⟩ := gI_some h
    refine va_iald hx hb hK hP 1 0 rfl rfl i2 dX11_write_15 ?_
    refine lv_if_ge (tgt := 26) hx hb dX11_write_16 (by decide) (fun c3 => ?_) (fun c3 => ?_)
    · have h := ift c3 h
      refine lv_iload_n hx hb dX11_write_26 rfl (lv_at hl 2 rfl) ?_
      refine lv_iconst (v := 0) hx hb dX11_write_27 (by decide) ?_
      refine lv_aload_n hx hb dX11_write_28 rfl (lv_at hl 0 rfl) ?_
      refine va_get (D := D) (ci := 11) (v := .ref a_x_sizeOf) (C := RX11) (T := TX11) (N := 19) hx hb hts in_X11_write_X11 hown hK hP 0 rfl rfl 6 (by decide) (hts _ mb_X11_write_2) (fun _ h9 => h9) rfl dX11_write_29 ?_
      refine lv_iload_n hx hb dX11_write_32 rfl (lv_at hl 1 rfl) ?_
      obtain ⟨i4, h⟩ := gI_some h
      refine va_iald hx hb hK hP 2 0 rfl rfl i4 dX11_write_33 ?_
      refine lv_iconst (v := 1) hx hb dX11_write_34 (by decide) ?_
      refine lv_isub hx hb dX11_write_35 ?_
      refine g_callS0 (index := 47) (maxL := 3) (n := 3) (As := [.int p2, .int 0, .int ((x_sizeOf p1.toNatClampNeg) - 1)]) (rest := []) (st1 := [.int (f_X11_within p2 0 ((x_sizeOf p1.toNatClampNeg) - 1))]) C hP hS hl.1 (c_X11_within l D cI cJ cZ cG p2 0 ((x_sizeOf p1.toNatClampNeg) - 1) _ rfl) gX11_write_X11_within rfl rfl rfl (by decide +kernel) ⟨Nat.le_of_ble_eq_true rfl, Nat.le_of_ble_eq_true rfl⟩ rfl (Nat.le_of_ble_eq_true rfl) rfl dX11_write_36 rfl (fun H locs hP hS => ?_)
      refine lv_if_ne (tgt := 49) hx hb dX11_write_39 (by decide) (fun c5 => ?_) (fun c5 => ?_)
      · have h := iff_ c5 h
        refine lv_aload_n hx hb dX11_write_49 rfl (lv_at hl 0 rfl) ?_
        refine va_get (D := D) (ci := 11) (v := .ref a_x_sheets) (C := RX11) (T := TX11) (N := 19) hx hb hts in_X11_write_X11 hown hK hP 0 rfl rfl 7 (by decide) (hts _ mb_X11_write_0) (fun _ h9 => h9) rfl dX11_write_50 ?_
        refine lv_bipush (v := 40) hx hb dX11_write_53 (by decide) ?_
        refine lv_iload_n hx hb dX11_write_55 rfl (lv_at hl 1 rfl) ?_
        refine lv_imul hx hb dX11_write_56 ?_
        refine lv_iload_n hx hb dX11_write_57 rfl (lv_at hl 2 rfl) ?_
        refine lv_iadd hx hb dX11_write_58 ?_
        obtain ⟨i6, h⟩ := gI_some h
        refine va_iald hx hb hK hP 3 0 rfl rfl i6 dX11_write_59 ?_
        refine lv_istore (lv' := [(4, .int (x_sheets ((40 * p1) + p2).toNatClampNeg)), (0, .ref a_x), (1, .int p1), (2, .int p2), (3, .int p3)]) hx hb dX11_write_60 hl (by decide) rfl (fun ls hl => ?_)
        refine lv_aload_n hx hb dX11_write_62 rfl (lv_at hl 1 rfl) ?_
        refine va_get (D := D) (ci := 11) (v := .ref a_x_sortOf) (C := RX11) (T := TX11) (N := 19) hx hb hts in_X11_write_X11 hown hK hP 0 rfl rfl 5 (by decide) (hts _ mb_X11_write_1) (fun _ h9 => h9) rfl dX11_write_63 ?_
        refine lv_iload_n hx hb dX11_write_66 rfl (lv_at hl 2 rfl) ?_
        obtain ⟨i7, h⟩ := gI_some h
        refine va_iald hx hb hK hP 1 0 rfl rfl i7 dX11_write_67 ?_
        refine lv_if_ne (tgt := 76) hx hb dX11_write_68 (by decide) (fun c8 => ?_) (fun c8 => ?_)
        · have h := iff_ c8 h
          refine lv_aload_n hx hb dX11_write_76 rfl (lv_at hl 1 rfl) ?_
          refine va_get (D := D) (ci := 11) (v := .ref a_x_sortOf) (C := RX11) (T := TX11) (N := 19) hx hb hts in_X11_write_X11 hown hK hP 0 rfl rfl 5 (by decide) (hts _ mb_X11_write_1) (fun _ h9 => h9) rfl dX11_write_77 ?_
          refine lv_iload_n hx hb dX11_write_80 rfl (lv_at hl 2 rfl) ?_
          obtain ⟨i9, h⟩ := gI_some h
          refine va_iald hx hb hK hP 1 0 rfl rfl i9 dX11_write_81 ?_
          refine lv_iconst (v := 1) hx hb dX11_write_82 (by decide) ?_
          refine lv_icmp_ne (tgt := 91) hx hb dX11_write_83 (by decide) (fun c10 => ?_) (fun c10 => ?_)
          · have h := iff_ c10 h
            refine lv_iconst (v := 0) hx hb dX11_write_91 (by decide) ?_
            exact t_X11_write_b92 C a_x a_x_now a_x_kept a_x_sortOf a_x_sizeOf a_x_sheets a_x_parts a_x_edge a_x_far a_x_lost x_isKept x_below x_bestTarget x_high x_low x_whole x_tryHigh x_tryLow x_lots x_sortOf x_sizeOf q x_host x_sheets 0 p1 p2 p3 (x_sheets ((40 * p1) + p2).toNatClampNeg) h H locs ls hP hD hS (lv_sub hl [1, 2, 3, 4, 0] rfl)
          · have h := ift c10 h
            refine lv_bipush (v := 16) hx hb dX11_write_86 (by decide) ?_
            refine lv_goto (tgt := 92) hx hb dX11_write_88 (by decide) ?_
            exact t_X11_write_b92 C a_x a_x_now a_x_kept a_x_sortOf a_x_sizeOf a_x_sheets a_x_parts a_x_edge a_x_far a_x_lost x_isKept x_below x_bestTarget x_high x_low x_whole x_tryHigh x_tryLow x_lots x_sortOf x_sizeOf q x_host x_sheets 16 p1 p2 p3 (x_sheets ((40 * p1) + p2).toNatClampNeg) h H locs ls hP hD hS (lv_sub hl [1, 2, 3, 4, 0] rfl)
        · have h := ift c8 h
          refine lv_bipush (v := 24) hx hb dX11_write_71 (by decide) ?_
          refine lv_goto (tgt := 92) hx hb dX11_write_73 (by decide) ?_
          exact t_X11_write_b92 C a_x a_x_now a_x_kept a_x_sortOf a_x_sizeOf a_x_sheets a_x_parts a_x_edge a_x_far a_x_lost x_isKept x_below x_bestTarget x_high x_low x_whole x_tryHigh x_tryLow x_lots x_sortOf x_sizeOf q x_host x_sheets 24 p1 p2 p3 (x_sheets ((40 * p1) + p2).toNatClampNeg) h H locs ls hP hD hS (lv_sub hl [1, 2, 3, 4, 0] rfl)
      · have h := ift c5 h
        refine lv_aload_n hx hb dX11_write_42 rfl (lv_at hl 0 rfl) ?_
        refine lv_ldc (v := (-1000000011)) hx hb hown (hts _ mb_X11_write_3) dX11_write_43 ?_
        refine g_callV (index := 60) (maxL := 2) (n := 1) (As := [.int (-1000000011)]) (rest := []) (st1 := [.int ((f_X11_found x_host (-1000000011)).1)]) (C1 := RX11) (T1 := TX11) (N1 := 19) (ws2 := (w_X11_write cI cJ cZ cG a_x a_x_now a_x_kept a_x_sortOf a_x_sizeOf a_x_sheets a_x_parts a_x_edge a_x_far a_x_lost x_isKept ((f_X11_found x_host (-1000000011)).2) x_below x_bestTarget x_high x_low x_whole x_tryHigh x_tryLow x_lots x_sortOf x_sizeOf x_sheets)) C hP hD hS hl.1 11 0 (c_X11_found l D cI cJ cZ cG a_x a_x_now a_x_kept a_x_sortOf a_x_sizeOf a_x_sheets a_x_parts a_x_edge a_x_far a_x_lost x_isKept x_host x_below x_bestTarget x_high x_low x_whole x_tryHigh x_tryLow x_lots (-1000000011) _ rfl) gX11_write_X11_found rfl rfl rfl (by decide +kernel) ⟨Nat.le_of_ble_eq_true rfl, Nat.le_of_ble_eq_true rfl⟩ rfl rfl rfl (Nat.le_of_ble_eq_true rfl) rfl dX11_write_45 [0] [1, 2, 3] [3, 0, 1, 2] rfl rfl rfl rfl (by decide) rfl rfl rfl (fun H locs hP hD hS => ?_)
        obtain rfl := Option.some.inj h
        exact g_iret C hP hD hS dX11_write_48
    · have h := iff_ c3 h
      refine lv_aload_n hx hb dX11_write_19 rfl (lv_at hl 0 rfl) ?_
      refine lv_ldc (v := (-1000000010)) hx hb hown (hts _ mb_X11_write_4) dX11_write_20 ?_
      refine g_callV (index := 60) (maxL := 2) (n := 1) (As := [.int (-1000000010)]) (rest := []) (st1 := [.int ((f_X11_found x_host (-1000000010)).1)]) (C1 := RX11) (T1 := TX11) (N1 := 19) (ws2 := (w_X11_write cI cJ cZ cG a_x a_x_now a_x_kept a_x_sortOf a_x_sizeOf a_x_sheets a_x_parts a_x_edge a_x_far a_x_lost x_isKept ((f_X11_found x_host (-1000000010)).2) x_below x_bestTarget x_high x_low x_whole x_tryHigh x_tryLow x_lots x_sortOf x_sizeOf x_sheets)) C hP hD hS hl.1 11 0 (c_X11_found l D cI cJ cZ cG a_x a_x_now a_x_kept a_x_sortOf a_x_sizeOf a_x_sheets a_x_parts a_x_edge a_x_far a_x_lost x_isKept x_host x_below x_bestTarget x_high x_low x_whole x_tryHigh x_tryLow x_lots (-1000000010) _ rfl) gX11_write_X11_found rfl rfl rfl (by decide +kernel) ⟨Nat.le_of_ble_eq_true rfl, Nat.le_of_ble_eq_true rfl⟩ rfl rfl rfl (Nat.le_of_ble_eq_true rfl) rfl dX11_write_22 [0] [1, 2, 3] [3, 0, 1, 2] rfl rfl rfl rfl (by decide) rfl rfl rfl (fun H locs hP hD hS => ?_)
      obtain rfl := Option.some.inj h
      exact g_iret C hP hD hS dX11_write_25
  · have h := ift c1 h
    refine lv_ldc (v := (-1000000002)) hx hb hown (hts _ mb_X11_write_5) dX11_write_7 ?_
    obtain rfl := Option.some.inj h
    exact g_iret C hP hD hS dX11_write_9
theorem in_X11_handFrom_X11 : ∀ w ∈ wsX110, w ∈ wsX11_handFrom := by decide +kernel
theorem mb_X11_handFrom_0 : Cond.fieldLink RX11 9 "GuardDeskModel" "now" "[I" ∈ wsX11_handFrom := List.mem_of_getElem? (i := 5) rfl
theorem mb_X11_handFrom_1 : Cond.fieldLink RX11 26 "GuardDeskModel" "sheets" "[I" ∈ wsX11_handFrom := List.mem_of_getElem? (i := 8) rfl
theorem mb_X11_handFrom_2 : Cond.constant RX11 181 (-1000000011) ∈ wsX11_handFrom := List.mem_of_getElem? (i := 7) rfl
theorem mb_X11_handFrom_3 : Cond.constant RX11 55 (-1000000002) ∈ wsX11_handFrom := List.mem_of_getElem? (i := 1) rfl
theorem mb_X11_handFrom_4 : Cond.fieldLink RX11 20 "GuardDeskModel" "sortOf" "[I" ∈ wsX11_handFrom := List.mem_of_getElem? (i := 2) rfl
theorem mb_X11_handFrom_5 : Cond.fieldLink RX11 23 "GuardDeskModel" "sizeOf" "[I" ∈ wsX11_handFrom := List.mem_of_getElem? (i := 6) rfl
theorem mb_X11_handFrom_6 : Cond.constant RX11 59 (-1000000012) ∈ wsX11_handFrom := List.mem_of_getElem? (i := 4) rfl
theorem mb_X11_handFrom_7 : Cond.constant RX11 64 (-1000000010) ∈ wsX11_handFrom := List.mem_of_getElem? (i := 3) rfl
set_option maxRecDepth 100000 in
set_option maxHeartbeats 4000000 in
theorem t_X11_handFrom_b192 (C : cx D cI cJ cZ cG A cX11_handFrom 9 (some .int) RX11 wsX11_handFrom p s m args meth c) (a_x a_x_now a_x_kept a_x_sortOf a_x_sizeOf a_x_sheets a_x_parts a_x_edge a_x_far a_x_lost : Nat) (x_isKept : Int32) (x_below : Int32) (x_bestTarget : Int32) (x_high : Int64) (x_low : Int64) (x_whole : Int64) (x_tryHigh : Int64) (x_tryLow : Int64) (x_lots : Int32) (x_sortOf : (Nat → Int32)) (x_sizeOf : (Nat → Int32)) (x_sheets : (Nat → Int32)) (N : Nat) (q : Int32 × Int32 × (Nat → Int32)) (x_host : Int32) (x_now : (Nat → Int32)) (k0 : Int32) (k1 : Int32) (v1 : Int32) (v3 : Int32) (v4 : Int32) (v6 : Int32) (v8 : Int32) (k_95 : (Nat → Int32) → Int32 → Int32 → Option (Int32 × Int32 × (Nat → Int32))) (hk_95 : ∀ (x_now : (Nat → Int32)) (v5 : Int32) (v6 : Int32), k_95 x_now v5 v6 = some q → WB p l e rm_X11_handFrom s m args below meth c (MQ below (Qg D (some (.int q.1)) (w_X11_handFrom cI cJ cZ cG a_x a_x_now a_x_kept a_x_sortOf a_x_sizeOf a_x_sheets a_x_parts a_x_edge a_x_far a_x_lost x_isKept q.2.1 x_below x_bestTarget x_high x_low x_whole x_tryHigh x_tryLow x_lots q.2.2 x_sortOf x_sizeOf x_sheets) A) args s 0 0 A) D A 9 (w_X11_handFrom cI cJ cZ cG a_x a_x_now a_x_kept a_x_sortOf a_x_sizeOf a_x_sheets a_x_parts a_x_edge a_x_far a_x_lost x_isKept x_host x_below x_bestTarget x_high x_low x_whole x_tryHigh x_tryLow x_lots x_now x_sortOf x_sizeOf x_sheets) [(0, .ref a_x), (1, .int v1), (3, .int v3), (4, .int v4), (5, .int v5), (6, .int v6)] [] 95) (h : f_X11_handFrom_b192 N x_sortOf x_sizeOf x_sheets k_95 x_host x_now k0 k1 v1 v3 v4 v6 v8 = some q) : WB p l e rm_X11_handFrom s m args below meth c (MQ below (Qg D (some (.int q.1)) (w_X11_handFrom cI cJ cZ cG a_x a_x_now a_x_kept a_x_sortOf a_x_sizeOf a_x_sheets a_x_parts a_x_edge a_x_far a_x_lost x_isKept q.2.1 x_below x_bestTarget x_high x_low x_whole x_tryHigh x_tryLow x_lots q.2.2 x_sortOf x_sizeOf x_sheets) A) args s 0 0 A) D A 9 (w_X11_handFrom cI cJ cZ cG a_x a_x_now a_x_kept a_x_sortOf a_x_sizeOf a_x_sheets a_x_parts a_x_edge a_x_far a_x_lost x_isKept x_host x_below x_bestTarget x_high x_low x_whole x_tryHigh x_tryLow x_lots x_now x_sortOf x_sizeOf x_sheets) [(0, .ref a_x), (1, .int v1), (3, .int v3), (4, .int v4), (6, .int v6), (8, .int v8)] [.int k1, .int k0] 192 := by
  obtain ⟨hx, hb, hr, hml, hown, hts, hlk, hgk, hA⟩ := id C
  have hK := hgk.1
  unfold f_X11_handFrom_b192 at h
  intro H locs ls hP hD hS hl
  refine lv_iadd hx hb dX11_handFrom_192 ?_
  refine lv_istore (lv' := [(5, .int (k0 + k1)), (0, .ref a_x), (1, .int v1), (3, .int v3), (4, .int v4), (6, .int v6), (8, .int v8)]) hx hb dX11_handFrom_193 hl (by decide) rfl (fun ls hl => ?_)
  refine lv_aload_n hx hb dX11_handFrom_195 rfl (lv_at hl 1 rfl) ?_
  refine va_get (D := D) (ci := 11) (v := .ref a_x_now) (C := RX11) (T := TX11) (N := 19) hx hb hts in_X11_handFrom_X11 hown hK hP 0 rfl rfl 0 (by decide) (hts _ mb_X11_handFrom_0) (fun _ h9 => h9) rfl dX11_handFrom_196 ?_
  refine lv_bipush (v := 75) hx hb dX11_handFrom_199 (by decide) ?_
  refine lv_iload hx hb dX11_handFrom_201 (lv_at hl 5 rfl) ?_
  refine lv_iadd hx hb dX11_handFrom_203 ?_
  refine lv_iload hx hb dX11_handFrom_204 (lv_at hl 6 rfl) ?_
  obtain ⟨i1, h⟩ := gI_some h
  refine va_iast hx hb hK hP hD hS 1 0 rfl rfl i1 dX11_handFrom_206 (fun H locs hP hD hS => ?_)
  have hP : va_P D vwCl (w_X11_handFrom cI cJ cZ cG a_x a_x_now a_x_kept a_x_sortOf a_x_sizeOf a_x_sheets a_x_parts a_x_edge a_x_far a_x_lost x_isKept x_host x_below x_bestTarget x_high x_low x_whole x_tryHigh x_tryLow x_lots (upd x_now (75 + v6).toNatClampNeg v8) x_sortOf x_sizeOf x_sheets) H := hP
  have hD : va_D A (w_X11_handFrom cI cJ cZ cG a_x a_x_now a_x_kept a_x_sortOf a_x_sizeOf a_x_sheets a_x_parts a_x_edge a_x_far a_x_lost x_isKept x_host x_below x_bestTarget x_high x_low x_whole x_tryHigh x_tryLow x_lots (upd x_now (75 + v6).toNatClampNeg v8) x_sortOf x_sizeOf x_sheets) := hD
  refine lv_iinc (v := v6 + 1) (lv' := [(6, .int (v6 + 1)), (5, .int (k0 + k1)), (0, .ref a_x), (1, .int v1), (3, .int v3), (4, .int v4), (8, .int v8)]) hx hb dX11_handFrom_207 hl (k := 5) rfl rfl (by decide) rfl (fun ls hl => ?_)
  refine lv_goto (tgt := 95) hx hb dX11_handFrom_210 (by decide) ?_
  exact hk_95 (upd x_now (75 + v6).toNatClampNeg v8) (k0 + k1) (v6 + 1) h H locs ls hP hD hS (lv_sub hl [2, 3, 4, 5, 1, 0] rfl)
set_option maxRecDepth 100000 in
set_option maxHeartbeats 4000000 in
theorem t_X11_handFrom_b176 (C : cx D cI cJ cZ cG A cX11_handFrom 9 (some .int) RX11 wsX11_handFrom p s m args meth c) (a_x a_x_now a_x_kept a_x_sortOf a_x_sizeOf a_x_sheets a_x_parts a_x_edge a_x_far a_x_lost : Nat) (x_isKept : Int32) (x_below : Int32) (x_bestTarget : Int32) (x_high : Int64) (x_low : Int64) (x_whole : Int64) (x_tryHigh : Int64) (x_tryLow : Int64) (x_lots : Int32) (x_sortOf : (Nat → Int32)) (x_sizeOf : (Nat → Int32)) (x_sheets : (Nat → Int32)) (N : Nat) (q : Int32 × Int32 × (Nat → Int32)) (x_host : Int32) (x_now : (Nat → Int32)) (k0 : Int32) (v1 : Int32) (v3 : Int32) (v4 : Int32) (v5 : Int32) (v6 : Int32) (v7 : Int32) (k_95 : (Nat → Int32) → Int32 → Int32 → Option (Int32 × Int32 × (Nat → Int32))) (hk_95 : ∀ (x_now : (Nat → Int32)) (v5 : Int32) (v6 : Int32), k_95 x_now v5 v6 = some q → WB p l e rm_X11_handFrom s m args below meth c (MQ below (Qg D (some (.int q.1)) (w_X11_handFrom cI cJ cZ cG a_x a_x_now a_x_kept a_x_sortOf a_x_sizeOf a_x_sheets a_x_parts a_x_edge a_x_far a_x_lost x_isKept q.2.1 x_below x_bestTarget x_high x_low x_whole x_tryHigh x_tryLow x_lots q.2.2 x_sortOf x_sizeOf x_sheets) A) args s 0 0 A) D A 9 (w_X11_handFrom cI cJ cZ cG a_x a_x_now a_x_kept a_x_sortOf a_x_sizeOf a_x_sheets a_x_parts a_x_edge a_x_far a_x_lost x_isKept x_host x_below x_bestTarget x_high x_low x_whole x_tryHigh x_tryLow x_lots x_now x_sortOf x_sizeOf x_sheets) [(0, .ref a_x), (1, .int v1), (3, .int v3), (4, .int v4), (5, .int v5), (6, .int v6)] [] 95) (h : f_X11_handFrom_b176 N x_sortOf x_sizeOf x_sheets k_95 x_host x_now k0 v1 v3 v4 v5 v6 v7 = some q) : WB p l e rm_X11_handFrom s m args below meth c (MQ below (Qg D (some (.int q.1)) (w_X11_handFrom cI cJ cZ cG a_x a_x_now a_x_kept a_x_sortOf a_x_sizeOf a_x_sheets a_x_parts a_x_edge a_x_far a_x_lost x_isKept q.2.1 x_below x_bestTarget x_high x_low x_whole x_tryHigh x_tryLow x_lots q.2.2 x_sortOf x_sizeOf x_sheets) A) args s 0 0 A) D A 9 (w_X11_handFrom cI cJ cZ cG a_x a_x_now a_x_kept a_x_sortOf a_x_sizeOf a_x_sheets a_x_parts a_x_edge a_x_far a_x_lost x_isKept x_host x_below x_bestTarget x_high x_low x_whole x_tryHigh x_tryLow x_lots x_now x_sortOf x_sizeOf x_sheets) [(0, .ref a_x), (1, .int v1), (3, .int v3), (4, .int v4), (5, .int v5), (6, .int v6), (7, .int v7)] [.int k0] 176 := by
  obtain ⟨hx, hb, hr, hml, hown, hts, hlk, hgk, hA⟩ := id C
  have hK := hgk.1
  unfold f_X11_handFrom_b176 at h
  intro H locs ls hP hD hS hl
  refine lv_istore (lv' := [(8, .int k0), (0, .ref a_x), (1, .int v1), (3, .int v3), (4, .int v4), (5, .int v5), (6, .int v6), (7, .int v7)]) hx hb dX11_handFrom_176 hl (by decide) rfl (fun ls hl => ?_)
  refine lv_iload hx hb dX11_handFrom_178 (lv_at hl 5 rfl) ?_
  refine lv_iload hx hb dX11_handFrom_180 (lv_at hl 0 rfl) ?_
  refine lv_iload hx hb dX11_handFrom_182 (lv_at hl 7 rfl) ?_
  refine lv_icmp_ne (tgt := 191) hx hb dX11_handFrom_184 (by decide) (fun c1 => ?_) (fun c1 => ?_)
  · have h := iff_ c1 h
    refine lv_iconst (v := 1) hx hb dX11_handFrom_191 (by decide) ?_
    exact t_X11_handFrom_b192 C a_x a_x_now a_x_kept a_x_sortOf a_x_sizeOf a_x_sheets a_x_parts a_x_edge a_x_far a_x_lost x_isKept x_below x_bestTarget x_high x_low x_whole x_tryHigh x_tryLow x_lots x_sortOf x_sizeOf x_sheets N q x_host x_now v5 1 v1 v3 v4 v6 k0 k_95 hk_95 h H locs ls hP hD hS (lv_sub hl [1, 2, 3, 4, 6, 0] rfl)
  · have h := ift c1 h
    refine lv_iconst (v := 0) hx hb dX11_handFrom_187 (by decide) ?_
    refine lv_goto (tgt := 192) hx hb dX11_handFrom_188 (by decide) ?_
    exact t_X11_handFrom_b192 C a_x a_x_now a_x_kept a_x_sortOf a_x_sizeOf a_x_sheets a_x_parts a_x_edge a_x_far a_x_lost x_isKept x_below x_bestTarget x_high x_low x_whole x_tryHigh x_tryLow x_lots x_sortOf x_sizeOf x_sheets N q x_host x_now v5 0 v1 v3 v4 v6 k0 k_95 hk_95 h H locs ls hP hD hS (lv_sub hl [1, 2, 3, 4, 6, 0] rfl)
set_option maxRecDepth 100000 in
set_option maxHeartbeats 4000000 in
theorem t_X11_handFrom_b95 (C : cx D cI cJ cZ cG A cX11_handFrom 9 (some .int) RX11 wsX11_handFrom p s m args meth c) (a_x a_x_now a_x_kept a_x_sortOf a_x_sizeOf a_x_sheets a_x_parts a_x_edge a_x_far a_x_lost : Nat) (x_isKept : Int32) (x_below : Int32) (x_bestTarget : Int32) (x_high : Int64) (x_low : Int64) (x_whole : Int64) (x_tryHigh : Int64) (x_tryLow : Int64) (x_lots : Int32) (x_sortOf : (Nat → Int32)) (x_sizeOf : (Nat → Int32)) (x_sheets : (Nat → Int32)) (N : Nat) (q : Int32 × Int32 × (Nat → Int32)) (x_host : Int32) (v1 : Int32) (v3 : Int32) (v4 : Int32) : ∀ (n : Nat) (x_now : (Nat → Int32)) (v5 : Int32) (v6 : Int32), f_X11_handFrom_b95 N x_sortOf x_sizeOf x_sheets x_host v1 v3 v4 n x_now v5 v6 = some q → WB p l e rm_X11_handFrom s m args below meth c (MQ below (Qg D (some (.int q.1)) (w_X11_handFrom cI cJ cZ cG a_x a_x_now a_x_kept a_x_sortOf a_x_sizeOf a_x_sheets a_x_parts a_x_edge a_x_far a_x_lost x_isKept q.2.1 x_below x_bestTarget x_high x_low x_whole x_tryHigh x_tryLow x_lots q.2.2 x_sortOf x_sizeOf x_sheets) A) args s 0 0 A) D A 9 (w_X11_handFrom cI cJ cZ cG a_x a_x_now a_x_kept a_x_sortOf a_x_sizeOf a_x_sheets a_x_parts a_x_edge a_x_far a_x_lost x_isKept x_host x_below x_bestTarget x_high x_low x_whole x_tryHigh x_tryLow x_lots x_now x_sortOf x_sizeOf x_sheets) [(0, .ref a_x), (1, .int v1), (3, .int v3), (4, .int v4), (5, .int v5), (6, .int v6)] [] 95 := by
  obtain ⟨hx, hb, hr, hml, hown, hts, hlk, hgk, hA⟩ := id C
  have hK := hgk.1
  intro n
  induction n with
  | zero => intro x_now v5 v6 h; cases h
  | succ n hk_95 =>
    intro x_now v5 v6 h
    have h : g_X11_handFrom_b95 N x_sortOf x_sizeOf x_sheets x_host v1 v3 v4 (f_X11_handFrom_b95 N x_sortOf x_sizeOf x_sheets x_host v1 v3 v4 n) x_now v5 v6 = some q := h
    generalize f_X11_handFrom_b95 N x_sortOf x_sizeOf x_sheets x_host v1 v3 v4 n = k_95 at h hk_95
    unfold g_X11_handFrom_b95 at h
    intro H locs ls hP hD hS hl
    refine lv_iload hx hb dX11_handFrom_95 (lv_at hl 5 rfl) ?_
    refine lv_iload hx hb dX11_handFrom_97 (lv_at hl 3 rfl) ?_
    refine lv_icmp_ge (tgt := 213) hx hb dX11_handFrom_99 (by decide) (fun c1 => ?_) (fun c1 => ?_)
    · have h := ift c1 h
      refine lv_iload hx hb dX11_handFrom_213 (lv_at hl 4 rfl) ?_
      obtain rfl := Option.some.inj h
      exact g_iret C hP hD hS dX11_handFrom_215
    · have h := iff_ c1 h
      refine lv_aload_n hx hb dX11_handFrom_102 rfl (lv_at hl 0 rfl) ?_
      refine va_get (D := D) (ci := 11) (v := .ref a_x_sheets) (C := RX11) (T := TX11) (N := 19) hx hb hts in_X11_handFrom_X11 hown hK hP 0 rfl rfl 7 (by decide) (hts _ mb_X11_handFrom_1) (fun _ h9 => h9) rfl dX11_handFrom_103 ?_
      refine lv_bipush (v := 40) hx hb dX11_handFrom_106 (by decide) ?_
      refine lv_iload_n hx hb dX11_handFrom_108 rfl (lv_at hl 1 rfl) ?_
      refine lv_imul hx hb dX11_handFrom_109 ?_
      refine lv_iload_n hx hb dX11_handFrom_110 rfl (lv_at hl 2 rfl) ?_
      refine lv_iadd hx hb dX11_handFrom_111 ?_
      refine lv_iload hx hb dX11_handFrom_112 (lv_at hl 5 rfl) ?_
      refine lv_iadd hx hb dX11_handFrom_114 ?_
      obtain ⟨i2, h⟩ := gI_some h
      refine va_iald hx hb hK hP 4 0 rfl rfl i2 dX11_handFrom_115 ?_
      refine lv_istore (lv' := [(7, .int (x_sheets (((40 * v1) + v3) + v6).toNatClampNeg)), (0, .ref a_x), (1, .int v1), (3, .int v3), (4, .int v4), (5, .int v5), (6, .int v6)]) hx hb dX11_handFrom_116 hl (by decide) rfl (fun ls hl => ?_)
      refine lv_iload hx hb dX11_handFrom_118 (lv_at hl 0 rfl) ?_
      refine lv_aload_n hx hb dX11_handFrom_120 rfl (lv_at hl 1 rfl) ?_
      refine va_get (D := D) (ci := 11) (v := .ref a_x_now) (C := RX11) (T := TX11) (N := 19) hx hb hts in_X11_handFrom_X11 hown hK hP 0 rfl rfl 0 (by decide) (hts _ mb_X11_handFrom_0) (fun _ h9 => h9) rfl dX11_handFrom_121 ?_
      refine lv_bipush (v := 55) hx hb dX11_handFrom_124 (by decide) ?_
      refine lv_iload hx hb dX11_handFrom_126 (lv_at hl 6 rfl) ?_
      refine lv_iadd hx hb dX11_handFrom_128 ?_
      obtain ⟨i3, h⟩ := gI_some h
      refine va_iald hx hb hK hP 1 0 rfl rfl i3 dX11_handFrom_129 ?_
      refine lv_icmp_ge (tgt := 146) hx hb dX11_handFrom_130 (by decide) (fun c4 => ?_) (fun c4 => ?_)
      · have h := ift c4 h
        refine lv_iload hx hb dX11_handFrom_146 (lv_at hl 0 rfl) ?_
        refine lv_aload_n hx hb dX11_handFrom_148 rfl (lv_at hl 1 rfl) ?_
        refine va_get (D := D) (ci := 11) (v := .ref a_x_now) (C := RX11) (T := TX11) (N := 19) hx hb hts in_X11_handFrom_X11 hown hK hP 0 rfl rfl 0 (by decide) (hts _ mb_X11_handFrom_0) (fun _ h9 => h9) rfl dX11_handFrom_149 ?_
        refine lv_bipush (v := 65) hx hb dX11_handFrom_152 (by decide) ?_
        refine lv_iload hx hb dX11_handFrom_154 (lv_at hl 6 rfl) ?_
        refine lv_iadd hx hb dX11_handFrom_156 ?_
        obtain ⟨i5, h⟩ := gI_some h
        refine va_iald hx hb hK hP 1 0 rfl rfl i5 dX11_handFrom_157 ?_
        refine lv_icmp_le (tgt := 174) hx hb dX11_handFrom_158 (by decide) (fun c6 => ?_) (fun c6 => ?_)
        · have h := ift c6 h
          refine lv_iload hx hb dX11_handFrom_174 (lv_at hl 0 rfl) ?_
          exact t_X11_handFrom_b176 C a_x a_x_now a_x_kept a_x_sortOf a_x_sizeOf a_x_sheets a_x_parts a_x_edge a_x_far a_x_lost x_isKept x_below x_bestTarget x_high x_low x_whole x_tryHigh x_tryLow x_lots x_sortOf x_sizeOf x_sheets N q x_host x_now (x_sheets (((40 * v1) + v3) + v6).toNatClampNeg) v1 v3 v4 v5 v6 (x_sheets (((40 * v1) + v3) + v6).toNatClampNeg) k_95 hk_95 h H locs ls hP hD hS (lv_sub hl [1, 2, 3, 4, 5, 6, 0] rfl)
        · have h := iff_ c6 h
          refine lv_aload_n hx hb dX11_handFrom_161 rfl (lv_at hl 1 rfl) ?_
          refine va_get (D := D) (ci := 11) (v := .ref a_x_now) (C := RX11) (T := TX11) (N := 19) hx hb hts in_X11_handFrom_X11 hown hK hP 0 rfl rfl 0 (by decide) (hts _ mb_X11_handFrom_0) (fun _ h9 => h9) rfl dX11_handFrom_162 ?_
          refine lv_bipush (v := 65) hx hb dX11_handFrom_165 (by decide) ?_
          refine lv_iload hx hb dX11_handFrom_167 (lv_at hl 6 rfl) ?_
          refine lv_iadd hx hb dX11_handFrom_169 ?_
          obtain ⟨i7, h⟩ := gI_some h
          refine va_iald hx hb hK hP 1 0 rfl rfl i7 dX11_handFrom_170 ?_
          refine lv_goto (tgt := 176) hx hb dX11_handFrom_171 (by decide) ?_
          exact t_X11_handFrom_b176 C a_x a_x_now a_x_kept a_x_sortOf a_x_sizeOf a_x_sheets a_x_parts a_x_edge a_x_far a_x_lost x_isKept x_below x_bestTarget x_high x_low x_whole x_tryHigh x_tryLow x_lots x_sortOf x_sizeOf x_sheets N q x_host x_now (x_now (65 + v6).toNatClampNeg) v1 v3 v4 v5 v6 (x_sheets (((40 * v1) + v3) + v6).toNatClampNeg) k_95 hk_95 h H locs ls hP hD hS (lv_sub hl [1, 2, 3, 4, 5, 6, 0] rfl)
      · have h := iff_ c4 h
        refine lv_aload_n hx hb dX11_handFrom_133 rfl (lv_at hl 1 rfl) ?_
        refine va_get (D := D) (ci := 11) (v := .ref a_x_now) (C := RX11) (T := TX11) (N := 19) hx hb hts in_X11_handFrom_X11 hown hK hP 0 rfl rfl 0 (by decide) (hts _ mb_X11_handFrom_0) (fun _ h9 => h9) rfl dX11_handFrom_134 ?_
        refine lv_bipush (v := 55) hx hb dX11_handFrom_137 (by decide) ?_
        refine lv_iload hx hb dX11_handFrom_139 (lv_at hl 6 rfl) ?_
        refine lv_iadd hx hb dX11_handFrom_141 ?_
        obtain ⟨i8, h⟩ := gI_some h
        refine va_iald hx hb hK hP 1 0 rfl rfl i8 dX11_handFrom_142 ?_
        refine lv_goto (tgt := 176) hx hb dX11_handFrom_143 (by decide) ?_
        exact t_X11_handFrom_b176 C a_x a_x_now a_x_kept a_x_sortOf a_x_sizeOf a_x_sheets a_x_parts a_x_edge a_x_far a_x_lost x_isKept x_below x_bestTarget x_high x_low x_whole x_tryHigh x_tryLow x_lots x_sortOf x_sizeOf x_sheets N q x_host x_now (x_now (55 + v6).toNatClampNeg) v1 v3 v4 v5 v6 (x_sheets (((40 * v1) + v3) + v6).toNatClampNeg) k_95 hk_95 h H locs ls hP hD hS (lv_sub hl [1, 2, 3, 4, 5, 6, 0] rfl)
set_option maxRecDepth 100000 in
set_option maxHeartbeats 4000000 in
theorem t_X11_handFrom_b89 (C : cx D cI cJ cZ cG A cX11_handFrom 9 (some .int) RX11 wsX11_handFrom p s m args meth c) (a_x a_x_now a_x_kept a_x_sortOf a_x_sizeOf a_x_sheets a_x_parts a_x_edge a_x_far a_x_lost : Nat) (x_isKept : Int32) (x_below : Int32) (x_bestTarget : Int32) (x_high : Int64) (x_low : Int64) (x_whole : Int64) (x_tryHigh : Int64) (x_tryLow : Int64) (x_lots : Int32) (x_sortOf : (Nat → Int32)) (x_sizeOf : (Nat → Int32)) (x_sheets : (Nat → Int32)) (N : Nat) (q : Int32 × Int32 × (Nat → Int32)) (x_host : Int32) (x_now : (Nat → Int32)) (v1 : Int32) (v3 : Int32) (v4 : Int32) (h : f_X11_handFrom_b89 N x_sortOf x_sizeOf x_sheets x_host x_now v1 v3 v4 = some q) : WB p l e rm_X11_handFrom s m args below meth c (MQ below (Qg D (some (.int q.1)) (w_X11_handFrom cI cJ cZ cG a_x a_x_now a_x_kept a_x_sortOf a_x_sizeOf a_x_sheets a_x_parts a_x_edge a_x_far a_x_lost x_isKept q.2.1 x_below x_bestTarget x_high x_low x_whole x_tryHigh x_tryLow x_lots q.2.2 x_sortOf x_sizeOf x_sheets) A) args s 0 0 A) D A 9 (w_X11_handFrom cI cJ cZ cG a_x a_x_now a_x_kept a_x_sortOf a_x_sizeOf a_x_sheets a_x_parts a_x_edge a_x_far a_x_lost x_isKept x_host x_below x_bestTarget x_high x_low x_whole x_tryHigh x_tryLow x_lots x_now x_sortOf x_sizeOf x_sheets) [(0, .ref a_x), (1, .int v1), (3, .int v3), (4, .int v4)] [] 89 := by
  obtain ⟨hx, hb, hr, hml, hown, hts, hlk, hgk, hA⟩ := id C
  have hK := hgk.1
  unfold f_X11_handFrom_b89 at h
  intro H locs ls hP hD hS hl
  refine lv_iconst (v := 0) hx hb dX11_handFrom_89 (by decide) ?_
  refine lv_istore (lv' := [(5, .int 0), (0, .ref a_x), (1, .int v1), (3, .int v3), (4, .int v4)]) hx hb dX11_handFrom_90 hl (by decide) rfl (fun ls hl => ?_)
  refine lv_iconst (v := 0) hx hb dX11_handFrom_92 (by decide) ?_
  refine lv_istore (lv' := [(6, .int 0), (5, .int 0), (0, .ref a_x), (1, .int v1), (3, .int v3), (4, .int v4)]) hx hb dX11_handFrom_93 hl (by decide) rfl (fun ls hl => ?_)
  exact t_X11_handFrom_b95 C a_x a_x_now a_x_kept a_x_sortOf a_x_sizeOf a_x_sheets a_x_parts a_x_edge a_x_far a_x_lost x_isKept x_below x_bestTarget x_high x_low x_whole x_tryHigh x_tryLow x_lots x_sortOf x_sizeOf x_sheets N q x_host v1 v3 v4 N x_now 0 0 h H locs ls hP hD hS (lv_sub hl [2, 3, 4, 5, 1, 0] rfl)
set_option maxRecDepth 100000 in
set_option maxHeartbeats 4000000 in
theorem t_X11_handFrom_b82 (C : cx D cI cJ cZ cG A cX11_handFrom 9 (some .int) RX11 wsX11_handFrom p s m args meth c) (a_x a_x_now a_x_kept a_x_sortOf a_x_sizeOf a_x_sheets a_x_parts a_x_edge a_x_far a_x_lost : Nat) (x_isKept : Int32) (x_below : Int32) (x_bestTarget : Int32) (x_high : Int64) (x_low : Int64) (x_whole : Int64) (x_tryHigh : Int64) (x_tryLow : Int64) (x_lots : Int32) (x_sortOf : (Nat → Int32)) (x_sizeOf : (Nat → Int32)) (x_sheets : (Nat → Int32)) (N : Nat) (q : Int32 × Int32 × (Nat → Int32)) (x_host : Int32) (x_now : (Nat → Int32)) (h : f_X11_handFrom_b82 N x_sortOf x_sizeOf x_sheets x_host x_now = some q) : WB p l e rm_X11_handFrom s m args below meth c (MQ below (Qg D (some (.int q.1)) (w_X11_handFrom cI cJ cZ cG a_x a_x_now a_x_kept a_x_sortOf a_x_sizeOf a_x_sheets a_x_parts a_x_edge a_x_far a_x_lost x_isKept q.2.1 x_below x_bestTarget x_high x_low x_whole x_tryHigh x_tryLow x_lots q.2.2 x_sortOf x_sizeOf x_sheets) A) args s 0 0 A) D A 9 (w_X11_handFrom cI cJ cZ cG a_x a_x_now a_x_kept a_x_sortOf a_x_sizeOf a_x_sheets a_x_parts a_x_edge a_x_far a_x_lost x_isKept x_host x_below x_bestTarget x_high x_low x_whole x_tryHigh x_tryLow x_lots x_now x_sortOf x_sizeOf x_sheets) [(0, .ref a_x)] [] 82 := by
  obtain ⟨hx, hb, hr, hml, hown, hts, hlk, hgk, hA⟩ := id C
  have hK := hgk.1
  unfold f_X11_handFrom_b82 at h
  intro H locs ls hP hD hS hl
  refine lv_aload_n hx hb dX11_handFrom_82 rfl (lv_at hl 0 rfl) ?_
  refine lv_ldc (v := (-1000000011)) hx hb hown (hts _ mb_X11_handFrom_2) dX11_handFrom_83 ?_
  refine g_callV (index := 60) (maxL := 2) (n := 1) (As := [.int (-1000000011)]) (rest := []) (st1 := [.int ((f_X11_found x_host (-1000000011)).1)]) (C1 := RX11) (T1 := TX11) (N1 := 19) (ws2 := (w_X11_handFrom cI cJ cZ cG a_x a_x_now a_x_kept a_x_sortOf a_x_sizeOf a_x_sheets a_x_parts a_x_edge a_x_far a_x_lost x_isKept ((f_X11_found x_host (-1000000011)).2) x_below x_bestTarget x_high x_low x_whole x_tryHigh x_tryLow x_lots x_now x_sortOf x_sizeOf x_sheets)) C hP hD hS hl.1 11 0 (c_X11_found l D cI cJ cZ cG a_x a_x_now a_x_kept a_x_sortOf a_x_sizeOf a_x_sheets a_x_parts a_x_edge a_x_far a_x_lost x_isKept x_host x_below x_bestTarget x_high x_low x_whole x_tryHigh x_tryLow x_lots (-1000000011) _ rfl) gX11_handFrom_X11_found rfl rfl rfl (by decide +kernel) ⟨Nat.le_of_ble_eq_true rfl, Nat.le_of_ble_eq_true rfl⟩ rfl rfl rfl (Nat.le_of_ble_eq_true rfl) rfl dX11_handFrom_85 [0] [1, 2, 3, 4] [4, 0, 1, 2, 3] rfl rfl rfl rfl (by decide) rfl rfl rfl (fun H locs hP hD hS => ?_)
  obtain rfl := Option.some.inj h
  exact g_iret C hP hD hS dX11_handFrom_88
set_option maxRecDepth 100000 in
set_option maxHeartbeats 4000000 in
theorem c_X11_handFrom (l : Launch) (D : va_G) (cI cJ cZ cG : ClassId) (a_x a_x_now a_x_kept a_x_sortOf a_x_sizeOf a_x_sheets a_x_parts a_x_edge a_x_far a_x_lost : Nat) (x_isKept : Int32) (x_host : Int32) (x_below : Int32) (x_bestTarget : Int32) (x_high : Int64) (x_low : Int64) (x_whole : Int64) (x_tryHigh : Int64) (x_tryLow : Int64) (x_lots : Int32) (x_now : (Nat → Int32)) (x_sortOf : (Nat → Int32)) (x_sizeOf : (Nat → Int32)) (x_sheets : (Nat → Int32)) (p1 : Int32) (p2 : Int32) (p3 : Int32) (N : Nat) (q : Int32 × Int32 × (Nat → Int32)) (h : f_X11_handFrom N x_host x_now x_sortOf x_sizeOf x_sheets p1 p2 p3 = some q) : gMet l yX11_handFrom wsX11_handFrom rm_X11_handFrom [.ref a_x, .int p1, .int p2, .int p3] (w_X11_handFrom cI cJ cZ cG a_x a_x_now a_x_kept a_x_sortOf a_x_sizeOf a_x_sheets a_x_parts a_x_edge a_x_far a_x_lost x_isKept x_host x_below x_bestTarget x_high x_low x_whole x_tryHigh x_tryLow x_lots x_now x_sortOf x_sizeOf x_sheets) (w_X11_handFrom cI cJ cZ cG a_x a_x_now a_x_kept a_x_sortOf a_x_sizeOf a_x_sheets a_x_parts a_x_edge a_x_far a_x_lost x_isKept q.2.1 x_below x_bestTarget x_high x_low x_whole x_tryHigh x_tryLow x_lots q.2.2 x_sortOf x_sizeOf x_sheets) (some (.int q.1)) D cI cJ cZ cG := by
  refine g_enter (cc := cX11_handFrom) (nL := 9) (ret := (some .int)) (by decide) rfl (Nat.le_of_ble_eq_true rfl) ?_
  intro p e s m below meth c A C H locs ls hP hD hS hl
  obtain ⟨hx, hb, hr, hml, hown, hts, hlk, hgk, hA⟩ := id C
  have hK := hgk.1
  have hl : lv_has ls 9 [(0, .ref a_x), (1, .int p1), (2, .int p2), (3, .int p3)] := hl
  unfold f_X11_handFrom at h
  refine lv_iload_n hx hb dX11_handFrom_0 rfl (lv_at hl 1 rfl) ?_
  refine g_callS0 (index := 177) (maxL := 1) (n := 1) (As := [.int p1]) (rest := []) (st1 := [.int (f_X11_isSheet p1)]) C hP hS hl.1 (c_X11_isSheet l D cI cJ cZ cG p1 _ rfl) gX11_handFrom_X11_isSheet rfl rfl rfl (by decide +kernel) ⟨Nat.le_of_ble_eq_true rfl, Nat.le_of_ble_eq_true rfl⟩ rfl (Nat.le_of_ble_eq_true rfl) rfl dX11_handFrom_1 rfl (fun H locs hP hS => ?_)
  refine lv_if_eq (tgt := 16) hx hb dX11_handFrom_4 (by decide) (fun c1 => ?_) (fun c1 => ?_)
  · have h := ift c1 h
    refine lv_ldc (v := (-1000000002)) hx hb hown (hts _ mb_X11_handFrom_3) dX11_handFrom_16 ?_
    obtain rfl := Option.some.inj h
    exact g_iret C hP hD hS dX11_handFrom_18
  · have h := iff_ c1 h
    refine lv_iload_n hx hb dX11_handFrom_7 rfl (lv_at hl 2 rfl) ?_
    refine lv_iconst (v := 0) hx hb dX11_handFrom_8 (by decide) ?_
    refine lv_iconst (v := 2) hx hb dX11_handFrom_9 (by decide) ?_
    refine g_callS0 (index := 47) (maxL := 3) (n := 3) (As := [.int p2, .int 0, .int 2]) (rest := []) (st1 := [.int (f_X11_within p2 0 2)]) C hP hS hl.1 (c_X11_within l D cI cJ cZ cG p2 0 2 _ rfl) gX11_handFrom_X11_within rfl rfl rfl (by decide +kernel) ⟨Nat.le_of_ble_eq_true rfl, Nat.le_of_ble_eq_true rfl⟩ rfl (Nat.le_of_ble_eq_true rfl) rfl dX11_handFrom_10 rfl (fun H locs hP hS => ?_)
    refine lv_if_ne (tgt := 19) hx hb dX11_handFrom_13 (by decide) (fun c2 => ?_) (fun c2 => ?_)
    · have h := iff_ c2 h
      refine lv_aload_n hx hb dX11_handFrom_19 rfl (lv_at hl 0 rfl) ?_
      refine va_get (D := D) (ci := 11) (v := .ref a_x_sortOf) (C := RX11) (T := TX11) (N := 19) hx hb hts in_X11_handFrom_X11 hown hK hP 0 rfl rfl 5 (by decide) (hts _ mb_X11_handFrom_4) (fun _ h9 => h9) rfl dX11_handFrom_20 ?_
      refine lv_iload_n hx hb dX11_handFrom_23 rfl (lv_at hl 1 rfl) ?_
      obtain ⟨i3, h⟩ := gI_some h
      refine va_iald hx hb hK hP 2 0 rfl rfl i3 dX11_handFrom_24 ?_
      refine lv_if_ge (tgt := 35) hx hb dX11_handFrom_25 (by decide) (fun c4 => ?_) (fun c4 => ?_)
      · have h := ift c4 h
        refine lv_aload_n hx hb dX11_handFrom_35 rfl (lv_at hl 0 rfl) ?_
        refine va_get (D := D) (ci := 11) (v := .ref a_x_sortOf) (C := RX11) (T := TX11) (N := 19) hx hb hts in_X11_handFrom_X11 hown hK hP 0 rfl rfl 5 (by decide) (hts _ mb_X11_handFrom_4) (fun _ h9 => h9) rfl dX11_handFrom_36 ?_
        refine lv_iload_n hx hb dX11_handFrom_39 rfl (lv_at hl 1 rfl) ?_
        obtain ⟨i5, h⟩ := gI_some h
        refine va_iald hx hb hK hP 2 0 rfl rfl i5 dX11_handFrom_40 ?_
        refine lv_iload_n hx hb dX11_handFrom_41 rfl (lv_at hl 2 rfl) ?_
        refine lv_icmp_eq (tgt := 52) hx hb dX11_handFrom_42 (by decide) (fun c6 => ?_) (fun c6 => ?_)
        · have h := ift c6 h
          refine lv_aload_n hx hb dX11_handFrom_52 rfl (lv_at hl 0 rfl) ?_
          refine va_get (D := D) (ci := 11) (v := .ref a_x_now) (C := RX11) (T := TX11) (N := 19) hx hb hts in_X11_handFrom_X11 hown hK hP 0 rfl rfl 0 (by decide) (hts _ mb_X11_handFrom_0) (fun _ h9 => h9) rfl dX11_handFrom_53 ?_
          refine lv_iconst (v := 0) hx hb dX11_handFrom_56 (by decide) ?_
          refine va_iald hx hb hK hP 1 0 rfl rfl (g_lit (i := 0) (n := 194) (by decide)) dX11_handFrom_57 ?_
          refine W.eq (g2 := F0 m 58 ls [.int (x_now 0)]) rfl ?_
          refine lv_istore (lv' := [(4, .int (x_now 0)), (0, .ref a_x), (1, .int p1), (2, .int p2), (3, .int p3)]) hx hb dX11_handFrom_58 hl (by decide) rfl (fun ls hl => ?_)
          refine lv_iload hx hb dX11_handFrom_60 (lv_at hl 0 rfl) ?_
          refine lv_if_le (tgt := 89) hx hb dX11_handFrom_62 (by decide) (fun c7 => ?_) (fun c7 => ?_)
          · have h := ift c7 h
            exact t_X11_handFrom_b89 C a_x a_x_now a_x_kept a_x_sortOf a_x_sizeOf a_x_sheets a_x_parts a_x_edge a_x_far a_x_lost x_isKept x_below x_bestTarget x_high x_low x_whole x_tryHigh x_tryLow x_lots x_sortOf x_sizeOf x_sheets N q x_host x_now p1 p3 (x_now 0) h H locs ls hP hD hS (lv_sub hl [1, 2, 4, 0] rfl)
          · have h := iff_ c7 h
            refine lv_iload_n hx hb dX11_handFrom_65 rfl (lv_at hl 4 rfl) ?_
            refine lv_if_lt (tgt := 82) hx hb dX11_handFrom_66 (by decide) (fun c8 => ?_) (fun c8 => ?_)
            · have h := ift c8 h
              exact t_X11_handFrom_b82 C a_x a_x_now a_x_kept a_x_sortOf a_x_sizeOf a_x_sheets a_x_parts a_x_edge a_x_far a_x_lost x_isKept x_below x_bestTarget x_high x_low x_whole x_tryHigh x_tryLow x_lots x_sortOf x_sizeOf x_sheets N q x_host x_now h H locs ls hP hD hS (lv_sub hl [1] rfl)
            · have h := iff_ c8 h
              refine lv_iload_n hx hb dX11_handFrom_69 rfl (lv_at hl 4 rfl) ?_
              refine lv_aload_n hx hb dX11_handFrom_70 rfl (lv_at hl 1 rfl) ?_
              refine va_get (D := D) (ci := 11) (v := .ref a_x_sizeOf) (C := RX11) (T := TX11) (N := 19) hx hb hts in_X11_handFrom_X11 hown hK hP 0 rfl rfl 6 (by decide) (hts _ mb_X11_handFrom_5) (fun _ h9 => h9) rfl dX11_handFrom_71 ?_
              refine lv_iload_n hx hb dX11_handFrom_74 rfl (lv_at hl 2 rfl) ?_
              obtain ⟨i9, h⟩ := gI_some h
              refine va_iald hx hb hK hP 3 0 rfl rfl i9 dX11_handFrom_75 ?_
              refine lv_iload hx hb dX11_handFrom_76 (lv_at hl 0 rfl) ?_
              refine lv_isub hx hb dX11_handFrom_78 ?_
              refine lv_icmp_le (tgt := 89) hx hb dX11_handFrom_79 (by decide) (fun c10 => ?_) (fun c10 => ?_)
              · have h := ift c10 h
                exact t_X11_handFrom_b89 C a_x a_x_now a_x_kept a_x_sortOf a_x_sizeOf a_x_sheets a_x_parts a_x_edge a_x_far a_x_lost x_isKept x_below x_bestTarget x_high x_low x_whole x_tryHigh x_tryLow x_lots x_sortOf x_sizeOf x_sheets N q x_host x_now p1 p3 (x_now 0) h H locs ls hP hD hS (lv_sub hl [1, 2, 4, 0] rfl)
              · have h := iff_ c10 h
                exact t_X11_handFrom_b82 C a_x a_x_now a_x_kept a_x_sortOf a_x_sizeOf a_x_sheets a_x_parts a_x_edge a_x_far a_x_lost x_isKept x_below x_bestTarget x_high x_low x_whole x_tryHigh x_tryLow x_lots x_sortOf x_sizeOf x_sheets N q x_host x_now h H locs ls hP hD hS (lv_sub hl [1] rfl)
        · have h := iff_ c6 h
          refine lv_aload_n hx hb dX11_handFrom_45 rfl (lv_at hl 0 rfl) ?_
          refine lv_ldc (v := (-1000000012)) hx hb hown (hts _ mb_X11_handFrom_6) dX11_handFrom_46 ?_
          refine g_callV (index := 60) (maxL := 2) (n := 1) (As := [.int (-1000000012)]) (rest := []) (st1 := [.int ((f_X11_found x_host (-1000000012)).1)]) (C1 := RX11) (T1 := TX11) (N1 := 19) (ws2 := (w_X11_handFrom cI cJ cZ cG a_x a_x_now a_x_kept a_x_sortOf a_x_sizeOf a_x_sheets a_x_parts a_x_edge a_x_far a_x_lost x_isKept ((f_X11_found x_host (-1000000012)).2) x_below x_bestTarget x_high x_low x_whole x_tryHigh x_tryLow x_lots x_now x_sortOf x_sizeOf x_sheets)) C hP hD hS hl.1 11 0 (c_X11_found l D cI cJ cZ cG a_x a_x_now a_x_kept a_x_sortOf a_x_sizeOf a_x_sheets a_x_parts a_x_edge a_x_far a_x_lost x_isKept x_host x_below x_bestTarget x_high x_low x_whole x_tryHigh x_tryLow x_lots (-1000000012) _ rfl) gX11_handFrom_X11_found rfl rfl rfl (by decide +kernel) ⟨Nat.le_of_ble_eq_true rfl, Nat.le_of_ble_eq_true rfl⟩ rfl rfl rfl (Nat.le_of_ble_eq_true rfl) rfl dX11_handFrom_48 [0] [1, 2, 3, 4] [4, 0, 1, 2, 3] rfl rfl rfl rfl (by decide) rfl rfl rfl (fun H locs hP hD hS => ?_)
          obtain rfl := Option.some.inj h
          exact g_iret C hP hD hS dX11_handFrom_51
      · have h := iff_ c4 h
        refine lv_aload_n hx hb dX11_handFrom_28 rfl (lv_at hl 0 rfl) ?_
        refine lv_ldc (v := (-1000000010)) hx hb hown (hts _ mb_X11_handFrom_7) dX11_handFrom_29 ?_
        refine g_callV (index := 60) (maxL := 2) (n := 1) (As := [.int (-1000000010)]) (rest := []) (st1 := [.int ((f_X11_found x_host (-1000000010)).1)]) (C1 := RX11) (T1 := TX11) (N1 := 19) (ws2 := (w_X11_handFrom cI cJ cZ cG a_x a_x_now a_x_kept a_x_sortOf a_x_sizeOf a_x_sheets a_x_parts a_x_edge a_x_far a_x_lost x_isKept ((f_X11_found x_host (-1000000010)).2) x_below x_bestTarget x_high x_low x_whole x_tryHigh x_tryLow x_lots x_now x_sortOf x_sizeOf x_sheets)) C hP hD hS hl.1 11 0 (c_X11_found l D cI cJ cZ cG a_x a_x_now a_x_kept a_x_sortOf a_x_sizeOf a_x_sheets a_x_parts a_x_edge a_x_far a_x_lost x_isKept x_host x_below x_bestTarget x_high x_low x_whole x_tryHigh x_tryLow x_lots (-1000000010) _ rfl) gX11_handFrom_X11_found rfl rfl rfl (by decide +kernel) ⟨Nat.le_of_ble_eq_true rfl, Nat.le_of_ble_eq_true rfl⟩ rfl rfl rfl (Nat.le_of_ble_eq_true rfl) rfl dX11_handFrom_31 [0] [1, 2, 3, 4] [4, 0, 1, 2, 3] rfl rfl rfl rfl (by decide) rfl rfl rfl (fun H locs hP hD hS => ?_)
        obtain rfl := Option.some.inj h
        exact g_iret C hP hD hS dX11_handFrom_34
    · have h := ift c2 h
      refine lv_ldc (v := (-1000000002)) hx hb hown (hts _ mb_X11_handFrom_3) dX11_handFrom_16 ?_
      obtain rfl := Option.some.inj h
      exact g_iret C hP hD hS dX11_handFrom_18
