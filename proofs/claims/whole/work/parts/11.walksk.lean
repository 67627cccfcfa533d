variable {p : Program} {l : Launch} {e : Env} {s : State} {m : MethodId} {args : Array Value} {below : List Frame} {meth : Method} {c : Code} {D : va_G} {A : Nat → Prop} {cI cJ cZ cG : ClassId}
theorem in_X11_keep_X11 : ∀ w ∈ wsX110, w ∈ wsX11_keep := by decide +kernel
theorem mb_X11_keep_0 : Cond.fieldLink RX11 182 "GuardDeskModel" "isKept" "Z" ∈ wsX11_keep := List.mem_of_getElem? (i := 3) rfl
theorem mb_X11_keep_1 : Cond.fieldLink RX11 9 "GuardDeskModel" "now" "[I" ∈ wsX11_keep := List.mem_of_getElem? (i := 2) rfl
theorem mb_X11_keep_2 : Cond.fieldLink RX11 13 "GuardDeskModel" "kept" "[I" ∈ wsX11_keep := List.mem_of_getElem? (i := 1) rfl
set_option maxRecDepth 100000 in
set_option maxHeartbeats 4000000 in
theorem t_X11_keep_b2 (C : cx D cI cJ cZ cG A cX11_keep 2 (some .int) RX11 wsX11_keep p s m args meth c) (a_x a_x_now a_x_kept a_x_sortOf a_x_sizeOf a_x_sheets a_x_parts a_x_edge a_x_far a_x_lost : Nat) (x_host : Int32) (x_below : Int32) (x_bestTarget : Int32) (x_high : Int64) (x_low : Int64) (x_whole : Int64) (x_tryHigh : Int64) (x_tryLow : Int64) (x_lots : Int32) (x_now : (Nat → Int32)) (N : Nat) (q : Int32 × Int32 × (Nat → Int32)) (x_isKept : Int32) : ∀ (n : Nat) (x_kept : (Nat → Int32)) (v1 : Int32), f_X11_keep_b2 N x_now x_isKept n x_kept v1 = some q → WB p l e rm_X11_keep s m args below meth c (MQ below (Qg D (some (.int q.1)) (w_X11_keep cI cJ cZ cG a_x a_x_now a_x_kept a_x_sortOf a_x_sizeOf a_x_sheets a_x_parts a_x_edge a_x_far a_x_lost q.2.1 x_host x_below x_bestTarget x_high x_low x_whole x_tryHigh x_tryLow x_lots x_now q.2.2) A) args s 0 0 A) D A 2 (w_X11_keep cI cJ cZ cG a_x a_x_now a_x_kept a_x_sortOf a_x_sizeOf a_x_sheets a_x_parts a_x_edge a_x_far a_x_lost x_isKept x_host x_below x_bestTarget x_high x_low x_whole x_tryHigh x_tryLow x_lots x_now x_kept) [(0, .ref a_x), (1, .int v1)] [] 2 := by
  obtain ⟨hx, hb, hr, hml, hown, hts, hlk, hgk, hA⟩ := id C
  have hK := hgk.1
  intro n
  induction n with
  | zero => intro x_kept v1 h; cases h
  | succ n hk_2 =>
    intro x_kept v1 h
    have h : g_X11_keep_b2 N x_now x_isKept (f_X11_keep_b2 N x_now x_isKept n) x_kept v1 = some q := h
    generalize f_X11_keep_b2 N x_now x_isKept n = k_2 at h hk_2
    unfold g_X11_keep_b2 at h
    intro H locs ls hP hD hS hl
    refine lv_iload_n hx hb dX11_keep_2 rfl (lv_at hl 1 rfl) ?_
    refine lv_sipush (v := 194) hx hb dX11_keep_3 (by decide) ?_
    refine lv_icmp_ge (tgt := 27) hx hb dX11_keep_6 (by decide) (fun c1 => ?_) (fun c1 => ?_)
    · have h := ift c1 h
      refine lv_aload_n hx hb dX11_keep_27 rfl (lv_at hl 0 rfl) ?_
      refine lv_iconst (v := 1) hx hb dX11_keep_28 (by decide) ?_
      refine va_put (D := D) (ci := 11) (v := .int 1) (ty := .boolean) (C := RX11) (T := TX11) (N := 19) hx hb hts in_X11_keep_X11 tyX11 tyX11_ok nmX11 hown hK hP hD hS 0 rfl rfl 2 (by decide) (hts _ mb_X11_keep_0) (fun _ h9 => h9) rfl (by decide +kernel) rfl rfl (Nat.le_of_ble_eq_true rfl) dX11_keep_29 (fun H locs hP hD hS => ?_)
      have hP : va_P D vwCl (w_X11_keep cI cJ cZ cG a_x a_x_now a_x_kept a_x_sortOf a_x_sizeOf a_x_sheets a_x_parts a_x_edge a_x_far a_x_lost 1 x_host x_below x_bestTarget x_high x_low x_whole x_tryHigh x_tryLow x_lots x_now x_kept) H := hP
      have hD : va_D A (w_X11_keep cI cJ cZ cG a_x a_x_now a_x_kept a_x_sortOf a_x_sizeOf a_x_sheets a_x_parts a_x_edge a_x_far a_x_lost 1 x_host x_below x_bestTarget x_high x_low x_whole x_tryHigh x_tryLow x_lots x_now x_kept) := hD
      refine lv_aload_n hx hb dX11_keep_32 rfl (lv_at hl 0 rfl) ?_
      refine va_get (D := D) (ci := 11) (v := .ref a_x_now) (C := RX11) (T := TX11) (N := 19) hx hb hts in_X11_keep_X11 hown hK hP 0 rfl rfl 0 (by decide) (hts _ mb_X11_keep_1) (fun _ h9 => h9) rfl dX11_keep_33 ?_
      refine lv_iconst (v := 0) hx hb dX11_keep_36 (by decide) ?_
      refine va_iald hx hb hK hP 1 0 rfl rfl (g_lit (i := 0) (n := 194) (by decide)) dX11_keep_37 ?_
      refine W.eq (g2 := F0 m 38 ls [.int (x_now 0)]) rfl ?_
      obtain rfl := Option.some.inj h
      exact g_iret C hP hD hS dX11_keep_38
    · have h := iff_ c1 h
      refine lv_aload_n hx hb dX11_keep_9 rfl (lv_at hl 0 rfl) ?_
      refine va_get (D := D) (ci := 11) (v := .ref a_x_kept) (C := RX11) (T := TX11) (N := 19) hx hb hts in_X11_keep_X11 hown hK hP 0 rfl rfl 1 (by decide) (hts _ mb_X11_keep_2) (fun _ h9 => h9) rfl dX11_keep_10 ?_
      refine lv_iload_n hx hb dX11_keep_13 rfl (lv_at hl 1 rfl) ?_
      refine lv_aload_n hx hb dX11_keep_14 rfl (lv_at hl 0 rfl) ?_
      refine va_get (D := D) (ci := 11) (v := .ref a_x_now) (C := RX11) (T := TX11) (N := 19) hx hb hts in_X11_keep_X11 hown hK hP 0 rfl rfl 0 (by decide) (hts _ mb_X11_keep_1) (fun _ h9 => h9) rfl dX11_keep_15 ?_
      refine lv_iload_n hx hb dX11_keep_18 rfl (lv_at hl 1 rfl) ?_
      obtain ⟨i2, h⟩ := gI_some h
      refine va_iald hx hb hK hP 1 0 rfl rfl i2 dX11_keep_19 ?_
      obtain ⟨i3, h⟩ := gI_some h
      refine va_iast hx hb hK hP hD hS 2 0 rfl rfl i3 dX11_keep_20 (fun H locs hP hD hS => ?_)
      have hP : va_P D vwCl (w_X11_keep cI cJ cZ cG a_x a_x_now a_x_kept a_x_sortOf a_x_sizeOf a_x_sheets a_x_parts a_x_edge a_x_far a_x_lost x_isKept x_host x_below x_bestTarget x_high x_low x_whole x_tryHigh x_tryLow x_lots x_now (upd x_kept v1.toNatClampNeg (x_now v1.toNatClampNeg))) H := hP
      have hD : va_D A (w_X11_keep cI cJ cZ cG a_x a_x_now a_x_kept a_x_sortOf a_x_sizeOf a_x_sheets a_x_parts a_x_edge a_x_far a_x_lost x_isKept x_host x_below x_bestTarget x_high x_low x_whole x_tryHigh x_tryLow x_lots x_now (upd x_kept v1.toNatClampNeg (x_now v1.toNatClampNeg))) := hD
      refine lv_iinc (v := v1 + 1) (lv' := [(1, .int (v1 + 1)), (0, .ref a_x)]) hx hb dX11_keep_21 hl (k := 1) rfl rfl (by decide) rfl (fun ls hl => ?_)
      refine lv_goto (tgt := 2) hx hb dX11_keep_24 (by decide) ?_
      exact hk_2 (upd x_kept v1.toNatClampNeg (x_now v1.toNatClampNeg)) (v1 + 1) h H locs ls hP hD hS (lv_sub hl [1, 0] rfl)
set_option maxRecDepth 100000 in
set_option maxHeartbeats 4000000 in
theorem c_X11_keep (l : Launch) (D : va_G) (cI cJ cZ cG : ClassId) (a_x a_x_now a_x_kept a_x_sortOf a_x_sizeOf a_x_sheets a_x_parts a_x_edge a_x_far a_x_lost : Nat) (x_isKept : Int32) (x_host : Int32) (x_below : Int32) (x_bestTarget : Int32) (x_high : Int64) (x_low : Int64) (x_whole : Int64) (x_tryHigh : Int64) (x_tryLow : Int64) (x_lots : Int32) (x_now : (Nat → Int32)) (x_kept : (Nat → Int32)) (N : Nat) (q : Int32 × Int32 × (Nat → Int32)) (h : f_X11_keep N x_isKept x_now x_kept = some q) : gMet l yX11_keep wsX11_keep rm_X11_keep [.ref a_x] (w_X11_keep cI cJ cZ cG a_x a_x_now a_x_kept a_x_sortOf a_x_sizeOf a_x_sheets a_x_parts a_x_edge a_x_far a_x_lost x_isKept x_host x_below x_bestTarget x_high x_low x_whole x_tryHigh x_tryLow x_lots x_now x_kept) (w_X11_keep cI cJ cZ cG a_x a_x_now a_x_kept a_x_sortOf a_x_sizeOf a_x_sheets a_x_parts a_x_edge a_x_far a_x_lost q.2.1 x_host x_below x_bestTarget x_high x_low x_whole x_tryHigh x_tryLow x_lots x_now q.2.2) (some (.int q.1)) D cI cJ cZ cG := by
  refine g_enter (cc := cX11_keep) (nL := 2) (ret := (some .int)) (by decide) rfl (Nat.le_of_ble_eq_true rfl) ?_
  intro p e s m below meth c A C H locs ls hP hD hS hl
  obtain ⟨hx, hb, hr, hml, hown, hts, hlk, hgk, hA⟩ := id C
  have hK := hgk.1
  have hl : lv_has ls 2 [(0, .ref a_x)] := hl
  unfold f_X11_keep at h
  refine lv_iconst (v := 0) hx hb dX11_keep_0 (by decide) ?_
  refine lv_istore_n (lv' := [(1, .int 0), (0, .ref a_x)]) hx hb dX11_keep_1 rfl hl (by decide) rfl (fun ls hl => ?_)
  exact t_X11_keep_b2 C a_x a_x_now a_x_kept a_x_sortOf a_x_sizeOf a_x_sheets a_x_parts a_x_edge a_x_far a_x_lost x_host x_below x_bestTarget x_high x_low x_whole x_tryHigh x_tryLow x_lots x_now N q x_isKept N x_kept 0 h H locs ls hP hD hS (lv_sub hl [1, 0] rfl)
theorem in_X11_back_X11 : ∀ w ∈ wsX110, w ∈ wsX11_back := by decide +kernel
theorem mb_X11_back_0 : Cond.fieldLink RX11 9 "GuardDeskModel" "now" "[I" ∈ wsX11_back := List.mem_of_getElem? (i := 3) rfl
theorem mb_X11_back_1 : Cond.fieldLink RX11 13 "GuardDeskModel" "kept" "[I" ∈ wsX11_back := List.mem_of_getElem? (i := 4) rfl
theorem mb_X11_back_2 : Cond.fieldLink RX11 182 "GuardDeskModel" "isKept" "Z" ∈ wsX11_back := List.mem_of_getElem? (i := 1) rfl
theorem mb_X11_back_3 : Cond.constant RX11 64 (-1000000010) ∈ wsX11_back := List.mem_of_getElem? (i := 2) rfl
set_option maxRecDepth 100000 in
set_option maxHeartbeats 4000000 in
theorem t_X11_back_b16 (C : cx D cI cJ cZ cG A cX11_back 2 (some .int) RX11 wsX11_back p s m args meth c) (a_x a_x_now a_x_kept a_x_sortOf a_x_sizeOf a_x_sheets a_x_parts a_x_edge a_x_far a_x_lost : Nat) (x_isKept : Int32) (x_below : Int32) (x_bestTarget : Int32) (x_high : Int64) (x_low : Int64) (x_whole : Int64) (x_tryHigh : Int64) (x_tryLow : Int64) (x_lots : Int32) (x_kept : (Nat → Int32)) (N : Nat) (q : Int32 × Int32 × (Nat → Int32)) (x_host : Int32) : ∀ (n : Nat) (x_now : (Nat → Int32)) (v1 : Int32), f_X11_back_b16 N x_isKept x_kept x_host n x_now v1 = some q → WB p l e rm_X11_back s m args below meth c (MQ below (Qg D (some (.int q.1)) (w_X11_back cI cJ cZ cG a_x a_x_now a_x_kept a_x_sortOf a_x_sizeOf a_x_sheets a_x_parts a_x_edge a_x_far a_x_lost x_isKept q.2.1 x_below x_bestTarget x_high x_low x_whole x_tryHigh x_tryLow x_lots q.2.2 x_kept) A) args s 0 0 A) D A 2 (w_X11_back cI cJ cZ cG a_x a_x_now a_x_kept a_x_sortOf a_x_sizeOf a_x_sheets a_x_parts a_x_edge a_x_far a_x_lost x_isKept x_host x_below x_bestTarget x_high x_low x_whole x_tryHigh x_tryLow x_lots x_now x_kept) [(0, .ref a_x), (1, .int v1)] [] 16 := by
  obtain ⟨hx, hb, hr, hml, hown, hts, hlk, hgk, hA⟩ := id C
  have hK := hgk.1
  intro n
  induction n with
  | zero => intro x_now v1 h; cases h
  | succ n hk_16 =>
    intro x_now v1 h
    have h : g_X11_back_b16 N x_isKept x_kept x_host (f_X11_back_b16 N x_isKept x_kept x_host n) x_now v1 = some q := h
    generalize f_X11_back_b16 N x_isKept x_kept x_host n = k_16 at h hk_16
    unfold g_X11_back_b16 at h
    intro H locs ls hP hD hS hl
    refine lv_iload_n hx hb dX11_back_16 rfl (lv_at hl 1 rfl) ?_
    refine lv_sipush (v := 194) hx hb dX11_back_17 (by decide) ?_
    refine lv_icmp_ge (tgt := 41) hx hb dX11_back_20 (by decide) (fun c1 => ?_) (fun c1 => ?_)
    · have h := ift c1 h
      refine lv_aload_n hx hb dX11_back_41 rfl (lv_at hl 0 rfl) ?_
      refine va_get (D := D) (ci := 11) (v := .ref a_x_now) (C := RX11) (T := TX11) (N := 19) hx hb hts in_X11_back_X11 hown hK hP 0 rfl rfl 0 (by decide) (hts _ mb_X11_back_0) (fun _ h9 => h9) rfl dX11_back_42 ?_
      refine lv_iconst (v := 0) hx hb dX11_back_45 (by decide) ?_
      refine va_iald hx hb hK hP 1 0 rfl rfl (g_lit (i := 0) (n := 194) (by decide)) dX11_back_46 ?_
      refine W.eq (g2 := F0 m 47 ls [.int (x_now 0)]) rfl ?_
      obtain rfl := Option.some.inj h
      exact g_iret C hP hD hS dX11_back_47
    · have h := iff_ c1 h
      refine lv_aload_n hx hb dX11_back_23 rfl (lv_at hl 0 rfl) ?_
      refine va_get (D := D) (ci := 11) (v := .ref a_x_now) (C := RX11) (T := TX11) (N := 19) hx hb hts in_X11_back_X11 hown hK hP 0 rfl rfl 0 (by decide) (hts _ mb_X11_back_0) (fun _ h9 => h9) rfl dX11_back_24 ?_
      refine lv_iload_n hx hb dX11_back_27 rfl (lv_at hl 1 rfl) ?_
      refine lv_aload_n hx hb dX11_back_28 rfl (lv_at hl 0 rfl) ?_
      refine va_get (D := D) (ci := 11) (v := .ref a_x_kept) (C := RX11) (T := TX11) (N := 19) hx hb hts in_X11_back_X11 hown hK hP 0 rfl rfl 1 (by decide) (hts _ mb_X11_back_1) (fun _ h9 => h9) rfl dX11_back_29 ?_
      refine lv_iload_n hx hb dX11_back_32 rfl (lv_at hl 1 rfl) ?_
      obtain ⟨i2, h⟩ := gI_some h
      refine va_iald hx hb hK hP 2 0 rfl rfl i2 dX11_back_33 ?_
      obtain ⟨i3, h⟩ := gI_some h
      refine va_iast hx hb hK hP hD hS 1 0 rfl rfl i3 dX11_back_34 (fun H locs hP hD hS => ?_)
      have hP : va_P D vwCl (w_X11_back cI cJ cZ cG a_x a_x_now a_x_kept a_x_sortOf a_x_sizeOf a_x_sheets a_x_parts a_x_edge a_x_far a_x_lost x_isKept x_host x_below x_bestTarget x_high x_low x_whole x_tryHigh x_tryLow x_lots (upd x_now v1.toNatClampNeg (x_kept v1.toNatClampNeg)) x_kept) H := hP
      have hD : va_D A (w_X11_back cI cJ cZ cG a_x a_x_now a_x_kept a_x_sortOf a_x_sizeOf a_x_sheets a_x_parts a_x_edge a_x_far a_x_lost x_isKept x_host x_below x_bestTarget x_high x_low x_whole x_tryHigh x_tryLow x_lots (upd x_now v1.toNatClampNeg (x_kept v1.toNatClampNeg)) x_kept) := hD
      refine lv_iinc (v := v1 + 1) (lv' := [(1, .int (v1 + 1)), (0, .ref a_x)]) hx hb dX11_back_35 hl (k := 1) rfl rfl (by decide) rfl (fun ls hl => ?_)
      refine lv_goto (tgt := 16) hx hb dX11_back_38 (by decide) ?_
      exact hk_16 (upd x_now v1.toNatClampNeg (x_kept v1.toNatClampNeg)) (v1 + 1) h H locs ls hP hD hS (lv_sub hl [1, 0] rfl)
set_option maxRecDepth 100000 in
set_option maxHeartbeats 4000000 in
theorem c_X11_back (l : Launch) (D : va_G) (cI cJ cZ cG : ClassId) (a_x a_x_now a_x_kept a_x_sortOf a_x_sizeOf a_x_sheets a_x_parts a_x_edge a_x_far a_x_lost : Nat) (x_isKept : Int32) (x_host : Int32) (x_below : Int32) (x_bestTarget : Int32) (x_high : Int64) (x_low : Int64) (x_whole : Int64) (x_tryHigh : Int64) (x_tryLow : Int64) (x_lots : Int32) (x_now : (Nat → Int32)) (x_kept : (Nat → Int32)) (N : Nat) (q : Int32 × Int32 × (Nat → Int32)) (h : f_X11_back N x_isKept x_host x_now x_kept = some q) : gMet l yX11_back wsX11_back rm_X11_back [.ref a_x] (w_X11_back cI cJ cZ cG a_x a_x_now a_x_kept a_x_sortOf a_x_sizeOf a_x_sheets a_x_parts a_x_edge a_x_far a_x_lost x_isKept x_host x_below x_bestTarget x_high x_low x_whole x_tryHigh x_tryLow x_lots x_now x_kept) (w_X11_back cI cJ cZ cG a_x a_x_now a_x_kept a_x_sortOf a_x_sizeOf a_x_sheets a_x_parts a_x_edge a_x_far a_x_lost x_isKept q.2.1 x_below x_bestTarget x_high x_low x_whole x_tryHigh x_tryLow x_lots q.2.2 x_kept) (some (.int q.1)) D cI cJ cZ cG := by
  refine g_enter (cc := cX11_back) (nL := 2) (ret := (some .int)) (by decide) rfl (Nat.le_of_ble_eq_true rfl) ?_
  intro p e s m below meth c A C H locs ls hP hD hS hl
  obtain ⟨hx, hb, hr, hml, hown, hts, hlk, hgk, hA⟩ := id C
  have hK := hgk.1
  have hl : lv_has ls 2 [(0, .ref a_x)] := hl
  unfold f_X11_back at h
  refine lv_aload_n hx hb dX11_back_0 rfl (lv_at hl 0 rfl) ?_
  refine va_get (D := D) (ci := 11) (v := .int x_isKept) (C := RX11) (T := TX11) (N := 19) hx hb hts in_X11_back_X11 hown hK hP 0 rfl rfl 2 (by decide) (hts _ mb_X11_back_2) (fun _ h9 => h9) rfl dX11_back_1 ?_
  refine lv_if_ne (tgt := 14) hx hb dX11_back_4 (by decide) (fun c1 => ?_) (fun c1 => ?_)
  · have h := iff_ c1 h
    refine lv_iconst (v := 0) hx hb dX11_back_14 (by decide) ?_
    refine lv_istore_n (lv' := [(1, .int 0), (0, .ref a_x)]) hx hb dX11_back_15 rfl hl (by decide) rfl (fun ls hl => ?_)
    exact t_X11_back_b16 C a_x a_x_now a_x_kept a_x_sortOf a_x_sizeOf a_x_sheets a_x_parts a_x_edge a_x_far a_x_lost x_isKept x_below x_bestTarget x_high x_low x_whole x_tryHigh x_tryLow x_lots x_kept N q x_host N x_now 0 h H locs ls hP hD hS (lv_sub hl [1, 0] rfl)
  · have h := ift c1 h
    refine lv_aload_n hx hb dX11_back_7 rfl (lv_at hl 0 rfl) ?_
    refine lv_ldc (v := (-1000000010)) hx hb hown (hts _ mb_X11_back_3) dX11_back_8 ?_
    refine g_callV (index := 60) (maxL := 2) (n := 1) (As := [.int (-1000000010)]) (rest := []) (st1 := [.int ((f_X11_found x_host (-1000000010)).1)]) (C1 := RX11) (T1 := TX11) (N1 := 19) (ws2 := (w_X11_back cI cJ cZ cG a_x a_x_now a_x_kept a_x_sortOf a_x_sizeOf a_x_sheets a_x_parts a_x_edge a_x_far a_x_lost x_isKept ((f_X11_found x_host (-1000000010)).2) x_below x_bestTarget x_high x_low x_whole x_tryHigh x_tryLow x_lots x_now x_kept)) C hP hD hS hl.1 11 0 (c_X11_found l D cI cJ cZ cG a_x a_x_now a_x_kept a_x_sortOf a_x_sizeOf a_x_sheets a_x_parts a_x_edge a_x_far a_x_lost x_isKept x_host x_below x_bestTarget x_high x_low x_whole x_tryHigh x_tryLow x_lots (-1000000010) _ rfl) gX11_back_X11_found rfl rfl rfl (by decide +kernel) ⟨Nat.le_of_ble_eq_true rfl, Nat.le_of_ble_eq_true rfl⟩ rfl rfl rfl (Nat.le_of_ble_eq_true rfl) rfl dX11_back_10 [0] [1, 2] [2, 0, 1] rfl rfl rfl rfl (by decide) rfl rfl rfl (fun H locs hP hD hS => ?_)
    obtain rfl := Option.some.inj h
    exact g_iret C hP hD hS dX11_back_13
theorem in_X11_count_X11 : ∀ w ∈ wsX110, w ∈ wsX11_count := by decide +kernel
theorem mb_X11_count_0 : Cond.fieldLink RX11 9 "GuardDeskModel" "now" "[I" ∈ wsX11_count := List.mem_of_getElem? (i := 1) rfl
theorem mb_X11_count_1 : Cond.fieldLink RX11 44 "GuardDeskModel" "host" "I" ∈ wsX11_count := List.mem_of_getElem? (i := 2) rfl
theorem mb_X11_count_2 : Cond.constant RX11 55 (-1000000002) ∈ wsX11_count := List.mem_of_getElem? (i := 3) rfl
set_option maxRecDepth 100000 in
set_option maxHeartbeats 4000000 in
theorem t_X11_count_b4 (C : cx D cI cJ cZ cG A cX11_count 4 (some .int) RX11 wsX11_count p s m args meth c) (a_x a_x_now a_x_kept a_x_sortOf a_x_sizeOf a_x_sheets a_x_parts a_x_edge a_x_far a_x_lost : Nat) (x_isKept : Int32) (x_host : Int32) (x_below : Int32) (x_bestTarget : Int32) (x_high : Int64) (x_low : Int64) (x_whole : Int64) (x_tryHigh : Int64) (x_tryLow : Int64) (x_lots : Int32) (x_now : (Nat → Int32)) (N : Nat) (q : Int32) (v1 : Int32) : ∀ (n : Nat) (v2 : Int32) (v3 : Int32), f_X11_count_b4 N x_host x_now v1 n v2 v3 = some q → WB p l e rm_X11_count s m args below meth c (MQ below (Qg D (some (.int q)) (w_X11_count cI cJ cZ cG a_x a_x_now a_x_kept a_x_sortOf a_x_sizeOf a_x_sheets a_x_parts a_x_edge a_x_far a_x_lost x_isKept x_host x_below x_bestTarget x_high x_low x_whole x_tryHigh x_tryLow x_lots x_now) A) args s 0 0 A) D A 4 (w_X11_count cI cJ cZ cG a_x a_x_now a_x_kept a_x_sortOf a_x_sizeOf a_x_sheets a_x_parts a_x_edge a_x_far a_x_lost x_isKept x_host x_below x_bestTarget x_high x_low x_whole x_tryHigh x_tryLow x_lots x_now) [(0, .ref a_x), (1, .int v1), (2, .int v2), (3, .int v3)] [] 4 := by
  obtain ⟨hx, hb, hr, hml, hown, hts, hlk, hgk, hA⟩ := id C
  have hK := hgk.1
  intro n
  induction n with
  | zero => intro v2 v3 h; cases h
  | succ n hk_4 =>
    intro v2 v3 h
    have h : g_X11_count_b4 N x_host x_now v1 (f_X11_count_b4 N x_host x_now v1 n) v2 v3 = some q := h
    generalize f_X11_count_b4 N x_host x_now v1 n = k_4 at h hk_4
    unfold g_X11_count_b4 at h
    intro H locs ls hP hD hS hl
    refine lv_iload_n hx hb dX11_count_4 rfl (lv_at hl 3 rfl) ?_
    refine lv_aload_n hx hb dX11_count_5 rfl (lv_at hl 0 rfl) ?_
    refine va_get (D := D) (ci := 11) (v := .ref a_x_now) (C := RX11) (T := TX11) (N := 19) hx hb hts in_X11_count_X11 hown hK hP 0 rfl rfl 0 (by decide) (hts _ mb_X11_count_0) (fun _ h9 => h9) rfl dX11_count_6 ?_
    refine lv_iconst (v := 2) hx hb dX11_count_9 (by decide) ?_
    refine va_iald hx hb hK hP 1 0 rfl rfl (g_lit (i := 2) (n := 194) (by decide)) dX11_count_10 ?_
    refine W.eq (g2 := F0 m 11 ls [.int (x_now 2), .int v3]) rfl ?_
    refine lv_icmp_ge (tgt := 33) hx hb dX11_count_11 (by decide) (fun c1 => ?_) (fun c1 => ?_)
    · have h := ift c1 h
      refine lv_iload_n hx hb dX11_count_33 rfl (lv_at hl 1 rfl) ?_
      by_cases c2_0 : v1 = 0
      · have h := ift c2_0 h
        refine lv_tableIn (tgt := 76) hx hb dX11_count_34 (by rw [c2_0]; decide) (by rw [c2_0]; decide) (by rw [c2_0]; rfl) (by decide) ?_
        refine lv_aload_n hx hb dX11_count_76 rfl (lv_at hl 0 rfl) ?_
        refine va_get (D := D) (ci := 11) (v := .ref a_x_now) (C := RX11) (T := TX11) (N := 19) hx hb hts in_X11_count_X11 hown hK hP 0 rfl rfl 0 (by decide) (hts _ mb_X11_count_0) (fun _ h9 => h9) rfl dX11_count_77 ?_
        refine lv_iconst (v := 0) hx hb dX11_count_80 (by decide) ?_
        refine va_iald hx hb hK hP 1 0 rfl rfl (g_lit (i := 0) (n := 194) (by decide)) dX11_count_81 ?_
        refine W.eq (g2 := F0 m 82 ls [.int (x_now 0)]) rfl ?_
        obtain rfl := Option.some.inj h
        exact g_iret C hP hD hS dX11_count_82
      have h := iff_ c2_0 h
      by_cases c2_1 : v1 = 1
      · have h := ift c2_1 h
        refine lv_tableIn (tgt := 83) hx hb dX11_count_34 (by rw [c2_1]; decide) (by rw [c2_1]; decide) (by rw [c2_1]; rfl) (by decide) ?_
        refine lv_aload_n hx hb dX11_count_83 rfl (lv_at hl 0 rfl) ?_
        refine va_get (D := D) (ci := 11) (v := .ref a_x_now) (C := RX11) (T := TX11) (N := 19) hx hb hts in_X11_count_X11 hown hK hP 0 rfl rfl 0 (by decide) (hts _ mb_X11_count_0) (fun _ h9 => h9) rfl dX11_count_84 ?_
        refine lv_iconst (v := 1) hx hb dX11_count_87 (by decide) ?_
        refine va_iald hx hb hK hP 1 0 rfl rfl (g_lit (i := 1) (n := 194) (by decide)) dX11_count_88 ?_
        refine W.eq (g2 := F0 m 89 ls [.int (x_now 1)]) rfl ?_
        obtain rfl := Option.some.inj h
        exact g_iret C hP hD hS dX11_count_89
      have h := iff_ c2_1 h
      by_cases c2_2 : v1 = 2
      · have h := ift c2_2 h
        refine lv_tableIn (tgt := 90) hx hb dX11_count_34 (by rw [c2_2]; decide) (by rw [c2_2]; decide) (by rw [c2_2]; rfl) (by decide) ?_
        refine lv_aload_n hx hb dX11_count_90 rfl (lv_at hl 0 rfl) ?_
        refine va_get (D := D) (ci := 11) (v := .ref a_x_now) (C := RX11) (T := TX11) (N := 19) hx hb hts in_X11_count_X11 hown hK hP 0 rfl rfl 0 (by decide) (hts _ mb_X11_count_0) (fun _ h9 => h9) rfl dX11_count_91 ?_
        refine lv_iconst (v := 2) hx hb dX11_count_94 (by decide) ?_
        refine va_iald hx hb hK hP 1 0 rfl rfl (g_lit (i := 2) (n := 194) (by decide)) dX11_count_95 ?_
        refine W.eq (g2 := F0 m 96 ls [.int (x_now 2)]) rfl ?_
        obtain rfl := Option.some.inj h
        exact g_iret C hP hD hS dX11_count_96
      have h := iff_ c2_2 h
      by_cases c2_3 : v1 = 3
      · have h := ift c2_3 h
        refine lv_tableIn (tgt := 97) hx hb dX11_count_34 (by rw [c2_3]; decide) (by rw [c2_3]; decide) (by rw [c2_3]; rfl) (by decide) ?_
        refine lv_iload_n hx hb dX11_count_97 rfl (lv_at hl 2 rfl) ?_
        obtain rfl := Option.some.inj h
        exact g_iret C hP hD hS dX11_count_98
      have h := iff_ c2_3 h
      by_cases c2_4 : v1 = 4
      · have h := ift c2_4 h
        refine lv_tableIn (tgt := 99) hx hb dX11_count_34 (by rw [c2_4]; decide) (by rw [c2_4]; decide) (by rw [c2_4]; rfl) (by decide) ?_
        refine lv_aload_n hx hb dX11_count_99 rfl (lv_at hl 0 rfl) ?_
        refine va_get (D := D) (ci := 11) (v := .ref a_x_now) (C := RX11) (T := TX11) (N := 19) hx hb hts in_X11_count_X11 hown hK hP 0 rfl rfl 0 (by decide) (hts _ mb_X11_count_0) (fun _ h9 => h9) rfl dX11_count_100 ?_
        refine lv_iconst (v := 3) hx hb dX11_count_103 (by decide) ?_
        refine va_iald hx hb hK hP 1 0 rfl rfl (g_lit (i := 3) (n := 194) (by decide)) dX11_count_104 ?_
        refine W.eq (g2 := F0 m 105 ls [.int (x_now 3)]) rfl ?_
        obtain rfl := Option.some.inj h
        exact g_iret C hP hD hS dX11_count_105
      have h := iff_ c2_4 h
      by_cases c2_5 : v1 = 5
      · have h := ift c2_5 h
        refine lv_tableIn (tgt := 106) hx hb dX11_count_34 (by rw [c2_5]; decide) (by rw [c2_5]; decide) (by rw [c2_5]; rfl) (by decide) ?_
        refine lv_aload_n hx hb dX11_count_106 rfl (lv_at hl 0 rfl) ?_
        refine va_get (D := D) (ci := 11) (v := .ref a_x_now) (C := RX11) (T := TX11) (N := 19) hx hb hts in_X11_count_X11 hown hK hP 0 rfl rfl 0 (by decide) (hts _ mb_X11_count_0) (fun _ h9 => h9) rfl dX11_count_107 ?_
        refine lv_iconst (v := 4) hx hb dX11_count_110 (by decide) ?_
        refine va_iald hx hb hK hP 1 0 rfl rfl (g_lit (i := 4) (n := 194) (by decide)) dX11_count_111 ?_
        refine W.eq (g2 := F0 m 112 ls [.int (x_now 4)]) rfl ?_
        obtain rfl := Option.some.inj h
        exact g_iret C hP hD hS dX11_count_112
      have h := iff_ c2_5 h
      by_cases c2_6 : v1 = 6
      · have h := ift c2_6 h
        refine lv_tableIn (tgt := 113) hx hb dX11_count_34 (by rw [c2_6]; decide) (by rw [c2_6]; decide) (by rw [c2_6]; rfl) (by decide) ?_
        refine lv_aload_n hx hb dX11_count_113 rfl (lv_at hl 0 rfl) ?_
        refine va_get (D := D) (ci := 11) (v := .int x_host) (C := RX11) (T := TX11) (N := 19) hx hb hts in_X11_count_X11 hown hK hP 0 rfl rfl 3 (by decide) (hts _ mb_X11_count_1) (fun _ h9 => h9) rfl dX11_count_114 ?_
        obtain rfl := Option.some.inj h
        exact g_iret C hP hD hS dX11_count_117
      have h := iff_ c2_6 h
      refine lv_tableOut (tgt := 118) hx hb dX11_count_34 (by have y0 := lv_neT c2_0 (a := 0) rfl; have y1 := lv_neT c2_1 (a := 1) rfl; have y2 := lv_neT c2_2 (a := 2) rfl; have y3 := lv_neT c2_3 (a := 3) rfl; have y4 := lv_neT c2_4 (a := 4) rfl; have y5 := lv_neT c2_5 (a := 5) rfl; have y6 := lv_neT c2_6 (a := 6) rfl; omega) (by decide) ?_
      refine lv_ldc (v := (-1000000002)) hx hb hown (hts _ mb_X11_count_2) dX11_count_118 ?_
      obtain rfl := Option.some.inj h
      exact g_iret C hP hD hS dX11_count_120
    · have h := iff_ c1 h
      refine lv_iload_n hx hb dX11_count_14 rfl (lv_at hl 2 rfl) ?_
      refine lv_aload_n hx hb dX11_count_15 rfl (lv_at hl 0 rfl) ?_
      refine va_get (D := D) (ci := 11) (v := .ref a_x_now) (C := RX11) (T := TX11) (N := 19) hx hb hts in_X11_count_X11 hown hK hP 0 rfl rfl 0 (by decide) (hts _ mb_X11_count_0) (fun _ h9 => h9) rfl dX11_count_16 ?_
      refine lv_sipush (v := 133) hx hb dX11_count_19 (by decide) ?_
      refine lv_iload_n hx hb dX11_count_22 rfl (lv_at hl 3 rfl) ?_
      refine lv_iadd hx hb dX11_count_23 ?_
      obtain ⟨i3, h⟩ := gI_some h
      refine va_iald hx hb hK hP 1 0 rfl rfl i3 dX11_count_24 ?_
      refine lv_iadd hx hb dX11_count_25 ?_
      refine lv_istore_n (lv' := [(2, .int (v2 + (x_now (133 + v3).toNatClampNeg))), (0, .ref a_x), (1, .int v1), (3, .int v3)]) hx hb dX11_count_26 rfl hl (by decide) rfl (fun ls hl => ?_)
      refine lv_iinc (v := v3 + 1) (lv' := [(3, .int (v3 + 1)), (2, .int (v2 + (x_now (133 + v3).toNatClampNeg))), (0, .ref a_x), (1, .int v1)]) hx hb dX11_count_27 hl (k := 3) rfl rfl (by decide) rfl (fun ls hl => ?_)
      refine lv_goto (tgt := 4) hx hb dX11_count_30 (by decide) ?_
      exact hk_4 (v2 + (x_now (133 + v3).toNatClampNeg)) (v3 + 1) h H locs ls hP hD hS (lv_sub hl [2, 3, 1, 0] rfl)
set_option maxRecDepth 100000 in
set_option maxHeartbeats 4000000 in
theorem c_X11_count (l : Launch) (D : va_G) (cI cJ cZ cG : ClassId) (a_x a_x_now a_x_kept a_x_sortOf a_x_sizeOf a_x_sheets a_x_parts a_x_edge a_x_far a_x_lost : Nat) (x_isKept : Int32) (x_host : Int32) (x_below : Int32) (x_bestTarget : Int32) (x_high : Int64) (x_low : Int64) (x_whole : Int64) (x_tryHigh : Int64) (x_tryLow : Int64) (x_lots : Int32) (x_now : (Nat → Int32)) (p1 : Int32) (N : Nat) (q : Int32) (h : f_X11_count N x_host x_now p1 = some q) : gMet l yX11_count wsX11_count rm_X11_count [.ref a_x, .int p1] (w_X11_count cI cJ cZ cG a_x a_x_now a_x_kept a_x_sortOf a_x_sizeOf a_x_sheets a_x_parts a_x_edge a_x_far a_x_lost x_isKept x_host x_below x_bestTarget x_high x_low x_whole x_tryHigh x_tryLow x_lots x_now) (w_X11_count cI cJ cZ cG a_x a_x_now a_x_kept a_x_sortOf a_x_sizeOf a_x_sheets a_x_parts a_x_edge a_x_far a_x_lost x_isKept x_host x_below x_bestTarget x_high x_low x_whole x_tryHigh x_tryLow x_lots x_now) (some (.int q)) D cI cJ cZ cG := by
  refine g_enter (cc := cX11_count) (nL := 4) (ret := (some .int)) (by decide) rfl (Nat.le_of_ble_eq_true rfl) ?_
  intro p e s m below meth c A C H locs ls hP hD hS hl
  obtain ⟨hx, hb, hr, hml, hown, hts, hlk, hgk, hA⟩ := id C
  have hK := hgk.1
  have hl : lv_has ls 4 [(0, .ref a_x), (1, .int p1)] := hl
  unfold f_X11_count at h
  refine lv_iconst (v := 0) hx hb dX11_count_0 (by decide) ?_
  refine lv_istore_n (lv' := [(2, .int 0), (0, .ref a_x), (1, .int p1)]) hx hb dX11_count_1 rfl hl (by decide) rfl (fun ls hl => ?_)
  refine lv_iconst (v := 0) hx hb dX11_count_2 (by decide) ?_
  refine lv_istore_n (lv' := [(3, .int 0), (2, .int 0), (0, .ref a_x), (1, .int p1)]) hx hb dX11_count_3 rfl hl (by decide) rfl (fun ls hl => ?_)
  exact t_X11_count_b4 C a_x a_x_now a_x_kept a_x_sortOf a_x_sizeOf a_x_sheets a_x_parts a_x_edge a_x_far a_x_lost x_isKept x_host x_below x_bestTarget x_high x_low x_whole x_tryHigh x_tryLow x_lots x_now N q p1 N 0 0 h H locs ls hP hD hS (lv_sub hl [2, 3, 1, 0] rfl)
