variable {p : Program} {l : Launch} {e : Env} {s : State} {m : MethodId} {args : Array Value} {below : List Frame} {meth : Method} {c : Code} {D : va_G} {A : Nat → Prop} {cI cJ cZ cG : ClassId}
theorem in_X11_findLots_X11 : ∀ w ∈ wsX110, w ∈ wsX11_findLots := by decide +kernel
theorem mb_X11_findLots_0 : Cond.fieldLink RX11 9 "GuardDeskModel" "now" "[I" ∈ wsX11_findLots := List.mem_of_getElem? (i := 2) rfl
theorem mb_X11_findLots_1 : Cond.fieldLink RX11 33 "GuardDeskModel" "edge" "[J" ∈ wsX11_findLots := List.mem_of_getElem? (i := 5) rfl
theorem mb_X11_findLots_2 : Cond.fieldLink RX11 128 "GuardDeskModel" "lots" "I" ∈ wsX11_findLots := List.mem_of_getElem? (i := 1) rfl
theorem mb_X11_findLots_3 : Cond.fieldLink RX11 97 "GuardDeskModel" "whole" "J" ∈ wsX11_findLots := List.mem_of_getElem? (i := 4) rfl
theorem mb_X11_findLots_4 : Cond.fieldLink RX11 29 "GuardDeskModel" "parts" "[J" ∈ wsX11_findLots := List.mem_of_getElem? (i := 3) rfl
set_option maxRecDepth 100000 in
set_option maxHeartbeats 4000000 in
theorem t_X11_findLots_b23 (C : cx D cI cJ cZ cG A cX11_findLots 4 (some .boolean) RX11 wsX11_findLots p s m args meth c) (a_x a_x_now a_x_kept a_x_sortOf a_x_sizeOf a_x_sheets a_x_parts a_x_edge a_x_far a_x_lost : Nat) (x_isKept : Int32) (x_host : Int32) (x_below : Int32) (x_now : (Nat → Int32)) (N : Nat) (q : Int32 × Int32 × Int64 × Int64 × Int64 × Int64 × Int64 × Int32 × (Nat → Int64) × (Nat → Int64)) (x_bestTarget : Int32) (x_high : Int64) (x_low : Int64) (x_whole : Int64) (x_tryHigh : Int64) (x_tryLow : Int64) (x_parts : (Nat → Int64)) : ∀ (n : Nat) (x_lots : Int32) (x_edge : (Nat → Int64)) (v1 : Int64) (v3 : Int32), f_X11_findLots_b23 N x_now x_bestTarget x_high x_low x_whole x_tryHigh x_tryLow x_parts n x_lots x_edge v1 v3 = some q → WB p l e rm_X11_findLots s m args below meth c (MQ below (Qg D (some (.int q.1)) (w_X11_findLots cI cJ cZ cG a_x a_x_now a_x_kept a_x_sortOf a_x_sizeOf a_x_sheets a_x_parts a_x_edge a_x_far a_x_lost x_isKept x_host x_below q.2.1 q.2.2.1 q.2.2.2.1 q.2.2.2.2.1 q.2.2.2.2.2.1 q.2.2.2.2.2.2.1 q.2.2.2.2.2.2.2.1 x_now q.2.2.2.2.2.2.2.2.1 q.2.2.2.2.2.2.2.2.2) A) args s 0 0 A) D A 4 (w_X11_findLots cI cJ cZ cG a_x a_x_now a_x_kept a_x_sortOf a_x_sizeOf a_x_sheets a_x_parts a_x_edge a_x_far a_x_lost x_isKept x_host x_below x_bestTarget x_high x_low x_whole x_tryHigh x_tryLow x_lots x_now x_parts x_edge) [(0, .ref a_x), (1, .long v1), (3, .int v3)] [] 23 := by
  obtain ⟨hx, hb, hr, hml, hown, hts, hlk, hgk, hA⟩ := id C
  have hK := hgk.1
  intro n
  induction n with
  | zero => intro x_lots x_edge v1 v3 h; cases h
  | succ n hk_23 =>
    intro x_lots x_edge v1 v3 h
    have h : g_X11_findLots_b23 N x_now x_bestTarget x_high x_low x_whole x_tryHigh x_tryLow x_parts (f_X11_findLots_b23 N x_now x_bestTarget x_high x_low x_whole x_tryHigh x_tryLow x_parts n) x_lots x_edge v1 v3 = some q := h
    generalize f_X11_findLots_b23 N x_now x_bestTarget x_high x_low x_whole x_tryHigh x_tryLow x_parts n = k_23 at h hk_23
    unfold g_X11_findLots_b23 at h
    intro H locs ls hP hD hS hl
    refine lv_iload_n hx hb dX11_findLots_23 rfl (lv_at hl 2 rfl) ?_
    refine lv_aload_n hx hb dX11_findLots_24 rfl (lv_at hl 0 rfl) ?_
    refine va_get (D := D) (ci := 11) (v := .ref a_x_now) (C := RX11) (T := TX11) (N := 19) hx hb hts in_X11_findLots_X11 hown hK hP 0 rfl rfl 0 (by decide) (hts _ mb_X11_findLots_0) (fun _ h9 => h9) rfl dX11_findLots_25 ?_
    refine lv_iconst (v := 0) hx hb dX11_findLots_28 (by decide) ?_
    refine va_iald hx hb hK hP 1 0 rfl rfl (g_lit (i := 0) (n := 194) (by decide)) dX11_findLots_29 ?_
    refine W.eq (g2 := F0 m 30 ls [.int (x_now 0), .int v3]) rfl ?_
    refine lv_icmp_ge (tgt := 58) hx hb dX11_findLots_30 (by decide) (fun c1 => ?_) (fun c1 => ?_)
    · have h := ift c1 h
      refine lv_aload_n hx hb dX11_findLots_58 rfl (lv_at hl 0 rfl) ?_
      refine va_get (D := D) (ci := 11) (v := .ref a_x_edge) (C := RX11) (T := TX11) (N := 19) hx hb hts in_X11_findLots_X11 hown hK hP 0 rfl rfl 16 (by decide) (hts _ mb_X11_findLots_1) (fun _ h9 => h9) rfl dX11_findLots_59 ?_
      refine lv_aload_n hx hb dX11_findLots_62 rfl (lv_at hl 0 rfl) ?_
      refine va_get (D := D) (ci := 11) (v := .int x_lots) (C := RX11) (T := TX11) (N := 19) hx hb hts in_X11_findLots_X11 hown hK hP 0 rfl rfl 15 (by decide) (hts _ mb_X11_findLots_2) (fun _ h9 => h9) rfl dX11_findLots_63 ?_
      refine lv_aload_n hx hb dX11_findLots_66 rfl (lv_at hl 0 rfl) ?_
      refine va_get (D := D) (ci := 11) (v := .long x_whole) (C := RX11) (T := TX11) (N := 19) hx hb hts in_X11_findLots_X11 hown hK hP 0 rfl rfl 11 (by decide) (hts _ mb_X11_findLots_3) (fun _ h9 => h9) rfl dX11_findLots_67 ?_
      obtain ⟨i2, h⟩ := gI_some h
      refine va_last hx hb hK hP hD hS 3 1 rfl rfl i2 dX11_findLots_70 (fun H locs hP hD hS => ?_)
      have hP : va_P D vwCl (w_X11_findLots cI cJ cZ cG a_x a_x_now a_x_kept a_x_sortOf a_x_sizeOf a_x_sheets a_x_parts a_x_edge a_x_far a_x_lost x_isKept x_host x_below x_bestTarget x_high x_low x_whole x_tryHigh x_tryLow x_lots x_now x_parts (vp_updL x_edge x_lots.toNatClampNeg x_whole)) H := hP
      have hD : va_D A (w_X11_findLots cI cJ cZ cG a_x a_x_now a_x_kept a_x_sortOf a_x_sizeOf a_x_sheets a_x_parts a_x_edge a_x_far a_x_lost x_isKept x_host x_below x_bestTarget x_high x_low x_whole x_tryHigh x_tryLow x_lots x_now x_parts (vp_updL x_edge x_lots.toNatClampNeg x_whole)) := hD
      refine lv_iconst (v := 1) hx hb dX11_findLots_71 (by decide) ?_
      obtain rfl := Option.some.inj h
      exact g_zret C hP hD hS (nz_b (Or.inr rfl)) dX11_findLots_72
    · have h := iff_ c1 h
      refine lv_lload_n hx hb dX11_findLots_33 rfl (lv_at hl 1 rfl) ?_
      refine lv_aload_n hx hb dX11_findLots_34 rfl (lv_at hl 0 rfl) ?_
      refine va_get (D := D) (ci := 11) (v := .ref a_x_parts) (C := RX11) (T := TX11) (N := 19) hx hb hts in_X11_findLots_X11 hown hK hP 0 rfl rfl 12 (by decide) (hts _ mb_X11_findLots_4) (fun _ h9 => h9) rfl dX11_findLots_35 ?_
      refine lv_iload_n hx hb dX11_findLots_38 rfl (lv_at hl 2 rfl) ?_
      obtain ⟨i3, h⟩ := gI_some h
      refine va_lald hx hb hK hP 2 1 rfl rfl i3 dX11_findLots_39 ?_
      refine lv_ladd hx hb dX11_findLots_40 ?_
      refine lv_lstore_n (lv' := [(1, .long (v1 + (x_parts v3.toNatClampNeg))), (0, .ref a_x), (3, .int v3)]) hx hb dX11_findLots_41 rfl hl (by decide) rfl (fun ls hl => ?_)
      refine lv_aload_n hx hb dX11_findLots_42 rfl (lv_at hl 1 rfl) ?_
      refine lv_lload_n hx hb dX11_findLots_43 rfl (lv_at hl 0 rfl) ?_
      refine lv_aload_n hx hb dX11_findLots_44 rfl (lv_at hl 1 rfl) ?_
      refine va_get (D := D) (ci := 11) (v := .long x_whole) (C := RX11) (T := TX11) (N := 19) hx hb hts in_X11_findLots_X11 hown hK hP 0 rfl rfl 11 (by decide) (hts _ mb_X11_findLots_3) (fun _ h9 => h9) rfl dX11_findLots_45 ?_
      obtain ⟨z4, h⟩ := gDl_some h
      refine lv_lrem hx hb dX11_findLots_48 z4 ?_
      obtain ⟨q5, e5, h⟩ := bd_some h
      refine g_callV (index := 131) (maxL := 5) (n := 1) (As := [.long ((v1 + (x_parts v3.toNatClampNeg)) - (v1 + (x_parts v3.toNatClampNeg)) / x_whole * x_whole)]) (rest := []) (st1 := []) (C1 := RX11) (T1 := TX11) (N1 := 19) (ws2 := (w_X11_findLots cI cJ cZ cG a_x a_x_now a_x_kept a_x_sortOf a_x_sizeOf a_x_sheets a_x_parts a_x_edge a_x_far a_x_lost x_isKept x_host x_below x_bestTarget x_high x_low x_whole x_tryHigh x_tryLow q5.1 x_now x_parts q5.2)) C hP hD hS hl.1 11 0 (c_X11_addEdge l D cI cJ cZ cG a_x a_x_now a_x_kept a_x_sortOf a_x_sizeOf a_x_sheets a_x_parts a_x_edge a_x_far a_x_lost x_isKept x_host x_below x_bestTarget x_high x_low x_whole x_tryHigh x_tryLow x_lots x_edge ((v1 + (x_parts v3.toNatClampNeg)) - (v1 + (x_parts v3.toNatClampNeg)) / x_whole * x_whole) N q5 e5) gX11_findLots_X11_addEdge rfl rfl rfl (by decide +kernel) ⟨Nat.le_of_ble_eq_true rfl, Nat.le_of_ble_eq_true rfl⟩ rfl rfl rfl (Nat.le_of_ble_eq_true rfl) rfl dX11_findLots_49 [0, 3] [1, 2] [2, 0, 1, 3] rfl rfl rfl rfl (by decide) rfl rfl rfl (fun H locs hP hD hS => ?_)
      refine lv_iinc (v := v3 + 1) (lv' := [(3, .int (v3 + 1)), (1, .long (v1 + (x_parts v3.toNatClampNeg))), (0, .ref a_x)]) hx hb dX11_findLots_52 hl (k := 2) rfl rfl (by decide) rfl (fun ls hl => ?_)
      refine lv_goto (tgt := 23) hx hb dX11_findLots_55 (by decide) ?_
      exact hk_23 q5.1 q5.2 (v1 + (x_parts v3.toNatClampNeg)) (v3 + 1) h H locs ls hP hD hS (lv_sub hl [2, 1, 0] rfl)
set_option maxRecDepth 100000 in
set_option maxHeartbeats 4000000 in
theorem c_X11_findLots (l : Launch) (D : va_G) (cI cJ cZ cG : ClassId) (a_x a_x_now a_x_kept a_x_sortOf a_x_sizeOf a_x_sheets a_x_parts a_x_edge a_x_far a_x_lost : Nat) (x_isKept : Int32) (x_host : Int32) (x_below : Int32) (x_bestTarget : Int32) (x_high : Int64) (x_low : Int64) (x_whole : Int64) (x_tryHigh : Int64) (x_tryLow : Int64) (x_lots : Int32) (x_now : (Nat → Int32)) (x_parts : (Nat → Int64)) (x_edge : (Nat → Int64)) (N : Nat) (q : Int32 × Int32 × Int64 × Int64 × Int64 × Int64 × Int64 × Int32 × (Nat → Int64) × (Nat → Int64)) (h : f_X11_findLots N x_bestTarget x_high x_low x_whole x_tryHigh x_tryLow x_lots x_now x_parts x_edge = some q) : gMet l yX11_findLots wsX11_findLots rm_X11_findLots [.ref a_x] (w_X11_findLots cI cJ cZ cG a_x a_x_now a_x_kept a_x_sortOf a_x_sizeOf a_x_sheets a_x_parts a_x_edge a_x_far a_x_lost x_isKept x_host x_below x_bestTarget x_high x_low x_whole x_tryHigh x_tryLow x_lots x_now x_parts x_edge) (w_X11_findLots cI cJ cZ cG a_x a_x_now a_x_kept a_x_sortOf a_x_sizeOf a_x_sheets a_x_parts a_x_edge a_x_far a_x_lost x_isKept x_host x_below q.2.1 q.2.2.1 q.2.2.2.1 q.2.2.2.2.1 q.2.2.2.2.2.1 q.2.2.2.2.2.2.1 q.2.2.2.2.2.2.2.1 x_now q.2.2.2.2.2.2.2.2.1 q.2.2.2.2.2.2.2.2.2) (some (.int q.1)) D cI cJ cZ cG := by
  refine g_enter (cc := cX11_findLots) (nL := 4) (ret := (some .boolean)) (by decide) rfl (Nat.le_of_ble_eq_true rfl) ?_
  intro p e s m below meth c A C H locs ls hP hD hS hl
  obtain ⟨hx, hb, hr, hml, hown, hts, hlk, hgk, hA⟩ := id C
  have hK := hgk.1
  have hl : lv_has ls 4 [(0, .ref a_x)] := hl
  unfold f_X11_findLots at h
  refine lv_aload_n hx hb dX11_findLots_0 rfl (lv_at hl 0 rfl) ?_
  obtain ⟨q1, e1, h⟩ := bd_some h
  refine g_callV (index := 109) (maxL := 8) (n := 0) (As := []) (rest := []) (st1 := [.int q1.1]) (C1 := RX11) (T1 := TX11) (N1 := 19) (ws2 := (w_X11_findLots cI cJ cZ cG a_x a_x_now a_x_kept a_x_sortOf a_x_sizeOf a_x_sheets a_x_parts a_x_edge a_x_far a_x_lost x_isKept x_host x_below q1.2.1 q1.2.2.1 q1.2.2.2.1 q1.2.2.2.2.1 q1.2.2.2.2.2.1 q1.2.2.2.2.2.2.1 x_lots x_now q1.2.2.2.2.2.2.2 x_edge)) C hP hD hS hl.1 11 0 (c_X11_findBest l D cI cJ cZ cG a_x a_x_now a_x_kept a_x_sortOf a_x_sizeOf a_x_sheets a_x_parts a_x_edge a_x_far a_x_lost x_isKept x_host x_below x_bestTarget x_high x_low x_whole x_tryHigh x_tryLow x_lots x_now x_parts N q1 e1) gX11_findLots_X11_findBest rfl rfl rfl (by decide +kernel) ⟨Nat.le_of_ble_eq_true rfl, Nat.le_of_ble_eq_true rfl⟩ rfl rfl rfl (Nat.le_of_ble_eq_true rfl) rfl dX11_findLots_1 [0, 1, 2] [3] [1, 2, 3, 0] rfl rfl rfl rfl (by decide) rfl rfl rfl (fun H locs hP hD hS => ?_)
  refine lv_if_ne (tgt := 9) hx hb dX11_findLots_4 (by decide) (fun c2 => ?_) (fun c2 => ?_)
  · have h := iff_ c2 h
    refine lv_aload_n hx hb dX11_findLots_9 rfl (lv_at hl 0 rfl) ?_
    refine lv_iconst (v := 0) hx hb dX11_findLots_10 (by decide) ?_
    refine va_put (D := D) (ci := 11) (v := .int 0) (ty := .int) (C := RX11) (T := TX11) (N := 19) hx hb hts in_X11_findLots_X11 tyX11 tyX11_ok nmX11 hown hK hP hD hS 0 rfl rfl 15 (by decide) (hts _ mb_X11_findLots_2) (fun _ h9 => h9) rfl (by decide +kernel) rfl rfl (Nat.le_of_ble_eq_true rfl) dX11_findLots_11 (fun H locs hP hD hS => ?_)
    have hP : va_P D vwCl (w_X11_findLots cI cJ cZ cG a_x a_x_now a_x_kept a_x_sortOf a_x_sizeOf a_x_sheets a_x_parts a_x_edge a_x_far a_x_lost x_isKept x_host x_below q1.2.1 q1.2.2.1 q1.2.2.2.1 q1.2.2.2.2.1 q1.2.2.2.2.2.1 q1.2.2.2.2.2.2.1 0 x_now q1.2.2.2.2.2.2.2 x_edge) H := hP
    have hD : va_D A (w_X11_findLots cI cJ cZ cG a_x a_x_now a_x_kept a_x_sortOf a_x_sizeOf a_x_sheets a_x_parts a_x_edge a_x_far a_x_lost x_isKept x_host x_below q1.2.1 q1.2.2.1 q1.2.2.2.1 q1.2.2.2.2.1 q1.2.2.2.2.2.1 q1.2.2.2.2.2.2.1 0 x_now q1.2.2.2.2.2.2.2 x_edge) := hD
    refine lv_aload_n hx hb dX11_findLots_14 rfl (lv_at hl 0 rfl) ?_
    refine lv_lconst (v := 0) hx hb dX11_findLots_15 (by decide) ?_
    obtain ⟨q3, e3, h⟩ := bd_some h
    refine g_callV (index := 131) (maxL := 5) (n := 1) (As := [.long 0]) (rest := []) (st1 := []) (C1 := RX11) (T1 := TX11) (N1 := 19) (ws2 := (w_X11_findLots cI cJ cZ cG a_x a_x_now a_x_kept a_x_sortOf a_x_sizeOf a_x_sheets a_x_parts a_x_edge a_x_far a_x_lost x_isKept x_host x_below q1.2.1 q1.2.2.1 q1.2.2.2.1 q1.2.2.2.2.1 q1.2.2.2.2.2.1 q1.2.2.2.2.2.2.1 q3.1 x_now q1.2.2.2.2.2.2.2 q3.2)) C hP hD hS hl.1 11 0 (c_X11_addEdge l D cI cJ cZ cG a_x a_x_now a_x_kept a_x_sortOf a_x_sizeOf a_x_sheets a_x_parts a_x_edge a_x_far a_x_lost x_isKept x_host x_below q1.2.1 q1.2.2.1 q1.2.2.2.1 q1.2.2.2.2.1 q1.2.2.2.2.2.1 q1.2.2.2.2.2.2.1 0 x_edge 0 N q3 e3) gX11_findLots_X11_addEdge rfl rfl rfl (by decide +kernel) ⟨Nat.le_of_ble_eq_true rfl, Nat.le_of_ble_eq_true rfl⟩ rfl rfl rfl (Nat.le_of_ble_eq_true rfl) rfl dX11_findLots_16 [0, 3] [1, 2] [2, 0, 1, 3] rfl rfl rfl rfl (by decide) rfl rfl rfl (fun H locs hP hD hS => ?_)
    refine lv_lconst (v := 0) hx hb dX11_findLots_19 (by decide) ?_
    refine lv_lstore_n (lv' := [(1, .long 0), (0, .ref a_x)]) hx hb dX11_findLots_20 rfl hl (by decide) rfl (fun ls hl => ?_)
    refine lv_iconst (v := 0) hx hb dX11_findLots_21 (by decide) ?_
    refine lv_istore_n (lv' := [(3, .int 0), (1, .long 0), (0, .ref a_x)]) hx hb dX11_findLots_22 rfl hl (by decide) rfl (fun ls hl => ?_)
    exact t_X11_findLots_b23 C a_x a_x_now a_x_kept a_x_sortOf a_x_sizeOf a_x_sheets a_x_parts a_x_edge a_x_far a_x_lost x_isKept x_host x_below x_now N q q1.2.1 q1.2.2.1 q1.2.2.2.1 q1.2.2.2.2.1 q1.2.2.2.2.2.1 q1.2.2.2.2.2.2.1 q1.2.2.2.2.2.2.2 N q3.1 q3.2 0 0 h H locs ls hP hD hS (lv_sub hl [2, 1, 0] rfl)
  · have h := ift c2 h
    refine lv_iconst (v := 0) hx hb dX11_findLots_7 (by decide) ?_
    obtain rfl := Option.some.inj h
    exact g_zret C hP hD hS (nz_b (Or.inl rfl)) dX11_findLots_8
theorem in_X11_lots_X11 : ∀ w ∈ wsX110, w ∈ wsX11_lots := by decide +kernel
theorem mb_X11_lots_0 : Cond.constant RX11 113 (-1000000003) ∈ wsX11_lots := List.mem_of_getElem? (i := 2) rfl
theorem mb_X11_lots_1 : Cond.fieldLink RX11 128 "GuardDeskModel" "lots" "I" ∈ wsX11_lots := List.mem_of_getElem? (i := 1) rfl
set_option maxRecDepth 100000 in
set_option maxHeartbeats 4000000 in
theorem c_X11_lots (l : Launch) (D : va_G) (cI cJ cZ cG : ClassId) (a_x a_x_now a_x_kept a_x_sortOf a_x_sizeOf a_x_sheets a_x_parts a_x_edge a_x_far a_x_lost : Nat) (x_isKept : Int32) (x_host : Int32) (x_below : Int32) (x_bestTarget : Int32) (x_high : Int64) (x_low : Int64) (x_whole : Int64) (x_tryHigh : Int64) (x_tryLow : Int64) (x_lots : Int32) (x_now : (Nat → Int32)) (x_parts : (Nat → Int64)) (x_edge : (Nat → Int64)) (N : Nat) (q : Int32 × Int32 × Int64 × Int64 × Int64 × Int64 × Int64 × Int32 × (Nat → Int64) × (Nat → Int64)) (h : f_X11_lots N x_bestTarget x_high x_low x_whole x_tryHigh x_tryLow x_lots x_now x_parts x_edge = some q) : gMet l yX11_lots wsX11_lots rm_X11_lots [.ref a_x] (w_X11_lots cI cJ cZ cG a_x a_x_now a_x_kept a_x_sortOf a_x_sizeOf a_x_sheets a_x_parts a_x_edge a_x_far a_x_lost x_isKept x_host x_below x_bestTarget x_high x_low x_whole x_tryHigh x_tryLow x_lots x_now x_parts x_edge) (w_X11_lots cI cJ cZ cG a_x a_x_now a_x_kept a_x_sortOf a_x_sizeOf a_x_sheets a_x_parts a_x_edge a_x_far a_x_lost x_isKept x_host x_below q.2.1 q.2.2.1 q.2.2.2.1 q.2.2.2.2.1 q.2.2.2.2.2.1 q.2.2.2.2.2.2.1 q.2.2.2.2.2.2.2.1 x_now q.2.2.2.2.2.2.2.2.1 q.2.2.2.2.2.2.2.2.2) (some (.int q.1)) D cI cJ cZ cG := by
  refine g_enter (cc := cX11_lots) (nL := 1) (ret := (some .int)) (by decide) rfl (Nat.le_of_ble_eq_true rfl) ?_
  intro p e s m below meth c A C H locs ls hP hD hS hl
  obtain ⟨hx, hb, hr, hml, hown, hts, hlk, hgk, hA⟩ := id C
  have hK := hgk.1
  have hl : lv_has ls 1 [(0, .ref a_x)] := hl
  unfold f_X11_lots at h
  refine lv_aload_n hx hb dX11_lots_0 rfl (lv_at hl 0 rfl) ?_
  obtain ⟨q1, e1, h⟩ := bd_some h
  refine g_callV (index := 135) (maxL := 4) (n := 0) (As := []) (rest := []) (st1 := [.int q1.1]) (C1 := RX11) (T1 := TX11) (N1 := 19) (ws2 := (w_X11_lots cI cJ cZ cG a_x a_x_now a_x_kept a_x_sortOf a_x_sizeOf a_x_sheets a_x_parts a_x_edge a_x_far a_x_lost x_isKept x_host x_below q1.2.1 q1.2.2.1 q1.2.2.2.1 q1.2.2.2.2.1 q1.2.2.2.2.2.1 q1.2.2.2.2.2.2.1 q1.2.2.2.2.2.2.2.1 x_now q1.2.2.2.2.2.2.2.2.1 q1.2.2.2.2.2.2.2.2.2)) C hP hD hS hl.1 11 0 (c_X11_findLots l D cI cJ cZ cG a_x a_x_now a_x_kept a_x_sortOf a_x_sizeOf a_x_sheets a_x_parts a_x_edge a_x_far a_x_lost x_isKept x_host x_below x_bestTarget x_high x_low x_whole x_tryHigh x_tryLow x_lots x_now x_parts x_edge N q1 e1) gX11_lots_X11_findLots rfl rfl rfl (by decide +kernel) ⟨Nat.le_of_ble_eq_true rfl, Nat.le_of_ble_eq_true rfl⟩ rfl rfl rfl (Nat.le_of_ble_eq_true rfl) rfl dX11_lots_1 [0, 1, 2, 3] [] [0, 1, 2, 3] rfl rfl rfl rfl (by decide) rfl rfl rfl (fun H locs hP hD hS => ?_)
  refine lv_if_eq (tgt := 14) hx hb dX11_lots_4 (by decide) (fun c2 => ?_) (fun c2 => ?_)
  · have h := ift c2 h
    refine lv_ldc (v := (-1000000003)) hx hb hown (hts _ mb_X11_lots_0) dX11_lots_14 ?_
    obtain rfl := Option.some.inj h
    exact g_iret C hP hD hS dX11_lots_16
  · have h := iff_ c2 h
    refine lv_aload_n hx hb dX11_lots_7 rfl (lv_at hl 0 rfl) ?_
    refine va_get (D := D) (ci := 11) (v := .int q1.2.2.2.2.2.2.2.1) (C := RX11) (T := TX11) (N := 19) hx hb hts in_X11_lots_X11 hown hK hP 0 rfl rfl 15 (by decide) (hts _ mb_X11_lots_1) (fun _ h9 => h9) rfl dX11_lots_8 ?_
    refine lv_goto (tgt := 16) hx hb dX11_lots_11 (by decide) ?_
    obtain rfl := Option.some.inj h
    exact g_iret C hP hD hS dX11_lots_16
theorem in_X11_team_X11 : ∀ w ∈ wsX110, w ∈ wsX11_team := by decide +kernel
theorem mb_X11_team_0 : Cond.fieldLink RX11 97 "GuardDeskModel" "whole" "J" ∈ wsX11_team := List.mem_of_getElem? (i := 6) rfl
theorem mb_X11_team_1 : Cond.fieldLink RX11 9 "GuardDeskModel" "now" "[I" ∈ wsX11_team := List.mem_of_getElem? (i := 3) rfl
theorem mb_X11_team_2 : Cond.fieldLink RX11 29 "GuardDeskModel" "parts" "[J" ∈ wsX11_team := List.mem_of_getElem? (i := 4) rfl
theorem mb_X11_team_3 : Cond.fieldLink RX11 33 "GuardDeskModel" "edge" "[J" ∈ wsX11_team := List.mem_of_getElem? (i := 5) rfl
theorem mb_X11_team_4 : Cond.constant RX11 113 (-1000000003) ∈ wsX11_team := List.mem_of_getElem? (i := 2) rfl
theorem mb_X11_team_5 : Cond.fieldLink RX11 128 "GuardDeskModel" "lots" "I" ∈ wsX11_team := List.mem_of_getElem? (i := 1) rfl
set_option maxRecDepth 100000 in
set_option maxHeartbeats 4000000 in
theorem t_X11_team_b85 (C : cx D cI cJ cZ cG A cX11_team 10 (some .int) RX11 wsX11_team p s m args meth c) (a_x a_x_now a_x_kept a_x_sortOf a_x_sizeOf a_x_sheets a_x_parts a_x_edge a_x_far a_x_lost : Nat) (x_isKept : Int32) (x_host : Int32) (x_below : Int32) (x_now : (Nat → Int32)) (N : Nat) (q : Int32 × Int32 × Int64 × Int64 × Int64 × Int64 × Int64 × Int32 × (Nat → Int64) × (Nat → Int64)) (x_bestTarget : Int32) (x_high : Int64) (x_low : Int64) (x_whole : Int64) (x_tryHigh : Int64) (x_tryLow : Int64) (x_lots : Int32) (x_parts : (Nat → Int64)) (x_edge : (Nat → Int64)) (k0 : Int32) (k1 : Int32) (v1 : Int32) (v3 : Int64) (v5 : Int32) (v6 : Int64) (v8 : Int64) (k_31 : Int32 → Int64 → Int32 → Option (Int32 × Int32 × Int64 × Int64 × Int64 × Int64 × Int64 × Int32 × (Nat → Int64) × (Nat → Int64))) (hk_31 : ∀ (v2 : Int32) (v3 : Int64) (v5 : Int32), k_31 v2 v3 v5 = some q → WB p l e rm_X11_team s m args below meth c (MQ below (Qg D (some (.int q.1)) (w_X11_team cI cJ cZ cG a_x a_x_now a_x_kept a_x_sortOf a_x_sizeOf a_x_sheets a_x_parts a_x_edge a_x_far a_x_lost x_isKept x_host x_below q.2.1 q.2.2.1 q.2.2.2.1 q.2.2.2.2.1 q.2.2.2.2.2.1 q.2.2.2.2.2.2.1 q.2.2.2.2.2.2.2.1 x_now q.2.2.2.2.2.2.2.2.1 q.2.2.2.2.2.2.2.2.2) A) args s 0 0 A) D A 10 (w_X11_team cI cJ cZ cG a_x a_x_now a_x_kept a_x_sortOf a_x_sizeOf a_x_sheets a_x_parts a_x_edge a_x_far a_x_lost x_isKept x_host x_below x_bestTarget x_high x_low x_whole x_tryHigh x_tryLow x_lots x_now x_parts x_edge) [(0, .ref a_x), (1, .int v1), (2, .int v2), (3, .long v3), (5, .int v5)] [] 31) (k_61 : Int32 → Int64 → Option (Int32 × Int32 × Int64 × Int64 × Int64 × Int64 × Int64 × Int32 × (Nat → Int64) × (Nat → Int64))) (hk_61 : ∀ (v2 : Int32) (v8 : Int64), k_61 v2 v8 = some q → WB p l e rm_X11_team s m args below meth c (MQ below (Qg D (some (.int q.1)) (w_X11_team cI cJ cZ cG a_x a_x_now a_x_kept a_x_sortOf a_x_sizeOf a_x_sheets a_x_parts a_x_edge a_x_far a_x_lost x_isKept x_host x_below q.2.1 q.2.2.1 q.2.2.2.1 q.2.2.2.2.1 q.2.2.2.2.2.1 q.2.2.2.2.2.2.1 q.2.2.2.2.2.2.2.1 x_now q.2.2.2.2.2.2.2.2.1 q.2.2.2.2.2.2.2.2.2) A) args s 0 0 A) D A 10 (w_X11_team cI cJ cZ cG a_x a_x_now a_x_kept a_x_sortOf a_x_sizeOf a_x_sheets a_x_parts a_x_edge a_x_far a_x_lost x_isKept x_host x_below x_bestTarget x_high x_low x_whole x_tryHigh x_tryLow x_lots x_now x_parts x_edge) [(0, .ref a_x), (1, .int v1), (2, .int v2), (3, .long v3), (5, .int v5), (6, .long v6), (8, .long v8)] [] 61) (h : f_X11_team_b85 N x_now k_31 k_61 x_bestTarget x_high x_low x_whole x_tryHigh x_tryLow x_lots x_parts x_edge k0 k1 v1 v3 v5 v6 v8 = some q) : WB p l e rm_X11_team s m args below meth c (MQ below (Qg D (some (.int q.1)) (w_X11_team cI cJ cZ cG a_x a_x_now a_x_kept a_x_sortOf a_x_sizeOf a_x_sheets a_x_parts a_x_edge a_x_far a_x_lost x_isKept x_host x_below q.2.1 q.2.2.1 q.2.2.2.1 q.2.2.2.2.1 q.2.2.2.2.2.1 q.2.2.2.2.2.2.1 q.2.2.2.2.2.2.2.1 x_now q.2.2.2.2.2.2.2.2.1 q.2.2.2.2.2.2.2.2.2) A) args s 0 0 A) D A 10 (w_X11_team cI cJ cZ cG a_x a_x_now a_x_kept a_x_sortOf a_x_sizeOf a_x_sheets a_x_parts a_x_edge a_x_far a_x_lost x_isKept x_host x_below x_bestTarget x_high x_low x_whole x_tryHigh x_tryLow x_lots x_now x_parts x_edge) [(0, .ref a_x), (1, .int v1), (3, .long v3), (5, .int v5), (6, .long v6), (8, .long v8)] [.int k1, .int k0] 85 := by
  obtain ⟨hx, hb, hr, hml, hown, hts, hlk, hgk, hA⟩ := id C
  have hK := hgk.1
  unfold f_X11_team_b85 at h
  intro H locs ls hP hD hS hl
  refine lv_ior hx hb dX11_team_85 ?_
  refine lv_istore_n (lv' := [(2, .int (k0 ||| k1)), (0, .ref a_x), (1, .int v1), (3, .long v3), (5, .int v5), (6, .long v6), (8, .long v8)]) hx hb dX11_team_86 rfl hl (by decide) rfl (fun ls hl => ?_)
  refine lv_lload hx hb dX11_team_87 (lv_at hl 6 rfl) ?_
  refine lv_aload_n hx hb dX11_team_89 rfl (lv_at hl 1 rfl) ?_
  refine va_get (D := D) (ci := 11) (v := .long x_whole) (C := RX11) (T := TX11) (N := 19) hx hb hts in_X11_team_X11 hown hK hP 0 rfl rfl 11 (by decide) (hts _ mb_X11_team_0) (fun _ h9 => h9) rfl dX11_team_90 ?_
  refine lv_ladd hx hb dX11_team_93 ?_
  refine lv_lstore (lv' := [(8, .long (v8 + x_whole)), (2, .int (k0 ||| k1)), (0, .ref a_x), (1, .int v1), (3, .long v3), (5, .int v5), (6, .long v6)]) hx hb dX11_team_94 hl (by decide) rfl (fun ls hl => ?_)
  refine lv_goto (tgt := 61) hx hb dX11_team_96 (by decide) ?_
  exact hk_61 (k0 ||| k1) (v8 + x_whole) h H locs ls hP hD hS (lv_sub hl [2, 3, 1, 4, 5, 6, 0] rfl)
set_option maxRecDepth 100000 in
set_option maxHeartbeats 4000000 in
theorem t_X11_team_b61 (C : cx D cI cJ cZ cG A cX11_team 10 (some .int) RX11 wsX11_team p s m args meth c) (a_x a_x_now a_x_kept a_x_sortOf a_x_sizeOf a_x_sheets a_x_parts a_x_edge a_x_far a_x_lost : Nat) (x_isKept : Int32) (x_host : Int32) (x_below : Int32) (x_now : (Nat → Int32)) (N : Nat) (q : Int32 × Int32 × Int64 × Int64 × Int64 × Int64 × Int64 × Int32 × (Nat → Int64) × (Nat → Int64)) (x_bestTarget : Int32) (x_high : Int64) (x_low : Int64) (x_whole : Int64) (x_tryHigh : Int64) (x_tryLow : Int64) (x_lots : Int32) (x_parts : (Nat → Int64)) (x_edge : (Nat → Int64)) (v1 : Int32) (v3 : Int64) (v5 : Int32) (v6 : Int64) (k_31 : Int32 → Int64 → Int32 → Option (Int32 × Int32 × Int64 × Int64 × Int64 × Int64 × Int64 × Int32 × (Nat → Int64) × (Nat → Int64))) (hk_31 : ∀ (v2 : Int32) (v3 : Int64) (v5 : Int32), k_31 v2 v3 v5 = some q → WB p l e rm_X11_team s m args below meth c (MQ below (Qg D (some (.int q.1)) (w_X11_team cI cJ cZ cG a_x a_x_now a_x_kept a_x_sortOf a_x_sizeOf a_x_sheets a_x_parts a_x_edge a_x_far a_x_lost x_isKept x_host x_below q.2.1 q.2.2.1 q.2.2.2.1 q.2.2.2.2.1 q.2.2.2.2.2.1 q.2.2.2.2.2.2.1 q.2.2.2.2.2.2.2.1 x_now q.2.2.2.2.2.2.2.2.1 q.2.2.2.2.2.2.2.2.2) A) args s 0 0 A) D A 10 (w_X11_team cI cJ cZ cG a_x a_x_now a_x_kept a_x_sortOf a_x_sizeOf a_x_sheets a_x_parts a_x_edge a_x_far a_x_lost x_isKept x_host x_below x_bestTarget x_high x_low x_whole x_tryHigh x_tryLow x_lots x_now x_parts x_edge) [(0, .ref a_x), (1, .int v1), (2, .int v2), (3, .long v3), (5, .int v5)] [] 31) : ∀ (n : Nat) (v2 : Int32) (v8 : Int64), f_X11_team_b61 N x_now k_31 x_bestTarget x_high x_low x_whole x_tryHigh x_tryLow x_lots x_parts x_edge v1 v3 v5 v6 n v2 v8 = some q → WB p l e rm_X11_team s m args below meth c (MQ below (Qg D (some (.int q.1)) (w_X11_team cI cJ cZ cG a_x a_x_now a_x_kept a_x_sortOf a_x_sizeOf a_x_sheets a_x_parts a_x_edge a_x_far a_x_lost x_isKept x_host x_below q.2.1 q.2.2.1 q.2.2.2.1 q.2.2.2.2.1 q.2.2.2.2.2.1 q.2.2.2.2.2.2.1 q.2.2.2.2.2.2.2.1 x_now q.2.2.2.2.2.2.2.2.1 q.2.2.2.2.2.2.2.2.2) A) args s 0 0 A) D A 10 (w_X11_team cI cJ cZ cG a_x a_x_now a_x_kept a_x_sortOf a_x_sizeOf a_x_sheets a_x_parts a_x_edge a_x_far a_x_lost x_isKept x_host x_below x_bestTarget x_high x_low x_whole x_tryHigh x_tryLow x_lots x_now x_parts x_edge) [(0, .ref a_x), (1, .int v1), (2, .int v2), (3, .long v3), (5, .int v5), (6, .long v6), (8, .long v8)] [] 61 := by
  obtain ⟨hx, hb, hr, hml, hown, hts, hlk, hgk, hA⟩ := id C
  have hK := hgk.1
  intro n
  induction n with
  | zero => intro v2 v8 h; cases h
  | succ n hk_61 =>
    intro v2 v8 h
    have h : g_X11_team_b61 N x_now k_31 x_bestTarget x_high x_low x_whole x_tryHigh x_tryLow x_lots x_parts x_edge v1 v3 v5 v6 (f_X11_team_b61 N x_now k_31 x_bestTarget x_high x_low x_whole x_tryHigh x_tryLow x_lots x_parts x_edge v1 v3 v5 v6 n) v2 v8 = some q := h
    generalize f_X11_team_b61 N x_now k_31 x_bestTarget x_high x_low x_whole x_tryHigh x_tryLow x_lots x_parts x_edge v1 v3 v5 v6 n = k_61 at h hk_61
    unfold g_X11_team_b61 at h
    intro H locs ls hP hD hS hl
    refine lv_lload hx hb dX11_team_61 (lv_at hl 6 rfl) ?_
    refine lv_lload hx hb dX11_team_63 (lv_at hl 5 rfl) ?_
    refine W.lcmp hx hb dX11_team_65 ?_
    refine lv_if_ge (tgt := 99) hx hb dX11_team_66 (by decide) (fun c1 => ?_) (fun c1 => ?_)
    · have c1 := lc_ge.mp c1
      have h := ift c1 h
      refine lv_lload hx hb dX11_team_99 (lv_at hl 5 rfl) ?_
      refine lv_lstore_n (lv' := [(3, .long v6), (0, .ref a_x), (1, .int v1), (2, .int v2), (5, .int v5), (6, .long v6), (8, .long v8)]) hx hb dX11_team_101 rfl hl (by decide) rfl (fun ls hl => ?_)
      refine lv_iinc (v := v5 + 1) (lv' := [(5, .int (v5 + 1)), (3, .long v6), (0, .ref a_x), (1, .int v1), (2, .int v2), (6, .long v6), (8, .long v8)]) hx hb dX11_team_102 hl (k := 4) rfl rfl (by decide) rfl (fun ls hl => ?_)
      refine lv_goto (tgt := 31) hx hb dX11_team_105 (by decide) ?_
      exact hk_31 v2 v6 (v5 + 1) h H locs ls hP hD hS (lv_sub hl [2, 3, 4, 1, 0] rfl)
    · have c1 := (not_congr lc_ge).mp c1
      have h := iff_ c1 h
      refine lv_iload_n hx hb dX11_team_69 rfl (lv_at hl 2 rfl) ?_
      refine lv_lload hx hb dX11_team_70 (lv_at hl 6 rfl) ?_
      refine lv_lload_n hx hb dX11_team_72 rfl (lv_at hl 3 rfl) ?_
      refine W.lcmp hx hb dX11_team_73 ?_
      refine lv_if_lt (tgt := 84) hx hb dX11_team_74 (by decide) (fun c2 => ?_) (fun c2 => ?_)
      · have c2 := lc_lt.mp c2
        have h := ift c2 h
        refine lv_iconst (v := 0) hx hb dX11_team_84 (by decide) ?_
        exact t_X11_team_b85 C a_x a_x_now a_x_kept a_x_sortOf a_x_sizeOf a_x_sheets a_x_parts a_x_edge a_x_far a_x_lost x_isKept x_host x_below x_now N q x_bestTarget x_high x_low x_whole x_tryHigh x_tryLow x_lots x_parts x_edge v2 0 v1 v3 v5 v6 v8 k_31 hk_31 k_61 hk_61 h H locs ls hP hD hS (lv_sub hl [0, 1, 3, 4, 5, 6] rfl)
      · have c2 := (not_congr lc_lt).mp c2
        have h := iff_ c2 h
        refine lv_iconst (v := 1) hx hb dX11_team_77 (by decide) ?_
        refine lv_iload hx hb dX11_team_78 (lv_at hl 4 rfl) ?_
        refine lv_ishl hx hb dX11_team_80 ?_
        refine lv_goto (tgt := 85) hx hb dX11_team_81 (by decide) ?_
        exact t_X11_team_b85 C a_x a_x_now a_x_kept a_x_sortOf a_x_sizeOf a_x_sheets a_x_parts a_x_edge a_x_far a_x_lost x_isKept x_host x_below x_now N q x_bestTarget x_high x_low x_whole x_tryHigh x_tryLow x_lots x_parts x_edge v2 ((1 : Int32) <<< (v5 &&& 31)) v1 v3 v5 v6 v8 k_31 hk_31 k_61 hk_61 h H locs ls hP hD hS (lv_sub hl [0, 1, 3, 4, 5, 6] rfl)
set_option maxRecDepth 100000 in
set_option maxHeartbeats 4000000 in
theorem t_X11_team_b31 (C : cx D cI cJ cZ cG A cX11_team 10 (some .int) RX11 wsX11_team p s m args meth c) (a_x a_x_now a_x_kept a_x_sortOf a_x_sizeOf a_x_sheets a_x_parts a_x_edge a_x_far a_x_lost : Nat) (x_isKept : Int32) (x_host : Int32) (x_below : Int32) (x_now : (Nat → Int32)) (N : Nat) (q : Int32 × Int32 × Int64 × Int64 × Int64 × Int64 × Int64 × Int32 × (Nat → Int64) × (Nat → Int64)) (x_bestTarget : Int32) (x_high : Int64) (x_low : Int64) (x_whole : Int64) (x_tryHigh : Int64) (x_tryLow : Int64) (x_lots : Int32) (x_parts : (Nat → Int64)) (x_edge : (Nat → Int64)) (v1 : Int32) : ∀ (n : Nat) (v2 : Int32) (v3 : Int64) (v5 : Int32), f_X11_team_b31 N x_now x_bestTarget x_high x_low x_whole x_tryHigh x_tryLow x_lots x_parts x_edge v1 n v2 v3 v5 = some q → WB p l e rm_X11_team s m args below meth c (MQ below (Qg D (some (.int q.1)) (w_X11_team cI cJ cZ cG a_x a_x_now a_x_kept a_x_sortOf a_x_sizeOf a_x_sheets a_x_parts a_x_edge a_x_far a_x_lost x_isKept x_host x_below q.2.1 q.2.2.1 q.2.2.2.1 q.2.2.2.2.1 q.2.2.2.2.2.1 q.2.2.2.2.2.2.1 q.2.2.2.2.2.2.2.1 x_now q.2.2.2.2.2.2.2.2.1 q.2.2.2.2.2.2.2.2.2) A) args s 0 0 A) D A 10 (w_X11_team cI cJ cZ cG a_x a_x_now a_x_kept a_x_sortOf a_x_sizeOf a_x_sheets a_x_parts a_x_edge a_x_far a_x_lost x_isKept x_host x_below x_bestTarget x_high x_low x_whole x_tryHigh x_tryLow x_lots x_now x_parts x_edge) [(0, .ref a_x), (1, .int v1), (2, .int v2), (3, .long v3), (5, .int v5)] [] 31 := by
  obtain ⟨hx, hb, hr, hml, hown, hts, hlk, hgk, hA⟩ := id C
  have hK := hgk.1
  intro n
  induction n with
  | zero => intro v2 v3 v5 h; cases h
  | succ n hk_31 =>
    intro v2 v3 v5 h
    have h : g_X11_team_b31 N x_now x_bestTarget x_high x_low x_whole x_tryHigh x_tryLow x_lots x_parts x_edge v1 (f_X11_team_b31 N x_now x_bestTarget x_high x_low x_whole x_tryHigh x_tryLow x_lots x_parts x_edge v1 n) v2 v3 v5 = some q := h
    generalize f_X11_team_b31 N x_now x_bestTarget x_high x_low x_whole x_tryHigh x_tryLow x_lots x_parts x_edge v1 n = k_31 at h hk_31
    unfold g_X11_team_b31 at h
    intro H locs ls hP hD hS hl
    refine lv_iload hx hb dX11_team_31 (lv_at hl 4 rfl) ?_
    refine lv_aload_n hx hb dX11_team_33 rfl (lv_at hl 0 rfl) ?_
    refine va_get (D := D) (ci := 11) (v := .ref a_x_now) (C := RX11) (T := TX11) (N := 19) hx hb hts in_X11_team_X11 hown hK hP 0 rfl rfl 0 (by decide) (hts _ mb_X11_team_1) (fun _ h9 => h9) rfl dX11_team_34 ?_
    refine lv_iconst (v := 0) hx hb dX11_team_37 (by decide) ?_
    refine va_iald hx hb hK hP 1 0 rfl rfl (g_lit (i := 0) (n := 194) (by decide)) dX11_team_38 ?_
    refine W.eq (g2 := F0 m 39 ls [.int (x_now 0), .int v5]) rfl ?_
    refine lv_icmp_ge (tgt := 108) hx hb dX11_team_39 (by decide) (fun c1 => ?_) (fun c1 => ?_)
    · have h := ift c1 h
      refine lv_iload_n hx hb dX11_team_108 rfl (lv_at hl 2 rfl) ?_
      obtain rfl := Option.some.inj h
      exact g_iret C hP hD hS dX11_team_109
    · have h := iff_ c1 h
      refine lv_lload_n hx hb dX11_team_42 rfl (lv_at hl 3 rfl) ?_
      refine lv_aload_n hx hb dX11_team_43 rfl (lv_at hl 0 rfl) ?_
      refine va_get (D := D) (ci := 11) (v := .ref a_x_parts) (C := RX11) (T := TX11) (N := 19) hx hb hts in_X11_team_X11 hown hK hP 0 rfl rfl 12 (by decide) (hts _ mb_X11_team_2) (fun _ h9 => h9) rfl dX11_team_44 ?_
      refine lv_iload hx hb dX11_team_47 (lv_at hl 4 rfl) ?_
      obtain ⟨i2, h⟩ := gI_some h
      refine va_lald hx hb hK hP 2 1 rfl rfl i2 dX11_team_49 ?_
      refine lv_ladd hx hb dX11_team_50 ?_
      refine lv_lstore (lv' := [(6, .long (v3 + (x_parts v5.toNatClampNeg))), (0, .ref a_x), (1, .int v1), (2, .int v2), (3, .long v3), (5, .int v5)]) hx hb dX11_team_51 hl (by decide) rfl (fun ls hl => ?_)
      refine lv_aload_n hx hb dX11_team_53 rfl (lv_at hl 1 rfl) ?_
      refine va_get (D := D) (ci := 11) (v := .ref a_x_edge) (C := RX11) (T := TX11) (N := 19) hx hb hts in_X11_team_X11 hown hK hP 0 rfl rfl 16 (by decide) (hts _ mb_X11_team_3) (fun _ h9 => h9) rfl dX11_team_54 ?_
      refine lv_iload_n hx hb dX11_team_57 rfl (lv_at hl 2 rfl) ?_
      obtain ⟨i3, h⟩ := gI_some h
      refine va_lald hx hb hK hP 3 1 rfl rfl i3 dX11_team_58 ?_
      refine lv_lstore (lv' := [(8, .long (x_edge v1.toNatClampNeg)), (6, .long (v3 + (x_parts v5.toNatClampNeg))), (0, .ref a_x), (1, .int v1), (2, .int v2), (3, .long v3), (5, .int v5)]) hx hb dX11_team_59 hl (by decide) rfl (fun ls hl => ?_)
      exact t_X11_team_b61 C a_x a_x_now a_x_kept a_x_sortOf a_x_sizeOf a_x_sheets a_x_parts a_x_edge a_x_far a_x_lost x_isKept x_host x_below x_now N q x_bestTarget x_high x_low x_whole x_tryHigh x_tryLow x_lots x_parts x_edge v1 v3 v5 (v3 + (x_parts v5.toNatClampNeg)) k_31 hk_31 N v2 (x_edge v1.toNatClampNeg) h H locs ls hP hD hS (lv_sub hl [2, 3, 4, 5, 6, 1, 0] rfl)
set_option maxRecDepth 100000 in
set_option maxHeartbeats 4000000 in
theorem c_X11_team (l : Launch) (D : va_G) (cI cJ cZ cG : ClassId) (a_x a_x_now a_x_kept a_x_sortOf a_x_sizeOf a_x_sheets a_x_parts a_x_edge a_x_far a_x_lost : Nat) (x_isKept : Int32) (x_host : Int32) (x_below : Int32) (x_bestTarget : Int32) (x_high : Int64) (x_low : Int64) (x_whole : Int64) (x_tryHigh : Int64) (x_tryLow : Int64) (x_lots : Int32) (x_now : (Nat → Int32)) (x_parts : (Nat → Int64)) (x_edge : (Nat → Int64)) (p1 : Int32) (N : Nat) (q : Int32 × Int32 × Int64 × Int64 × Int64 × Int64 × Int64 × Int32 × (Nat → Int64) × (Nat → Int64)) (h : f_X11_team N x_bestTarget x_high x_low x_whole x_tryHigh x_tryLow x_lots x_now x_parts x_edge p1 = some q) : gMet l yX11_team wsX11_team rm_X11_team [.ref a_x, .int p1] (w_X11_team cI cJ cZ cG a_x a_x_now a_x_kept a_x_sortOf a_x_sizeOf a_x_sheets a_x_parts a_x_edge a_x_far a_x_lost x_isKept x_host x_below x_bestTarget x_high x_low x_whole x_tryHigh x_tryLow x_lots x_now x_parts x_edge) (w_X11_team cI cJ cZ cG a_x a_x_now a_x_kept a_x_sortOf a_x_sizeOf a_x_sheets a_x_parts a_x_edge a_x_far a_x_lost x_isKept x_host x_below q.2.1 q.2.2.1 q.2.2.2.1 q.2.2.2.2.1 q.2.2.2.2.2.1 q.2.2.2.2.2.2.1 q.2.2.2.2.2.2.2.1 x_now q.2.2.2.2.2.2.2.2.1 q.2.2.2.2.2.2.2.2.2) (some (.int q.1)) D cI cJ cZ cG := by
  refine g_enter (cc := cX11_team) (nL := 10) (ret := (some .int)) (by decide) rfl (Nat.le_of_ble_eq_true rfl) ?_
  intro p e s m below meth c A C H locs ls hP hD hS hl
  obtain ⟨hx, hb, hr, hml, hown, hts, hlk, hgk, hA⟩ := id C
  have hK := hgk.1
  have hl : lv_has ls 10 [(0, .ref a_x), (1, .int p1)] := hl
  unfold f_X11_team at h
  refine lv_aload_n hx hb dX11_team_0 rfl (lv_at hl 0 rfl) ?_
  obtain ⟨q1, e1, h⟩ := bd_some h
  refine g_callV (index := 135) (maxL := 4) (n := 0) (As := []) (rest := []) (st1 := [.int q1.1]) (C1 := RX11) (T1 := TX11) (N1 := 19) (ws2 := (w_X11_team cI cJ cZ cG a_x a_x_now a_x_kept a_x_sortOf a_x_sizeOf a_x_sheets a_x_parts a_x_edge a_x_far a_x_lost x_isKept x_host x_below q1.2.1 q1.2.2.1 q1.2.2.2.1 q1.2.2.2.2.1 q1.2.2.2.2.2.1 q1.2.2.2.2.2.2.1 q1.2.2.2.2.2.2.2.1 x_now q1.2.2.2.2.2.2.2.2.1 q1.2.2.2.2.2.2.2.2.2)) C hP hD hS hl.1 11 0 (c_X11_findLots l D cI cJ cZ cG a_x a_x_now a_x_kept a_x_sortOf a_x_sizeOf a_x_sheets a_x_parts a_x_edge a_x_far a_x_lost x_isKept x_host x_below x_bestTarget x_high x_low x_whole x_tryHigh x_tryLow x_lots x_now x_parts x_edge N q1 e1) gX11_team_X11_findLots rfl rfl rfl (by decide +kernel) ⟨Nat.le_of_ble_eq_true rfl, Nat.le_of_ble_eq_true rfl⟩ rfl rfl rfl (Nat.le_of_ble_eq_true rfl) rfl dX11_team_1 [0, 1, 2, 3] [] [0, 1, 2, 3] rfl rfl rfl rfl (by decide) rfl rfl rfl (fun H locs hP hD hS => ?_)
  refine lv_if_eq (tgt := 21) hx hb dX11_team_4 (by decide) (fun c2 => ?_) (fun c2 => ?_)
  · have h := ift c2 h
    refine lv_ldc (v := (-1000000003)) hx hb hown (hts _ mb_X11_team_4) dX11_team_21 ?_
    obtain rfl := Option.some.inj h
    exact g_iret C hP hD hS dX11_team_23
  · have h := iff_ c2 h
    refine lv_iload_n hx hb dX11_team_7 rfl (lv_at hl 1 rfl) ?_
    refine lv_iconst (v := 0) hx hb dX11_team_8 (by decide) ?_
    refine lv_aload_n hx hb dX11_team_9 rfl (lv_at hl 0 rfl) ?_
    refine va_get (D := D) (ci := 11) (v := .int q1.2.2.2.2.2.2.2.1) (C := RX11) (T := TX11) (N := 19) hx hb hts in_X11_team_X11 hown hK hP 0 rfl rfl 15 (by decide) (hts _ mb_X11_team_5) (fun _ h9 => h9) rfl dX11_team_10 ?_
    refine lv_iconst (v := 1) hx hb dX11_team_13 (by decide) ?_
    refine lv_isub hx hb dX11_team_14 ?_
    refine g_callS0 (index := 47) (maxL := 3) (n := 3) (As := [.int p1, .int 0, .int (q1.2.2.2.2.2.2.2.1 - 1)]) (rest := []) (st1 := [.int (f_X11_within p1 0 (q1.2.2.2.2.2.2.2.1 - 1))]) C hP hS hl.1 (c_X11_within l D cI cJ cZ cG p1 0 (q1.2.2.2.2.2.2.2.1 - 1) _ rfl) gX11_team_X11_within rfl rfl rfl (by decide +kernel) ⟨Nat.le_of_ble_eq_true rfl, Nat.le_of_ble_eq_true rfl⟩ rfl (Nat.le_of_ble_eq_true rfl) rfl dX11_team_15 rfl (fun H locs hP hS => ?_)
    refine lv_if_ne (tgt := 24) hx hb dX11_team_18 (by decide) (fun c3 => ?_) (fun c3 => ?_)
    · have h := iff_ c3 h
      refine lv_iconst (v := 0) hx hb dX11_team_24 (by decide) ?_
      refine lv_istore_n (lv' := [(2, .int 0), (0, .ref a_x), (1, .int p1)]) hx hb dX11_team_25 rfl hl (by decide) rfl (fun ls hl => ?_)
      refine lv_lconst (v := 0) hx hb dX11_team_26 (by decide) ?_
      refine lv_lstore_n (lv' := [(3, .long 0), (2, .int 0), (0, .ref a_x), (1, .int p1)]) hx hb dX11_team_27 rfl hl (by decide) rfl (fun ls hl => ?_)
      refine lv_iconst (v := 0) hx hb dX11_team_28 (by decide) ?_
      refine lv_istore (lv' := [(5, .int 0), (3, .long 0), (2, .int 0), (0, .ref a_x), (1, .int p1)]) hx hb dX11_team_29 hl (by decide) rfl (fun ls hl => ?_)
      exact t_X11_team_b31 C a_x a_x_now a_x_kept a_x_sortOf a_x_sizeOf a_x_sheets a_x_parts a_x_edge a_x_far a_x_lost x_isKept x_host x_below x_now N q q1.2.1 q1.2.2.1 q1.2.2.2.1 q1.2.2.2.2.1 q1.2.2.2.2.2.1 q1.2.2.2.2.2.2.1 q1.2.2.2.2.2.2.2.1 q1.2.2.2.2.2.2.2.2.1 q1.2.2.2.2.2.2.2.2.2 p1 N 0 0 0 h H locs ls hP hD hS (lv_sub hl [3, 4, 2, 1, 0] rfl)
    · have h := ift c3 h
      refine lv_ldc (v := (-1000000003)) hx hb hown (hts _ mb_X11_team_4) dX11_team_21 ?_
      obtain rfl := Option.some.inj h
      exact g_iret C hP hD hS dX11_team_23
theorem in_X11_chance_X11 : ∀ w ∈ wsX110, w ∈ wsX11_chance := by decide +kernel
theorem mb_X11_chance_0 : Cond.constant RX11 113 (-1000000003) ∈ wsX11_chance := List.mem_of_getElem? (i := 4) rfl
theorem mb_X11_chance_1 : Cond.fieldLink RX11 128 "GuardDeskModel" "lots" "I" ∈ wsX11_chance := List.mem_of_getElem? (i := 1) rfl
theorem mb_X11_chance_2 : Cond.fieldLink RX11 33 "GuardDeskModel" "edge" "[J" ∈ wsX11_chance := List.mem_of_getElem? (i := 2) rfl
theorem mb_X11_chance_3 : Cond.fieldLink RX11 97 "GuardDeskModel" "whole" "J" ∈ wsX11_chance := List.mem_of_getElem? (i := 3) rfl
set_option maxRecDepth 100000 in
set_option maxHeartbeats 4000000 in
theorem c_X11_chance (l : Launch) (D : va_G) (cI cJ cZ cG : ClassId) (a_x a_x_now a_x_kept a_x_sortOf a_x_sizeOf a_x_sheets a_x_parts a_x_edge a_x_far a_x_lost : Nat) (x_isKept : Int32) (x_host : Int32) (x_below : Int32) (x_bestTarget : Int32) (x_high : Int64) (x_low : Int64) (x_whole : Int64) (x_tryHigh : Int64) (x_tryLow : Int64) (x_lots : Int32) (x_now : (Nat → Int32)) (x_parts : (Nat → Int64)) (x_edge : (Nat → Int64)) (p1 : Int32) (N : Nat) (q : Int32 × Int32 × Int32 × Int64 × Int64 × Int64 × Int64 × Int64 × Int32 × (Nat → Int64) × (Nat → Int64)) (h : f_X11_chance N x_below x_bestTarget x_high x_low x_whole x_tryHigh x_tryLow x_lots x_now x_parts x_edge p1 = some q) : gMet l yX11_chance wsX11_chance rm_X11_chance [.ref a_x, .int p1] (w_X11_chance cI cJ cZ cG a_x a_x_now a_x_kept a_x_sortOf a_x_sizeOf a_x_sheets a_x_parts a_x_edge a_x_far a_x_lost x_isKept x_host x_below x_bestTarget x_high x_low x_whole x_tryHigh x_tryLow x_lots x_now x_parts x_edge) (w_X11_chance cI cJ cZ cG a_x a_x_now a_x_kept a_x_sortOf a_x_sizeOf a_x_sheets a_x_parts a_x_edge a_x_far a_x_lost x_isKept x_host q.2.1 q.2.2.1 q.2.2.2.1 q.2.2.2.2.1 q.2.2.2.2.2.1 q.2.2.2.2.2.2.1 q.2.2.2.2.2.2.2.1 q.2.2.2.2.2.2.2.2.1 x_now q.2.2.2.2.2.2.2.2.2.1 q.2.2.2.2.2.2.2.2.2.2) (some (.int q.1)) D cI cJ cZ cG := by
  refine g_enter (cc := cX11_chance) (nL := 2) (ret := (some .int)) (by decide) rfl (Nat.le_of_ble_eq_true rfl) ?_
  intro p e s m below meth c A C H locs ls hP hD hS hl
  obtain ⟨hx, hb, hr, hml, hown, hts, hlk, hgk, hA⟩ := id C
  have hK := hgk.1
  have hl : lv_has ls 2 [(0, .ref a_x), (1, .int p1)] := hl
  unfold f_X11_chance at h
  refine lv_aload_n hx hb dX11_chance_0 rfl (lv_at hl 0 rfl) ?_
  obtain ⟨q1, e1, h⟩ := bd_some h
  refine g_callV (index := 135) (maxL := 4) (n := 0) (As := []) (rest := []) (st1 := [.int q1.1]) (C1 := RX11) (T1 := TX11) (N1 := 19) (ws2 := (w_X11_chance cI cJ cZ cG a_x a_x_now a_x_kept a_x_sortOf a_x_sizeOf a_x_sheets a_x_parts a_x_edge a_x_far a_x_lost x_isKept x_host x_below q1.2.1 q1.2.2.1 q1.2.2.2.1 q1.2.2.2.2.1 q1.2.2.2.2.2.1 q1.2.2.2.2.2.2.1 q1.2.2.2.2.2.2.2.1 x_now q1.2.2.2.2.2.2.2.2.1 q1.2.2.2.2.2.2.2.2.2)) C hP hD hS hl.1 11 0 (c_X11_findLots l D cI cJ cZ cG a_x a_x_now a_x_kept a_x_sortOf a_x_sizeOf a_x_sheets a_x_parts a_x_edge a_x_far a_x_lost x_isKept x_host x_below x_bestTarget x_high x_low x_whole x_tryHigh x_tryLow x_lots x_now x_parts x_edge N q1 e1) gX11_chance_X11_findLots rfl rfl rfl (by decide +kernel) ⟨Nat.le_of_ble_eq_true rfl, Nat.le_of_ble_eq_true rfl⟩ rfl rfl rfl (Nat.le_of_ble_eq_true rfl) rfl dX11_chance_1 [0, 1, 2, 3] [] [0, 1, 2, 3] rfl rfl rfl rfl (by decide) rfl rfl rfl (fun H locs hP hD hS => ?_)
  refine lv_if_eq (tgt := 47) hx hb dX11_chance_4 (by decide) (fun c2 => ?_) (fun c2 => ?_)
  · have h := ift c2 h
    refine lv_ldc (v := (-1000000003)) hx hb hown (hts _ mb_X11_chance_0) dX11_chance_47 ?_
    obtain rfl := Option.some.inj h
    exact g_iret C hP hD hS dX11_chance_49
  · have h := iff_ c2 h
    refine lv_iload_n hx hb dX11_chance_7 rfl (lv_at hl 1 rfl) ?_
    refine lv_iconst (v := 0) hx hb dX11_chance_8 (by decide) ?_
    refine lv_aload_n hx hb dX11_chance_9 rfl (lv_at hl 0 rfl) ?_
    refine va_get (D := D) (ci := 11) (v := .int q1.2.2.2.2.2.2.2.1) (C := RX11) (T := TX11) (N := 19) hx hb hts in_X11_chance_X11 hown hK hP 0 rfl rfl 15 (by decide) (hts _ mb_X11_chance_1) (fun _ h9 => h9) rfl dX11_chance_10 ?_
    refine lv_iconst (v := 1) hx hb dX11_chance_13 (by decide) ?_
    refine lv_isub hx hb dX11_chance_14 ?_
    refine g_callS0 (index := 47) (maxL := 3) (n := 3) (As := [.int p1, .int 0, .int (q1.2.2.2.2.2.2.2.1 - 1)]) (rest := []) (st1 := [.int (f_X11_within p1 0 (q1.2.2.2.2.2.2.2.1 - 1))]) C hP hS hl.1 (c_X11_within l D cI cJ cZ cG p1 0 (q1.2.2.2.2.2.2.2.1 - 1) _ rfl) gX11_chance_X11_within rfl rfl rfl (by decide +kernel) ⟨Nat.le_of_ble_eq_true rfl, Nat.le_of_ble_eq_true rfl⟩ rfl (Nat.le_of_ble_eq_true rfl) rfl dX11_chance_15 rfl (fun H locs hP hS => ?_)
    refine lv_if_eq (tgt := 47) hx hb dX11_chance_18 (by decide) (fun c3 => ?_) (fun c3 => ?_)
    · have h := ift c3 h
      refine lv_ldc (v := (-1000000003)) hx hb hown (hts _ mb_X11_chance_0) dX11_chance_47 ?_
      obtain rfl := Option.some.inj h
      exact g_iret C hP hD hS dX11_chance_49
    · have h := iff_ c3 h
      refine lv_aload_n hx hb dX11_chance_21 rfl (lv_at hl 0 rfl) ?_
      refine lv_aload_n hx hb dX11_chance_22 rfl (lv_at hl 0 rfl) ?_
      refine va_get (D := D) (ci := 11) (v := .ref a_x_edge) (C := RX11) (T := TX11) (N := 19) hx hb hts in_X11_chance_X11 hown hK hP 0 rfl rfl 16 (by decide) (hts _ mb_X11_chance_2) (fun _ h9 => h9) rfl dX11_chance_23 ?_
      refine lv_iload_n hx hb dX11_chance_26 rfl (lv_at hl 1 rfl) ?_
      refine lv_iconst (v := 1) hx hb dX11_chance_27 (by decide) ?_
      refine lv_iadd hx hb dX11_chance_28 ?_
      obtain ⟨i4, h⟩ := gI_some h
      refine va_lald hx hb hK hP 3 1 rfl rfl i4 dX11_chance_29 ?_
      refine lv_aload_n hx hb dX11_chance_30 rfl (lv_at hl 0 rfl) ?_
      refine va_get (D := D) (ci := 11) (v := .ref a_x_edge) (C := RX11) (T := TX11) (N := 19) hx hb hts in_X11_chance_X11 hown hK hP 0 rfl rfl 16 (by decide) (hts _ mb_X11_chance_2) (fun _ h9 => h9) rfl dX11_chance_31 ?_
      refine lv_iload_n hx hb dX11_chance_34 rfl (lv_at hl 1 rfl) ?_
      obtain ⟨i5, h⟩ := gI_some h
      refine va_lald hx hb hK hP 3 1 rfl rfl i5 dX11_chance_35 ?_
      refine lv_lsub hx hb dX11_chance_36 ?_
      refine lv_aload_n hx hb dX11_chance_37 rfl (lv_at hl 0 rfl) ?_
      refine va_get (D := D) (ci := 11) (v := .long q1.2.2.2.2.1) (C := RX11) (T := TX11) (N := 19) hx hb hts in_X11_chance_X11 hown hK hP 0 rfl rfl 11 (by decide) (hts _ mb_X11_chance_3) (fun _ h9 => h9) rfl dX11_chance_38 ?_
      obtain ⟨q6, e6, h⟩ := bd_some h
      refine g_callV (index := 114) (maxL := 7) (n := 2) (As := [.long ((q1.2.2.2.2.2.2.2.2.2 (p1 + 1).toNatClampNeg) - (q1.2.2.2.2.2.2.2.2.2 p1.toNatClampNeg)), .long q1.2.2.2.2.1]) (rest := []) (st1 := [.int q6.1]) (C1 := RX11) (T1 := TX11) (N1 := 19) (ws2 := (w_X11_chance cI cJ cZ cG a_x a_x_now a_x_kept a_x_sortOf a_x_sizeOf a_x_sheets a_x_parts a_x_edge a_x_far a_x_lost x_isKept x_host q6.2 q1.2.1 q1.2.2.1 q1.2.2.2.1 q1.2.2.2.2.1 q1.2.2.2.2.2.1 q1.2.2.2.2.2.2.1 q1.2.2.2.2.2.2.2.1 x_now q1.2.2.2.2.2.2.2.2.1 q1.2.2.2.2.2.2.2.2.2)) C hP hD hS hl.1 11 0 (c_X11_fraction l D cI cJ cZ cG a_x a_x_now a_x_kept a_x_sortOf a_x_sizeOf a_x_sheets a_x_parts a_x_edge a_x_far a_x_lost x_isKept x_host x_below q1.2.1 q1.2.2.1 q1.2.2.2.1 q1.2.2.2.2.1 q1.2.2.2.2.2.1 q1.2.2.2.2.2.2.1 q1.2.2.2.2.2.2.2.1 ((q1.2.2.2.2.2.2.2.2.2 (p1 + 1).toNatClampNeg) - (q1.2.2.2.2.2.2.2.2.2 p1.toNatClampNeg)) q1.2.2.2.2.1 N q6 e6) gX11_chance_X11_fraction rfl rfl rfl (by decide +kernel) ⟨Nat.le_of_ble_eq_true rfl, Nat.le_of_ble_eq_true rfl⟩ rfl rfl rfl (Nat.le_of_ble_eq_true rfl) rfl dX11_chance_41 [0] [1, 2, 3] [3, 0, 1, 2] rfl rfl rfl rfl (by decide) rfl rfl rfl (fun H locs hP hD hS => ?_)
      refine lv_goto (tgt := 49) hx hb dX11_chance_44 (by decide) ?_
      obtain rfl := Option.some.inj h
      exact g_iret C hP hD hS dX11_chance_49
set_option maxRecDepth 100000 in
set_option maxHeartbeats 4000000 in
theorem c_X11_isPlace (l : Launch) (D : va_G) (cI cJ cZ cG : ClassId) (p0 : Int32) (q : Int32) (h : f_X11_isPlace p0 = q) : gMet l yX11_isPlace wsX11_isPlace rm_X11_isPlace [.int p0] (w_X11_isPlace cI cJ cZ cG) (w_X11_isPlace cI cJ cZ cG) (some (.int q)) D cI cJ cZ cG := by
  refine g_enter (cc := cX11_isPlace) (nL := 1) (ret := (some .boolean)) (by decide) rfl (Nat.le_of_ble_eq_true rfl) ?_
  intro p e s m below meth c A C H locs ls hP hD hS hl
  obtain ⟨hx, hb, hr, hml, hown, hts, hlk, hgk, hA⟩ := id C
  have hK := hgk.1
  have hl : lv_has ls 1 [(0, .int p0)] := hl
  unfold f_X11_isPlace at h
  refine lv_iload_n hx hb dX11_isPlace_0 rfl (lv_at hl 0 rfl) ?_
  refine lv_iconst (v := 0) hx hb dX11_isPlace_1 (by decide) ?_
  refine lv_bipush (v := 9) hx hb dX11_isPlace_2 (by decide) ?_
  refine g_callS0 (index := 47) (maxL := 3) (n := 3) (As := [.int p0, .int 0, .int 9]) (rest := []) (st1 := [.int (f_X11_within p0 0 9)]) C hP hS hl.1 (c_X11_within l D cI cJ cZ cG p0 0 9 _ rfl) gX11_isPlace_X11_within rfl rfl rfl (by decide +kernel) ⟨Nat.le_of_ble_eq_true rfl, Nat.le_of_ble_eq_true rfl⟩ rfl (Nat.le_of_ble_eq_true rfl) rfl dX11_isPlace_4 rfl (fun H locs hP hS => ?_)
  obtain rfl := h
  exact g_zret C hP hD hS (nz_b (z_X11_within p0 0 9)) dX11_isPlace_7
theorem in_X11_road_X11 : ∀ w ∈ wsX110, w ∈ wsX11_road := by decide +kernel
theorem mb_X11_road_0 : Cond.fieldLink RX11 9 "GuardDeskModel" "now" "[I" ∈ wsX11_road := List.mem_of_getElem? (i := 1) rfl
theorem mb_X11_road_1 : Cond.constant RX11 55 (-1000000002) ∈ wsX11_road := List.mem_of_getElem? (i := 2) rfl
set_option maxRecDepth 100000 in
set_option maxHeartbeats 4000000 in
theorem c_X11_road (l : Launch) (D : va_G) (cI cJ cZ cG : ClassId) (a_x a_x_now a_x_kept a_x_sortOf a_x_sizeOf a_x_sheets a_x_parts a_x_edge a_x_far a_x_lost : Nat) (x_isKept : Int32) (x_host : Int32) (x_below : Int32) (x_bestTarget : Int32) (x_high : Int64) (x_low : Int64) (x_whole : Int64) (x_tryHigh : Int64) (x_tryLow : Int64) (x_lots : Int32) (x_now : (Nat → Int32)) (p1 : Int32) (p2 : Int32) (p3 : Int32) (q : Int32 × (Nat → Int32)) (h : f_X11_road x_now p1 p2 p3 = some q) : gMet l yX11_road wsX11_road rm_X11_road [.ref a_x, .int p1, .int p2, .int p3] (w_X11_road cI cJ cZ cG a_x a_x_now a_x_kept a_x_sortOf a_x_sizeOf a_x_sheets a_x_parts a_x_edge a_x_far a_x_lost x_isKept x_host x_below x_bestTarget x_high x_low x_whole x_tryHigh x_tryLow x_lots x_now) (w_X11_road cI cJ cZ cG a_x a_x_now a_x_kept a_x_sortOf a_x_sizeOf a_x_sheets a_x_parts a_x_edge a_x_far a_x_lost x_isKept x_host x_below x_bestTarget x_high x_low x_whole x_tryHigh x_tryLow x_lots q.2) (some (.int q.1)) D cI cJ cZ cG := by
  refine g_enter (cc := cX11_road) (nL := 5) (ret := (some .int)) (by decide) rfl (Nat.le_of_ble_eq_true rfl) ?_
  intro p e s m below meth c A C H locs ls hP hD hS hl
  obtain ⟨hx, hb, hr, hml, hown, hts, hlk, hgk, hA⟩ := id C
  have hK := hgk.1
  have hl : lv_has ls 5 [(0, .ref a_x), (1, .int p1), (2, .int p2), (3, .int p3)] := hl
  unfold f_X11_road at h
  refine lv_aload_n hx hb dX11_road_0 rfl (lv_at hl 0 rfl) ?_
  refine va_get (D := D) (ci := 11) (v := .ref a_x_now) (C := RX11) (T := TX11) (N := 19) hx hb hts in_X11_road_X11 hown hK hP 0 rfl rfl 0 (by decide) (hts _ mb_X11_road_0) (fun _ h9 => h9) rfl dX11_road_1 ?_
  refine lv_iconst (v := 2) hx hb dX11_road_4 (by decide) ?_
  refine va_iald hx hb hK hP 1 0 rfl rfl (g_lit (i := 2) (n := 194) (by decide)) dX11_road_5 ?_
  refine W.eq (g2 := F0 m 6 ls [.int (x_now 2)]) rfl ?_
  refine lv_istore (lv' := [(4, .int (x_now 2)), (0, .ref a_x), (1, .int p1), (2, .int p2), (3, .int p3)]) hx hb dX11_road_6 hl (by decide) rfl (fun ls hl => ?_)
  refine lv_iload_n hx hb dX11_road_8 rfl (lv_at hl 2 rfl) ?_
  refine g_callS0 (index := 138) (maxL := 1) (n := 1) (As := [.int p1]) (rest := []) (st1 := [.int (f_X11_isPlace p1)]) C hP hS hl.1 (c_X11_isPlace l D cI cJ cZ cG p1 _ rfl) gX11_road_X11_isPlace rfl rfl rfl (by decide +kernel) ⟨Nat.le_of_ble_eq_true rfl, Nat.le_of_ble_eq_true rfl⟩ rfl (Nat.le_of_ble_eq_true rfl) rfl dX11_road_9 rfl (fun H locs hP hS => ?_)
  refine lv_if_eq (tgt := 44) hx hb dX11_road_12 (by decide) (fun c1 => ?_) (fun c1 => ?_)
  · have h := ift c1 h
    refine lv_ldc (v := (-1000000002)) hx hb hown (hts _ mb_X11_road_1) dX11_road_44 ?_
    obtain rfl := Option.some.inj h
    exact g_iret C hP hD hS dX11_road_46
  · have h := iff_ c1 h
    refine lv_iload_n hx hb dX11_road_15 rfl (lv_at hl 3 rfl) ?_
    refine g_callS0 (index := 138) (maxL := 1) (n := 1) (As := [.int p2]) (rest := []) (st1 := [.int (f_X11_isPlace p2)]) C hP hS hl.1 (c_X11_isPlace l D cI cJ cZ cG p2 _ rfl) gX11_road_X11_isPlace rfl rfl rfl (by decide +kernel) ⟨Nat.le_of_ble_eq_true rfl, Nat.le_of_ble_eq_true rfl⟩ rfl (Nat.le_of_ble_eq_true rfl) rfl dX11_road_16 rfl (fun H locs hP hS => ?_)
    refine lv_if_eq (tgt := 44) hx hb dX11_road_19 (by decide) (fun c2 => ?_) (fun c2 => ?_)
    · have h := ift c2 h
      refine lv_ldc (v := (-1000000002)) hx hb hown (hts _ mb_X11_road_1) dX11_road_44 ?_
      obtain rfl := Option.some.inj h
      exact g_iret C hP hD hS dX11_road_46
    · have h := iff_ c2 h
      refine lv_iload_n hx hb dX11_road_22 rfl (lv_at hl 2 rfl) ?_
      refine lv_iload_n hx hb dX11_road_23 rfl (lv_at hl 3 rfl) ?_
      refine lv_icmp_eq (tgt := 44) hx hb dX11_road_24 (by decide) (fun c3 => ?_) (fun c3 => ?_)
      · have h := ift c3 h
        refine lv_ldc (v := (-1000000002)) hx hb hown (hts _ mb_X11_road_1) dX11_road_44 ?_
        obtain rfl := Option.some.inj h
        exact g_iret C hP hD hS dX11_road_46
      · have h := iff_ c3 h
        refine lv_iload_n hx hb dX11_road_27 rfl (lv_at hl 4 rfl) ?_
        refine lv_iconst (v := 1) hx hb dX11_road_28 (by decide) ?_
        refine lv_bipush (v := 100) hx hb dX11_road_29 (by decide) ?_
        refine g_callS0 (index := 47) (maxL := 3) (n := 3) (As := [.int p3, .int 1, .int 100]) (rest := []) (st1 := [.int (f_X11_within p3 1 100)]) C hP hS hl.1 (c_X11_within l D cI cJ cZ cG p3 1 100 _ rfl) gX11_road_X11_within rfl rfl rfl (by decide +kernel) ⟨Nat.le_of_ble_eq_true rfl, Nat.le_of_ble_eq_true rfl⟩ rfl (Nat.le_of_ble_eq_true rfl) rfl dX11_road_31 rfl (fun H locs hP hS => ?_)
        refine lv_if_eq (tgt := 44) hx hb dX11_road_34 (by decide) (fun c4 => ?_) (fun c4 => ?_)
        · have h := ift c4 h
          refine lv_ldc (v := (-1000000002)) hx hb hown (hts _ mb_X11_road_1) dX11_road_44 ?_
          obtain rfl := Option.some.inj h
          exact g_iret C hP hD hS dX11_road_46
        · have h := iff_ c4 h
          refine lv_iload hx hb dX11_road_37 (lv_at hl 0 rfl) ?_
          refine lv_bipush (v := 16) hx hb dX11_road_39 (by decide) ?_
          refine lv_icmp_ne (tgt := 47) hx hb dX11_road_41 (by decide) (fun c5 => ?_) (fun c5 => ?_)
          · have h := iff_ c5 h
            refine lv_aload_n hx hb dX11_road_47 rfl (lv_at hl 1 rfl) ?_
            refine va_get (D := D) (ci := 11) (v := .ref a_x_now) (C := RX11) (T := TX11) (N := 19) hx hb hts in_X11_road_X11 hown hK hP 0 rfl rfl 0 (by decide) (hts _ mb_X11_road_0) (fun _ h9 => h9) rfl dX11_road_48 ?_
            refine lv_bipush (v := 85) hx hb dX11_road_51 (by decide) ?_
            refine lv_iload hx hb dX11_road_53 (lv_at hl 0 rfl) ?_
            refine lv_iadd hx hb dX11_road_55 ?_
            refine lv_iload_n hx hb dX11_road_56 rfl (lv_at hl 2 rfl) ?_
            obtain ⟨i6, h⟩ := gI_some h
            refine va_iast hx hb hK hP hD hS 1 0 rfl rfl i6 dX11_road_57 (fun H locs hP hD hS => ?_)
            have hP : va_P D vwCl (w_X11_road cI cJ cZ cG a_x a_x_now a_x_kept a_x_sortOf a_x_sizeOf a_x_sheets a_x_parts a_x_edge a_x_far a_x_lost x_isKept x_host x_below x_bestTarget x_high x_low x_whole x_tryHigh x_tryLow x_lots (upd x_now (85 + (x_now 2)).toNatClampNeg p1)) H := hP
            have hD : va_D A (w_X11_road cI cJ cZ cG a_x a_x_now a_x_kept a_x_sortOf a_x_sizeOf a_x_sheets a_x_parts a_x_edge a_x_far a_x_lost x_isKept x_host x_below x_bestTarget x_high x_low x_whole x_tryHigh x_tryLow x_lots (upd x_now (85 + (x_now 2)).toNatClampNeg p1)) := hD
            refine lv_aload_n hx hb dX11_road_58 rfl (lv_at hl 1 rfl) ?_
            refine va_get (D := D) (ci := 11) (v := .ref a_x_now) (C := RX11) (T := TX11) (N := 19) hx hb hts in_X11_road_X11 hown hK hP 0 rfl rfl 0 (by decide) (hts _ mb_X11_road_0) (fun _ h9 => h9) rfl dX11_road_59 ?_
            refine lv_bipush (v := 101) hx hb dX11_road_62 (by decide) ?_
            refine lv_iload hx hb dX11_road_64 (lv_at hl 0 rfl) ?_
            refine lv_iadd hx hb dX11_road_66 ?_
            refine lv_iload_n hx hb dX11_road_67 rfl (lv_at hl 3 rfl) ?_
            obtain ⟨i7, h⟩ := gI_some h
            refine va_iast hx hb hK hP hD hS 1 0 rfl rfl i7 dX11_road_68 (fun H locs hP hD hS => ?_)
            have hP : va_P D vwCl (w_X11_road cI cJ cZ cG a_x a_x_now a_x_kept a_x_sortOf a_x_sizeOf a_x_sheets a_x_parts a_x_edge a_x_far a_x_lost x_isKept x_host x_below x_bestTarget x_high x_low x_whole x_tryHigh x_tryLow x_lots (upd (upd x_now (85 + (x_now 2)).toNatClampNeg p1) (101 + (x_now 2)).toNatClampNeg p2)) H := hP
            have hD : va_D A (w_X11_road cI cJ cZ cG a_x a_x_now a_x_kept a_x_sortOf a_x_sizeOf a_x_sheets a_x_parts a_x_edge a_x_far a_x_lost x_isKept x_host x_below x_bestTarget x_high x_low x_whole x_tryHigh x_tryLow x_lots (upd (upd x_now (85 + (x_now 2)).toNatClampNeg p1) (101 + (x_now 2)).toNatClampNeg p2)) := hD
            refine lv_aload_n hx hb dX11_road_69 rfl (lv_at hl 1 rfl) ?_
            refine va_get (D := D) (ci := 11) (v := .ref a_x_now) (C := RX11) (T := TX11) (N := 19) hx hb hts in_X11_road_X11 hown hK hP 0 rfl rfl 0 (by decide) (hts _ mb_X11_road_0) (fun _ h9 => h9) rfl dX11_road_70 ?_
            refine lv_bipush (v := 117) hx hb dX11_road_73 (by decide) ?_
            refine lv_iload hx hb dX11_road_75 (lv_at hl 0 rfl) ?_
            refine lv_iadd hx hb dX11_road_77 ?_
            refine lv_iload_n hx hb dX11_road_78 rfl (lv_at hl 4 rfl) ?_
            obtain ⟨i8, h⟩ := gI_some h
            refine va_iast hx hb hK hP hD hS 1 0 rfl rfl i8 dX11_road_79 (fun H locs hP hD hS => ?_)
            have hP : va_P D vwCl (w_X11_road cI cJ cZ cG a_x a_x_now a_x_kept a_x_sortOf a_x_sizeOf a_x_sheets a_x_parts a_x_edge a_x_far a_x_lost x_isKept x_host x_below x_bestTarget x_high x_low x_whole x_tryHigh x_tryLow x_lots (upd (upd (upd x_now (85 + (x_now 2)).toNatClampNeg p1) (101 + (x_now 2)).toNatClampNeg p2) (117 + (x_now 2)).toNatClampNeg p3)) H := hP
            have hD : va_D A (w_X11_road cI cJ cZ cG a_x a_x_now a_x_kept a_x_sortOf a_x_sizeOf a_x_sheets a_x_parts a_x_edge a_x_far a_x_lost x_isKept x_host x_below x_bestTarget x_high x_low x_whole x_tryHigh x_tryLow x_lots (upd (upd (upd x_now (85 + (x_now 2)).toNatClampNeg p1) (101 + (x_now 2)).toNatClampNeg p2) (117 + (x_now 2)).toNatClampNeg p3)) := hD
            refine lv_aload_n hx hb dX11_road_80 rfl (lv_at hl 1 rfl) ?_
            refine va_get (D := D) (ci := 11) (v := .ref a_x_now) (C := RX11) (T := TX11) (N := 19) hx hb hts in_X11_road_X11 hown hK hP 0 rfl rfl 0 (by decide) (hts _ mb_X11_road_0) (fun _ h9 => h9) rfl dX11_road_81 ?_
            refine lv_sipush (v := 133) hx hb dX11_road_84 (by decide) ?_
            refine lv_iload hx hb dX11_road_87 (lv_at hl 0 rfl) ?_
            refine lv_iadd hx hb dX11_road_89 ?_
            refine lv_iconst (v := 0) hx hb dX11_road_90 (by decide) ?_
            obtain ⟨i9, h⟩ := gI_some h
            refine va_iast hx hb hK hP hD hS 1 0 rfl rfl i9 dX11_road_91 (fun H locs hP hD hS => ?_)
            have hP : va_P D vwCl (w_X11_road cI cJ cZ cG a_x a_x_now a_x_kept a_x_sortOf a_x_sizeOf a_x_sheets a_x_parts a_x_edge a_x_far a_x_lost x_isKept x_host x_below x_bestTarget x_high x_low x_whole x_tryHigh x_tryLow x_lots (upd (upd (upd (upd x_now (85 + (x_now 2)).toNatClampNeg p1) (101 + (x_now 2)).toNatClampNeg p2) (117 + (x_now 2)).toNatClampNeg p3) (133 + (x_now 2)).toNatClampNeg 0)) H := hP
            have hD : va_D A (w_X11_road cI cJ cZ cG a_x a_x_now a_x_kept a_x_sortOf a_x_sizeOf a_x_sheets a_x_parts a_x_edge a_x_far a_x_lost x_isKept x_host x_below x_bestTarget x_high x_low x_whole x_tryHigh x_tryLow x_lots (upd (upd (upd (upd x_now (85 + (x_now 2)).toNatClampNeg p1) (101 + (x_now 2)).toNatClampNeg p2) (117 + (x_now 2)).toNatClampNeg p3) (133 + (x_now 2)).toNatClampNeg 0)) := hD
            refine lv_aload_n hx hb dX11_road_92 rfl (lv_at hl 1 rfl) ?_
            refine va_get (D := D) (ci := 11) (v := .ref a_x_now) (C := RX11) (T := TX11) (N := 19) hx hb hts in_X11_road_X11 hown hK hP 0 rfl rfl 0 (by decide) (hts _ mb_X11_road_0) (fun _ h9 => h9) rfl dX11_road_93 ?_
            refine lv_iconst (v := 2) hx hb dX11_road_96 (by decide) ?_
            refine lv_dup2_11 hx hb dX11_road_97 rfl rfl ?_
            refine va_iald hx hb hK hP 1 0 rfl rfl (g_lit (i := 2) (n := 194) (by decide)) dX11_road_98 ?_
            refine W.eq (g2 := F0 m 99 ls [.int ((upd (upd (upd (upd x_now (85 + (x_now 2)).toNatClampNeg p1) (101 + (x_now 2)).toNatClampNeg p2) (117 + (x_now 2)).toNatClampNeg p3) (133 + (x_now 2)).toNatClampNeg 0) 2), .int 2, .ref a_x_now]) rfl ?_
            refine lv_iconst (v := 1) hx hb dX11_road_99 (by decide) ?_
            refine lv_iadd hx hb dX11_road_100 ?_
            refine va_iast hx hb hK hP hD hS 1 0 rfl rfl (g_lit (i := 2) (n := 194) (by decide)) dX11_road_101 (fun H locs hP hD hS => ?_)
            have hP : va_P D vwCl (w_X11_road cI cJ cZ cG a_x a_x_now a_x_kept a_x_sortOf a_x_sizeOf a_x_sheets a_x_parts a_x_edge a_x_far a_x_lost x_isKept x_host x_below x_bestTarget x_high x_low x_whole x_tryHigh x_tryLow x_lots (upd (upd (upd (upd (upd x_now (85 + (x_now 2)).toNatClampNeg p1) (101 + (x_now 2)).toNatClampNeg p2) (117 + (x_now 2)).toNatClampNeg p3) (133 + (x_now 2)).toNatClampNeg 0) 2 (((upd (upd (upd (upd x_now (85 + (x_now 2)).toNatClampNeg p1) (101 + (x_now 2)).toNatClampNeg p2) (117 + (x_now 2)).toNatClampNeg p3) (133 + (x_now 2)).toNatClampNeg 0) 2) + 1))) H := hP
            have hD : va_D A (w_X11_road cI cJ cZ cG a_x a_x_now a_x_kept a_x_sortOf a_x_sizeOf a_x_sheets a_x_parts a_x_edge a_x_far a_x_lost x_isKept x_host x_below x_bestTarget x_high x_low x_whole x_tryHigh x_tryLow x_lots (upd (upd (upd (upd (upd x_now (85 + (x_now 2)).toNatClampNeg p1) (101 + (x_now 2)).toNatClampNeg p2) (117 + (x_now 2)).toNatClampNeg p3) (133 + (x_now 2)).toNatClampNeg 0) 2 (((upd (upd (upd (upd x_now (85 + (x_now 2)).toNatClampNeg p1) (101 + (x_now 2)).toNatClampNeg p2) (117 + (x_now 2)).toNatClampNeg p3) (133 + (x_now 2)).toNatClampNeg 0) 2) + 1))) := hD
            refine lv_iload hx hb dX11_road_102 (lv_at hl 0 rfl) ?_
            obtain rfl := Option.some.inj h
            exact g_iret C hP hD hS dX11_road_104
          · have h := ift c5 h
            refine lv_ldc (v := (-1000000002)) hx hb hown (hts _ mb_X11_road_1) dX11_road_44 ?_
            obtain rfl := Option.some.inj h
            exact g_iret C hP hD hS dX11_road_46
theorem in_X11_bar_X11 : ∀ w ∈ wsX110, w ∈ wsX11_bar := by decide +kernel
theorem mb_X11_bar_0 : Cond.fieldLink RX11 9 "GuardDeskModel" "now" "[I" ∈ wsX11_bar := List.mem_of_getElem? (i := 1) rfl
theorem mb_X11_bar_1 : Cond.constant RX11 55 (-1000000002) ∈ wsX11_bar := List.mem_of_getElem? (i := 2) rfl
set_option maxRecDepth 100000 in
set_option maxHeartbeats 4000000 in
theorem c_X11_bar (l : Launch) (D : va_G) (cI cJ cZ cG : ClassId) (a_x a_x_now a_x_kept a_x_sortOf a_x_sizeOf a_x_sheets a_x_parts a_x_edge a_x_far a_x_lost : Nat) (x_isKept : Int32) (x_host : Int32) (x_below : Int32) (x_bestTarget : Int32) (x_high : Int64) (x_low : Int64) (x_whole : Int64) (x_tryHigh : Int64) (x_tryLow : Int64) (x_lots : Int32) (x_now : (Nat → Int32)) (p1 : Int32) (p2 : Int32) (q : Int32 × (Nat → Int32)) (h : f_X11_bar x_now p1 p2 = some q) : gMet l yX11_bar wsX11_bar rm_X11_bar [.ref a_x, .int p1, .int p2] (w_X11_bar cI cJ cZ cG a_x a_x_now a_x_kept a_x_sortOf a_x_sizeOf a_x_sheets a_x_parts a_x_edge a_x_far a_x_lost x_isKept x_host x_below x_bestTarget x_high x_low x_whole x_tryHigh x_tryLow x_lots x_now) (w_X11_bar cI cJ cZ cG a_x a_x_now a_x_kept a_x_sortOf a_x_sizeOf a_x_sheets a_x_parts a_x_edge a_x_far a_x_lost x_isKept x_host x_below x_bestTarget x_high x_low x_whole x_tryHigh x_tryLow x_lots q.2) (some (.int q.1)) D cI cJ cZ cG := by
  refine g_enter (cc := cX11_bar) (nL := 4) (ret := (some .int)) (by decide) rfl (Nat.le_of_ble_eq_true rfl) ?_
  intro p e s m below meth c A C H locs ls hP hD hS hl
  obtain ⟨hx, hb, hr, hml, hown, hts, hlk, hgk, hA⟩ := id C
  have hK := hgk.1
  have hl : lv_has ls 4 [(0, .ref a_x), (1, .int p1), (2, .int p2)] := hl
  unfold f_X11_bar at h
  refine lv_iload_n hx hb dX11_bar_0 rfl (lv_at hl 1 rfl) ?_
  refine lv_iconst (v := 0) hx hb dX11_bar_1 (by decide) ?_
  refine lv_aload_n hx hb dX11_bar_2 rfl (lv_at hl 0 rfl) ?_
  refine va_get (D := D) (ci := 11) (v := .ref a_x_now) (C := RX11) (T := TX11) (N := 19) hx hb hts in_X11_bar_X11 hown hK hP 0 rfl rfl 0 (by decide) (hts _ mb_X11_bar_0) (fun _ h9 => h9) rfl dX11_bar_3 ?_
  refine lv_iconst (v := 2) hx hb dX11_bar_6 (by decide) ?_
  refine va_iald hx hb hK hP 1 0 rfl rfl (g_lit (i := 2) (n := 194) (by decide)) dX11_bar_7 ?_
  refine W.eq (g2 := F0 m 8 ls [.int (x_now 2), .int 0, .int p1]) rfl ?_
  refine lv_iconst (v := 1) hx hb dX11_bar_8 (by decide) ?_
  refine lv_isub hx hb dX11_bar_9 ?_
  refine g_callS0 (index := 47) (maxL := 3) (n := 3) (As := [.int p1, .int 0, .int ((x_now 2) - 1)]) (rest := []) (st1 := [.int (f_X11_within p1 0 ((x_now 2) - 1))]) C hP hS hl.1 (c_X11_within l D cI cJ cZ cG p1 0 ((x_now 2) - 1) _ rfl) gX11_bar_X11_within rfl rfl rfl (by decide +kernel) ⟨Nat.le_of_ble_eq_true rfl, Nat.le_of_ble_eq_true rfl⟩ rfl (Nat.le_of_ble_eq_true rfl) rfl dX11_bar_10 rfl (fun H locs hP hS => ?_)
  refine lv_if_ne (tgt := 19) hx hb dX11_bar_13 (by decide) (fun c1 => ?_) (fun c1 => ?_)
  · have h := iff_ c1 h
    refine lv_aload_n hx hb dX11_bar_19 rfl (lv_at hl 0 rfl) ?_
    refine va_get (D := D) (ci := 11) (v := .ref a_x_now) (C := RX11) (T := TX11) (N := 19) hx hb hts in_X11_bar_X11 hown hK hP 0 rfl rfl 0 (by decide) (hts _ mb_X11_bar_0) (fun _ h9 => h9) rfl dX11_bar_20 ?_
    refine lv_sipush (v := 133) hx hb dX11_bar_23 (by decide) ?_
    refine lv_iload_n hx hb dX11_bar_26 rfl (lv_at hl 1 rfl) ?_
    refine lv_iadd hx hb dX11_bar_27 ?_
    obtain ⟨i2, h⟩ := gI_some h
    refine va_iald hx hb hK hP 1 0 rfl rfl i2 dX11_bar_28 ?_
    refine lv_istore_n (lv' := [(3, .int (x_now (133 + p1).toNatClampNeg)), (0, .ref a_x), (1, .int p1), (2, .int p2)]) hx hb dX11_bar_29 rfl hl (by decide) rfl (fun ls hl => ?_)
    refine lv_aload_n hx hb dX11_bar_30 rfl (lv_at hl 1 rfl) ?_
    refine va_get (D := D) (ci := 11) (v := .ref a_x_now) (C := RX11) (T := TX11) (N := 19) hx hb hts in_X11_bar_X11 hown hK hP 0 rfl rfl 0 (by decide) (hts _ mb_X11_bar_0) (fun _ h9 => h9) rfl dX11_bar_31 ?_
    refine lv_sipush (v := 133) hx hb dX11_bar_34 (by decide) ?_
    refine lv_iload_n hx hb dX11_bar_37 rfl (lv_at hl 2 rfl) ?_
    refine lv_iadd hx hb dX11_bar_38 ?_
    refine lv_iload_n hx hb dX11_bar_39 rfl (lv_at hl 3 rfl) ?_
    refine lv_if_eq (tgt := 47) hx hb dX11_bar_40 (by decide) (fun c3 => ?_) (fun c3 => ?_)
    · have h := ift c3 h
      refine lv_iconst (v := 0) hx hb dX11_bar_47 (by decide) ?_
      obtain ⟨i4, h⟩ := gI_some h
      refine va_iast hx hb hK hP hD hS 1 0 rfl rfl i4 dX11_bar_48 (fun H locs hP hD hS => ?_)
      have hP : va_P D vwCl (w_X11_bar cI cJ cZ cG a_x a_x_now a_x_kept a_x_sortOf a_x_sizeOf a_x_sheets a_x_parts a_x_edge a_x_far a_x_lost x_isKept x_host x_below x_bestTarget x_high x_low x_whole x_tryHigh x_tryLow x_lots (upd x_now (133 + p1).toNatClampNeg 0)) H := hP
      have hD : va_D A (w_X11_bar cI cJ cZ cG a_x a_x_now a_x_kept a_x_sortOf a_x_sizeOf a_x_sheets a_x_parts a_x_edge a_x_far a_x_lost x_isKept x_host x_below x_bestTarget x_high x_low x_whole x_tryHigh x_tryLow x_lots (upd x_now (133 + p1).toNatClampNeg 0)) := hD
      refine lv_iload_n hx hb dX11_bar_49 rfl (lv_at hl 0 rfl) ?_
      obtain rfl := Option.some.inj h
      exact g_iret C hP hD hS dX11_bar_50
    · have h := iff_ c3 h
      refine lv_iconst (v := 1) hx hb dX11_bar_43 (by decide) ?_
      refine lv_goto (tgt := 48) hx hb dX11_bar_44 (by decide) ?_
      obtain ⟨i5, h⟩ := gI_some h
      refine va_iast hx hb hK hP hD hS 1 0 rfl rfl i5 dX11_bar_48 (fun H locs hP hD hS => ?_)
      have hP : va_P D vwCl (w_X11_bar cI cJ cZ cG a_x a_x_now a_x_kept a_x_sortOf a_x_sizeOf a_x_sheets a_x_parts a_x_edge a_x_far a_x_lost x_isKept x_host x_below x_bestTarget x_high x_low x_whole x_tryHigh x_tryLow x_lots (upd x_now (133 + p1).toNatClampNeg 1)) H := hP
      have hD : va_D A (w_X11_bar cI cJ cZ cG a_x a_x_now a_x_kept a_x_sortOf a_x_sizeOf a_x_sheets a_x_parts a_x_edge a_x_far a_x_lost x_isKept x_host x_below x_bestTarget x_high x_low x_whole x_tryHigh x_tryLow x_lots (upd x_now (133 + p1).toNatClampNeg 1)) := hD
      refine lv_iload_n hx hb dX11_bar_49 rfl (lv_at hl 0 rfl) ?_
      obtain rfl := Option.some.inj h
      exact g_iret C hP hD hS dX11_bar_50
  · have h := ift c1 h
    refine lv_ldc (v := (-1000000002)) hx hb hown (hts _ mb_X11_bar_1) dX11_bar_16 ?_
    obtain rfl := Option.some.inj h
    exact g_iret C hP hD hS dX11_bar_18
theorem in_X11_shortWithout_X11 : ∀ w ∈ wsX110, w ∈ wsX11_shortWithout := by decide +kernel
theorem mb_X11_shortWithout_0 : Cond.fieldLink RX11 9 "GuardDeskModel" "now" "[I" ∈ wsX11_shortWithout := List.mem_of_getElem? (i := 3) rfl
theorem mb_X11_shortWithout_1 : Cond.fieldLink RX11 36 "GuardDeskModel" "far" "[I" ∈ wsX11_shortWithout := List.mem_of_getElem? (i := 1) rfl
theorem mb_X11_shortWithout_2 : Cond.constant RX11 141 (1000000) ∈ wsX11_shortWithout := List.mem_of_getElem? (i := 2) rfl
theorem mb_X11_shortWithout_3 : Cond.methodLink RX11 142 Lib.Math.min.name ∈ wsX11_shortWithout := List.mem_of_getElem? (i := 4) rfl
theorem mb_X11_shortWithout_4 : Cond.static Lib.Math.min.name ∈ wsX11_shortWithout := List.mem_of_getElem? (i := 5) rfl
theorem mb_X11_shortWithout_5 : Cond.initialized "java/lang/Math" ∈ wsX11_shortWithout := List.mem_of_getElem? (i := 6) rfl
theorem mb_X11_shortWithout_6 : Cond.code Lib.Math.min.name Lib.Math.min.code 2 (some .int) ∈ wsX11_shortWithout := List.mem_of_getElem? (i := 7) rfl
set_option maxRecDepth 100000 in
set_option maxHeartbeats 4000000 in
theorem t_X11_shortWithout_b49 (C : cx D cI cJ cZ cG A cX11_shortWithout 7 (some .int) RX11 wsX11_shortWithout p s m args meth c) (a_x a_x_now a_x_kept a_x_sortOf a_x_sizeOf a_x_sheets a_x_parts a_x_edge a_x_far a_x_lost : Nat) (x_isKept : Int32) (x_host : Int32) (x_below : Int32) (x_bestTarget : Int32) (x_high : Int64) (x_low : Int64) (x_whole : Int64) (x_tryHigh : Int64) (x_tryLow : Int64) (x_lots : Int32) (x_now : (Nat → Int32)) (N : Nat) (q : Int32 × (Nat → Int32)) (v2 : Int32) (v3 : Int32) (k_38 : (Nat → Int32) → Int32 → Option (Int32 × (Nat → Int32))) (hk_38 : ∀ (x_far : (Nat → Int32)) (v4 : Int32), k_38 x_far v4 = some q → WB p l e rm_X11_shortWithout s m args below meth c (MQ below (Qg D (some (.int q.1)) (w_X11_shortWithout cI cJ cZ cG a_x a_x_now a_x_kept a_x_sortOf a_x_sizeOf a_x_sheets a_x_parts a_x_edge a_x_far a_x_lost x_isKept x_host x_below x_bestTarget x_high x_low x_whole x_tryHigh x_tryLow x_lots x_now q.2) A) args s 0 0 A) D A 7 (w_X11_shortWithout cI cJ cZ cG a_x a_x_now a_x_kept a_x_sortOf a_x_sizeOf a_x_sheets a_x_parts a_x_edge a_x_far a_x_lost x_isKept x_host x_below x_bestTarget x_high x_low x_whole x_tryHigh x_tryLow x_lots x_now x_far) [(0, .ref a_x), (2, .int v2), (3, .int v3), (4, .int v4)] [] 38) : ∀ (n : Nat) (x_far : (Nat → Int32)) (v4 : Int32) (v5 : Int32), f_X11_shortWithout_b49 N x_now k_38 v2 v3 n x_far v4 v5 = some q → WB p l e rm_X11_shortWithout s m args below meth c (MQ below (Qg D (some (.int q.1)) (w_X11_shortWithout cI cJ cZ cG a_x a_x_now a_x_kept a_x_sortOf a_x_sizeOf a_x_sheets a_x_parts a_x_edge a_x_far a_x_lost x_isKept x_host x_below x_bestTarget x_high x_low x_whole x_tryHigh x_tryLow x_lots x_now q.2) A) args s 0 0 A) D A 7 (w_X11_shortWithout cI cJ cZ cG a_x a_x_now a_x_kept a_x_sortOf a_x_sizeOf a_x_sheets a_x_parts a_x_edge a_x_far a_x_lost x_isKept x_host x_below x_bestTarget x_high x_low x_whole x_tryHigh x_tryLow x_lots x_now x_far) [(0, .ref a_x), (2, .int v2), (3, .int v3), (4, .int v4), (5, .int v5)] [] 49 := by
  obtain ⟨hx, hb, hr, hml, hown, hts, hlk, hgk, hA⟩ := id C
  have hK := hgk.1
  intro n
  induction n with
  | zero => intro x_far v4 v5 h; cases h
  | succ n hk_49 =>
    intro x_far v4 v5 h
    have h : g_X11_shortWithout_b49 N x_now k_38 v2 v3 (f_X11_shortWithout_b49 N x_now k_38 v2 v3 n) x_far v4 v5 = some q := h
    generalize f_X11_shortWithout_b49 N x_now k_38 v2 v3 n = k_49 at h hk_49
    unfold g_X11_shortWithout_b49 at h
    intro H locs ls hP hD hS hl
    refine lv_iload hx hb dX11_shortWithout_49 (lv_at hl 4 rfl) ?_
    refine lv_aload_n hx hb dX11_shortWithout_51 rfl (lv_at hl 0 rfl) ?_
    refine va_get (D := D) (ci := 11) (v := .ref a_x_now) (C := RX11) (T := TX11) (N := 19) hx hb hts in_X11_shortWithout_X11 hown hK hP 0 rfl rfl 0 (by decide) (hts _ mb_X11_shortWithout_0) (fun _ h9 => h9) rfl dX11_shortWithout_52 ?_
    refine lv_iconst (v := 2) hx hb dX11_shortWithout_55 (by decide) ?_
    refine va_iald hx hb hK hP 1 0 rfl rfl (g_lit (i := 2) (n := 194) (by decide)) dX11_shortWithout_56 ?_
    refine W.eq (g2 := F0 m 57 ls [.int (x_now 2), .int v5]) rfl ?_
    refine lv_icmp_ge (tgt := 157) hx hb dX11_shortWithout_57 (by decide) (fun c1 => ?_) (fun c1 => ?_)
    · have h := ift c1 h
      refine lv_goto (tgt := 38) hx hb dX11_shortWithout_157 (by decide) ?_
      exact hk_38 x_far v4 h H locs ls hP hD hS (lv_sub hl [0, 1, 2, 3] rfl)
    · have h := iff_ c1 h
      refine lv_aload_n hx hb dX11_shortWithout_60 rfl (lv_at hl 0 rfl) ?_
      refine va_get (D := D) (ci := 11) (v := .ref a_x_far) (C := RX11) (T := TX11) (N := 19) hx hb hts in_X11_shortWithout_X11 hown hK hP 0 rfl rfl 17 (by decide) (hts _ mb_X11_shortWithout_1) (fun _ h9 => h9) rfl dX11_shortWithout_61 ?_
      refine lv_aload_n hx hb dX11_shortWithout_64 rfl (lv_at hl 0 rfl) ?_
      refine va_get (D := D) (ci := 11) (v := .ref a_x_now) (C := RX11) (T := TX11) (N := 19) hx hb hts in_X11_shortWithout_X11 hown hK hP 0 rfl rfl 0 (by decide) (hts _ mb_X11_shortWithout_0) (fun _ h9 => h9) rfl dX11_shortWithout_65 ?_
      refine lv_bipush (v := 85) hx hb dX11_shortWithout_68 (by decide) ?_
      refine lv_iload hx hb dX11_shortWithout_70 (lv_at hl 4 rfl) ?_
      refine lv_iadd hx hb dX11_shortWithout_72 ?_
      obtain ⟨i2, h⟩ := gI_some h
      refine va_iald hx hb hK hP 1 0 rfl rfl i2 dX11_shortWithout_73 ?_
      obtain ⟨i3, h⟩ := gI_some h
      refine va_iald hx hb hK hP 2 0 rfl rfl i3 dX11_shortWithout_74 ?_
      refine lv_aload_n hx hb dX11_shortWithout_75 rfl (lv_at hl 0 rfl) ?_
      refine va_get (D := D) (ci := 11) (v := .ref a_x_now) (C := RX11) (T := TX11) (N := 19) hx hb hts in_X11_shortWithout_X11 hown hK hP 0 rfl rfl 0 (by decide) (hts _ mb_X11_shortWithout_0) (fun _ h9 => h9) rfl dX11_shortWithout_76 ?_
      refine lv_bipush (v := 117) hx hb dX11_shortWithout_79 (by decide) ?_
      refine lv_iload hx hb dX11_shortWithout_81 (lv_at hl 4 rfl) ?_
      refine lv_iadd hx hb dX11_shortWithout_83 ?_
      obtain ⟨i4, h⟩ := gI_some h
      refine va_iald hx hb hK hP 1 0 rfl rfl i4 dX11_shortWithout_84 ?_
      refine lv_iadd hx hb dX11_shortWithout_85 ?_
      refine lv_istore (lv' := [(6, .int ((x_far (x_now (85 + v5).toNatClampNeg).toNatClampNeg) + (x_now (117 + v5).toNatClampNeg))), (0, .ref a_x), (2, .int v2), (3, .int v3), (4, .int v4), (5, .int v5)]) hx hb dX11_shortWithout_86 hl (by decide) rfl (fun ls hl => ?_)
      refine lv_iload_n hx hb dX11_shortWithout_88 rfl (lv_at hl 3 rfl) ?_
      refine lv_iload hx hb dX11_shortWithout_89 (lv_at hl 5 rfl) ?_
      refine lv_ishr hx hb dX11_shortWithout_91 ?_
      refine lv_iconst (v := 1) hx hb dX11_shortWithout_92 (by decide) ?_
      refine lv_iand hx hb dX11_shortWithout_93 ?_
      refine lv_if_ne (tgt := 151) hx hb dX11_shortWithout_94 (by decide) (fun c5 => ?_) (fun c5 => ?_)
      · have h := iff_ c5 h
        refine lv_iinc (v := v5 + 1) (lv' := [(5, .int (v5 + 1)), (6, .int ((x_far (x_now (85 + v5).toNatClampNeg).toNatClampNeg) + (x_now (117 + v5).toNatClampNeg))), (0, .ref a_x), (2, .int v2), (3, .int v3), (4, .int v4)]) hx hb dX11_shortWithout_151 hl (k := 5) rfl rfl (by decide) rfl (fun ls hl => ?_)
        refine lv_goto (tgt := 49) hx hb dX11_shortWithout_154 (by decide) ?_
        exact hk_49 x_far v4 (v5 + 1) h H locs ls hP hD hS (lv_sub hl [2, 3, 4, 5, 0] rfl)
      · have h := ift c5 h
        refine lv_aload_n hx hb dX11_shortWithout_97 rfl (lv_at hl 1 rfl) ?_
        refine va_get (D := D) (ci := 11) (v := .ref a_x_now) (C := RX11) (T := TX11) (N := 19) hx hb hts in_X11_shortWithout_X11 hown hK hP 0 rfl rfl 0 (by decide) (hts _ mb_X11_shortWithout_0) (fun _ h9 => h9) rfl dX11_shortWithout_98 ?_
        refine lv_sipush (v := 133) hx hb dX11_shortWithout_101 (by decide) ?_
        refine lv_iload hx hb dX11_shortWithout_104 (lv_at hl 5 rfl) ?_
        refine lv_iadd hx hb dX11_shortWithout_106 ?_
        obtain ⟨i6, h⟩ := gI_some h
        refine va_iald hx hb hK hP 1 0 rfl rfl i6 dX11_shortWithout_107 ?_
        refine lv_if_ne (tgt := 151) hx hb dX11_shortWithout_108 (by decide) (fun c7 => ?_) (fun c7 => ?_)
        · have h := iff_ c7 h
          refine lv_iinc (v := v5 + 1) (lv' := [(5, .int (v5 + 1)), (6, .int ((x_far (x_now (85 + v5).toNatClampNeg).toNatClampNeg) + (x_now (117 + v5).toNatClampNeg))), (0, .ref a_x), (2, .int v2), (3, .int v3), (4, .int v4)]) hx hb dX11_shortWithout_151 hl (k := 5) rfl rfl (by decide) rfl (fun ls hl => ?_)
          refine lv_goto (tgt := 49) hx hb dX11_shortWithout_154 (by decide) ?_
          exact hk_49 x_far v4 (v5 + 1) h H locs ls hP hD hS (lv_sub hl [2, 3, 4, 5, 0] rfl)
        · have h := ift c7 h
          refine lv_iload hx hb dX11_shortWithout_111 (lv_at hl 0 rfl) ?_
          refine lv_aload_n hx hb dX11_shortWithout_113 rfl (lv_at hl 1 rfl) ?_
          refine va_get (D := D) (ci := 11) (v := .ref a_x_far) (C := RX11) (T := TX11) (N := 19) hx hb hts in_X11_shortWithout_X11 hown hK hP 0 rfl rfl 17 (by decide) (hts _ mb_X11_shortWithout_1) (fun _ h9 => h9) rfl dX11_shortWithout_114 ?_
          refine lv_aload_n hx hb dX11_shortWithout_117 rfl (lv_at hl 1 rfl) ?_
          refine va_get (D := D) (ci := 11) (v := .ref a_x_now) (C := RX11) (T := TX11) (N := 19) hx hb hts in_X11_shortWithout_X11 hown hK hP 0 rfl rfl 0 (by decide) (hts _ mb_X11_shortWithout_0) (fun _ h9 => h9) rfl dX11_shortWithout_118 ?_
          refine lv_bipush (v := 101) hx hb dX11_shortWithout_121 (by decide) ?_
          refine lv_iload hx hb dX11_shortWithout_123 (lv_at hl 5 rfl) ?_
          refine lv_iadd hx hb dX11_shortWithout_125 ?_
          obtain ⟨i8, h⟩ := gI_some h
          refine va_iald hx hb hK hP 1 0 rfl rfl i8 dX11_shortWithout_126 ?_
          obtain ⟨i9, h⟩ := gI_some h
          refine va_iald hx hb hK hP 2 0 rfl rfl i9 dX11_shortWithout_127 ?_
          refine lv_icmp_ge (tgt := 151) hx hb dX11_shortWithout_128 (by decide) (fun c10 => ?_) (fun c10 => ?_)
          · have h := ift c10 h
            refine lv_iinc (v := v5 + 1) (lv' := [(5, .int (v5 + 1)), (6, .int ((x_far (x_now (85 + v5).toNatClampNeg).toNatClampNeg) + (x_now (117 + v5).toNatClampNeg))), (0, .ref a_x), (2, .int v2), (3, .int v3), (4, .int v4)]) hx hb dX11_shortWithout_151 hl (k := 5) rfl rfl (by decide) rfl (fun ls hl => ?_)
            refine lv_goto (tgt := 49) hx hb dX11_shortWithout_154 (by decide) ?_
            exact hk_49 x_far v4 (v5 + 1) h H locs ls hP hD hS (lv_sub hl [2, 3, 4, 5, 0] rfl)
          · have h := iff_ c10 h
            refine lv_aload_n hx hb dX11_shortWithout_131 rfl (lv_at hl 1 rfl) ?_
            refine va_get (D := D) (ci := 11) (v := .ref a_x_far) (C := RX11) (T := TX11) (N := 19) hx hb hts in_X11_shortWithout_X11 hown hK hP 0 rfl rfl 17 (by decide) (hts _ mb_X11_shortWithout_1) (fun _ h9 => h9) rfl dX11_shortWithout_132 ?_
            refine lv_aload_n hx hb dX11_shortWithout_135 rfl (lv_at hl 1 rfl) ?_
            refine va_get (D := D) (ci := 11) (v := .ref a_x_now) (C := RX11) (T := TX11) (N := 19) hx hb hts in_X11_shortWithout_X11 hown hK hP 0 rfl rfl 0 (by decide) (hts _ mb_X11_shortWithout_0) (fun _ h9 => h9) rfl dX11_shortWithout_136 ?_
            refine lv_bipush (v := 101) hx hb dX11_shortWithout_139 (by decide) ?_
            refine lv_iload hx hb dX11_shortWithout_141 (lv_at hl 5 rfl) ?_
            refine lv_iadd hx hb dX11_shortWithout_143 ?_
            obtain ⟨i11, h⟩ := gI_some h
            refine va_iald hx hb hK hP 1 0 rfl rfl i11 dX11_shortWithout_144 ?_
            refine lv_iload hx hb dX11_shortWithout_145 (lv_at hl 0 rfl) ?_
            obtain ⟨i12, h⟩ := gI_some h
            refine va_iast hx hb hK hP hD hS 2 0 rfl rfl i12 dX11_shortWithout_147 (fun H locs hP hD hS => ?_)
            have hP : va_P D vwCl (w_X11_shortWithout cI cJ cZ cG a_x a_x_now a_x_kept a_x_sortOf a_x_sizeOf a_x_sheets a_x_parts a_x_edge a_x_far a_x_lost x_isKept x_host x_below x_bestTarget x_high x_low x_whole x_tryHigh x_tryLow x_lots x_now (upd x_far (x_now (101 + v5).toNatClampNeg).toNatClampNeg ((x_far (x_now (85 + v5).toNatClampNeg).toNatClampNeg) + (x_now (117 + v5).toNatClampNeg)))) H := hP
            have hD : va_D A (w_X11_shortWithout cI cJ cZ cG a_x a_x_now a_x_kept a_x_sortOf a_x_sizeOf a_x_sheets a_x_parts a_x_edge a_x_far a_x_lost x_isKept x_host x_below x_bestTarget x_high x_low x_whole x_tryHigh x_tryLow x_lots x_now (upd x_far (x_now (101 + v5).toNatClampNeg).toNatClampNeg ((x_far (x_now (85 + v5).toNatClampNeg).toNatClampNeg) + (x_now (117 + v5).toNatClampNeg)))) := hD
            refine lv_iconst (v := 1) hx hb dX11_shortWithout_148 (by decide) ?_
            refine lv_istore (lv' := [(4, .int 1), (6, .int ((x_far (x_now (85 + v5).toNatClampNeg).toNatClampNeg) + (x_now (117 + v5).toNatClampNeg))), (0, .ref a_x), (2, .int v2), (3, .int v3), (5, .int v5)]) hx hb dX11_shortWithout_149 hl (by decide) rfl (fun ls hl => ?_)
            refine lv_iinc (v := v5 + 1) (lv' := [(5, .int (v5 + 1)), (4, .int 1), (6, .int ((x_far (x_now (85 + v5).toNatClampNeg).toNatClampNeg) + (x_now (117 + v5).toNatClampNeg))), (0, .ref a_x), (2, .int v2), (3, .int v3)]) hx hb dX11_shortWithout_151 hl (k := 5) rfl rfl (by decide) rfl (fun ls hl => ?_)
            refine lv_goto (tgt := 49) hx hb dX11_shortWithout_154 (by decide) ?_
            exact hk_49 (upd x_far (x_now (101 + v5).toNatClampNeg).toNatClampNeg ((x_far (x_now (85 + v5).toNatClampNeg).toNatClampNeg) + (x_now (117 + v5).toNatClampNeg))) 1 (v5 + 1) h H locs ls hP hD hS (lv_sub hl [3, 4, 5, 1, 0] rfl)
set_option maxRecDepth 100000 in
set_option maxHeartbeats 4000000 in
theorem t_X11_shortWithout_b38 (C : cx D cI cJ cZ cG A cX11_shortWithout 7 (some .int) RX11 wsX11_shortWithout p s m args meth c) (a_x a_x_now a_x_kept a_x_sortOf a_x_sizeOf a_x_sheets a_x_parts a_x_edge a_x_far a_x_lost : Nat) (x_isKept : Int32) (x_host : Int32) (x_below : Int32) (x_bestTarget : Int32) (x_high : Int64) (x_low : Int64) (x_whole : Int64) (x_tryHigh : Int64) (x_tryLow : Int64) (x_lots : Int32) (x_now : (Nat → Int32)) (N : Nat) (q : Int32 × (Nat → Int32)) (v2 : Int32) (v3 : Int32) : ∀ (n : Nat) (x_far : (Nat → Int32)) (v4 : Int32), f_X11_shortWithout_b38 N x_now v2 v3 n x_far v4 = some q → WB p l e rm_X11_shortWithout s m args below meth c (MQ below (Qg D (some (.int q.1)) (w_X11_shortWithout cI cJ cZ cG a_x a_x_now a_x_kept a_x_sortOf a_x_sizeOf a_x_sheets a_x_parts a_x_edge a_x_far a_x_lost x_isKept x_host x_below x_bestTarget x_high x_low x_whole x_tryHigh x_tryLow x_lots x_now q.2) A) args s 0 0 A) D A 7 (w_X11_shortWithout cI cJ cZ cG a_x a_x_now a_x_kept a_x_sortOf a_x_sizeOf a_x_sheets a_x_parts a_x_edge a_x_far a_x_lost x_isKept x_host x_below x_bestTarget x_high x_low x_whole x_tryHigh x_tryLow x_lots x_now x_far) [(0, .ref a_x), (2, .int v2), (3, .int v3), (4, .int v4)] [] 38 := by
  obtain ⟨hx, hb, hr, hml, hown, hts, hlk, hgk, hA⟩ := id C
  have hK := hgk.1
  intro n
  induction n with
  | zero => intro x_far v4 h; cases h
  | succ n hk_38 =>
    intro x_far v4 h
    have h : g_X11_shortWithout_b38 N x_now v2 v3 (f_X11_shortWithout_b38 N x_now v2 v3 n) x_far v4 = some q := h
    generalize f_X11_shortWithout_b38 N x_now v2 v3 n = k_38 at h hk_38
    unfold g_X11_shortWithout_b38 at h
    intro H locs ls hP hD hS hl
    refine lv_iload hx hb dX11_shortWithout_38 (lv_at hl 3 rfl) ?_
    refine lv_if_eq (tgt := 160) hx hb dX11_shortWithout_40 (by decide) (fun c1 => ?_) (fun c1 => ?_)
    · have h := ift c1 h
      refine lv_aload_n hx hb dX11_shortWithout_160 rfl (lv_at hl 0 rfl) ?_
      refine va_get (D := D) (ci := 11) (v := .ref a_x_far) (C := RX11) (T := TX11) (N := 19) hx hb hts in_X11_shortWithout_X11 hown hK hP 0 rfl rfl 17 (by decide) (hts _ mb_X11_shortWithout_1) (fun _ h9 => h9) rfl dX11_shortWithout_161 ?_
      refine lv_iload_n hx hb dX11_shortWithout_164 rfl (lv_at hl 1 rfl) ?_
      obtain ⟨i2, h⟩ := gI_some h
      refine va_iald hx hb hK hP 2 0 rfl rfl i2 dX11_shortWithout_165 ?_
      refine lv_ldc (v := 1000000) hx hb hown (hts _ mb_X11_shortWithout_2) dX11_shortWithout_166 ?_
      refine va_mmin hx hb (hml.trans hl.1.symm) hown (hts _ mb_X11_shortWithout_3) (hts _ mb_X11_shortWithout_4) (hts _ mb_X11_shortWithout_5) (hts _ mb_X11_shortWithout_6) (Nat.le_of_ble_eq_true rfl) (Nat.le_of_ble_eq_true rfl) (Nat.zero_le _) (Nat.zero_le _) dX11_shortWithout_168 ?_
      obtain rfl := Option.some.inj h
      exact g_iret C hP hD hS dX11_shortWithout_171
    · have h := iff_ c1 h
      refine lv_iconst (v := 0) hx hb dX11_shortWithout_43 (by decide) ?_
      refine lv_istore (lv' := [(4, .int 0), (0, .ref a_x), (2, .int v2), (3, .int v3)]) hx hb dX11_shortWithout_44 hl (by decide) rfl (fun ls hl => ?_)
      refine lv_iconst (v := 0) hx hb dX11_shortWithout_46 (by decide) ?_
      refine lv_istore (lv' := [(5, .int 0), (4, .int 0), (0, .ref a_x), (2, .int v2), (3, .int v3)]) hx hb dX11_shortWithout_47 hl (by decide) rfl (fun ls hl => ?_)
      exact t_X11_shortWithout_b49 C a_x a_x_now a_x_kept a_x_sortOf a_x_sizeOf a_x_sheets a_x_parts a_x_edge a_x_far a_x_lost x_isKept x_host x_below x_bestTarget x_high x_low x_whole x_tryHigh x_tryLow x_lots x_now N q v2 v3 k_38 hk_38 N x_far 0 0 h H locs ls hP hD hS (lv_sub hl [2, 3, 4, 1, 0] rfl)
set_option maxRecDepth 100000 in
set_option maxHeartbeats 4000000 in
theorem t_X11_shortWithout_b3 (C : cx D cI cJ cZ cG A cX11_shortWithout 7 (some .int) RX11 wsX11_shortWithout p s m args meth c) (a_x a_x_now a_x_kept a_x_sortOf a_x_sizeOf a_x_sheets a_x_parts a_x_edge a_x_far a_x_lost : Nat) (x_isKept : Int32) (x_host : Int32) (x_below : Int32) (x_bestTarget : Int32) (x_high : Int64) (x_low : Int64) (x_whole : Int64) (x_tryHigh : Int64) (x_tryLow : Int64) (x_lots : Int32) (x_now : (Nat → Int32)) (N : Nat) (q : Int32 × (Nat → Int32)) (v1 : Int32) (v2 : Int32) (v3 : Int32) : ∀ (n : Nat) (x_far : (Nat → Int32)) (v4 : Int32), f_X11_shortWithout_b3 N x_now v1 v2 v3 n x_far v4 = some q → WB p l e rm_X11_shortWithout s m args below meth c (MQ below (Qg D (some (.int q.1)) (w_X11_shortWithout cI cJ cZ cG a_x a_x_now a_x_kept a_x_sortOf a_x_sizeOf a_x_sheets a_x_parts a_x_edge a_x_far a_x_lost x_isKept x_host x_below x_bestTarget x_high x_low x_whole x_tryHigh x_tryLow x_lots x_now q.2) A) args s 0 0 A) D A 7 (w_X11_shortWithout cI cJ cZ cG a_x a_x_now a_x_kept a_x_sortOf a_x_sizeOf a_x_sheets a_x_parts a_x_edge a_x_far a_x_lost x_isKept x_host x_below x_bestTarget x_high x_low x_whole x_tryHigh x_tryLow x_lots x_now x_far) [(0, .ref a_x), (1, .int v1), (2, .int v2), (3, .int v3), (4, .int v4)] [] 3 := by
  obtain ⟨hx, hb, hr, hml, hown, hts, hlk, hgk, hA⟩ := id C
  have hK := hgk.1
  intro n
  induction n with
  | zero => intro x_far v4 h; cases h
  | succ n hk_3 =>
    intro x_far v4 h
    have h : g_X11_shortWithout_b3 N x_now v1 v2 v3 (f_X11_shortWithout_b3 N x_now v1 v2 v3 n) x_far v4 = some q := h
    generalize f_X11_shortWithout_b3 N x_now v1 v2 v3 n = k_3 at h hk_3
    unfold g_X11_shortWithout_b3 at h
    intro H locs ls hP hD hS hl
    refine lv_iload hx hb dX11_shortWithout_3 (lv_at hl 4 rfl) ?_
    refine lv_bipush (v := 10) hx hb dX11_shortWithout_5 (by decide) ?_
    refine lv_icmp_ge (tgt := 35) hx hb dX11_shortWithout_7 (by decide) (fun c1 => ?_) (fun c1 => ?_)
    · have h := ift c1 h
      refine lv_iconst (v := 1) hx hb dX11_shortWithout_35 (by decide) ?_
      refine lv_istore (lv' := [(4, .int 1), (0, .ref a_x), (1, .int v1), (2, .int v2), (3, .int v3)]) hx hb dX11_shortWithout_36 hl (by decide) rfl (fun ls hl => ?_)
      exact t_X11_shortWithout_b38 C a_x a_x_now a_x_kept a_x_sortOf a_x_sizeOf a_x_sheets a_x_parts a_x_edge a_x_far a_x_lost x_isKept x_host x_below x_bestTarget x_high x_low x_whole x_tryHigh x_tryLow x_lots x_now N q v2 v3 N x_far 1 h H locs ls hP hD hS (lv_sub hl [1, 3, 4, 0] rfl)
    · have h := iff_ c1 h
      refine lv_aload_n hx hb dX11_shortWithout_10 rfl (lv_at hl 0 rfl) ?_
      refine va_get (D := D) (ci := 11) (v := .ref a_x_far) (C := RX11) (T := TX11) (N := 19) hx hb hts in_X11_shortWithout_X11 hown hK hP 0 rfl rfl 17 (by decide) (hts _ mb_X11_shortWithout_1) (fun _ h9 => h9) rfl dX11_shortWithout_11 ?_
      refine lv_iload hx hb dX11_shortWithout_14 (lv_at hl 4 rfl) ?_
      refine lv_iload hx hb dX11_shortWithout_16 (lv_at hl 4 rfl) ?_
      refine lv_iload_n hx hb dX11_shortWithout_18 rfl (lv_at hl 1 rfl) ?_
      refine lv_icmp_ne (tgt := 26) hx hb dX11_shortWithout_19 (by decide) (fun c2 => ?_) (fun c2 => ?_)
      · have h := iff_ c2 h
        refine lv_ldc (v := 1000000) hx hb hown (hts _ mb_X11_shortWithout_2) dX11_shortWithout_26 ?_
        obtain ⟨i3, h⟩ := gI_some h
        refine va_iast hx hb hK hP hD hS 2 0 rfl rfl i3 dX11_shortWithout_28 (fun H locs hP hD hS => ?_)
        have hP : va_P D vwCl (w_X11_shortWithout cI cJ cZ cG a_x a_x_now a_x_kept a_x_sortOf a_x_sizeOf a_x_sheets a_x_parts a_x_edge a_x_far a_x_lost x_isKept x_host x_below x_bestTarget x_high x_low x_whole x_tryHigh x_tryLow x_lots x_now (upd x_far v4.toNatClampNeg 1000000)) H := hP
        have hD : va_D A (w_X11_shortWithout cI cJ cZ cG a_x a_x_now a_x_kept a_x_sortOf a_x_sizeOf a_x_sheets a_x_parts a_x_edge a_x_far a_x_lost x_isKept x_host x_below x_bestTarget x_high x_low x_whole x_tryHigh x_tryLow x_lots x_now (upd x_far v4.toNatClampNeg 1000000)) := hD
        refine lv_iinc (v := v4 + 1) (lv' := [(4, .int (v4 + 1)), (0, .ref a_x), (1, .int v1), (2, .int v2), (3, .int v3)]) hx hb dX11_shortWithout_29 hl (k := 4) rfl rfl (by decide) rfl (fun ls hl => ?_)
        refine lv_goto (tgt := 3) hx hb dX11_shortWithout_32 (by decide) ?_
        exact hk_3 (upd x_far v4.toNatClampNeg 1000000) (v4 + 1) h H locs ls hP hD hS (lv_sub hl [1, 2, 3, 4, 0] rfl)
      · have h := ift c2 h
        refine lv_iconst (v := 0) hx hb dX11_shortWithout_22 (by decide) ?_
        refine lv_goto (tgt := 28) hx hb dX11_shortWithout_23 (by decide) ?_
        obtain ⟨i4, h⟩ := gI_some h
        refine va_iast hx hb hK hP hD hS 2 0 rfl rfl i4 dX11_shortWithout_28 (fun H locs hP hD hS => ?_)
        have hP : va_P D vwCl (w_X11_shortWithout cI cJ cZ cG a_x a_x_now a_x_kept a_x_sortOf a_x_sizeOf a_x_sheets a_x_parts a_x_edge a_x_far a_x_lost x_isKept x_host x_below x_bestTarget x_high x_low x_whole x_tryHigh x_tryLow x_lots x_now (upd x_far v4.toNatClampNeg 0)) H := hP
        have hD : va_D A (w_X11_shortWithout cI cJ cZ cG a_x a_x_now a_x_kept a_x_sortOf a_x_sizeOf a_x_sheets a_x_parts a_x_edge a_x_far a_x_lost x_isKept x_host x_below x_bestTarget x_high x_low x_whole x_tryHigh x_tryLow x_lots x_now (upd x_far v4.toNatClampNeg 0)) := hD
        refine lv_iinc (v := v4 + 1) (lv' := [(4, .int (v4 + 1)), (0, .ref a_x), (1, .int v1), (2, .int v2), (3, .int v3)]) hx hb dX11_shortWithout_29 hl (k := 4) rfl rfl (by decide) rfl (fun ls hl => ?_)
        refine lv_goto (tgt := 3) hx hb dX11_shortWithout_32 (by decide) ?_
        exact hk_3 (upd x_far v4.toNatClampNeg 0) (v4 + 1) h H locs ls hP hD hS (lv_sub hl [1, 2, 3, 4, 0] rfl)
set_option maxRecDepth 100000 in
set_option maxHeartbeats 4000000 in
theorem c_X11_shortWithout (l : Launch) (D : va_G) (cI cJ cZ cG : ClassId) (a_x a_x_now a_x_kept a_x_sortOf a_x_sizeOf a_x_sheets a_x_parts a_x_edge a_x_far a_x_lost : Nat) (x_isKept : Int32) (x_host : Int32) (x_below : Int32) (x_bestTarget : Int32) (x_high : Int64) (x_low : Int64) (x_whole : Int64) (x_tryHigh : Int64) (x_tryLow : Int64) (x_lots : Int32) (x_now : (Nat → Int32)) (x_far : (Nat → Int32)) (p1 : Int32) (p2 : Int32) (p3 : Int32) (N : Nat) (q : Int32 × (Nat → Int32)) (h : f_X11_shortWithout N x_now x_far p1 p2 p3 = some q) : gMet l yX11_shortWithout wsX11_shortWithout rm_X11_shortWithout [.ref a_x, .int p1, .int p2, .int p3] (w_X11_shortWithout cI cJ cZ cG a_x a_x_now a_x_kept a_x_sortOf a_x_sizeOf a_x_sheets a_x_parts a_x_edge a_x_far a_x_lost x_isKept x_host x_below x_bestTarget x_high x_low x_whole x_tryHigh x_tryLow x_lots x_now x_far) (w_X11_shortWithout cI cJ cZ cG a_x a_x_now a_x_kept a_x_sortOf a_x_sizeOf a_x_sheets a_x_parts a_x_edge a_x_far a_x_lost x_isKept x_host x_below x_bestTarget x_high x_low x_whole x_tryHigh x_tryLow x_lots x_now q.2) (some (.int q.1)) D cI cJ cZ cG := by
  refine g_enter (cc := cX11_shortWithout) (nL := 7) (ret := (some .int)) (by decide) rfl (Nat.le_of_ble_eq_true rfl) ?_
  intro p e s m below meth c A C H locs ls hP hD hS hl
  obtain ⟨hx, hb, hr, hml, hown, hts, hlk, hgk, hA⟩ := id C
  have hK := hgk.1
  have hl : lv_has ls 7 [(0, .ref a_x), (1, .int p1), (2, .int p2), (3, .int p3)] := hl
  unfold f_X11_shortWithout at h
  refine lv_iconst (v := 0) hx hb dX11_shortWithout_0 (by decide) ?_
  refine lv_istore (lv' := [(4, .int 0), (0, .ref a_x), (1, .int p1), (2, .int p2), (3, .int p3)]) hx hb dX11_shortWithout_1 hl (by decide) rfl (fun ls hl => ?_)
  exact t_X11_shortWithout_b3 C a_x a_x_now a_x_kept a_x_sortOf a_x_sizeOf a_x_sheets a_x_parts a_x_edge a_x_far a_x_lost x_isKept x_host x_below x_bestTarget x_high x_low x_whole x_tryHigh x_tryLow x_lots x_now N q p1 p2 p3 N x_far 0 h H locs ls hP hD hS (lv_sub hl [1, 2, 3, 4, 0] rfl)
theorem mb_X11_shortest_0 : Cond.constant RX11 55 (-1000000002) ∈ wsX11_shortest := List.mem_of_getElem? (i := 1) rfl
theorem mb_X11_shortest_1 : Cond.constant RX11 141 (1000000) ∈ wsX11_shortest := List.mem_of_getElem? (i := 2) rfl
theorem mb_X11_shortest_2 : Cond.constant RX11 113 (-1000000003) ∈ wsX11_shortest := List.mem_of_getElem? (i := 3) rfl
set_option maxRecDepth 100000 in
set_option maxHeartbeats 4000000 in
theorem c_X11_shortest (l : Launch) (D : va_G) (cI cJ cZ cG : ClassId) (a_x a_x_now a_x_kept a_x_sortOf a_x_sizeOf a_x_sheets a_x_parts a_x_edge a_x_far a_x_lost : Nat) (x_isKept : Int32) (x_host : Int32) (x_below : Int32) (x_bestTarget : Int32) (x_high : Int64) (x_low : Int64) (x_whole : Int64) (x_tryHigh : Int64) (x_tryLow : Int64) (x_lots : Int32) (x_now : (Nat → Int32)) (x_far : (Nat → Int32)) (p1 : Int32) (p2 : Int32) (N : Nat) (q : Int32 × (Nat → Int32)) (h : f_X11_shortest N x_now x_far p1 p2 = some q) : gMet l yX11_shortest wsX11_shortest rm_X11_shortest [.ref a_x, .int p1, .int p2] (w_X11_shortest cI cJ cZ cG a_x a_x_now a_x_kept a_x_sortOf a_x_sizeOf a_x_sheets a_x_parts a_x_edge a_x_far a_x_lost x_isKept x_host x_below x_bestTarget x_high x_low x_whole x_tryHigh x_tryLow x_lots x_now x_far) (w_X11_shortest cI cJ cZ cG a_x a_x_now a_x_kept a_x_sortOf a_x_sizeOf a_x_sheets a_x_parts a_x_edge a_x_far a_x_lost x_isKept x_host x_below x_bestTarget x_high x_low x_whole x_tryHigh x_tryLow x_lots x_now q.2) (some (.int q.1)) D cI cJ cZ cG := by
  refine g_enter (cc := cX11_shortest) (nL := 4) (ret := (some .int)) (by decide) rfl (Nat.le_of_ble_eq_true rfl) ?_
  intro p e s m below meth c A C H locs ls hP hD hS hl
  obtain ⟨hx, hb, hr, hml, hown, hts, hlk, hgk, hA⟩ := id C
  have hK := hgk.1
  have hl : lv_has ls 4 [(0, .ref a_x), (1, .int p1), (2, .int p2)] := hl
  unfold f_X11_shortest at h
  refine lv_iload_n hx hb dX11_shortest_0 rfl (lv_at hl 1 rfl) ?_
  refine g_callS0 (index := 138) (maxL := 1) (n := 1) (As := [.int p1]) (rest := []) (st1 := [.int (f_X11_isPlace p1)]) C hP hS hl.1 (c_X11_isPlace l D cI cJ cZ cG p1 _ rfl) gX11_shortest_X11_isPlace rfl rfl rfl (by decide +kernel) ⟨Nat.le_of_ble_eq_true rfl, Nat.le_of_ble_eq_true rfl⟩ rfl (Nat.le_of_ble_eq_true rfl) rfl dX11_shortest_1 rfl (fun H locs hP hS => ?_)
  refine lv_if_eq (tgt := 14) hx hb dX11_shortest_4 (by decide) (fun c1 => ?_) (fun c1 => ?_)
  · have h := ift c1 h
    refine lv_ldc (v := (-1000000002)) hx hb hown (hts _ mb_X11_shortest_0) dX11_shortest_14 ?_
    obtain rfl := Option.some.inj h
    exact g_iret C hP hD hS dX11_shortest_16
  · have h := iff_ c1 h
    refine lv_iload_n hx hb dX11_shortest_7 rfl (lv_at hl 2 rfl) ?_
    refine g_callS0 (index := 138) (maxL := 1) (n := 1) (As := [.int p2]) (rest := []) (st1 := [.int (f_X11_isPlace p2)]) C hP hS hl.1 (c_X11_isPlace l D cI cJ cZ cG p2 _ rfl) gX11_shortest_X11_isPlace rfl rfl rfl (by decide +kernel) ⟨Nat.le_of_ble_eq_true rfl, Nat.le_of_ble_eq_true rfl⟩ rfl (Nat.le_of_ble_eq_true rfl) rfl dX11_shortest_8 rfl (fun H locs hP hS => ?_)
    refine lv_if_ne (tgt := 17) hx hb dX11_shortest_11 (by decide) (fun c2 => ?_) (fun c2 => ?_)
    · have h := iff_ c2 h
      refine lv_aload_n hx hb dX11_shortest_17 rfl (lv_at hl 0 rfl) ?_
      refine lv_iload_n hx hb dX11_shortest_18 rfl (lv_at hl 1 rfl) ?_
      refine lv_iload_n hx hb dX11_shortest_19 rfl (lv_at hl 2 rfl) ?_
      refine lv_iconst (v := 0) hx hb dX11_shortest_20 (by decide) ?_
      obtain ⟨q3, e3, h⟩ := bd_some h
      refine g_callV (index := 146) (maxL := 7) (n := 3) (As := [.int p1, .int p2, .int 0]) (rest := []) (st1 := [.int q3.1]) (C1 := RX11) (T1 := TX11) (N1 := 19) (ws2 := (w_X11_shortest cI cJ cZ cG a_x a_x_now a_x_kept a_x_sortOf a_x_sizeOf a_x_sheets a_x_parts a_x_edge a_x_far a_x_lost x_isKept x_host x_below x_bestTarget x_high x_low x_whole x_tryHigh x_tryLow x_lots x_now q3.2)) C hP hD hS hl.1 11 0 (c_X11_shortWithout l D cI cJ cZ cG a_x a_x_now a_x_kept a_x_sortOf a_x_sizeOf a_x_sheets a_x_parts a_x_edge a_x_far a_x_lost x_isKept x_host x_below x_bestTarget x_high x_low x_whole x_tryHigh x_tryLow x_lots x_now x_far p1 p2 0 N q3 e3) gX11_shortest_X11_shortWithout rfl rfl rfl (by decide +kernel) ⟨Nat.le_of_ble_eq_true rfl, Nat.le_of_ble_eq_true rfl⟩ rfl rfl rfl (Nat.le_of_ble_eq_true rfl) rfl dX11_shortest_21 [0, 1, 2] [] [0, 1, 2] rfl rfl rfl rfl (by decide) rfl rfl rfl (fun H locs hP hD hS => ?_)
      refine lv_istore_n (lv' := [(3, .int q3.1), (0, .ref a_x), (1, .int p1), (2, .int p2)]) hx hb dX11_shortest_24 rfl hl (by decide) rfl (fun ls hl => ?_)
      refine lv_iload_n hx hb dX11_shortest_25 rfl (lv_at hl 0 rfl) ?_
      refine lv_ldc (v := 1000000) hx hb hown (hts _ mb_X11_shortest_1) dX11_shortest_26 ?_
      refine lv_icmp_ne (tgt := 36) hx hb dX11_shortest_28 (by decide) (fun c4 => ?_) (fun c4 => ?_)
      · have h := iff_ c4 h
        refine lv_iload_n hx hb dX11_shortest_36 rfl (lv_at hl 0 rfl) ?_
        obtain rfl := Option.some.inj h
        exact g_iret C hP hD hS dX11_shortest_37
      · have h := ift c4 h
        refine lv_ldc (v := (-1000000003)) hx hb hown (hts _ mb_X11_shortest_2) dX11_shortest_31 ?_
        refine lv_goto (tgt := 37) hx hb dX11_shortest_33 (by decide) ?_
        obtain rfl := Option.some.inj h
        exact g_iret C hP hD hS dX11_shortest_37
    · have h := ift c2 h
      refine lv_ldc (v := (-1000000002)) hx hb hown (hts _ mb_X11_shortest_0) dX11_shortest_14 ?_
      obtain rfl := Option.some.inj h
      exact g_iret C hP hD hS dX11_shortest_16
set_option maxRecDepth 100000 in
set_option maxHeartbeats 4000000 in
theorem t_X11_many_b4 (C : cx D cI cJ cZ cG A cX11_many 3 (some .int) RX11 wsX11_many p s m args meth c) (N : Nat) (q : Int32) (v0 : Int32) : ∀ (n : Nat) (v1 : Int32) (v2 : Int32), f_X11_many_b4 N v0 n v1 v2 = some q → WB p l e rm_X11_many s m args below meth c (MQ below (Qg D (some (.int q)) (w_X11_many cI cJ cZ cG) A) args s 0 0 A) D A 3 (w_X11_many cI cJ cZ cG) [(0, .int v0), (1, .int v1), (2, .int v2)] [] 4 := by
  obtain ⟨hx, hb, hr, hml, hown, hts, hlk, hgk, hA⟩ := id C
  have hK := hgk.1
  intro n
  induction n with
  | zero => intro v1 v2 h; cases h
  | succ n hk_4 =>
    intro v1 v2 h
    have h : g_X11_many_b4 N v0 (f_X11_many_b4 N v0 n) v1 v2 = some q := h
    generalize f_X11_many_b4 N v0 n = k_4 at h hk_4
    unfold g_X11_many_b4 at h
    intro H locs ls hP hD hS hl
    refine lv_iload_n hx hb dX11_many_4 rfl (lv_at hl 2 rfl) ?_
    refine lv_bipush (v := 20) hx hb dX11_many_5 (by decide) ?_
    refine lv_icmp_ge (tgt := 24) hx hb dX11_many_7 (by decide) (fun c1 => ?_) (fun c1 => ?_)
    · have h := ift c1 h
      refine lv_iload_n hx hb dX11_many_24 rfl (lv_at hl 1 rfl) ?_
      obtain rfl := Option.some.inj h
      exact g_iret C hP hD hS dX11_many_25
    · have h := iff_ c1 h
      refine lv_iload_n hx hb dX11_many_10 rfl (lv_at hl 1 rfl) ?_
      refine lv_iload_n hx hb dX11_many_11 rfl (lv_at hl 0 rfl) ?_
      refine lv_iload_n hx hb dX11_many_12 rfl (lv_at hl 2 rfl) ?_
      refine lv_ishr hx hb dX11_many_13 ?_
      refine lv_iconst (v := 1) hx hb dX11_many_14 (by decide) ?_
      refine lv_iand hx hb dX11_many_15 ?_
      refine lv_iadd hx hb dX11_many_16 ?_
      refine lv_istore_n (lv' := [(1, .int (v1 + ((v0 >>> (v2 &&& 31)) &&& 1))), (0, .int v0), (2, .int v2)]) hx hb dX11_many_17 rfl hl (by decide) rfl (fun ls hl => ?_)
      refine lv_iinc (v := v2 + 1) (lv' := [(2, .int (v2 + 1)), (1, .int (v1 + ((v0 >>> (v2 &&& 31)) &&& 1))), (0, .int v0)]) hx hb dX11_many_18 hl (k := 2) rfl rfl (by decide) rfl (fun ls hl => ?_)
      refine lv_goto (tgt := 4) hx hb dX11_many_21 (by decide) ?_
      exact hk_4 (v1 + ((v0 >>> (v2 &&& 31)) &&& 1)) (v2 + 1) h H locs ls hP hD hS (lv_sub hl [2, 1, 0] rfl)
set_option maxRecDepth 100000 in
set_option maxHeartbeats 4000000 in
theorem c_X11_many (l : Launch) (D : va_G) (cI cJ cZ cG : ClassId) (p0 : Int32) (N : Nat) (q : Int32) (h : f_X11_many N p0 = some q) : gMet l yX11_many wsX11_many rm_X11_many [.int p0] (w_X11_many cI cJ cZ cG) (w_X11_many cI cJ cZ cG) (some (.int q)) D cI cJ cZ cG := by
  refine g_enter (cc := cX11_many) (nL := 3) (ret := (some .int)) (by decide) rfl (Nat.le_of_ble_eq_true rfl) ?_
  intro p e s m below meth c A C H locs ls hP hD hS hl
  obtain ⟨hx, hb, hr, hml, hown, hts, hlk, hgk, hA⟩ := id C
  have hK := hgk.1
  have hl : lv_has ls 3 [(0, .int p0)] := hl
  unfold f_X11_many at h
  refine lv_iconst (v := 0) hx hb dX11_many_0 (by decide) ?_
  refine lv_istore_n (lv' := [(1, .int 0), (0, .int p0)]) hx hb dX11_many_1 rfl hl (by decide) rfl (fun ls hl => ?_)
  refine lv_iconst (v := 0) hx hb dX11_many_2 (by decide) ?_
  refine lv_istore_n (lv' := [(2, .int 0), (1, .int 0), (0, .int p0)]) hx hb dX11_many_3 rfl hl (by decide) rfl (fun ls hl => ?_)
  exact t_X11_many_b4 C N q p0 N 0 0 h H locs ls hP hD hS (lv_sub hl [2, 1, 0] rfl)
theorem in_X11_isBarred_X11 : ∀ w ∈ wsX110, w ∈ wsX11_isBarred := by decide +kernel
theorem mb_X11_isBarred_0 : Cond.fieldLink RX11 9 "GuardDeskModel" "now" "[I" ∈ wsX11_isBarred := List.mem_of_getElem? (i := 1) rfl
set_option maxRecDepth 100000 in
set_option maxHeartbeats 4000000 in
theorem t_X11_isBarred_b41 (C : cx D cI cJ cZ cG A cX11_isBarred 4 (some .boolean) RX11 wsX11_isBarred p s m args meth c) (a_x a_x_now a_x_kept a_x_sortOf a_x_sizeOf a_x_sheets a_x_parts a_x_edge a_x_far a_x_lost : Nat) (x_isKept : Int32) (x_host : Int32) (x_below : Int32) (x_bestTarget : Int32) (x_high : Int64) (x_low : Int64) (x_whole : Int64) (x_tryHigh : Int64) (x_tryLow : Int64) (x_lots : Int32) (x_now : (Nat → Int32)) (N : Nat) (q : Int32) (v1 : Int32) (v3 : Int32) (k_4 : Int32 → Int32 → Option (Int32)) (hk_4 : ∀ (v2 : Int32) (v3 : Int32), k_4 v2 v3 = some q → WB p l e rm_X11_isBarred s m args below meth c (MQ below (Qg D (some (.int q)) (w_X11_isBarred cI cJ cZ cG a_x a_x_now a_x_kept a_x_sortOf a_x_sizeOf a_x_sheets a_x_parts a_x_edge a_x_far a_x_lost x_isKept x_host x_below x_bestTarget x_high x_low x_whole x_tryHigh x_tryLow x_lots x_now) A) args s 0 0 A) D A 4 (w_X11_isBarred cI cJ cZ cG a_x a_x_now a_x_kept a_x_sortOf a_x_sizeOf a_x_sheets a_x_parts a_x_edge a_x_far a_x_lost x_isKept x_host x_below x_bestTarget x_high x_low x_whole x_tryHigh x_tryLow x_lots x_now) [(0, .ref a_x), (1, .int v1), (2, .int v2), (3, .int v3)] [] 4) (h : f_X11_isBarred_b41 N x_now k_4 v1 v3 = some q) : WB p l e rm_X11_isBarred s m args below meth c (MQ below (Qg D (some (.int q)) (w_X11_isBarred cI cJ cZ cG a_x a_x_now a_x_kept a_x_sortOf a_x_sizeOf a_x_sheets a_x_parts a_x_edge a_x_far a_x_lost x_isKept x_host x_below x_bestTarget x_high x_low x_whole x_tryHigh x_tryLow x_lots x_now) A) args s 0 0 A) D A 4 (w_X11_isBarred cI cJ cZ cG a_x a_x_now a_x_kept a_x_sortOf a_x_sizeOf a_x_sheets a_x_parts a_x_edge a_x_far a_x_lost x_isKept x_host x_below x_bestTarget x_high x_low x_whole x_tryHigh x_tryLow x_lots x_now) [(0, .ref a_x), (1, .int v1), (3, .int v3)] [] 41 := by
  obtain ⟨hx, hb, hr, hml, hown, hts, hlk, hgk, hA⟩ := id C
  have hK := hgk.1
  unfold f_X11_isBarred_b41 at h
  intro H locs ls hP hD hS hl
  refine lv_iconst (v := 1) hx hb dX11_isBarred_41 (by decide) ?_
  refine lv_goto (tgt := 46) hx hb dX11_isBarred_42 (by decide) ?_
  refine lv_istore_n (lv' := [(2, .int 1), (0, .ref a_x), (1, .int v1), (3, .int v3)]) hx hb dX11_isBarred_46 rfl hl (by decide) rfl (fun ls hl => ?_)
  refine lv_iinc (v := v3 + 1) (lv' := [(3, .int (v3 + 1)), (2, .int 1), (0, .ref a_x), (1, .int v1)]) hx hb dX11_isBarred_47 hl (k := 3) rfl rfl (by decide) rfl (fun ls hl => ?_)
  refine lv_goto (tgt := 4) hx hb dX11_isBarred_50 (by decide) ?_
  exact hk_4 1 (v3 + 1) h H locs ls hP hD hS (lv_sub hl [2, 3, 1, 0] rfl)
set_option maxRecDepth 100000 in
set_option maxHeartbeats 4000000 in
theorem t_X11_isBarred_b4 (C : cx D cI cJ cZ cG A cX11_isBarred 4 (some .boolean) RX11 wsX11_isBarred p s m args meth c) (a_x a_x_now a_x_kept a_x_sortOf a_x_sizeOf a_x_sheets a_x_parts a_x_edge a_x_far a_x_lost : Nat) (x_isKept : Int32) (x_host : Int32) (x_below : Int32) (x_bestTarget : Int32) (x_high : Int64) (x_low : Int64) (x_whole : Int64) (x_tryHigh : Int64) (x_tryLow : Int64) (x_lots : Int32) (x_now : (Nat → Int32)) (N : Nat) (q : Int32) (v1 : Int32) : ∀ (n : Nat) (v2 : Int32) (v3 : Int32), f_X11_isBarred_b4 N x_now v1 n v2 v3 = some q → WB p l e rm_X11_isBarred s m args below meth c (MQ below (Qg D (some (.int q)) (w_X11_isBarred cI cJ cZ cG a_x a_x_now a_x_kept a_x_sortOf a_x_sizeOf a_x_sheets a_x_parts a_x_edge a_x_far a_x_lost x_isKept x_host x_below x_bestTarget x_high x_low x_whole x_tryHigh x_tryLow x_lots x_now) A) args s 0 0 A) D A 4 (w_X11_isBarred cI cJ cZ cG a_x a_x_now a_x_kept a_x_sortOf a_x_sizeOf a_x_sheets a_x_parts a_x_edge a_x_far a_x_lost x_isKept x_host x_below x_bestTarget x_high x_low x_whole x_tryHigh x_tryLow x_lots x_now) [(0, .ref a_x), (1, .int v1), (2, .int v2), (3, .int v3)] [] 4 := by
  obtain ⟨hx, hb, hr, hml, hown, hts, hlk, hgk, hA⟩ := id C
  have hK := hgk.1
  intro n
  induction n with
  | zero => intro v2 v3 h; cases h
  | succ n hk_4 =>
    intro v2 v3 h
    have h : g_X11_isBarred_b4 N x_now v1 (f_X11_isBarred_b4 N x_now v1 n) v2 v3 = some q := h
    generalize f_X11_isBarred_b4 N x_now v1 n = k_4 at h hk_4
    unfold g_X11_isBarred_b4 at h
    intro H locs ls hP hD hS hl
    refine lv_iload_n hx hb dX11_isBarred_4 rfl (lv_at hl 3 rfl) ?_
    refine lv_aload_n hx hb dX11_isBarred_5 rfl (lv_at hl 0 rfl) ?_
    refine va_get (D := D) (ci := 11) (v := .ref a_x_now) (C := RX11) (T := TX11) (N := 19) hx hb hts in_X11_isBarred_X11 hown hK hP 0 rfl rfl 0 (by decide) (hts _ mb_X11_isBarred_0) (fun _ h9 => h9) rfl dX11_isBarred_6 ?_
    refine lv_iconst (v := 2) hx hb dX11_isBarred_9 (by decide) ?_
    refine va_iald hx hb hK hP 1 0 rfl rfl (g_lit (i := 2) (n := 194) (by decide)) dX11_isBarred_10 ?_
    refine W.eq (g2 := F0 m 11 ls [.int (x_now 2), .int v3]) rfl ?_
    refine lv_icmp_ge (tgt := 53) hx hb dX11_isBarred_11 (by decide) (fun c1 => ?_) (fun c1 => ?_)
    · have h := ift c1 h
      refine lv_iload_n hx hb dX11_isBarred_53 rfl (lv_at hl 2 rfl) ?_
      obtain ⟨z2, h⟩ := gB_some h
      obtain rfl := Option.some.inj h
      exact g_zret C hP hD hS z2 dX11_isBarred_54
    · have h := iff_ c1 h
      refine lv_iload_n hx hb dX11_isBarred_14 rfl (lv_at hl 2 rfl) ?_
      refine lv_if_ne (tgt := 41) hx hb dX11_isBarred_15 (by decide) (fun c3 => ?_) (fun c3 => ?_)
      · have h := iff_ c3 h
        exact t_X11_isBarred_b41 C a_x a_x_now a_x_kept a_x_sortOf a_x_sizeOf a_x_sheets a_x_parts a_x_edge a_x_far a_x_lost x_isKept x_host x_below x_bestTarget x_high x_low x_whole x_tryHigh x_tryLow x_lots x_now N q v1 v3 k_4 hk_4 h H locs ls hP hD hS (lv_sub hl [0, 1, 3] rfl)
      · have h := ift c3 h
        refine lv_iload_n hx hb dX11_isBarred_18 rfl (lv_at hl 1 rfl) ?_
        refine lv_iload_n hx hb dX11_isBarred_19 rfl (lv_at hl 3 rfl) ?_
        refine lv_ishr hx hb dX11_isBarred_20 ?_
        refine lv_iconst (v := 1) hx hb dX11_isBarred_21 (by decide) ?_
        refine lv_iand hx hb dX11_isBarred_22 ?_
        refine lv_iconst (v := 1) hx hb dX11_isBarred_23 (by decide) ?_
        refine lv_icmp_ne (tgt := 45) hx hb dX11_isBarred_24 (by decide) (fun c4 => ?_) (fun c4 => ?_)
        · have h := iff_ c4 h
          refine lv_iconst (v := 0) hx hb dX11_isBarred_45 (by decide) ?_
          refine lv_istore_n (lv' := [(2, .int 0), (0, .ref a_x), (1, .int v1), (3, .int v3)]) hx hb dX11_isBarred_46 rfl hl (by decide) rfl (fun ls hl => ?_)
          refine lv_iinc (v := v3 + 1) (lv' := [(3, .int (v3 + 1)), (2, .int 0), (0, .ref a_x), (1, .int v1)]) hx hb dX11_isBarred_47 hl (k := 3) rfl rfl (by decide) rfl (fun ls hl => ?_)
          refine lv_goto (tgt := 4) hx hb dX11_isBarred_50 (by decide) ?_
          exact hk_4 0 (v3 + 1) h H locs ls hP hD hS (lv_sub hl [2, 3, 1, 0] rfl)
        · have h := ift c4 h
          refine lv_aload_n hx hb dX11_isBarred_27 rfl (lv_at hl 0 rfl) ?_
          refine va_get (D := D) (ci := 11) (v := .ref a_x_now) (C := RX11) (T := TX11) (N := 19) hx hb hts in_X11_isBarred_X11 hown hK hP 0 rfl rfl 0 (by decide) (hts _ mb_X11_isBarred_0) (fun _ h9 => h9) rfl dX11_isBarred_28 ?_
          refine lv_sipush (v := 133) hx hb dX11_isBarred_31 (by decide) ?_
          refine lv_iload_n hx hb dX11_isBarred_34 rfl (lv_at hl 3 rfl) ?_
          refine lv_iadd hx hb dX11_isBarred_35 ?_
          obtain ⟨i5, h⟩ := gI_some h
          refine va_iald hx hb hK hP 1 0 rfl rfl i5 dX11_isBarred_36 ?_
          refine lv_iconst (v := 1) hx hb dX11_isBarred_37 (by decide) ?_
          refine lv_icmp_ne (tgt := 45) hx hb dX11_isBarred_38 (by decide) (fun c6 => ?_) (fun c6 => ?_)
          · have h := iff_ c6 h
            refine lv_iconst (v := 0) hx hb dX11_isBarred_45 (by decide) ?_
            refine lv_istore_n (lv' := [(2, .int 0), (0, .ref a_x), (1, .int v1), (3, .int v3)]) hx hb dX11_isBarred_46 rfl hl (by decide) rfl (fun ls hl => ?_)
            refine lv_iinc (v := v3 + 1) (lv' := [(3, .int (v3 + 1)), (2, .int 0), (0, .ref a_x), (1, .int v1)]) hx hb dX11_isBarred_47 hl (k := 3) rfl rfl (by decide) rfl (fun ls hl => ?_)
            refine lv_goto (tgt := 4) hx hb dX11_isBarred_50 (by decide) ?_
            exact hk_4 0 (v3 + 1) h H locs ls hP hD hS (lv_sub hl [2, 3, 1, 0] rfl)
          · have h := ift c6 h
            exact t_X11_isBarred_b41 C a_x a_x_now a_x_kept a_x_sortOf a_x_sizeOf a_x_sheets a_x_parts a_x_edge a_x_far a_x_lost x_isKept x_host x_below x_bestTarget x_high x_low x_whole x_tryHigh x_tryLow x_lots x_now N q v1 v3 k_4 hk_4 h H locs ls hP hD hS (lv_sub hl [0, 1, 3] rfl)
set_option maxRecDepth 100000 in
set_option maxHeartbeats 4000000 in
theorem c_X11_isBarred (l : Launch) (D : va_G) (cI cJ cZ cG : ClassId) (a_x a_x_now a_x_kept a_x_sortOf a_x_sizeOf a_x_sheets a_x_parts a_x_edge a_x_far a_x_lost : Nat) (x_isKept : Int32) (x_host : Int32) (x_below : Int32) (x_bestTarget : Int32) (x_high : Int64) (x_low : Int64) (x_whole : Int64) (x_tryHigh : Int64) (x_tryLow : Int64) (x_lots : Int32) (x_now : (Nat → Int32)) (p1 : Int32) (N : Nat) (q : Int32) (h : f_X11_isBarred N x_now p1 = some q) : gMet l yX11_isBarred wsX11_isBarred rm_X11_isBarred [.ref a_x, .int p1] (w_X11_isBarred cI cJ cZ cG a_x a_x_now a_x_kept a_x_sortOf a_x_sizeOf a_x_sheets a_x_parts a_x_edge a_x_far a_x_lost x_isKept x_host x_below x_bestTarget x_high x_low x_whole x_tryHigh x_tryLow x_lots x_now) (w_X11_isBarred cI cJ cZ cG a_x a_x_now a_x_kept a_x_sortOf a_x_sizeOf a_x_sheets a_x_parts a_x_edge a_x_far a_x_lost x_isKept x_host x_below x_bestTarget x_high x_low x_whole x_tryHigh x_tryLow x_lots x_now) (some (.int q)) D cI cJ cZ cG := by
  refine g_enter (cc := cX11_isBarred) (nL := 4) (ret := (some .boolean)) (by decide) rfl (Nat.le_of_ble_eq_true rfl) ?_
  intro p e s m below meth c A C H locs ls hP hD hS hl
  obtain ⟨hx, hb, hr, hml, hown, hts, hlk, hgk, hA⟩ := id C
  have hK := hgk.1
  have hl : lv_has ls 4 [(0, .ref a_x), (1, .int p1)] := hl
  unfold f_X11_isBarred at h
  refine lv_iconst (v := 0) hx hb dX11_isBarred_0 (by decide) ?_
  refine lv_istore_n (lv' := [(2, .int 0), (0, .ref a_x), (1, .int p1)]) hx hb dX11_isBarred_1 rfl hl (by decide) rfl (fun ls hl => ?_)
  refine lv_iconst (v := 0) hx hb dX11_isBarred_2 (by decide) ?_
  refine lv_istore_n (lv' := [(3, .int 0), (2, .int 0), (0, .ref a_x), (1, .int p1)]) hx hb dX11_isBarred_3 rfl hl (by decide) rfl (fun ls hl => ?_)
  exact t_X11_isBarred_b4 C a_x a_x_now a_x_kept a_x_sortOf a_x_sizeOf a_x_sheets a_x_parts a_x_edge a_x_far a_x_lost x_isKept x_host x_below x_bestTarget x_high x_low x_whole x_tryHigh x_tryLow x_lots x_now N q p1 N 0 0 h H locs ls hP hD hS (lv_sub hl [2, 3, 1, 0] rfl)
theorem in_X11_bars_X11 : ∀ w ∈ wsX110, w ∈ wsX11_bars := by decide +kernel
theorem mb_X11_bars_0 : Cond.fieldLink RX11 9 "GuardDeskModel" "now" "[I" ∈ wsX11_bars := List.mem_of_getElem? (i := 2) rfl
theorem mb_X11_bars_1 : Cond.constant RX11 55 (-1000000002) ∈ wsX11_bars := List.mem_of_getElem? (i := 1) rfl
set_option maxRecDepth 100000 in
set_option maxHeartbeats 4000000 in
theorem t_X11_bars_b50 (C : cx D cI cJ cZ cG A cX11_bars 9 (some .int) RX11 wsX11_bars p s m args meth c) (a_x a_x_now a_x_kept a_x_sortOf a_x_sizeOf a_x_sheets a_x_parts a_x_edge a_x_far a_x_lost : Nat) (x_isKept : Int32) (x_host : Int32) (x_below : Int32) (x_bestTarget : Int32) (x_high : Int64) (x_low : Int64) (x_whole : Int64) (x_tryHigh : Int64) (x_tryLow : Int64) (x_lots : Int32) (x_now : (Nat → Int32)) (N : Nat) (q : Int32 × (Nat → Int32)) (v1 : Int32) (v2 : Int32) (v3 : Int32) (v6 : Int32) (k_41 : (Nat → Int32) → Int32 → Int32 → Int32 → Option (Int32 × (Nat → Int32))) (hk_41 : ∀ (x_far : (Nat → Int32)) (v4 : Int32) (v5 : Int32) (v6 : Int32), k_41 x_far v4 v5 v6 = some q → WB p l e rm_X11_bars s m args below meth c (MQ below (Qg D (some (.int q.1)) (w_X11_bars cI cJ cZ cG a_x a_x_now a_x_kept a_x_sortOf a_x_sizeOf a_x_sheets a_x_parts a_x_edge a_x_far a_x_lost x_isKept x_host x_below x_bestTarget x_high x_low x_whole x_tryHigh x_tryLow x_lots x_now q.2) A) args s 0 0 A) D A 9 (w_X11_bars cI cJ cZ cG a_x a_x_now a_x_kept a_x_sortOf a_x_sizeOf a_x_sheets a_x_parts a_x_edge a_x_far a_x_lost x_isKept x_host x_below x_bestTarget x_high x_low x_whole x_tryHigh x_tryLow x_lots x_now x_far) [(0, .ref a_x), (1, .int v1), (2, .int v2), (3, .int v3), (4, .int v4), (5, .int v5), (6, .int v6)] [] 41) : ∀ (n : Nat) (x_far : (Nat → Int32)) (v4 : Int32) (v5 : Int32) (v7 : Int32), f_X11_bars_b50 N x_now k_41 v1 v2 v3 v6 n x_far v4 v5 v7 = some q → WB p l e rm_X11_bars s m args below meth c (MQ below (Qg D (some (.int q.1)) (w_X11_bars cI cJ cZ cG a_x a_x_now a_x_kept a_x_sortOf a_x_sizeOf a_x_sheets a_x_parts a_x_edge a_x_far a_x_lost x_isKept x_host x_below x_bestTarget x_high x_low x_whole x_tryHigh x_tryLow x_lots x_now q.2) A) args s 0 0 A) D A 9 (w_X11_bars cI cJ cZ cG a_x a_x_now a_x_kept a_x_sortOf a_x_sizeOf a_x_sheets a_x_parts a_x_edge a_x_far a_x_lost x_isKept x_host x_below x_bestTarget x_high x_low x_whole x_tryHigh x_tryLow x_lots x_now x_far) [(0, .ref a_x), (1, .int v1), (2, .int v2), (3, .int v3), (4, .int v4), (5, .int v5), (6, .int v6), (7, .int v7)] [] 50 := by
  obtain ⟨hx, hb, hr, hml, hown, hts, hlk, hgk, hA⟩ := id C
  have hK := hgk.1
  intro n
  induction n with
  | zero => intro x_far v4 v5 v7 h; cases h
  | succ n hk_50 =>
    intro x_far v4 v5 v7 h
    have h : g_X11_bars_b50 N x_now k_41 v1 v2 v3 v6 (f_X11_bars_b50 N x_now k_41 v1 v2 v3 v6 n) x_far v4 v5 v7 = some q := h
    generalize f_X11_bars_b50 N x_now k_41 v1 v2 v3 v6 n = k_50 at h hk_50
    unfold g_X11_bars_b50 at h
    intro H locs ls hP hD hS hl
    refine lv_iload hx hb dX11_bars_50 (lv_at hl 7 rfl) ?_
    refine lv_iconst (v := 1) hx hb dX11_bars_52 (by decide) ?_
    refine lv_aload_n hx hb dX11_bars_53 rfl (lv_at hl 0 rfl) ?_
    refine va_get (D := D) (ci := 11) (v := .ref a_x_now) (C := RX11) (T := TX11) (N := 19) hx hb hts in_X11_bars_X11 hown hK hP 0 rfl rfl 0 (by decide) (hts _ mb_X11_bars_0) (fun _ h9 => h9) rfl dX11_bars_54 ?_
    refine lv_iconst (v := 2) hx hb dX11_bars_57 (by decide) ?_
    refine va_iald hx hb hK hP 1 0 rfl rfl (g_lit (i := 2) (n := 194) (by decide)) dX11_bars_58 ?_
    refine W.eq (g2 := F0 m 59 ls [.int (x_now 2), .int 1, .int v7]) rfl ?_
    refine lv_ishl hx hb dX11_bars_59 ?_
    refine lv_icmp_ge (tgt := 116) hx hb dX11_bars_60 (by decide) (fun c1 => ?_) (fun c1 => ?_)
    · have h := ift c1 h
      refine lv_iinc (v := v6 + 1) (lv' := [(6, .int (v6 + 1)), (0, .ref a_x), (1, .int v1), (2, .int v2), (3, .int v3), (4, .int v4), (5, .int v5), (7, .int v7)]) hx hb dX11_bars_116 hl (k := 6) rfl rfl (by decide) rfl (fun ls hl => ?_)
      refine lv_goto (tgt := 41) hx hb dX11_bars_119 (by decide) ?_
      exact hk_41 x_far v4 v5 (v6 + 1) h H locs ls hP hD hS (lv_sub hl [1, 2, 3, 4, 5, 6, 0] rfl)
    · have h := iff_ c1 h
      refine lv_iload hx hb dX11_bars_63 (lv_at hl 7 rfl) ?_
      obtain ⟨q2, e2, h⟩ := bd_some h
      refine g_callS0 (index := 150) (maxL := 3) (n := 1) (As := [.int v7]) (rest := []) (st1 := [.int q2]) C hP hS hl.1 (c_X11_many l D cI cJ cZ cG v7 N q2 e2) gX11_bars_X11_many rfl rfl rfl (by decide +kernel) ⟨Nat.le_of_ble_eq_true rfl, Nat.le_of_ble_eq_true rfl⟩ rfl (Nat.le_of_ble_eq_true rfl) rfl dX11_bars_65 rfl (fun H locs hP hS => ?_)
      refine lv_iload hx hb dX11_bars_68 (lv_at hl 6 rfl) ?_
      refine lv_icmp_ne (tgt := 110) hx hb dX11_bars_70 (by decide) (fun c3 => ?_) (fun c3 => ?_)
      · have h := iff_ c3 h
        refine lv_iinc (v := v7 + 1) (lv' := [(7, .int (v7 + 1)), (0, .ref a_x), (1, .int v1), (2, .int v2), (3, .int v3), (4, .int v4), (5, .int v5), (6, .int v6)]) hx hb dX11_bars_110 hl (k := 7) rfl rfl (by decide) rfl (fun ls hl => ?_)
        refine lv_goto (tgt := 50) hx hb dX11_bars_113 (by decide) ?_
        exact hk_50 x_far v4 v5 (v7 + 1) h H locs ls hP hD hS (lv_sub hl [1, 2, 3, 4, 5, 6, 7, 0] rfl)
      · have h := ift c3 h
        refine lv_aload_n hx hb dX11_bars_73 rfl (lv_at hl 0 rfl) ?_
        refine lv_iload hx hb dX11_bars_74 (lv_at hl 7 rfl) ?_
        obtain ⟨q4, e4, h⟩ := bd_some h
        refine g_callV (index := 153) (maxL := 4) (n := 1) (As := [.int v7]) (rest := []) (st1 := [.int q4]) (C1 := RX11) (T1 := TX11) (N1 := 19) (ws2 := (w_X11_bars cI cJ cZ cG a_x a_x_now a_x_kept a_x_sortOf a_x_sizeOf a_x_sheets a_x_parts a_x_edge a_x_far a_x_lost x_isKept x_host x_below x_bestTarget x_high x_low x_whole x_tryHigh x_tryLow x_lots x_now x_far)) C hP hD hS hl.1 11 0 (c_X11_isBarred l D cI cJ cZ cG a_x a_x_now a_x_kept a_x_sortOf a_x_sizeOf a_x_sheets a_x_parts a_x_edge a_x_far a_x_lost x_isKept x_host x_below x_bestTarget x_high x_low x_whole x_tryHigh x_tryLow x_lots x_now v7 N q4 e4) gX11_bars_X11_isBarred rfl rfl rfl (by decide +kernel) ⟨Nat.le_of_ble_eq_true rfl, Nat.le_of_ble_eq_true rfl⟩ rfl rfl rfl (Nat.le_of_ble_eq_true rfl) rfl dX11_bars_76 [0, 1] [2] [1, 2, 0] rfl rfl rfl rfl (by decide) rfl rfl rfl (fun H locs hP hD hS => ?_)
        refine lv_if_eq (tgt := 85) hx hb dX11_bars_79 (by decide) (fun c5 => ?_) (fun c5 => ?_)
        · have h := ift c5 h
          refine lv_aload_n hx hb dX11_bars_85 rfl (lv_at hl 0 rfl) ?_
          refine lv_iload_n hx hb dX11_bars_86 rfl (lv_at hl 1 rfl) ?_
          refine lv_iload_n hx hb dX11_bars_87 rfl (lv_at hl 2 rfl) ?_
          refine lv_iload hx hb dX11_bars_88 (lv_at hl 7 rfl) ?_
          obtain ⟨q6, e6, h⟩ := bd_some h
          refine g_callV (index := 146) (maxL := 7) (n := 3) (As := [.int v1, .int v2, .int v7]) (rest := []) (st1 := [.int q6.1]) (C1 := RX11) (T1 := TX11) (N1 := 19) (ws2 := (w_X11_bars cI cJ cZ cG a_x a_x_now a_x_kept a_x_sortOf a_x_sizeOf a_x_sheets a_x_parts a_x_edge a_x_far a_x_lost x_isKept x_host x_below x_bestTarget x_high x_low x_whole x_tryHigh x_tryLow x_lots x_now q6.2)) C hP hD hS hl.1 11 0 (c_X11_shortWithout l D cI cJ cZ cG a_x a_x_now a_x_kept a_x_sortOf a_x_sizeOf a_x_sheets a_x_parts a_x_edge a_x_far a_x_lost x_isKept x_host x_below x_bestTarget x_high x_low x_whole x_tryHigh x_tryLow x_lots x_now x_far v1 v2 v7 N q6 e6) gX11_bars_X11_shortWithout rfl rfl rfl (by decide +kernel) ⟨Nat.le_of_ble_eq_true rfl, Nat.le_of_ble_eq_true rfl⟩ rfl rfl rfl (Nat.le_of_ble_eq_true rfl) rfl dX11_bars_90 [0, 1, 2] [] [0, 1, 2] rfl rfl rfl rfl (by decide) rfl rfl rfl (fun H locs hP hD hS => ?_)
          refine lv_istore (lv' := [(8, .int q6.1), (0, .ref a_x), (1, .int v1), (2, .int v2), (3, .int v3), (4, .int v4), (5, .int v5), (6, .int v6), (7, .int v7)]) hx hb dX11_bars_93 hl (by decide) rfl (fun ls hl => ?_)
          refine lv_iload hx hb dX11_bars_95 (lv_at hl 0 rfl) ?_
          refine lv_iload hx hb dX11_bars_97 (lv_at hl 6 rfl) ?_
          refine lv_icmp_le (tgt := 110) hx hb dX11_bars_99 (by decide) (fun c7 => ?_) (fun c7 => ?_)
          · have h := ift c7 h
            refine lv_iinc (v := v7 + 1) (lv' := [(7, .int (v7 + 1)), (8, .int q6.1), (0, .ref a_x), (1, .int v1), (2, .int v2), (3, .int v3), (4, .int v4), (5, .int v5), (6, .int v6)]) hx hb dX11_bars_110 hl (k := 8) rfl rfl (by decide) rfl (fun ls hl => ?_)
            refine lv_goto (tgt := 50) hx hb dX11_bars_113 (by decide) ?_
            exact hk_50 q6.2 v4 v5 (v7 + 1) h H locs ls hP hD hS (lv_sub hl [2, 3, 4, 5, 6, 7, 8, 0] rfl)
          · have h := iff_ c7 h
            refine lv_iload hx hb dX11_bars_102 (lv_at hl 0 rfl) ?_
            refine lv_istore (lv' := [(5, .int q6.1), (8, .int q6.1), (0, .ref a_x), (1, .int v1), (2, .int v2), (3, .int v3), (4, .int v4), (6, .int v6), (7, .int v7)]) hx hb dX11_bars_104 hl (by decide) rfl (fun ls hl => ?_)
            refine lv_iload hx hb dX11_bars_106 (lv_at hl 8 rfl) ?_
            refine lv_istore (lv' := [(4, .int v7), (5, .int q6.1), (8, .int q6.1), (0, .ref a_x), (1, .int v1), (2, .int v2), (3, .int v3), (6, .int v6), (7, .int v7)]) hx hb dX11_bars_108 hl (by decide) rfl (fun ls hl => ?_)
            refine lv_iinc (v := v7 + 1) (lv' := [(7, .int (v7 + 1)), (4, .int v7), (5, .int q6.1), (8, .int q6.1), (0, .ref a_x), (1, .int v1), (2, .int v2), (3, .int v3), (6, .int v6)]) hx hb dX11_bars_110 hl (k := 8) rfl rfl (by decide) rfl (fun ls hl => ?_)
            refine lv_goto (tgt := 50) hx hb dX11_bars_113 (by decide) ?_
            exact hk_50 q6.2 v7 q6.1 (v7 + 1) h H locs ls hP hD hS (lv_sub hl [4, 5, 6, 7, 1, 2, 8, 0] rfl)
        · have h := iff_ c5 h
          refine lv_goto (tgt := 110) hx hb dX11_bars_82 (by decide) ?_
          refine lv_iinc (v := v7 + 1) (lv' := [(7, .int (v7 + 1)), (0, .ref a_x), (1, .int v1), (2, .int v2), (3, .int v3), (4, .int v4), (5, .int v5), (6, .int v6)]) hx hb dX11_bars_110 hl (k := 7) rfl rfl (by decide) rfl (fun ls hl => ?_)
          refine lv_goto (tgt := 50) hx hb dX11_bars_113 (by decide) ?_
          exact hk_50 x_far v4 v5 (v7 + 1) h H locs ls hP hD hS (lv_sub hl [1, 2, 3, 4, 5, 6, 7, 0] rfl)
set_option maxRecDepth 100000 in
set_option maxHeartbeats 4000000 in
theorem t_X11_bars_b41 (C : cx D cI cJ cZ cG A cX11_bars 9 (some .int) RX11 wsX11_bars p s m args meth c) (a_x a_x_now a_x_kept a_x_sortOf a_x_sizeOf a_x_sheets a_x_parts a_x_edge a_x_far a_x_lost : Nat) (x_isKept : Int32) (x_host : Int32) (x_below : Int32) (x_bestTarget : Int32) (x_high : Int64) (x_low : Int64) (x_whole : Int64) (x_tryHigh : Int64) (x_tryLow : Int64) (x_lots : Int32) (x_now : (Nat → Int32)) (N : Nat) (q : Int32 × (Nat → Int32)) (v1 : Int32) (v2 : Int32) (v3 : Int32) : ∀ (n : Nat) (x_far : (Nat → Int32)) (v4 : Int32) (v5 : Int32) (v6 : Int32), f_X11_bars_b41 N x_now v1 v2 v3 n x_far v4 v5 v6 = some q → WB p l e rm_X11_bars s m args below meth c (MQ below (Qg D (some (.int q.1)) (w_X11_bars cI cJ cZ cG a_x a_x_now a_x_kept a_x_sortOf a_x_sizeOf a_x_sheets a_x_parts a_x_edge a_x_far a_x_lost x_isKept x_host x_below x_bestTarget x_high x_low x_whole x_tryHigh x_tryLow x_lots x_now q.2) A) args s 0 0 A) D A 9 (w_X11_bars cI cJ cZ cG a_x a_x_now a_x_kept a_x_sortOf a_x_sizeOf a_x_sheets a_x_parts a_x_edge a_x_far a_x_lost x_isKept x_host x_below x_bestTarget x_high x_low x_whole x_tryHigh x_tryLow x_lots x_now x_far) [(0, .ref a_x), (1, .int v1), (2, .int v2), (3, .int v3), (4, .int v4), (5, .int v5), (6, .int v6)] [] 41 := by
  obtain ⟨hx, hb, hr, hml, hown, hts, hlk, hgk, hA⟩ := id C
  have hK := hgk.1
  intro n
  induction n with
  | zero => intro x_far v4 v5 v6 h; cases h
  | succ n hk_41 =>
    intro x_far v4 v5 v6 h
    have h : g_X11_bars_b41 N x_now v1 v2 v3 (f_X11_bars_b41 N x_now v1 v2 v3 n) x_far v4 v5 v6 = some q := h
    generalize f_X11_bars_b41 N x_now v1 v2 v3 n = k_41 at h hk_41
    unfold g_X11_bars_b41 at h
    intro H locs ls hP hD hS hl
    refine lv_iload hx hb dX11_bars_41 (lv_at hl 6 rfl) ?_
    refine lv_iload_n hx hb dX11_bars_43 rfl (lv_at hl 3 rfl) ?_
    refine lv_icmp_gt (tgt := 122) hx hb dX11_bars_44 (by decide) (fun c1 => ?_) (fun c1 => ?_)
    · have h := ift c1 h
      refine lv_iload hx hb dX11_bars_122 (lv_at hl 4 rfl) ?_
      obtain rfl := Option.some.inj h
      exact g_iret C hP hD hS dX11_bars_124
    · have h := iff_ c1 h
      refine lv_iconst (v := 1) hx hb dX11_bars_47 (by decide) ?_
      refine lv_istore (lv' := [(7, .int 1), (0, .ref a_x), (1, .int v1), (2, .int v2), (3, .int v3), (4, .int v4), (5, .int v5), (6, .int v6)]) hx hb dX11_bars_48 hl (by decide) rfl (fun ls hl => ?_)
      exact t_X11_bars_b50 C a_x a_x_now a_x_kept a_x_sortOf a_x_sizeOf a_x_sheets a_x_parts a_x_edge a_x_far a_x_lost x_isKept x_host x_below x_bestTarget x_high x_low x_whole x_tryHigh x_tryLow x_lots x_now N q v1 v2 v3 v6 k_41 hk_41 N x_far v4 v5 1 h H locs ls hP hD hS (lv_sub hl [1, 2, 3, 4, 5, 6, 7, 0] rfl)
set_option maxRecDepth 100000 in
set_option maxHeartbeats 4000000 in
theorem c_X11_bars (l : Launch) (D : va_G) (cI cJ cZ cG : ClassId) (a_x a_x_now a_x_kept a_x_sortOf a_x_sizeOf a_x_sheets a_x_parts a_x_edge a_x_far a_x_lost : Nat) (x_isKept : Int32) (x_host : Int32) (x_below : Int32) (x_bestTarget : Int32) (x_high : Int64) (x_low : Int64) (x_whole : Int64) (x_tryHigh : Int64) (x_tryLow : Int64) (x_lots : Int32) (x_now : (Nat → Int32)) (x_far : (Nat → Int32)) (p1 : Int32) (p2 : Int32) (p3 : Int32) (N : Nat) (q : Int32 × (Nat → Int32)) (h : f_X11_bars N x_now x_far p1 p2 p3 = some q) : gMet l yX11_bars wsX11_bars rm_X11_bars [.ref a_x, .int p1, .int p2, .int p3] (w_X11_bars cI cJ cZ cG a_x a_x_now a_x_kept a_x_sortOf a_x_sizeOf a_x_sheets a_x_parts a_x_edge a_x_far a_x_lost x_isKept x_host x_below x_bestTarget x_high x_low x_whole x_tryHigh x_tryLow x_lots x_now x_far) (w_X11_bars cI cJ cZ cG a_x a_x_now a_x_kept a_x_sortOf a_x_sizeOf a_x_sheets a_x_parts a_x_edge a_x_far a_x_lost x_isKept x_host x_below x_bestTarget x_high x_low x_whole x_tryHigh x_tryLow x_lots x_now q.2) (some (.int q.1)) D cI cJ cZ cG := by
  refine g_enter (cc := cX11_bars) (nL := 9) (ret := (some .int)) (by decide) rfl (Nat.le_of_ble_eq_true rfl) ?_
  intro p e s m below meth c A C H locs ls hP hD hS hl
  obtain ⟨hx, hb, hr, hml, hown, hts, hlk, hgk, hA⟩ := id C
  have hK := hgk.1
  have hl : lv_has ls 9 [(0, .ref a_x), (1, .int p1), (2, .int p2), (3, .int p3)] := hl
  unfold f_X11_bars at h
  refine lv_iload_n hx hb dX11_bars_0 rfl (lv_at hl 1 rfl) ?_
  refine g_callS0 (index := 138) (maxL := 1) (n := 1) (As := [.int p1]) (rest := []) (st1 := [.int (f_X11_isPlace p1)]) C hP hS hl.1 (c_X11_isPlace l D cI cJ cZ cG p1 _ rfl) gX11_bars_X11_isPlace rfl rfl rfl (by decide +kernel) ⟨Nat.le_of_ble_eq_true rfl, Nat.le_of_ble_eq_true rfl⟩ rfl (Nat.le_of_ble_eq_true rfl) rfl dX11_bars_1 rfl (fun H locs hP hS => ?_)
  refine lv_if_eq (tgt := 23) hx hb dX11_bars_4 (by decide) (fun c1 => ?_) (fun c1 => ?_)
  · have h := ift c1 h
    refine lv_ldc (v := (-1000000002)) hx hb hown (hts _ mb_X11_bars_1) dX11_bars_23 ?_
    obtain rfl := Option.some.inj h
    exact g_iret C hP hD hS dX11_bars_25
  · have h := iff_ c1 h
    refine lv_iload_n hx hb dX11_bars_7 rfl (lv_at hl 2 rfl) ?_
    refine g_callS0 (index := 138) (maxL := 1) (n := 1) (As := [.int p2]) (rest := []) (st1 := [.int (f_X11_isPlace p2)]) C hP hS hl.1 (c_X11_isPlace l D cI cJ cZ cG p2 _ rfl) gX11_bars_X11_isPlace rfl rfl rfl (by decide +kernel) ⟨Nat.le_of_ble_eq_true rfl, Nat.le_of_ble_eq_true rfl⟩ rfl (Nat.le_of_ble_eq_true rfl) rfl dX11_bars_8 rfl (fun H locs hP hS => ?_)
    refine lv_if_eq (tgt := 23) hx hb dX11_bars_11 (by decide) (fun c2 => ?_) (fun c2 => ?_)
    · have h := ift c2 h
      refine lv_ldc (v := (-1000000002)) hx hb hown (hts _ mb_X11_bars_1) dX11_bars_23 ?_
      obtain rfl := Option.some.inj h
      exact g_iret C hP hD hS dX11_bars_25
    · have h := iff_ c2 h
      refine lv_iload_n hx hb dX11_bars_14 rfl (lv_at hl 3 rfl) ?_
      refine lv_iconst (v := 0) hx hb dX11_bars_15 (by decide) ?_
      refine lv_iconst (v := 4) hx hb dX11_bars_16 (by decide) ?_
      refine g_callS0 (index := 47) (maxL := 3) (n := 3) (As := [.int p3, .int 0, .int 4]) (rest := []) (st1 := [.int (f_X11_within p3 0 4)]) C hP hS hl.1 (c_X11_within l D cI cJ cZ cG p3 0 4 _ rfl) gX11_bars_X11_within rfl rfl rfl (by decide +kernel) ⟨Nat.le_of_ble_eq_true rfl, Nat.le_of_ble_eq_true rfl⟩ rfl (Nat.le_of_ble_eq_true rfl) rfl dX11_bars_17 rfl (fun H locs hP hS => ?_)
      refine lv_if_ne (tgt := 26) hx hb dX11_bars_20 (by decide) (fun c3 => ?_) (fun c3 => ?_)
      · have h := iff_ c3 h
        refine lv_iconst (v := 0) hx hb dX11_bars_26 (by decide) ?_
        refine lv_istore (lv' := [(4, .int 0), (0, .ref a_x), (1, .int p1), (2, .int p2), (3, .int p3)]) hx hb dX11_bars_27 hl (by decide) rfl (fun ls hl => ?_)
        refine lv_aload_n hx hb dX11_bars_29 rfl (lv_at hl 1 rfl) ?_
        refine lv_iload_n hx hb dX11_bars_30 rfl (lv_at hl 2 rfl) ?_
        refine lv_iload_n hx hb dX11_bars_31 rfl (lv_at hl 3 rfl) ?_
        refine lv_iconst (v := 0) hx hb dX11_bars_32 (by decide) ?_
        obtain ⟨q4, e4, h⟩ := bd_some h
        refine g_callV (index := 146) (maxL := 7) (n := 3) (As := [.int p1, .int p2, .int 0]) (rest := []) (st1 := [.int q4.1]) (C1 := RX11) (T1 := TX11) (N1 := 19) (ws2 := (w_X11_bars cI cJ cZ cG a_x a_x_now a_x_kept a_x_sortOf a_x_sizeOf a_x_sheets a_x_parts a_x_edge a_x_far a_x_lost x_isKept x_host x_below x_bestTarget x_high x_low x_whole x_tryHigh x_tryLow x_lots x_now q4.2)) C hP hD hS hl.1 11 0 (c_X11_shortWithout l D cI cJ cZ cG a_x a_x_now a_x_kept a_x_sortOf a_x_sizeOf a_x_sheets a_x_parts a_x_edge a_x_far a_x_lost x_isKept x_host x_below x_bestTarget x_high x_low x_whole x_tryHigh x_tryLow x_lots x_now x_far p1 p2 0 N q4 e4) gX11_bars_X11_shortWithout rfl rfl rfl (by decide +kernel) ⟨Nat.le_of_ble_eq_true rfl, Nat.le_of_ble_eq_true rfl⟩ rfl rfl rfl (Nat.le_of_ble_eq_true rfl) rfl dX11_bars_33 [0, 1, 2] [] [0, 1, 2] rfl rfl rfl rfl (by decide) rfl rfl rfl (fun H locs hP hD hS => ?_)
        refine lv_istore (lv' := [(5, .int q4.1), (4, .int 0), (0, .ref a_x), (1, .int p1), (2, .int p2), (3, .int p3)]) hx hb dX11_bars_36 hl (by decide) rfl (fun ls hl => ?_)
        refine lv_iconst (v := 1) hx hb dX11_bars_38 (by decide) ?_
        refine lv_istore (lv' := [(6, .int 1), (5, .int q4.1), (4, .int 0), (0, .ref a_x), (1, .int p1), (2, .int p2), (3, .int p3)]) hx hb dX11_bars_39 hl (by decide) rfl (fun ls hl => ?_)
        exact t_X11_bars_b41 C a_x a_x_now a_x_kept a_x_sortOf a_x_sizeOf a_x_sheets a_x_parts a_x_edge a_x_far a_x_lost x_isKept x_host x_below x_bestTarget x_high x_low x_whole x_tryHigh x_tryLow x_lots x_now N q p1 p2 p3 N q4.2 0 q4.1 1 h H locs ls hP hD hS (lv_sub hl [3, 4, 5, 6, 2, 1, 0] rfl)
      · have h := ift c3 h
        refine lv_ldc (v := (-1000000002)) hx hb hown (hts _ mb_X11_bars_1) dX11_bars_23 ?_
        obtain rfl := Option.some.inj h
        exact g_iret C hP hD hS dX11_bars_25
theorem in_X11_post_X11 : ∀ w ∈ wsX110, w ∈ wsX11_post := by decide +kernel
theorem mb_X11_post_0 : Cond.fieldLink RX11 9 "GuardDeskModel" "now" "[I" ∈ wsX11_post := List.mem_of_getElem? (i := 1) rfl
theorem mb_X11_post_1 : Cond.constant RX11 55 (-1000000002) ∈ wsX11_post := List.mem_of_getElem? (i := 2) rfl
set_option maxRecDepth 100000 in
set_option maxHeartbeats 4000000 in
theorem c_X11_post (l : Launch) (D : va_G) (cI cJ cZ cG : ClassId) (a_x a_x_now a_x_kept a_x_sortOf a_x_sizeOf a_x_sheets a_x_parts a_x_edge a_x_far a_x_lost : Nat) (x_isKept : Int32) (x_host : Int32) (x_below : Int32) (x_bestTarget : Int32) (x_high : Int64) (x_low : Int64) (x_whole : Int64) (x_tryHigh : Int64) (x_tryLow : Int64) (x_lots : Int32) (x_now : (Nat → Int32)) (p1 : Int32) (q : Int32 × (Nat → Int32)) (h : f_X11_post x_now p1 = some q) : gMet l yX11_post wsX11_post rm_X11_post [.ref a_x, .int p1] (w_X11_post cI cJ cZ cG a_x a_x_now a_x_kept a_x_sortOf a_x_sizeOf a_x_sheets a_x_parts a_x_edge a_x_far a_x_lost x_isKept x_host x_below x_bestTarget x_high x_low x_whole x_tryHigh x_tryLow x_lots x_now) (w_X11_post cI cJ cZ cG a_x a_x_now a_x_kept a_x_sortOf a_x_sizeOf a_x_sheets a_x_parts a_x_edge a_x_far a_x_lost x_isKept x_host x_below x_bestTarget x_high x_low x_whole x_tryHigh x_tryLow x_lots q.2) (some (.int q.1)) D cI cJ cZ cG := by
  refine g_enter (cc := cX11_post) (nL := 3) (ret := (some .int)) (by decide) rfl (Nat.le_of_ble_eq_true rfl) ?_
  intro p e s m below meth c A C H locs ls hP hD hS hl
  obtain ⟨hx, hb, hr, hml, hown, hts, hlk, hgk, hA⟩ := id C
  have hK := hgk.1
  have hl : lv_has ls 3 [(0, .ref a_x), (1, .int p1)] := hl
  unfold f_X11_post at h
  refine lv_aload_n hx hb dX11_post_0 rfl (lv_at hl 0 rfl) ?_
  refine va_get (D := D) (ci := 11) (v := .ref a_x_now) (C := RX11) (T := TX11) (N := 19) hx hb hts in_X11_post_X11 hown hK hP 0 rfl rfl 0 (by decide) (hts _ mb_X11_post_0) (fun _ h9 => h9) rfl dX11_post_1 ?_
  refine lv_iconst (v := 3) hx hb dX11_post_4 (by decide) ?_
  refine va_iald hx hb hK hP 1 0 rfl rfl (g_lit (i := 3) (n := 194) (by decide)) dX11_post_5 ?_
  refine W.eq (g2 := F0 m 6 ls [.int (x_now 3)]) rfl ?_
  refine lv_istore_n (lv' := [(2, .int (x_now 3)), (0, .ref a_x), (1, .int p1)]) hx hb dX11_post_6 rfl hl (by decide) rfl (fun ls hl => ?_)
  refine lv_iload_n hx hb dX11_post_7 rfl (lv_at hl 2 rfl) ?_
  refine lv_iconst (v := 1) hx hb dX11_post_8 (by decide) ?_
  refine lv_bipush (v := 8) hx hb dX11_post_9 (by decide) ?_
  refine g_callS0 (index := 47) (maxL := 3) (n := 3) (As := [.int p1, .int 1, .int 8]) (rest := []) (st1 := [.int (f_X11_within p1 1 8)]) C hP hS hl.1 (c_X11_within l D cI cJ cZ cG p1 1 8 _ rfl) gX11_post_X11_within rfl rfl rfl (by decide +kernel) ⟨Nat.le_of_ble_eq_true rfl, Nat.le_of_ble_eq_true rfl⟩ rfl (Nat.le_of_ble_eq_true rfl) rfl dX11_post_11 rfl (fun H locs hP hS => ?_)
  refine lv_if_eq (tgt := 22) hx hb dX11_post_14 (by decide) (fun c1 => ?_) (fun c1 => ?_)
  · have h := ift c1 h
    refine lv_ldc (v := (-1000000002)) hx hb hown (hts _ mb_X11_post_1) dX11_post_22 ?_
    obtain rfl := Option.some.inj h
    exact g_iret C hP hD hS dX11_post_24
  · have h := iff_ c1 h
    refine lv_iload_n hx hb dX11_post_17 rfl (lv_at hl 0 rfl) ?_
    refine lv_iconst (v := 5) hx hb dX11_post_18 (by decide) ?_
    refine lv_icmp_ne (tgt := 25) hx hb dX11_post_19 (by decide) (fun c2 => ?_) (fun c2 => ?_)
    · have h := iff_ c2 h
      refine lv_aload_n hx hb dX11_post_25 rfl (lv_at hl 1 rfl) ?_
      refine va_get (D := D) (ci := 11) (v := .ref a_x_now) (C := RX11) (T := TX11) (N := 19) hx hb hts in_X11_post_X11 hown hK hP 0 rfl rfl 0 (by decide) (hts _ mb_X11_post_0) (fun _ h9 => h9) rfl dX11_post_26 ?_
      refine lv_sipush (v := 149) hx hb dX11_post_29 (by decide) ?_
      refine lv_iload_n hx hb dX11_post_32 rfl (lv_at hl 0 rfl) ?_
      refine lv_iadd hx hb dX11_post_33 ?_
      refine lv_iload_n hx hb dX11_post_34 rfl (lv_at hl 2 rfl) ?_
      obtain ⟨i3, h⟩ := gI_some h
      refine va_iast hx hb hK hP hD hS 1 0 rfl rfl i3 dX11_post_35 (fun H locs hP hD hS => ?_)
      have hP : va_P D vwCl (w_X11_post cI cJ cZ cG a_x a_x_now a_x_kept a_x_sortOf a_x_sizeOf a_x_sheets a_x_parts a_x_edge a_x_far a_x_lost x_isKept x_host x_below x_bestTarget x_high x_low x_whole x_tryHigh x_tryLow x_lots (upd x_now (149 + (x_now 3)).toNatClampNeg p1)) H := hP
      have hD : va_D A (w_X11_post cI cJ cZ cG a_x a_x_now a_x_kept a_x_sortOf a_x_sizeOf a_x_sheets a_x_parts a_x_edge a_x_far a_x_lost x_isKept x_host x_below x_bestTarget x_high x_low x_whole x_tryHigh x_tryLow x_lots (upd x_now (149 + (x_now 3)).toNatClampNeg p1)) := hD
      refine lv_aload_n hx hb dX11_post_36 rfl (lv_at hl 1 rfl) ?_
      refine va_get (D := D) (ci := 11) (v := .ref a_x_now) (C := RX11) (T := TX11) (N := 19) hx hb hts in_X11_post_X11 hown hK hP 0 rfl rfl 0 (by decide) (hts _ mb_X11_post_0) (fun _ h9 => h9) rfl dX11_post_37 ?_
      refine lv_iconst (v := 3) hx hb dX11_post_40 (by decide) ?_
      refine lv_dup2_11 hx hb dX11_post_41 rfl rfl ?_
      refine va_iald hx hb hK hP 1 0 rfl rfl (g_lit (i := 3) (n := 194) (by decide)) dX11_post_42 ?_
      refine W.eq (g2 := F0 m 43 ls [.int ((upd x_now (149 + (x_now 3)).toNatClampNeg p1) 3), .int 3, .ref a_x_now]) rfl ?_
      refine lv_iconst (v := 1) hx hb dX11_post_43 (by decide) ?_
      refine lv_iadd hx hb dX11_post_44 ?_
      refine va_iast hx hb hK hP hD hS 1 0 rfl rfl (g_lit (i := 3) (n := 194) (by decide)) dX11_post_45 (fun H locs hP hD hS => ?_)
      have hP : va_P D vwCl (w_X11_post cI cJ cZ cG a_x a_x_now a_x_kept a_x_sortOf a_x_sizeOf a_x_sheets a_x_parts a_x_edge a_x_far a_x_lost x_isKept x_host x_below x_bestTarget x_high x_low x_whole x_tryHigh x_tryLow x_lots (upd (upd x_now (149 + (x_now 3)).toNatClampNeg p1) 3 (((upd x_now (149 + (x_now 3)).toNatClampNeg p1) 3) + 1))) H := hP
      have hD : va_D A (w_X11_post cI cJ cZ cG a_x a_x_now a_x_kept a_x_sortOf a_x_sizeOf a_x_sheets a_x_parts a_x_edge a_x_far a_x_lost x_isKept x_host x_below x_bestTarget x_high x_low x_whole x_tryHigh x_tryLow x_lots (upd (upd x_now (149 + (x_now 3)).toNatClampNeg p1) 3 (((upd x_now (149 + (x_now 3)).toNatClampNeg p1) 3) + 1))) := hD
      refine lv_iload_n hx hb dX11_post_46 rfl (lv_at hl 0 rfl) ?_
      obtain rfl := Option.some.inj h
      exact g_iret C hP hD hS dX11_post_47
    · have h := ift c2 h
      refine lv_ldc (v := (-1000000002)) hx hb hown (hts _ mb_X11_post_1) dX11_post_22 ?_
      obtain rfl := Option.some.inj h
      exact g_iret C hP hD hS dX11_post_24
theorem in_X11_every_X11 : ∀ w ∈ wsX110, w ∈ wsX11_every := by decide +kernel
theorem mb_X11_every_0 : Cond.fieldLink RX11 9 "GuardDeskModel" "now" "[I" ∈ wsX11_every := List.mem_of_getElem? (i := 1) rfl
theorem mb_X11_every_1 : Cond.constant RX11 55 (-1000000002) ∈ wsX11_every := List.mem_of_getElem? (i := 2) rfl
set_option maxRecDepth 100000 in
set_option maxHeartbeats 4000000 in
theorem c_X11_every (l : Launch) (D : va_G) (cI cJ cZ cG : ClassId) (a_x a_x_now a_x_kept a_x_sortOf a_x_sizeOf a_x_sheets a_x_parts a_x_edge a_x_far a_x_lost : Nat) (x_isKept : Int32) (x_host : Int32) (x_below : Int32) (x_bestTarget : Int32) (x_high : Int64) (x_low : Int64) (x_whole : Int64) (x_tryHigh : Int64) (x_tryLow : Int64) (x_lots : Int32) (x_now : (Nat → Int32)) (p1 : Int32) (p2 : Int32) (q : Int32 × (Nat → Int32)) (h : f_X11_every x_now p1 p2 = some q) : gMet l yX11_every wsX11_every rm_X11_every [.ref a_x, .int p1, .int p2] (w_X11_every cI cJ cZ cG a_x a_x_now a_x_kept a_x_sortOf a_x_sizeOf a_x_sheets a_x_parts a_x_edge a_x_far a_x_lost x_isKept x_host x_below x_bestTarget x_high x_low x_whole x_tryHigh x_tryLow x_lots x_now) (w_X11_every cI cJ cZ cG a_x a_x_now a_x_kept a_x_sortOf a_x_sizeOf a_x_sheets a_x_parts a_x_edge a_x_far a_x_lost x_isKept x_host x_below x_bestTarget x_high x_low x_whole x_tryHigh x_tryLow x_lots q.2) (some (.int q.1)) D cI cJ cZ cG := by
  refine g_enter (cc := cX11_every) (nL := 4) (ret := (some .int)) (by decide) rfl (Nat.le_of_ble_eq_true rfl) ?_
  intro p e s m below meth c A C H locs ls hP hD hS hl
  obtain ⟨hx, hb, hr, hml, hown, hts, hlk, hgk, hA⟩ := id C
  have hK := hgk.1
  have hl : lv_has ls 4 [(0, .ref a_x), (1, .int p1), (2, .int p2)] := hl
  unfold f_X11_every at h
  refine lv_iload_n hx hb dX11_every_0 rfl (lv_at hl 1 rfl) ?_
  refine lv_iconst (v := 0) hx hb dX11_every_1 (by decide) ?_
  refine lv_aload_n hx hb dX11_every_2 rfl (lv_at hl 0 rfl) ?_
  refine va_get (D := D) (ci := 11) (v := .ref a_x_now) (C := RX11) (T := TX11) (N := 19) hx hb hts in_X11_every_X11 hown hK hP 0 rfl rfl 0 (by decide) (hts _ mb_X11_every_0) (fun _ h9 => h9) rfl dX11_every_3 ?_
  refine lv_iconst (v := 3) hx hb dX11_every_6 (by decide) ?_
  refine va_iald hx hb hK hP 1 0 rfl rfl (g_lit (i := 3) (n := 194) (by decide)) dX11_every_7 ?_
  refine W.eq (g2 := F0 m 8 ls [.int (x_now 3), .int 0, .int p1]) rfl ?_
  refine lv_iconst (v := 1) hx hb dX11_every_8 (by decide) ?_
  refine lv_isub hx hb dX11_every_9 ?_
  refine g_callS0 (index := 47) (maxL := 3) (n := 3) (As := [.int p1, .int 0, .int ((x_now 3) - 1)]) (rest := []) (st1 := [.int (f_X11_within p1 0 ((x_now 3) - 1))]) C hP hS hl.1 (c_X11_within l D cI cJ cZ cG p1 0 ((x_now 3) - 1) _ rfl) gX11_every_X11_within rfl rfl rfl (by decide +kernel) ⟨Nat.le_of_ble_eq_true rfl, Nat.le_of_ble_eq_true rfl⟩ rfl (Nat.le_of_ble_eq_true rfl) rfl dX11_every_10 rfl (fun H locs hP hS => ?_)
  refine lv_if_eq (tgt := 26) hx hb dX11_every_13 (by decide) (fun c1 => ?_) (fun c1 => ?_)
  · have h := ift c1 h
    refine lv_ldc (v := (-1000000002)) hx hb hown (hts _ mb_X11_every_1) dX11_every_26 ?_
    obtain rfl := Option.some.inj h
    exact g_iret C hP hD hS dX11_every_28
  · have h := iff_ c1 h
    refine lv_iload_n hx hb dX11_every_16 rfl (lv_at hl 2 rfl) ?_
    refine lv_iconst (v := 1) hx hb dX11_every_17 (by decide) ?_
    refine lv_bipush (v := 8) hx hb dX11_every_18 (by decide) ?_
    refine g_callS0 (index := 47) (maxL := 3) (n := 3) (As := [.int p2, .int 1, .int 8]) (rest := []) (st1 := [.int (f_X11_within p2 1 8)]) C hP hS hl.1 (c_X11_within l D cI cJ cZ cG p2 1 8 _ rfl) gX11_every_X11_within rfl rfl rfl (by decide +kernel) ⟨Nat.le_of_ble_eq_true rfl, Nat.le_of_ble_eq_true rfl⟩ rfl (Nat.le_of_ble_eq_true rfl) rfl dX11_every_20 rfl (fun H locs hP hS => ?_)
    refine lv_if_ne (tgt := 29) hx hb dX11_every_23 (by decide) (fun c2 => ?_) (fun c2 => ?_)
    · have h := iff_ c2 h
      refine lv_aload_n hx hb dX11_every_29 rfl (lv_at hl 0 rfl) ?_
      refine va_get (D := D) (ci := 11) (v := .ref a_x_now) (C := RX11) (T := TX11) (N := 19) hx hb hts in_X11_every_X11 hown hK hP 0 rfl rfl 0 (by decide) (hts _ mb_X11_every_0) (fun _ h9 => h9) rfl dX11_every_30 ?_
      refine lv_sipush (v := 149) hx hb dX11_every_33 (by decide) ?_
      refine lv_iload_n hx hb dX11_every_36 rfl (lv_at hl 1 rfl) ?_
      refine lv_iadd hx hb dX11_every_37 ?_
      obtain ⟨i3, h⟩ := gI_some h
      refine va_iald hx hb hK hP 1 0 rfl rfl i3 dX11_every_38 ?_
      refine lv_istore_n (lv' := [(3, .int (x_now (149 + p1).toNatClampNeg)), (0, .ref a_x), (1, .int p1), (2, .int p2)]) hx hb dX11_every_39 rfl hl (by decide) rfl (fun ls hl => ?_)
      refine lv_aload_n hx hb dX11_every_40 rfl (lv_at hl 1 rfl) ?_
      refine va_get (D := D) (ci := 11) (v := .ref a_x_now) (C := RX11) (T := TX11) (N := 19) hx hb hts in_X11_every_X11 hown hK hP 0 rfl rfl 0 (by decide) (hts _ mb_X11_every_0) (fun _ h9 => h9) rfl dX11_every_41 ?_
      refine lv_sipush (v := 149) hx hb dX11_every_44 (by decide) ?_
      refine lv_iload_n hx hb dX11_every_47 rfl (lv_at hl 2 rfl) ?_
      refine lv_iadd hx hb dX11_every_48 ?_
      refine lv_iload_n hx hb dX11_every_49 rfl (lv_at hl 3 rfl) ?_
      obtain ⟨i4, h⟩ := gI_some h
      refine va_iast hx hb hK hP hD hS 1 0 rfl rfl i4 dX11_every_50 (fun H locs hP hD hS => ?_)
      have hP : va_P D vwCl (w_X11_every cI cJ cZ cG a_x a_x_now a_x_kept a_x_sortOf a_x_sizeOf a_x_sheets a_x_parts a_x_edge a_x_far a_x_lost x_isKept x_host x_below x_bestTarget x_high x_low x_whole x_tryHigh x_tryLow x_lots (upd x_now (149 + p1).toNatClampNeg p2)) H := hP
      have hD : va_D A (w_X11_every cI cJ cZ cG a_x a_x_now a_x_kept a_x_sortOf a_x_sizeOf a_x_sheets a_x_parts a_x_edge a_x_far a_x_lost x_isKept x_host x_below x_bestTarget x_high x_low x_whole x_tryHigh x_tryLow x_lots (upd x_now (149 + p1).toNatClampNeg p2)) := hD
      refine lv_iload_n hx hb dX11_every_51 rfl (lv_at hl 0 rfl) ?_
      obtain rfl := Option.some.inj h
      exact g_iret C hP hD hS dX11_every_52
    · have h := ift c2 h
      refine lv_ldc (v := (-1000000002)) hx hb hown (hts _ mb_X11_every_1) dX11_every_26 ?_
      obtain rfl := Option.some.inj h
      exact g_iret C hP hD hS dX11_every_28
theorem in_X11_behind_X11 : ∀ w ∈ wsX110, w ∈ wsX11_behind := by decide +kernel
theorem mb_X11_behind_0 : Cond.fieldLink RX11 9 "GuardDeskModel" "now" "[I" ∈ wsX11_behind := List.mem_of_getElem? (i := 1) rfl
set_option maxRecDepth 100000 in
set_option maxHeartbeats 4000000 in
theorem t_X11_behind_b41 (C : cx D cI cJ cZ cG A cX11_behind 6 (some .int) RX11 wsX11_behind p s m args meth c) (a_x a_x_now a_x_kept a_x_sortOf a_x_sizeOf a_x_sheets a_x_parts a_x_edge a_x_far a_x_lost : Nat) (x_isKept : Int32) (x_host : Int32) (x_below : Int32) (x_bestTarget : Int32) (x_high : Int64) (x_low : Int64) (x_whole : Int64) (x_tryHigh : Int64) (x_tryLow : Int64) (x_lots : Int32) (x_now : (Nat → Int32)) (N : Nat) (q : Int32) (v1 : Int32) (v2 : Int32) (v3 : Int32) (v4 : Int32) (v5 : Int32) (k_12 : Int32 → Int32 → Option (Int32)) (hk_12 : ∀ (v3 : Int32) (v4 : Int32), k_12 v3 v4 = some q → WB p l e rm_X11_behind s m args below meth c (MQ below (Qg D (some (.int q)) (w_X11_behind cI cJ cZ cG a_x a_x_now a_x_kept a_x_sortOf a_x_sizeOf a_x_sheets a_x_parts a_x_edge a_x_far a_x_lost x_isKept x_host x_below x_bestTarget x_high x_low x_whole x_tryHigh x_tryLow x_lots x_now) A) args s 0 0 A) D A 6 (w_X11_behind cI cJ cZ cG a_x a_x_now a_x_kept a_x_sortOf a_x_sizeOf a_x_sheets a_x_parts a_x_edge a_x_far a_x_lost x_isKept x_host x_below x_bestTarget x_high x_low x_whole x_tryHigh x_tryLow x_lots x_now) [(0, .ref a_x), (1, .int v1), (2, .int v2), (3, .int v3), (4, .int v4)] [] 12) (h : f_X11_behind_b41 N x_now k_12 v1 v2 v3 v4 v5 = some q) : WB p l e rm_X11_behind s m args below meth c (MQ below (Qg D (some (.int q)) (w_X11_behind cI cJ cZ cG a_x a_x_now a_x_kept a_x_sortOf a_x_sizeOf a_x_sheets a_x_parts a_x_edge a_x_far a_x_lost x_isKept x_host x_below x_bestTarget x_high x_low x_whole x_tryHigh x_tryLow x_lots x_now) A) args s 0 0 A) D A 6 (w_X11_behind cI cJ cZ cG a_x a_x_now a_x_kept a_x_sortOf a_x_sizeOf a_x_sheets a_x_parts a_x_edge a_x_far a_x_lost x_isKept x_host x_below x_bestTarget x_high x_low x_whole x_tryHigh x_tryLow x_lots x_now) [(0, .ref a_x), (1, .int v1), (2, .int v2), (3, .int v3), (4, .int v4), (5, .int v5)] [] 41 := by
  obtain ⟨hx, hb, hr, hml, hown, hts, hlk, hgk, hA⟩ := id C
  have hK := hgk.1
  unfold f_X11_behind_b41 at h
  intro H locs ls hP hD hS hl
  refine lv_bipush (v := 8) hx hb dX11_behind_41 (by decide) ?_
  refine lv_iload_n hx hb dX11_behind_43 rfl (lv_at hl 3 rfl) ?_
  refine lv_imul hx hb dX11_behind_44 ?_
  refine lv_iload hx hb dX11_behind_45 (lv_at hl 4 rfl) ?_
  refine lv_iload_n hx hb dX11_behind_47 rfl (lv_at hl 2 rfl) ?_
  refine lv_icmp_ne (tgt := 67) hx hb dX11_behind_48 (by decide) (fun c1 => ?_) (fun c1 => ?_)
  · have h := iff_ c1 h
    refine lv_iload hx hb dX11_behind_67 (lv_at hl 5 rfl) ?_
    refine lv_iconst (v := 1) hx hb dX11_behind_69 (by decide) ?_
    refine lv_isub hx hb dX11_behind_70 ?_
    refine lv_iadd hx hb dX11_behind_71 ?_
    refine lv_istore_n (lv' := [(3, .int ((8 * v3) + (v5 - 1))), (0, .ref a_x), (1, .int v1), (2, .int v2), (4, .int v4), (5, .int v5)]) hx hb dX11_behind_72 rfl hl (by decide) rfl (fun ls hl => ?_)
    refine lv_iinc (v := v4 + (-1)) (lv' := [(4, .int (v4 + (-1))), (3, .int ((8 * v3) + (v5 - 1))), (0, .ref a_x), (1, .int v1), (2, .int v2), (5, .int v5)]) hx hb dX11_behind_73 hl (k := 4) rfl rfl (by decide) rfl (fun ls hl => ?_)
    refine lv_goto (tgt := 12) hx hb dX11_behind_76 (by decide) ?_
    exact hk_12 ((8 * v3) + (v5 - 1)) (v4 + (-1)) h H locs ls hP hD hS (lv_sub hl [2, 3, 4, 1, 0] rfl)
  · have h := ift c1 h
    refine lv_aload_n hx hb dX11_behind_51 rfl (lv_at hl 0 rfl) ?_
    refine va_get (D := D) (ci := 11) (v := .ref a_x_now) (C := RX11) (T := TX11) (N := 19) hx hb hts in_X11_behind_X11 hown hK hP 0 rfl rfl 0 (by decide) (hts _ mb_X11_behind_0) (fun _ h9 => h9) rfl dX11_behind_52 ?_
    refine lv_sipush (v := 149) hx hb dX11_behind_55 (by decide) ?_
    refine lv_iload hx hb dX11_behind_58 (lv_at hl 4 rfl) ?_
    refine lv_iadd hx hb dX11_behind_60 ?_
    obtain ⟨i2, h⟩ := gI_some h
    refine va_iald hx hb hK hP 1 0 rfl rfl i2 dX11_behind_61 ?_
    refine lv_iconst (v := 1) hx hb dX11_behind_62 (by decide) ?_
    refine lv_isub hx hb dX11_behind_63 ?_
    refine lv_goto (tgt := 71) hx hb dX11_behind_64 (by decide) ?_
    refine lv_iadd hx hb dX11_behind_71 ?_
    refine lv_istore_n (lv' := [(3, .int ((8 * v3) + ((x_now (149 + v4).toNatClampNeg) - 1))), (0, .ref a_x), (1, .int v1), (2, .int v2), (4, .int v4), (5, .int v5)]) hx hb dX11_behind_72 rfl hl (by decide) rfl (fun ls hl => ?_)
    refine lv_iinc (v := v4 + (-1)) (lv' := [(4, .int (v4 + (-1))), (3, .int ((8 * v3) + ((x_now (149 + v4).toNatClampNeg) - 1))), (0, .ref a_x), (1, .int v1), (2, .int v2), (5, .int v5)]) hx hb dX11_behind_73 hl (k := 4) rfl rfl (by decide) rfl (fun ls hl => ?_)
    refine lv_goto (tgt := 12) hx hb dX11_behind_76 (by decide) ?_
    exact hk_12 ((8 * v3) + ((x_now (149 + v4).toNatClampNeg) - 1)) (v4 + (-1)) h H locs ls hP hD hS (lv_sub hl [2, 3, 4, 1, 0] rfl)
set_option maxRecDepth 100000 in
set_option maxHeartbeats 4000000 in
theorem t_X11_behind_b12 (C : cx D cI cJ cZ cG A cX11_behind 6 (some .int) RX11 wsX11_behind p s m args meth c) (a_x a_x_now a_x_kept a_x_sortOf a_x_sizeOf a_x_sheets a_x_parts a_x_edge a_x_far a_x_lost : Nat) (x_isKept : Int32) (x_host : Int32) (x_below : Int32) (x_bestTarget : Int32) (x_high : Int64) (x_low : Int64) (x_whole : Int64) (x_tryHigh : Int64) (x_tryLow : Int64) (x_lots : Int32) (x_now : (Nat → Int32)) (N : Nat) (q : Int32) (v1 : Int32) (v2 : Int32) : ∀ (n : Nat) (v3 : Int32) (v4 : Int32), f_X11_behind_b12 N x_now v1 v2 n v3 v4 = some q → WB p l e rm_X11_behind s m args below meth c (MQ below (Qg D (some (.int q)) (w_X11_behind cI cJ cZ cG a_x a_x_now a_x_kept a_x_sortOf a_x_sizeOf a_x_sheets a_x_parts a_x_edge a_x_far a_x_lost x_isKept x_host x_below x_bestTarget x_high x_low x_whole x_tryHigh x_tryLow x_lots x_now) A) args s 0 0 A) D A 6 (w_X11_behind cI cJ cZ cG a_x a_x_now a_x_kept a_x_sortOf a_x_sizeOf a_x_sheets a_x_parts a_x_edge a_x_far a_x_lost x_isKept x_host x_below x_bestTarget x_high x_low x_whole x_tryHigh x_tryLow x_lots x_now) [(0, .ref a_x), (1, .int v1), (2, .int v2), (3, .int v3), (4, .int v4)] [] 12 := by
  obtain ⟨hx, hb, hr, hml, hown, hts, hlk, hgk, hA⟩ := id C
  have hK := hgk.1
  intro n
  induction n with
  | zero => intro v3 v4 h; cases h
  | succ n hk_12 =>
    intro v3 v4 h
    have h : g_X11_behind_b12 N x_now v1 v2 (f_X11_behind_b12 N x_now v1 v2 n) v3 v4 = some q := h
    generalize f_X11_behind_b12 N x_now v1 v2 n = k_12 at h hk_12
    unfold g_X11_behind_b12 at h
    intro H locs ls hP hD hS hl
    refine lv_iload hx hb dX11_behind_12 (lv_at hl 4 rfl) ?_
    refine lv_if_lt (tgt := 79) hx hb dX11_behind_14 (by decide) (fun c1 => ?_) (fun c1 => ?_)
    · have h := ift c1 h
      refine lv_iload_n hx hb dX11_behind_79 rfl (lv_at hl 3 rfl) ?_
      obtain rfl := Option.some.inj h
      exact g_iret C hP hD hS dX11_behind_80
    · have h := iff_ c1 h
      refine lv_iload_n hx hb dX11_behind_17 rfl (lv_at hl 1 rfl) ?_
      refine lv_iconst (v := 3) hx hb dX11_behind_18 (by decide) ?_
      refine lv_iload hx hb dX11_behind_19 (lv_at hl 4 rfl) ?_
      refine lv_imul hx hb dX11_behind_21 ?_
      refine lv_ishr hx hb dX11_behind_22 ?_
      refine lv_bipush (v := 7) hx hb dX11_behind_23 (by decide) ?_
      refine lv_iand hx hb dX11_behind_25 ?_
      refine lv_istore (lv' := [(5, .int ((v1 >>> ((3 * v4) &&& 31)) &&& 7)), (0, .ref a_x), (1, .int v1), (2, .int v2), (3, .int v3), (4, .int v4)]) hx hb dX11_behind_26 hl (by decide) rfl (fun ls hl => ?_)
      refine lv_iload hx hb dX11_behind_28 (lv_at hl 5 rfl) ?_
      refine lv_iload_n hx hb dX11_behind_30 rfl (lv_at hl 3 rfl) ?_
      refine lv_icmp_eq (tgt := 41) hx hb dX11_behind_31 (by decide) (fun c2 => ?_) (fun c2 => ?_)
      · have h := ift c2 h
        exact t_X11_behind_b41 C a_x a_x_now a_x_kept a_x_sortOf a_x_sizeOf a_x_sheets a_x_parts a_x_edge a_x_far a_x_lost x_isKept x_host x_below x_bestTarget x_high x_low x_whole x_tryHigh x_tryLow x_lots x_now N q v1 v2 v3 v4 ((v1 >>> ((3 * v4) &&& 31)) &&& 7) k_12 hk_12 h H locs ls hP hD hS (lv_sub hl [1, 2, 3, 4, 5, 0] rfl)
      · have h := iff_ c2 h
        refine lv_iload hx hb dX11_behind_34 (lv_at hl 0 rfl) ?_
        refine lv_if_ne (tgt := 41) hx hb dX11_behind_36 (by decide) (fun c3 => ?_) (fun c3 => ?_)
        · have h := iff_ c3 h
          exact t_X11_behind_b41 C a_x a_x_now a_x_kept a_x_sortOf a_x_sizeOf a_x_sheets a_x_parts a_x_edge a_x_far a_x_lost x_isKept x_host x_below x_bestTarget x_high x_low x_whole x_tryHigh x_tryLow x_lots x_now N q v1 v2 v3 v4 ((v1 >>> ((3 * v4) &&& 31)) &&& 7) k_12 hk_12 h H locs ls hP hD hS (lv_sub hl [1, 2, 3, 4, 5, 0] rfl)
        · have h := ift c3 h
          refine lv_iconst (v := (-1)) hx hb dX11_behind_39 (by decide) ?_
          obtain rfl := Option.some.inj h
          exact g_iret C hP hD hS dX11_behind_40
set_option maxRecDepth 100000 in
set_option maxHeartbeats 4000000 in
theorem c_X11_behind (l : Launch) (D : va_G) (cI cJ cZ cG : ClassId) (a_x a_x_now a_x_kept a_x_sortOf a_x_sizeOf a_x_sheets a_x_parts a_x_edge a_x_far a_x_lost : Nat) (x_isKept : Int32) (x_host : Int32) (x_below : Int32) (x_bestTarget : Int32) (x_high : Int64) (x_low : Int64) (x_whole : Int64) (x_tryHigh : Int64) (x_tryLow : Int64) (x_lots : Int32) (x_now : (Nat → Int32)) (p1 : Int32) (p2 : Int32) (N : Nat) (q : Int32) (h : f_X11_behind N x_now p1 p2 = some q) : gMet l yX11_behind wsX11_behind rm_X11_behind [.ref a_x, .int p1, .int p2] (w_X11_behind cI cJ cZ cG a_x a_x_now a_x_kept a_x_sortOf a_x_sizeOf a_x_sheets a_x_parts a_x_edge a_x_far a_x_lost x_isKept x_host x_below x_bestTarget x_high x_low x_whole x_tryHigh x_tryLow x_lots x_now) (w_X11_behind cI cJ cZ cG a_x a_x_now a_x_kept a_x_sortOf a_x_sizeOf a_x_sheets a_x_parts a_x_edge a_x_far a_x_lost x_isKept x_host x_below x_bestTarget x_high x_low x_whole x_tryHigh x_tryLow x_lots x_now) (some (.int q)) D cI cJ cZ cG := by
  refine g_enter (cc := cX11_behind) (nL := 6) (ret := (some .int)) (by decide) rfl (Nat.le_of_ble_eq_true rfl) ?_
  intro p e s m below meth c A C H locs ls hP hD hS hl
  obtain ⟨hx, hb, hr, hml, hown, hts, hlk, hgk, hA⟩ := id C
  have hK := hgk.1
  have hl : lv_has ls 6 [(0, .ref a_x), (1, .int p1), (2, .int p2)] := hl
  unfold f_X11_behind at h
  refine lv_iconst (v := 0) hx hb dX11_behind_0 (by decide) ?_
  refine lv_istore_n (lv' := [(3, .int 0), (0, .ref a_x), (1, .int p1), (2, .int p2)]) hx hb dX11_behind_1 rfl hl (by decide) rfl (fun ls hl => ?_)
  refine lv_aload_n hx hb dX11_behind_2 rfl (lv_at hl 1 rfl) ?_
  refine va_get (D := D) (ci := 11) (v := .ref a_x_now) (C := RX11) (T := TX11) (N := 19) hx hb hts in_X11_behind_X11 hown hK hP 0 rfl rfl 0 (by decide) (hts _ mb_X11_behind_0) (fun _ h9 => h9) rfl dX11_behind_3 ?_
  refine lv_iconst (v := 3) hx hb dX11_behind_6 (by decide) ?_
  refine va_iald hx hb hK hP 1 0 rfl rfl (g_lit (i := 3) (n := 194) (by decide)) dX11_behind_7 ?_
  refine W.eq (g2 := F0 m 8 ls [.int (x_now 3)]) rfl ?_
  refine lv_iconst (v := 1) hx hb dX11_behind_8 (by decide) ?_
  refine lv_isub hx hb dX11_behind_9 ?_
  refine lv_istore (lv' := [(4, .int ((x_now 3) - 1)), (3, .int 0), (0, .ref a_x), (1, .int p1), (2, .int p2)]) hx hb dX11_behind_10 hl (by decide) rfl (fun ls hl => ?_)
  exact t_X11_behind_b12 C a_x a_x_now a_x_kept a_x_sortOf a_x_sizeOf a_x_sheets a_x_parts a_x_edge a_x_far a_x_lost x_isKept x_host x_below x_bestTarget x_high x_low x_whole x_tryHigh x_tryLow x_lots x_now N q p1 p2 N 0 ((x_now 3) - 1) h H locs ls hP hD hS (lv_sub hl [2, 3, 4, 1, 0] rfl)
