variable {p : Program} {l : Launch} {e : Env} {s : State} {m : MethodId} {args : Array Value} {below : List Frame} {meth : Method} {c : Code} {D : va_G} {A : Nat → Prop} {cI cJ cZ cG : ClassId}
theorem in_X11_prizeTimesLow_X11 : ∀ w ∈ wsX110, w ∈ wsX11_prizeTimesLow := by decide +kernel
theorem mb_X11_prizeTimesLow_0 : Cond.fieldLink RX11 9 "GuardDeskModel" "now" "[I" ∈ wsX11_prizeTimesLow := List.mem_of_getElem? (i := 1) rfl
theorem mb_X11_prizeTimesLow_1 : Cond.fieldLink RX11 82 "GuardDeskModel" "bestTarget" "I" ∈ wsX11_prizeTimesLow := List.mem_of_getElem? (i := 2) rfl
theorem mb_X11_prizeTimesLow_2 : Cond.fieldLink RX11 91 "GuardDeskModel" "low" "J" ∈ wsX11_prizeTimesLow := List.mem_of_getElem? (i := 3) rfl
theorem mb_X11_prizeTimesLow_3 : Cond.fieldLink RX11 88 "GuardDeskModel" "high" "J" ∈ wsX11_prizeTimesLow := List.mem_of_getElem? (i := 4) rfl
set_option maxRecDepth 100000 in
set_option maxHeartbeats 4000000 in
theorem c_X11_prizeTimesLow (l : Launch) (D : va_G) (cI cJ cZ cG : ClassId) (a_x a_x_now a_x_kept a_x_sortOf a_x_sizeOf a_x_sheets a_x_parts a_x_edge a_x_far a_x_lost : Nat) (x_isKept : Int32) (x_host : Int32) (x_below : Int32) (x_bestTarget : Int32) (x_high : Int64) (x_low : Int64) (x_whole : Int64) (x_tryHigh : Int64) (x_tryLow : Int64) (x_lots : Int32) (x_now : (Nat → Int32)) (q : Int64) (h : f_X11_prizeTimesLow x_bestTarget x_high x_low x_now = some q) : gMet l yX11_prizeTimesLow wsX11_prizeTimesLow rm_X11_prizeTimesLow [.ref a_x] (w_X11_prizeTimesLow cI cJ cZ cG a_x a_x_now a_x_kept a_x_sortOf a_x_sizeOf a_x_sheets a_x_parts a_x_edge a_x_far a_x_lost x_isKept x_host x_below x_bestTarget x_high x_low x_whole x_tryHigh x_tryLow x_lots x_now) (w_X11_prizeTimesLow cI cJ cZ cG a_x a_x_now a_x_kept a_x_sortOf a_x_sizeOf a_x_sheets a_x_parts a_x_edge a_x_far a_x_lost x_isKept x_host x_below x_bestTarget x_high x_low x_whole x_tryHigh x_tryLow x_lots x_now) (some (.long q)) D cI cJ cZ cG := by
  refine g_enter (cc := cX11_prizeTimesLow) (nL := 1) (ret := (some .long)) (by decide) rfl (Nat.le_of_ble_eq_true rfl) ?_
  intro p e s m below meth c A C H locs ls hP hD hS hl
  obtain ⟨hx, hb, hr, hml, hown, hts, hlk, hgk, hA⟩ := id C
  have hK := hgk.1
  have hl : lv_has ls 1 [(0, .ref a_x)] := hl
  unfold f_X11_prizeTimesLow at h
  refine lv_aload_n hx hb dX11_prizeTimesLow_0 rfl (lv_at hl 0 rfl) ?_
  refine va_get (D := D) (ci := 11) (v := .ref a_x_now) (C := RX11) (T := TX11) (N := 19) hx hb hts in_X11_prizeTimesLow_X11 hown hK hP 0 rfl rfl 0 (by decide) (hts _ mb_X11_prizeTimesLow_0) (fun _ h9 => h9) rfl dX11_prizeTimesLow_1 ?_
  refine lv_bipush (v := 35) hx hb dX11_prizeTimesLow_4 (by decide) ?_
  refine lv_aload_n hx hb dX11_prizeTimesLow_6 rfl (lv_at hl 0 rfl) ?_
  refine va_get (D := D) (ci := 11) (v := .int x_bestTarget) (C := RX11) (T := TX11) (N := 19) hx hb hts in_X11_prizeTimesLow_X11 hown hK hP 0 rfl rfl 8 (by decide) (hts _ mb_X11_prizeTimesLow_1) (fun _ h9 => h9) rfl dX11_prizeTimesLow_7 ?_
  refine lv_iadd hx hb dX11_prizeTimesLow_10 ?_
  obtain ⟨i1, h⟩ := gI_some h
  refine va_iald hx hb hK hP 1 0 rfl rfl i1 dX11_prizeTimesLow_11 ?_
  refine lv_i2l (v := (x_now (35 + x_bestTarget).toNatClampNeg).toInt64) hx hb dX11_prizeTimesLow_12 rfl ?_
  refine lv_aload_n hx hb dX11_prizeTimesLow_13 rfl (lv_at hl 0 rfl) ?_
  refine va_get (D := D) (ci := 11) (v := .long x_low) (C := RX11) (T := TX11) (N := 19) hx hb hts in_X11_prizeTimesLow_X11 hown hK hP 0 rfl rfl 10 (by decide) (hts _ mb_X11_prizeTimesLow_2) (fun _ h9 => h9) rfl dX11_prizeTimesLow_14 ?_
  refine lv_lmul hx hb dX11_prizeTimesLow_17 ?_
  refine lv_aload_n hx hb dX11_prizeTimesLow_18 rfl (lv_at hl 0 rfl) ?_
  refine va_get (D := D) (ci := 11) (v := .ref a_x_now) (C := RX11) (T := TX11) (N := 19) hx hb hts in_X11_prizeTimesLow_X11 hown hK hP 0 rfl rfl 0 (by decide) (hts _ mb_X11_prizeTimesLow_0) (fun _ h9 => h9) rfl dX11_prizeTimesLow_19 ?_
  refine lv_bipush (v := 45) hx hb dX11_prizeTimesLow_22 (by decide) ?_
  refine lv_aload_n hx hb dX11_prizeTimesLow_24 rfl (lv_at hl 0 rfl) ?_
  refine va_get (D := D) (ci := 11) (v := .int x_bestTarget) (C := RX11) (T := TX11) (N := 19) hx hb hts in_X11_prizeTimesLow_X11 hown hK hP 0 rfl rfl 8 (by decide) (hts _ mb_X11_prizeTimesLow_1) (fun _ h9 => h9) rfl dX11_prizeTimesLow_25 ?_
  refine lv_iadd hx hb dX11_prizeTimesLow_28 ?_
  obtain ⟨i2, h⟩ := gI_some h
  refine va_iald hx hb hK hP 1 0 rfl rfl i2 dX11_prizeTimesLow_29 ?_
  refine lv_i2l (v := (x_now (45 + x_bestTarget).toNatClampNeg).toInt64) hx hb dX11_prizeTimesLow_30 rfl ?_
  refine lv_aload_n hx hb dX11_prizeTimesLow_31 rfl (lv_at hl 0 rfl) ?_
  refine va_get (D := D) (ci := 11) (v := .long x_high) (C := RX11) (T := TX11) (N := 19) hx hb hts in_X11_prizeTimesLow_X11 hown hK hP 0 rfl rfl 9 (by decide) (hts _ mb_X11_prizeTimesLow_3) (fun _ h9 => h9) rfl dX11_prizeTimesLow_32 ?_
  refine lv_lmul hx hb dX11_prizeTimesLow_35 ?_
  refine lv_lsub hx hb dX11_prizeTimesLow_36 ?_
  obtain rfl := Option.some.inj h
  exact g_lret C hP hD hS dX11_prizeTimesLow_37
theorem in_X11_shares_X11 : ∀ w ∈ wsX110, w ∈ wsX11_shares := by decide +kernel
theorem mb_X11_shares_0 : Cond.fieldLink RX11 9 "GuardDeskModel" "now" "[I" ∈ wsX11_shares := List.mem_of_getElem? (i := 4) rfl
theorem mb_X11_shares_1 : Cond.fieldLink RX11 91 "GuardDeskModel" "low" "J" ∈ wsX11_shares := List.mem_of_getElem? (i := 2) rfl
theorem mb_X11_shares_2 : Cond.constantLong RX11 76 (60) ∈ wsX11_shares := List.mem_of_getElem? (i := 1) rfl
theorem mb_X11_shares_3 : Cond.fieldLink RX11 29 "GuardDeskModel" "parts" "[J" ∈ wsX11_shares := List.mem_of_getElem? (i := 5) rfl
theorem mb_X11_shares_4 : Cond.fieldLink RX11 82 "GuardDeskModel" "bestTarget" "I" ∈ wsX11_shares := List.mem_of_getElem? (i := 6) rfl
theorem mb_X11_shares_5 : Cond.methodLink RX11 104 Lib.MathLoose.max_long.x ∈ wsX11_shares := List.mem_of_getElem? (i := 8) rfl
theorem mb_X11_shares_6 : Cond.static Lib.MathLoose.max_long.x ∈ wsX11_shares := List.mem_of_getElem? (i := 9) rfl
theorem mb_X11_shares_7 : Cond.initialized "java/lang/Math" ∈ wsX11_shares := List.mem_of_getElem? (i := 10) rfl
theorem mb_X11_shares_8 : Cond.code Lib.MathLoose.max_long.x Lib.MathLoose.max_long.code 4 (some .long) ∈ wsX11_shares := List.mem_of_getElem? (i := 11) rfl
theorem mb_X11_shares_9 : Cond.fieldLink RX11 88 "GuardDeskModel" "high" "J" ∈ wsX11_shares := List.mem_of_getElem? (i := 7) rfl
theorem mb_X11_shares_10 : Cond.fieldLink RX11 97 "GuardDeskModel" "whole" "J" ∈ wsX11_shares := List.mem_of_getElem? (i := 3) rfl
set_option maxRecDepth 100000 in
set_option maxHeartbeats 4000000 in
theorem t_X11_shares_b14 (C : cx D cI cJ cZ cG A cX11_shares 6 none RX11 wsX11_shares p s m args meth c) (a_x a_x_now a_x_kept a_x_sortOf a_x_sizeOf a_x_sheets a_x_parts a_x_edge a_x_far a_x_lost : Nat) (x_isKept : Int32) (x_host : Int32) (x_below : Int32) (x_bestTarget : Int32) (x_high : Int64) (x_low : Int64) (x_tryHigh : Int64) (x_tryLow : Int64) (x_lots : Int32) (x_now : (Nat → Int32)) (N : Nat) (q : Int64 × (Nat → Int64)) (x_whole : Int64) : ∀ (n : Nat) (x_parts : (Nat → Int64)) (v1 : Int32), f_X11_shares_b14 N x_bestTarget x_high x_low x_now x_whole n x_parts v1 = some q → WB p l e rm_X11_shares s m args below meth c (MQ below (Qg D none (w_X11_shares cI cJ cZ cG a_x a_x_now a_x_kept a_x_sortOf a_x_sizeOf a_x_sheets a_x_parts a_x_edge a_x_far a_x_lost x_isKept x_host x_below x_bestTarget x_high x_low q.1 x_tryHigh x_tryLow x_lots x_now q.2) A) args s 0 0 A) D A 6 (w_X11_shares cI cJ cZ cG a_x a_x_now a_x_kept a_x_sortOf a_x_sizeOf a_x_sheets a_x_parts a_x_edge a_x_far a_x_lost x_isKept x_host x_below x_bestTarget x_high x_low x_whole x_tryHigh x_tryLow x_lots x_now x_parts) [(0, .ref a_x), (1, .int v1)] [] 14 := by
  obtain ⟨hx, hb, hr, hml, hown, hts, hlk, hgk, hA⟩ := id C
  have hK := hgk.1
  intro n
  induction n with
  | zero => intro x_parts v1 h; cases h
  | succ n hk_14 =>
    intro x_parts v1 h
    have h : g_X11_shares_b14 N x_bestTarget x_high x_low x_now x_whole (f_X11_shares_b14 N x_bestTarget x_high x_low x_now x_whole n) x_parts v1 = some q := h
    generalize f_X11_shares_b14 N x_bestTarget x_high x_low x_now x_whole n = k_14 at h hk_14
    unfold g_X11_shares_b14 at h
    intro H locs ls hP hD hS hl
    refine lv_iload_n hx hb dX11_shares_14 rfl (lv_at hl 1 rfl) ?_
    refine lv_aload_n hx hb dX11_shares_15 rfl (lv_at hl 0 rfl) ?_
    refine va_get (D := D) (ci := 11) (v := .ref a_x_now) (C := RX11) (T := TX11) (N := 19) hx hb hts in_X11_shares_X11 hown hK hP 0 rfl rfl 0 (by decide) (hts _ mb_X11_shares_0) (fun _ h9 => h9) rfl dX11_shares_16 ?_
    refine lv_iconst (v := 0) hx hb dX11_shares_19 (by decide) ?_
    refine va_iald hx hb hK hP 1 0 rfl rfl (g_lit (i := 0) (n := 194) (by decide)) dX11_shares_20 ?_
    refine W.eq (g2 := F0 m 21 ls [.int (x_now 0), .int v1]) rfl ?_
    refine lv_icmp_ge (tgt := 114) hx hb dX11_shares_21 (by decide) (fun c1 => ?_) (fun c1 => ?_)
    · have h := ift c1 h
      obtain rfl := Option.some.inj h
      exact g_vret C hP hD hS dX11_shares_114
    · have h := iff_ c1 h
      refine lv_aload_n hx hb dX11_shares_24 rfl (lv_at hl 0 rfl) ?_
      refine va_get (D := D) (ci := 11) (v := .ref a_x_now) (C := RX11) (T := TX11) (N := 19) hx hb hts in_X11_shares_X11 hown hK hP 0 rfl rfl 0 (by decide) (hts _ mb_X11_shares_0) (fun _ h9 => h9) rfl dX11_shares_25 ?_
      refine lv_bipush (v := 55) hx hb dX11_shares_28 (by decide) ?_
      refine lv_iload_n hx hb dX11_shares_30 rfl (lv_at hl 1 rfl) ?_
      refine lv_iadd hx hb dX11_shares_31 ?_
      obtain ⟨i2, h⟩ := gI_some h
      refine va_iald hx hb hK hP 1 0 rfl rfl i2 dX11_shares_32 ?_
      refine lv_i2l (v := (x_now (55 + v1).toNatClampNeg).toInt64) hx hb dX11_shares_33 rfl ?_
      refine lv_aload_n hx hb dX11_shares_34 rfl (lv_at hl 0 rfl) ?_
      refine va_get (D := D) (ci := 11) (v := .long x_low) (C := RX11) (T := TX11) (N := 19) hx hb hts in_X11_shares_X11 hown hK hP 0 rfl rfl 10 (by decide) (hts _ mb_X11_shares_1) (fun _ h9 => h9) rfl dX11_shares_35 ?_
      refine lv_lmul hx hb dX11_shares_38 ?_
      refine lv_lstore_n (lv' := [(2, .long (((x_now (55 + v1).toNatClampNeg).toInt64) * x_low)), (0, .ref a_x), (1, .int v1)]) hx hb dX11_shares_39 rfl hl (by decide) rfl (fun ls hl => ?_)
      refine lv_ldc2 (v := 60) hx hb hown (hts _ mb_X11_shares_2) dX11_shares_40 ?_
      refine lv_aload_n hx hb dX11_shares_43 rfl (lv_at hl 1 rfl) ?_
      refine va_get (D := D) (ci := 11) (v := .ref a_x_now) (C := RX11) (T := TX11) (N := 19) hx hb hts in_X11_shares_X11 hown hK hP 0 rfl rfl 0 (by decide) (hts _ mb_X11_shares_0) (fun _ h9 => h9) rfl dX11_shares_44 ?_
      refine lv_bipush (v := 45) hx hb dX11_shares_47 (by decide) ?_
      refine lv_iload_n hx hb dX11_shares_49 rfl (lv_at hl 2 rfl) ?_
      refine lv_iadd hx hb dX11_shares_50 ?_
      obtain ⟨i3, h⟩ := gI_some h
      refine va_iald hx hb hK hP 1 0 rfl rfl i3 dX11_shares_51 ?_
      refine lv_i2l (v := (x_now (45 + v1).toNatClampNeg).toInt64) hx hb dX11_shares_52 rfl ?_
      obtain ⟨z4, h⟩ := gDl_some h
      refine lv_ldiv hx hb dX11_shares_53 z4 ?_
      refine lv_aload_n hx hb dX11_shares_54 rfl (lv_at hl 1 rfl) ?_
      refine va_get (D := D) (ci := 11) (v := .ref a_x_now) (C := RX11) (T := TX11) (N := 19) hx hb hts in_X11_shares_X11 hown hK hP 0 rfl rfl 0 (by decide) (hts _ mb_X11_shares_0) (fun _ h9 => h9) rfl dX11_shares_55 ?_
      refine lv_bipush (v := 35) hx hb dX11_shares_58 (by decide) ?_
      refine lv_iload_n hx hb dX11_shares_60 rfl (lv_at hl 2 rfl) ?_
      refine lv_iadd hx hb dX11_shares_61 ?_
      obtain ⟨i5, h⟩ := gI_some h
      refine va_iald hx hb hK hP 1 0 rfl rfl i5 dX11_shares_62 ?_
      refine lv_i2l (v := (x_now (35 + v1).toNatClampNeg).toInt64) hx hb dX11_shares_63 rfl ?_
      refine lv_aload_n hx hb dX11_shares_64 rfl (lv_at hl 1 rfl) ?_
      refine va_get (D := D) (ci := 11) (v := .long x_low) (C := RX11) (T := TX11) (N := 19) hx hb hts in_X11_shares_X11 hown hK hP 0 rfl rfl 10 (by decide) (hts _ mb_X11_shares_1) (fun _ h9 => h9) rfl dX11_shares_65 ?_
      refine lv_lmul hx hb dX11_shares_68 ?_
      refine lv_aload_n hx hb dX11_shares_69 rfl (lv_at hl 1 rfl) ?_
      obtain ⟨q6, e6, h⟩ := bd_some h
      refine g_callV (index := 100) (maxL := 1) (n := 0) (As := []) (rest := [.long (((x_now (35 + v1).toNatClampNeg).toInt64) * x_low), .long (60 / ((x_now (45 + v1).toNatClampNeg).toInt64))]) (st1 := [.long q6, .long (((x_now (35 + v1).toNatClampNeg).toInt64) * x_low), .long (60 / ((x_now (45 + v1).toNatClampNeg).toInt64))]) (C1 := RX11) (T1 := TX11) (N1 := 19) (ws2 := (w_X11_shares cI cJ cZ cG a_x a_x_now a_x_kept a_x_sortOf a_x_sizeOf a_x_sheets a_x_parts a_x_edge a_x_far a_x_lost x_isKept x_host x_below x_bestTarget x_high x_low x_whole x_tryHigh x_tryLow x_lots x_now x_parts)) C hP hD hS hl.1 11 0 (c_X11_prizeTimesLow l D cI cJ cZ cG a_x a_x_now a_x_kept a_x_sortOf a_x_sizeOf a_x_sheets a_x_parts a_x_edge a_x_far a_x_lost x_isKept x_host x_below x_bestTarget x_high x_low x_whole x_tryHigh x_tryLow x_lots x_now q6 e6) gX11_shares_X11_prizeTimesLow rfl rfl rfl (by decide +kernel) ⟨Nat.le_of_ble_eq_true rfl, Nat.le_of_ble_eq_true rfl⟩ rfl rfl rfl (Nat.le_of_ble_eq_true rfl) rfl dX11_shares_70 [0, 1] [2] [1, 2, 0] rfl rfl rfl rfl (by decide) rfl rfl rfl (fun H locs hP hD hS => ?_)
      refine lv_lsub hx hb dX11_shares_73 ?_
      refine lv_lmul hx hb dX11_shares_74 ?_
      refine lv_lstore (lv' := [(4, .long ((60 / ((x_now (45 + v1).toNatClampNeg).toInt64)) * ((((x_now (35 + v1).toNatClampNeg).toInt64) * x_low) - q6))), (2, .long (((x_now (55 + v1).toNatClampNeg).toInt64) * x_low)), (0, .ref a_x), (1, .int v1)]) hx hb dX11_shares_75 hl (by decide) rfl (fun ls hl => ?_)
      refine lv_aload_n hx hb dX11_shares_77 rfl (lv_at hl 2 rfl) ?_
      refine va_get (D := D) (ci := 11) (v := .ref a_x_parts) (C := RX11) (T := TX11) (N := 19) hx hb hts in_X11_shares_X11 hown hK hP 0 rfl rfl 12 (by decide) (hts _ mb_X11_shares_3) (fun _ h9 => h9) rfl dX11_shares_78 ?_
      refine lv_iload_n hx hb dX11_shares_81 rfl (lv_at hl 3 rfl) ?_
      refine lv_iload_n hx hb dX11_shares_82 rfl (lv_at hl 3 rfl) ?_
      refine lv_aload_n hx hb dX11_shares_83 rfl (lv_at hl 2 rfl) ?_
      refine va_get (D := D) (ci := 11) (v := .int x_bestTarget) (C := RX11) (T := TX11) (N := 19) hx hb hts in_X11_shares_X11 hown hK hP 0 rfl rfl 8 (by decide) (hts _ mb_X11_shares_4) (fun _ h9 => h9) rfl dX11_shares_84 ?_
      refine lv_icmp_ne (tgt := 101) hx hb dX11_shares_87 (by decide) (fun c7 => ?_) (fun c7 => ?_)
      · have h := iff_ c7 h
        refine lv_lload_n hx hb dX11_shares_101 rfl (lv_at hl 1 rfl) ?_
        refine lv_lload hx hb dX11_shares_102 (lv_at hl 0 rfl) ?_
        refine va_mmax_long hx hb (hml.trans hl.1.symm) hown (hts _ mb_X11_shares_5) (hts _ mb_X11_shares_6) (hts _ mb_X11_shares_7) (hts _ mb_X11_shares_8) (Nat.le_of_ble_eq_true rfl) (Nat.le_of_ble_eq_true rfl) (Nat.zero_le _) (Nat.zero_le _) dX11_shares_104 ?_
        obtain ⟨i8, h⟩ := gI_some h
        refine va_last hx hb hK hP hD hS 2 1 rfl rfl i8 dX11_shares_107 (fun H locs hP hD hS => ?_)
        have hP : va_P D vwCl (w_X11_shares cI cJ cZ cG a_x a_x_now a_x_kept a_x_sortOf a_x_sizeOf a_x_sheets a_x_parts a_x_edge a_x_far a_x_lost x_isKept x_host x_below x_bestTarget x_high x_low x_whole x_tryHigh x_tryLow x_lots x_now (vp_updL x_parts v1.toNatClampNeg (if ((60 / ((x_now (45 + v1).toNatClampNeg).toInt64)) * ((((x_now (35 + v1).toNatClampNeg).toInt64) * x_low) - q6)) < (((x_now (55 + v1).toNatClampNeg).toInt64) * x_low) then (((x_now (55 + v1).toNatClampNeg).toInt64) * x_low) else ((60 / ((x_now (45 + v1).toNatClampNeg).toInt64)) * ((((x_now (35 + v1).toNatClampNeg).toInt64) * x_low) - q6))))) H := hP
        have hD : va_D A (w_X11_shares cI cJ cZ cG a_x a_x_now a_x_kept a_x_sortOf a_x_sizeOf a_x_sheets a_x_parts a_x_edge a_x_far a_x_lost x_isKept x_host x_below x_bestTarget x_high x_low x_whole x_tryHigh x_tryLow x_lots x_now (vp_updL x_parts v1.toNatClampNeg (if ((60 / ((x_now (45 + v1).toNatClampNeg).toInt64)) * ((((x_now (35 + v1).toNatClampNeg).toInt64) * x_low) - q6)) < (((x_now (55 + v1).toNatClampNeg).toInt64) * x_low) then (((x_now (55 + v1).toNatClampNeg).toInt64) * x_low) else ((60 / ((x_now (45 + v1).toNatClampNeg).toInt64)) * ((((x_now (35 + v1).toNatClampNeg).toInt64) * x_low) - q6))))) := hD
        refine lv_iinc (v := v1 + 1) (lv' := [(1, .int (v1 + 1)), (4, .long ((60 / ((x_now (45 + v1).toNatClampNeg).toInt64)) * ((((x_now (35 + v1).toNatClampNeg).toInt64) * x_low) - q6))), (2, .long (((x_now (55 + v1).toNatClampNeg).toInt64) * x_low)), (0, .ref a_x)]) hx hb dX11_shares_108 hl (k := 3) rfl rfl (by decide) rfl (fun ls hl => ?_)
        refine lv_goto (tgt := 14) hx hb dX11_shares_111 (by decide) ?_
        exact hk_14 (vp_updL x_parts v1.toNatClampNeg (if ((60 / ((x_now (45 + v1).toNatClampNeg).toInt64)) * ((((x_now (35 + v1).toNatClampNeg).toInt64) * x_low) - q6)) < (((x_now (55 + v1).toNatClampNeg).toInt64) * x_low) then (((x_now (55 + v1).toNatClampNeg).toInt64) * x_low) else ((60 / ((x_now (45 + v1).toNatClampNeg).toInt64)) * ((((x_now (35 + v1).toNatClampNeg).toInt64) * x_low) - q6)))) (v1 + 1) h H locs ls hP hD hS (lv_sub hl [3, 0] rfl)
      · have h := ift c7 h
        refine lv_ldc2 (v := 60) hx hb hown (hts _ mb_X11_shares_2) dX11_shares_90 ?_
        refine lv_aload_n hx hb dX11_shares_93 rfl (lv_at hl 2 rfl) ?_
        refine va_get (D := D) (ci := 11) (v := .long x_high) (C := RX11) (T := TX11) (N := 19) hx hb hts in_X11_shares_X11 hown hK hP 0 rfl rfl 9 (by decide) (hts _ mb_X11_shares_9) (fun _ h9 => h9) rfl dX11_shares_94 ?_
        refine lv_lmul hx hb dX11_shares_97 ?_
        refine lv_goto (tgt := 107) hx hb dX11_shares_98 (by decide) ?_
        obtain ⟨i9, h⟩ := gI_some h
        refine va_last hx hb hK hP hD hS 2 1 rfl rfl i9 dX11_shares_107 (fun H locs hP hD hS => ?_)
        have hP : va_P D vwCl (w_X11_shares cI cJ cZ cG a_x a_x_now a_x_kept a_x_sortOf a_x_sizeOf a_x_sheets a_x_parts a_x_edge a_x_far a_x_lost x_isKept x_host x_below x_bestTarget x_high x_low x_whole x_tryHigh x_tryLow x_lots x_now (vp_updL x_parts v1.toNatClampNeg (60 * x_high))) H := hP
        have hD : va_D A (w_X11_shares cI cJ cZ cG a_x a_x_now a_x_kept a_x_sortOf a_x_sizeOf a_x_sheets a_x_parts a_x_edge a_x_far a_x_lost x_isKept x_host x_below x_bestTarget x_high x_low x_whole x_tryHigh x_tryLow x_lots x_now (vp_updL x_parts v1.toNatClampNeg (60 * x_high))) := hD
        refine lv_iinc (v := v1 + 1) (lv' := [(1, .int (v1 + 1)), (4, .long ((60 / ((x_now (45 + v1).toNatClampNeg).toInt64)) * ((((x_now (35 + v1).toNatClampNeg).toInt64) * x_low) - q6))), (2, .long (((x_now (55 + v1).toNatClampNeg).toInt64) * x_low)), (0, .ref a_x)]) hx hb dX11_shares_108 hl (k := 3) rfl rfl (by decide) rfl (fun ls hl => ?_)
        refine lv_goto (tgt := 14) hx hb dX11_shares_111 (by decide) ?_
        exact hk_14 (vp_updL x_parts v1.toNatClampNeg (60 * x_high)) (v1 + 1) h H locs ls hP hD hS (lv_sub hl [3, 0] rfl)
set_option maxRecDepth 100000 in
set_option maxHeartbeats 4000000 in
theorem c_X11_shares (l : Launch) (D : va_G) (cI cJ cZ cG : ClassId) (a_x a_x_now a_x_kept a_x_sortOf a_x_sizeOf a_x_sheets a_x_parts a_x_edge a_x_far a_x_lost : Nat) (x_isKept : Int32) (x_host : Int32) (x_below : Int32) (x_bestTarget : Int32) (x_high : Int64) (x_low : Int64) (x_whole : Int64) (x_tryHigh : Int64) (x_tryLow : Int64) (x_lots : Int32) (x_now : (Nat → Int32)) (x_parts : (Nat → Int64)) (N : Nat) (q : Int64 × (Nat → Int64)) (h : f_X11_shares N x_bestTarget x_high x_low x_whole x_now x_parts = some q) : gMet l yX11_shares wsX11_shares rm_X11_shares [.ref a_x] (w_X11_shares cI cJ cZ cG a_x a_x_now a_x_kept a_x_sortOf a_x_sizeOf a_x_sheets a_x_parts a_x_edge a_x_far a_x_lost x_isKept x_host x_below x_bestTarget x_high x_low x_whole x_tryHigh x_tryLow x_lots x_now x_parts) (w_X11_shares cI cJ cZ cG a_x a_x_now a_x_kept a_x_sortOf a_x_sizeOf a_x_sheets a_x_parts a_x_edge a_x_far a_x_lost x_isKept x_host x_below x_bestTarget x_high x_low q.1 x_tryHigh x_tryLow x_lots x_now q.2) none D cI cJ cZ cG := by
  refine g_enter (cc := cX11_shares) (nL := 6) (ret := none) (by decide) rfl (Nat.le_of_ble_eq_true rfl) ?_
  intro p e s m below meth c A C H locs ls hP hD hS hl
  obtain ⟨hx, hb, hr, hml, hown, hts, hlk, hgk, hA⟩ := id C
  have hK := hgk.1
  have hl : lv_has ls 6 [(0, .ref a_x)] := hl
  unfold f_X11_shares at h
  refine lv_aload_n hx hb dX11_shares_0 rfl (lv_at hl 0 rfl) ?_
  refine lv_ldc2 (v := 60) hx hb hown (hts _ mb_X11_shares_2) dX11_shares_1 ?_
  refine lv_aload_n hx hb dX11_shares_4 rfl (lv_at hl 0 rfl) ?_
  refine va_get (D := D) (ci := 11) (v := .long x_low) (C := RX11) (T := TX11) (N := 19) hx hb hts in_X11_shares_X11 hown hK hP 0 rfl rfl 10 (by decide) (hts _ mb_X11_shares_1) (fun _ h9 => h9) rfl dX11_shares_5 ?_
  refine lv_lmul hx hb dX11_shares_8 ?_
  refine va_put (D := D) (ci := 11) (v := .long (60 * x_low)) (ty := .long) (C := RX11) (T := TX11) (N := 19) hx hb hts in_X11_shares_X11 tyX11 tyX11_ok nmX11 hown hK hP hD hS 0 rfl rfl 11 (by decide) (hts _ mb_X11_shares_10) (fun _ h9 => h9) rfl (by decide +kernel) rfl rfl (Nat.le_of_ble_eq_true rfl) dX11_shares_9 (fun H locs hP hD hS => ?_)
  have hP : va_P D vwCl (w_X11_shares cI cJ cZ cG a_x a_x_now a_x_kept a_x_sortOf a_x_sizeOf a_x_sheets a_x_parts a_x_edge a_x_far a_x_lost x_isKept x_host x_below x_bestTarget x_high x_low (60 * x_low) x_tryHigh x_tryLow x_lots x_now x_parts) H := hP
  have hD : va_D A (w_X11_shares cI cJ cZ cG a_x a_x_now a_x_kept a_x_sortOf a_x_sizeOf a_x_sheets a_x_parts a_x_edge a_x_far a_x_lost x_isKept x_host x_below x_bestTarget x_high x_low (60 * x_low) x_tryHigh x_tryLow x_lots x_now x_parts) := hD
  refine lv_iconst (v := 0) hx hb dX11_shares_12 (by decide) ?_
  refine lv_istore_n (lv' := [(1, .int 0), (0, .ref a_x)]) hx hb dX11_shares_13 rfl hl (by decide) rfl (fun ls hl => ?_)
  exact t_X11_shares_b14 C a_x a_x_now a_x_kept a_x_sortOf a_x_sizeOf a_x_sheets a_x_parts a_x_edge a_x_far a_x_lost x_isKept x_host x_below x_bestTarget x_high x_low x_tryHigh x_tryLow x_lots x_now N q (60 * x_low) N x_parts 0 h H locs ls hP hD hS (lv_sub hl [1, 0] rfl)
theorem in_X11_findBest_X11 : ∀ w ∈ wsX110, w ∈ wsX11_findBest := by decide +kernel
theorem mb_X11_findBest_0 : Cond.fieldLink RX11 82 "GuardDeskModel" "bestTarget" "I" ∈ wsX11_findBest := List.mem_of_getElem? (i := 1) rfl
theorem mb_X11_findBest_1 : Cond.fieldLink RX11 69 "GuardDeskModel" "tryLow" "J" ∈ wsX11_findBest := List.mem_of_getElem? (i := 3) rfl
theorem mb_X11_findBest_2 : Cond.fieldLink RX11 73 "GuardDeskModel" "tryHigh" "J" ∈ wsX11_findBest := List.mem_of_getElem? (i := 4) rfl
theorem mb_X11_findBest_3 : Cond.fieldLink RX11 88 "GuardDeskModel" "high" "J" ∈ wsX11_findBest := List.mem_of_getElem? (i := 5) rfl
theorem mb_X11_findBest_4 : Cond.fieldLink RX11 91 "GuardDeskModel" "low" "J" ∈ wsX11_findBest := List.mem_of_getElem? (i := 6) rfl
theorem mb_X11_findBest_5 : Cond.fieldLink RX11 9 "GuardDeskModel" "now" "[I" ∈ wsX11_findBest := List.mem_of_getElem? (i := 2) rfl
set_option maxRecDepth 100000 in
set_option maxHeartbeats 4000000 in
theorem t_X11_findBest_b149 (C : cx D cI cJ cZ cG A cX11_findBest 8 (some .boolean) RX11 wsX11_findBest p s m args meth c) (a_x a_x_now a_x_kept a_x_sortOf a_x_sizeOf a_x_sheets a_x_parts a_x_edge a_x_far a_x_lost : Nat) (x_isKept : Int32) (x_host : Int32) (x_below : Int32) (x_lots : Int32) (x_now : (Nat → Int32)) (N : Nat) (q : Int32 × Int32 × Int64 × Int64 × Int64 × Int64 × Int64 × (Nat → Int64)) (x_bestTarget : Int32) (x_high : Int64) (x_low : Int64) (x_whole : Int64) (x_tryHigh : Int64) (x_tryLow : Int64) (x_parts : (Nat → Int64)) (h : f_X11_findBest_b149 N x_now x_bestTarget x_high x_low x_whole x_tryHigh x_tryLow x_parts = some q) : WB p l e rm_X11_findBest s m args below meth c (MQ below (Qg D (some (.int q.1)) (w_X11_findBest cI cJ cZ cG a_x a_x_now a_x_kept a_x_sortOf a_x_sizeOf a_x_sheets a_x_parts a_x_edge a_x_far a_x_lost x_isKept x_host x_below q.2.1 q.2.2.1 q.2.2.2.1 q.2.2.2.2.1 q.2.2.2.2.2.1 q.2.2.2.2.2.2.1 x_lots x_now q.2.2.2.2.2.2.2) A) args s 0 0 A) D A 8 (w_X11_findBest cI cJ cZ cG a_x a_x_now a_x_kept a_x_sortOf a_x_sizeOf a_x_sheets a_x_parts a_x_edge a_x_far a_x_lost x_isKept x_host x_below x_bestTarget x_high x_low x_whole x_tryHigh x_tryLow x_lots x_now x_parts) [(0, .ref a_x)] [] 149 := by
  obtain ⟨hx, hb, hr, hml, hown, hts, hlk, hgk, hA⟩ := id C
  have hK := hgk.1
  unfold f_X11_findBest_b149 at h
  intro H locs ls hP hD hS hl
  refine lv_aload_n hx hb dX11_findBest_149 rfl (lv_at hl 0 rfl) ?_
  refine va_get (D := D) (ci := 11) (v := .int x_bestTarget) (C := RX11) (T := TX11) (N := 19) hx hb hts in_X11_findBest_X11 hown hK hP 0 rfl rfl 8 (by decide) (hts _ mb_X11_findBest_0) (fun _ h9 => h9) rfl dX11_findBest_150 ?_
  refine lv_if_lt (tgt := 160) hx hb dX11_findBest_153 (by decide) (fun c1 => ?_) (fun c1 => ?_)
  · have h := ift c1 h
    refine lv_iconst (v := 0) hx hb dX11_findBest_160 (by decide) ?_
    obtain rfl := Option.some.inj h
    exact g_zret C hP hD hS (nz_b (Or.inl rfl)) dX11_findBest_161
  · have h := iff_ c1 h
    refine lv_iconst (v := 1) hx hb dX11_findBest_156 (by decide) ?_
    refine lv_goto (tgt := 161) hx hb dX11_findBest_157 (by decide) ?_
    obtain rfl := Option.some.inj h
    exact g_zret C hP hD hS (nz_b (Or.inr rfl)) dX11_findBest_161
set_option maxRecDepth 100000 in
set_option maxHeartbeats 4000000 in
theorem t_X11_findBest_b102 (C : cx D cI cJ cZ cG A cX11_findBest 8 (some .boolean) RX11 wsX11_findBest p s m args meth c) (a_x a_x_now a_x_kept a_x_sortOf a_x_sizeOf a_x_sheets a_x_parts a_x_edge a_x_far a_x_lost : Nat) (x_isKept : Int32) (x_host : Int32) (x_below : Int32) (x_lots : Int32) (x_now : (Nat → Int32)) (N : Nat) (q : Int32 × Int32 × Int64 × Int64 × Int64 × Int64 × Int64 × (Nat → Int64)) (x_bestTarget : Int32) (x_high : Int64) (x_low : Int64) (x_whole : Int64) (x_tryHigh : Int64) (x_tryLow : Int64) (x_parts : (Nat → Int64)) (v5 : Int32) (v6 : Int64) (k_12 : Int32 → Int64 → Int64 → Int64 → Int64 → Int64 → Int64 → Int32 → Option (Int32 × Int32 × Int64 × Int64 × Int64 × Int64 × Int64 × (Nat → Int64))) (hk_12 : ∀ (x_bestTarget : Int32) (x_high : Int64) (x_low : Int64) (x_tryHigh : Int64) (x_tryLow : Int64) (v1 : Int64) (v3 : Int64) (v5 : Int32), k_12 x_bestTarget x_high x_low x_tryHigh x_tryLow v1 v3 v5 = some q → WB p l e rm_X11_findBest s m args below meth c (MQ below (Qg D (some (.int q.1)) (w_X11_findBest cI cJ cZ cG a_x a_x_now a_x_kept a_x_sortOf a_x_sizeOf a_x_sheets a_x_parts a_x_edge a_x_far a_x_lost x_isKept x_host x_below q.2.1 q.2.2.1 q.2.2.2.1 q.2.2.2.2.1 q.2.2.2.2.2.1 q.2.2.2.2.2.2.1 x_lots x_now q.2.2.2.2.2.2.2) A) args s 0 0 A) D A 8 (w_X11_findBest cI cJ cZ cG a_x a_x_now a_x_kept a_x_sortOf a_x_sizeOf a_x_sheets a_x_parts a_x_edge a_x_far a_x_lost x_isKept x_host x_below x_bestTarget x_high x_low x_whole x_tryHigh x_tryLow x_lots x_now x_parts) [(0, .ref a_x), (1, .long v1), (3, .long v3), (5, .int v5)] [] 12) (h : f_X11_findBest_b102 N x_now k_12 x_bestTarget x_high x_low x_whole x_tryHigh x_tryLow x_parts v5 v6 = some q) : WB p l e rm_X11_findBest s m args below meth c (MQ below (Qg D (some (.int q.1)) (w_X11_findBest cI cJ cZ cG a_x a_x_now a_x_kept a_x_sortOf a_x_sizeOf a_x_sheets a_x_parts a_x_edge a_x_far a_x_lost x_isKept x_host x_below q.2.1 q.2.2.1 q.2.2.2.1 q.2.2.2.2.1 q.2.2.2.2.2.1 q.2.2.2.2.2.2.1 x_lots x_now q.2.2.2.2.2.2.2) A) args s 0 0 A) D A 8 (w_X11_findBest cI cJ cZ cG a_x a_x_now a_x_kept a_x_sortOf a_x_sizeOf a_x_sheets a_x_parts a_x_edge a_x_far a_x_lost x_isKept x_host x_below x_bestTarget x_high x_low x_whole x_tryHigh x_tryLow x_lots x_now x_parts) [(0, .ref a_x), (5, .int v5), (6, .long v6)] [] 102 := by
  obtain ⟨hx, hb, hr, hml, hown, hts, hlk, hgk, hA⟩ := id C
  have hK := hgk.1
  unfold f_X11_findBest_b102 at h
  intro H locs ls hP hD hS hl
  refine lv_aload_n hx hb dX11_findBest_102 rfl (lv_at hl 0 rfl) ?_
  refine lv_iload hx hb dX11_findBest_103 (lv_at hl 1 rfl) ?_
  refine va_put (D := D) (ci := 11) (v := .int v5) (ty := .int) (C := RX11) (T := TX11) (N := 19) hx hb hts in_X11_findBest_X11 tyX11 tyX11_ok nmX11 hown hK hP hD hS 0 rfl rfl 8 (by decide) (hts _ mb_X11_findBest_0) (fun _ h9 => h9) rfl (by decide +kernel) rfl rfl (Nat.le_of_ble_eq_true rfl) dX11_findBest_105 (fun H locs hP hD hS => ?_)
  have hP : va_P D vwCl (w_X11_findBest cI cJ cZ cG a_x a_x_now a_x_kept a_x_sortOf a_x_sizeOf a_x_sheets a_x_parts a_x_edge a_x_far a_x_lost x_isKept x_host x_below v5 x_high x_low x_whole x_tryHigh x_tryLow x_lots x_now x_parts) H := hP
  have hD : va_D A (w_X11_findBest cI cJ cZ cG a_x a_x_now a_x_kept a_x_sortOf a_x_sizeOf a_x_sheets a_x_parts a_x_edge a_x_far a_x_lost x_isKept x_host x_below v5 x_high x_low x_whole x_tryHigh x_tryLow x_lots x_now x_parts) := hD
  refine lv_lload hx hb dX11_findBest_108 (lv_at hl 2 rfl) ?_
  refine lv_lstore_n (lv' := [(1, .long v6), (0, .ref a_x), (5, .int v5), (6, .long v6)]) hx hb dX11_findBest_110 rfl hl (by decide) rfl (fun ls hl => ?_)
  refine lv_aload_n hx hb dX11_findBest_111 rfl (lv_at hl 1 rfl) ?_
  refine va_get (D := D) (ci := 11) (v := .long x_tryLow) (C := RX11) (T := TX11) (N := 19) hx hb hts in_X11_findBest_X11 hown hK hP 0 rfl rfl 14 (by decide) (hts _ mb_X11_findBest_1) (fun _ h9 => h9) rfl dX11_findBest_112 ?_
  refine lv_lstore_n (lv' := [(3, .long x_tryLow), (1, .long v6), (0, .ref a_x), (5, .int v5), (6, .long v6)]) hx hb dX11_findBest_115 rfl hl (by decide) rfl (fun ls hl => ?_)
  refine lv_aload_n hx hb dX11_findBest_116 rfl (lv_at hl 2 rfl) ?_
  refine lv_aload_n hx hb dX11_findBest_117 rfl (lv_at hl 2 rfl) ?_
  refine va_get (D := D) (ci := 11) (v := .long x_tryHigh) (C := RX11) (T := TX11) (N := 19) hx hb hts in_X11_findBest_X11 hown hK hP 0 rfl rfl 13 (by decide) (hts _ mb_X11_findBest_2) (fun _ h9 => h9) rfl dX11_findBest_118 ?_
  refine va_put (D := D) (ci := 11) (v := .long x_tryHigh) (ty := .long) (C := RX11) (T := TX11) (N := 19) hx hb hts in_X11_findBest_X11 tyX11 tyX11_ok nmX11 hown hK hP hD hS 0 rfl rfl 9 (by decide) (hts _ mb_X11_findBest_3) (fun _ h9 => h9) rfl (by decide +kernel) rfl rfl (Nat.le_of_ble_eq_true rfl) dX11_findBest_121 (fun H locs hP hD hS => ?_)
  have hP : va_P D vwCl (w_X11_findBest cI cJ cZ cG a_x a_x_now a_x_kept a_x_sortOf a_x_sizeOf a_x_sheets a_x_parts a_x_edge a_x_far a_x_lost x_isKept x_host x_below v5 x_tryHigh x_low x_whole x_tryHigh x_tryLow x_lots x_now x_parts) H := hP
  have hD : va_D A (w_X11_findBest cI cJ cZ cG a_x a_x_now a_x_kept a_x_sortOf a_x_sizeOf a_x_sheets a_x_parts a_x_edge a_x_far a_x_lost x_isKept x_host x_below v5 x_tryHigh x_low x_whole x_tryHigh x_tryLow x_lots x_now x_parts) := hD
  refine lv_aload_n hx hb dX11_findBest_124 rfl (lv_at hl 2 rfl) ?_
  refine lv_aload_n hx hb dX11_findBest_125 rfl (lv_at hl 2 rfl) ?_
  refine va_get (D := D) (ci := 11) (v := .long x_tryLow) (C := RX11) (T := TX11) (N := 19) hx hb hts in_X11_findBest_X11 hown hK hP 0 rfl rfl 14 (by decide) (hts _ mb_X11_findBest_1) (fun _ h9 => h9) rfl dX11_findBest_126 ?_
  refine va_put (D := D) (ci := 11) (v := .long x_tryLow) (ty := .long) (C := RX11) (T := TX11) (N := 19) hx hb hts in_X11_findBest_X11 tyX11 tyX11_ok nmX11 hown hK hP hD hS 0 rfl rfl 10 (by decide) (hts _ mb_X11_findBest_4) (fun _ h9 => h9) rfl (by decide +kernel) rfl rfl (Nat.le_of_ble_eq_true rfl) dX11_findBest_129 (fun H locs hP hD hS => ?_)
  have hP : va_P D vwCl (w_X11_findBest cI cJ cZ cG a_x a_x_now a_x_kept a_x_sortOf a_x_sizeOf a_x_sheets a_x_parts a_x_edge a_x_far a_x_lost x_isKept x_host x_below v5 x_tryHigh x_tryLow x_whole x_tryHigh x_tryLow x_lots x_now x_parts) H := hP
  have hD : va_D A (w_X11_findBest cI cJ cZ cG a_x a_x_now a_x_kept a_x_sortOf a_x_sizeOf a_x_sheets a_x_parts a_x_edge a_x_far a_x_lost x_isKept x_host x_below v5 x_tryHigh x_tryLow x_whole x_tryHigh x_tryLow x_lots x_now x_parts) := hD
  refine lv_iinc (v := v5 + 1) (lv' := [(5, .int (v5 + 1)), (3, .long x_tryLow), (1, .long v6), (0, .ref a_x), (6, .long v6)]) hx hb dX11_findBest_132 hl (k := 3) rfl rfl (by decide) rfl (fun ls hl => ?_)
  refine lv_goto (tgt := 12) hx hb dX11_findBest_135 (by decide) ?_
  exact hk_12 v5 x_tryHigh x_tryLow x_tryHigh x_tryLow v6 x_tryLow (v5 + 1) h H locs ls hP hD hS (lv_sub hl [3, 2, 1, 0] rfl)
set_option maxRecDepth 100000 in
set_option maxHeartbeats 4000000 in
theorem t_X11_findBest_b12 (C : cx D cI cJ cZ cG A cX11_findBest 8 (some .boolean) RX11 wsX11_findBest p s m args meth c) (a_x a_x_now a_x_kept a_x_sortOf a_x_sizeOf a_x_sheets a_x_parts a_x_edge a_x_far a_x_lost : Nat) (x_isKept : Int32) (x_host : Int32) (x_below : Int32) (x_lots : Int32) (x_now : (Nat → Int32)) (N : Nat) (q : Int32 × Int32 × Int64 × Int64 × Int64 × Int64 × Int64 × (Nat → Int64)) (x_whole : Int64) (x_parts : (Nat → Int64)) : ∀ (n : Nat) (x_bestTarget : Int32) (x_high : Int64) (x_low : Int64) (x_tryHigh : Int64) (x_tryLow : Int64) (v1 : Int64) (v3 : Int64) (v5 : Int32), f_X11_findBest_b12 N x_now x_whole x_parts n x_bestTarget x_high x_low x_tryHigh x_tryLow v1 v3 v5 = some q → WB p l e rm_X11_findBest s m args below meth c (MQ below (Qg D (some (.int q.1)) (w_X11_findBest cI cJ cZ cG a_x a_x_now a_x_kept a_x_sortOf a_x_sizeOf a_x_sheets a_x_parts a_x_edge a_x_far a_x_lost x_isKept x_host x_below q.2.1 q.2.2.1 q.2.2.2.1 q.2.2.2.2.1 q.2.2.2.2.2.1 q.2.2.2.2.2.2.1 x_lots x_now q.2.2.2.2.2.2.2) A) args s 0 0 A) D A 8 (w_X11_findBest cI cJ cZ cG a_x a_x_now a_x_kept a_x_sortOf a_x_sizeOf a_x_sheets a_x_parts a_x_edge a_x_far a_x_lost x_isKept x_host x_below x_bestTarget x_high x_low x_whole x_tryHigh x_tryLow x_lots x_now x_parts) [(0, .ref a_x), (1, .long v1), (3, .long v3), (5, .int v5)] [] 12 := by
  obtain ⟨hx, hb, hr, hml, hown, hts, hlk, hgk, hA⟩ := id C
  have hK := hgk.1
  intro n
  induction n with
  | zero => intro x_bestTarget x_high x_low x_tryHigh x_tryLow v1 v3 v5 h; cases h
  | succ n hk_12 =>
    intro x_bestTarget x_high x_low x_tryHigh x_tryLow v1 v3 v5 h
    have h : g_X11_findBest_b12 N x_now x_whole x_parts (f_X11_findBest_b12 N x_now x_whole x_parts n) x_bestTarget x_high x_low x_tryHigh x_tryLow v1 v3 v5 = some q := h
    generalize f_X11_findBest_b12 N x_now x_whole x_parts n = k_12 at h hk_12
    unfold g_X11_findBest_b12 at h
    intro H locs ls hP hD hS hl
    refine lv_iload hx hb dX11_findBest_12 (lv_at hl 3 rfl) ?_
    refine lv_aload_n hx hb dX11_findBest_14 rfl (lv_at hl 0 rfl) ?_
    refine va_get (D := D) (ci := 11) (v := .ref a_x_now) (C := RX11) (T := TX11) (N := 19) hx hb hts in_X11_findBest_X11 hown hK hP 0 rfl rfl 0 (by decide) (hts _ mb_X11_findBest_5) (fun _ h9 => h9) rfl dX11_findBest_15 ?_
    refine lv_iconst (v := 0) hx hb dX11_findBest_18 (by decide) ?_
    refine va_iald hx hb hK hP 1 0 rfl rfl (g_lit (i := 0) (n := 194) (by decide)) dX11_findBest_19 ?_
    refine W.eq (g2 := F0 m 20 ls [.int (x_now 0), .int v5]) rfl ?_
    refine lv_icmp_ge (tgt := 138) hx hb dX11_findBest_20 (by decide) (fun c1 => ?_) (fun c1 => ?_)
    · have h := ift c1 h
      refine lv_aload_n hx hb dX11_findBest_138 rfl (lv_at hl 0 rfl) ?_
      refine va_get (D := D) (ci := 11) (v := .int x_bestTarget) (C := RX11) (T := TX11) (N := 19) hx hb hts in_X11_findBest_X11 hown hK hP 0 rfl rfl 8 (by decide) (hts _ mb_X11_findBest_0) (fun _ h9 => h9) rfl dX11_findBest_139 ?_
      refine lv_if_lt (tgt := 149) hx hb dX11_findBest_142 (by decide) (fun c2 => ?_) (fun c2 => ?_)
      · have h := ift c2 h
        exact t_X11_findBest_b149 C a_x a_x_now a_x_kept a_x_sortOf a_x_sizeOf a_x_sheets a_x_parts a_x_edge a_x_far a_x_lost x_isKept x_host x_below x_lots x_now N q x_bestTarget x_high x_low x_whole x_tryHigh x_tryLow x_parts h H locs ls hP hD hS (lv_sub hl [0] rfl)
      · have h := iff_ c2 h
        refine lv_aload_n hx hb dX11_findBest_145 rfl (lv_at hl 0 rfl) ?_
        obtain ⟨q3, e3, h⟩ := bd_some h
        refine g_callV (index := 94) (maxL := 6) (n := 0) (As := []) (rest := []) (st1 := []) (C1 := RX11) (T1 := TX11) (N1 := 19) (ws2 := (w_X11_findBest cI cJ cZ cG a_x a_x_now a_x_kept a_x_sortOf a_x_sizeOf a_x_sheets a_x_parts a_x_edge a_x_far a_x_lost x_isKept x_host x_below x_bestTarget x_high x_low q3.1 x_tryHigh x_tryLow x_lots x_now q3.2)) C hP hD hS hl.1 11 0 (c_X11_shares l D cI cJ cZ cG a_x a_x_now a_x_kept a_x_sortOf a_x_sizeOf a_x_sheets a_x_parts a_x_edge a_x_far a_x_lost x_isKept x_host x_below x_bestTarget x_high x_low x_whole x_tryHigh x_tryLow x_lots x_now x_parts N q3 e3) gX11_findBest_X11_shares rfl rfl rfl (by decide +kernel) ⟨Nat.le_of_ble_eq_true rfl, Nat.le_of_ble_eq_true rfl⟩ rfl rfl rfl (Nat.le_of_ble_eq_true rfl) rfl dX11_findBest_146 [0, 1, 2] [] [0, 1, 2] rfl rfl rfl rfl (by decide) rfl rfl rfl (fun H locs hP hD hS => ?_)
        exact t_X11_findBest_b149 C a_x a_x_now a_x_kept a_x_sortOf a_x_sizeOf a_x_sheets a_x_parts a_x_edge a_x_far a_x_lost x_isKept x_host x_below x_lots x_now N q x_bestTarget x_high x_low q3.1 x_tryHigh x_tryLow q3.2 h H locs ls hP hD hS (lv_sub hl [0] rfl)
    · have h := iff_ c1 h
      refine lv_aload_n hx hb dX11_findBest_23 rfl (lv_at hl 0 rfl) ?_
      refine lv_iload hx hb dX11_findBest_24 (lv_at hl 3 rfl) ?_
      obtain ⟨q4, e4, h⟩ := bd_some h
      refine g_callV (index := 85) (maxL := 13) (n := 1) (As := [.int v5]) (rest := []) (st1 := [.int q4.1]) (C1 := RX11) (T1 := TX11) (N1 := 19) (ws2 := (w_X11_findBest cI cJ cZ cG a_x a_x_now a_x_kept a_x_sortOf a_x_sizeOf a_x_sheets a_x_parts a_x_edge a_x_far a_x_lost x_isKept x_host x_below x_bestTarget x_high x_low x_whole q4.2.1 q4.2.2 x_lots x_now x_parts)) C hP hD hS hl.1 11 0 (c_X11_find l D cI cJ cZ cG a_x a_x_now a_x_kept a_x_sortOf a_x_sizeOf a_x_sheets a_x_parts a_x_edge a_x_far a_x_lost x_isKept x_host x_below x_bestTarget x_high x_low x_whole x_tryHigh x_tryLow x_lots x_now v5 N q4 e4) gX11_findBest_X11_find rfl rfl rfl (by decide +kernel) ⟨Nat.le_of_ble_eq_true rfl, Nat.le_of_ble_eq_true rfl⟩ rfl rfl rfl (Nat.le_of_ble_eq_true rfl) rfl dX11_findBest_26 [0, 1] [2] [1, 2, 0] rfl rfl rfl rfl (by decide) rfl rfl rfl (fun H locs hP hD hS => ?_)
      refine lv_if_ne (tgt := 35) hx hb dX11_findBest_29 (by decide) (fun c5 => ?_) (fun c5 => ?_)
      · have h := iff_ c5 h
        refine lv_aload_n hx hb dX11_findBest_35 rfl (lv_at hl 0 rfl) ?_
        refine va_get (D := D) (ci := 11) (v := .ref a_x_now) (C := RX11) (T := TX11) (N := 19) hx hb hts in_X11_findBest_X11 hown hK hP 0 rfl rfl 0 (by decide) (hts _ mb_X11_findBest_5) (fun _ h9 => h9) rfl dX11_findBest_36 ?_
        refine lv_bipush (v := 25) hx hb dX11_findBest_39 (by decide) ?_
        refine lv_iload hx hb dX11_findBest_41 (lv_at hl 3 rfl) ?_
        refine lv_iadd hx hb dX11_findBest_43 ?_
        obtain ⟨i6, h⟩ := gI_some h
        refine va_iald hx hb hK hP 1 0 rfl rfl i6 dX11_findBest_44 ?_
        refine lv_i2l (v := (x_now (25 + v5).toNatClampNeg).toInt64) hx hb dX11_findBest_45 rfl ?_
        refine lv_aload_n hx hb dX11_findBest_46 rfl (lv_at hl 0 rfl) ?_
        refine va_get (D := D) (ci := 11) (v := .long q4.2.2) (C := RX11) (T := TX11) (N := 19) hx hb hts in_X11_findBest_X11 hown hK hP 0 rfl rfl 14 (by decide) (hts _ mb_X11_findBest_1) (fun _ h9 => h9) rfl dX11_findBest_47 ?_
        refine lv_lmul hx hb dX11_findBest_50 ?_
        refine lv_aload_n hx hb dX11_findBest_51 rfl (lv_at hl 0 rfl) ?_
        refine va_get (D := D) (ci := 11) (v := .ref a_x_now) (C := RX11) (T := TX11) (N := 19) hx hb hts in_X11_findBest_X11 hown hK hP 0 rfl rfl 0 (by decide) (hts _ mb_X11_findBest_5) (fun _ h9 => h9) rfl dX11_findBest_52 ?_
        refine lv_bipush (v := 15) hx hb dX11_findBest_55 (by decide) ?_
        refine lv_iload hx hb dX11_findBest_57 (lv_at hl 3 rfl) ?_
        refine lv_iadd hx hb dX11_findBest_59 ?_
        obtain ⟨i7, h⟩ := gI_some h
        refine va_iald hx hb hK hP 1 0 rfl rfl i7 dX11_findBest_60 ?_
        refine lv_aload_n hx hb dX11_findBest_61 rfl (lv_at hl 0 rfl) ?_
        refine va_get (D := D) (ci := 11) (v := .ref a_x_now) (C := RX11) (T := TX11) (N := 19) hx hb hts in_X11_findBest_X11 hown hK hP 0 rfl rfl 0 (by decide) (hts _ mb_X11_findBest_5) (fun _ h9 => h9) rfl dX11_findBest_62 ?_
        refine lv_bipush (v := 25) hx hb dX11_findBest_65 (by decide) ?_
        refine lv_iload hx hb dX11_findBest_67 (lv_at hl 3 rfl) ?_
        refine lv_iadd hx hb dX11_findBest_69 ?_
        obtain ⟨i8, h⟩ := gI_some h
        refine va_iald hx hb hK hP 1 0 rfl rfl i8 dX11_findBest_70 ?_
        refine lv_isub hx hb dX11_findBest_71 ?_
        refine lv_i2l (v := ((x_now (15 + v5).toNatClampNeg) - (x_now (25 + v5).toNatClampNeg)).toInt64) hx hb dX11_findBest_72 rfl ?_
        refine lv_aload_n hx hb dX11_findBest_73 rfl (lv_at hl 0 rfl) ?_
        refine va_get (D := D) (ci := 11) (v := .long q4.2.1) (C := RX11) (T := TX11) (N := 19) hx hb hts in_X11_findBest_X11 hown hK hP 0 rfl rfl 13 (by decide) (hts _ mb_X11_findBest_2) (fun _ h9 => h9) rfl dX11_findBest_74 ?_
        refine lv_lmul hx hb dX11_findBest_77 ?_
        refine lv_ladd hx hb dX11_findBest_78 ?_
        refine lv_lstore (lv' := [(6, .long ((((x_now (25 + v5).toNatClampNeg).toInt64) * q4.2.2) + ((((x_now (15 + v5).toNatClampNeg) - (x_now (25 + v5).toNatClampNeg)).toInt64) * q4.2.1))), (0, .ref a_x), (1, .long v1), (3, .long v3), (5, .int v5)]) hx hb dX11_findBest_79 hl (by decide) rfl (fun ls hl => ?_)
        refine lv_aload_n hx hb dX11_findBest_81 rfl (lv_at hl 1 rfl) ?_
        refine va_get (D := D) (ci := 11) (v := .int x_bestTarget) (C := RX11) (T := TX11) (N := 19) hx hb hts in_X11_findBest_X11 hown hK hP 0 rfl rfl 8 (by decide) (hts _ mb_X11_findBest_0) (fun _ h9 => h9) rfl dX11_findBest_82 ?_
        refine lv_if_lt (tgt := 102) hx hb dX11_findBest_85 (by decide) (fun c9 => ?_) (fun c9 => ?_)
        · have h := ift c9 h
          exact t_X11_findBest_b102 C a_x a_x_now a_x_kept a_x_sortOf a_x_sizeOf a_x_sheets a_x_parts a_x_edge a_x_far a_x_lost x_isKept x_host x_below x_lots x_now N q x_bestTarget x_high x_low x_whole q4.2.1 q4.2.2 x_parts v5 ((((x_now (25 + v5).toNatClampNeg).toInt64) * q4.2.2) + ((((x_now (15 + v5).toNatClampNeg) - (x_now (25 + v5).toNatClampNeg)).toInt64) * q4.2.1)) k_12 hk_12 h H locs ls hP hD hS (lv_sub hl [1, 4, 0] rfl)
        · have h := iff_ c9 h
          refine lv_lload hx hb dX11_findBest_88 (lv_at hl 0 rfl) ?_
          refine lv_lload_n hx hb dX11_findBest_90 rfl (lv_at hl 3 rfl) ?_
          refine lv_lmul hx hb dX11_findBest_91 ?_
          refine lv_lload_n hx hb dX11_findBest_92 rfl (lv_at hl 2 rfl) ?_
          refine lv_aload_n hx hb dX11_findBest_93 rfl (lv_at hl 1 rfl) ?_
          refine va_get (D := D) (ci := 11) (v := .long q4.2.2) (C := RX11) (T := TX11) (N := 19) hx hb hts in_X11_findBest_X11 hown hK hP 0 rfl rfl 14 (by decide) (hts _ mb_X11_findBest_1) (fun _ h9 => h9) rfl dX11_findBest_94 ?_
          refine lv_lmul hx hb dX11_findBest_97 ?_
          refine W.lcmp hx hb dX11_findBest_98 ?_
          refine lv_if_le (tgt := 132) hx hb dX11_findBest_99 (by decide) (fun c10 => ?_) (fun c10 => ?_)
          · have c10 := lc_le.mp c10
            have h := ift c10 h
            refine lv_iinc (v := v5 + 1) (lv' := [(5, .int (v5 + 1)), (6, .long ((((x_now (25 + v5).toNatClampNeg).toInt64) * q4.2.2) + ((((x_now (15 + v5).toNatClampNeg) - (x_now (25 + v5).toNatClampNeg)).toInt64) * q4.2.1))), (0, .ref a_x), (1, .long v1), (3, .long v3)]) hx hb dX11_findBest_132 hl (k := 4) rfl rfl (by decide) rfl (fun ls hl => ?_)
            refine lv_goto (tgt := 12) hx hb dX11_findBest_135 (by decide) ?_
            exact hk_12 x_bestTarget x_high x_low q4.2.1 q4.2.2 v1 v3 (v5 + 1) h H locs ls hP hD hS (lv_sub hl [2, 3, 4, 0] rfl)
          · have c10 := (not_congr lc_le).mp c10
            have h := iff_ c10 h
            exact t_X11_findBest_b102 C a_x a_x_now a_x_kept a_x_sortOf a_x_sizeOf a_x_sheets a_x_parts a_x_edge a_x_far a_x_lost x_isKept x_host x_below x_lots x_now N q x_bestTarget x_high x_low x_whole q4.2.1 q4.2.2 x_parts v5 ((((x_now (25 + v5).toNatClampNeg).toInt64) * q4.2.2) + ((((x_now (15 + v5).toNatClampNeg) - (x_now (25 + v5).toNatClampNeg)).toInt64) * q4.2.1)) k_12 hk_12 h H locs ls hP hD hS (lv_sub hl [1, 4, 0] rfl)
      · have h := ift c5 h
        refine lv_goto (tgt := 132) hx hb dX11_findBest_32 (by decide) ?_
        refine lv_iinc (v := v5 + 1) (lv' := [(5, .int (v5 + 1)), (0, .ref a_x), (1, .long v1), (3, .long v3)]) hx hb dX11_findBest_132 hl (k := 3) rfl rfl (by decide) rfl (fun ls hl => ?_)
        refine lv_goto (tgt := 12) hx hb dX11_findBest_135 (by decide) ?_
        exact hk_12 x_bestTarget x_high x_low q4.2.1 q4.2.2 v1 v3 (v5 + 1) h H locs ls hP hD hS (lv_sub hl [1, 2, 3, 0] rfl)
set_option maxRecDepth 100000 in
set_option maxHeartbeats 4000000 in
theorem c_X11_findBest (l : Launch) (D : va_G) (cI cJ cZ cG : ClassId) (a_x a_x_now a_x_kept a_x_sortOf a_x_sizeOf a_x_sheets a_x_parts a_x_edge a_x_far a_x_lost : Nat) (x_isKept : Int32) (x_host : Int32) (x_below : Int32) (x_bestTarget : Int32) (x_high : Int64) (x_low : Int64) (x_whole : Int64) (x_tryHigh : Int64) (x_tryLow : Int64) (x_lots : Int32) (x_now : (Nat → Int32)) (x_parts : (Nat → Int64)) (N : Nat) (q : Int32 × Int32 × Int64 × Int64 × Int64 × Int64 × Int64 × (Nat → Int64)) (h : f_X11_findBest N x_bestTarget x_high x_low x_whole x_tryHigh x_tryLow x_now x_parts = some q) : gMet l yX11_findBest wsX11_findBest rm_X11_findBest [.ref a_x] (w_X11_findBest cI cJ cZ cG a_x a_x_now a_x_kept a_x_sortOf a_x_sizeOf a_x_sheets a_x_parts a_x_edge a_x_far a_x_lost x_isKept x_host x_below x_bestTarget x_high x_low x_whole x_tryHigh x_tryLow x_lots x_now x_parts) (w_X11_findBest cI cJ cZ cG a_x a_x_now a_x_kept a_x_sortOf a_x_sizeOf a_x_sheets a_x_parts a_x_edge a_x_far a_x_lost x_isKept x_host x_below q.2.1 q.2.2.1 q.2.2.2.1 q.2.2.2.2.1 q.2.2.2.2.2.1 q.2.2.2.2.2.2.1 x_lots x_now q.2.2.2.2.2.2.2) (some (.int q.1)) D cI cJ cZ cG := by
  refine g_enter (cc := cX11_findBest) (nL := 8) (ret := (some .boolean)) (by decide) rfl (Nat.le_of_ble_eq_true rfl) ?_
  intro p e s m below meth c A C H locs ls hP hD hS hl
  obtain ⟨hx, hb, hr, hml, hown, hts, hlk, hgk, hA⟩ := id C
  have hK := hgk.1
  have hl : lv_has ls 8 [(0, .ref a_x)] := hl
  unfold f_X11_findBest at h
  refine lv_aload_n hx hb dX11_findBest_0 rfl (lv_at hl 0 rfl) ?_
  refine lv_iconst (v := (-1)) hx hb dX11_findBest_1 (by decide) ?_
  refine va_put (D := D) (ci := 11) (v := .int (-1)) (ty := .int) (C := RX11) (T := TX11) (N := 19) hx hb hts in_X11_findBest_X11 tyX11 tyX11_ok nmX11 hown hK hP hD hS 0 rfl rfl 8 (by decide) (hts _ mb_X11_findBest_0) (fun _ h9 => h9) rfl (by decide +kernel) rfl rfl (Nat.le_of_ble_eq_true rfl) dX11_findBest_2 (fun H locs hP hD hS => ?_)
  have hP : va_P D vwCl (w_X11_findBest cI cJ cZ cG a_x a_x_now a_x_kept a_x_sortOf a_x_sizeOf a_x_sheets a_x_parts a_x_edge a_x_far a_x_lost x_isKept x_host x_below (-1) x_high x_low x_whole x_tryHigh x_tryLow x_lots x_now x_parts) H := hP
  have hD : va_D A (w_X11_findBest cI cJ cZ cG a_x a_x_now a_x_kept a_x_sortOf a_x_sizeOf a_x_sheets a_x_parts a_x_edge a_x_far a_x_lost x_isKept x_host x_below (-1) x_high x_low x_whole x_tryHigh x_tryLow x_lots x_now x_parts) := hD
  refine lv_lconst (v := 0) hx hb dX11_findBest_5 (by decide) ?_
  refine lv_lstore_n (lv' := [(1, .long 0), (0, .ref a_x)]) hx hb dX11_findBest_6 rfl hl (by decide) rfl (fun ls hl => ?_)
  refine lv_lconst (v := 1) hx hb dX11_findBest_7 (by decide) ?_
  refine lv_lstore_n (lv' := [(3, .long 1), (1, .long 0), (0, .ref a_x)]) hx hb dX11_findBest_8 rfl hl (by decide) rfl (fun ls hl => ?_)
  refine lv_iconst (v := 0) hx hb dX11_findBest_9 (by decide) ?_
  refine lv_istore (lv' := [(5, .int 0), (3, .long 1), (1, .long 0), (0, .ref a_x)]) hx hb dX11_findBest_10 hl (by decide) rfl (fun ls hl => ?_)
  exact t_X11_findBest_b12 C a_x a_x_now a_x_kept a_x_sortOf a_x_sizeOf a_x_sheets a_x_parts a_x_edge a_x_far a_x_lost x_isKept x_host x_below x_lots x_now N q x_whole x_parts N (-1) x_high x_low x_tryHigh x_tryLow 0 1 0 h H locs ls hP hD hS (lv_sub hl [3, 2, 1, 0] rfl)
theorem in_X11_best_X11 : ∀ w ∈ wsX110, w ∈ wsX11_best := by decide +kernel
theorem mb_X11_best_0 : Cond.constant RX11 113 (-1000000003) ∈ wsX11_best := List.mem_of_getElem? (i := 2) rfl
theorem mb_X11_best_1 : Cond.fieldLink RX11 82 "GuardDeskModel" "bestTarget" "I" ∈ wsX11_best := List.mem_of_getElem? (i := 1) rfl
set_option maxRecDepth 100000 in
set_option maxHeartbeats 4000000 in
theorem c_X11_best (l : Launch) (D : va_G) (cI cJ cZ cG : ClassId) (a_x a_x_now a_x_kept a_x_sortOf a_x_sizeOf a_x_sheets a_x_parts a_x_edge a_x_far a_x_lost : Nat) (x_isKept : Int32) (x_host : Int32) (x_below : Int32) (x_bestTarget : Int32) (x_high : Int64) (x_low : Int64) (x_whole : Int64) (x_tryHigh : Int64) (x_tryLow : Int64) (x_lots : Int32) (x_now : (Nat → Int32)) (x_parts : (Nat → Int64)) (N : Nat) (q : Int32 × Int32 × Int64 × Int64 × Int64 × Int64 × Int64 × (Nat → Int64)) (h : f_X11_best N x_bestTarget x_high x_low x_whole x_tryHigh x_tryLow x_now x_parts = some q) : gMet l yX11_best wsX11_best rm_X11_best [.ref a_x] (w_X11_best cI cJ cZ cG a_x a_x_now a_x_kept a_x_sortOf a_x_sizeOf a_x_sheets a_x_parts a_x_edge a_x_far a_x_lost x_isKept x_host x_below x_bestTarget x_high x_low x_whole x_tryHigh x_tryLow x_lots x_now x_parts) (w_X11_best cI cJ cZ cG a_x a_x_now a_x_kept a_x_sortOf a_x_sizeOf a_x_sheets a_x_parts a_x_edge a_x_far a_x_lost x_isKept x_host x_below q.2.1 q.2.2.1 q.2.2.2.1 q.2.2.2.2.1 q.2.2.2.2.2.1 q.2.2.2.2.2.2.1 x_lots x_now q.2.2.2.2.2.2.2) (some (.int q.1)) D cI cJ cZ cG := by
  refine g_enter (cc := cX11_best) (nL := 1) (ret := (some .int)) (by decide) rfl (Nat.le_of_ble_eq_true rfl) ?_
  intro p e s m below meth c A C H locs ls hP hD hS hl
  obtain ⟨hx, hb, hr, hml, hown, hts, hlk, hgk, hA⟩ := id C
  have hK := hgk.1
  have hl : lv_has ls 1 [(0, .ref a_x)] := hl
  unfold f_X11_best at h
  refine lv_aload_n hx hb dX11_best_0 rfl (lv_at hl 0 rfl) ?_
  obtain ⟨q1, e1, h⟩ := bd_some h
  refine g_callV (index := 109) (maxL := 8) (n := 0) (As := []) (rest := []) (st1 := [.int q1.1]) (C1 := RX11) (T1 := TX11) (N1 := 19) (ws2 := (w_X11_best cI cJ cZ cG a_x a_x_now a_x_kept a_x_sortOf a_x_sizeOf a_x_sheets a_x_parts a_x_edge a_x_far a_x_lost x_isKept x_host x_below q1.2.1 q1.2.2.1 q1.2.2.2.1 q1.2.2.2.2.1 q1.2.2.2.2.2.1 q1.2.2.2.2.2.2.1 x_lots x_now q1.2.2.2.2.2.2.2)) C hP hD hS hl.1 11 0 (c_X11_findBest l D cI cJ cZ cG a_x a_x_now a_x_kept a_x_sortOf a_x_sizeOf a_x_sheets a_x_parts a_x_edge a_x_far a_x_lost x_isKept x_host x_below x_bestTarget x_high x_low x_whole x_tryHigh x_tryLow x_lots x_now x_parts N q1 e1) gX11_best_X11_findBest rfl rfl rfl (by decide +kernel) ⟨Nat.le_of_ble_eq_true rfl, Nat.le_of_ble_eq_true rfl⟩ rfl rfl rfl (Nat.le_of_ble_eq_true rfl) rfl dX11_best_1 [0, 1, 2] [] [0, 1, 2] rfl rfl rfl rfl (by decide) rfl rfl rfl (fun H locs hP hD hS => ?_)
  refine lv_if_eq (tgt := 14) hx hb dX11_best_4 (by decide) (fun c2 => ?_) (fun c2 => ?_)
  · have h := ift c2 h
    refine lv_ldc (v := (-1000000003)) hx hb hown (hts _ mb_X11_best_0) dX11_best_14 ?_
    obtain rfl := Option.some.inj h
    exact g_iret C hP hD hS dX11_best_16
  · have h := iff_ c2 h
    refine lv_aload_n hx hb dX11_best_7 rfl (lv_at hl 0 rfl) ?_
    refine va_get (D := D) (ci := 11) (v := .int q1.2.1) (C := RX11) (T := TX11) (N := 19) hx hb hts in_X11_best_X11 hown hK hP 0 rfl rfl 8 (by decide) (hts _ mb_X11_best_1) (fun _ h9 => h9) rfl dX11_best_8 ?_
    refine lv_goto (tgt := 16) hx hb dX11_best_11 (by decide) ?_
    obtain rfl := Option.some.inj h
    exact g_iret C hP hD hS dX11_best_16
theorem in_X11_worth_X11 : ∀ w ∈ wsX110, w ∈ wsX11_worth := by decide +kernel
theorem mb_X11_worth_0 : Cond.fieldLink RX11 82 "GuardDeskModel" "bestTarget" "I" ∈ wsX11_worth := List.mem_of_getElem? (i := 2) rfl
theorem mb_X11_worth_1 : Cond.fieldLink RX11 9 "GuardDeskModel" "now" "[I" ∈ wsX11_worth := List.mem_of_getElem? (i := 3) rfl
theorem mb_X11_worth_2 : Cond.fieldLink RX11 91 "GuardDeskModel" "low" "J" ∈ wsX11_worth := List.mem_of_getElem? (i := 4) rfl
theorem mb_X11_worth_3 : Cond.fieldLink RX11 88 "GuardDeskModel" "high" "J" ∈ wsX11_worth := List.mem_of_getElem? (i := 5) rfl
theorem mb_X11_worth_4 : Cond.constant RX11 113 (-1000000003) ∈ wsX11_worth := List.mem_of_getElem? (i := 1) rfl
set_option maxRecDepth 100000 in
set_option maxHeartbeats 4000000 in
theorem c_X11_worth (l : Launch) (D : va_G) (cI cJ cZ cG : ClassId) (a_x a_x_now a_x_kept a_x_sortOf a_x_sizeOf a_x_sheets a_x_parts a_x_edge a_x_far a_x_lost : Nat) (x_isKept : Int32) (x_host : Int32) (x_below : Int32) (x_bestTarget : Int32) (x_high : Int64) (x_low : Int64) (x_whole : Int64) (x_tryHigh : Int64) (x_tryLow : Int64) (x_lots : Int32) (x_now : (Nat → Int32)) (x_parts : (Nat → Int64)) (N : Nat) (q : Int32 × Int32 × Int32 × Int64 × Int64 × Int64 × Int64 × Int64 × (Nat → Int64)) (h : f_X11_worth N x_below x_bestTarget x_high x_low x_whole x_tryHigh x_tryLow x_now x_parts = some q) : gMet l yX11_worth wsX11_worth rm_X11_worth [.ref a_x] (w_X11_worth cI cJ cZ cG a_x a_x_now a_x_kept a_x_sortOf a_x_sizeOf a_x_sheets a_x_parts a_x_edge a_x_far a_x_lost x_isKept x_host x_below x_bestTarget x_high x_low x_whole x_tryHigh x_tryLow x_lots x_now x_parts) (w_X11_worth cI cJ cZ cG a_x a_x_now a_x_kept a_x_sortOf a_x_sizeOf a_x_sheets a_x_parts a_x_edge a_x_far a_x_lost x_isKept x_host q.2.1 q.2.2.1 q.2.2.2.1 q.2.2.2.2.1 q.2.2.2.2.2.1 q.2.2.2.2.2.2.1 q.2.2.2.2.2.2.2.1 x_lots x_now q.2.2.2.2.2.2.2.2) (some (.int q.1)) D cI cJ cZ cG := by
  refine g_enter (cc := cX11_worth) (nL := 2) (ret := (some .int)) (by decide) rfl (Nat.le_of_ble_eq_true rfl) ?_
  intro p e s m below meth c A C H locs ls hP hD hS hl
  obtain ⟨hx, hb, hr, hml, hown, hts, hlk, hgk, hA⟩ := id C
  have hK := hgk.1
  have hl : lv_has ls 2 [(0, .ref a_x)] := hl
  unfold f_X11_worth at h
  refine lv_aload_n hx hb dX11_worth_0 rfl (lv_at hl 0 rfl) ?_
  obtain ⟨q1, e1, h⟩ := bd_some h
  refine g_callV (index := 109) (maxL := 8) (n := 0) (As := []) (rest := []) (st1 := [.int q1.1]) (C1 := RX11) (T1 := TX11) (N1 := 19) (ws2 := (w_X11_worth cI cJ cZ cG a_x a_x_now a_x_kept a_x_sortOf a_x_sizeOf a_x_sheets a_x_parts a_x_edge a_x_far a_x_lost x_isKept x_host x_below q1.2.1 q1.2.2.1 q1.2.2.2.1 q1.2.2.2.2.1 q1.2.2.2.2.2.1 q1.2.2.2.2.2.2.1 x_lots x_now q1.2.2.2.2.2.2.2)) C hP hD hS hl.1 11 0 (c_X11_findBest l D cI cJ cZ cG a_x a_x_now a_x_kept a_x_sortOf a_x_sizeOf a_x_sheets a_x_parts a_x_edge a_x_far a_x_lost x_isKept x_host x_below x_bestTarget x_high x_low x_whole x_tryHigh x_tryLow x_lots x_now x_parts N q1 e1) gX11_worth_X11_findBest rfl rfl rfl (by decide +kernel) ⟨Nat.le_of_ble_eq_true rfl, Nat.le_of_ble_eq_true rfl⟩ rfl rfl rfl (Nat.le_of_ble_eq_true rfl) rfl dX11_worth_1 [0, 1, 2] [] [0, 1, 2] rfl rfl rfl rfl (by decide) rfl rfl rfl (fun H locs hP hD hS => ?_)
  refine lv_if_ne (tgt := 10) hx hb dX11_worth_4 (by decide) (fun c2 => ?_) (fun c2 => ?_)
  · have h := iff_ c2 h
    refine lv_aload_n hx hb dX11_worth_10 rfl (lv_at hl 0 rfl) ?_
    refine va_get (D := D) (ci := 11) (v := .int q1.2.1) (C := RX11) (T := TX11) (N := 19) hx hb hts in_X11_worth_X11 hown hK hP 0 rfl rfl 8 (by decide) (hts _ mb_X11_worth_0) (fun _ h9 => h9) rfl dX11_worth_11 ?_
    refine lv_istore_n (lv' := [(1, .int q1.2.1), (0, .ref a_x)]) hx hb dX11_worth_14 rfl hl (by decide) rfl (fun ls hl => ?_)
    refine lv_aload_n hx hb dX11_worth_15 rfl (lv_at hl 1 rfl) ?_
    refine lv_aload_n hx hb dX11_worth_16 rfl (lv_at hl 1 rfl) ?_
    refine va_get (D := D) (ci := 11) (v := .ref a_x_now) (C := RX11) (T := TX11) (N := 19) hx hb hts in_X11_worth_X11 hown hK hP 0 rfl rfl 0 (by decide) (hts _ mb_X11_worth_1) (fun _ h9 => h9) rfl dX11_worth_17 ?_
    refine lv_bipush (v := 25) hx hb dX11_worth_20 (by decide) ?_
    refine lv_iload_n hx hb dX11_worth_22 rfl (lv_at hl 0 rfl) ?_
    refine lv_iadd hx hb dX11_worth_23 ?_
    obtain ⟨i3, h⟩ := gI_some h
    refine va_iald hx hb hK hP 1 0 rfl rfl i3 dX11_worth_24 ?_
    refine lv_i2l (v := (x_now (25 + q1.2.1).toNatClampNeg).toInt64) hx hb dX11_worth_25 rfl ?_
    refine lv_aload_n hx hb dX11_worth_26 rfl (lv_at hl 1 rfl) ?_
    refine va_get (D := D) (ci := 11) (v := .long q1.2.2.2.1) (C := RX11) (T := TX11) (N := 19) hx hb hts in_X11_worth_X11 hown hK hP 0 rfl rfl 10 (by decide) (hts _ mb_X11_worth_2) (fun _ h9 => h9) rfl dX11_worth_27 ?_
    refine lv_lmul hx hb dX11_worth_30 ?_
    refine lv_aload_n hx hb dX11_worth_31 rfl (lv_at hl 1 rfl) ?_
    refine va_get (D := D) (ci := 11) (v := .ref a_x_now) (C := RX11) (T := TX11) (N := 19) hx hb hts in_X11_worth_X11 hown hK hP 0 rfl rfl 0 (by decide) (hts _ mb_X11_worth_1) (fun _ h9 => h9) rfl dX11_worth_32 ?_
    refine lv_bipush (v := 15) hx hb dX11_worth_35 (by decide) ?_
    refine lv_iload_n hx hb dX11_worth_37 rfl (lv_at hl 0 rfl) ?_
    refine lv_iadd hx hb dX11_worth_38 ?_
    obtain ⟨i4, h⟩ := gI_some h
    refine va_iald hx hb hK hP 1 0 rfl rfl i4 dX11_worth_39 ?_
    refine lv_aload_n hx hb dX11_worth_40 rfl (lv_at hl 1 rfl) ?_
    refine va_get (D := D) (ci := 11) (v := .ref a_x_now) (C := RX11) (T := TX11) (N := 19) hx hb hts in_X11_worth_X11 hown hK hP 0 rfl rfl 0 (by decide) (hts _ mb_X11_worth_1) (fun _ h9 => h9) rfl dX11_worth_41 ?_
    refine lv_bipush (v := 25) hx hb dX11_worth_44 (by decide) ?_
    refine lv_iload_n hx hb dX11_worth_46 rfl (lv_at hl 0 rfl) ?_
    refine lv_iadd hx hb dX11_worth_47 ?_
    obtain ⟨i5, h⟩ := gI_some h
    refine va_iald hx hb hK hP 1 0 rfl rfl i5 dX11_worth_48 ?_
    refine lv_isub hx hb dX11_worth_49 ?_
    refine lv_i2l (v := ((x_now (15 + q1.2.1).toNatClampNeg) - (x_now (25 + q1.2.1).toNatClampNeg)).toInt64) hx hb dX11_worth_50 rfl ?_
    refine lv_aload_n hx hb dX11_worth_51 rfl (lv_at hl 1 rfl) ?_
    refine va_get (D := D) (ci := 11) (v := .long q1.2.2.1) (C := RX11) (T := TX11) (N := 19) hx hb hts in_X11_worth_X11 hown hK hP 0 rfl rfl 9 (by decide) (hts _ mb_X11_worth_3) (fun _ h9 => h9) rfl dX11_worth_52 ?_
    refine lv_lmul hx hb dX11_worth_55 ?_
    refine lv_ladd hx hb dX11_worth_56 ?_
    refine lv_aload_n hx hb dX11_worth_57 rfl (lv_at hl 1 rfl) ?_
    refine va_get (D := D) (ci := 11) (v := .long q1.2.2.2.1) (C := RX11) (T := TX11) (N := 19) hx hb hts in_X11_worth_X11 hown hK hP 0 rfl rfl 10 (by decide) (hts _ mb_X11_worth_2) (fun _ h9 => h9) rfl dX11_worth_58 ?_
    obtain ⟨q6, e6, h⟩ := bd_some h
    refine g_callV (index := 114) (maxL := 7) (n := 2) (As := [.long ((((x_now (25 + q1.2.1).toNatClampNeg).toInt64) * q1.2.2.2.1) + ((((x_now (15 + q1.2.1).toNatClampNeg) - (x_now (25 + q1.2.1).toNatClampNeg)).toInt64) * q1.2.2.1)), .long q1.2.2.2.1]) (rest := []) (st1 := [.int q6.1]) (C1 := RX11) (T1 := TX11) (N1 := 19) (ws2 := (w_X11_worth cI cJ cZ cG a_x a_x_now a_x_kept a_x_sortOf a_x_sizeOf a_x_sheets a_x_parts a_x_edge a_x_far a_x_lost x_isKept x_host q6.2 q1.2.1 q1.2.2.1 q1.2.2.2.1 q1.2.2.2.2.1 q1.2.2.2.2.2.1 q1.2.2.2.2.2.2.1 x_lots x_now q1.2.2.2.2.2.2.2)) C hP hD hS hl.1 11 0 (c_X11_fraction l D cI cJ cZ cG a_x a_x_now a_x_kept a_x_sortOf a_x_sizeOf a_x_sheets a_x_parts a_x_edge a_x_far a_x_lost x_isKept x_host x_below q1.2.1 q1.2.2.1 q1.2.2.2.1 q1.2.2.2.2.1 q1.2.2.2.2.2.1 q1.2.2.2.2.2.2.1 x_lots ((((x_now (25 + q1.2.1).toNatClampNeg).toInt64) * q1.2.2.2.1) + ((((x_now (15 + q1.2.1).toNatClampNeg) - (x_now (25 + q1.2.1).toNatClampNeg)).toInt64) * q1.2.2.1)) q1.2.2.2.1 N q6 e6) gX11_worth_X11_fraction rfl rfl rfl (by decide +kernel) ⟨Nat.le_of_ble_eq_true rfl, Nat.le_of_ble_eq_true rfl⟩ rfl rfl rfl (Nat.le_of_ble_eq_true rfl) rfl dX11_worth_61 [0] [1, 2] [2, 0, 1] rfl rfl rfl rfl (by decide) rfl rfl rfl (fun H locs hP hD hS => ?_)
    obtain rfl := Option.some.inj h
    exact g_iret C hP hD hS dX11_worth_64
  · have h := ift c2 h
    refine lv_ldc (v := (-1000000003)) hx hb hown (hts _ mb_X11_worth_4) dX11_worth_7 ?_
    obtain rfl := Option.some.inj h
    exact g_iret C hP hD hS dX11_worth_9
theorem in_X11_prize_X11 : ∀ w ∈ wsX110, w ∈ wsX11_prize := by decide +kernel
theorem mb_X11_prize_0 : Cond.constant RX11 113 (-1000000003) ∈ wsX11_prize := List.mem_of_getElem? (i := 2) rfl
theorem mb_X11_prize_1 : Cond.fieldLink RX11 91 "GuardDeskModel" "low" "J" ∈ wsX11_prize := List.mem_of_getElem? (i := 1) rfl
set_option maxRecDepth 100000 in
set_option maxHeartbeats 4000000 in
theorem c_X11_prize (l : Launch) (D : va_G) (cI cJ cZ cG : ClassId) (a_x a_x_now a_x_kept a_x_sortOf a_x_sizeOf a_x_sheets a_x_parts a_x_edge a_x_far a_x_lost : Nat) (x_isKept : Int32) (x_host : Int32) (x_below : Int32) (x_bestTarget : Int32) (x_high : Int64) (x_low : Int64) (x_whole : Int64) (x_tryHigh : Int64) (x_tryLow : Int64) (x_lots : Int32) (x_now : (Nat → Int32)) (x_parts : (Nat → Int64)) (N : Nat) (q : Int32 × Int32 × Int32 × Int64 × Int64 × Int64 × Int64 × Int64 × (Nat → Int64)) (h : f_X11_prize N x_below x_bestTarget x_high x_low x_whole x_tryHigh x_tryLow x_now x_parts = some q) : gMet l yX11_prize wsX11_prize rm_X11_prize [.ref a_x] (w_X11_prize cI cJ cZ cG a_x a_x_now a_x_kept a_x_sortOf a_x_sizeOf a_x_sheets a_x_parts a_x_edge a_x_far a_x_lost x_isKept x_host x_below x_bestTarget x_high x_low x_whole x_tryHigh x_tryLow x_lots x_now x_parts) (w_X11_prize cI cJ cZ cG a_x a_x_now a_x_kept a_x_sortOf a_x_sizeOf a_x_sheets a_x_parts a_x_edge a_x_far a_x_lost x_isKept x_host q.2.1 q.2.2.1 q.2.2.2.1 q.2.2.2.2.1 q.2.2.2.2.2.1 q.2.2.2.2.2.2.1 q.2.2.2.2.2.2.2.1 x_lots x_now q.2.2.2.2.2.2.2.2) (some (.int q.1)) D cI cJ cZ cG := by
  refine g_enter (cc := cX11_prize) (nL := 1) (ret := (some .int)) (by decide) rfl (Nat.le_of_ble_eq_true rfl) ?_
  intro p e s m below meth c A C H locs ls hP hD hS hl
  obtain ⟨hx, hb, hr, hml, hown, hts, hlk, hgk, hA⟩ := id C
  have hK := hgk.1
  have hl : lv_has ls 1 [(0, .ref a_x)] := hl
  unfold f_X11_prize at h
  refine lv_aload_n hx hb dX11_prize_0 rfl (lv_at hl 0 rfl) ?_
  obtain ⟨q1, e1, h⟩ := bd_some h
  refine g_callV (index := 109) (maxL := 8) (n := 0) (As := []) (rest := []) (st1 := [.int q1.1]) (C1 := RX11) (T1 := TX11) (N1 := 19) (ws2 := (w_X11_prize cI cJ cZ cG a_x a_x_now a_x_kept a_x_sortOf a_x_sizeOf a_x_sheets a_x_parts a_x_edge a_x_far a_x_lost x_isKept x_host x_below q1.2.1 q1.2.2.1 q1.2.2.2.1 q1.2.2.2.2.1 q1.2.2.2.2.2.1 q1.2.2.2.2.2.2.1 x_lots x_now q1.2.2.2.2.2.2.2)) C hP hD hS hl.1 11 0 (c_X11_findBest l D cI cJ cZ cG a_x a_x_now a_x_kept a_x_sortOf a_x_sizeOf a_x_sheets a_x_parts a_x_edge a_x_far a_x_lost x_isKept x_host x_below x_bestTarget x_high x_low x_whole x_tryHigh x_tryLow x_lots x_now x_parts N q1 e1) gX11_prize_X11_findBest rfl rfl rfl (by decide +kernel) ⟨Nat.le_of_ble_eq_true rfl, Nat.le_of_ble_eq_true rfl⟩ rfl rfl rfl (Nat.le_of_ble_eq_true rfl) rfl dX11_prize_1 [0, 1, 2] [] [0, 1, 2] rfl rfl rfl rfl (by decide) rfl rfl rfl (fun H locs hP hD hS => ?_)
  refine lv_if_eq (tgt := 22) hx hb dX11_prize_4 (by decide) (fun c2 => ?_) (fun c2 => ?_)
  · have h := ift c2 h
    refine lv_ldc (v := (-1000000003)) hx hb hown (hts _ mb_X11_prize_0) dX11_prize_22 ?_
    obtain rfl := Option.some.inj h
    exact g_iret C hP hD hS dX11_prize_24
  · have h := iff_ c2 h
    refine lv_aload_n hx hb dX11_prize_7 rfl (lv_at hl 0 rfl) ?_
    refine lv_aload_n hx hb dX11_prize_8 rfl (lv_at hl 0 rfl) ?_
    obtain ⟨q3, e3, h⟩ := bd_some h
    refine g_callV (index := 100) (maxL := 1) (n := 0) (As := []) (rest := [.ref a_x]) (st1 := [.long q3, .ref a_x]) (C1 := RX11) (T1 := TX11) (N1 := 19) (ws2 := (w_X11_prize cI cJ cZ cG a_x a_x_now a_x_kept a_x_sortOf a_x_sizeOf a_x_sheets a_x_parts a_x_edge a_x_far a_x_lost x_isKept x_host x_below q1.2.1 q1.2.2.1 q1.2.2.2.1 q1.2.2.2.2.1 q1.2.2.2.2.2.1 q1.2.2.2.2.2.2.1 x_lots x_now q1.2.2.2.2.2.2.2)) C hP hD hS hl.1 11 0 (c_X11_prizeTimesLow l D cI cJ cZ cG a_x a_x_now a_x_kept a_x_sortOf a_x_sizeOf a_x_sheets a_x_parts a_x_edge a_x_far a_x_lost x_isKept x_host x_below q1.2.1 q1.2.2.1 q1.2.2.2.1 q1.2.2.2.2.1 q1.2.2.2.2.2.1 q1.2.2.2.2.2.2.1 x_lots x_now q3 e3) gX11_prize_X11_prizeTimesLow rfl rfl rfl (by decide +kernel) ⟨Nat.le_of_ble_eq_true rfl, Nat.le_of_ble_eq_true rfl⟩ rfl rfl rfl (Nat.le_of_ble_eq_true rfl) rfl dX11_prize_9 [0, 1] [2] [1, 2, 0] rfl rfl rfl rfl (by decide) rfl rfl rfl (fun H locs hP hD hS => ?_)
    refine lv_aload_n hx hb dX11_prize_12 rfl (lv_at hl 0 rfl) ?_
    refine va_get (D := D) (ci := 11) (v := .long q1.2.2.2.1) (C := RX11) (T := TX11) (N := 19) hx hb hts in_X11_prize_X11 hown hK hP 0 rfl rfl 10 (by decide) (hts _ mb_X11_prize_1) (fun _ h9 => h9) rfl dX11_prize_13 ?_
    obtain ⟨q4, e4, h⟩ := bd_some h
    refine g_callV (index := 114) (maxL := 7) (n := 2) (As := [.long q3, .long q1.2.2.2.1]) (rest := []) (st1 := [.int q4.1]) (C1 := RX11) (T1 := TX11) (N1 := 19) (ws2 := (w_X11_prize cI cJ cZ cG a_x a_x_now a_x_kept a_x_sortOf a_x_sizeOf a_x_sheets a_x_parts a_x_edge a_x_far a_x_lost x_isKept x_host q4.2 q1.2.1 q1.2.2.1 q1.2.2.2.1 q1.2.2.2.2.1 q1.2.2.2.2.2.1 q1.2.2.2.2.2.2.1 x_lots x_now q1.2.2.2.2.2.2.2)) C hP hD hS hl.1 11 0 (c_X11_fraction l D cI cJ cZ cG a_x a_x_now a_x_kept a_x_sortOf a_x_sizeOf a_x_sheets a_x_parts a_x_edge a_x_far a_x_lost x_isKept x_host x_below q1.2.1 q1.2.2.1 q1.2.2.2.1 q1.2.2.2.2.1 q1.2.2.2.2.2.1 q1.2.2.2.2.2.2.1 x_lots q3 q1.2.2.2.1 N q4 e4) gX11_prize_X11_fraction rfl rfl rfl (by decide +kernel) ⟨Nat.le_of_ble_eq_true rfl, Nat.le_of_ble_eq_true rfl⟩ rfl rfl rfl (Nat.le_of_ble_eq_true rfl) rfl dX11_prize_16 [0] [1, 2] [2, 0, 1] rfl rfl rfl rfl (by decide) rfl rfl rfl (fun H locs hP hD hS => ?_)
    refine lv_goto (tgt := 24) hx hb dX11_prize_19 (by decide) ?_
    obtain rfl := Option.some.inj h
    exact g_iret C hP hD hS dX11_prize_24
theorem in_X11_share_X11 : ∀ w ∈ wsX110, w ∈ wsX11_share := by decide +kernel
theorem mb_X11_share_0 : Cond.constant RX11 113 (-1000000003) ∈ wsX11_share := List.mem_of_getElem? (i := 4) rfl
theorem mb_X11_share_1 : Cond.fieldLink RX11 29 "GuardDeskModel" "parts" "[J" ∈ wsX11_share := List.mem_of_getElem? (i := 2) rfl
theorem mb_X11_share_2 : Cond.fieldLink RX11 97 "GuardDeskModel" "whole" "J" ∈ wsX11_share := List.mem_of_getElem? (i := 3) rfl
theorem mb_X11_share_3 : Cond.constant RX11 55 (-1000000002) ∈ wsX11_share := List.mem_of_getElem? (i := 1) rfl
set_option maxRecDepth 100000 in
set_option maxHeartbeats 4000000 in
theorem c_X11_share (l : Launch) (D : va_G) (cI cJ cZ cG : ClassId) (a_x a_x_now a_x_kept a_x_sortOf a_x_sizeOf a_x_sheets a_x_parts a_x_edge a_x_far a_x_lost : Nat) (x_isKept : Int32) (x_host : Int32) (x_below : Int32) (x_bestTarget : Int32) (x_high : Int64) (x_low : Int64) (x_whole : Int64) (x_tryHigh : Int64) (x_tryLow : Int64) (x_lots : Int32) (x_now : (Nat → Int32)) (x_parts : (Nat → Int64)) (p1 : Int32) (N : Nat) (q : Int32 × Int32 × Int32 × Int64 × Int64 × Int64 × Int64 × Int64 × (Nat → Int64)) (h : f_X11_share N x_below x_bestTarget x_high x_low x_whole x_tryHigh x_tryLow x_now x_parts p1 = some q) : gMet l yX11_share wsX11_share rm_X11_share [.ref a_x, .int p1] (w_X11_share cI cJ cZ cG a_x a_x_now a_x_kept a_x_sortOf a_x_sizeOf a_x_sheets a_x_parts a_x_edge a_x_far a_x_lost x_isKept x_host x_below x_bestTarget x_high x_low x_whole x_tryHigh x_tryLow x_lots x_now x_parts) (w_X11_share cI cJ cZ cG a_x a_x_now a_x_kept a_x_sortOf a_x_sizeOf a_x_sheets a_x_parts a_x_edge a_x_far a_x_lost x_isKept x_host q.2.1 q.2.2.1 q.2.2.2.1 q.2.2.2.2.1 q.2.2.2.2.2.1 q.2.2.2.2.2.2.1 q.2.2.2.2.2.2.2.1 x_lots x_now q.2.2.2.2.2.2.2.2) (some (.int q.1)) D cI cJ cZ cG := by
  refine g_enter (cc := cX11_share) (nL := 2) (ret := (some .int)) (by decide) rfl (Nat.le_of_ble_eq_true rfl) ?_
  intro p e s m below meth c A C H locs ls hP hD hS hl
  obtain ⟨hx, hb, hr, hml, hown, hts, hlk, hgk, hA⟩ := id C
  have hK := hgk.1
  have hl : lv_has ls 2 [(0, .ref a_x), (1, .int p1)] := hl
  unfold f_X11_share at h
  refine lv_aload_n hx hb dX11_share_0 rfl (lv_at hl 0 rfl) ?_
  refine lv_iload_n hx hb dX11_share_1 rfl (lv_at hl 1 rfl) ?_
  obtain ⟨q1, e1, h⟩ := bd_some h
  refine g_callV (index := 56) (maxL := 2) (n := 1) (As := [.int p1]) (rest := []) (st1 := [.int q1]) (C1 := RX11) (T1 := TX11) (N1 := 19) (ws2 := (w_X11_share cI cJ cZ cG a_x a_x_now a_x_kept a_x_sortOf a_x_sizeOf a_x_sheets a_x_parts a_x_edge a_x_far a_x_lost x_isKept x_host x_below x_bestTarget x_high x_low x_whole x_tryHigh x_tryLow x_lots x_now x_parts)) C hP hD hS hl.1 11 0 (c_X11_isTarget l D cI cJ cZ cG a_x a_x_now a_x_kept a_x_sortOf a_x_sizeOf a_x_sheets a_x_parts a_x_edge a_x_far a_x_lost x_isKept x_host x_below x_bestTarget x_high x_low x_whole x_tryHigh x_tryLow x_lots x_now p1 q1 e1) gX11_share_X11_isTarget rfl rfl rfl (by decide +kernel) ⟨Nat.le_of_ble_eq_true rfl, Nat.le_of_ble_eq_true rfl⟩ rfl rfl rfl (Nat.le_of_ble_eq_true rfl) rfl dX11_share_2 [0, 1] [2] [1, 2, 0] rfl rfl rfl rfl (by decide) rfl rfl rfl (fun H locs hP hD hS => ?_)
  refine lv_if_ne (tgt := 11) hx hb dX11_share_5 (by decide) (fun c2 => ?_) (fun c2 => ?_)
  · have h := iff_ c2 h
    refine lv_aload_n hx hb dX11_share_11 rfl (lv_at hl 0 rfl) ?_
    obtain ⟨q3, e3, h⟩ := bd_some h
    refine g_callV (index := 109) (maxL := 8) (n := 0) (As := []) (rest := []) (st1 := [.int q3.1]) (C1 := RX11) (T1 := TX11) (N1 := 19) (ws2 := (w_X11_share cI cJ cZ cG a_x a_x_now a_x_kept a_x_sortOf a_x_sizeOf a_x_sheets a_x_parts a_x_edge a_x_far a_x_lost x_isKept x_host x_below q3.2.1 q3.2.2.1 q3.2.2.2.1 q3.2.2.2.2.1 q3.2.2.2.2.2.1 q3.2.2.2.2.2.2.1 x_lots x_now q3.2.2.2.2.2.2.2)) C hP hD hS hl.1 11 0 (c_X11_findBest l D cI cJ cZ cG a_x a_x_now a_x_kept a_x_sortOf a_x_sizeOf a_x_sheets a_x_parts a_x_edge a_x_far a_x_lost x_isKept x_host x_below x_bestTarget x_high x_low x_whole x_tryHigh x_tryLow x_lots x_now x_parts N q3 e3) gX11_share_X11_findBest rfl rfl rfl (by decide +kernel) ⟨Nat.le_of_ble_eq_true rfl, Nat.le_of_ble_eq_true rfl⟩ rfl rfl rfl (Nat.le_of_ble_eq_true rfl) rfl dX11_share_12 [0, 1, 2] [] [0, 1, 2] rfl rfl rfl rfl (by decide) rfl rfl rfl (fun H locs hP hD hS => ?_)
    refine lv_if_eq (tgt := 35) hx hb dX11_share_15 (by decide) (fun c4 => ?_) (fun c4 => ?_)
    · have h := ift c4 h
      refine lv_ldc (v := (-1000000003)) hx hb hown (hts _ mb_X11_share_0) dX11_share_35 ?_
      obtain rfl := Option.some.inj h
      exact g_iret C hP hD hS dX11_share_37
    · have h := iff_ c4 h
      refine lv_aload_n hx hb dX11_share_18 rfl (lv_at hl 0 rfl) ?_
      refine lv_aload_n hx hb dX11_share_19 rfl (lv_at hl 0 rfl) ?_
      refine va_get (D := D) (ci := 11) (v := .ref a_x_parts) (C := RX11) (T := TX11) (N := 19) hx hb hts in_X11_share_X11 hown hK hP 0 rfl rfl 12 (by decide) (hts _ mb_X11_share_1) (fun _ h9 => h9) rfl dX11_share_20 ?_
      refine lv_iload_n hx hb dX11_share_23 rfl (lv_at hl 1 rfl) ?_
      obtain ⟨i5, h⟩ := gI_some h
      refine va_lald hx hb hK hP 2 1 rfl rfl i5 dX11_share_24 ?_
      refine lv_aload_n hx hb dX11_share_25 rfl (lv_at hl 0 rfl) ?_
      refine va_get (D := D) (ci := 11) (v := .long q3.2.2.2.2.1) (C := RX11) (T := TX11) (N := 19) hx hb hts in_X11_share_X11 hown hK hP 0 rfl rfl 11 (by decide) (hts _ mb_X11_share_2) (fun _ h9 => h9) rfl dX11_share_26 ?_
      obtain ⟨q6, e6, h⟩ := bd_some h
      refine g_callV (index := 114) (maxL := 7) (n := 2) (As := [.long (q3.2.2.2.2.2.2.2 p1.toNatClampNeg), .long q3.2.2.2.2.1]) (rest := []) (st1 := [.int q6.1]) (C1 := RX11) (T1 := TX11) (N1 := 19) (ws2 := (w_X11_share cI cJ cZ cG a_x a_x_now a_x_kept a_x_sortOf a_x_sizeOf a_x_sheets a_x_parts a_x_edge a_x_far a_x_lost x_isKept x_host q6.2 q3.2.1 q3.2.2.1 q3.2.2.2.1 q3.2.2.2.2.1 q3.2.2.2.2.2.1 q3.2.2.2.2.2.2.1 x_lots x_now q3.2.2.2.2.2.2.2)) C hP hD hS hl.1 11 0 (c_X11_fraction l D cI cJ cZ cG a_x a_x_now a_x_kept a_x_sortOf a_x_sizeOf a_x_sheets a_x_parts a_x_edge a_x_far a_x_lost x_isKept x_host x_below q3.2.1 q3.2.2.1 q3.2.2.2.1 q3.2.2.2.2.1 q3.2.2.2.2.2.1 q3.2.2.2.2.2.2.1 x_lots (q3.2.2.2.2.2.2.2 p1.toNatClampNeg) q3.2.2.2.2.1 N q6 e6) gX11_share_X11_fraction rfl rfl rfl (by decide +kernel) ⟨Nat.le_of_ble_eq_true rfl, Nat.le_of_ble_eq_true rfl⟩ rfl rfl rfl (Nat.le_of_ble_eq_true rfl) rfl dX11_share_29 [0] [1, 2] [2, 0, 1] rfl rfl rfl rfl (by decide) rfl rfl rfl (fun H locs hP hD hS => ?_)
      refine lv_goto (tgt := 37) hx hb dX11_share_32 (by decide) ?_
      obtain rfl := Option.some.inj h
      exact g_iret C hP hD hS dX11_share_37
  · have h := ift c2 h
    refine lv_ldc (v := (-1000000002)) hx hb hown (hts _ mb_X11_share_3) dX11_share_8 ?_
    obtain rfl := Option.some.inj h
    exact g_iret C hP hD hS dX11_share_10
theorem in_X11_below_X11 : ∀ w ∈ wsX110, w ∈ wsX11_below := by decide +kernel
theorem mb_X11_below_0 : Cond.fieldLink RX11 16 "GuardDeskModel" "below" "I" ∈ wsX11_below := List.mem_of_getElem? (i := 1) rfl
set_option maxRecDepth 100000 in
set_option maxHeartbeats 4000000 in
theorem c_X11_below (l : Launch) (D : va_G) (cI cJ cZ cG : ClassId) (a_x a_x_now a_x_kept a_x_sortOf a_x_sizeOf a_x_sheets a_x_parts a_x_edge a_x_far a_x_lost : Nat) (x_isKept : Int32) (x_host : Int32) (x_below : Int32) (x_bestTarget : Int32) (x_high : Int64) (x_low : Int64) (x_whole : Int64) (x_tryHigh : Int64) (x_tryLow : Int64) (x_lots : Int32) (q : Int32) (h : f_X11_below x_below = q) : gMet l yX11_below wsX11_below rm_X11_below [.ref a_x] (w_X11_below cI cJ cZ cG a_x a_x_now a_x_kept a_x_sortOf a_x_sizeOf a_x_sheets a_x_parts a_x_edge a_x_far a_x_lost x_isKept x_host x_below x_bestTarget x_high x_low x_whole x_tryHigh x_tryLow x_lots) (w_X11_below cI cJ cZ cG a_x a_x_now a_x_kept a_x_sortOf a_x_sizeOf a_x_sheets a_x_parts a_x_edge a_x_far a_x_lost x_isKept x_host x_below x_bestTarget x_high x_low x_whole x_tryHigh x_tryLow x_lots) (some (.int q)) D cI cJ cZ cG := by
  refine g_enter (cc := cX11_below) (nL := 1) (ret := (some .int)) (by decide) rfl (Nat.le_of_ble_eq_true rfl) ?_
  intro p e s m below meth c A C H locs ls hP hD hS hl
  obtain ⟨hx, hb, hr, hml, hown, hts, hlk, hgk, hA⟩ := id C
  have hK := hgk.1
  have hl : lv_has ls 1 [(0, .ref a_x)] := hl
  unfold f_X11_below at h
  refine lv_aload_n hx hb dX11_below_0 rfl (lv_at hl 0 rfl) ?_
  refine va_get (D := D) (ci := 11) (v := .int x_below) (C := RX11) (T := TX11) (N := 19) hx hb hts in_X11_below_X11 hown hK hP 0 rfl rfl 4 (by decide) (hts _ mb_X11_below_0) (fun _ h9 => h9) rfl dX11_below_1 ?_
  obtain rfl := h
  exact g_iret C hP hD hS dX11_below_4
theorem in_X11_put_X11 : ∀ w ∈ wsX110, w ∈ wsX11_put := by decide +kernel
theorem mb_X11_put_0 : Cond.constant RX11 55 (-1000000002) ∈ wsX11_put := List.mem_of_getElem? (i := 2) rfl
theorem mb_X11_put_1 : Cond.fieldLink RX11 9 "GuardDeskModel" "now" "[I" ∈ wsX11_put := List.mem_of_getElem? (i := 1) rfl
set_option maxRecDepth 100000 in
set_option maxHeartbeats 4000000 in
theorem c_X11_put (l : Launch) (D : va_G) (cI cJ cZ cG : ClassId) (a_x a_x_now a_x_kept a_x_sortOf a_x_sizeOf a_x_sheets a_x_parts a_x_edge a_x_far a_x_lost : Nat) (x_isKept : Int32) (x_host : Int32) (x_below : Int32) (x_bestTarget : Int32) (x_high : Int64) (x_low : Int64) (x_whole : Int64) (x_tryHigh : Int64) (x_tryLow : Int64) (x_lots : Int32) (x_now : (Nat → Int32)) (p1 : Int32) (p2 : Int32) (q : Int32 × (Nat → Int32)) (h : f_X11_put x_now p1 p2 = some q) : gMet l yX11_put wsX11_put rm_X11_put [.ref a_x, .int p1, .int p2] (w_X11_put cI cJ cZ cG a_x a_x_now a_x_kept a_x_sortOf a_x_sizeOf a_x_sheets a_x_parts a_x_edge a_x_far a_x_lost x_isKept x_host x_below x_bestTarget x_high x_low x_whole x_tryHigh x_tryLow x_lots x_now) (w_X11_put cI cJ cZ cG a_x a_x_now a_x_kept a_x_sortOf a_x_sizeOf a_x_sheets a_x_parts a_x_edge a_x_far a_x_lost x_isKept x_host x_below x_bestTarget x_high x_low x_whole x_tryHigh x_tryLow x_lots q.2) (some (.int q.1)) D cI cJ cZ cG := by
  refine g_enter (cc := cX11_put) (nL := 4) (ret := (some .int)) (by decide) rfl (Nat.le_of_ble_eq_true rfl) ?_
  intro p e s m below meth c A C H locs ls hP hD hS hl
  obtain ⟨hx, hb, hr, hml, hown, hts, hlk, hgk, hA⟩ := id C
  have hK := hgk.1
  have hl : lv_has ls 4 [(0, .ref a_x), (1, .int p1), (2, .int p2)] := hl
  unfold f_X11_put at h
  refine lv_aload_n hx hb dX11_put_0 rfl (lv_at hl 0 rfl) ?_
  refine lv_iload_n hx hb dX11_put_1 rfl (lv_at hl 1 rfl) ?_
  obtain ⟨q1, e1, h⟩ := bd_some h
  refine g_callV (index := 56) (maxL := 2) (n := 1) (As := [.int p1]) (rest := []) (st1 := [.int q1]) (C1 := RX11) (T1 := TX11) (N1 := 19) (ws2 := (w_X11_put cI cJ cZ cG a_x a_x_now a_x_kept a_x_sortOf a_x_sizeOf a_x_sheets a_x_parts a_x_edge a_x_far a_x_lost x_isKept x_host x_below x_bestTarget x_high x_low x_whole x_tryHigh x_tryLow x_lots x_now)) C hP hD hS hl.1 11 0 (c_X11_isTarget l D cI cJ cZ cG a_x a_x_now a_x_kept a_x_sortOf a_x_sizeOf a_x_sheets a_x_parts a_x_edge a_x_far a_x_lost x_isKept x_host x_below x_bestTarget x_high x_low x_whole x_tryHigh x_tryLow x_lots x_now p1 q1 e1) gX11_put_X11_isTarget rfl rfl rfl (by decide +kernel) ⟨Nat.le_of_ble_eq_true rfl, Nat.le_of_ble_eq_true rfl⟩ rfl rfl rfl (Nat.le_of_ble_eq_true rfl) rfl dX11_put_2 [0, 1] [] [0, 1] rfl rfl rfl rfl (by decide) rfl rfl rfl (fun H locs hP hD hS => ?_)
  refine lv_if_eq (tgt := 33) hx hb dX11_put_5 (by decide) (fun c2 => ?_) (fun c2 => ?_)
  · have h := ift c2 h
    refine lv_ldc (v := (-1000000002)) hx hb hown (hts _ mb_X11_put_0) dX11_put_33 ?_
    obtain rfl := Option.some.inj h
    exact g_iret C hP hD hS dX11_put_35
  · have h := iff_ c2 h
    refine lv_iload_n hx hb dX11_put_8 rfl (lv_at hl 2 rfl) ?_
    refine lv_aload_n hx hb dX11_put_9 rfl (lv_at hl 0 rfl) ?_
    refine va_get (D := D) (ci := 11) (v := .ref a_x_now) (C := RX11) (T := TX11) (N := 19) hx hb hts in_X11_put_X11 hown hK hP 0 rfl rfl 0 (by decide) (hts _ mb_X11_put_1) (fun _ h9 => h9) rfl dX11_put_10 ?_
    refine lv_bipush (v := 55) hx hb dX11_put_13 (by decide) ?_
    refine lv_iload_n hx hb dX11_put_15 rfl (lv_at hl 1 rfl) ?_
    refine lv_iadd hx hb dX11_put_16 ?_
    obtain ⟨i3, h⟩ := gI_some h
    refine va_iald hx hb hK hP 1 0 rfl rfl i3 dX11_put_17 ?_
    refine lv_aload_n hx hb dX11_put_18 rfl (lv_at hl 0 rfl) ?_
    refine va_get (D := D) (ci := 11) (v := .ref a_x_now) (C := RX11) (T := TX11) (N := 19) hx hb hts in_X11_put_X11 hown hK hP 0 rfl rfl 0 (by decide) (hts _ mb_X11_put_1) (fun _ h9 => h9) rfl dX11_put_19 ?_
    refine lv_bipush (v := 65) hx hb dX11_put_22 (by decide) ?_
    refine lv_iload_n hx hb dX11_put_24 rfl (lv_at hl 1 rfl) ?_
    refine lv_iadd hx hb dX11_put_25 ?_
    obtain ⟨i4, h⟩ := gI_some h
    refine va_iald hx hb hK hP 1 0 rfl rfl i4 dX11_put_26 ?_
    refine g_callS0 (index := 47) (maxL := 3) (n := 3) (As := [.int p2, .int (x_now (55 + p1).toNatClampNeg), .int (x_now (65 + p1).toNatClampNeg)]) (rest := []) (st1 := [.int (f_X11_within p2 (x_now (55 + p1).toNatClampNeg) (x_now (65 + p1).toNatClampNeg))]) C hP hS hl.1 (c_X11_within l D cI cJ cZ cG p2 (x_now (55 + p1).toNatClampNeg) (x_now (65 + p1).toNatClampNeg) _ rfl) gX11_put_X11_within rfl rfl rfl (by decide +kernel) ⟨Nat.le_of_ble_eq_true rfl, Nat.le_of_ble_eq_true rfl⟩ rfl (Nat.le_of_ble_eq_true rfl) rfl dX11_put_27 rfl (fun H locs hP hS => ?_)
    refine lv_if_ne (tgt := 36) hx hb dX11_put_30 (by decide) (fun c5 => ?_) (fun c5 => ?_)
    · have h := iff_ c5 h
      refine lv_aload_n hx hb dX11_put_36 rfl (lv_at hl 0 rfl) ?_
      refine va_get (D := D) (ci := 11) (v := .ref a_x_now) (C := RX11) (T := TX11) (N := 19) hx hb hts in_X11_put_X11 hown hK hP 0 rfl rfl 0 (by decide) (hts _ mb_X11_put_1) (fun _ h9 => h9) rfl dX11_put_37 ?_
      refine lv_bipush (v := 75) hx hb dX11_put_40 (by decide) ?_
      refine lv_iload_n hx hb dX11_put_42 rfl (lv_at hl 1 rfl) ?_
      refine lv_iadd hx hb dX11_put_43 ?_
      obtain ⟨i6, h⟩ := gI_some h
      refine va_iald hx hb hK hP 1 0 rfl rfl i6 dX11_put_44 ?_
      refine lv_istore_n (lv' := [(3, .int (x_now (75 + p1).toNatClampNeg)), (0, .ref a_x), (1, .int p1), (2, .int p2)]) hx hb dX11_put_45 rfl hl (by decide) rfl (fun ls hl => ?_)
      refine lv_aload_n hx hb dX11_put_46 rfl (lv_at hl 1 rfl) ?_
      refine va_get (D := D) (ci := 11) (v := .ref a_x_now) (C := RX11) (T := TX11) (N := 19) hx hb hts in_X11_put_X11 hown hK hP 0 rfl rfl 0 (by decide) (hts _ mb_X11_put_1) (fun _ h9 => h9) rfl dX11_put_47 ?_
      refine lv_bipush (v := 75) hx hb dX11_put_50 (by decide) ?_
      refine lv_iload_n hx hb dX11_put_52 rfl (lv_at hl 2 rfl) ?_
      refine lv_iadd hx hb dX11_put_53 ?_
      refine lv_iload_n hx hb dX11_put_54 rfl (lv_at hl 3 rfl) ?_
      obtain ⟨i7, h⟩ := gI_some h
      refine va_iast hx hb hK hP hD hS 1 0 rfl rfl i7 dX11_put_55 (fun H locs hP hD hS => ?_)
      have hP : va_P D vwCl (w_X11_put cI cJ cZ cG a_x a_x_now a_x_kept a_x_sortOf a_x_sizeOf a_x_sheets a_x_parts a_x_edge a_x_far a_x_lost x_isKept x_host x_below x_bestTarget x_high x_low x_whole x_tryHigh x_tryLow x_lots (upd x_now (75 + p1).toNatClampNeg p2)) H := hP
      have hD : va_D A (w_X11_put cI cJ cZ cG a_x a_x_now a_x_kept a_x_sortOf a_x_sizeOf a_x_sheets a_x_parts a_x_edge a_x_far a_x_lost x_isKept x_host x_below x_bestTarget x_high x_low x_whole x_tryHigh x_tryLow x_lots (upd x_now (75 + p1).toNatClampNeg p2)) := hD
      refine lv_iload_n hx hb dX11_put_56 rfl (lv_at hl 0 rfl) ?_
      obtain rfl := Option.some.inj h
      exact g_iret C hP hD hS dX11_put_57
    · have h := ift c5 h
      refine lv_ldc (v := (-1000000002)) hx hb hown (hts _ mb_X11_put_0) dX11_put_33 ?_
      obtain rfl := Option.some.inj h
      exact g_iret C hP hD hS dX11_put_35
theorem in_X11_spare_X11 : ∀ w ∈ wsX110, w ∈ wsX11_spare := by decide +kernel
theorem mb_X11_spare_0 : Cond.fieldLink RX11 9 "GuardDeskModel" "now" "[I" ∈ wsX11_spare := List.mem_of_getElem? (i := 1) rfl
set_option maxRecDepth 100000 in
set_option maxHeartbeats 4000000 in
theorem t_X11_spare_b12 (C : cx D cI cJ cZ cG A cX11_spare 3 (some .int) RX11 wsX11_spare p s m args meth c) (a_x a_x_now a_x_kept a_x_sortOf a_x_sizeOf a_x_sheets a_x_parts a_x_edge a_x_far a_x_lost : Nat) (x_isKept : Int32) (x_host : Int32) (x_below : Int32) (x_bestTarget : Int32) (x_high : Int64) (x_low : Int64) (x_whole : Int64) (x_tryHigh : Int64) (x_tryLow : Int64) (x_lots : Int32) (x_now : (Nat → Int32)) (N : Nat) (q : Int32) : ∀ (n : Nat) (v1 : Int32) (v2 : Int32), f_X11_spare_b12 N x_now n v1 v2 = some q → WB p l e rm_X11_spare s m args below meth c (MQ below (Qg D (some (.int q)) (w_X11_spare cI cJ cZ cG a_x a_x_now a_x_kept a_x_sortOf a_x_sizeOf a_x_sheets a_x_parts a_x_edge a_x_far a_x_lost x_isKept x_host x_below x_bestTarget x_high x_low x_whole x_tryHigh x_tryLow x_lots x_now) A) args s 0 0 A) D A 3 (w_X11_spare cI cJ cZ cG a_x a_x_now a_x_kept a_x_sortOf a_x_sizeOf a_x_sheets a_x_parts a_x_edge a_x_far a_x_lost x_isKept x_host x_below x_bestTarget x_high x_low x_whole x_tryHigh x_tryLow x_lots x_now) [(0, .ref a_x), (1, .int v1), (2, .int v2)] [] 12 := by
  obtain ⟨hx, hb, hr, hml, hown, hts, hlk, hgk, hA⟩ := id C
  have hK := hgk.1
  intro n
  induction n with
  | zero => intro v1 v2 h; cases h
  | succ n hk_12 =>
    intro v1 v2 h
    have h : g_X11_spare_b12 N x_now (f_X11_spare_b12 N x_now n) v1 v2 = some q := h
    generalize f_X11_spare_b12 N x_now n = k_12 at h hk_12
    unfold g_X11_spare_b12 at h
    intro H locs ls hP hD hS hl
    refine lv_iload_n hx hb dX11_spare_12 rfl (lv_at hl 2 rfl) ?_
    refine lv_aload_n hx hb dX11_spare_13 rfl (lv_at hl 0 rfl) ?_
    refine va_get (D := D) (ci := 11) (v := .ref a_x_now) (C := RX11) (T := TX11) (N := 19) hx hb hts in_X11_spare_X11 hown hK hP 0 rfl rfl 0 (by decide) (hts _ mb_X11_spare_0) (fun _ h9 => h9) rfl dX11_spare_14 ?_
    refine lv_iconst (v := 0) hx hb dX11_spare_17 (by decide) ?_
    refine va_iald hx hb hK hP 1 0 rfl rfl (g_lit (i := 0) (n := 194) (by decide)) dX11_spare_18 ?_
    refine W.eq (g2 := F0 m 19 ls [.int (x_now 0), .int v2]) rfl ?_
    refine lv_icmp_ge (tgt := 40) hx hb dX11_spare_19 (by decide) (fun c1 => ?_) (fun c1 => ?_)
    · have h := ift c1 h
      refine lv_iload_n hx hb dX11_spare_40 rfl (lv_at hl 1 rfl) ?_
      obtain rfl := Option.some.inj h
      exact g_iret C hP hD hS dX11_spare_41
    · have h := iff_ c1 h
      refine lv_iload_n hx hb dX11_spare_22 rfl (lv_at hl 1 rfl) ?_
      refine lv_aload_n hx hb dX11_spare_23 rfl (lv_at hl 0 rfl) ?_
      refine va_get (D := D) (ci := 11) (v := .ref a_x_now) (C := RX11) (T := TX11) (N := 19) hx hb hts in_X11_spare_X11 hown hK hP 0 rfl rfl 0 (by decide) (hts _ mb_X11_spare_0) (fun _ h9 => h9) rfl dX11_spare_24 ?_
      refine lv_bipush (v := 75) hx hb dX11_spare_27 (by decide) ?_
      refine lv_iload_n hx hb dX11_spare_29 rfl (lv_at hl 2 rfl) ?_
      refine lv_iadd hx hb dX11_spare_30 ?_
      obtain ⟨i2, h⟩ := gI_some h
      refine va_iald hx hb hK hP 1 0 rfl rfl i2 dX11_spare_31 ?_
      refine lv_iadd hx hb dX11_spare_32 ?_
      refine lv_istore_n (lv' := [(1, .int (v1 + (x_now (75 + v2).toNatClampNeg))), (0, .ref a_x), (2, .int v2)]) hx hb dX11_spare_33 rfl hl (by decide) rfl (fun ls hl => ?_)
      refine lv_iinc (v := v2 + 1) (lv' := [(2, .int (v2 + 1)), (1, .int (v1 + (x_now (75 + v2).toNatClampNeg))), (0, .ref a_x)]) hx hb dX11_spare_34 hl (k := 2) rfl rfl (by decide) rfl (fun ls hl => ?_)
      refine lv_goto (tgt := 12) hx hb dX11_spare_37 (by decide) ?_
      exact hk_12 (v1 + (x_now (75 + v2).toNatClampNeg)) (v2 + 1) h H locs ls hP hD hS (lv_sub hl [2, 1, 0] rfl)
set_option maxRecDepth 100000 in
set_option maxHeartbeats 4000000 in
theorem c_X11_spare (l : Launch) (D : va_G) (cI cJ cZ cG : ClassId) (a_x a_x_now a_x_kept a_x_sortOf a_x_sizeOf a_x_sheets a_x_parts a_x_edge a_x_far a_x_lost : Nat) (x_isKept : Int32) (x_host : Int32) (x_below : Int32) (x_bestTarget : Int32) (x_high : Int64) (x_low : Int64) (x_whole : Int64) (x_tryHigh : Int64) (x_tryLow : Int64) (x_lots : Int32) (x_now : (Nat → Int32)) (N : Nat) (q : Int32) (h : f_X11_spare N x_now = some q) : gMet l yX11_spare wsX11_spare rm_X11_spare [.ref a_x] (w_X11_spare cI cJ cZ cG a_x a_x_now a_x_kept a_x_sortOf a_x_sizeOf a_x_sheets a_x_parts a_x_edge a_x_far a_x_lost x_isKept x_host x_below x_bestTarget x_high x_low x_whole x_tryHigh x_tryLow x_lots x_now) (w_X11_spare cI cJ cZ cG a_x a_x_now a_x_kept a_x_sortOf a_x_sizeOf a_x_sheets a_x_parts a_x_edge a_x_far a_x_lost x_isKept x_host x_below x_bestTarget x_high x_low x_whole x_tryHigh x_tryLow x_lots x_now) (some (.int q)) D cI cJ cZ cG := by
  refine g_enter (cc := cX11_spare) (nL := 3) (ret := (some .int)) (by decide) rfl (Nat.le_of_ble_eq_true rfl) ?_
  intro p e s m below meth c A C H locs ls hP hD hS hl
  obtain ⟨hx, hb, hr, hml, hown, hts, hlk, hgk, hA⟩ := id C
  have hK := hgk.1
  have hl : lv_has ls 3 [(0, .ref a_x)] := hl
  unfold f_X11_spare at h
  refine lv_bipush (v := (-60)) hx hb dX11_spare_0 (by decide) ?_
  refine lv_aload_n hx hb dX11_spare_2 rfl (lv_at hl 0 rfl) ?_
  refine va_get (D := D) (ci := 11) (v := .ref a_x_now) (C := RX11) (T := TX11) (N := 19) hx hb hts in_X11_spare_X11 hown hK hP 0 rfl rfl 0 (by decide) (hts _ mb_X11_spare_0) (fun _ h9 => h9) rfl dX11_spare_3 ?_
  refine lv_iconst (v := 1) hx hb dX11_spare_6 (by decide) ?_
  refine va_iald hx hb hK hP 1 0 rfl rfl (g_lit (i := 1) (n := 194) (by decide)) dX11_spare_7 ?_
  refine W.eq (g2 := F0 m 8 ls [.int (x_now 1), .int (-60)]) rfl ?_
  refine lv_imul hx hb dX11_spare_8 ?_
  refine lv_istore_n (lv' := [(1, .int ((-60) * (x_now 1))), (0, .ref a_x)]) hx hb dX11_spare_9 rfl hl (by decide) rfl (fun ls hl => ?_)
  refine lv_iconst (v := 0) hx hb dX11_spare_10 (by decide) ?_
  refine lv_istore_n (lv' := [(2, .int 0), (1, .int ((-60) * (x_now 1))), (0, .ref a_x)]) hx hb dX11_spare_11 rfl hl (by decide) rfl (fun ls hl => ?_)
  exact t_X11_spare_b12 C a_x a_x_now a_x_kept a_x_sortOf a_x_sizeOf a_x_sheets a_x_parts a_x_edge a_x_far a_x_lost x_isKept x_host x_below x_bestTarget x_high x_low x_whole x_tryHigh x_tryLow x_lots x_now N q N ((-60) * (x_now 1)) 0 h H locs ls hP hD hS (lv_sub hl [2, 1, 0] rfl)
theorem in_X11_toThief_X11 : ∀ w ∈ wsX110, w ∈ wsX11_toThief := by decide +kernel
theorem mb_X11_toThief_0 : Cond.fieldLink RX11 9 "GuardDeskModel" "now" "[I" ∈ wsX11_toThief := List.mem_of_getElem? (i := 1) rfl
set_option maxRecDepth 100000 in
set_option maxHeartbeats 4000000 in
theorem c_X11_toThief (l : Launch) (D : va_G) (cI cJ cZ cG : ClassId) (a_x a_x_now a_x_kept a_x_sortOf a_x_sizeOf a_x_sheets a_x_parts a_x_edge a_x_far a_x_lost : Nat) (x_isKept : Int32) (x_host : Int32) (x_below : Int32) (x_bestTarget : Int32) (x_high : Int64) (x_low : Int64) (x_whole : Int64) (x_tryHigh : Int64) (x_tryLow : Int64) (x_lots : Int32) (x_now : (Nat → Int32)) (p1 : Int32) (q : Int32) (h : f_X11_toThief x_now p1 = some q) : gMet l yX11_toThief wsX11_toThief rm_X11_toThief [.ref a_x, .int p1] (w_X11_toThief cI cJ cZ cG a_x a_x_now a_x_kept a_x_sortOf a_x_sizeOf a_x_sheets a_x_parts a_x_edge a_x_far a_x_lost x_isKept x_host x_below x_bestTarget x_high x_low x_whole x_tryHigh x_tryLow x_lots x_now) (w_X11_toThief cI cJ cZ cG a_x a_x_now a_x_kept a_x_sortOf a_x_sizeOf a_x_sheets a_x_parts a_x_edge a_x_far a_x_lost x_isKept x_host x_below x_bestTarget x_high x_low x_whole x_tryHigh x_tryLow x_lots x_now) (some (.int q)) D cI cJ cZ cG := by
  refine g_enter (cc := cX11_toThief) (nL := 2) (ret := (some .int)) (by decide) rfl (Nat.le_of_ble_eq_true rfl) ?_
  intro p e s m below meth c A C H locs ls hP hD hS hl
  obtain ⟨hx, hb, hr, hml, hown, hts, hlk, hgk, hA⟩ := id C
  have hK := hgk.1
  have hl : lv_has ls 2 [(0, .ref a_x), (1, .int p1)] := hl
  unfold f_X11_toThief at h
  refine lv_bipush (v := 60) hx hb dX11_toThief_0 (by decide) ?_
  refine lv_aload_n hx hb dX11_toThief_2 rfl (lv_at hl 0 rfl) ?_
  refine va_get (D := D) (ci := 11) (v := .ref a_x_now) (C := RX11) (T := TX11) (N := 19) hx hb hts in_X11_toThief_X11 hown hK hP 0 rfl rfl 0 (by decide) (hts _ mb_X11_toThief_0) (fun _ h9 => h9) rfl dX11_toThief_3 ?_
  refine lv_bipush (v := 35) hx hb dX11_toThief_6 (by decide) ?_
  refine lv_iload_n hx hb dX11_toThief_8 rfl (lv_at hl 1 rfl) ?_
  refine lv_iadd hx hb dX11_toThief_9 ?_
  obtain ⟨i1, h⟩ := gI_some h
  refine va_iald hx hb hK hP 1 0 rfl rfl i1 dX11_toThief_10 ?_
  refine lv_imul hx hb dX11_toThief_11 ?_
  refine lv_aload_n hx hb dX11_toThief_12 rfl (lv_at hl 0 rfl) ?_
  refine va_get (D := D) (ci := 11) (v := .ref a_x_now) (C := RX11) (T := TX11) (N := 19) hx hb hts in_X11_toThief_X11 hown hK hP 0 rfl rfl 0 (by decide) (hts _ mb_X11_toThief_0) (fun _ h9 => h9) rfl dX11_toThief_13 ?_
  refine lv_bipush (v := 75) hx hb dX11_toThief_16 (by decide) ?_
  refine lv_iload_n hx hb dX11_toThief_18 rfl (lv_at hl 1 rfl) ?_
  refine lv_iadd hx hb dX11_toThief_19 ?_
  obtain ⟨i2, h⟩ := gI_some h
  refine va_iald hx hb hK hP 1 0 rfl rfl i2 dX11_toThief_20 ?_
  refine lv_aload_n hx hb dX11_toThief_21 rfl (lv_at hl 0 rfl) ?_
  refine va_get (D := D) (ci := 11) (v := .ref a_x_now) (C := RX11) (T := TX11) (N := 19) hx hb hts in_X11_toThief_X11 hown hK hP 0 rfl rfl 0 (by decide) (hts _ mb_X11_toThief_0) (fun _ h9 => h9) rfl dX11_toThief_22 ?_
  refine lv_bipush (v := 45) hx hb dX11_toThief_25 (by decide) ?_
  refine lv_iload_n hx hb dX11_toThief_27 rfl (lv_at hl 1 rfl) ?_
  refine lv_iadd hx hb dX11_toThief_28 ?_
  obtain ⟨i3, h⟩ := gI_some h
  refine va_iald hx hb hK hP 1 0 rfl rfl i3 dX11_toThief_29 ?_
  refine lv_imul hx hb dX11_toThief_30 ?_
  refine lv_isub hx hb dX11_toThief_31 ?_
  obtain rfl := Option.some.inj h
  exact g_iret C hP hD hS dX11_toThief_32
theorem in_X11_toKeeper_X11 : ∀ w ∈ wsX110, w ∈ wsX11_toKeeper := by decide +kernel
theorem mb_X11_toKeeper_0 : Cond.fieldLink RX11 9 "GuardDeskModel" "now" "[I" ∈ wsX11_toKeeper := List.mem_of_getElem? (i := 1) rfl
set_option maxRecDepth 100000 in
set_option maxHeartbeats 4000000 in
theorem c_X11_toKeeper (l : Launch) (D : va_G) (cI cJ cZ cG : ClassId) (a_x a_x_now a_x_kept a_x_sortOf a_x_sizeOf a_x_sheets a_x_parts a_x_edge a_x_far a_x_lost : Nat) (x_isKept : Int32) (x_host : Int32) (x_below : Int32) (x_bestTarget : Int32) (x_high : Int64) (x_low : Int64) (x_whole : Int64) (x_tryHigh : Int64) (x_tryLow : Int64) (x_lots : Int32) (x_now : (Nat → Int32)) (p1 : Int32) (q : Int32) (h : f_X11_toKeeper x_now p1 = some q) : gMet l yX11_toKeeper wsX11_toKeeper rm_X11_toKeeper [.ref a_x, .int p1] (w_X11_toKeeper cI cJ cZ cG a_x a_x_now a_x_kept a_x_sortOf a_x_sizeOf a_x_sheets a_x_parts a_x_edge a_x_far a_x_lost x_isKept x_host x_below x_bestTarget x_high x_low x_whole x_tryHigh x_tryLow x_lots x_now) (w_X11_toKeeper cI cJ cZ cG a_x a_x_now a_x_kept a_x_sortOf a_x_sizeOf a_x_sheets a_x_parts a_x_edge a_x_far a_x_lost x_isKept x_host x_below x_bestTarget x_high x_low x_whole x_tryHigh x_tryLow x_lots x_now) (some (.int q)) D cI cJ cZ cG := by
  refine g_enter (cc := cX11_toKeeper) (nL := 2) (ret := (some .int)) (by decide) rfl (Nat.le_of_ble_eq_true rfl) ?_
  intro p e s m below meth c A C H locs ls hP hD hS hl
  obtain ⟨hx, hb, hr, hml, hown, hts, hlk, hgk, hA⟩ := id C
  have hK := hgk.1
  have hl : lv_has ls 2 [(0, .ref a_x), (1, .int p1)] := hl
  unfold f_X11_toKeeper at h
  refine lv_bipush (v := 60) hx hb dX11_toKeeper_0 (by decide) ?_
  refine lv_aload_n hx hb dX11_toKeeper_2 rfl (lv_at hl 0 rfl) ?_
  refine va_get (D := D) (ci := 11) (v := .ref a_x_now) (C := RX11) (T := TX11) (N := 19) hx hb hts in_X11_toKeeper_X11 hown hK hP 0 rfl rfl 0 (by decide) (hts _ mb_X11_toKeeper_0) (fun _ h9 => h9) rfl dX11_toKeeper_3 ?_
  refine lv_bipush (v := 25) hx hb dX11_toKeeper_6 (by decide) ?_
  refine lv_iload_n hx hb dX11_toKeeper_8 rfl (lv_at hl 1 rfl) ?_
  refine lv_iadd hx hb dX11_toKeeper_9 ?_
  obtain ⟨i1, h⟩ := gI_some h
  refine va_iald hx hb hK hP 1 0 rfl rfl i1 dX11_toKeeper_10 ?_
  refine lv_imul hx hb dX11_toKeeper_11 ?_
  refine lv_aload_n hx hb dX11_toKeeper_12 rfl (lv_at hl 0 rfl) ?_
  refine va_get (D := D) (ci := 11) (v := .ref a_x_now) (C := RX11) (T := TX11) (N := 19) hx hb hts in_X11_toKeeper_X11 hown hK hP 0 rfl rfl 0 (by decide) (hts _ mb_X11_toKeeper_0) (fun _ h9 => h9) rfl dX11_toKeeper_13 ?_
  refine lv_bipush (v := 75) hx hb dX11_toKeeper_16 (by decide) ?_
  refine lv_iload_n hx hb dX11_toKeeper_18 rfl (lv_at hl 1 rfl) ?_
  refine lv_iadd hx hb dX11_toKeeper_19 ?_
  obtain ⟨i2, h⟩ := gI_some h
  refine va_iald hx hb hK hP 1 0 rfl rfl i2 dX11_toKeeper_20 ?_
  refine lv_aload_n hx hb dX11_toKeeper_21 rfl (lv_at hl 0 rfl) ?_
  refine va_get (D := D) (ci := 11) (v := .ref a_x_now) (C := RX11) (T := TX11) (N := 19) hx hb hts in_X11_toKeeper_X11 hown hK hP 0 rfl rfl 0 (by decide) (hts _ mb_X11_toKeeper_0) (fun _ h9 => h9) rfl dX11_toKeeper_22 ?_
  refine lv_bipush (v := 15) hx hb dX11_toKeeper_25 (by decide) ?_
  refine lv_iload_n hx hb dX11_toKeeper_27 rfl (lv_at hl 1 rfl) ?_
  refine lv_iadd hx hb dX11_toKeeper_28 ?_
  obtain ⟨i3, h⟩ := gI_some h
  refine va_iald hx hb hK hP 1 0 rfl rfl i3 dX11_toKeeper_29 ?_
  refine lv_aload_n hx hb dX11_toKeeper_30 rfl (lv_at hl 0 rfl) ?_
  refine va_get (D := D) (ci := 11) (v := .ref a_x_now) (C := RX11) (T := TX11) (N := 19) hx hb hts in_X11_toKeeper_X11 hown hK hP 0 rfl rfl 0 (by decide) (hts _ mb_X11_toKeeper_0) (fun _ h9 => h9) rfl dX11_toKeeper_31 ?_
  refine lv_bipush (v := 25) hx hb dX11_toKeeper_34 (by decide) ?_
  refine lv_iload_n hx hb dX11_toKeeper_36 rfl (lv_at hl 1 rfl) ?_
  refine lv_iadd hx hb dX11_toKeeper_37 ?_
  obtain ⟨i4, h⟩ := gI_some h
  refine va_iald hx hb hK hP 1 0 rfl rfl i4 dX11_toKeeper_38 ?_
  refine lv_isub hx hb dX11_toKeeper_39 ?_
  refine lv_imul hx hb dX11_toKeeper_40 ?_
  refine lv_iadd hx hb dX11_toKeeper_41 ?_
  obtain rfl := Option.some.inj h
  exact g_iret C hP hD hS dX11_toKeeper_42
theorem in_X11_comesTo_X11 : ∀ w ∈ wsX110, w ∈ wsX11_comesTo := by decide +kernel
theorem mb_X11_comesTo_0 : Cond.fieldLink RX11 9 "GuardDeskModel" "now" "[I" ∈ wsX11_comesTo := List.mem_of_getElem? (i := 1) rfl
set_option maxRecDepth 100000 in
set_option maxHeartbeats 4000000 in
theorem t_X11_comesTo_b62 (C : cx D cI cJ cZ cG A cX11_comesTo 4 (some .int) RX11 wsX11_comesTo p s m args meth c) (a_x a_x_now a_x_kept a_x_sortOf a_x_sizeOf a_x_sheets a_x_parts a_x_edge a_x_far a_x_lost : Nat) (x_isKept : Int32) (x_host : Int32) (x_below : Int32) (x_bestTarget : Int32) (x_high : Int64) (x_low : Int64) (x_whole : Int64) (x_tryHigh : Int64) (x_tryLow : Int64) (x_lots : Int32) (x_now : (Nat → Int32)) (N : Nat) (q : Int32) (k0 : Int32) (v1 : Int32) (v2 : Int32) (k_4 : Int32 → Int32 → Option (Int32)) (hk_4 : ∀ (v1 : Int32) (v2 : Int32), k_4 v1 v2 = some q → WB p l e rm_X11_comesTo s m args below meth c (MQ below (Qg D (some (.int q)) (w_X11_comesTo cI cJ cZ cG a_x a_x_now a_x_kept a_x_sortOf a_x_sizeOf a_x_sheets a_x_parts a_x_edge a_x_far a_x_lost x_isKept x_host x_below x_bestTarget x_high x_low x_whole x_tryHigh x_tryLow x_lots x_now) A) args s 0 0 A) D A 4 (w_X11_comesTo cI cJ cZ cG a_x a_x_now a_x_kept a_x_sortOf a_x_sizeOf a_x_sheets a_x_parts a_x_edge a_x_far a_x_lost x_isKept x_host x_below x_bestTarget x_high x_low x_whole x_tryHigh x_tryLow x_lots x_now) [(0, .ref a_x), (1, .int v1), (2, .int v2)] [] 4) (h : f_X11_comesTo_b62 N x_now k_4 k0 v1 v2 = some q) : WB p l e rm_X11_comesTo s m args below meth c (MQ below (Qg D (some (.int q)) (w_X11_comesTo cI cJ cZ cG a_x a_x_now a_x_kept a_x_sortOf a_x_sizeOf a_x_sheets a_x_parts a_x_edge a_x_far a_x_lost x_isKept x_host x_below x_bestTarget x_high x_low x_whole x_tryHigh x_tryLow x_lots x_now) A) args s 0 0 A) D A 4 (w_X11_comesTo cI cJ cZ cG a_x a_x_now a_x_kept a_x_sortOf a_x_sizeOf a_x_sheets a_x_parts a_x_edge a_x_far a_x_lost x_isKept x_host x_below x_bestTarget x_high x_low x_whole x_tryHigh x_tryLow x_lots x_now) [(0, .ref a_x), (1, .int v1), (2, .int v2)] [.int k0] 62 := by
  obtain ⟨hx, hb, hr, hml, hown, hts, hlk, hgk, hA⟩ := id C
  have hK := hgk.1
  unfold f_X11_comesTo_b62 at h
  intro H locs ls hP hD hS hl
  refine lv_istore_n (lv' := [(3, .int k0), (0, .ref a_x), (1, .int v1), (2, .int v2)]) hx hb dX11_comesTo_62 rfl hl (by decide) rfl (fun ls hl => ?_)
  refine lv_iload_n hx hb dX11_comesTo_63 rfl (lv_at hl 0 rfl) ?_
  refine lv_if_eq (tgt := 71) hx hb dX11_comesTo_64 (by decide) (fun c1 => ?_) (fun c1 => ?_)
  · have h := ift c1 h
    refine lv_iload_n hx hb dX11_comesTo_71 rfl (lv_at hl 2 rfl) ?_
    refine lv_istore_n (lv' := [(1, .int v1), (3, .int k0), (0, .ref a_x), (2, .int v2)]) hx hb dX11_comesTo_72 rfl hl (by decide) rfl (fun ls hl => ?_)
    refine lv_iinc (v := v2 + 1) (lv' := [(2, .int (v2 + 1)), (1, .int v1), (3, .int k0), (0, .ref a_x)]) hx hb dX11_comesTo_73 hl (k := 3) rfl rfl (by decide) rfl (fun ls hl => ?_)
    refine lv_goto (tgt := 4) hx hb dX11_comesTo_76 (by decide) ?_
    exact hk_4 v1 (v2 + 1) h H locs ls hP hD hS (lv_sub hl [3, 1, 0] rfl)
  · have h := iff_ c1 h
    refine lv_iload_n hx hb dX11_comesTo_67 rfl (lv_at hl 3 rfl) ?_
    refine lv_goto (tgt := 72) hx hb dX11_comesTo_68 (by decide) ?_
    refine lv_istore_n (lv' := [(1, .int v2), (3, .int k0), (0, .ref a_x), (2, .int v2)]) hx hb dX11_comesTo_72 rfl hl (by decide) rfl (fun ls hl => ?_)
    refine lv_iinc (v := v2 + 1) (lv' := [(2, .int (v2 + 1)), (1, .int v2), (3, .int k0), (0, .ref a_x)]) hx hb dX11_comesTo_73 hl (k := 3) rfl rfl (by decide) rfl (fun ls hl => ?_)
    refine lv_goto (tgt := 4) hx hb dX11_comesTo_76 (by decide) ?_
    exact hk_4 v2 (v2 + 1) h H locs ls hP hD hS (lv_sub hl [3, 1, 0] rfl)
set_option maxRecDepth 100000 in
set_option maxHeartbeats 4000000 in
theorem t_X11_comesTo_b61 (C : cx D cI cJ cZ cG A cX11_comesTo 4 (some .int) RX11 wsX11_comesTo p s m args meth c) (a_x a_x_now a_x_kept a_x_sortOf a_x_sizeOf a_x_sheets a_x_parts a_x_edge a_x_far a_x_lost : Nat) (x_isKept : Int32) (x_host : Int32) (x_below : Int32) (x_bestTarget : Int32) (x_high : Int64) (x_low : Int64) (x_whole : Int64) (x_tryHigh : Int64) (x_tryLow : Int64) (x_lots : Int32) (x_now : (Nat → Int32)) (N : Nat) (q : Int32) (v1 : Int32) (v2 : Int32) (k_4 : Int32 → Int32 → Option (Int32)) (hk_4 : ∀ (v1 : Int32) (v2 : Int32), k_4 v1 v2 = some q → WB p l e rm_X11_comesTo s m args below meth c (MQ below (Qg D (some (.int q)) (w_X11_comesTo cI cJ cZ cG a_x a_x_now a_x_kept a_x_sortOf a_x_sizeOf a_x_sheets a_x_parts a_x_edge a_x_far a_x_lost x_isKept x_host x_below x_bestTarget x_high x_low x_whole x_tryHigh x_tryLow x_lots x_now) A) args s 0 0 A) D A 4 (w_X11_comesTo cI cJ cZ cG a_x a_x_now a_x_kept a_x_sortOf a_x_sizeOf a_x_sheets a_x_parts a_x_edge a_x_far a_x_lost x_isKept x_host x_below x_bestTarget x_high x_low x_whole x_tryHigh x_tryLow x_lots x_now) [(0, .ref a_x), (1, .int v1), (2, .int v2)] [] 4) (h : f_X11_comesTo_b61 N x_now k_4 v1 v2 = some q) : WB p l e rm_X11_comesTo s m args below meth c (MQ below (Qg D (some (.int q)) (w_X11_comesTo cI cJ cZ cG a_x a_x_now a_x_kept a_x_sortOf a_x_sizeOf a_x_sheets a_x_parts a_x_edge a_x_far a_x_lost x_isKept x_host x_below x_bestTarget x_high x_low x_whole x_tryHigh x_tryLow x_lots x_now) A) args s 0 0 A) D A 4 (w_X11_comesTo cI cJ cZ cG a_x a_x_now a_x_kept a_x_sortOf a_x_sizeOf a_x_sheets a_x_parts a_x_edge a_x_far a_x_lost x_isKept x_host x_below x_bestTarget x_high x_low x_whole x_tryHigh x_tryLow x_lots x_now) [(0, .ref a_x), (1, .int v1), (2, .int v2)] [] 61 := by
  obtain ⟨hx, hb, hr, hml, hown, hts, hlk, hgk, hA⟩ := id C
  have hK := hgk.1
  unfold f_X11_comesTo_b61 at h
  intro H locs ls hP hD hS hl
  refine lv_iconst (v := 0) hx hb dX11_comesTo_61 (by decide) ?_
  exact t_X11_comesTo_b62 C a_x a_x_now a_x_kept a_x_sortOf a_x_sizeOf a_x_sheets a_x_parts a_x_edge a_x_far a_x_lost x_isKept x_host x_below x_bestTarget x_high x_low x_whole x_tryHigh x_tryLow x_lots x_now N q 0 v1 v2 k_4 hk_4 h H locs ls hP hD hS (lv_sub hl [0, 1, 2] rfl)
set_option maxRecDepth 100000 in
set_option maxHeartbeats 4000000 in
theorem t_X11_comesTo_b57 (C : cx D cI cJ cZ cG A cX11_comesTo 4 (some .int) RX11 wsX11_comesTo p s m args meth c) (a_x a_x_now a_x_kept a_x_sortOf a_x_sizeOf a_x_sheets a_x_parts a_x_edge a_x_far a_x_lost : Nat) (x_isKept : Int32) (x_host : Int32) (x_below : Int32) (x_bestTarget : Int32) (x_high : Int64) (x_low : Int64) (x_whole : Int64) (x_tryHigh : Int64) (x_tryLow : Int64) (x_lots : Int32) (x_now : (Nat → Int32)) (N : Nat) (q : Int32) (v1 : Int32) (v2 : Int32) (k_4 : Int32 → Int32 → Option (Int32)) (hk_4 : ∀ (v1 : Int32) (v2 : Int32), k_4 v1 v2 = some q → WB p l e rm_X11_comesTo s m args below meth c (MQ below (Qg D (some (.int q)) (w_X11_comesTo cI cJ cZ cG a_x a_x_now a_x_kept a_x_sortOf a_x_sizeOf a_x_sheets a_x_parts a_x_edge a_x_far a_x_lost x_isKept x_host x_below x_bestTarget x_high x_low x_whole x_tryHigh x_tryLow x_lots x_now) A) args s 0 0 A) D A 4 (w_X11_comesTo cI cJ cZ cG a_x a_x_now a_x_kept a_x_sortOf a_x_sizeOf a_x_sheets a_x_parts a_x_edge a_x_far a_x_lost x_isKept x_host x_below x_bestTarget x_high x_low x_whole x_tryHigh x_tryLow x_lots x_now) [(0, .ref a_x), (1, .int v1), (2, .int v2)] [] 4) (h : f_X11_comesTo_b57 N x_now k_4 v1 v2 = some q) : WB p l e rm_X11_comesTo s m args below meth c (MQ below (Qg D (some (.int q)) (w_X11_comesTo cI cJ cZ cG a_x a_x_now a_x_kept a_x_sortOf a_x_sizeOf a_x_sheets a_x_parts a_x_edge a_x_far a_x_lost x_isKept x_host x_below x_bestTarget x_high x_low x_whole x_tryHigh x_tryLow x_lots x_now) A) args s 0 0 A) D A 4 (w_X11_comesTo cI cJ cZ cG a_x a_x_now a_x_kept a_x_sortOf a_x_sizeOf a_x_sheets a_x_parts a_x_edge a_x_far a_x_lost x_isKept x_host x_below x_bestTarget x_high x_low x_whole x_tryHigh x_tryLow x_lots x_now) [(0, .ref a_x), (1, .int v1), (2, .int v2)] [] 57 := by
  obtain ⟨hx, hb, hr, hml, hown, hts, hlk, hgk, hA⟩ := id C
  have hK := hgk.1
  unfold f_X11_comesTo_b57 at h
  intro H locs ls hP hD hS hl
  refine lv_iconst (v := 1) hx hb dX11_comesTo_57 (by decide) ?_
  refine lv_goto (tgt := 62) hx hb dX11_comesTo_58 (by decide) ?_
  exact t_X11_comesTo_b62 C a_x a_x_now a_x_kept a_x_sortOf a_x_sizeOf a_x_sheets a_x_parts a_x_edge a_x_far a_x_lost x_isKept x_host x_below x_bestTarget x_high x_low x_whole x_tryHigh x_tryLow x_lots x_now N q 1 v1 v2 k_4 hk_4 h H locs ls hP hD hS (lv_sub hl [0, 1, 2] rfl)
set_option maxRecDepth 100000 in
set_option maxHeartbeats 4000000 in
theorem t_X11_comesTo_b4 (C : cx D cI cJ cZ cG A cX11_comesTo 4 (some .int) RX11 wsX11_comesTo p s m args meth c) (a_x a_x_now a_x_kept a_x_sortOf a_x_sizeOf a_x_sheets a_x_parts a_x_edge a_x_far a_x_lost : Nat) (x_isKept : Int32) (x_host : Int32) (x_below : Int32) (x_bestTarget : Int32) (x_high : Int64) (x_low : Int64) (x_whole : Int64) (x_tryHigh : Int64) (x_tryLow : Int64) (x_lots : Int32) (x_now : (Nat → Int32)) (N : Nat) (q : Int32) : ∀ (n : Nat) (v1 : Int32) (v2 : Int32), f_X11_comesTo_b4 N x_now n v1 v2 = some q → WB p l e rm_X11_comesTo s m args below meth c (MQ below (Qg D (some (.int q)) (w_X11_comesTo cI cJ cZ cG a_x a_x_now a_x_kept a_x_sortOf a_x_sizeOf a_x_sheets a_x_parts a_x_edge a_x_far a_x_lost x_isKept x_host x_below x_bestTarget x_high x_low x_whole x_tryHigh x_tryLow x_lots x_now) A) args s 0 0 A) D A 4 (w_X11_comesTo cI cJ cZ cG a_x a_x_now a_x_kept a_x_sortOf a_x_sizeOf a_x_sheets a_x_parts a_x_edge a_x_far a_x_lost x_isKept x_host x_below x_bestTarget x_high x_low x_whole x_tryHigh x_tryLow x_lots x_now) [(0, .ref a_x), (1, .int v1), (2, .int v2)] [] 4 := by
  obtain ⟨hx, hb, hr, hml, hown, hts, hlk, hgk, hA⟩ := id C
  have hK := hgk.1
  intro n
  induction n with
  | zero => intro v1 v2 h; cases h
  | succ n hk_4 =>
    intro v1 v2 h
    have h : g_X11_comesTo_b4 N x_now (f_X11_comesTo_b4 N x_now n) v1 v2 = some q := h
    generalize f_X11_comesTo_b4 N x_now n = k_4 at h hk_4
    unfold g_X11_comesTo_b4 at h
    intro H locs ls hP hD hS hl
    refine lv_iload_n hx hb dX11_comesTo_4 rfl (lv_at hl 2 rfl) ?_
    refine lv_aload_n hx hb dX11_comesTo_5 rfl (lv_at hl 0 rfl) ?_
    refine va_get (D := D) (ci := 11) (v := .ref a_x_now) (C := RX11) (T := TX11) (N := 19) hx hb hts in_X11_comesTo_X11 hown hK hP 0 rfl rfl 0 (by decide) (hts _ mb_X11_comesTo_0) (fun _ h9 => h9) rfl dX11_comesTo_6 ?_
    refine lv_iconst (v := 0) hx hb dX11_comesTo_9 (by decide) ?_
    refine va_iald hx hb hK hP 1 0 rfl rfl (g_lit (i := 0) (n := 194) (by decide)) dX11_comesTo_10 ?_
    refine W.eq (g2 := F0 m 11 ls [.int (x_now 0), .int v2]) rfl ?_
    refine lv_icmp_ge (tgt := 79) hx hb dX11_comesTo_11 (by decide) (fun c1 => ?_) (fun c1 => ?_)
    · have h := ift c1 h
      refine lv_iload_n hx hb dX11_comesTo_79 rfl (lv_at hl 1 rfl) ?_
      obtain rfl := Option.some.inj h
      exact g_iret C hP hD hS dX11_comesTo_80
    · have h := iff_ c1 h
      refine lv_iload_n hx hb dX11_comesTo_14 rfl (lv_at hl 1 rfl) ?_
      refine lv_if_lt (tgt := 57) hx hb dX11_comesTo_15 (by decide) (fun c2 => ?_) (fun c2 => ?_)
      · have h := ift c2 h
        exact t_X11_comesTo_b57 C a_x a_x_now a_x_kept a_x_sortOf a_x_sizeOf a_x_sheets a_x_parts a_x_edge a_x_far a_x_lost x_isKept x_host x_below x_bestTarget x_high x_low x_whole x_tryHigh x_tryLow x_lots x_now N q v1 v2 k_4 hk_4 h H locs ls hP hD hS (lv_sub hl [0, 1, 2] rfl)
      · have h := iff_ c2 h
        refine lv_aload_n hx hb dX11_comesTo_18 rfl (lv_at hl 0 rfl) ?_
        refine lv_iload_n hx hb dX11_comesTo_19 rfl (lv_at hl 2 rfl) ?_
        obtain ⟨q3, e3, h⟩ := bd_some h
        refine g_callV (index := 118) (maxL := 2) (n := 1) (As := [.int v2]) (rest := []) (st1 := [.int q3]) (C1 := RX11) (T1 := TX11) (N1 := 19) (ws2 := (w_X11_comesTo cI cJ cZ cG a_x a_x_now a_x_kept a_x_sortOf a_x_sizeOf a_x_sheets a_x_parts a_x_edge a_x_far a_x_lost x_isKept x_host x_below x_bestTarget x_high x_low x_whole x_tryHigh x_tryLow x_lots x_now)) C hP hD hS hl.1 11 0 (c_X11_toThief l D cI cJ cZ cG a_x a_x_now a_x_kept a_x_sortOf a_x_sizeOf a_x_sheets a_x_parts a_x_edge a_x_far a_x_lost x_isKept x_host x_below x_bestTarget x_high x_low x_whole x_tryHigh x_tryLow x_lots x_now v2 q3 e3) gX11_comesTo_X11_toThief rfl rfl rfl (by decide +kernel) ⟨Nat.le_of_ble_eq_true rfl, Nat.le_of_ble_eq_true rfl⟩ rfl rfl rfl (Nat.le_of_ble_eq_true rfl) rfl dX11_comesTo_20 [0, 1] [] [0, 1] rfl rfl rfl rfl (by decide) rfl rfl rfl (fun H locs hP hD hS => ?_)
        refine lv_aload_n hx hb dX11_comesTo_23 rfl (lv_at hl 0 rfl) ?_
        refine lv_iload_n hx hb dX11_comesTo_24 rfl (lv_at hl 1 rfl) ?_
        obtain ⟨q4, e4, h⟩ := bd_some h
        refine g_callV (index := 118) (maxL := 2) (n := 1) (As := [.int v1]) (rest := [.int q3]) (st1 := [.int q4, .int q3]) (C1 := RX11) (T1 := TX11) (N1 := 19) (ws2 := (w_X11_comesTo cI cJ cZ cG a_x a_x_now a_x_kept a_x_sortOf a_x_sizeOf a_x_sheets a_x_parts a_x_edge a_x_far a_x_lost x_isKept x_host x_below x_bestTarget x_high x_low x_whole x_tryHigh x_tryLow x_lots x_now)) C hP hD hS hl.1 11 0 (c_X11_toThief l D cI cJ cZ cG a_x a_x_now a_x_kept a_x_sortOf a_x_sizeOf a_x_sheets a_x_parts a_x_edge a_x_far a_x_lost x_isKept x_host x_below x_bestTarget x_high x_low x_whole x_tryHigh x_tryLow x_lots x_now v1 q4 e4) gX11_comesTo_X11_toThief rfl rfl rfl (by decide +kernel) ⟨Nat.le_of_ble_eq_true rfl, Nat.le_of_ble_eq_true rfl⟩ rfl rfl rfl (Nat.le_of_ble_eq_true rfl) rfl dX11_comesTo_25 [0, 1] [] [0, 1] rfl rfl rfl rfl (by decide) rfl rfl rfl (fun H locs hP hD hS => ?_)
        refine lv_icmp_gt (tgt := 57) hx hb dX11_comesTo_28 (by decide) (fun c5 => ?_) (fun c5 => ?_)
        · have h := ift c5 h
          exact t_X11_comesTo_b57 C a_x a_x_now a_x_kept a_x_sortOf a_x_sizeOf a_x_sheets a_x_parts a_x_edge a_x_far a_x_lost x_isKept x_host x_below x_bestTarget x_high x_low x_whole x_tryHigh x_tryLow x_lots x_now N q v1 v2 k_4 hk_4 h H locs ls hP hD hS (lv_sub hl [0, 1, 2] rfl)
        · have h := iff_ c5 h
          refine lv_aload_n hx hb dX11_comesTo_31 rfl (lv_at hl 0 rfl) ?_
          refine lv_iload_n hx hb dX11_comesTo_32 rfl (lv_at hl 2 rfl) ?_
          obtain ⟨q6, e6, h⟩ := bd_some h
          refine g_callV (index := 118) (maxL := 2) (n := 1) (As := [.int v2]) (rest := []) (st1 := [.int q6]) (C1 := RX11) (T1 := TX11) (N1 := 19) (ws2 := (w_X11_comesTo cI cJ cZ cG a_x a_x_now a_x_kept a_x_sortOf a_x_sizeOf a_x_sheets a_x_parts a_x_edge a_x_far a_x_lost x_isKept x_host x_below x_bestTarget x_high x_low x_whole x_tryHigh x_tryLow x_lots x_now)) C hP hD hS hl.1 11 0 (c_X11_toThief l D cI cJ cZ cG a_x a_x_now a_x_kept a_x_sortOf a_x_sizeOf a_x_sheets a_x_parts a_x_edge a_x_far a_x_lost x_isKept x_host x_below x_bestTarget x_high x_low x_whole x_tryHigh x_tryLow x_lots x_now v2 q6 e6) gX11_comesTo_X11_toThief rfl rfl rfl (by decide +kernel) ⟨Nat.le_of_ble_eq_true rfl, Nat.le_of_ble_eq_true rfl⟩ rfl rfl rfl (Nat.le_of_ble_eq_true rfl) rfl dX11_comesTo_33 [0, 1] [] [0, 1] rfl rfl rfl rfl (by decide) rfl rfl rfl (fun H locs hP hD hS => ?_)
          refine lv_aload_n hx hb dX11_comesTo_36 rfl (lv_at hl 0 rfl) ?_
          refine lv_iload_n hx hb dX11_comesTo_37 rfl (lv_at hl 1 rfl) ?_
          obtain ⟨q7, e7, h⟩ := bd_some h
          refine g_callV (index := 118) (maxL := 2) (n := 1) (As := [.int v1]) (rest := [.int q6]) (st1 := [.int q7, .int q6]) (C1 := RX11) (T1 := TX11) (N1 := 19) (ws2 := (w_X11_comesTo cI cJ cZ cG a_x a_x_now a_x_kept a_x_sortOf a_x_sizeOf a_x_sheets a_x_parts a_x_edge a_x_far a_x_lost x_isKept x_host x_below x_bestTarget x_high x_low x_whole x_tryHigh x_tryLow x_lots x_now)) C hP hD hS hl.1 11 0 (c_X11_toThief l D cI cJ cZ cG a_x a_x_now a_x_kept a_x_sortOf a_x_sizeOf a_x_sheets a_x_parts a_x_edge a_x_far a_x_lost x_isKept x_host x_below x_bestTarget x_high x_low x_whole x_tryHigh x_tryLow x_lots x_now v1 q7 e7) gX11_comesTo_X11_toThief rfl rfl rfl (by decide +kernel) ⟨Nat.le_of_ble_eq_true rfl, Nat.le_of_ble_eq_true rfl⟩ rfl rfl rfl (Nat.le_of_ble_eq_true rfl) rfl dX11_comesTo_38 [0, 1] [] [0, 1] rfl rfl rfl rfl (by decide) rfl rfl rfl (fun H locs hP hD hS => ?_)
          refine lv_icmp_ne (tgt := 61) hx hb dX11_comesTo_41 (by decide) (fun c8 => ?_) (fun c8 => ?_)
          · have h := iff_ c8 h
            exact t_X11_comesTo_b61 C a_x a_x_now a_x_kept a_x_sortOf a_x_sizeOf a_x_sheets a_x_parts a_x_edge a_x_far a_x_lost x_isKept x_host x_below x_bestTarget x_high x_low x_whole x_tryHigh x_tryLow x_lots x_now N q v1 v2 k_4 hk_4 h H locs ls hP hD hS (lv_sub hl [0, 1, 2] rfl)
          · have h := ift c8 h
            refine lv_aload_n hx hb dX11_comesTo_44 rfl (lv_at hl 0 rfl) ?_
            refine lv_iload_n hx hb dX11_comesTo_45 rfl (lv_at hl 2 rfl) ?_
            obtain ⟨q9, e9, h⟩ := bd_some h
            refine g_callV (index := 121) (maxL := 2) (n := 1) (As := [.int v2]) (rest := []) (st1 := [.int q9]) (C1 := RX11) (T1 := TX11) (N1 := 19) (ws2 := (w_X11_comesTo cI cJ cZ cG a_x a_x_now a_x_kept a_x_sortOf a_x_sizeOf a_x_sheets a_x_parts a_x_edge a_x_far a_x_lost x_isKept x_host x_below x_bestTarget x_high x_low x_whole x_tryHigh x_tryLow x_lots x_now)) C hP hD hS hl.1 11 0 (c_X11_toKeeper l D cI cJ cZ cG a_x a_x_now a_x_kept a_x_sortOf a_x_sizeOf a_x_sheets a_x_parts a_x_edge a_x_far a_x_lost x_isKept x_host x_below x_bestTarget x_high x_low x_whole x_tryHigh x_tryLow x_lots x_now v2 q9 e9) gX11_comesTo_X11_toKeeper rfl rfl rfl (by decide +kernel) ⟨Nat.le_of_ble_eq_true rfl, Nat.le_of_ble_eq_true rfl⟩ rfl rfl rfl (Nat.le_of_ble_eq_true rfl) rfl dX11_comesTo_46 [0, 1] [] [0, 1] rfl rfl rfl rfl (by decide) rfl rfl rfl (fun H locs hP hD hS => ?_)
            refine lv_aload_n hx hb dX11_comesTo_49 rfl (lv_at hl 0 rfl) ?_
            refine lv_iload_n hx hb dX11_comesTo_50 rfl (lv_at hl 1 rfl) ?_
            obtain ⟨q10, e10, h⟩ := bd_some h
            refine g_callV (index := 121) (maxL := 2) (n := 1) (As := [.int v1]) (rest := [.int q9]) (st1 := [.int q10, .int q9]) (C1 := RX11) (T1 := TX11) (N1 := 19) (ws2 := (w_X11_comesTo cI cJ cZ cG a_x a_x_now a_x_kept a_x_sortOf a_x_sizeOf a_x_sheets a_x_parts a_x_edge a_x_far a_x_lost x_isKept x_host x_below x_bestTarget x_high x_low x_whole x_tryHigh x_tryLow x_lots x_now)) C hP hD hS hl.1 11 0 (c_X11_toKeeper l D cI cJ cZ cG a_x a_x_now a_x_kept a_x_sortOf a_x_sizeOf a_x_sheets a_x_parts a_x_edge a_x_far a_x_lost x_isKept x_host x_below x_bestTarget x_high x_low x_whole x_tryHigh x_tryLow x_lots x_now v1 q10 e10) gX11_comesTo_X11_toKeeper rfl rfl rfl (by decide +kernel) ⟨Nat.le_of_ble_eq_true rfl, Nat.le_of_ble_eq_true rfl⟩ rfl rfl rfl (Nat.le_of_ble_eq_true rfl) rfl dX11_comesTo_51 [0, 1] [] [0, 1] rfl rfl rfl rfl (by decide) rfl rfl rfl (fun H locs hP hD hS => ?_)
            refine lv_icmp_le (tgt := 61) hx hb dX11_comesTo_54 (by decide) (fun c11 => ?_) (fun c11 => ?_)
            · have h := ift c11 h
              exact t_X11_comesTo_b61 C a_x a_x_now a_x_kept a_x_sortOf a_x_sizeOf a_x_sheets a_x_parts a_x_edge a_x_far a_x_lost x_isKept x_host x_below x_bestTarget x_high x_low x_whole x_tryHigh x_tryLow x_lots x_now N q v1 v2 k_4 hk_4 h H locs ls hP hD hS (lv_sub hl [0, 1, 2] rfl)
            · have h := iff_ c11 h
              exact t_X11_comesTo_b57 C a_x a_x_now a_x_kept a_x_sortOf a_x_sizeOf a_x_sheets a_x_parts a_x_edge a_x_far a_x_lost x_isKept x_host x_below x_bestTarget x_high x_low x_whole x_tryHigh x_tryLow x_lots x_now N q v1 v2 k_4 hk_4 h H locs ls hP hD hS (lv_sub hl [0, 1, 2] rfl)
set_option maxRecDepth 100000 in
set_option maxHeartbeats 4000000 in
theorem c_X11_comesTo (l : Launch) (D : va_G) (cI cJ cZ cG : ClassId) (a_x a_x_now a_x_kept a_x_sortOf a_x_sizeOf a_x_sheets a_x_parts a_x_edge a_x_far a_x_lost : Nat) (x_isKept : Int32) (x_host : Int32) (x_below : Int32) (x_bestTarget : Int32) (x_high : Int64) (x_low : Int64) (x_whole : Int64) (x_tryHigh : Int64) (x_tryLow : Int64) (x_lots : Int32) (x_now : (Nat → Int32)) (N : Nat) (q : Int32) (h : f_X11_comesTo N x_now = some q) : gMet l yX11_comesTo wsX11_comesTo rm_X11_comesTo [.ref a_x] (w_X11_comesTo cI cJ cZ cG a_x a_x_now a_x_kept a_x_sortOf a_x_sizeOf a_x_sheets a_x_parts a_x_edge a_x_far a_x_lost x_isKept x_host x_below x_bestTarget x_high x_low x_whole x_tryHigh x_tryLow x_lots x_now) (w_X11_comesTo cI cJ cZ cG a_x a_x_now a_x_kept a_x_sortOf a_x_sizeOf a_x_sheets a_x_parts a_x_edge a_x_far a_x_lost x_isKept x_host x_below x_bestTarget x_high x_low x_whole x_tryHigh x_tryLow x_lots x_now) (some (.int q)) D cI cJ cZ cG := by
  refine g_enter (cc := cX11_comesTo) (nL := 4) (ret := (some .int)) (by decide) rfl (Nat.le_of_ble_eq_true rfl) ?_
  intro p e s m below meth c A C H locs ls hP hD hS hl
  obtain ⟨hx, hb, hr, hml, hown, hts, hlk, hgk, hA⟩ := id C
  have hK := hgk.1
  have hl : lv_has ls 4 [(0, .ref a_x)] := hl
  unfold f_X11_comesTo at h
  refine lv_iconst (v := (-1)) hx hb dX11_comesTo_0 (by decide) ?_
  refine lv_istore_n (lv' := [(1, .int (-1)), (0, .ref a_x)]) hx hb dX11_comesTo_1 rfl hl (by decide) rfl (fun ls hl => ?_)
  refine lv_iconst (v := 0) hx hb dX11_comesTo_2 (by decide) ?_
  refine lv_istore_n (lv' := [(2, .int 0), (1, .int (-1)), (0, .ref a_x)]) hx hb dX11_comesTo_3 rfl hl (by decide) rfl (fun ls hl => ?_)
  exact t_X11_comesTo_b4 C a_x a_x_now a_x_kept a_x_sortOf a_x_sizeOf a_x_sheets a_x_parts a_x_edge a_x_far a_x_lost x_isKept x_host x_below x_bestTarget x_high x_low x_whole x_tryHigh x_tryLow x_lots x_now N q N (-1) 0 h H locs ls hP hD hS (lv_sub hl [2, 1, 0] rfl)
theorem mb_X11_comes_0 : Cond.constant RX11 113 (-1000000003) ∈ wsX11_comes := List.mem_of_getElem? (i := 1) rfl
set_option maxRecDepth 100000 in
set_option maxHeartbeats 4000000 in
theorem c_X11_comes (l : Launch) (D : va_G) (cI cJ cZ cG : ClassId) (a_x a_x_now a_x_kept a_x_sortOf a_x_sizeOf a_x_sheets a_x_parts a_x_edge a_x_far a_x_lost : Nat) (x_isKept : Int32) (x_host : Int32) (x_below : Int32) (x_bestTarget : Int32) (x_high : Int64) (x_low : Int64) (x_whole : Int64) (x_tryHigh : Int64) (x_tryLow : Int64) (x_lots : Int32) (x_now : (Nat → Int32)) (N : Nat) (q : Int32) (h : f_X11_comes N x_now = some q) : gMet l yX11_comes wsX11_comes rm_X11_comes [.ref a_x] (w_X11_comes cI cJ cZ cG a_x a_x_now a_x_kept a_x_sortOf a_x_sizeOf a_x_sheets a_x_parts a_x_edge a_x_far a_x_lost x_isKept x_host x_below x_bestTarget x_high x_low x_whole x_tryHigh x_tryLow x_lots x_now) (w_X11_comes cI cJ cZ cG a_x a_x_now a_x_kept a_x_sortOf a_x_sizeOf a_x_sheets a_x_parts a_x_edge a_x_far a_x_lost x_isKept x_host x_below x_bestTarget x_high x_low x_whole x_tryHigh x_tryLow x_lots x_now) (some (.int q)) D cI cJ cZ cG := by
  refine g_enter (cc := cX11_comes) (nL := 2) (ret := (some .int)) (by decide) rfl (Nat.le_of_ble_eq_true rfl) ?_
  intro p e s m below meth c A C H locs ls hP hD hS hl
  obtain ⟨hx, hb, hr, hml, hown, hts, hlk, hgk, hA⟩ := id C
  have hK := hgk.1
  have hl : lv_has ls 2 [(0, .ref a_x)] := hl
  unfold f_X11_comes at h
  refine lv_aload_n hx hb dX11_comes_0 rfl (lv_at hl 0 rfl) ?_
  obtain ⟨q1, e1, h⟩ := bd_some h
  refine g_callV (index := 124) (maxL := 4) (n := 0) (As := []) (rest := []) (st1 := [.int q1]) (C1 := RX11) (T1 := TX11) (N1 := 19) (ws2 := (w_X11_comes cI cJ cZ cG a_x a_x_now a_x_kept a_x_sortOf a_x_sizeOf a_x_sheets a_x_parts a_x_edge a_x_far a_x_lost x_isKept x_host x_below x_bestTarget x_high x_low x_whole x_tryHigh x_tryLow x_lots x_now)) C hP hD hS hl.1 11 0 (c_X11_comesTo l D cI cJ cZ cG a_x a_x_now a_x_kept a_x_sortOf a_x_sizeOf a_x_sheets a_x_parts a_x_edge a_x_far a_x_lost x_isKept x_host x_below x_bestTarget x_high x_low x_whole x_tryHigh x_tryLow x_lots x_now N q1 e1) gX11_comes_X11_comesTo rfl rfl rfl (by decide +kernel) ⟨Nat.le_of_ble_eq_true rfl, Nat.le_of_ble_eq_true rfl⟩ rfl rfl rfl (Nat.le_of_ble_eq_true rfl) rfl dX11_comes_1 [0, 1] [] [0, 1] rfl rfl rfl rfl (by decide) rfl rfl rfl (fun H locs hP hD hS => ?_)
  refine lv_istore_n (lv' := [(1, .int q1), (0, .ref a_x)]) hx hb dX11_comes_4 rfl hl (by decide) rfl (fun ls hl => ?_)
  refine lv_iload_n hx hb dX11_comes_5 rfl (lv_at hl 0 rfl) ?_
  refine lv_if_ge (tgt := 14) hx hb dX11_comes_6 (by decide) (fun c2 => ?_) (fun c2 => ?_)
  · have h := ift c2 h
    refine lv_iload_n hx hb dX11_comes_14 rfl (lv_at hl 0 rfl) ?_
    obtain rfl := Option.some.inj h
    exact g_iret C hP hD hS dX11_comes_15
  · have h := iff_ c2 h
    refine lv_ldc (v := (-1000000003)) hx hb hown (hts _ mb_X11_comes_0) dX11_comes_9 ?_
    refine lv_goto (tgt := 15) hx hb dX11_comes_11 (by decide) ?_
    obtain rfl := Option.some.inj h
    exact g_iret C hP hD hS dX11_comes_15
theorem mb_X11_handWorth_0 : Cond.constantLong RX11 76 (60) ∈ wsX11_handWorth := List.mem_of_getElem? (i := 2) rfl
theorem mb_X11_handWorth_1 : Cond.constant RX11 113 (-1000000003) ∈ wsX11_handWorth := List.mem_of_getElem? (i := 1) rfl
set_option maxRecDepth 100000 in
set_option maxHeartbeats 4000000 in
theorem c_X11_handWorth (l : Launch) (D : va_G) (cI cJ cZ cG : ClassId) (a_x a_x_now a_x_kept a_x_sortOf a_x_sizeOf a_x_sheets a_x_parts a_x_edge a_x_far a_x_lost : Nat) (x_isKept : Int32) (x_host : Int32) (x_below : Int32) (x_bestTarget : Int32) (x_high : Int64) (x_low : Int64) (x_whole : Int64) (x_tryHigh : Int64) (x_tryLow : Int64) (x_lots : Int32) (x_now : (Nat → Int32)) (N : Nat) (q : Int32 × Int32) (h : f_X11_handWorth N x_below x_now = some q) : gMet l yX11_handWorth wsX11_handWorth rm_X11_handWorth [.ref a_x] (w_X11_handWorth cI cJ cZ cG a_x a_x_now a_x_kept a_x_sortOf a_x_sizeOf a_x_sheets a_x_parts a_x_edge a_x_far a_x_lost x_isKept x_host x_below x_bestTarget x_high x_low x_whole x_tryHigh x_tryLow x_lots x_now) (w_X11_handWorth cI cJ cZ cG a_x a_x_now a_x_kept a_x_sortOf a_x_sizeOf a_x_sheets a_x_parts a_x_edge a_x_far a_x_lost x_isKept x_host q.2 x_bestTarget x_high x_low x_whole x_tryHigh x_tryLow x_lots x_now) (some (.int q.1)) D cI cJ cZ cG := by
  refine g_enter (cc := cX11_handWorth) (nL := 2) (ret := (some .int)) (by decide) rfl (Nat.le_of_ble_eq_true rfl) ?_
  intro p e s m below meth c A C H locs ls hP hD hS hl
  obtain ⟨hx, hb, hr, hml, hown, hts, hlk, hgk, hA⟩ := id C
  have hK := hgk.1
  have hl : lv_has ls 2 [(0, .ref a_x)] := hl
  unfold f_X11_handWorth at h
  refine lv_aload_n hx hb dX11_handWorth_0 rfl (lv_at hl 0 rfl) ?_
  obtain ⟨q1, e1, h⟩ := bd_some h
  refine g_callV (index := 124) (maxL := 4) (n := 0) (As := []) (rest := []) (st1 := [.int q1]) (C1 := RX11) (T1 := TX11) (N1 := 19) (ws2 := (w_X11_handWorth cI cJ cZ cG a_x a_x_now a_x_kept a_x_sortOf a_x_sizeOf a_x_sheets a_x_parts a_x_edge a_x_far a_x_lost x_isKept x_host x_below x_bestTarget x_high x_low x_whole x_tryHigh x_tryLow x_lots x_now)) C hP hD hS hl.1 11 0 (c_X11_comesTo l D cI cJ cZ cG a_x a_x_now a_x_kept a_x_sortOf a_x_sizeOf a_x_sheets a_x_parts a_x_edge a_x_far a_x_lost x_isKept x_host x_below x_bestTarget x_high x_low x_whole x_tryHigh x_tryLow x_lots x_now N q1 e1) gX11_handWorth_X11_comesTo rfl rfl rfl (by decide +kernel) ⟨Nat.le_of_ble_eq_true rfl, Nat.le_of_ble_eq_true rfl⟩ rfl rfl rfl (Nat.le_of_ble_eq_true rfl) rfl dX11_handWorth_1 [0, 1] [] [0, 1] rfl rfl rfl rfl (by decide) rfl rfl rfl (fun H locs hP hD hS => ?_)
  refine lv_istore_n (lv' := [(1, .int q1), (0, .ref a_x)]) hx hb dX11_handWorth_4 rfl hl (by decide) rfl (fun ls hl => ?_)
  refine lv_iload_n hx hb dX11_handWorth_5 rfl (lv_at hl 0 rfl) ?_
  refine lv_if_ge (tgt := 14) hx hb dX11_handWorth_6 (by decide) (fun c2 => ?_) (fun c2 => ?_)
  · have h := ift c2 h
    refine lv_aload_n hx hb dX11_handWorth_14 rfl (lv_at hl 1 rfl) ?_
    refine lv_aload_n hx hb dX11_handWorth_15 rfl (lv_at hl 1 rfl) ?_
    refine lv_iload_n hx hb dX11_handWorth_16 rfl (lv_at hl 0 rfl) ?_
    obtain ⟨q3, e3, h⟩ := bd_some h
    refine g_callV (index := 121) (maxL := 2) (n := 1) (As := [.int q1]) (rest := [.ref a_x]) (st1 := [.int q3, .ref a_x]) (C1 := RX11) (T1 := TX11) (N1 := 19) (ws2 := (w_X11_handWorth cI cJ cZ cG a_x a_x_now a_x_kept a_x_sortOf a_x_sizeOf a_x_sheets a_x_parts a_x_edge a_x_far a_x_lost x_isKept x_host x_below x_bestTarget x_high x_low x_whole x_tryHigh x_tryLow x_lots x_now)) C hP hD hS hl.1 11 0 (c_X11_toKeeper l D cI cJ cZ cG a_x a_x_now a_x_kept a_x_sortOf a_x_sizeOf a_x_sheets a_x_parts a_x_edge a_x_far a_x_lost x_isKept x_host x_below x_bestTarget x_high x_low x_whole x_tryHigh x_tryLow x_lots x_now q1 q3 e3) gX11_handWorth_X11_toKeeper rfl rfl rfl (by decide +kernel) ⟨Nat.le_of_ble_eq_true rfl, Nat.le_of_ble_eq_true rfl⟩ rfl rfl rfl (Nat.le_of_ble_eq_true rfl) rfl dX11_handWorth_17 [0, 1] [] [0, 1] rfl rfl rfl rfl (by decide) rfl rfl rfl (fun H locs hP hD hS => ?_)
    refine lv_i2l (v := q3.toInt64) hx hb dX11_handWorth_20 rfl ?_
    refine lv_ldc2 (v := 60) hx hb hown (hts _ mb_X11_handWorth_0) dX11_handWorth_21 ?_
    obtain ⟨q4, e4, h⟩ := bd_some h
    refine g_callV (index := 114) (maxL := 7) (n := 2) (As := [.long q3.toInt64, .long 60]) (rest := []) (st1 := [.int q4.1]) (C1 := RX11) (T1 := TX11) (N1 := 19) (ws2 := (w_X11_handWorth cI cJ cZ cG a_x a_x_now a_x_kept a_x_sortOf a_x_sizeOf a_x_sheets a_x_parts a_x_edge a_x_far a_x_lost x_isKept x_host q4.2 x_bestTarget x_high x_low x_whole x_tryHigh x_tryLow x_lots x_now)) C hP hD hS hl.1 11 0 (c_X11_fraction l D cI cJ cZ cG a_x a_x_now a_x_kept a_x_sortOf a_x_sizeOf a_x_sheets a_x_parts a_x_edge a_x_far a_x_lost x_isKept x_host x_below x_bestTarget x_high x_low x_whole x_tryHigh x_tryLow x_lots q3.toInt64 60 N q4 e4) gX11_handWorth_X11_fraction rfl rfl rfl (by decide +kernel) ⟨Nat.le_of_ble_eq_true rfl, Nat.le_of_ble_eq_true rfl⟩ rfl rfl rfl (Nat.le_of_ble_eq_true rfl) rfl dX11_handWorth_24 [0] [1] [1, 0] rfl rfl rfl rfl (by decide) rfl rfl rfl (fun H locs hP hD hS => ?_)
    obtain rfl := Option.some.inj h
    exact g_iret C hP hD hS dX11_handWorth_27
  · have h := iff_ c2 h
    refine lv_ldc (v := (-1000000003)) hx hb hown (hts _ mb_X11_handWorth_1) dX11_handWorth_9 ?_
    refine lv_goto (tgt := 27) hx hb dX11_handWorth_11 (by decide) ?_
    obtain rfl := Option.some.inj h
    exact g_iret C hP hD hS dX11_handWorth_27
theorem in_X11_errs_X11 : ∀ w ∈ wsX110, w ∈ wsX11_errs := by decide +kernel
theorem mb_X11_errs_0 : Cond.fieldLink RX11 9 "GuardDeskModel" "now" "[I" ∈ wsX11_errs := List.mem_of_getElem? (i := 3) rfl
theorem mb_X11_errs_1 : Cond.constantLong RX11 76 (60) ∈ wsX11_errs := List.mem_of_getElem? (i := 4) rfl
theorem mb_X11_errs_2 : Cond.constant RX11 113 (-1000000003) ∈ wsX11_errs := List.mem_of_getElem? (i := 2) rfl
theorem mb_X11_errs_3 : Cond.constant RX11 55 (-1000000002) ∈ wsX11_errs := List.mem_of_getElem? (i := 1) rfl
set_option maxRecDepth 100000 in
set_option maxHeartbeats 4000000 in
theorem t_X11_errs_b35 (C : cx D cI cJ cZ cG A cX11_errs 5 (some .int) RX11 wsX11_errs p s m args meth c) (a_x a_x_now a_x_kept a_x_sortOf a_x_sizeOf a_x_sheets a_x_parts a_x_edge a_x_far a_x_lost : Nat) (x_isKept : Int32) (x_host : Int32) (x_bestTarget : Int32) (x_high : Int64) (x_low : Int64) (x_whole : Int64) (x_tryHigh : Int64) (x_tryLow : Int64) (x_lots : Int32) (x_now : (Nat → Int32)) (N : Nat) (q : Int32 × Int32) (x_below : Int32) (v1 : Int32) (v2 : Int32) : ∀ (n : Nat) (v3 : Int32) (v4 : Int32), f_X11_errs_b35 N x_now x_below v1 v2 n v3 v4 = some q → WB p l e rm_X11_errs s m args below meth c (MQ below (Qg D (some (.int q.1)) (w_X11_errs cI cJ cZ cG a_x a_x_now a_x_kept a_x_sortOf a_x_sizeOf a_x_sheets a_x_parts a_x_edge a_x_far a_x_lost x_isKept x_host q.2 x_bestTarget x_high x_low x_whole x_tryHigh x_tryLow x_lots x_now) A) args s 0 0 A) D A 5 (w_X11_errs cI cJ cZ cG a_x a_x_now a_x_kept a_x_sortOf a_x_sizeOf a_x_sheets a_x_parts a_x_edge a_x_far a_x_lost x_isKept x_host x_below x_bestTarget x_high x_low x_whole x_tryHigh x_tryLow x_lots x_now) [(0, .ref a_x), (1, .int v1), (2, .int v2), (3, .int v3), (4, .int v4)] [] 35 := by
  obtain ⟨hx, hb, hr, hml, hown, hts, hlk, hgk, hA⟩ := id C
  have hK := hgk.1
  intro n
  induction n with
  | zero => intro v3 v4 h; cases h
  | succ n hk_35 =>
    intro v3 v4 h
    have h : g_X11_errs_b35 N x_now x_below v1 v2 (f_X11_errs_b35 N x_now x_below v1 v2 n) v3 v4 = some q := h
    generalize f_X11_errs_b35 N x_now x_below v1 v2 n = k_35 at h hk_35
    unfold g_X11_errs_b35 at h
    intro H locs ls hP hD hS hl
    refine lv_iload hx hb dX11_errs_35 (lv_at hl 4 rfl) ?_
    refine lv_aload_n hx hb dX11_errs_37 rfl (lv_at hl 0 rfl) ?_
    refine va_get (D := D) (ci := 11) (v := .ref a_x_now) (C := RX11) (T := TX11) (N := 19) hx hb hts in_X11_errs_X11 hown hK hP 0 rfl rfl 0 (by decide) (hts _ mb_X11_errs_0) (fun _ h9 => h9) rfl dX11_errs_38 ?_
    refine lv_iconst (v := 0) hx hb dX11_errs_41 (by decide) ?_
    refine va_iald hx hb hK hP 1 0 rfl rfl (g_lit (i := 0) (n := 194) (by decide)) dX11_errs_42 ?_
    refine W.eq (g2 := F0 m 43 ls [.int (x_now 0), .int v4]) rfl ?_
    refine lv_icmp_ge (tgt := 85) hx hb dX11_errs_43 (by decide) (fun c1 => ?_) (fun c1 => ?_)
    · have h := ift c1 h
      refine lv_aload_n hx hb dX11_errs_85 rfl (lv_at hl 0 rfl) ?_
      refine lv_iload_n hx hb dX11_errs_86 rfl (lv_at hl 3 rfl) ?_
      refine lv_i2l (v := v3.toInt64) hx hb dX11_errs_87 rfl ?_
      refine lv_ldc2 (v := 60) hx hb hown (hts _ mb_X11_errs_1) dX11_errs_88 ?_
      obtain ⟨q2, e2, h⟩ := bd_some h
      refine g_callV (index := 114) (maxL := 7) (n := 2) (As := [.long v3.toInt64, .long 60]) (rest := []) (st1 := [.int q2.1]) (C1 := RX11) (T1 := TX11) (N1 := 19) (ws2 := (w_X11_errs cI cJ cZ cG a_x a_x_now a_x_kept a_x_sortOf a_x_sizeOf a_x_sheets a_x_parts a_x_edge a_x_far a_x_lost x_isKept x_host q2.2 x_bestTarget x_high x_low x_whole x_tryHigh x_tryLow x_lots x_now)) C hP hD hS hl.1 11 0 (c_X11_fraction l D cI cJ cZ cG a_x a_x_now a_x_kept a_x_sortOf a_x_sizeOf a_x_sheets a_x_parts a_x_edge a_x_far a_x_lost x_isKept x_host x_below x_bestTarget x_high x_low x_whole x_tryHigh x_tryLow x_lots v3.toInt64 60 N q2 e2) gX11_errs_X11_fraction rfl rfl rfl (by decide +kernel) ⟨Nat.le_of_ble_eq_true rfl, Nat.le_of_ble_eq_true rfl⟩ rfl rfl rfl (Nat.le_of_ble_eq_true rfl) rfl dX11_errs_91 [0] [1] [1, 0] rfl rfl rfl rfl (by decide) rfl rfl rfl (fun H locs hP hD hS => ?_)
      obtain rfl := Option.some.inj h
      exact g_iret C hP hD hS dX11_errs_94
    · have h := iff_ c1 h
      refine lv_aload_n hx hb dX11_errs_46 rfl (lv_at hl 0 rfl) ?_
      refine lv_iload hx hb dX11_errs_47 (lv_at hl 4 rfl) ?_
      obtain ⟨q3, e3, h⟩ := bd_some h
      refine g_callV (index := 118) (maxL := 2) (n := 1) (As := [.int v4]) (rest := []) (st1 := [.int q3]) (C1 := RX11) (T1 := TX11) (N1 := 19) (ws2 := (w_X11_errs cI cJ cZ cG a_x a_x_now a_x_kept a_x_sortOf a_x_sizeOf a_x_sheets a_x_parts a_x_edge a_x_far a_x_lost x_isKept x_host x_below x_bestTarget x_high x_low x_whole x_tryHigh x_tryLow x_lots x_now)) C hP hD hS hl.1 11 0 (c_X11_toThief l D cI cJ cZ cG a_x a_x_now a_x_kept a_x_sortOf a_x_sizeOf a_x_sheets a_x_parts a_x_edge a_x_far a_x_lost x_isKept x_host x_below x_bestTarget x_high x_low x_whole x_tryHigh x_tryLow x_lots x_now v4 q3 e3) gX11_errs_X11_toThief rfl rfl rfl (by decide +kernel) ⟨Nat.le_of_ble_eq_true rfl, Nat.le_of_ble_eq_true rfl⟩ rfl rfl rfl (Nat.le_of_ble_eq_true rfl) rfl dX11_errs_49 [0, 1] [] [0, 1] rfl rfl rfl rfl (by decide) rfl rfl rfl (fun H locs hP hD hS => ?_)
      refine lv_aload_n hx hb dX11_errs_52 rfl (lv_at hl 0 rfl) ?_
      refine lv_iload_n hx hb dX11_errs_53 rfl (lv_at hl 2 rfl) ?_
      obtain ⟨q4, e4, h⟩ := bd_some h
      refine g_callV (index := 118) (maxL := 2) (n := 1) (As := [.int v2]) (rest := [.int q3]) (st1 := [.int q4, .int q3]) (C1 := RX11) (T1 := TX11) (N1 := 19) (ws2 := (w_X11_errs cI cJ cZ cG a_x a_x_now a_x_kept a_x_sortOf a_x_sizeOf a_x_sheets a_x_parts a_x_edge a_x_far a_x_lost x_isKept x_host x_below x_bestTarget x_high x_low x_whole x_tryHigh x_tryLow x_lots x_now)) C hP hD hS hl.1 11 0 (c_X11_toThief l D cI cJ cZ cG a_x a_x_now a_x_kept a_x_sortOf a_x_sizeOf a_x_sheets a_x_parts a_x_edge a_x_far a_x_lost x_isKept x_host x_below x_bestTarget x_high x_low x_whole x_tryHigh x_tryLow x_lots x_now v2 q4 e4) gX11_errs_X11_toThief rfl rfl rfl (by decide +kernel) ⟨Nat.le_of_ble_eq_true rfl, Nat.le_of_ble_eq_true rfl⟩ rfl rfl rfl (Nat.le_of_ble_eq_true rfl) rfl dX11_errs_54 [0, 1] [] [0, 1] rfl rfl rfl rfl (by decide) rfl rfl rfl (fun H locs hP hD hS => ?_)
      refine lv_iload_n hx hb dX11_errs_57 rfl (lv_at hl 1 rfl) ?_
      refine lv_isub hx hb dX11_errs_58 ?_
      refine lv_icmp_lt (tgt := 79) hx hb dX11_errs_59 (by decide) (fun c5 => ?_) (fun c5 => ?_)
      · have h := ift c5 h
        refine lv_iinc (v := v4 + 1) (lv' := [(4, .int (v4 + 1)), (0, .ref a_x), (1, .int v1), (2, .int v2), (3, .int v3)]) hx hb dX11_errs_79 hl (k := 4) rfl rfl (by decide) rfl (fun ls hl => ?_)
        refine lv_goto (tgt := 35) hx hb dX11_errs_82 (by decide) ?_
        exact hk_35 v3 (v4 + 1) h H locs ls hP hD hS (lv_sub hl [1, 2, 3, 4, 0] rfl)
      · have h := iff_ c5 h
        refine lv_aload_n hx hb dX11_errs_62 rfl (lv_at hl 0 rfl) ?_
        refine lv_iload hx hb dX11_errs_63 (lv_at hl 4 rfl) ?_
        obtain ⟨q6, e6, h⟩ := bd_some h
        refine g_callV (index := 121) (maxL := 2) (n := 1) (As := [.int v4]) (rest := []) (st1 := [.int q6]) (C1 := RX11) (T1 := TX11) (N1 := 19) (ws2 := (w_X11_errs cI cJ cZ cG a_x a_x_now a_x_kept a_x_sortOf a_x_sizeOf a_x_sheets a_x_parts a_x_edge a_x_far a_x_lost x_isKept x_host x_below x_bestTarget x_high x_low x_whole x_tryHigh x_tryLow x_lots x_now)) C hP hD hS hl.1 11 0 (c_X11_toKeeper l D cI cJ cZ cG a_x a_x_now a_x_kept a_x_sortOf a_x_sizeOf a_x_sheets a_x_parts a_x_edge a_x_far a_x_lost x_isKept x_host x_below x_bestTarget x_high x_low x_whole x_tryHigh x_tryLow x_lots x_now v4 q6 e6) gX11_errs_X11_toKeeper rfl rfl rfl (by decide +kernel) ⟨Nat.le_of_ble_eq_true rfl, Nat.le_of_ble_eq_true rfl⟩ rfl rfl rfl (Nat.le_of_ble_eq_true rfl) rfl dX11_errs_65 [0, 1] [] [0, 1] rfl rfl rfl rfl (by decide) rfl rfl rfl (fun H locs hP hD hS => ?_)
        refine lv_iload_n hx hb dX11_errs_68 rfl (lv_at hl 3 rfl) ?_
        refine lv_icmp_ge (tgt := 79) hx hb dX11_errs_69 (by decide) (fun c7 => ?_) (fun c7 => ?_)
        · have h := ift c7 h
          refine lv_iinc (v := v4 + 1) (lv' := [(4, .int (v4 + 1)), (0, .ref a_x), (1, .int v1), (2, .int v2), (3, .int v3)]) hx hb dX11_errs_79 hl (k := 4) rfl rfl (by decide) rfl (fun ls hl => ?_)
          refine lv_goto (tgt := 35) hx hb dX11_errs_82 (by decide) ?_
          exact hk_35 v3 (v4 + 1) h H locs ls hP hD hS (lv_sub hl [1, 2, 3, 4, 0] rfl)
        · have h := iff_ c7 h
          refine lv_aload_n hx hb dX11_errs_72 rfl (lv_at hl 0 rfl) ?_
          refine lv_iload hx hb dX11_errs_73 (lv_at hl 4 rfl) ?_
          obtain ⟨q8, e8, h⟩ := bd_some h
          refine g_callV (index := 121) (maxL := 2) (n := 1) (As := [.int v4]) (rest := []) (st1 := [.int q8]) (C1 := RX11) (T1 := TX11) (N1 := 19) (ws2 := (w_X11_errs cI cJ cZ cG a_x a_x_now a_x_kept a_x_sortOf a_x_sizeOf a_x_sheets a_x_parts a_x_edge a_x_far a_x_lost x_isKept x_host x_below x_bestTarget x_high x_low x_whole x_tryHigh x_tryLow x_lots x_now)) C hP hD hS hl.1 11 0 (c_X11_toKeeper l D cI cJ cZ cG a_x a_x_now a_x_kept a_x_sortOf a_x_sizeOf a_x_sheets a_x_parts a_x_edge a_x_far a_x_lost x_isKept x_host x_below x_bestTarget x_high x_low x_whole x_tryHigh x_tryLow x_lots x_now v4 q8 e8) gX11_errs_X11_toKeeper rfl rfl rfl (by decide +kernel) ⟨Nat.le_of_ble_eq_true rfl, Nat.le_of_ble_eq_true rfl⟩ rfl rfl rfl (Nat.le_of_ble_eq_true rfl) rfl dX11_errs_75 [0, 1] [] [0, 1] rfl rfl rfl rfl (by decide) rfl rfl rfl (fun H locs hP hD hS => ?_)
          refine lv_istore_n (lv' := [(3, .int q8), (0, .ref a_x), (1, .int v1), (2, .int v2), (4, .int v4)]) hx hb dX11_errs_78 rfl hl (by decide) rfl (fun ls hl => ?_)
          refine lv_iinc (v := v4 + 1) (lv' := [(4, .int (v4 + 1)), (3, .int q8), (0, .ref a_x), (1, .int v1), (2, .int v2)]) hx hb dX11_errs_79 hl (k := 4) rfl rfl (by decide) rfl (fun ls hl => ?_)
          refine lv_goto (tgt := 35) hx hb dX11_errs_82 (by decide) ?_
          exact hk_35 q8 (v4 + 1) h H locs ls hP hD hS (lv_sub hl [2, 3, 4, 1, 0] rfl)
set_option maxRecDepth 100000 in
set_option maxHeartbeats 4000000 in
theorem c_X11_errs (l : Launch) (D : va_G) (cI cJ cZ cG : ClassId) (a_x a_x_now a_x_kept a_x_sortOf a_x_sizeOf a_x_sheets a_x_parts a_x_edge a_x_far a_x_lost : Nat) (x_isKept : Int32) (x_host : Int32) (x_below : Int32) (x_bestTarget : Int32) (x_high : Int64) (x_low : Int64) (x_whole : Int64) (x_tryHigh : Int64) (x_tryLow : Int64) (x_lots : Int32) (x_now : (Nat → Int32)) (p1 : Int32) (N : Nat) (q : Int32 × Int32) (h : f_X11_errs N x_below x_now p1 = some q) : gMet l yX11_errs wsX11_errs rm_X11_errs [.ref a_x, .int p1] (w_X11_errs cI cJ cZ cG a_x a_x_now a_x_kept a_x_sortOf a_x_sizeOf a_x_sheets a_x_parts a_x_edge a_x_far a_x_lost x_isKept x_host x_below x_bestTarget x_high x_low x_whole x_tryHigh x_tryLow x_lots x_now) (w_X11_errs cI cJ cZ cG a_x a_x_now a_x_kept a_x_sortOf a_x_sizeOf a_x_sheets a_x_parts a_x_edge a_x_far a_x_lost x_isKept x_host q.2 x_bestTarget x_high x_low x_whole x_tryHigh x_tryLow x_lots x_now) (some (.int q.1)) D cI cJ cZ cG := by
  refine g_enter (cc := cX11_errs) (nL := 5) (ret := (some .int)) (by decide) rfl (Nat.le_of_ble_eq_true rfl) ?_
  intro p e s m below meth c A C H locs ls hP hD hS hl
  obtain ⟨hx, hb, hr, hml, hown, hts, hlk, hgk, hA⟩ := id C
  have hK := hgk.1
  have hl : lv_has ls 5 [(0, .ref a_x), (1, .int p1)] := hl
  unfold f_X11_errs at h
  refine lv_iload_n hx hb dX11_errs_0 rfl (lv_at hl 1 rfl) ?_
  refine lv_iconst (v := 0) hx hb dX11_errs_1 (by decide) ?_
  refine lv_sipush (v := 3600) hx hb dX11_errs_2 (by decide) ?_
  refine g_callS0 (index := 47) (maxL := 3) (n := 3) (As := [.int p1, .int 0, .int 3600]) (rest := []) (st1 := [.int (f_X11_within p1 0 3600)]) C hP hS hl.1 (c_X11_within l D cI cJ cZ cG p1 0 3600 _ rfl) gX11_errs_X11_within rfl rfl rfl (by decide +kernel) ⟨Nat.le_of_ble_eq_true rfl, Nat.le_of_ble_eq_true rfl⟩ rfl (Nat.le_of_ble_eq_true rfl) rfl dX11_errs_5 rfl (fun H locs hP hS => ?_)
  refine lv_if_ne (tgt := 14) hx hb dX11_errs_8 (by decide) (fun c1 => ?_) (fun c1 => ?_)
  · have h := iff_ c1 h
    refine lv_aload_n hx hb dX11_errs_14 rfl (lv_at hl 0 rfl) ?_
    obtain ⟨q2, e2, h⟩ := bd_some h
    refine g_callV (index := 124) (maxL := 4) (n := 0) (As := []) (rest := []) (st1 := [.int q2]) (C1 := RX11) (T1 := TX11) (N1 := 19) (ws2 := (w_X11_errs cI cJ cZ cG a_x a_x_now a_x_kept a_x_sortOf a_x_sizeOf a_x_sheets a_x_parts a_x_edge a_x_far a_x_lost x_isKept x_host x_below x_bestTarget x_high x_low x_whole x_tryHigh x_tryLow x_lots x_now)) C hP hD hS hl.1 11 0 (c_X11_comesTo l D cI cJ cZ cG a_x a_x_now a_x_kept a_x_sortOf a_x_sizeOf a_x_sheets a_x_parts a_x_edge a_x_far a_x_lost x_isKept x_host x_below x_bestTarget x_high x_low x_whole x_tryHigh x_tryLow x_lots x_now N q2 e2) gX11_errs_X11_comesTo rfl rfl rfl (by decide +kernel) ⟨Nat.le_of_ble_eq_true rfl, Nat.le_of_ble_eq_true rfl⟩ rfl rfl rfl (Nat.le_of_ble_eq_true rfl) rfl dX11_errs_15 [0, 1] [] [0, 1] rfl rfl rfl rfl (by decide) rfl rfl rfl (fun H locs hP hD hS => ?_)
    refine lv_istore_n (lv' := [(2, .int q2), (0, .ref a_x), (1, .int p1)]) hx hb dX11_errs_18 rfl hl (by decide) rfl (fun ls hl => ?_)
    refine lv_iload_n hx hb dX11_errs_19 rfl (lv_at hl 0 rfl) ?_
    refine lv_if_ge (tgt := 26) hx hb dX11_errs_20 (by decide) (fun c3 => ?_) (fun c3 => ?_)
    · have h := ift c3 h
      refine lv_aload_n hx hb dX11_errs_26 rfl (lv_at hl 1 rfl) ?_
      refine lv_iload_n hx hb dX11_errs_27 rfl (lv_at hl 0 rfl) ?_
      obtain ⟨q4, e4, h⟩ := bd_some h
      refine g_callV (index := 121) (maxL := 2) (n := 1) (As := [.int q2]) (rest := []) (st1 := [.int q4]) (C1 := RX11) (T1 := TX11) (N1 := 19) (ws2 := (w_X11_errs cI cJ cZ cG a_x a_x_now a_x_kept a_x_sortOf a_x_sizeOf a_x_sheets a_x_parts a_x_edge a_x_far a_x_lost x_isKept x_host x_below x_bestTarget x_high x_low x_whole x_tryHigh x_tryLow x_lots x_now)) C hP hD hS hl.1 11 0 (c_X11_toKeeper l D cI cJ cZ cG a_x a_x_now a_x_kept a_x_sortOf a_x_sizeOf a_x_sheets a_x_parts a_x_edge a_x_far a_x_lost x_isKept x_host x_below x_bestTarget x_high x_low x_whole x_tryHigh x_tryLow x_lots x_now q2 q4 e4) gX11_errs_X11_toKeeper rfl rfl rfl (by decide +kernel) ⟨Nat.le_of_ble_eq_true rfl, Nat.le_of_ble_eq_true rfl⟩ rfl rfl rfl (Nat.le_of_ble_eq_true rfl) rfl dX11_errs_28 [0, 1] [] [0, 1] rfl rfl rfl rfl (by decide) rfl rfl rfl (fun H locs hP hD hS => ?_)
      refine lv_istore_n (lv' := [(3, .int q4), (2, .int q2), (0, .ref a_x), (1, .int p1)]) hx hb dX11_errs_31 rfl hl (by decide) rfl (fun ls hl => ?_)
      refine lv_iconst (v := 0) hx hb dX11_errs_32 (by decide) ?_
      refine lv_istore (lv' := [(4, .int 0), (3, .int q4), (2, .int q2), (0, .ref a_x), (1, .int p1)]) hx hb dX11_errs_33 hl (by decide) rfl (fun ls hl => ?_)
      exact t_X11_errs_b35 C a_x a_x_now a_x_kept a_x_sortOf a_x_sizeOf a_x_sheets a_x_parts a_x_edge a_x_far a_x_lost x_isKept x_host x_bestTarget x_high x_low x_whole x_tryHigh x_tryLow x_lots x_now N q x_below p1 q2 N q4 0 h H locs ls hP hD hS (lv_sub hl [3, 4, 2, 1, 0] rfl)
    · have h := iff_ c3 h
      refine lv_ldc (v := (-1000000003)) hx hb hown (hts _ mb_X11_errs_2) dX11_errs_23 ?_
      obtain rfl := Option.some.inj h
      exact g_iret C hP hD hS dX11_errs_25
  · have h := ift c1 h
    refine lv_ldc (v := (-1000000002)) hx hb hown (hts _ mb_X11_errs_3) dX11_errs_11 ?_
    obtain rfl := Option.some.inj h
    exact g_iret C hP hD hS dX11_errs_13
theorem in_X11_addEdge_X11 : ∀ w ∈ wsX110, w ∈ wsX11_addEdge := by decide +kernel
theorem mb_X11_addEdge_0 : Cond.fieldLink RX11 33 "GuardDeskModel" "edge" "[J" ∈ wsX11_addEdge := List.mem_of_getElem? (i := 2) rfl
theorem mb_X11_addEdge_1 : Cond.fieldLink RX11 128 "GuardDeskModel" "lots" "I" ∈ wsX11_addEdge := List.mem_of_getElem? (i := 1) rfl
set_option maxRecDepth 100000 in
set_option maxHeartbeats 4000000 in
theorem t_X11_addEdge_b53 (C : cx D cI cJ cZ cG A cX11_addEdge 5 none RX11 wsX11_addEdge p s m args meth c) (a_x a_x_now a_x_kept a_x_sortOf a_x_sizeOf a_x_sheets a_x_parts a_x_edge a_x_far a_x_lost : Nat) (x_isKept : Int32) (x_host : Int32) (x_below : Int32) (x_bestTarget : Int32) (x_high : Int64) (x_low : Int64) (x_whole : Int64) (x_tryHigh : Int64) (x_tryLow : Int64) (N : Nat) (q : Int32 × (Nat → Int64)) (x_lots : Int32) (v1 : Int64) (v3 : Int32) : ∀ (n : Nat) (x_edge : (Nat → Int64)) (v4 : Int32), f_X11_addEdge_b53 N x_lots v1 v3 n x_edge v4 = some q → WB p l e rm_X11_addEdge s m args below meth c (MQ below (Qg D none (w_X11_addEdge cI cJ cZ cG a_x a_x_now a_x_kept a_x_sortOf a_x_sizeOf a_x_sheets a_x_parts a_x_edge a_x_far a_x_lost x_isKept x_host x_below x_bestTarget x_high x_low x_whole x_tryHigh x_tryLow q.1 q.2) A) args s 0 0 A) D A 5 (w_X11_addEdge cI cJ cZ cG a_x a_x_now a_x_kept a_x_sortOf a_x_sizeOf a_x_sheets a_x_parts a_x_edge a_x_far a_x_lost x_isKept x_host x_below x_bestTarget x_high x_low x_whole x_tryHigh x_tryLow x_lots x_edge) [(0, .ref a_x), (1, .long v1), (3, .int v3), (4, .int v4)] [] 53 := by
  obtain ⟨hx, hb, hr, hml, hown, hts, hlk, hgk, hA⟩ := id C
  have hK := hgk.1
  intro n
  induction n with
  | zero => intro x_edge v4 h; cases h
  | succ n hk_53 =>
    intro x_edge v4 h
    have h : g_X11_addEdge_b53 N x_lots v1 v3 (f_X11_addEdge_b53 N x_lots v1 v3 n) x_edge v4 = some q := h
    generalize f_X11_addEdge_b53 N x_lots v1 v3 n = k_53 at h hk_53
    unfold g_X11_addEdge_b53 at h
    intro H locs ls hP hD hS hl
    refine lv_iload hx hb dX11_addEdge_53 (lv_at hl 3 rfl) ?_
    refine lv_iload_n hx hb dX11_addEdge_55 rfl (lv_at hl 2 rfl) ?_
    refine lv_icmp_le (tgt := 81) hx hb dX11_addEdge_56 (by decide) (fun c1 => ?_) (fun c1 => ?_)
    · have h := ift c1 h
      refine lv_aload_n hx hb dX11_addEdge_81 rfl (lv_at hl 0 rfl) ?_
      refine va_get (D := D) (ci := 11) (v := .ref a_x_edge) (C := RX11) (T := TX11) (N := 19) hx hb hts in_X11_addEdge_X11 hown hK hP 0 rfl rfl 16 (by decide) (hts _ mb_X11_addEdge_0) (fun _ h9 => h9) rfl dX11_addEdge_82 ?_
      refine lv_iload_n hx hb dX11_addEdge_85 rfl (lv_at hl 2 rfl) ?_
      refine lv_lload_n hx hb dX11_addEdge_86 rfl (lv_at hl 1 rfl) ?_
      obtain ⟨i2, h⟩ := gI_some h
      refine va_last hx hb hK hP hD hS 1 1 rfl rfl i2 dX11_addEdge_87 (fun H locs hP hD hS => ?_)
      have hP : va_P D vwCl (w_X11_addEdge cI cJ cZ cG a_x a_x_now a_x_kept a_x_sortOf a_x_sizeOf a_x_sheets a_x_parts a_x_edge a_x_far a_x_lost x_isKept x_host x_below x_bestTarget x_high x_low x_whole x_tryHigh x_tryLow x_lots (vp_updL x_edge v3.toNatClampNeg v1)) H := hP
      have hD : va_D A (w_X11_addEdge cI cJ cZ cG a_x a_x_now a_x_kept a_x_sortOf a_x_sizeOf a_x_sheets a_x_parts a_x_edge a_x_far a_x_lost x_isKept x_host x_below x_bestTarget x_high x_low x_whole x_tryHigh x_tryLow x_lots (vp_updL x_edge v3.toNatClampNeg v1)) := hD
      refine lv_aload_n hx hb dX11_addEdge_88 rfl (lv_at hl 0 rfl) ?_
      refine lv_dup hx hb dX11_addEdge_89 rfl ?_
      refine va_get (D := D) (ci := 11) (v := .int x_lots) (C := RX11) (T := TX11) (N := 19) hx hb hts in_X11_addEdge_X11 hown hK hP 0 rfl rfl 15 (by decide) (hts _ mb_X11_addEdge_1) (fun _ h9 => h9) rfl dX11_addEdge_90 ?_
      refine lv_iconst (v := 1) hx hb dX11_addEdge_93 (by decide) ?_
      refine lv_iadd hx hb dX11_addEdge_94 ?_
      refine va_put (D := D) (ci := 11) (v := .int (x_lots + 1)) (ty := .int) (C := RX11) (T := TX11) (N := 19) hx hb hts in_X11_addEdge_X11 tyX11 tyX11_ok nmX11 hown hK hP hD hS 0 rfl rfl 15 (by decide) (hts _ mb_X11_addEdge_1) (fun _ h9 => h9) rfl (by decide +kernel) rfl rfl (Nat.le_of_ble_eq_true rfl) dX11_addEdge_95 (fun H locs hP hD hS => ?_)
      have hP : va_P D vwCl (w_X11_addEdge cI cJ cZ cG a_x a_x_now a_x_kept a_x_sortOf a_x_sizeOf a_x_sheets a_x_parts a_x_edge a_x_far a_x_lost x_isKept x_host x_below x_bestTarget x_high x_low x_whole x_tryHigh x_tryLow (x_lots + 1) (vp_updL x_edge v3.toNatClampNeg v1)) H := hP
      have hD : va_D A (w_X11_addEdge cI cJ cZ cG a_x a_x_now a_x_kept a_x_sortOf a_x_sizeOf a_x_sheets a_x_parts a_x_edge a_x_far a_x_lost x_isKept x_host x_below x_bestTarget x_high x_low x_whole x_tryHigh x_tryLow (x_lots + 1) (vp_updL x_edge v3.toNatClampNeg v1)) := hD
      obtain rfl := Option.some.inj h
      exact g_vret C hP hD hS dX11_addEdge_98
    · have h := iff_ c1 h
      refine lv_aload_n hx hb dX11_addEdge_59 rfl (lv_at hl 0 rfl) ?_
      refine va_get (D := D) (ci := 11) (v := .ref a_x_edge) (C := RX11) (T := TX11) (N := 19) hx hb hts in_X11_addEdge_X11 hown hK hP 0 rfl rfl 16 (by decide) (hts _ mb_X11_addEdge_0) (fun _ h9 => h9) rfl dX11_addEdge_60 ?_
      refine lv_iload hx hb dX11_addEdge_63 (lv_at hl 3 rfl) ?_
      refine lv_aload_n hx hb dX11_addEdge_65 rfl (lv_at hl 0 rfl) ?_
      refine va_get (D := D) (ci := 11) (v := .ref a_x_edge) (C := RX11) (T := TX11) (N := 19) hx hb hts in_X11_addEdge_X11 hown hK hP 0 rfl rfl 16 (by decide) (hts _ mb_X11_addEdge_0) (fun _ h9 => h9) rfl dX11_addEdge_66 ?_
      refine lv_iload hx hb dX11_addEdge_69 (lv_at hl 3 rfl) ?_
      refine lv_iconst (v := 1) hx hb dX11_addEdge_71 (by decide) ?_
      refine lv_isub hx hb dX11_addEdge_72 ?_
      obtain ⟨i3, h⟩ := gI_some h
      refine va_lald hx hb hK hP 1 1 rfl rfl i3 dX11_addEdge_73 ?_
      obtain ⟨i4, h⟩ := gI_some h
      refine va_last hx hb hK hP hD hS 1 1 rfl rfl i4 dX11_addEdge_74 (fun H locs hP hD hS => ?_)
      have hP : va_P D vwCl (w_X11_addEdge cI cJ cZ cG a_x a_x_now a_x_kept a_x_sortOf a_x_sizeOf a_x_sheets a_x_parts a_x_edge a_x_far a_x_lost x_isKept x_host x_below x_bestTarget x_high x_low x_whole x_tryHigh x_tryLow x_lots (vp_updL x_edge v4.toNatClampNeg (x_edge (v4 - 1).toNatClampNeg))) H := hP
      have hD : va_D A (w_X11_addEdge cI cJ cZ cG a_x a_x_now a_x_kept a_x_sortOf a_x_sizeOf a_x_sheets a_x_parts a_x_edge a_x_far a_x_lost x_isKept x_host x_below x_bestTarget x_high x_low x_whole x_tryHigh x_tryLow x_lots (vp_updL x_edge v4.toNatClampNeg (x_edge (v4 - 1).toNatClampNeg))) := hD
      refine lv_iinc (v := v4 + (-1)) (lv' := [(4, .int (v4 + (-1))), (0, .ref a_x), (1, .long v1), (3, .int v3)]) hx hb dX11_addEdge_75 hl (k := 3) rfl rfl (by decide) rfl (fun ls hl => ?_)
      refine lv_goto (tgt := 53) hx hb dX11_addEdge_78 (by decide) ?_
      exact hk_53 (vp_updL x_edge v4.toNatClampNeg (x_edge (v4 - 1).toNatClampNeg)) (v4 + (-1)) h H locs ls hP hD hS (lv_sub hl [1, 2, 3, 0] rfl)
set_option maxRecDepth 100000 in
set_option maxHeartbeats 4000000 in
theorem t_X11_addEdge_b47 (C : cx D cI cJ cZ cG A cX11_addEdge 5 none RX11 wsX11_addEdge p s m args meth c) (a_x a_x_now a_x_kept a_x_sortOf a_x_sizeOf a_x_sheets a_x_parts a_x_edge a_x_far a_x_lost : Nat) (x_isKept : Int32) (x_host : Int32) (x_below : Int32) (x_bestTarget : Int32) (x_high : Int64) (x_low : Int64) (x_whole : Int64) (x_tryHigh : Int64) (x_tryLow : Int64) (N : Nat) (q : Int32 × (Nat → Int64)) (x_lots : Int32) (x_edge : (Nat → Int64)) (v1 : Int64) (v3 : Int32) (h : f_X11_addEdge_b47 N x_lots x_edge v1 v3 = some q) : WB p l e rm_X11_addEdge s m args below meth c (MQ below (Qg D none (w_X11_addEdge cI cJ cZ cG a_x a_x_now a_x_kept a_x_sortOf a_x_sizeOf a_x_sheets a_x_parts a_x_edge a_x_far a_x_lost x_isKept x_host x_below x_bestTarget x_high x_low x_whole x_tryHigh x_tryLow q.1 q.2) A) args s 0 0 A) D A 5 (w_X11_addEdge cI cJ cZ cG a_x a_x_now a_x_kept a_x_sortOf a_x_sizeOf a_x_sheets a_x_parts a_x_edge a_x_far a_x_lost x_isKept x_host x_below x_bestTarget x_high x_low x_whole x_tryHigh x_tryLow x_lots x_edge) [(0, .ref a_x), (1, .long v1), (3, .int v3)] [] 47 := by
  obtain ⟨hx, hb, hr, hml, hown, hts, hlk, hgk, hA⟩ := id C
  have hK := hgk.1
  unfold f_X11_addEdge_b47 at h
  intro H locs ls hP hD hS hl
  refine lv_aload_n hx hb dX11_addEdge_47 rfl (lv_at hl 0 rfl) ?_
  refine va_get (D := D) (ci := 11) (v := .int x_lots) (C := RX11) (T := TX11) (N := 19) hx hb hts in_X11_addEdge_X11 hown hK hP 0 rfl rfl 15 (by decide) (hts _ mb_X11_addEdge_1) (fun _ h9 => h9) rfl dX11_addEdge_48 ?_
  refine lv_istore (lv' := [(4, .int x_lots), (0, .ref a_x), (1, .long v1), (3, .int v3)]) hx hb dX11_addEdge_51 hl (by decide) rfl (fun ls hl => ?_)
  exact t_X11_addEdge_b53 C a_x a_x_now a_x_kept a_x_sortOf a_x_sizeOf a_x_sheets a_x_parts a_x_edge a_x_far a_x_lost x_isKept x_host x_below x_bestTarget x_high x_low x_whole x_tryHigh x_tryLow N q x_lots v1 v3 N x_edge x_lots h H locs ls hP hD hS (lv_sub hl [1, 2, 3, 0] rfl)
set_option maxRecDepth 100000 in
set_option maxHeartbeats 4000000 in
theorem t_X11_addEdge_b27 (C : cx D cI cJ cZ cG A cX11_addEdge 5 none RX11 wsX11_addEdge p s m args meth c) (a_x a_x_now a_x_kept a_x_sortOf a_x_sizeOf a_x_sheets a_x_parts a_x_edge a_x_far a_x_lost : Nat) (x_isKept : Int32) (x_host : Int32) (x_below : Int32) (x_bestTarget : Int32) (x_high : Int64) (x_low : Int64) (x_whole : Int64) (x_tryHigh : Int64) (x_tryLow : Int64) (N : Nat) (q : Int32 × (Nat → Int64)) (x_lots : Int32) (x_edge : (Nat → Int64)) (v1 : Int64) (v3 : Int32) (h : f_X11_addEdge_b27 N x_lots x_edge v1 v3 = some q) : WB p l e rm_X11_addEdge s m args below meth c (MQ below (Qg D none (w_X11_addEdge cI cJ cZ cG a_x a_x_now a_x_kept a_x_sortOf a_x_sizeOf a_x_sheets a_x_parts a_x_edge a_x_far a_x_lost x_isKept x_host x_below x_bestTarget x_high x_low x_whole x_tryHigh x_tryLow q.1 q.2) A) args s 0 0 A) D A 5 (w_X11_addEdge cI cJ cZ cG a_x a_x_now a_x_kept a_x_sortOf a_x_sizeOf a_x_sheets a_x_parts a_x_edge a_x_far a_x_lost x_isKept x_host x_below x_bestTarget x_high x_low x_whole x_tryHigh x_tryLow x_lots x_edge) [(0, .ref a_x), (1, .long v1), (3, .int v3)] [] 27 := by
  obtain ⟨hx, hb, hr, hml, hown, hts, hlk, hgk, hA⟩ := id C
  have hK := hgk.1
  unfold f_X11_addEdge_b27 at h
  intro H locs ls hP hD hS hl
  refine lv_iload_n hx hb dX11_addEdge_27 rfl (lv_at hl 2 rfl) ?_
  refine lv_aload_n hx hb dX11_addEdge_28 rfl (lv_at hl 0 rfl) ?_
  refine va_get (D := D) (ci := 11) (v := .int x_lots) (C := RX11) (T := TX11) (N := 19) hx hb hts in_X11_addEdge_X11 hown hK hP 0 rfl rfl 15 (by decide) (hts _ mb_X11_addEdge_1) (fun _ h9 => h9) rfl dX11_addEdge_29 ?_
  refine lv_icmp_ge (tgt := 47) hx hb dX11_addEdge_32 (by decide) (fun c1 => ?_) (fun c1 => ?_)
  · have h := ift c1 h
    exact t_X11_addEdge_b47 C a_x a_x_now a_x_kept a_x_sortOf a_x_sizeOf a_x_sheets a_x_parts a_x_edge a_x_far a_x_lost x_isKept x_host x_below x_bestTarget x_high x_low x_whole x_tryHigh x_tryLow N q x_lots x_edge v1 v3 h H locs ls hP hD hS (lv_sub hl [0, 1, 2] rfl)
  · have h := iff_ c1 h
    refine lv_aload_n hx hb dX11_addEdge_35 rfl (lv_at hl 0 rfl) ?_
    refine va_get (D := D) (ci := 11) (v := .ref a_x_edge) (C := RX11) (T := TX11) (N := 19) hx hb hts in_X11_addEdge_X11 hown hK hP 0 rfl rfl 16 (by decide) (hts _ mb_X11_addEdge_0) (fun _ h9 => h9) rfl dX11_addEdge_36 ?_
    refine lv_iload_n hx hb dX11_addEdge_39 rfl (lv_at hl 2 rfl) ?_
    obtain ⟨i2, h⟩ := gI_some h
    refine va_lald hx hb hK hP 1 1 rfl rfl i2 dX11_addEdge_40 ?_
    refine lv_lload_n hx hb dX11_addEdge_41 rfl (lv_at hl 1 rfl) ?_
    refine W.lcmp hx hb dX11_addEdge_42 ?_
    refine lv_if_ne (tgt := 47) hx hb dX11_addEdge_43 (by decide) (fun c3 => ?_) (fun c3 => ?_)
    · have c3 := (not_congr lc_eq).mp c3
      have h := iff_ c3 h
      exact t_X11_addEdge_b47 C a_x a_x_now a_x_kept a_x_sortOf a_x_sizeOf a_x_sheets a_x_parts a_x_edge a_x_far a_x_lost x_isKept x_host x_below x_bestTarget x_high x_low x_whole x_tryHigh x_tryLow N q x_lots x_edge v1 v3 h H locs ls hP hD hS (lv_sub hl [0, 1, 2] rfl)
    · have c3 := lc_eq.mp c3
      have h := ift c3 h
      obtain rfl := Option.some.inj h
      exact g_vret C hP hD hS dX11_addEdge_46
set_option maxRecDepth 100000 in
set_option maxHeartbeats 4000000 in
theorem t_X11_addEdge_b2 (C : cx D cI cJ cZ cG A cX11_addEdge 5 none RX11 wsX11_addEdge p s m args meth c) (a_x a_x_now a_x_kept a_x_sortOf a_x_sizeOf a_x_sheets a_x_parts a_x_edge a_x_far a_x_lost : Nat) (x_isKept : Int32) (x_host : Int32) (x_below : Int32) (x_bestTarget : Int32) (x_high : Int64) (x_low : Int64) (x_whole : Int64) (x_tryHigh : Int64) (x_tryLow : Int64) (N : Nat) (q : Int32 × (Nat → Int64)) (x_lots : Int32) (x_edge : (Nat → Int64)) (v1 : Int64) : ∀ (n : Nat) (v3 : Int32), f_X11_addEdge_b2 N x_lots x_edge v1 n v3 = some q → WB p l e rm_X11_addEdge s m args below meth c (MQ below (Qg D none (w_X11_addEdge cI cJ cZ cG a_x a_x_now a_x_kept a_x_sortOf a_x_sizeOf a_x_sheets a_x_parts a_x_edge a_x_far a_x_lost x_isKept x_host x_below x_bestTarget x_high x_low x_whole x_tryHigh x_tryLow q.1 q.2) A) args s 0 0 A) D A 5 (w_X11_addEdge cI cJ cZ cG a_x a_x_now a_x_kept a_x_sortOf a_x_sizeOf a_x_sheets a_x_parts a_x_edge a_x_far a_x_lost x_isKept x_host x_below x_bestTarget x_high x_low x_whole x_tryHigh x_tryLow x_lots x_edge) [(0, .ref a_x), (1, .long v1), (3, .int v3)] [] 2 := by
  obtain ⟨hx, hb, hr, hml, hown, hts, hlk, hgk, hA⟩ := id C
  have hK := hgk.1
  intro n
  induction n with
  | zero => intro v3 h; cases h
  | succ n hk_2 =>
    intro v3 h
    have h : g_X11_addEdge_b2 N x_lots x_edge v1 (f_X11_addEdge_b2 N x_lots x_edge v1 n) v3 = some q := h
    generalize f_X11_addEdge_b2 N x_lots x_edge v1 n = k_2 at h hk_2
    unfold g_X11_addEdge_b2 at h
    intro H locs ls hP hD hS hl
    refine lv_iload_n hx hb dX11_addEdge_2 rfl (lv_at hl 2 rfl) ?_
    refine lv_aload_n hx hb dX11_addEdge_3 rfl (lv_at hl 0 rfl) ?_
    refine va_get (D := D) (ci := 11) (v := .int x_lots) (C := RX11) (T := TX11) (N := 19) hx hb hts in_X11_addEdge_X11 hown hK hP 0 rfl rfl 15 (by decide) (hts _ mb_X11_addEdge_1) (fun _ h9 => h9) rfl dX11_addEdge_4 ?_
    refine lv_icmp_ge (tgt := 27) hx hb dX11_addEdge_7 (by decide) (fun c1 => ?_) (fun c1 => ?_)
    · have h := ift c1 h
      exact t_X11_addEdge_b27 C a_x a_x_now a_x_kept a_x_sortOf a_x_sizeOf a_x_sheets a_x_parts a_x_edge a_x_far a_x_lost x_isKept x_host x_below x_bestTarget x_high x_low x_whole x_tryHigh x_tryLow N q x_lots x_edge v1 v3 h H locs ls hP hD hS (lv_sub hl [0, 1, 2] rfl)
    · have h := iff_ c1 h
      refine lv_aload_n hx hb dX11_addEdge_10 rfl (lv_at hl 0 rfl) ?_
      refine va_get (D := D) (ci := 11) (v := .ref a_x_edge) (C := RX11) (T := TX11) (N := 19) hx hb hts in_X11_addEdge_X11 hown hK hP 0 rfl rfl 16 (by decide) (hts _ mb_X11_addEdge_0) (fun _ h9 => h9) rfl dX11_addEdge_11 ?_
      refine lv_iload_n hx hb dX11_addEdge_14 rfl (lv_at hl 2 rfl) ?_
      obtain ⟨i2, h⟩ := gI_some h
      refine va_lald hx hb hK hP 1 1 rfl rfl i2 dX11_addEdge_15 ?_
      refine lv_lload_n hx hb dX11_addEdge_16 rfl (lv_at hl 1 rfl) ?_
      refine W.lcmp hx hb dX11_addEdge_17 ?_
      refine lv_if_ge (tgt := 27) hx hb dX11_addEdge_18 (by decide) (fun c3 => ?_) (fun c3 => ?_)
      · have c3 := lc_ge.mp c3
        have h := ift c3 h
        exact t_X11_addEdge_b27 C a_x a_x_now a_x_kept a_x_sortOf a_x_sizeOf a_x_sheets a_x_parts a_x_edge a_x_far a_x_lost x_isKept x_host x_below x_bestTarget x_high x_low x_whole x_tryHigh x_tryLow N q x_lots x_edge v1 v3 h H locs ls hP hD hS (lv_sub hl [0, 1, 2] rfl)
      · have c3 := (not_congr lc_ge).mp c3
        have h := iff_ c3 h
        refine lv_iinc (v := v3 + 1) (lv' := [(3, .int (v3 + 1)), (0, .ref a_x), (1, .long v1)]) hx hb dX11_addEdge_21 hl (k := 2) rfl rfl (by decide) rfl (fun ls hl => ?_)
        refine lv_goto (tgt := 2) hx hb dX11_addEdge_24 (by decide) ?_
        exact hk_2 (v3 + 1) h H locs ls hP hD hS (lv_sub hl [1, 2, 0] rfl)
set_option maxRecDepth 100000 in
set_option maxHeartbeats 4000000 in
theorem c_X11_addEdge (l : Launch) (D : va_G) (cI cJ cZ cG : ClassId) (a_x a_x_now a_x_kept a_x_sortOf a_x_sizeOf a_x_sheets a_x_parts a_x_edge a_x_far a_x_lost : Nat) (x_isKept : Int32) (x_host : Int32) (x_below : Int32) (x_bestTarget : Int32) (x_high : Int64) (x_low : Int64) (x_whole : Int64) (x_tryHigh : Int64) (x_tryLow : Int64) (x_lots : Int32) (x_edge : (Nat → Int64)) (p1 : Int64) (N : Nat) (q : Int32 × (Nat → Int64)) (h : f_X11_addEdge N x_lots x_edge p1 = some q) : gMet l yX11_addEdge wsX11_addEdge rm_X11_addEdge [.ref a_x, .long p1] (w_X11_addEdge cI cJ cZ cG a_x a_x_now a_x_kept a_x_sortOf a_x_sizeOf a_x_sheets a_x_parts a_x_edge a_x_far a_x_lost x_isKept x_host x_below x_bestTarget x_high x_low x_whole x_tryHigh x_tryLow x_lots x_edge) (w_X11_addEdge cI cJ cZ cG a_x a_x_now a_x_kept a_x_sortOf a_x_sizeOf a_x_sheets a_x_parts a_x_edge a_x_far a_x_lost x_isKept x_host x_below x_bestTarget x_high x_low x_whole x_tryHigh x_tryLow q.1 q.2) none D cI cJ cZ cG := by
  refine g_enter (cc := cX11_addEdge) (nL := 5) (ret := none) (by decide) rfl (Nat.le_of_ble_eq_true rfl) ?_
  intro p e s m below meth c A C H locs ls hP hD hS hl
  obtain ⟨hx, hb, hr, hml, hown, hts, hlk, hgk, hA⟩ := id C
  have hK := hgk.1
  have hl : lv_has ls 5 [(0, .ref a_x), (1, .long p1)] := hl
  unfold f_X11_addEdge at h
  refine lv_iconst (v := 0) hx hb dX11_addEdge_0 (by decide) ?_
  refine lv_istore_n (lv' := [(3, .int 0), (0, .ref a_x), (1, .long p1)]) hx hb dX11_addEdge_1 rfl hl (by decide) rfl (fun ls hl => ?_)
  exact t_X11_addEdge_b2 C a_x a_x_now a_x_kept a_x_sortOf a_x_sizeOf a_x_sheets a_x_parts a_x_edge a_x_far a_x_lost x_isKept x_host x_below x_bestTarget x_high x_low x_whole x_tryHigh x_tryLow N q x_lots x_edge p1 N 0 h H locs ls hP hD hS (lv_sub hl [1, 2, 0] rfl)
