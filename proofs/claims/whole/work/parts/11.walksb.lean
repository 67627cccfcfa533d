variable {p : Program} {l : Launch} {e : Env} {s : State} {m : MethodId} {args : Array Value} {below : List Frame} {meth : Method} {c : Code} {D : va_G} {A : Nat → Prop} {cI cJ cZ cG : ClassId}
theorem in_X2_catchesAll_X2 : ∀ w ∈ wsX20, w ∈ wsX2_catchesAll := by decide +kernel
theorem mb_X2_catchesAll_0 : Cond.fieldLink RX2 18 "GuardDesk$Haunts" "size" "I" ∈ wsX2_catchesAll := List.mem_of_getElem? (i := 1) rfl
theorem mb_X2_catchesAll_1 : Cond.fieldLink RX2 9 "GuardDesk$Haunts" "places" "[I" ∈ wsX2_catchesAll := List.mem_of_getElem? (i := 2) rfl
set_option maxRecDepth 100000 in
set_option maxHeartbeats 4000000 in
theorem t_X2_catchesAll_b4 (C : cx D cI cJ cZ cG A cX2_catchesAll 4 (some .boolean) RX2 wsX2_catchesAll p s m args meth c) (a_x a_x_places a_x_weight : Nat) (x_size : Int32) (x_places : (Nat → Int32)) (N : Nat) (q : Int32) (v1 : Int32) : ∀ (n : Nat) (v2 : Int32) (v3 : Int32), f_X2_catchesAll_b4 N x_size x_places v1 n v2 v3 = some q → WB p l e rm_X2_catchesAll s m args below meth c (MQ below (Qg D (some (.int q)) (w_X2_catchesAll cI cJ cZ cG a_x a_x_places a_x_weight x_size x_places) A) args s 0 0 A) D A 4 (w_X2_catchesAll cI cJ cZ cG a_x a_x_places a_x_weight x_size x_places) [(0, .ref a_x), (1, .int v1), (2, .int v2), (3, .int v3)] [] 4 := by
  obtain ⟨hx, hb, hr, hml, hown, hts, hlk, hgk, hA⟩ := id C
  have hK := hgk.1
  intro n
  induction n with
  | zero => intro v2 v3 h; cases h
  | succ n hk_4 =>
    intro v2 v3 h
    have h : g_X2_catchesAll_b4 N x_size x_places v1 (f_X2_catchesAll_b4 N x_size x_places v1 n) v2 v3 = some q := h
    generalize f_X2_catchesAll_b4 N x_size x_places v1 n = k_4 at h hk_4
    unfold g_X2_catchesAll_b4 at h
    intro H locs ls hP hD hS hl
    refine lv_iload_n hx hb dX2_catchesAll_4 rfl (lv_at hl 3 rfl) ?_
    refine lv_aload_n hx hb dX2_catchesAll_5 rfl (lv_at hl 0 rfl) ?_
    refine va_get (D := D) (ci := 2) (v := .int x_size) (C := RX2) (T := TX2) (N := 3) hx hb hts in_X2_catchesAll_X2 hown hK hP 0 rfl rfl 0 (by decide) (hts _ mb_X2_catchesAll_0) (fun _ h9 => h9) rfl dX2_catchesAll_6 ?_
    refine lv_icmp_ge (tgt := 39) hx hb dX2_catchesAll_9 (by decide) (fun c1 => ?_) (fun c1 => ?_)
    · have h := ift c1 h
      refine lv_iload_n hx hb dX2_catchesAll_39 rfl (lv_at hl 2 rfl) ?_
      obtain ⟨z2, h⟩ := gB_some h
      obtain rfl := Option.some.inj h
      exact g_zret C hP hD hS z2 dX2_catchesAll_40
    · have h := iff_ c1 h
      refine lv_iload_n hx hb dX2_catchesAll_12 rfl (lv_at hl 2 rfl) ?_
      refine lv_if_eq (tgt := 39) hx hb dX2_catchesAll_13 (by decide) (fun c3 => ?_) (fun c3 => ?_)
      · have h := ift c3 h
        refine lv_iload_n hx hb dX2_catchesAll_39 rfl (lv_at hl 2 rfl) ?_
        obtain ⟨z4, h⟩ := gB_some h
        obtain rfl := Option.some.inj h
        exact g_zret C hP hD hS z4 dX2_catchesAll_40
      · have h := iff_ c3 h
        refine lv_aload_n hx hb dX2_catchesAll_16 rfl (lv_at hl 0 rfl) ?_
        refine va_get (D := D) (ci := 2) (v := .ref a_x_places) (C := RX2) (T := TX2) (N := 3) hx hb hts in_X2_catchesAll_X2 hown hK hP 0 rfl rfl 1 (by decide) (hts _ mb_X2_catchesAll_1) (fun _ h9 => h9) rfl dX2_catchesAll_17 ?_
        refine lv_iload_n hx hb dX2_catchesAll_20 rfl (lv_at hl 3 rfl) ?_
        obtain ⟨i5, h⟩ := gI_some h
        refine va_iald hx hb hK hP 1 0 rfl rfl i5 dX2_catchesAll_21 ?_
        refine lv_iload_n hx hb dX2_catchesAll_22 rfl (lv_at hl 1 rfl) ?_
        refine lv_iand hx hb dX2_catchesAll_23 ?_
        refine lv_if_eq (tgt := 31) hx hb dX2_catchesAll_24 (by decide) (fun c6 => ?_) (fun c6 => ?_)
        · have h := ift c6 h
          refine lv_iconst (v := 0) hx hb dX2_catchesAll_31 (by decide) ?_
          refine lv_istore_n (lv' := [(2, .int 0), (0, .ref a_x), (1, .int v1), (3, .int v3)]) hx hb dX2_catchesAll_32 rfl hl (by decide) rfl (fun ls hl => ?_)
          refine lv_iinc (v := v3 + 1) (lv' := [(3, .int (v3 + 1)), (2, .int 0), (0, .ref a_x), (1, .int v1)]) hx hb dX2_catchesAll_33 hl (k := 3) rfl rfl (by decide) rfl (fun ls hl => ?_)
          refine lv_goto (tgt := 4) hx hb dX2_catchesAll_36 (by decide) ?_
          exact hk_4 0 (v3 + 1) h H locs ls hP hD hS (lv_sub hl [2, 3, 1, 0] rfl)
        · have h := iff_ c6 h
          refine lv_iconst (v := 1) hx hb dX2_catchesAll_27 (by decide) ?_
          refine lv_goto (tgt := 32) hx hb dX2_catchesAll_28 (by decide) ?_
          refine lv_istore_n (lv' := [(2, .int 1), (0, .ref a_x), (1, .int v1), (3, .int v3)]) hx hb dX2_catchesAll_32 rfl hl (by decide) rfl (fun ls hl => ?_)
          refine lv_iinc (v := v3 + 1) (lv' := [(3, .int (v3 + 1)), (2, .int 1), (0, .ref a_x), (1, .int v1)]) hx hb dX2_catchesAll_33 hl (k := 3) rfl rfl (by decide) rfl (fun ls hl => ?_)
          refine lv_goto (tgt := 4) hx hb dX2_catchesAll_36 (by decide) ?_
          exact hk_4 1 (v3 + 1) h H locs ls hP hD hS (lv_sub hl [2, 3, 1, 0] rfl)
set_option maxRecDepth 100000 in
set_option maxHeartbeats 4000000 in
theorem c_X2_catchesAll (l : Launch) (D : va_G) (cI cJ cZ cG : ClassId) (a_x a_x_places a_x_weight : Nat) (x_size : Int32) (x_places : (Nat → Int32)) (p1 : Int32) (N : Nat) (q : Int32) (h : f_X2_catchesAll N x_size x_places p1 = some q) : gMet l yX2_catchesAll wsX2_catchesAll rm_X2_catchesAll [.ref a_x, .int p1] (w_X2_catchesAll cI cJ cZ cG a_x a_x_places a_x_weight x_size x_places) (w_X2_catchesAll cI cJ cZ cG a_x a_x_places a_x_weight x_size x_places) (some (.int q)) D cI cJ cZ cG := by
  refine g_enter (cc := cX2_catchesAll) (nL := 4) (ret := (some .boolean)) (by decide) rfl (Nat.le_of_ble_eq_true rfl) ?_
  intro p e s m below meth c A C H locs ls hP hD hS hl
  obtain ⟨hx, hb, hr, hml, hown, hts, hlk, hgk, hA⟩ := id C
  have hK := hgk.1
  have hl : lv_has ls 4 [(0, .ref a_x), (1, .int p1)] := hl
  unfold f_X2_catchesAll at h
  refine lv_iconst (v := 1) hx hb dX2_catchesAll_0 (by decide) ?_
  refine lv_istore_n (lv' := [(2, .int 1), (0, .ref a_x), (1, .int p1)]) hx hb dX2_catchesAll_1 rfl hl (by decide) rfl (fun ls hl => ?_)
  refine lv_iconst (v := 0) hx hb dX2_catchesAll_2 (by decide) ?_
  refine lv_istore_n (lv' := [(3, .int 0), (2, .int 1), (0, .ref a_x), (1, .int p1)]) hx hb dX2_catchesAll_3 rfl hl (by decide) rfl (fun ls hl => ?_)
  exact t_X2_catchesAll_b4 C a_x a_x_places a_x_weight x_size x_places N q p1 N 1 0 h H locs ls hP hD hS (lv_sub hl [2, 3, 1, 0] rfl)
set_option maxRecDepth 100000 in
set_option maxHeartbeats 4000000 in
theorem t_X2_smallestCover_b6 (C : cx D cI cJ cZ cG A cX2_smallestCover 3 (some .int) RX2 wsX2_smallestCover p s m args meth c) (a_x a_x_places a_x_weight : Nat) (x_size : Int32) (x_places : (Nat → Int32)) (N : Nat) (q : Int32) : ∀ (n : Nat) (v1 : Int32) (v2 : Int32), f_X2_smallestCover_b6 N x_size x_places n v1 v2 = some q → WB p l e rm_X2_smallestCover s m args below meth c (MQ below (Qg D (some (.int q)) (w_X2_smallestCover cI cJ cZ cG a_x a_x_places a_x_weight x_size x_places) A) args s 0 0 A) D A 3 (w_X2_smallestCover cI cJ cZ cG a_x a_x_places a_x_weight x_size x_places) [(0, .ref a_x), (1, .int v1), (2, .int v2)] [] 6 := by
  obtain ⟨hx, hb, hr, hml, hown, hts, hlk, hgk, hA⟩ := id C
  have hK := hgk.1
  intro n
  induction n with
  | zero => intro v1 v2 h; cases h
  | succ n hk_6 =>
    intro v1 v2 h
    have h : g_X2_smallestCover_b6 N x_size x_places (f_X2_smallestCover_b6 N x_size x_places n) v1 v2 = some q := h
    generalize f_X2_smallestCover_b6 N x_size x_places n = k_6 at h hk_6
    unfold g_X2_smallestCover_b6 at h
    intro H locs ls hP hD hS hl
    refine lv_iload_n hx hb dX2_smallestCover_6 rfl (lv_at hl 2 rfl) ?_
    refine lv_sipush (v := 1023) hx hb dX2_smallestCover_7 (by decide) ?_
    refine lv_icmp_gt (tgt := 40) hx hb dX2_smallestCover_10 (by decide) (fun c1 => ?_) (fun c1 => ?_)
    · have h := ift c1 h
      refine lv_iload_n hx hb dX2_smallestCover_40 rfl (lv_at hl 1 rfl) ?_
      obtain rfl := Option.some.inj h
      exact g_iret C hP hD hS dX2_smallestCover_41
    · have h := iff_ c1 h
      refine lv_iload_n hx hb dX2_smallestCover_13 rfl (lv_at hl 2 rfl) ?_
      refine g_callS0 (index := 28) (maxL := 1) (n := 1) (As := [.int v2]) (rest := []) (st1 := [.int (f_J6_bitCount_0f7a4 v2)]) C hP hS hl.1 (c_J6_bitCount_0f7a4 l D cI cJ cZ cG v2 _ rfl) gX2_smallestCover_J6_bitCount_0f7a4 rfl rfl rfl (by decide +kernel) ⟨Nat.le_of_ble_eq_true rfl, Nat.le_of_ble_eq_true rfl⟩ rfl (Nat.le_of_ble_eq_true rfl) rfl dX2_smallestCover_14 rfl (fun H locs hP hS => ?_)
      refine lv_iload_n hx hb dX2_smallestCover_17 rfl (lv_at hl 1 rfl) ?_
      refine g_callS0 (index := 28) (maxL := 1) (n := 1) (As := [.int v1]) (rest := [.int (f_J6_bitCount_0f7a4 v2)]) (st1 := [.int (f_J6_bitCount_0f7a4 v1), .int (f_J6_bitCount_0f7a4 v2)]) C hP hS hl.1 (c_J6_bitCount_0f7a4 l D cI cJ cZ cG v1 _ rfl) gX2_smallestCover_J6_bitCount_0f7a4 rfl rfl rfl (by decide +kernel) ⟨Nat.le_of_ble_eq_true rfl, Nat.le_of_ble_eq_true rfl⟩ rfl (Nat.le_of_ble_eq_true rfl) rfl dX2_smallestCover_18 rfl (fun H locs hP hS => ?_)
      refine lv_icmp_ge (tgt := 34) hx hb dX2_smallestCover_21 (by decide) (fun c2 => ?_) (fun c2 => ?_)
      · have h := ift c2 h
        refine lv_iinc (v := v2 + 1) (lv' := [(2, .int (v2 + 1)), (0, .ref a_x), (1, .int v1)]) hx hb dX2_smallestCover_34 hl (k := 2) rfl rfl (by decide) rfl (fun ls hl => ?_)
        refine lv_goto (tgt := 6) hx hb dX2_smallestCover_37 (by decide) ?_
        exact hk_6 v1 (v2 + 1) h H locs ls hP hD hS (lv_sub hl [1, 2, 0] rfl)
      · have h := iff_ c2 h
        refine lv_aload_n hx hb dX2_smallestCover_24 rfl (lv_at hl 0 rfl) ?_
        refine lv_iload_n hx hb dX2_smallestCover_25 rfl (lv_at hl 2 rfl) ?_
        obtain ⟨q3, e3, h⟩ := bd_some h
        refine g_callV (index := 37) (maxL := 4) (n := 1) (As := [.int v2]) (rest := []) (st1 := [.int q3]) (C1 := RX2) (T1 := TX2) (N1 := 3) (ws2 := (w_X2_smallestCover cI cJ cZ cG a_x a_x_places a_x_weight x_size x_places)) C hP hD hS hl.1 2 0 (c_X2_catchesAll l D cI cJ cZ cG a_x a_x_places a_x_weight x_size x_places v2 N q3 e3) gX2_smallestCover_X2_catchesAll rfl rfl rfl (by decide +kernel) ⟨Nat.le_of_ble_eq_true rfl, Nat.le_of_ble_eq_true rfl⟩ rfl rfl rfl (Nat.le_of_ble_eq_true rfl) rfl dX2_smallestCover_26 [0, 1] [] [0, 1] rfl rfl rfl rfl (by decide) rfl rfl rfl (fun H locs hP hD hS => ?_)
        refine lv_if_eq (tgt := 34) hx hb dX2_smallestCover_29 (by decide) (fun c4 => ?_) (fun c4 => ?_)
        · have h := ift c4 h
          refine lv_iinc (v := v2 + 1) (lv' := [(2, .int (v2 + 1)), (0, .ref a_x), (1, .int v1)]) hx hb dX2_smallestCover_34 hl (k := 2) rfl rfl (by decide) rfl (fun ls hl => ?_)
          refine lv_goto (tgt := 6) hx hb dX2_smallestCover_37 (by decide) ?_
          exact hk_6 v1 (v2 + 1) h H locs ls hP hD hS (lv_sub hl [1, 2, 0] rfl)
        · have h := iff_ c4 h
          refine lv_iload_n hx hb dX2_smallestCover_32 rfl (lv_at hl 2 rfl) ?_
          refine lv_istore_n (lv' := [(1, .int v2), (0, .ref a_x), (2, .int v2)]) hx hb dX2_smallestCover_33 rfl hl (by decide) rfl (fun ls hl => ?_)
          refine lv_iinc (v := v2 + 1) (lv' := [(2, .int (v2 + 1)), (1, .int v2), (0, .ref a_x)]) hx hb dX2_smallestCover_34 hl (k := 2) rfl rfl (by decide) rfl (fun ls hl => ?_)
          refine lv_goto (tgt := 6) hx hb dX2_smallestCover_37 (by decide) ?_
          exact hk_6 v2 (v2 + 1) h H locs ls hP hD hS (lv_sub hl [2, 1, 0] rfl)
set_option maxRecDepth 100000 in
set_option maxHeartbeats 4000000 in
theorem c_X2_smallestCover (l : Launch) (D : va_G) (cI cJ cZ cG : ClassId) (a_x a_x_places a_x_weight : Nat) (x_size : Int32) (x_places : (Nat → Int32)) (N : Nat) (q : Int32) (h : f_X2_smallestCover N x_size x_places = some q) : gMet l yX2_smallestCover wsX2_smallestCover rm_X2_smallestCover [.ref a_x] (w_X2_smallestCover cI cJ cZ cG a_x a_x_places a_x_weight x_size x_places) (w_X2_smallestCover cI cJ cZ cG a_x a_x_places a_x_weight x_size x_places) (some (.int q)) D cI cJ cZ cG := by
  refine g_enter (cc := cX2_smallestCover) (nL := 3) (ret := (some .int)) (by decide) rfl (Nat.le_of_ble_eq_true rfl) ?_
  intro p e s m below meth c A C H locs ls hP hD hS hl
  obtain ⟨hx, hb, hr, hml, hown, hts, hlk, hgk, hA⟩ := id C
  have hK := hgk.1
  have hl : lv_has ls 3 [(0, .ref a_x)] := hl
  unfold f_X2_smallestCover at h
  refine lv_sipush (v := 1023) hx hb dX2_smallestCover_0 (by decide) ?_
  refine lv_istore_n (lv' := [(1, .int 1023), (0, .ref a_x)]) hx hb dX2_smallestCover_3 rfl hl (by decide) rfl (fun ls hl => ?_)
  refine lv_iconst (v := 0) hx hb dX2_smallestCover_4 (by decide) ?_
  refine lv_istore_n (lv' := [(2, .int 0), (1, .int 1023), (0, .ref a_x)]) hx hb dX2_smallestCover_5 rfl hl (by decide) rfl (fun ls hl => ?_)
  exact t_X2_smallestCover_b6 C a_x a_x_places a_x_weight x_size x_places N q N 1023 0 h H locs ls hP hD hS (lv_sub hl [2, 1, 0] rfl)
theorem in_X3_peak_X8 : ∀ w ∈ wsX80, w ∈ wsX3_peak := by decide +kernel
theorem mb_X3_peak_0 : Cond.fieldLink RX3 71 "GuardDesk$Targets" "gain" "[I" ∈ wsX3_peak := List.mem_of_getElem? (i := 1) rfl
theorem mb_X3_peak_1 : Cond.fieldLink RX3 74 "GuardDesk$Targets" "gap" "[I" ∈ wsX3_peak := List.mem_of_getElem? (i := 2) rfl
theorem mb_X3_peak_2 : Cond.fieldLink RX3 31 "GuardDesk$Targets" "least" "[I" ∈ wsX3_peak := List.mem_of_getElem? (i := 3) rfl
set_option maxRecDepth 100000 in
set_option maxHeartbeats 4000000 in
theorem c_X3_peak (l : Launch) (D : va_G) (cI cJ cZ cG : ClassId) (a_o0 a_o0_kind a_o0_saved a_o0_lost a_o0_gain a_o0_gap a_o0_least a_o0_most a_o0_hand : Nat) (o0_size : Int32) (o0_guards : Int32) (o0_gain : (Nat → Int32)) (o0_gap : (Nat → Int32)) (o0_least : (Nat → Int32)) (p1 : Int32) (q : Int64) (h : f_X3_peak o0_gain o0_gap o0_least p1 = some q) : gMet l yX3_peak wsX3_peak rm_X3_peak [.ref a_o0, .int p1] (w_X3_peak cI cJ cZ cG a_o0 a_o0_kind a_o0_saved a_o0_lost a_o0_gain a_o0_gap a_o0_least a_o0_most a_o0_hand o0_size o0_guards o0_gain o0_gap o0_least) (w_X3_peak cI cJ cZ cG a_o0 a_o0_kind a_o0_saved a_o0_lost a_o0_gain a_o0_gap a_o0_least a_o0_most a_o0_hand o0_size o0_guards o0_gain o0_gap o0_least) (some (.long q)) D cI cJ cZ cG := by
  refine g_enter (cc := cX3_peak) (nL := 2) (ret := (some .long)) (by decide) rfl (Nat.le_of_ble_eq_true rfl) ?_
  intro p e s m below meth c A C H locs ls hP hD hS hl
  obtain ⟨hx, hb, hr, hml, hown, hts, hlk, hgk, hA⟩ := id C
  have hK := hgk.1
  have hl : lv_has ls 2 [(0, .ref a_o0), (1, .int p1)] := hl
  unfold f_X3_peak at h
  refine lv_bipush (v := 60) hx hb dX3_peak_0 (by decide) ?_
  refine lv_aload_n hx hb dX3_peak_2 rfl (lv_at hl 0 rfl) ?_
  refine va_get (D := D) (ci := 8) (v := .ref a_o0_gain) (C := RX8) (T := TX8) (N := 10) hx hb hts in_X3_peak_X8 hown hK hP 0 rfl rfl 5 (by decide) (hts _ mb_X3_peak_0) (fun _ h9 => h9) rfl dX3_peak_3 ?_
  refine lv_iload_n hx hb dX3_peak_6 rfl (lv_at hl 1 rfl) ?_
  obtain ⟨i1, h⟩ := gI_some h
  refine va_iald hx hb hK hP 1 0 rfl rfl i1 dX3_peak_7 ?_
  refine lv_imul hx hb dX3_peak_8 ?_
  refine lv_aload_n hx hb dX3_peak_9 rfl (lv_at hl 0 rfl) ?_
  refine va_get (D := D) (ci := 8) (v := .ref a_o0_gap) (C := RX8) (T := TX8) (N := 10) hx hb hts in_X3_peak_X8 hown hK hP 0 rfl rfl 6 (by decide) (hts _ mb_X3_peak_1) (fun _ h9 => h9) rfl dX3_peak_10 ?_
  refine lv_iload_n hx hb dX3_peak_13 rfl (lv_at hl 1 rfl) ?_
  obtain ⟨i2, h⟩ := gI_some h
  refine va_iald hx hb hK hP 2 0 rfl rfl i2 dX3_peak_14 ?_
  refine lv_aload_n hx hb dX3_peak_15 rfl (lv_at hl 0 rfl) ?_
  refine va_get (D := D) (ci := 8) (v := .ref a_o0_least) (C := RX8) (T := TX8) (N := 10) hx hb hts in_X3_peak_X8 hown hK hP 0 rfl rfl 7 (by decide) (hts _ mb_X3_peak_2) (fun _ h9 => h9) rfl dX3_peak_16 ?_
  refine lv_iload_n hx hb dX3_peak_19 rfl (lv_at hl 1 rfl) ?_
  obtain ⟨i3, h⟩ := gI_some h
  refine va_iald hx hb hK hP 3 0 rfl rfl i3 dX3_peak_20 ?_
  refine lv_imul hx hb dX3_peak_21 ?_
  refine lv_isub hx hb dX3_peak_22 ?_
  refine lv_i2l (v := ((60 * (o0_gain p1.toNatClampNeg)) - ((o0_gap p1.toNatClampNeg) * (o0_least p1.toNatClampNeg))).toInt64) hx hb dX3_peak_23 rfl ?_
  obtain rfl := Option.some.inj h
  exact g_lret C hP hD hS dX3_peak_24
theorem in_X3_slope_X8 : ∀ w ∈ wsX80, w ∈ wsX3_slope := by decide +kernel
theorem mb_X3_slope_0 : Cond.fieldLink RX3 74 "GuardDesk$Targets" "gap" "[I" ∈ wsX3_slope := List.mem_of_getElem? (i := 1) rfl
set_option maxRecDepth 100000 in
set_option maxHeartbeats 4000000 in
theorem c_X3_slope (l : Launch) (D : va_G) (cI cJ cZ cG : ClassId) (a_o0 a_o0_kind a_o0_saved a_o0_lost a_o0_gain a_o0_gap a_o0_least a_o0_most a_o0_hand : Nat) (o0_size : Int32) (o0_guards : Int32) (o0_gap : (Nat → Int32)) (p1 : Int32) (q : Int64) (h : f_X3_slope o0_gap p1 = some q) : gMet l yX3_slope wsX3_slope rm_X3_slope [.ref a_o0, .int p1] (w_X3_slope cI cJ cZ cG a_o0 a_o0_kind a_o0_saved a_o0_lost a_o0_gain a_o0_gap a_o0_least a_o0_most a_o0_hand o0_size o0_guards o0_gap) (w_X3_slope cI cJ cZ cG a_o0 a_o0_kind a_o0_saved a_o0_lost a_o0_gain a_o0_gap a_o0_least a_o0_most a_o0_hand o0_size o0_guards o0_gap) (some (.long q)) D cI cJ cZ cG := by
  refine g_enter (cc := cX3_slope) (nL := 3) (ret := (some .long)) (by decide) rfl (Nat.le_of_ble_eq_true rfl) ?_
  intro p e s m below meth c A C H locs ls hP hD hS hl
  obtain ⟨hx, hb, hr, hml, hown, hts, hlk, hgk, hA⟩ := id C
  have hK := hgk.1
  have hl : lv_has ls 3 [(0, .ref a_o0), (1, .int p1)] := hl
  unfold f_X3_slope at h
  refine lv_aload_n hx hb dX3_slope_0 rfl (lv_at hl 0 rfl) ?_
  refine va_get (D := D) (ci := 8) (v := .ref a_o0_gap) (C := RX8) (T := TX8) (N := 10) hx hb hts in_X3_slope_X8 hown hK hP 0 rfl rfl 6 (by decide) (hts _ mb_X3_slope_0) (fun _ h9 => h9) rfl dX3_slope_1 ?_
  refine lv_iload_n hx hb dX3_slope_4 rfl (lv_at hl 1 rfl) ?_
  obtain ⟨i1, h⟩ := gI_some h
  refine va_iald hx hb hK hP 1 0 rfl rfl i1 dX3_slope_5 ?_
  refine lv_istore_n (lv' := [(2, .int (o0_gap p1.toNatClampNeg)), (0, .ref a_o0), (1, .int p1)]) hx hb dX3_slope_6 rfl hl (by decide) rfl (fun ls hl => ?_)
  refine lv_iload_n hx hb dX3_slope_7 rfl (lv_at hl 0 rfl) ?_
  refine lv_if_gt (tgt := 15) hx hb dX3_slope_8 (by decide) (fun c2 => ?_) (fun c2 => ?_)
  · have h := ift c2 h
    refine lv_bipush (v := 60) hx hb dX3_slope_15 (by decide) ?_
    refine lv_iload_n hx hb dX3_slope_17 rfl (lv_at hl 0 rfl) ?_
    obtain ⟨z3, h⟩ := gDi_some h
    refine lv_idiv hx hb dX3_slope_18 z3 ?_
    refine lv_i2l (v := (60 / (o0_gap p1.toNatClampNeg)).toInt64) hx hb dX3_slope_19 rfl ?_
    obtain rfl := Option.some.inj h
    exact g_lret C hP hD hS dX3_slope_20
  · have h := iff_ c2 h
    refine lv_lconst (v := 0) hx hb dX3_slope_11 (by decide) ?_
    refine lv_goto (tgt := 20) hx hb dX3_slope_12 (by decide) ?_
    obtain rfl := Option.some.inj h
    exact g_lret C hP hD hS dX3_slope_20
theorem in_X3_raiseLevel_X3 : ∀ w ∈ wsX30, w ∈ wsX3_raiseLevel := by decide +kernel
theorem in_X3_raiseLevel_X8 : ∀ w ∈ wsX80, w ∈ wsX3_raiseLevel := by decide +kernel
theorem mb_X3_raiseLevel_0 : Cond.fieldLink RX3 28 "GuardDesk$Targets" "size" "I" ∈ wsX3_raiseLevel := List.mem_of_getElem? (i := 2) rfl
theorem mb_X3_raiseLevel_1 : Cond.fieldLink RX3 9 "GuardDesk$Plan" "levelBelow" "J" ∈ wsX3_raiseLevel := List.mem_of_getElem? (i := 3) rfl
theorem mb_X3_raiseLevel_2 : Cond.fieldLink RX3 46 "GuardDesk$Plan" "levelAbove" "J" ∈ wsX3_raiseLevel := List.mem_of_getElem? (i := 4) rfl
theorem mb_X3_raiseLevel_3 : Cond.constantLong RX3 84 (-60) ∈ wsX3_raiseLevel := List.mem_of_getElem? (i := 1) rfl
set_option maxRecDepth 100000 in
set_option maxHeartbeats 4000000 in
theorem t_X3_raiseLevel_b14 (C : cx D cI cJ cZ cG A cX3_raiseLevel 12 none RX3 wsX3_raiseLevel p s m args meth c) (a_x a_x_parts a_o1 a_o1_kind a_o1_saved a_o1_lost a_o1_gain a_o1_gap a_o1_least a_o1_most a_o1_hand : Nat) (x_unit : Int64) (x_size : Int32) (x_goal : Int32) (o1_size : Int32) (o1_guards : Int32) (o1_gain : (Nat → Int32)) (o1_gap : (Nat → Int32)) (o1_least : (Nat → Int32)) (N : Nat) (q : Int64 × Int64) (x_levelAbove : Int64) (x_levelBelow : Int64) (v3 : Int64) : ∀ (n : Nat) (v5 : Int64) (v7 : Int64) (v9 : Int32), f_X3_raiseLevel_b14 N o1_size o1_gain o1_gap o1_least x_levelAbove x_levelBelow v3 n v5 v7 v9 = some q → WB p l e rm_X3_raiseLevel s m args below meth c (MQ below (Qg D none (w_X3_raiseLevel cI cJ cZ cG a_x a_x_parts a_o1 a_o1_kind a_o1_saved a_o1_lost a_o1_gain a_o1_gap a_o1_least a_o1_most a_o1_hand q.1 q.2 x_unit x_size x_goal o1_size o1_guards o1_gain o1_gap o1_least) A) args s 0 0 A) D A 12 (w_X3_raiseLevel cI cJ cZ cG a_x a_x_parts a_o1 a_o1_kind a_o1_saved a_o1_lost a_o1_gain a_o1_gap a_o1_least a_o1_most a_o1_hand x_levelAbove x_levelBelow x_unit x_size x_goal o1_size o1_guards o1_gain o1_gap o1_least) [(0, .ref a_x), (1, .ref a_o1), (3, .long v3), (5, .long v5), (7, .long v7), (9, .int v9)] [] 14 := by
  obtain ⟨hx, hb, hr, hml, hown, hts, hlk, hgk, hA⟩ := id C
  have hK := hgk.1
  intro n
  induction n with
  | zero => intro v5 v7 v9 h; cases h
  | succ n hk_14 =>
    intro v5 v7 v9 h
    have h : g_X3_raiseLevel_b14 N o1_size o1_gain o1_gap o1_least x_levelAbove x_levelBelow v3 (f_X3_raiseLevel_b14 N o1_size o1_gain o1_gap o1_least x_levelAbove x_levelBelow v3 n) v5 v7 v9 = some q := h
    generalize f_X3_raiseLevel_b14 N o1_size o1_gain o1_gap o1_least x_levelAbove x_levelBelow v3 n = k_14 at h hk_14
    unfold g_X3_raiseLevel_b14 at h
    intro H locs ls hP hD hS hl
    refine lv_iload hx hb dX3_raiseLevel_14 (lv_at hl 5 rfl) ?_
    refine lv_aload_n hx hb dX3_raiseLevel_16 rfl (lv_at hl 1 rfl) ?_
    refine va_get (D := D) (ci := 8) (v := .int o1_size) (C := RX8) (T := TX8) (N := 10) hx hb hts in_X3_raiseLevel_X8 hown hK hP 1 rfl rfl 0 (by decide) (hts _ mb_X3_raiseLevel_0) (fun _ h9 => h9) rfl dX3_raiseLevel_17 ?_
    refine lv_icmp_ge (tgt := 69) hx hb dX3_raiseLevel_20 (by decide) (fun c1 => ?_) (fun c1 => ?_)
    · have h := ift c1 h
      refine lv_lload hx hb dX3_raiseLevel_69 (lv_at hl 4 rfl) ?_
      refine lv_lconst (v := 0) hx hb dX3_raiseLevel_71 (by decide) ?_
      refine W.lcmp hx hb dX3_raiseLevel_72 ?_
      refine lv_if_le (tgt := 106) hx hb dX3_raiseLevel_73 (by decide) (fun c2 => ?_) (fun c2 => ?_)
      · have c2 := lc_le.mp c2
        have h := ift c2 h
        obtain rfl := Option.some.inj h
        exact g_vret C hP hD hS dX3_raiseLevel_106
      · have c2 := (not_congr lc_le).mp c2
        have h := iff_ c2 h
        refine lv_lload hx hb dX3_raiseLevel_76 (lv_at hl 3 rfl) ?_
        refine lv_aload_n hx hb dX3_raiseLevel_78 rfl (lv_at hl 0 rfl) ?_
        refine va_get (D := D) (ci := 3) (v := .long x_levelBelow) (C := RX3) (T := TX3) (N := 6) hx hb hts in_X3_raiseLevel_X3 hown hK hP 0 rfl rfl 1 (by decide) (hts _ mb_X3_raiseLevel_1) (fun _ h9 => h9) rfl dX3_raiseLevel_79 ?_
        refine lv_lmul hx hb dX3_raiseLevel_82 ?_
        refine lv_aload_n hx hb dX3_raiseLevel_83 rfl (lv_at hl 0 rfl) ?_
        refine va_get (D := D) (ci := 3) (v := .long x_levelAbove) (C := RX3) (T := TX3) (N := 6) hx hb hts in_X3_raiseLevel_X3 hown hK hP 0 rfl rfl 0 (by decide) (hts _ mb_X3_raiseLevel_2) (fun _ h9 => h9) rfl dX3_raiseLevel_84 ?_
        refine lv_lload hx hb dX3_raiseLevel_87 (lv_at hl 4 rfl) ?_
        refine lv_lmul hx hb dX3_raiseLevel_89 ?_
        refine W.lcmp hx hb dX3_raiseLevel_90 ?_
        refine lv_if_le (tgt := 106) hx hb dX3_raiseLevel_91 (by decide) (fun c3 => ?_) (fun c3 => ?_)
        · have c3 := lc_le.mp c3
          have h := ift c3 h
          obtain rfl := Option.some.inj h
          exact g_vret C hP hD hS dX3_raiseLevel_106
        · have c3 := (not_congr lc_le).mp c3
          have h := iff_ c3 h
          refine lv_aload_n hx hb dX3_raiseLevel_94 rfl (lv_at hl 0 rfl) ?_
          refine lv_lload hx hb dX3_raiseLevel_95 (lv_at hl 3 rfl) ?_
          refine va_put (D := D) (ci := 3) (v := .long v5) (ty := .long) (C := RX3) (T := TX3) (N := 6) hx hb hts in_X3_raiseLevel_X3 tyX3 tyX3_ok nmX3 hown hK hP hD hS 0 rfl rfl 0 (by decide) (hts _ mb_X3_raiseLevel_2) (fun _ h9 => h9) rfl (by decide +kernel) rfl rfl (Nat.le_of_ble_eq_true rfl) dX3_raiseLevel_97 (fun H locs hP hD hS => ?_)
          have hP : va_P D vwCl (w_X3_raiseLevel cI cJ cZ cG a_x a_x_parts a_o1 a_o1_kind a_o1_saved a_o1_lost a_o1_gain a_o1_gap a_o1_least a_o1_most a_o1_hand v5 x_levelBelow x_unit x_size x_goal o1_size o1_guards o1_gain o1_gap o1_least) H := hP
          have hD : va_D A (w_X3_raiseLevel cI cJ cZ cG a_x a_x_parts a_o1 a_o1_kind a_o1_saved a_o1_lost a_o1_gain a_o1_gap a_o1_least a_o1_most a_o1_hand v5 x_levelBelow x_unit x_size x_goal o1_size o1_guards o1_gain o1_gap o1_least) := hD
          refine lv_aload_n hx hb dX3_raiseLevel_100 rfl (lv_at hl 0 rfl) ?_
          refine lv_lload hx hb dX3_raiseLevel_101 (lv_at hl 4 rfl) ?_
          refine va_put (D := D) (ci := 3) (v := .long v7) (ty := .long) (C := RX3) (T := TX3) (N := 6) hx hb hts in_X3_raiseLevel_X3 tyX3 tyX3_ok nmX3 hown hK hP hD hS 0 rfl rfl 1 (by decide) (hts _ mb_X3_raiseLevel_1) (fun _ h9 => h9) rfl (by decide +kernel) rfl rfl (Nat.le_of_ble_eq_true rfl) dX3_raiseLevel_103 (fun H locs hP hD hS => ?_)
          have hP : va_P D vwCl (w_X3_raiseLevel cI cJ cZ cG a_x a_x_parts a_o1 a_o1_kind a_o1_saved a_o1_lost a_o1_gain a_o1_gap a_o1_least a_o1_most a_o1_hand v5 v7 x_unit x_size x_goal o1_size o1_guards o1_gain o1_gap o1_least) H := hP
          have hD : va_D A (w_X3_raiseLevel cI cJ cZ cG a_x a_x_parts a_o1 a_o1_kind a_o1_saved a_o1_lost a_o1_gain a_o1_gap a_o1_least a_o1_most a_o1_hand v5 v7 x_unit x_size x_goal o1_size o1_guards o1_gain o1_gap o1_least) := hD
          obtain rfl := Option.some.inj h
          exact g_vret C hP hD hS dX3_raiseLevel_106
    · have h := iff_ c1 h
      refine lv_aload_n hx hb dX3_raiseLevel_23 rfl (lv_at hl 1 rfl) ?_
      refine lv_iload hx hb dX3_raiseLevel_24 (lv_at hl 5 rfl) ?_
      obtain ⟨q4, e4, h⟩ := bd_some h
      refine g_callS (index := 42) (maxL := 2) (n := 2) (As := [.ref a_o1, .int v9]) (rest := []) (st1 := [.long q4]) (ws2 := (w_X3_raiseLevel cI cJ cZ cG a_x a_x_parts a_o1 a_o1_kind a_o1_saved a_o1_lost a_o1_gain a_o1_gap a_o1_least a_o1_most a_o1_hand x_levelAbove x_levelBelow x_unit x_size x_goal o1_size o1_guards o1_gain o1_gap o1_least)) C hP hD hS hl.1 (c_X3_peak l D cI cJ cZ cG a_o1 a_o1_kind a_o1_saved a_o1_lost a_o1_gain a_o1_gap a_o1_least a_o1_most a_o1_hand o1_size o1_guards o1_gain o1_gap o1_least v9 q4 e4) gX3_raiseLevel_X3_peak rfl rfl rfl (by decide +kernel) ⟨Nat.le_of_ble_eq_true rfl, Nat.le_of_ble_eq_true rfl⟩ rfl (Nat.le_of_ble_eq_true rfl) rfl dX3_raiseLevel_26 [1, 2, 3, 4] [0] [0, 1, 2, 3, 4] rfl rfl rfl rfl (by decide) rfl rfl rfl (fun H locs hP hD hS => ?_)
      refine lv_lstore (lv' := [(10, .long q4), (0, .ref a_x), (1, .ref a_o1), (3, .long v3), (5, .long v5), (7, .long v7), (9, .int v9)]) hx hb dX3_raiseLevel_29 hl (by decide) rfl (fun ls hl => ?_)
      refine lv_lload hx hb dX3_raiseLevel_31 (lv_at hl 0 rfl) ?_
      refine lv_lload_n hx hb dX3_raiseLevel_33 rfl (lv_at hl 3 rfl) ?_
      refine W.lcmp hx hb dX3_raiseLevel_34 ?_
      refine lv_if_lt (tgt := 63) hx hb dX3_raiseLevel_35 (by decide) (fun c5 => ?_) (fun c5 => ?_)
      · have c5 := lc_lt.mp c5
        have h := ift c5 h
        refine lv_iinc (v := v9 + 1) (lv' := [(9, .int (v9 + 1)), (10, .long q4), (0, .ref a_x), (1, .ref a_o1), (3, .long v3), (5, .long v5), (7, .long v7)]) hx hb dX3_raiseLevel_63 hl (k := 6) rfl rfl (by decide) rfl (fun ls hl => ?_)
        refine lv_goto (tgt := 14) hx hb dX3_raiseLevel_66 (by decide) ?_
        exact hk_14 v5 v7 (v9 + 1) h H locs ls hP hD hS (lv_sub hl [2, 3, 4, 5, 6, 0] rfl)
      · have c5 := (not_congr lc_lt).mp c5
        have h := iff_ c5 h
        refine lv_lload hx hb dX3_raiseLevel_38 (lv_at hl 4 rfl) ?_
        refine lv_aload_n hx hb dX3_raiseLevel_40 rfl (lv_at hl 2 rfl) ?_
        refine lv_iload hx hb dX3_raiseLevel_41 (lv_at hl 6 rfl) ?_
        obtain ⟨q6, e6, h⟩ := bd_some h
        refine g_callS (index := 55) (maxL := 3) (n := 2) (As := [.ref a_o1, .int v9]) (rest := [.long v5]) (st1 := [.long q6, .long v5]) (ws2 := (w_X3_raiseLevel cI cJ cZ cG a_x a_x_parts a_o1 a_o1_kind a_o1_saved a_o1_lost a_o1_gain a_o1_gap a_o1_least a_o1_most a_o1_hand x_levelAbove x_levelBelow x_unit x_size x_goal o1_size o1_guards o1_gain o1_gap o1_least)) C hP hD hS hl.1 (c_X3_slope l D cI cJ cZ cG a_o1 a_o1_kind a_o1_saved a_o1_lost a_o1_gain a_o1_gap a_o1_least a_o1_most a_o1_hand o1_size o1_guards o1_gap v9 q6 e6) gX3_raiseLevel_X3_slope rfl rfl rfl (by decide +kernel) ⟨Nat.le_of_ble_eq_true rfl, Nat.le_of_ble_eq_true rfl⟩ rfl (Nat.le_of_ble_eq_true rfl) rfl dX3_raiseLevel_43 [1, 3] [0, 2, 4] [0, 3, 1, 4, 2] rfl rfl rfl rfl (by decide) rfl rfl rfl (fun H locs hP hD hS => ?_)
        refine lv_lload hx hb dX3_raiseLevel_46 (lv_at hl 0 rfl) ?_
        refine lv_lmul hx hb dX3_raiseLevel_48 ?_
        refine lv_ladd hx hb dX3_raiseLevel_49 ?_
        refine lv_lstore (lv' := [(5, .long (v5 + (q6 * q4))), (10, .long q4), (0, .ref a_x), (1, .ref a_o1), (3, .long v3), (7, .long v7), (9, .int v9)]) hx hb dX3_raiseLevel_50 hl (by decide) rfl (fun ls hl => ?_)
        refine lv_lload hx hb dX3_raiseLevel_52 (lv_at hl 5 rfl) ?_
        refine lv_aload_n hx hb dX3_raiseLevel_54 rfl (lv_at hl 3 rfl) ?_
        refine lv_iload hx hb dX3_raiseLevel_55 (lv_at hl 6 rfl) ?_
        obtain ⟨q7, e7, h⟩ := bd_some h
        refine g_callS (index := 55) (maxL := 3) (n := 2) (As := [.ref a_o1, .int v9]) (rest := [.long v7]) (st1 := [.long q7, .long v7]) (ws2 := (w_X3_raiseLevel cI cJ cZ cG a_x a_x_parts a_o1 a_o1_kind a_o1_saved a_o1_lost a_o1_gain a_o1_gap a_o1_least a_o1_most a_o1_hand x_levelAbove x_levelBelow x_unit x_size x_goal o1_size o1_guards o1_gain o1_gap o1_least)) C hP hD hS hl.1 (c_X3_slope l D cI cJ cZ cG a_o1 a_o1_kind a_o1_saved a_o1_lost a_o1_gain a_o1_gap a_o1_least a_o1_most a_o1_hand o1_size o1_guards o1_gap v9 q7 e7) gX3_raiseLevel_X3_slope rfl rfl rfl (by decide +kernel) ⟨Nat.le_of_ble_eq_true rfl, Nat.le_of_ble_eq_true rfl⟩ rfl (Nat.le_of_ble_eq_true rfl) rfl dX3_raiseLevel_57 [1, 3] [0, 2, 4] [0, 3, 1, 4, 2] rfl rfl rfl rfl (by decide) rfl rfl rfl (fun H locs hP hD hS => ?_)
        refine lv_ladd hx hb dX3_raiseLevel_60 ?_
        refine lv_lstore (lv' := [(7, .long (v7 + q7)), (5, .long (v5 + (q6 * q4))), (10, .long q4), (0, .ref a_x), (1, .ref a_o1), (3, .long v3), (9, .int v9)]) hx hb dX3_raiseLevel_61 hl (by decide) rfl (fun ls hl => ?_)
        refine lv_iinc (v := v9 + 1) (lv' := [(9, .int (v9 + 1)), (7, .long (v7 + q7)), (5, .long (v5 + (q6 * q4))), (10, .long q4), (0, .ref a_x), (1, .ref a_o1), (3, .long v3)]) hx hb dX3_raiseLevel_63 hl (k := 6) rfl rfl (by decide) rfl (fun ls hl => ?_)
        refine lv_goto (tgt := 14) hx hb dX3_raiseLevel_66 (by decide) ?_
        exact hk_14 (v5 + (q6 * q4)) (v7 + q7) (v9 + 1) h H locs ls hP hD hS (lv_sub hl [4, 5, 6, 2, 1, 0] rfl)
set_option maxRecDepth 100000 in
set_option maxHeartbeats 4000000 in
theorem c_X3_raiseLevel (l : Launch) (D : va_G) (cI cJ cZ cG : ClassId) (a_x a_x_parts a_o1 a_o1_kind a_o1_saved a_o1_lost a_o1_gain a_o1_gap a_o1_least a_o1_most a_o1_hand : Nat) (x_levelAbove : Int64) (x_levelBelow : Int64) (x_unit : Int64) (x_size : Int32) (x_goal : Int32) (o1_size : Int32) (o1_guards : Int32) (o1_gain : (Nat → Int32)) (o1_gap : (Nat → Int32)) (o1_least : (Nat → Int32)) (p2 : Int32) (p3 : Int64) (N : Nat) (q : Int64 × Int64) (h : f_X3_raiseLevel N x_levelAbove x_levelBelow o1_size o1_gain o1_gap o1_least p2 p3 = some q) : gMet l yX3_raiseLevel wsX3_raiseLevel rm_X3_raiseLevel [.ref a_x, .ref a_o1, .int p2, .long p3] (w_X3_raiseLevel cI cJ cZ cG a_x a_x_parts a_o1 a_o1_kind a_o1_saved a_o1_lost a_o1_gain a_o1_gap a_o1_least a_o1_most a_o1_hand x_levelAbove x_levelBelow x_unit x_size x_goal o1_size o1_guards o1_gain o1_gap o1_least) (w_X3_raiseLevel cI cJ cZ cG a_x a_x_parts a_o1 a_o1_kind a_o1_saved a_o1_lost a_o1_gain a_o1_gap a_o1_least a_o1_most a_o1_hand q.1 q.2 x_unit x_size x_goal o1_size o1_guards o1_gain o1_gap o1_least) none D cI cJ cZ cG := by
  refine g_enter (cc := cX3_raiseLevel) (nL := 12) (ret := none) (by decide) rfl (Nat.le_of_ble_eq_true rfl) ?_
  intro p e s m below meth c A C H locs ls hP hD hS hl
  obtain ⟨hx, hb, hr, hml, hown, hts, hlk, hgk, hA⟩ := id C
  have hK := hgk.1
  have hl : lv_has ls 12 [(0, .ref a_x), (1, .ref a_o1), (2, .int p2), (3, .long p3)] := hl
  unfold f_X3_raiseLevel at h
  refine lv_ldc2 (v := (-60)) hx hb hown (hts _ mb_X3_raiseLevel_3) dX3_raiseLevel_0 ?_
  refine lv_iload_n hx hb dX3_raiseLevel_3 rfl (lv_at hl 2 rfl) ?_
  refine lv_i2l (v := p2.toInt64) hx hb dX3_raiseLevel_4 rfl ?_
  refine lv_lmul hx hb dX3_raiseLevel_5 ?_
  refine lv_lstore (lv' := [(5, .long ((-60) * p2.toInt64)), (0, .ref a_x), (1, .ref a_o1), (2, .int p2), (3, .long p3)]) hx hb dX3_raiseLevel_6 hl (by decide) rfl (fun ls hl => ?_)
  refine lv_lconst (v := 0) hx hb dX3_raiseLevel_8 (by decide) ?_
  refine lv_lstore (lv' := [(7, .long 0), (5, .long ((-60) * p2.toInt64)), (0, .ref a_x), (1, .ref a_o1), (2, .int p2), (3, .long p3)]) hx hb dX3_raiseLevel_9 hl (by decide) rfl (fun ls hl => ?_)
  refine lv_iconst (v := 0) hx hb dX3_raiseLevel_11 (by decide) ?_
  refine lv_istore (lv' := [(9, .int 0), (7, .long 0), (5, .long ((-60) * p2.toInt64)), (0, .ref a_x), (1, .ref a_o1), (2, .int p2), (3, .long p3)]) hx hb dX3_raiseLevel_12 hl (by decide) rfl (fun ls hl => ?_)
  exact t_X3_raiseLevel_b14 C a_x a_x_parts a_o1 a_o1_kind a_o1_saved a_o1_lost a_o1_gain a_o1_gap a_o1_least a_o1_most a_o1_hand x_unit x_size x_goal o1_size o1_guards o1_gain o1_gap o1_least N q x_levelAbove x_levelBelow p3 N ((-60) * p2.toInt64) 0 0 h H locs ls hP hD hS (lv_sub hl [3, 4, 6, 2, 1, 0] rfl)
theorem in_X3_findLevel_X3 : ∀ w ∈ wsX30, w ∈ wsX3_findLevel := by decide +kernel
theorem in_X3_findLevel_X8 : ∀ w ∈ wsX80, w ∈ wsX3_findLevel := by decide +kernel
theorem mb_X3_findLevel_0 : Cond.fieldLink RX3 28 "GuardDesk$Targets" "size" "I" ∈ wsX3_findLevel := List.mem_of_getElem? (i := 6) rfl
theorem mb_X3_findLevel_1 : Cond.fieldLink RX3 71 "GuardDesk$Targets" "gain" "[I" ∈ wsX3_findLevel := List.mem_of_getElem? (i := 1) rfl
theorem mb_X3_findLevel_2 : Cond.fieldLink RX3 74 "GuardDesk$Targets" "gap" "[I" ∈ wsX3_findLevel := List.mem_of_getElem? (i := 2) rfl
theorem mb_X3_findLevel_3 : Cond.fieldLink RX3 77 "GuardDesk$Targets" "most" "[I" ∈ wsX3_findLevel := List.mem_of_getElem? (i := 3) rfl
theorem mb_X3_findLevel_4 : Cond.fieldLink RX3 46 "GuardDesk$Plan" "levelAbove" "J" ∈ wsX3_findLevel := List.mem_of_getElem? (i := 4) rfl
theorem mb_X3_findLevel_5 : Cond.methodLink RX3 49 Lib.MathLoose.max_long.x ∈ wsX3_findLevel := List.mem_of_getElem? (i := 7) rfl
theorem mb_X3_findLevel_6 : Cond.static Lib.MathLoose.max_long.x ∈ wsX3_findLevel := List.mem_of_getElem? (i := 8) rfl
theorem mb_X3_findLevel_7 : Cond.initialized "java/lang/Math" ∈ wsX3_findLevel := List.mem_of_getElem? (i := 9) rfl
theorem mb_X3_findLevel_8 : Cond.code Lib.MathLoose.max_long.x Lib.MathLoose.max_long.code 4 (some .long) ∈ wsX3_findLevel := List.mem_of_getElem? (i := 10) rfl
theorem mb_X3_findLevel_9 : Cond.fieldLink RX3 9 "GuardDesk$Plan" "levelBelow" "J" ∈ wsX3_findLevel := List.mem_of_getElem? (i := 5) rfl
set_option maxRecDepth 100000 in
set_option maxHeartbeats 4000000 in
theorem t_X3_findLevel_b90 (C : cx D cI cJ cZ cG A cX3_findLevel 6 none RX3 wsX3_findLevel p s m args meth c) (a_x a_x_parts a_o1 a_o1_kind a_o1_saved a_o1_lost a_o1_gain a_o1_gap a_o1_least a_o1_most a_o1_hand : Nat) (x_unit : Int64) (x_size : Int32) (x_goal : Int32) (o1_size : Int32) (o1_guards : Int32) (o1_gain : (Nat → Int32)) (o1_gap : (Nat → Int32)) (o1_least : (Nat → Int32)) (o1_most : (Nat → Int32)) (N : Nat) (q : Int64 × Int64) (v2 : Int32) : ∀ (n : Nat) (x_levelAbove : Int64) (x_levelBelow : Int64) (v3 : Int32), f_X3_findLevel_b90 N o1_size o1_gain o1_gap o1_least o1_most v2 n x_levelAbove x_levelBelow v3 = some q → WB p l e rm_X3_findLevel s m args below meth c (MQ below (Qg D none (w_X3_findLevel cI cJ cZ cG a_x a_x_parts a_o1 a_o1_kind a_o1_saved a_o1_lost a_o1_gain a_o1_gap a_o1_least a_o1_most a_o1_hand q.1 q.2 x_unit x_size x_goal o1_size o1_guards o1_gain o1_gap o1_least o1_most) A) args s 0 0 A) D A 6 (w_X3_findLevel cI cJ cZ cG a_x a_x_parts a_o1 a_o1_kind a_o1_saved a_o1_lost a_o1_gain a_o1_gap a_o1_least a_o1_most a_o1_hand x_levelAbove x_levelBelow x_unit x_size x_goal o1_size o1_guards o1_gain o1_gap o1_least o1_most) [(0, .ref a_x), (1, .ref a_o1), (2, .int v2), (3, .int v3)] [] 90 := by
  obtain ⟨hx, hb, hr, hml, hown, hts, hlk, hgk, hA⟩ := id C
  have hK := hgk.1
  intro n
  induction n with
  | zero => intro x_levelAbove x_levelBelow v3 h; cases h
  | succ n hk_90 =>
    intro x_levelAbove x_levelBelow v3 h
    have h : g_X3_findLevel_b90 N o1_size o1_gain o1_gap o1_least o1_most v2 (f_X3_findLevel_b90 N o1_size o1_gain o1_gap o1_least o1_most v2 n) x_levelAbove x_levelBelow v3 = some q := h
    generalize f_X3_findLevel_b90 N o1_size o1_gain o1_gap o1_least o1_most v2 n = k_90 at h hk_90
    unfold g_X3_findLevel_b90 at h
    intro H locs ls hP hD hS hl
    refine lv_iload_n hx hb dX3_findLevel_90 rfl (lv_at hl 3 rfl) ?_
    refine lv_aload_n hx hb dX3_findLevel_91 rfl (lv_at hl 1 rfl) ?_
    refine va_get (D := D) (ci := 8) (v := .int o1_size) (C := RX8) (T := TX8) (N := 10) hx hb hts in_X3_findLevel_X8 hown hK hP 1 rfl rfl 0 (by decide) (hts _ mb_X3_findLevel_0) (fun _ h9 => h9) rfl dX3_findLevel_92 ?_
    refine lv_icmp_ge (tgt := 115) hx hb dX3_findLevel_95 (by decide) (fun c1 => ?_) (fun c1 => ?_)
    · have h := ift c1 h
      obtain rfl := Option.some.inj h
      exact g_vret C hP hD hS dX3_findLevel_115
    · have h := iff_ c1 h
      refine lv_aload_n hx hb dX3_findLevel_98 rfl (lv_at hl 0 rfl) ?_
      refine lv_aload_n hx hb dX3_findLevel_99 rfl (lv_at hl 1 rfl) ?_
      refine lv_iload_n hx hb dX3_findLevel_100 rfl (lv_at hl 2 rfl) ?_
      refine lv_aload_n hx hb dX3_findLevel_101 rfl (lv_at hl 1 rfl) ?_
      refine lv_iload_n hx hb dX3_findLevel_102 rfl (lv_at hl 3 rfl) ?_
      obtain ⟨q2, e2, h⟩ := bd_some h
      refine g_callS (index := 42) (maxL := 2) (n := 2) (As := [.ref a_o1, .int v3]) (rest := [.int v2, .ref a_o1, .ref a_x]) (st1 := [.long q2, .int v2, .ref a_o1, .ref a_x]) (ws2 := (w_X3_findLevel cI cJ cZ cG a_x a_x_parts a_o1 a_o1_kind a_o1_saved a_o1_lost a_o1_gain a_o1_gap a_o1_least a_o1_most a_o1_hand x_levelAbove x_levelBelow x_unit x_size x_goal o1_size o1_guards o1_gain o1_gap o1_least o1_most)) C hP hD hS hl.1 (c_X3_peak l D cI cJ cZ cG a_o1 a_o1_kind a_o1_saved a_o1_lost a_o1_gain a_o1_gap a_o1_least a_o1_most a_o1_hand o1_size o1_guards o1_gain o1_gap o1_least v3 q2 e2) gX3_findLevel_X3_peak rfl rfl rfl (by decide +kernel) ⟨Nat.le_of_ble_eq_true rfl, Nat.le_of_ble_eq_true rfl⟩ rfl (Nat.le_of_ble_eq_true rfl) rfl dX3_findLevel_103 [1, 2, 3, 4] [0, 5] [0, 2, 3, 4, 5, 1] rfl rfl rfl rfl (by decide) rfl rfl rfl (fun H locs hP hD hS => ?_)
      obtain ⟨q3, e3, h⟩ := bd_some h
      refine g_callV (index := 80) (maxL := 12) (n := 3) (As := [.ref a_o1, .int v2, .long q2]) (rest := []) (st1 := []) (C1 := RX3) (T1 := TX3) (N1 := 6) (ws2 := (w_X3_findLevel cI cJ cZ cG a_x a_x_parts a_o1 a_o1_kind a_o1_saved a_o1_lost a_o1_gain a_o1_gap a_o1_least a_o1_most a_o1_hand q3.1 q3.2 x_unit x_size x_goal o1_size o1_guards o1_gain o1_gap o1_least o1_most)) C hP hD hS hl.1 3 0 (c_X3_raiseLevel l D cI cJ cZ cG a_x a_x_parts a_o1 a_o1_kind a_o1_saved a_o1_lost a_o1_gain a_o1_gap a_o1_least a_o1_most a_o1_hand x_levelAbove x_levelBelow x_unit x_size x_goal o1_size o1_guards o1_gain o1_gap o1_least v2 q2 N q3 e3) gX3_findLevel_X3_raiseLevel rfl rfl rfl (by decide +kernel) ⟨Nat.le_of_ble_eq_true rfl, Nat.le_of_ble_eq_true rfl⟩ rfl rfl rfl (Nat.le_of_ble_eq_true rfl) rfl dX3_findLevel_106 [0, 1, 2, 3, 4] [5] [1, 2, 3, 4, 5, 0] rfl rfl rfl rfl (by decide) rfl rfl rfl (fun H locs hP hD hS => ?_)
      refine lv_iinc (v := v3 + 1) (lv' := [(3, .int (v3 + 1)), (0, .ref a_x), (1, .ref a_o1), (2, .int v2)]) hx hb dX3_findLevel_109 hl (k := 3) rfl rfl (by decide) rfl (fun ls hl => ?_)
      refine lv_goto (tgt := 90) hx hb dX3_findLevel_112 (by decide) ?_
      exact hk_90 q3.1 q3.2 (v3 + 1) h H locs ls hP hD hS (lv_sub hl [1, 2, 3, 0] rfl)
set_option maxRecDepth 100000 in
set_option maxHeartbeats 4000000 in
theorem t_X3_findLevel_b35 (C : cx D cI cJ cZ cG A cX3_findLevel 6 none RX3 wsX3_findLevel p s m args meth c) (a_x a_x_parts a_o1 a_o1_kind a_o1_saved a_o1_lost a_o1_gain a_o1_gap a_o1_least a_o1_most a_o1_hand : Nat) (x_unit : Int64) (x_size : Int32) (x_goal : Int32) (o1_size : Int32) (o1_guards : Int32) (o1_gain : (Nat → Int32)) (o1_gap : (Nat → Int32)) (o1_least : (Nat → Int32)) (o1_most : (Nat → Int32)) (N : Nat) (q : Int64 × Int64) (x_levelBelow : Int64) (v2 : Int32) : ∀ (n : Nat) (x_levelAbove : Int64) (v3 : Int32), f_X3_findLevel_b35 N o1_size o1_gain o1_gap o1_least o1_most x_levelBelow v2 n x_levelAbove v3 = some q → WB p l e rm_X3_findLevel s m args below meth c (MQ below (Qg D none (w_X3_findLevel cI cJ cZ cG a_x a_x_parts a_o1 a_o1_kind a_o1_saved a_o1_lost a_o1_gain a_o1_gap a_o1_least a_o1_most a_o1_hand q.1 q.2 x_unit x_size x_goal o1_size o1_guards o1_gain o1_gap o1_least o1_most) A) args s 0 0 A) D A 6 (w_X3_findLevel cI cJ cZ cG a_x a_x_parts a_o1 a_o1_kind a_o1_saved a_o1_lost a_o1_gain a_o1_gap a_o1_least a_o1_most a_o1_hand x_levelAbove x_levelBelow x_unit x_size x_goal o1_size o1_guards o1_gain o1_gap o1_least o1_most) [(0, .ref a_x), (1, .ref a_o1), (2, .int v2), (3, .int v3)] [] 35 := by
  obtain ⟨hx, hb, hr, hml, hown, hts, hlk, hgk, hA⟩ := id C
  have hK := hgk.1
  intro n
  induction n with
  | zero => intro x_levelAbove v3 h; cases h
  | succ n hk_35 =>
    intro x_levelAbove v3 h
    have h : g_X3_findLevel_b35 N o1_size o1_gain o1_gap o1_least o1_most x_levelBelow v2 (f_X3_findLevel_b35 N o1_size o1_gain o1_gap o1_least o1_most x_levelBelow v2 n) x_levelAbove v3 = some q := h
    generalize f_X3_findLevel_b35 N o1_size o1_gain o1_gap o1_least o1_most x_levelBelow v2 n = k_35 at h hk_35
    unfold g_X3_findLevel_b35 at h
    intro H locs ls hP hD hS hl
    refine lv_iload_n hx hb dX3_findLevel_35 rfl (lv_at hl 3 rfl) ?_
    refine lv_aload_n hx hb dX3_findLevel_36 rfl (lv_at hl 1 rfl) ?_
    refine va_get (D := D) (ci := 8) (v := .int o1_size) (C := RX8) (T := TX8) (N := 10) hx hb hts in_X3_findLevel_X8 hown hK hP 1 rfl rfl 0 (by decide) (hts _ mb_X3_findLevel_0) (fun _ h9 => h9) rfl dX3_findLevel_37 ?_
    refine lv_icmp_ge (tgt := 88) hx hb dX3_findLevel_40 (by decide) (fun c1 => ?_) (fun c1 => ?_)
    · have h := ift c1 h
      refine lv_iconst (v := 0) hx hb dX3_findLevel_88 (by decide) ?_
      refine lv_istore_n (lv' := [(3, .int 0), (0, .ref a_x), (1, .ref a_o1), (2, .int v2)]) hx hb dX3_findLevel_89 rfl hl (by decide) rfl (fun ls hl => ?_)
      exact t_X3_findLevel_b90 C a_x a_x_parts a_o1 a_o1_kind a_o1_saved a_o1_lost a_o1_gain a_o1_gap a_o1_least a_o1_most a_o1_hand x_unit x_size x_goal o1_size o1_guards o1_gain o1_gap o1_least o1_most N q v2 N x_levelAbove x_levelBelow 0 h H locs ls hP hD hS (lv_sub hl [1, 2, 3, 0] rfl)
    · have h := iff_ c1 h
      refine lv_bipush (v := 60) hx hb dX3_findLevel_43 (by decide) ?_
      refine lv_aload_n hx hb dX3_findLevel_45 rfl (lv_at hl 1 rfl) ?_
      refine va_get (D := D) (ci := 8) (v := .ref a_o1_gain) (C := RX8) (T := TX8) (N := 10) hx hb hts in_X3_findLevel_X8 hown hK hP 1 rfl rfl 5 (by decide) (hts _ mb_X3_findLevel_1) (fun _ h9 => h9) rfl dX3_findLevel_46 ?_
      refine lv_iload_n hx hb dX3_findLevel_49 rfl (lv_at hl 3 rfl) ?_
      obtain ⟨i2, h⟩ := gI_some h
      refine va_iald hx hb hK hP 2 0 rfl rfl i2 dX3_findLevel_50 ?_
      refine lv_imul hx hb dX3_findLevel_51 ?_
      refine lv_aload_n hx hb dX3_findLevel_52 rfl (lv_at hl 1 rfl) ?_
      refine va_get (D := D) (ci := 8) (v := .ref a_o1_gap) (C := RX8) (T := TX8) (N := 10) hx hb hts in_X3_findLevel_X8 hown hK hP 1 rfl rfl 6 (by decide) (hts _ mb_X3_findLevel_2) (fun _ h9 => h9) rfl dX3_findLevel_53 ?_
      refine lv_iload_n hx hb dX3_findLevel_56 rfl (lv_at hl 3 rfl) ?_
      obtain ⟨i3, h⟩ := gI_some h
      refine va_iald hx hb hK hP 3 0 rfl rfl i3 dX3_findLevel_57 ?_
      refine lv_aload_n hx hb dX3_findLevel_58 rfl (lv_at hl 1 rfl) ?_
      refine va_get (D := D) (ci := 8) (v := .ref a_o1_most) (C := RX8) (T := TX8) (N := 10) hx hb hts in_X3_findLevel_X8 hown hK hP 1 rfl rfl 8 (by decide) (hts _ mb_X3_findLevel_3) (fun _ h9 => h9) rfl dX3_findLevel_59 ?_
      refine lv_iload_n hx hb dX3_findLevel_62 rfl (lv_at hl 3 rfl) ?_
      obtain ⟨i4, h⟩ := gI_some h
      refine va_iald hx hb hK hP 5 0 rfl rfl i4 dX3_findLevel_63 ?_
      refine lv_imul hx hb dX3_findLevel_64 ?_
      refine lv_isub hx hb dX3_findLevel_65 ?_
      refine lv_i2l (v := ((60 * (o1_gain v3.toNatClampNeg)) - ((o1_gap v3.toNatClampNeg) * (o1_most v3.toNatClampNeg))).toInt64) hx hb dX3_findLevel_66 rfl ?_
      refine lv_lstore (lv' := [(4, .long (((60 * (o1_gain v3.toNatClampNeg)) - ((o1_gap v3.toNatClampNeg) * (o1_most v3.toNatClampNeg))).toInt64)), (0, .ref a_x), (1, .ref a_o1), (2, .int v2), (3, .int v3)]) hx hb dX3_findLevel_67 hl (by decide) rfl (fun ls hl => ?_)
      refine lv_aload_n hx hb dX3_findLevel_69 rfl (lv_at hl 1 rfl) ?_
      refine lv_aload_n hx hb dX3_findLevel_70 rfl (lv_at hl 1 rfl) ?_
      refine va_get (D := D) (ci := 3) (v := .long x_levelAbove) (C := RX3) (T := TX3) (N := 6) hx hb hts in_X3_findLevel_X3 hown hK hP 0 rfl rfl 0 (by decide) (hts _ mb_X3_findLevel_4) (fun _ h9 => h9) rfl dX3_findLevel_71 ?_
      refine lv_lload hx hb dX3_findLevel_74 (lv_at hl 0 rfl) ?_
      refine va_mmax_long hx hb (hml.trans hl.1.symm) hown (hts _ mb_X3_findLevel_5) (hts _ mb_X3_findLevel_6) (hts _ mb_X3_findLevel_7) (hts _ mb_X3_findLevel_8) (Nat.le_of_ble_eq_true rfl) (Nat.le_of_ble_eq_true rfl) (Nat.zero_le _) (Nat.zero_le _) dX3_findLevel_76 ?_
      refine va_put (D := D) (ci := 3) (v := .long (if (((60 * (o1_gain v3.toNatClampNeg)) - ((o1_gap v3.toNatClampNeg) * (o1_most v3.toNatClampNeg))).toInt64) < x_levelAbove then x_levelAbove else (((60 * (o1_gain v3.toNatClampNeg)) - ((o1_gap v3.toNatClampNeg) * (o1_most v3.toNatClampNeg))).toInt64))) (ty := .long) (C := RX3) (T := TX3) (N := 6) hx hb hts in_X3_findLevel_X3 tyX3 tyX3_ok nmX3 hown hK hP hD hS 0 rfl rfl 0 (by decide) (hts _ mb_X3_findLevel_4) (fun _ h9 => h9) rfl (by decide +kernel) rfl rfl (Nat.le_of_ble_eq_true rfl) dX3_findLevel_79 (fun H locs hP hD hS => ?_)
      have hP : va_P D vwCl (w_X3_findLevel cI cJ cZ cG a_x a_x_parts a_o1 a_o1_kind a_o1_saved a_o1_lost a_o1_gain a_o1_gap a_o1_least a_o1_most a_o1_hand (if (((60 * (o1_gain v3.toNatClampNeg)) - ((o1_gap v3.toNatClampNeg) * (o1_most v3.toNatClampNeg))).toInt64) < x_levelAbove then x_levelAbove else (((60 * (o1_gain v3.toNatClampNeg)) - ((o1_gap v3.toNatClampNeg) * (o1_most v3.toNatClampNeg))).toInt64)) x_levelBelow x_unit x_size x_goal o1_size o1_guards o1_gain o1_gap o1_least o1_most) H := hP
      have hD : va_D A (w_X3_findLevel cI cJ cZ cG a_x a_x_parts a_o1 a_o1_kind a_o1_saved a_o1_lost a_o1_gain a_o1_gap a_o1_least a_o1_most a_o1_hand (if (((60 * (o1_gain v3.toNatClampNeg)) - ((o1_gap v3.toNatClampNeg) * (o1_most v3.toNatClampNeg))).toInt64) < x_levelAbove then x_levelAbove else (((60 * (o1_gain v3.toNatClampNeg)) - ((o1_gap v3.toNatClampNeg) * (o1_most v3.toNatClampNeg))).toInt64)) x_levelBelow x_unit x_size x_goal o1_size o1_guards o1_gain o1_gap o1_least o1_most) := hD
      refine lv_iinc (v := v3 + 1) (lv' := [(3, .int (v3 + 1)), (4, .long (((60 * (o1_gain v3.toNatClampNeg)) - ((o1_gap v3.toNatClampNeg) * (o1_most v3.toNatClampNeg))).toInt64)), (0, .ref a_x), (1, .ref a_o1), (2, .int v2)]) hx hb dX3_findLevel_82 hl (k := 4) rfl rfl (by decide) rfl (fun ls hl => ?_)
      refine lv_goto (tgt := 35) hx hb dX3_findLevel_85 (by decide) ?_
      exact hk_35 (if (((60 * (o1_gain v3.toNatClampNeg)) - ((o1_gap v3.toNatClampNeg) * (o1_most v3.toNatClampNeg))).toInt64) < x_levelAbove then x_levelAbove else (((60 * (o1_gain v3.toNatClampNeg)) - ((o1_gap v3.toNatClampNeg) * (o1_most v3.toNatClampNeg))).toInt64)) (v3 + 1) h H locs ls hP hD hS (lv_sub hl [2, 3, 4, 0] rfl)
set_option maxRecDepth 100000 in
set_option maxHeartbeats 4000000 in
theorem c_X3_findLevel (l : Launch) (D : va_G) (cI cJ cZ cG : ClassId) (a_x a_x_parts a_o1 a_o1_kind a_o1_saved a_o1_lost a_o1_gain a_o1_gap a_o1_least a_o1_most a_o1_hand : Nat) (x_levelAbove : Int64) (x_levelBelow : Int64) (x_unit : Int64) (x_size : Int32) (x_goal : Int32) (o1_size : Int32) (o1_guards : Int32) (o1_gain : (Nat → Int32)) (o1_gap : (Nat → Int32)) (o1_least : (Nat → Int32)) (o1_most : (Nat → Int32)) (p2 : Int32) (N : Nat) (q : Int64 × Int64) (h : f_X3_findLevel N x_levelAbove x_levelBelow o1_size o1_gain o1_gap o1_least o1_most p2 = some q) : gMet l yX3_findLevel wsX3_findLevel rm_X3_findLevel [.ref a_x, .ref a_o1, .int p2] (w_X3_findLevel cI cJ cZ cG a_x a_x_parts a_o1 a_o1_kind a_o1_saved a_o1_lost a_o1_gain a_o1_gap a_o1_least a_o1_most a_o1_hand x_levelAbove x_levelBelow x_unit x_size x_goal o1_size o1_guards o1_gain o1_gap o1_least o1_most) (w_X3_findLevel cI cJ cZ cG a_x a_x_parts a_o1 a_o1_kind a_o1_saved a_o1_lost a_o1_gain a_o1_gap a_o1_least a_o1_most a_o1_hand q.1 q.2 x_unit x_size x_goal o1_size o1_guards o1_gain o1_gap o1_least o1_most) none D cI cJ cZ cG := by
  refine g_enter (cc := cX3_findLevel) (nL := 6) (ret := none) (by decide) rfl (Nat.le_of_ble_eq_true rfl) ?_
  intro p e s m below meth c A C H locs ls hP hD hS hl
  obtain ⟨hx, hb, hr, hml, hown, hts, hlk, hgk, hA⟩ := id C
  have hK := hgk.1
  have hl : lv_has ls 6 [(0, .ref a_x), (1, .ref a_o1), (2, .int p2)] := hl
  unfold f_X3_findLevel at h
  refine lv_aload_n hx hb dX3_findLevel_0 rfl (lv_at hl 0 rfl) ?_
  refine lv_bipush (v := 60) hx hb dX3_findLevel_1 (by decide) ?_
  refine lv_aload_n hx hb dX3_findLevel_3 rfl (lv_at hl 1 rfl) ?_
  refine va_get (D := D) (ci := 8) (v := .ref a_o1_gain) (C := RX8) (T := TX8) (N := 10) hx hb hts in_X3_findLevel_X8 hown hK hP 1 rfl rfl 5 (by decide) (hts _ mb_X3_findLevel_1) (fun _ h9 => h9) rfl dX3_findLevel_4 ?_
  refine lv_iconst (v := 0) hx hb dX3_findLevel_7 (by decide) ?_
  refine va_iald hx hb hK hP 2 0 rfl rfl (g_lit (i := 0) (n := 10) (by decide)) dX3_findLevel_8 ?_
  refine W.eq (g2 := F0 m 9 ls [.int (o1_gain 0), .int 60, .ref a_x]) rfl ?_
  refine lv_imul hx hb dX3_findLevel_9 ?_
  refine lv_aload_n hx hb dX3_findLevel_10 rfl (lv_at hl 1 rfl) ?_
  refine va_get (D := D) (ci := 8) (v := .ref a_o1_gap) (C := RX8) (T := TX8) (N := 10) hx hb hts in_X3_findLevel_X8 hown hK hP 1 rfl rfl 6 (by decide) (hts _ mb_X3_findLevel_2) (fun _ h9 => h9) rfl dX3_findLevel_11 ?_
  refine lv_iconst (v := 0) hx hb dX3_findLevel_14 (by decide) ?_
  refine va_iald hx hb hK hP 3 0 rfl rfl (g_lit (i := 0) (n := 10) (by decide)) dX3_findLevel_15 ?_
  refine W.eq (g2 := F0 m 16 ls [.int (o1_gap 0), .int (60 * (o1_gain 0)), .ref a_x]) rfl ?_
  refine lv_aload_n hx hb dX3_findLevel_16 rfl (lv_at hl 1 rfl) ?_
  refine va_get (D := D) (ci := 8) (v := .ref a_o1_most) (C := RX8) (T := TX8) (N := 10) hx hb hts in_X3_findLevel_X8 hown hK hP 1 rfl rfl 8 (by decide) (hts _ mb_X3_findLevel_3) (fun _ h9 => h9) rfl dX3_findLevel_17 ?_
  refine lv_iconst (v := 0) hx hb dX3_findLevel_20 (by decide) ?_
  refine va_iald hx hb hK hP 5 0 rfl rfl (g_lit (i := 0) (n := 10) (by decide)) dX3_findLevel_21 ?_
  refine W.eq (g2 := F0 m 22 ls [.int (o1_most 0), .int (o1_gap 0), .int (60 * (o1_gain 0)), .ref a_x]) rfl ?_
  refine lv_imul hx hb dX3_findLevel_22 ?_
  refine lv_isub hx hb dX3_findLevel_23 ?_
  refine lv_i2l (v := ((60 * (o1_gain 0)) - ((o1_gap 0) * (o1_most 0))).toInt64) hx hb dX3_findLevel_24 rfl ?_
  refine va_put (D := D) (ci := 3) (v := .long (((60 * (o1_gain 0)) - ((o1_gap 0) * (o1_most 0))).toInt64)) (ty := .long) (C := RX3) (T := TX3) (N := 6) hx hb hts in_X3_findLevel_X3 tyX3 tyX3_ok nmX3 hown hK hP hD hS 0 rfl rfl 0 (by decide) (hts _ mb_X3_findLevel_4) (fun _ h9 => h9) rfl (by decide +kernel) rfl rfl (Nat.le_of_ble_eq_true rfl) dX3_findLevel_25 (fun H locs hP hD hS => ?_)
  have hP : va_P D vwCl (w_X3_findLevel cI cJ cZ cG a_x a_x_parts a_o1 a_o1_kind a_o1_saved a_o1_lost a_o1_gain a_o1_gap a_o1_least a_o1_most a_o1_hand (((60 * (o1_gain 0)) - ((o1_gap 0) * (o1_most 0))).toInt64) x_levelBelow x_unit x_size x_goal o1_size o1_guards o1_gain o1_gap o1_least o1_most) H := hP
  have hD : va_D A (w_X3_findLevel cI cJ cZ cG a_x a_x_parts a_o1 a_o1_kind a_o1_saved a_o1_lost a_o1_gain a_o1_gap a_o1_least a_o1_most a_o1_hand (((60 * (o1_gain 0)) - ((o1_gap 0) * (o1_most 0))).toInt64) x_levelBelow x_unit x_size x_goal o1_size o1_guards o1_gain o1_gap o1_least o1_most) := hD
  refine lv_aload_n hx hb dX3_findLevel_28 rfl (lv_at hl 0 rfl) ?_
  refine lv_lconst (v := 1) hx hb dX3_findLevel_29 (by decide) ?_
  refine va_put (D := D) (ci := 3) (v := .long 1) (ty := .long) (C := RX3) (T := TX3) (N := 6) hx hb hts in_X3_findLevel_X3 tyX3 tyX3_ok nmX3 hown hK hP hD hS 0 rfl rfl 1 (by decide) (hts _ mb_X3_findLevel_9) (fun _ h9 => h9) rfl (by decide +kernel) rfl rfl (Nat.le_of_ble_eq_true rfl) dX3_findLevel_30 (fun H locs hP hD hS => ?_)
  have hP : va_P D vwCl (w_X3_findLevel cI cJ cZ cG a_x a_x_parts a_o1 a_o1_kind a_o1_saved a_o1_lost a_o1_gain a_o1_gap a_o1_least a_o1_most a_o1_hand (((60 * (o1_gain 0)) - ((o1_gap 0) * (o1_most 0))).toInt64) 1 x_unit x_size x_goal o1_size o1_guards o1_gain o1_gap o1_least o1_most) H := hP
  have hD : va_D A (w_X3_findLevel cI cJ cZ cG a_x a_x_parts a_o1 a_o1_kind a_o1_saved a_o1_lost a_o1_gain a_o1_gap a_o1_least a_o1_most a_o1_hand (((60 * (o1_gain 0)) - ((o1_gap 0) * (o1_most 0))).toInt64) 1 x_unit x_size x_goal o1_size o1_guards o1_gain o1_gap o1_least o1_most) := hD
  refine lv_iconst (v := 1) hx hb dX3_findLevel_33 (by decide) ?_
  refine lv_istore_n (lv' := [(3, .int 1), (0, .ref a_x), (1, .ref a_o1), (2, .int p2)]) hx hb dX3_findLevel_34 rfl hl (by decide) rfl (fun ls hl => ?_)
  exact t_X3_findLevel_b35 C a_x a_x_parts a_o1 a_o1_kind a_o1_saved a_o1_lost a_o1_gain a_o1_gap a_o1_least a_o1_most a_o1_hand x_unit x_size x_goal o1_size o1_guards o1_gain o1_gap o1_least o1_most N q 1 p2 N (((60 * (o1_gain 0)) - ((o1_gap 0) * (o1_most 0))).toInt64) 1 h H locs ls hP hD hS (lv_sub hl [1, 2, 3, 0] rfl)
theorem in_X3_keeperParts_X3 : ∀ w ∈ wsX30, w ∈ wsX3_keeperParts := by decide +kernel
theorem in_X3_keeperParts_X8 : ∀ w ∈ wsX80, w ∈ wsX3_keeperParts := by decide +kernel
theorem mb_X3_keeperParts_0 : Cond.fieldLink RX3 65 "GuardDesk$Targets" "lost" "[I" ∈ wsX3_keeperParts := List.mem_of_getElem? (i := 1) rfl
theorem mb_X3_keeperParts_1 : Cond.fieldLink RX3 15 "GuardDesk$Plan" "unit" "J" ∈ wsX3_keeperParts := List.mem_of_getElem? (i := 2) rfl
theorem mb_X3_keeperParts_2 : Cond.fieldLink RX3 68 "GuardDesk$Targets" "saved" "[I" ∈ wsX3_keeperParts := List.mem_of_getElem? (i := 3) rfl
theorem mb_X3_keeperParts_3 : Cond.fieldLink RX3 18 "GuardDesk$Plan" "parts" "[J" ∈ wsX3_keeperParts := List.mem_of_getElem? (i := 4) rfl
set_option maxRecDepth 100000 in
set_option maxHeartbeats 4000000 in
theorem c_X3_keeperParts (l : Launch) (D : va_G) (cI cJ cZ cG : ClassId) (a_x a_x_parts a_o1 a_o1_kind a_o1_saved a_o1_lost a_o1_gain a_o1_gap a_o1_least a_o1_most a_o1_hand : Nat) (x_levelAbove : Int64) (x_levelBelow : Int64) (x_unit : Int64) (x_size : Int32) (x_goal : Int32) (x_parts : (Nat → Int64)) (o1_size : Int32) (o1_guards : Int32) (o1_saved : (Nat → Int32)) (o1_lost : (Nat → Int32)) (p2 : Int32) (q : Int64) (h : f_X3_keeperParts x_unit x_parts o1_saved o1_lost p2 = some q) : gMet l yX3_keeperParts wsX3_keeperParts rm_X3_keeperParts [.ref a_x, .ref a_o1, .int p2] (w_X3_keeperParts cI cJ cZ cG a_x a_x_parts a_o1 a_o1_kind a_o1_saved a_o1_lost a_o1_gain a_o1_gap a_o1_least a_o1_most a_o1_hand x_levelAbove x_levelBelow x_unit x_size x_goal x_parts o1_size o1_guards o1_saved o1_lost) (w_X3_keeperParts cI cJ cZ cG a_x a_x_parts a_o1 a_o1_kind a_o1_saved a_o1_lost a_o1_gain a_o1_gap a_o1_least a_o1_most a_o1_hand x_levelAbove x_levelBelow x_unit x_size x_goal x_parts o1_size o1_guards o1_saved o1_lost) (some (.long q)) D cI cJ cZ cG := by
  refine g_enter (cc := cX3_keeperParts) (nL := 3) (ret := (some .long)) (by decide) rfl (Nat.le_of_ble_eq_true rfl) ?_
  intro p e s m below meth c A C H locs ls hP hD hS hl
  obtain ⟨hx, hb, hr, hml, hown, hts, hlk, hgk, hA⟩ := id C
  have hK := hgk.1
  have hl : lv_has ls 3 [(0, .ref a_x), (1, .ref a_o1), (2, .int p2)] := hl
  unfold f_X3_keeperParts at h
  refine lv_aload_n hx hb dX3_keeperParts_0 rfl (lv_at hl 1 rfl) ?_
  refine va_get (D := D) (ci := 8) (v := .ref a_o1_lost) (C := RX8) (T := TX8) (N := 10) hx hb hts in_X3_keeperParts_X8 hown hK hP 2 rfl rfl 4 (by decide) (hts _ mb_X3_keeperParts_0) (fun _ h9 => h9) rfl dX3_keeperParts_1 ?_
  refine lv_iload_n hx hb dX3_keeperParts_4 rfl (lv_at hl 2 rfl) ?_
  obtain ⟨i1, h⟩ := gI_some h
  refine va_iald hx hb hK hP 4 0 rfl rfl i1 dX3_keeperParts_5 ?_
  refine lv_i2l (v := (o1_lost p2.toNatClampNeg).toInt64) hx hb dX3_keeperParts_6 rfl ?_
  refine lv_aload_n hx hb dX3_keeperParts_7 rfl (lv_at hl 0 rfl) ?_
  refine va_get (D := D) (ci := 3) (v := .long x_unit) (C := RX3) (T := TX3) (N := 6) hx hb hts in_X3_keeperParts_X3 hown hK hP 0 rfl rfl 2 (by decide) (hts _ mb_X3_keeperParts_1) (fun _ h9 => h9) rfl dX3_keeperParts_8 ?_
  refine lv_lmul hx hb dX3_keeperParts_11 ?_
  refine lv_aload_n hx hb dX3_keeperParts_12 rfl (lv_at hl 1 rfl) ?_
  refine va_get (D := D) (ci := 8) (v := .ref a_o1_saved) (C := RX8) (T := TX8) (N := 10) hx hb hts in_X3_keeperParts_X8 hown hK hP 2 rfl rfl 3 (by decide) (hts _ mb_X3_keeperParts_2) (fun _ h9 => h9) rfl dX3_keeperParts_13 ?_
  refine lv_iload_n hx hb dX3_keeperParts_16 rfl (lv_at hl 2 rfl) ?_
  obtain ⟨i2, h⟩ := gI_some h
  refine va_iald hx hb hK hP 3 0 rfl rfl i2 dX3_keeperParts_17 ?_
  refine lv_aload_n hx hb dX3_keeperParts_18 rfl (lv_at hl 1 rfl) ?_
  refine va_get (D := D) (ci := 8) (v := .ref a_o1_lost) (C := RX8) (T := TX8) (N := 10) hx hb hts in_X3_keeperParts_X8 hown hK hP 2 rfl rfl 4 (by decide) (hts _ mb_X3_keeperParts_0) (fun _ h9 => h9) rfl dX3_keeperParts_19 ?_
  refine lv_iload_n hx hb dX3_keeperParts_22 rfl (lv_at hl 2 rfl) ?_
  obtain ⟨i3, h⟩ := gI_some h
  refine va_iald hx hb hK hP 4 0 rfl rfl i3 dX3_keeperParts_23 ?_
  refine lv_isub hx hb dX3_keeperParts_24 ?_
  refine lv_i2l (v := ((o1_saved p2.toNatClampNeg) - (o1_lost p2.toNatClampNeg)).toInt64) hx hb dX3_keeperParts_25 rfl ?_
  refine lv_aload_n hx hb dX3_keeperParts_26 rfl (lv_at hl 0 rfl) ?_
  refine va_get (D := D) (ci := 3) (v := .ref a_x_parts) (C := RX3) (T := TX3) (N := 6) hx hb hts in_X3_keeperParts_X3 hown hK hP 0 rfl rfl 5 (by decide) (hts _ mb_X3_keeperParts_3) (fun _ h9 => h9) rfl dX3_keeperParts_27 ?_
  refine lv_iload_n hx hb dX3_keeperParts_30 rfl (lv_at hl 2 rfl) ?_
  obtain ⟨i4, h⟩ := gI_some h
  refine va_lald hx hb hK hP 1 1 rfl rfl i4 dX3_keeperParts_31 ?_
  refine lv_lmul hx hb dX3_keeperParts_32 ?_
  refine lv_ladd hx hb dX3_keeperParts_33 ?_
  obtain rfl := Option.some.inj h
  exact g_lret C hP hD hS dX3_keeperParts_34
theorem in_X3_findGoal_X3 : ∀ w ∈ wsX30, w ∈ wsX3_findGoal := by decide +kernel
theorem mb_X3_findGoal_0 : Cond.fieldLink RX3 35 "GuardDesk$Plan" "size" "I" ∈ wsX3_findGoal := List.mem_of_getElem? (i := 1) rfl
theorem mb_X3_findGoal_1 : Cond.methodLink RX3 89 Lib.Math.max.name ∈ wsX3_findGoal := List.mem_of_getElem? (i := 4) rfl
theorem mb_X3_findGoal_2 : Cond.static Lib.Math.max.name ∈ wsX3_findGoal := List.mem_of_getElem? (i := 5) rfl
theorem mb_X3_findGoal_3 : Cond.initialized "java/lang/Math" ∈ wsX3_findGoal := List.mem_of_getElem? (i := 6) rfl
theorem mb_X3_findGoal_4 : Cond.code Lib.Math.max.name Lib.Math.max.code 2 (some .int) ∈ wsX3_findGoal := List.mem_of_getElem? (i := 7) rfl
theorem mb_X3_findGoal_5 : Cond.fieldLink RX3 9 "GuardDesk$Plan" "levelBelow" "J" ∈ wsX3_findGoal := List.mem_of_getElem? (i := 2) rfl
theorem mb_X3_findGoal_6 : Cond.fieldLink RX3 46 "GuardDesk$Plan" "levelAbove" "J" ∈ wsX3_findGoal := List.mem_of_getElem? (i := 3) rfl
set_option maxRecDepth 100000 in
set_option maxHeartbeats 4000000 in
theorem t_X3_findGoal_b35 (C : cx D cI cJ cZ cG A cX3_findGoal 5 (some .int) RX3 wsX3_findGoal p s m args meth c) (a_x a_x_parts a_o1 a_o1_kind a_o1_saved a_o1_lost a_o1_gain a_o1_gap a_o1_least a_o1_most a_o1_hand : Nat) (x_levelAbove : Int64) (x_levelBelow : Int64) (x_unit : Int64) (x_size : Int32) (x_goal : Int32) (x_parts : (Nat → Int64)) (o1_size : Int32) (o1_guards : Int32) (o1_saved : (Nat → Int32)) (o1_lost : (Nat → Int32)) (o1_gain : (Nat → Int32)) (o1_gap : (Nat → Int32)) (o1_least : (Nat → Int32)) (N : Nat) (q : Int32) (k0 : Int32) (v2 : Int32) (v3 : Int32) (k_4 : Int32 → Int32 → Option (Int32)) (hk_4 : ∀ (v2 : Int32) (v3 : Int32), k_4 v2 v3 = some q → WB p l e rm_X3_findGoal s m args below meth c (MQ below (Qg D (some (.int q)) (w_X3_findGoal cI cJ cZ cG a_x a_x_parts a_o1 a_o1_kind a_o1_saved a_o1_lost a_o1_gain a_o1_gap a_o1_least a_o1_most a_o1_hand x_levelAbove x_levelBelow x_unit x_size x_goal x_parts o1_size o1_guards o1_saved o1_lost o1_gain o1_gap o1_least) A) args s 0 0 A) D A 5 (w_X3_findGoal cI cJ cZ cG a_x a_x_parts a_o1 a_o1_kind a_o1_saved a_o1_lost a_o1_gain a_o1_gap a_o1_least a_o1_most a_o1_hand x_levelAbove x_levelBelow x_unit x_size x_goal x_parts o1_size o1_guards o1_saved o1_lost o1_gain o1_gap o1_least) [(0, .ref a_x), (1, .ref a_o1), (2, .int v2), (3, .int v3)] [] 4) (h : f_X3_findGoal_b35 N x_levelAbove x_levelBelow x_unit x_size x_parts o1_saved o1_lost o1_gain o1_gap o1_least k_4 k0 v2 v3 = some q) : WB p l e rm_X3_findGoal s m args below meth c (MQ below (Qg D (some (.int q)) (w_X3_findGoal cI cJ cZ cG a_x a_x_parts a_o1 a_o1_kind a_o1_saved a_o1_lost a_o1_gain a_o1_gap a_o1_least a_o1_most a_o1_hand x_levelAbove x_levelBelow x_unit x_size x_goal x_parts o1_size o1_guards o1_saved o1_lost o1_gain o1_gap o1_least) A) args s 0 0 A) D A 5 (w_X3_findGoal cI cJ cZ cG a_x a_x_parts a_o1 a_o1_kind a_o1_saved a_o1_lost a_o1_gain a_o1_gap a_o1_least a_o1_most a_o1_hand x_levelAbove x_levelBelow x_unit x_size x_goal x_parts o1_size o1_guards o1_saved o1_lost o1_gain o1_gap o1_least) [(0, .ref a_x), (1, .ref a_o1), (2, .int v2), (3, .int v3)] [.int k0] 35 := by
  obtain ⟨hx, hb, hr, hml, hown, hts, hlk, hgk, hA⟩ := id C
  have hK := hgk.1
  unfold f_X3_findGoal_b35 at h
  intro H locs ls hP hD hS hl
  refine lv_istore (lv' := [(4, .int k0), (0, .ref a_x), (1, .ref a_o1), (2, .int v2), (3, .int v3)]) hx hb dX3_findGoal_35 hl (by decide) rfl (fun ls hl => ?_)
  refine lv_iload hx hb dX3_findGoal_37 (lv_at hl 0 rfl) ?_
  refine lv_if_eq (tgt := 64) hx hb dX3_findGoal_39 (by decide) (fun c1 => ?_) (fun c1 => ?_)
  · have h := ift c1 h
    refine lv_iinc (v := v3 + 1) (lv' := [(3, .int (v3 + 1)), (4, .int k0), (0, .ref a_x), (1, .ref a_o1), (2, .int v2)]) hx hb dX3_findGoal_64 hl (k := 4) rfl rfl (by decide) rfl (fun ls hl => ?_)
    refine lv_goto (tgt := 4) hx hb dX3_findGoal_67 (by decide) ?_
    exact hk_4 v2 (v3 + 1) h H locs ls hP hD hS (lv_sub hl [2, 3, 4, 0] rfl)
  · have h := iff_ c1 h
    refine lv_iload_n hx hb dX3_findGoal_42 rfl (lv_at hl 3 rfl) ?_
    refine lv_if_lt (tgt := 62) hx hb dX3_findGoal_43 (by decide) (fun c2 => ?_) (fun c2 => ?_)
    · have h := ift c2 h
      refine lv_iload_n hx hb dX3_findGoal_62 rfl (lv_at hl 4 rfl) ?_
      refine lv_istore_n (lv' := [(2, .int v3), (4, .int k0), (0, .ref a_x), (1, .ref a_o1), (3, .int v3)]) hx hb dX3_findGoal_63 rfl hl (by decide) rfl (fun ls hl => ?_)
      refine lv_iinc (v := v3 + 1) (lv' := [(3, .int (v3 + 1)), (2, .int v3), (4, .int k0), (0, .ref a_x), (1, .ref a_o1)]) hx hb dX3_findGoal_64 hl (k := 4) rfl rfl (by decide) rfl (fun ls hl => ?_)
      refine lv_goto (tgt := 4) hx hb dX3_findGoal_67 (by decide) ?_
      exact hk_4 v3 (v3 + 1) h H locs ls hP hD hS (lv_sub hl [3, 4, 1, 0] rfl)
    · have h := iff_ c2 h
      refine lv_aload_n hx hb dX3_findGoal_46 rfl (lv_at hl 1 rfl) ?_
      refine lv_aload_n hx hb dX3_findGoal_47 rfl (lv_at hl 2 rfl) ?_
      refine lv_iload_n hx hb dX3_findGoal_48 rfl (lv_at hl 4 rfl) ?_
      obtain ⟨q3, e3, h⟩ := bd_some h
      refine g_callV (index := 86) (maxL := 3) (n := 2) (As := [.ref a_o1, .int v3]) (rest := []) (st1 := [.long q3]) (C1 := RX3) (T1 := TX3) (N1 := 6) (ws2 := (w_X3_findGoal cI cJ cZ cG a_x a_x_parts a_o1 a_o1_kind a_o1_saved a_o1_lost a_o1_gain a_o1_gap a_o1_least a_o1_most a_o1_hand x_levelAbove x_levelBelow x_unit x_size x_goal x_parts o1_size o1_guards o1_saved o1_lost o1_gain o1_gap o1_least)) C hP hD hS hl.1 3 0 (c_X3_keeperParts l D cI cJ cZ cG a_x a_x_parts a_o1 a_o1_kind a_o1_saved a_o1_lost a_o1_gain a_o1_gap a_o1_least a_o1_most a_o1_hand x_levelAbove x_levelBelow x_unit x_size x_goal x_parts o1_size o1_guards o1_saved o1_lost v3 q3 e3) gX3_findGoal_X3_keeperParts rfl rfl rfl (by decide +kernel) ⟨Nat.le_of_ble_eq_true rfl, Nat.le_of_ble_eq_true rfl⟩ rfl rfl rfl (Nat.le_of_ble_eq_true rfl) rfl dX3_findGoal_49 [0, 1, 2, 3, 4] [5, 6, 7] [3, 4, 5, 6, 7, 0, 1, 2] rfl rfl rfl rfl (by decide) rfl rfl rfl (fun H locs hP hD hS => ?_)
      refine lv_aload_n hx hb dX3_findGoal_52 rfl (lv_at hl 1 rfl) ?_
      refine lv_aload_n hx hb dX3_findGoal_53 rfl (lv_at hl 2 rfl) ?_
      refine lv_iload_n hx hb dX3_findGoal_54 rfl (lv_at hl 3 rfl) ?_
      obtain ⟨q4, e4, h⟩ := bd_some h
      refine g_callV (index := 86) (maxL := 3) (n := 2) (As := [.ref a_o1, .int v2]) (rest := [.long q3]) (st1 := [.long q4, .long q3]) (C1 := RX3) (T1 := TX3) (N1 := 6) (ws2 := (w_X3_findGoal cI cJ cZ cG a_x a_x_parts a_o1 a_o1_kind a_o1_saved a_o1_lost a_o1_gain a_o1_gap a_o1_least a_o1_most a_o1_hand x_levelAbove x_levelBelow x_unit x_size x_goal x_parts o1_size o1_guards o1_saved o1_lost o1_gain o1_gap o1_least)) C hP hD hS hl.1 3 0 (c_X3_keeperParts l D cI cJ cZ cG a_x a_x_parts a_o1 a_o1_kind a_o1_saved a_o1_lost a_o1_gain a_o1_gap a_o1_least a_o1_most a_o1_hand x_levelAbove x_levelBelow x_unit x_size x_goal x_parts o1_size o1_guards o1_saved o1_lost v2 q4 e4) gX3_findGoal_X3_keeperParts rfl rfl rfl (by decide +kernel) ⟨Nat.le_of_ble_eq_true rfl, Nat.le_of_ble_eq_true rfl⟩ rfl rfl rfl (Nat.le_of_ble_eq_true rfl) rfl dX3_findGoal_55 [0, 1, 2, 3, 4] [5, 6, 7] [3, 4, 5, 6, 7, 0, 1, 2] rfl rfl rfl rfl (by decide) rfl rfl rfl (fun H locs hP hD hS => ?_)
      refine W.lcmp hx hb dX3_findGoal_58 ?_
      refine lv_if_le (tgt := 64) hx hb dX3_findGoal_59 (by decide) (fun c5 => ?_) (fun c5 => ?_)
      · have c5 := lc_le.mp c5
        have h := ift c5 h
        refine lv_iinc (v := v3 + 1) (lv' := [(3, .int (v3 + 1)), (4, .int k0), (0, .ref a_x), (1, .ref a_o1), (2, .int v2)]) hx hb dX3_findGoal_64 hl (k := 4) rfl rfl (by decide) rfl (fun ls hl => ?_)
        refine lv_goto (tgt := 4) hx hb dX3_findGoal_67 (by decide) ?_
        exact hk_4 v2 (v3 + 1) h H locs ls hP hD hS (lv_sub hl [2, 3, 4, 0] rfl)
      · have c5 := (not_congr lc_le).mp c5
        have h := iff_ c5 h
        refine lv_iload_n hx hb dX3_findGoal_62 rfl (lv_at hl 4 rfl) ?_
        refine lv_istore_n (lv' := [(2, .int v3), (4, .int k0), (0, .ref a_x), (1, .ref a_o1), (3, .int v3)]) hx hb dX3_findGoal_63 rfl hl (by decide) rfl (fun ls hl => ?_)
        refine lv_iinc (v := v3 + 1) (lv' := [(3, .int (v3 + 1)), (2, .int v3), (4, .int k0), (0, .ref a_x), (1, .ref a_o1)]) hx hb dX3_findGoal_64 hl (k := 4) rfl rfl (by decide) rfl (fun ls hl => ?_)
        refine lv_goto (tgt := 4) hx hb dX3_findGoal_67 (by decide) ?_
        exact hk_4 v3 (v3 + 1) h H locs ls hP hD hS (lv_sub hl [3, 4, 1, 0] rfl)
set_option maxRecDepth 100000 in
set_option maxHeartbeats 4000000 in
theorem t_X3_findGoal_b4 (C : cx D cI cJ cZ cG A cX3_findGoal 5 (some .int) RX3 wsX3_findGoal p s m args meth c) (a_x a_x_parts a_o1 a_o1_kind a_o1_saved a_o1_lost a_o1_gain a_o1_gap a_o1_least a_o1_most a_o1_hand : Nat) (x_levelAbove : Int64) (x_levelBelow : Int64) (x_unit : Int64) (x_size : Int32) (x_goal : Int32) (x_parts : (Nat → Int64)) (o1_size : Int32) (o1_guards : Int32) (o1_saved : (Nat → Int32)) (o1_lost : (Nat → Int32)) (o1_gain : (Nat → Int32)) (o1_gap : (Nat → Int32)) (o1_least : (Nat → Int32)) (N : Nat) (q : Int32) : ∀ (n : Nat) (v2 : Int32) (v3 : Int32), f_X3_findGoal_b4 N x_levelAbove x_levelBelow x_unit x_size x_parts o1_saved o1_lost o1_gain o1_gap o1_least n v2 v3 = some q → WB p l e rm_X3_findGoal s m args below meth c (MQ below (Qg D (some (.int q)) (w_X3_findGoal cI cJ cZ cG a_x a_x_parts a_o1 a_o1_kind a_o1_saved a_o1_lost a_o1_gain a_o1_gap a_o1_least a_o1_most a_o1_hand x_levelAbove x_levelBelow x_unit x_size x_goal x_parts o1_size o1_guards o1_saved o1_lost o1_gain o1_gap o1_least) A) args s 0 0 A) D A 5 (w_X3_findGoal cI cJ cZ cG a_x a_x_parts a_o1 a_o1_kind a_o1_saved a_o1_lost a_o1_gain a_o1_gap a_o1_least a_o1_most a_o1_hand x_levelAbove x_levelBelow x_unit x_size x_goal x_parts o1_size o1_guards o1_saved o1_lost o1_gain o1_gap o1_least) [(0, .ref a_x), (1, .ref a_o1), (2, .int v2), (3, .int v3)] [] 4 := by
  obtain ⟨hx, hb, hr, hml, hown, hts, hlk, hgk, hA⟩ := id C
  have hK := hgk.1
  intro n
  induction n with
  | zero => intro v2 v3 h; cases h
  | succ n hk_4 =>
    intro v2 v3 h
    have h : g_X3_findGoal_b4 N x_levelAbove x_levelBelow x_unit x_size x_parts o1_saved o1_lost o1_gain o1_gap o1_least (f_X3_findGoal_b4 N x_levelAbove x_levelBelow x_unit x_size x_parts o1_saved o1_lost o1_gain o1_gap o1_least n) v2 v3 = some q := h
    generalize f_X3_findGoal_b4 N x_levelAbove x_levelBelow x_unit x_size x_parts o1_saved o1_lost o1_gain o1_gap o1_least n = k_4 at h hk_4
    unfold g_X3_findGoal_b4 at h
    intro H locs ls hP hD hS hl
    refine lv_iload_n hx hb dX3_findGoal_4 rfl (lv_at hl 3 rfl) ?_
    refine lv_aload_n hx hb dX3_findGoal_5 rfl (lv_at hl 0 rfl) ?_
    refine va_get (D := D) (ci := 3) (v := .int x_size) (C := RX3) (T := TX3) (N := 6) hx hb hts in_X3_findGoal_X3 hown hK hP 0 rfl rfl 3 (by decide) (hts _ mb_X3_findGoal_0) (fun _ h9 => h9) rfl dX3_findGoal_6 ?_
    refine lv_icmp_ge (tgt := 70) hx hb dX3_findGoal_9 (by decide) (fun c1 => ?_) (fun c1 => ?_)
    · have h := ift c1 h
      refine lv_iload_n hx hb dX3_findGoal_70 rfl (lv_at hl 2 rfl) ?_
      refine lv_iconst (v := 0) hx hb dX3_findGoal_71 (by decide) ?_
      refine va_mmax hx hb (hml.trans hl.1.symm) hown (hts _ mb_X3_findGoal_1) (hts _ mb_X3_findGoal_2) (hts _ mb_X3_findGoal_3) (hts _ mb_X3_findGoal_4) (Nat.le_of_ble_eq_true rfl) (Nat.le_of_ble_eq_true rfl) (Nat.zero_le _) (Nat.zero_le _) dX3_findGoal_72 ?_
      obtain rfl := Option.some.inj h
      exact g_iret C hP hD hS dX3_findGoal_75
    · have h := iff_ c1 h
      refine lv_aload_n hx hb dX3_findGoal_12 rfl (lv_at hl 1 rfl) ?_
      refine lv_iload_n hx hb dX3_findGoal_13 rfl (lv_at hl 3 rfl) ?_
      obtain ⟨q2, e2, h⟩ := bd_some h
      refine g_callS (index := 42) (maxL := 2) (n := 2) (As := [.ref a_o1, .int v3]) (rest := []) (st1 := [.long q2]) (ws2 := (w_X3_findGoal cI cJ cZ cG a_x a_x_parts a_o1 a_o1_kind a_o1_saved a_o1_lost a_o1_gain a_o1_gap a_o1_least a_o1_most a_o1_hand x_levelAbove x_levelBelow x_unit x_size x_goal x_parts o1_size o1_guards o1_saved o1_lost o1_gain o1_gap o1_least)) C hP hD hS hl.1 (c_X3_peak l D cI cJ cZ cG a_o1 a_o1_kind a_o1_saved a_o1_lost a_o1_gain a_o1_gap a_o1_least a_o1_most a_o1_hand o1_size o1_guards o1_gain o1_gap o1_least v3 q2 e2) gX3_findGoal_X3_peak rfl rfl rfl (by decide +kernel) ⟨Nat.le_of_ble_eq_true rfl, Nat.le_of_ble_eq_true rfl⟩ rfl (Nat.le_of_ble_eq_true rfl) rfl dX3_findGoal_14 [2, 5, 6, 7] [0, 1, 3, 4] [0, 1, 4, 2, 3, 5, 6, 7] rfl rfl rfl rfl (by decide) rfl rfl rfl (fun H locs hP hD hS => ?_)
      refine lv_aload_n hx hb dX3_findGoal_17 rfl (lv_at hl 0 rfl) ?_
      refine va_get (D := D) (ci := 3) (v := .long x_levelBelow) (C := RX3) (T := TX3) (N := 6) hx hb hts in_X3_findGoal_X3 hown hK hP 0 rfl rfl 1 (by decide) (hts _ mb_X3_findGoal_5) (fun _ h9 => h9) rfl dX3_findGoal_18 ?_
      refine lv_lmul hx hb dX3_findGoal_21 ?_
      refine lv_aload_n hx hb dX3_findGoal_22 rfl (lv_at hl 0 rfl) ?_
      refine va_get (D := D) (ci := 3) (v := .long x_levelAbove) (C := RX3) (T := TX3) (N := 6) hx hb hts in_X3_findGoal_X3 hown hK hP 0 rfl rfl 0 (by decide) (hts _ mb_X3_findGoal_6) (fun _ h9 => h9) rfl dX3_findGoal_23 ?_
      refine W.lcmp hx hb dX3_findGoal_26 ?_
      refine lv_if_lt (tgt := 34) hx hb dX3_findGoal_27 (by decide) (fun c3 => ?_) (fun c3 => ?_)
      · have c3 := lc_lt.mp c3
        have h := ift c3 h
        refine lv_iconst (v := 0) hx hb dX3_findGoal_34 (by decide) ?_
        exact t_X3_findGoal_b35 C a_x a_x_parts a_o1 a_o1_kind a_o1_saved a_o1_lost a_o1_gain a_o1_gap a_o1_least a_o1_most a_o1_hand x_levelAbove x_levelBelow x_unit x_size x_goal x_parts o1_size o1_guards o1_saved o1_lost o1_gain o1_gap o1_least N q 0 v2 v3 k_4 hk_4 h H locs ls hP hD hS (lv_sub hl [0, 1, 2, 3] rfl)
      · have c3 := (not_congr lc_lt).mp c3
        have h := iff_ c3 h
        refine lv_iconst (v := 1) hx hb dX3_findGoal_30 (by decide) ?_
        refine lv_goto (tgt := 35) hx hb dX3_findGoal_31 (by decide) ?_
        exact t_X3_findGoal_b35 C a_x a_x_parts a_o1 a_o1_kind a_o1_saved a_o1_lost a_o1_gain a_o1_gap a_o1_least a_o1_most a_o1_hand x_levelAbove x_levelBelow x_unit x_size x_goal x_parts o1_size o1_guards o1_saved o1_lost o1_gain o1_gap o1_least N q 1 v2 v3 k_4 hk_4 h H locs ls hP hD hS (lv_sub hl [0, 1, 2, 3] rfl)
set_option maxRecDepth 100000 in
set_option maxHeartbeats 4000000 in
theorem c_X3_findGoal (l : Launch) (D : va_G) (cI cJ cZ cG : ClassId) (a_x a_x_parts a_o1 a_o1_kind a_o1_saved a_o1_lost a_o1_gain a_o1_gap a_o1_least a_o1_most a_o1_hand : Nat) (x_levelAbove : Int64) (x_levelBelow : Int64) (x_unit : Int64) (x_size : Int32) (x_goal : Int32) (x_parts : (Nat → Int64)) (o1_size : Int32) (o1_guards : Int32) (o1_saved : (Nat → Int32)) (o1_lost : (Nat → Int32)) (o1_gain : (Nat → Int32)) (o1_gap : (Nat → Int32)) (o1_least : (Nat → Int32)) (N : Nat) (q : Int32) (h : f_X3_findGoal N x_levelAbove x_levelBelow x_unit x_size x_parts o1_saved o1_lost o1_gain o1_gap o1_least = some q) : gMet l yX3_findGoal wsX3_findGoal rm_X3_findGoal [.ref a_x, .ref a_o1] (w_X3_findGoal cI cJ cZ cG a_x a_x_parts a_o1 a_o1_kind a_o1_saved a_o1_lost a_o1_gain a_o1_gap a_o1_least a_o1_most a_o1_hand x_levelAbove x_levelBelow x_unit x_size x_goal x_parts o1_size o1_guards o1_saved o1_lost o1_gain o1_gap o1_least) (w_X3_findGoal cI cJ cZ cG a_x a_x_parts a_o1 a_o1_kind a_o1_saved a_o1_lost a_o1_gain a_o1_gap a_o1_least a_o1_most a_o1_hand x_levelAbove x_levelBelow x_unit x_size x_goal x_parts o1_size o1_guards o1_saved o1_lost o1_gain o1_gap o1_least) (some (.int q)) D cI cJ cZ cG := by
  refine g_enter (cc := cX3_findGoal) (nL := 5) (ret := (some .int)) (by decide) rfl (Nat.le_of_ble_eq_true rfl) ?_
  intro p e s m below meth c A C H locs ls hP hD hS hl
  obtain ⟨hx, hb, hr, hml, hown, hts, hlk, hgk, hA⟩ := id C
  have hK := hgk.1
  have hl : lv_has ls 5 [(0, .ref a_x), (1, .ref a_o1)] := hl
  unfold f_X3_findGoal at h
  refine lv_iconst (v := (-1)) hx hb dX3_findGoal_0 (by decide) ?_
  refine lv_istore_n (lv' := [(2, .int (-1)), (0, .ref a_x), (1, .ref a_o1)]) hx hb dX3_findGoal_1 rfl hl (by decide) rfl (fun ls hl => ?_)
  refine lv_iconst (v := 0) hx hb dX3_findGoal_2 (by decide) ?_
  refine lv_istore_n (lv' := [(3, .int 0), (2, .int (-1)), (0, .ref a_x), (1, .ref a_o1)]) hx hb dX3_findGoal_3 rfl hl (by decide) rfl (fun ls hl => ?_)
  exact t_X3_findGoal_b4 C a_x a_x_parts a_o1 a_o1_kind a_o1_saved a_o1_lost a_o1_gain a_o1_gap a_o1_least a_o1_most a_o1_hand x_levelAbove x_levelBelow x_unit x_size x_goal x_parts o1_size o1_guards o1_saved o1_lost o1_gain o1_gap o1_least N q N (-1) 0 h H locs ls hP hD hS (lv_sub hl [2, 3, 1, 0] rfl)
theorem in_X3_make_X3 : ∀ w ∈ wsX30, w ∈ wsX3_make := by decide +kernel
theorem in_X3_make_X8 : ∀ w ∈ wsX80, w ∈ wsX3_make := by decide +kernel
theorem mb_X3_make_0 : Cond.fieldLink RX3 35 "GuardDesk$Plan" "size" "I" ∈ wsX3_make := List.mem_of_getElem? (i := 4) rfl
theorem mb_X3_make_1 : Cond.fieldLink RX3 62 "GuardDesk$Plan" "goal" "I" ∈ wsX3_make := List.mem_of_getElem? (i := 14) rfl
theorem mb_X3_make_2 : Cond.fieldLink RX3 9 "GuardDesk$Plan" "levelBelow" "J" ∈ wsX3_make := List.mem_of_getElem? (i := 6) rfl
theorem mb_X3_make_3 : Cond.fieldLink RX3 46 "GuardDesk$Plan" "levelAbove" "J" ∈ wsX3_make := List.mem_of_getElem? (i := 8) rfl
theorem mb_X3_make_4 : Cond.methodLink RX3 49 Lib.MathLoose.max_long.x ∈ wsX3_make := List.mem_of_getElem? (i := 9) rfl
theorem mb_X3_make_5 : Cond.static Lib.MathLoose.max_long.x ∈ wsX3_make := List.mem_of_getElem? (i := 10) rfl
theorem mb_X3_make_6 : Cond.initialized "java/lang/Math" ∈ wsX3_make := List.mem_of_getElem? (i := 11) rfl
theorem mb_X3_make_7 : Cond.code Lib.MathLoose.max_long.x Lib.MathLoose.max_long.code 4 (some .long) ∈ wsX3_make := List.mem_of_getElem? (i := 12) rfl
theorem mb_X3_make_8 : Cond.fieldLink RX3 18 "GuardDesk$Plan" "parts" "[J" ∈ wsX3_make := List.mem_of_getElem? (i := 13) rfl
theorem mb_X3_make_9 : Cond.fieldLink RX3 31 "GuardDesk$Targets" "least" "[I" ∈ wsX3_make := List.mem_of_getElem? (i := 3) rfl
theorem mb_X3_make_10 : Cond.fieldLink RX3 28 "GuardDesk$Targets" "size" "I" ∈ wsX3_make := List.mem_of_getElem? (i := 2) rfl
theorem mb_X3_make_11 : Cond.constantLong RX3 40 (3600) ∈ wsX3_make := List.mem_of_getElem? (i := 5) rfl
theorem mb_X3_make_12 : Cond.fieldLink RX3 15 "GuardDesk$Plan" "unit" "J" ∈ wsX3_make := List.mem_of_getElem? (i := 7) rfl
theorem mb_X3_make_13 : Cond.fieldLink RX3 22 "GuardDesk$Targets" "guards" "I" ∈ wsX3_make := List.mem_of_getElem? (i := 1) rfl
set_option maxRecDepth 100000 in
set_option maxHeartbeats 4000000 in
theorem t_X3_make_b74 (C : cx D cI cJ cZ cG A cX3_make 6 (some .boolean) RX3 wsX3_make p s m args meth c) (a_x a_x_parts a_o1 a_o1_kind a_o1_saved a_o1_lost a_o1_gain a_o1_gap a_o1_least a_o1_most a_o1_hand : Nat) (o1_size : Int32) (o1_guards : Int32) (o1_saved : (Nat → Int32)) (o1_lost : (Nat → Int32)) (o1_gain : (Nat → Int32)) (o1_gap : (Nat → Int32)) (o1_least : (Nat → Int32)) (o1_most : (Nat → Int32)) (N : Nat) (q : Int32 × Int64 × Int64 × Int64 × Int32 × Int32 × (Nat → Int64)) (x_levelAbove : Int64) (x_levelBelow : Int64) (x_unit : Int64) (x_size : Int32) (x_goal : Int32) : ∀ (n : Nat) (x_parts : (Nat → Int64)) (v3 : Int32), f_X3_make_b74 N o1_size o1_guards o1_saved o1_lost o1_gain o1_gap o1_least o1_most x_levelAbove x_levelBelow x_unit x_size x_goal n x_parts v3 = some q → WB p l e rm_X3_make s m args below meth c (MQ below (Qg D (some (.int q.1)) (w_X3_make cI cJ cZ cG a_x a_x_parts a_o1 a_o1_kind a_o1_saved a_o1_lost a_o1_gain a_o1_gap a_o1_least a_o1_most a_o1_hand q.2.1 q.2.2.1 q.2.2.2.1 q.2.2.2.2.1 q.2.2.2.2.2.1 q.2.2.2.2.2.2 o1_size o1_guards o1_saved o1_lost o1_gain o1_gap o1_least o1_most) A) args s 0 0 A) D A 6 (w_X3_make cI cJ cZ cG a_x a_x_parts a_o1 a_o1_kind a_o1_saved a_o1_lost a_o1_gain a_o1_gap a_o1_least a_o1_most a_o1_hand x_levelAbove x_levelBelow x_unit x_size x_goal x_parts o1_size o1_guards o1_saved o1_lost o1_gain o1_gap o1_least o1_most) [(0, .ref a_x), (1, .ref a_o1), (3, .int v3)] [] 74 := by
  obtain ⟨hx, hb, hr, hml, hown, hts, hlk, hgk, hA⟩ := id C
  have hK := hgk.1
  intro n
  induction n with
  | zero => intro x_parts v3 h; cases h
  | succ n hk_74 =>
    intro x_parts v3 h
    have h : g_X3_make_b74 N o1_size o1_guards o1_saved o1_lost o1_gain o1_gap o1_least o1_most x_levelAbove x_levelBelow x_unit x_size x_goal (f_X3_make_b74 N o1_size o1_guards o1_saved o1_lost o1_gain o1_gap o1_least o1_most x_levelAbove x_levelBelow x_unit x_size x_goal n) x_parts v3 = some q := h
    generalize f_X3_make_b74 N o1_size o1_guards o1_saved o1_lost o1_gain o1_gap o1_least o1_most x_levelAbove x_levelBelow x_unit x_size x_goal n = k_74 at h hk_74
    unfold g_X3_make_b74 at h
    intro H locs ls hP hD hS hl
    refine lv_iload_n hx hb dX3_make_74 rfl (lv_at hl 2 rfl) ?_
    refine lv_aload_n hx hb dX3_make_75 rfl (lv_at hl 0 rfl) ?_
    refine va_get (D := D) (ci := 3) (v := .int x_size) (C := RX3) (T := TX3) (N := 6) hx hb hts in_X3_make_X3 hown hK hP 0 rfl rfl 3 (by decide) (hts _ mb_X3_make_0) (fun _ h9 => h9) rfl dX3_make_76 ?_
    refine lv_icmp_ge (tgt := 139) hx hb dX3_make_79 (by decide) (fun c1 => ?_) (fun c1 => ?_)
    · have h := ift c1 h
      refine lv_aload_n hx hb dX3_make_139 rfl (lv_at hl 0 rfl) ?_
      refine lv_aload_n hx hb dX3_make_140 rfl (lv_at hl 0 rfl) ?_
      refine lv_aload_n hx hb dX3_make_141 rfl (lv_at hl 1 rfl) ?_
      obtain ⟨q2, e2, h⟩ := bd_some h
      refine g_callV (index := 58) (maxL := 5) (n := 1) (As := [.ref a_o1]) (rest := [.ref a_x]) (st1 := [.int q2, .ref a_x]) (C1 := RX3) (T1 := TX3) (N1 := 6) (ws2 := (w_X3_make cI cJ cZ cG a_x a_x_parts a_o1 a_o1_kind a_o1_saved a_o1_lost a_o1_gain a_o1_gap a_o1_least a_o1_most a_o1_hand x_levelAbove x_levelBelow x_unit x_size x_goal x_parts o1_size o1_guards o1_saved o1_lost o1_gain o1_gap o1_least o1_most)) C hP hD hS hl.1 3 0 (c_X3_findGoal l D cI cJ cZ cG a_x a_x_parts a_o1 a_o1_kind a_o1_saved a_o1_lost a_o1_gain a_o1_gap a_o1_least a_o1_most a_o1_hand x_levelAbove x_levelBelow x_unit x_size x_goal x_parts o1_size o1_guards o1_saved o1_lost o1_gain o1_gap o1_least N q2 e2) gX3_make_X3_findGoal rfl rfl rfl (by decide +kernel) ⟨Nat.le_of_ble_eq_true rfl, Nat.le_of_ble_eq_true rfl⟩ rfl rfl rfl (Nat.le_of_ble_eq_true rfl) rfl dX3_make_142 [0, 1, 2, 3, 4, 5, 6, 7] [8] [1, 2, 3, 4, 5, 6, 7, 8, 0] rfl rfl rfl rfl (by decide) rfl rfl rfl (fun H locs hP hD hS => ?_)
      refine va_put (D := D) (ci := 3) (v := .int q2) (ty := .int) (C := RX3) (T := TX3) (N := 6) hx hb hts in_X3_make_X3 tyX3 tyX3_ok nmX3 hown hK hP hD hS 0 rfl rfl 4 (by decide) (hts _ mb_X3_make_1) (fun _ h9 => h9) rfl (by decide +kernel) rfl rfl (Nat.le_of_ble_eq_true rfl) dX3_make_145 (fun H locs hP hD hS => ?_)
      have hP : va_P D vwCl (w_X3_make cI cJ cZ cG a_x a_x_parts a_o1 a_o1_kind a_o1_saved a_o1_lost a_o1_gain a_o1_gap a_o1_least a_o1_most a_o1_hand x_levelAbove x_levelBelow x_unit x_size q2 x_parts o1_size o1_guards o1_saved o1_lost o1_gain o1_gap o1_least o1_most) H := hP
      have hD : va_D A (w_X3_make cI cJ cZ cG a_x a_x_parts a_o1 a_o1_kind a_o1_saved a_o1_lost a_o1_gain a_o1_gap a_o1_least a_o1_most a_o1_hand x_levelAbove x_levelBelow x_unit x_size q2 x_parts o1_size o1_guards o1_saved o1_lost o1_gain o1_gap o1_least o1_most) := hD
      refine lv_iconst (v := 1) hx hb dX3_make_148 (by decide) ?_
      obtain rfl := Option.some.inj h
      exact g_zret C hP hD hS (nz_b (Or.inr rfl)) dX3_make_149
    · have h := iff_ c1 h
      refine lv_lconst (v := 0) hx hb dX3_make_82 (by decide) ?_
      refine lv_aload_n hx hb dX3_make_83 rfl (lv_at hl 1 rfl) ?_
      refine lv_iload_n hx hb dX3_make_84 rfl (lv_at hl 2 rfl) ?_
      obtain ⟨q3, e3, h⟩ := bd_some h
      refine g_callS (index := 42) (maxL := 2) (n := 2) (As := [.ref a_o1, .int v3]) (rest := [.long 0]) (st1 := [.long q3, .long 0]) (ws2 := (w_X3_make cI cJ cZ cG a_x a_x_parts a_o1 a_o1_kind a_o1_saved a_o1_lost a_o1_gain a_o1_gap a_o1_least a_o1_most a_o1_hand x_levelAbove x_levelBelow x_unit x_size x_goal x_parts o1_size o1_guards o1_saved o1_lost o1_gain o1_gap o1_least o1_most)) C hP hD hS hl.1 (c_X3_peak l D cI cJ cZ cG a_o1 a_o1_kind a_o1_saved a_o1_lost a_o1_gain a_o1_gap a_o1_least a_o1_most a_o1_hand o1_size o1_guards o1_gain o1_gap o1_least v3 q3 e3) gX3_make_X3_peak rfl rfl rfl (by decide +kernel) ⟨Nat.le_of_ble_eq_true rfl, Nat.le_of_ble_eq_true rfl⟩ rfl (Nat.le_of_ble_eq_true rfl) rfl dX3_make_85 [2, 5, 6, 7] [0, 1, 3, 4, 8] [0, 1, 5, 2, 3, 6, 7, 8, 4] rfl rfl rfl rfl (by decide) rfl rfl rfl (fun H locs hP hD hS => ?_)
      refine lv_aload_n hx hb dX3_make_88 rfl (lv_at hl 0 rfl) ?_
      refine va_get (D := D) (ci := 3) (v := .long x_levelBelow) (C := RX3) (T := TX3) (N := 6) hx hb hts in_X3_make_X3 hown hK hP 0 rfl rfl 1 (by decide) (hts _ mb_X3_make_2) (fun _ h9 => h9) rfl dX3_make_89 ?_
      refine lv_lmul hx hb dX3_make_92 ?_
      refine lv_aload_n hx hb dX3_make_93 rfl (lv_at hl 0 rfl) ?_
      refine va_get (D := D) (ci := 3) (v := .long x_levelAbove) (C := RX3) (T := TX3) (N := 6) hx hb hts in_X3_make_X3 hown hK hP 0 rfl rfl 0 (by decide) (hts _ mb_X3_make_3) (fun _ h9 => h9) rfl dX3_make_94 ?_
      refine lv_lsub hx hb dX3_make_97 ?_
      refine va_mmax_long hx hb (hml.trans hl.1.symm) hown (hts _ mb_X3_make_4) (hts _ mb_X3_make_5) (hts _ mb_X3_make_6) (hts _ mb_X3_make_7) (Nat.le_of_ble_eq_true rfl) (Nat.le_of_ble_eq_true rfl) (Nat.zero_le _) (Nat.zero_le _) dX3_make_98 ?_
      refine lv_lstore (lv' := [(4, .long (if ((q3 * x_levelBelow) - x_levelAbove) < 0 then 0 else ((q3 * x_levelBelow) - x_levelAbove))), (0, .ref a_x), (1, .ref a_o1), (3, .int v3)]) hx hb dX3_make_101 hl (by decide) rfl (fun ls hl => ?_)
      refine lv_aload_n hx hb dX3_make_103 rfl (lv_at hl 1 rfl) ?_
      refine va_get (D := D) (ci := 3) (v := .ref a_x_parts) (C := RX3) (T := TX3) (N := 6) hx hb hts in_X3_make_X3 hown hK hP 0 rfl rfl 5 (by decide) (hts _ mb_X3_make_8) (fun _ h9 => h9) rfl dX3_make_104 ?_
      refine lv_iload_n hx hb dX3_make_107 rfl (lv_at hl 3 rfl) ?_
      refine lv_aload_n hx hb dX3_make_108 rfl (lv_at hl 2 rfl) ?_
      refine va_get (D := D) (ci := 8) (v := .ref a_o1_least) (C := RX8) (T := TX8) (N := 10) hx hb hts in_X3_make_X8 hown hK hP 2 rfl rfl 7 (by decide) (hts _ mb_X3_make_9) (fun _ h9 => h9) rfl dX3_make_109 ?_
      refine lv_iload_n hx hb dX3_make_112 rfl (lv_at hl 3 rfl) ?_
      obtain ⟨i4, h⟩ := gI_some h
      refine va_iald hx hb hK hP 7 0 rfl rfl i4 dX3_make_113 ?_
      refine lv_bipush (v := 60) hx hb dX3_make_114 (by decide) ?_
      refine lv_imul hx hb dX3_make_116 ?_
      refine lv_i2l (v := ((o1_least v3.toNatClampNeg) * 60).toInt64) hx hb dX3_make_117 rfl ?_
      refine lv_aload_n hx hb dX3_make_118 rfl (lv_at hl 1 rfl) ?_
      refine va_get (D := D) (ci := 3) (v := .long x_levelBelow) (C := RX3) (T := TX3) (N := 6) hx hb hts in_X3_make_X3 hown hK hP 0 rfl rfl 1 (by decide) (hts _ mb_X3_make_2) (fun _ h9 => h9) rfl dX3_make_119 ?_
      refine lv_lmul hx hb dX3_make_122 ?_
      refine lv_aload_n hx hb dX3_make_123 rfl (lv_at hl 2 rfl) ?_
      refine lv_iload_n hx hb dX3_make_124 rfl (lv_at hl 3 rfl) ?_
      obtain ⟨q5, e5, h⟩ := bd_some h
      refine g_callS (index := 55) (maxL := 3) (n := 2) (As := [.ref a_o1, .int v3]) (rest := [.long ((((o1_least v3.toNatClampNeg) * 60).toInt64) * x_levelBelow), .int v3, .ref a_x_parts]) (st1 := [.long q5, .long ((((o1_least v3.toNatClampNeg) * 60).toInt64) * x_levelBelow), .int v3, .ref a_x_parts]) (ws2 := (w_X3_make cI cJ cZ cG a_x a_x_parts a_o1 a_o1_kind a_o1_saved a_o1_lost a_o1_gain a_o1_gap a_o1_least a_o1_most a_o1_hand x_levelAbove x_levelBelow x_unit x_size x_goal x_parts o1_size o1_guards o1_saved o1_lost o1_gain o1_gap o1_least o1_most)) C hP hD hS hl.1 (c_X3_slope l D cI cJ cZ cG a_o1 a_o1_kind a_o1_saved a_o1_lost a_o1_gain a_o1_gap a_o1_least a_o1_most a_o1_hand o1_size o1_guards o1_gap v3 q5 e5) gX3_make_X3_slope rfl rfl rfl (by decide +kernel) ⟨Nat.le_of_ble_eq_true rfl, Nat.le_of_ble_eq_true rfl⟩ rfl (Nat.le_of_ble_eq_true rfl) rfl dX3_make_125 [2, 6] [0, 1, 3, 4, 5, 7, 8] [0, 1, 7, 2, 3, 4, 8, 5, 6] rfl rfl rfl rfl (by decide) rfl rfl rfl (fun H locs hP hD hS => ?_)
      refine lv_lload hx hb dX3_make_128 (lv_at hl 0 rfl) ?_
      refine lv_lmul hx hb dX3_make_130 ?_
      refine lv_ladd hx hb dX3_make_131 ?_
      obtain ⟨i6, h⟩ := gI_some h
      refine va_last hx hb hK hP hD hS 1 1 rfl rfl i6 dX3_make_132 (fun H locs hP hD hS => ?_)
      have hP : va_P D vwCl (w_X3_make cI cJ cZ cG a_x a_x_parts a_o1 a_o1_kind a_o1_saved a_o1_lost a_o1_gain a_o1_gap a_o1_least a_o1_most a_o1_hand x_levelAbove x_levelBelow x_unit x_size x_goal (vp_updL x_parts v3.toNatClampNeg (((((o1_least v3.toNatClampNeg) * 60).toInt64) * x_levelBelow) + (q5 * (if ((q3 * x_levelBelow) - x_levelAbove) < 0 then 0 else ((q3 * x_levelBelow) - x_levelAbove))))) o1_size o1_guards o1_saved o1_lost o1_gain o1_gap o1_least o1_most) H := hP
      have hD : va_D A (w_X3_make cI cJ cZ cG a_x a_x_parts a_o1 a_o1_kind a_o1_saved a_o1_lost a_o1_gain a_o1_gap a_o1_least a_o1_most a_o1_hand x_levelAbove x_levelBelow x_unit x_size x_goal (vp_updL x_parts v3.toNatClampNeg (((((o1_least v3.toNatClampNeg) * 60).toInt64) * x_levelBelow) + (q5 * (if ((q3 * x_levelBelow) - x_levelAbove) < 0 then 0 else ((q3 * x_levelBelow) - x_levelAbove))))) o1_size o1_guards o1_saved o1_lost o1_gain o1_gap o1_least o1_most) := hD
      refine lv_iinc (v := v3 + 1) (lv' := [(3, .int (v3 + 1)), (4, .long (if ((q3 * x_levelBelow) - x_levelAbove) < 0 then 0 else ((q3 * x_levelBelow) - x_levelAbove))), (0, .ref a_x), (1, .ref a_o1)]) hx hb dX3_make_133 hl (k := 3) rfl rfl (by decide) rfl (fun ls hl => ?_)
      refine lv_goto (tgt := 74) hx hb dX3_make_136 (by decide) ?_
      exact hk_74 (vp_updL x_parts v3.toNatClampNeg (((((o1_least v3.toNatClampNeg) * 60).toInt64) * x_levelBelow) + (q5 * (if ((q3 * x_levelBelow) - x_levelAbove) < 0 then 0 else ((q3 * x_levelBelow) - x_levelAbove))))) (v3 + 1) h H locs ls hP hD hS (lv_sub hl [2, 3, 0] rfl)
set_option maxRecDepth 100000 in
set_option maxHeartbeats 4000000 in
theorem t_X3_make_b10 (C : cx D cI cJ cZ cG A cX3_make 6 (some .boolean) RX3 wsX3_make p s m args meth c) (a_x a_x_parts a_o1 a_o1_kind a_o1_saved a_o1_lost a_o1_gain a_o1_gap a_o1_least a_o1_most a_o1_hand : Nat) (o1_size : Int32) (o1_guards : Int32) (o1_saved : (Nat → Int32)) (o1_lost : (Nat → Int32)) (o1_gain : (Nat → Int32)) (o1_gap : (Nat → Int32)) (o1_least : (Nat → Int32)) (o1_most : (Nat → Int32)) (N : Nat) (q : Int32 × Int64 × Int64 × Int64 × Int32 × Int32 × (Nat → Int64)) (x_levelAbove : Int64) (x_levelBelow : Int64) (x_unit : Int64) (x_size : Int32) (x_goal : Int32) (x_parts : (Nat → Int64)) : ∀ (n : Nat) (v2 : Int32) (v3 : Int32), f_X3_make_b10 N o1_size o1_guards o1_saved o1_lost o1_gain o1_gap o1_least o1_most x_levelAbove x_levelBelow x_unit x_size x_goal x_parts n v2 v3 = some q → WB p l e rm_X3_make s m args below meth c (MQ below (Qg D (some (.int q.1)) (w_X3_make cI cJ cZ cG a_x a_x_parts a_o1 a_o1_kind a_o1_saved a_o1_lost a_o1_gain a_o1_gap a_o1_least a_o1_most a_o1_hand q.2.1 q.2.2.1 q.2.2.2.1 q.2.2.2.2.1 q.2.2.2.2.2.1 q.2.2.2.2.2.2 o1_size o1_guards o1_saved o1_lost o1_gain o1_gap o1_least o1_most) A) args s 0 0 A) D A 6 (w_X3_make cI cJ cZ cG a_x a_x_parts a_o1 a_o1_kind a_o1_saved a_o1_lost a_o1_gain a_o1_gap a_o1_least a_o1_most a_o1_hand x_levelAbove x_levelBelow x_unit x_size x_goal x_parts o1_size o1_guards o1_saved o1_lost o1_gain o1_gap o1_least o1_most) [(0, .ref a_x), (1, .ref a_o1), (2, .int v2), (3, .int v3)] [] 10 := by
  obtain ⟨hx, hb, hr, hml, hown, hts, hlk, hgk, hA⟩ := id C
  have hK := hgk.1
  intro n
  induction n with
  | zero => intro v2 v3 h; cases h
  | succ n hk_10 =>
    intro v2 v3 h
    have h : g_X3_make_b10 N o1_size o1_guards o1_saved o1_lost o1_gain o1_gap o1_least o1_most x_levelAbove x_levelBelow x_unit x_size x_goal x_parts (f_X3_make_b10 N o1_size o1_guards o1_saved o1_lost o1_gain o1_gap o1_least o1_most x_levelAbove x_levelBelow x_unit x_size x_goal x_parts n) v2 v3 = some q := h
    generalize f_X3_make_b10 N o1_size o1_guards o1_saved o1_lost o1_gain o1_gap o1_least o1_most x_levelAbove x_levelBelow x_unit x_size x_goal x_parts n = k_10 at h hk_10
    unfold g_X3_make_b10 at h
    intro H locs ls hP hD hS hl
    refine lv_iload_n hx hb dX3_make_10 rfl (lv_at hl 3 rfl) ?_
    refine lv_aload_n hx hb dX3_make_11 rfl (lv_at hl 1 rfl) ?_
    refine va_get (D := D) (ci := 8) (v := .int o1_size) (C := RX8) (T := TX8) (N := 10) hx hb hts in_X3_make_X8 hown hK hP 2 rfl rfl 0 (by decide) (hts _ mb_X3_make_10) (fun _ h9 => h9) rfl dX3_make_12 ?_
    refine lv_icmp_ge (tgt := 33) hx hb dX3_make_15 (by decide) (fun c1 => ?_) (fun c1 => ?_)
    · have h := ift c1 h
      refine lv_aload_n hx hb dX3_make_33 rfl (lv_at hl 1 rfl) ?_
      refine va_get (D := D) (ci := 8) (v := .int o1_size) (C := RX8) (T := TX8) (N := 10) hx hb hts in_X3_make_X8 hown hK hP 2 rfl rfl 0 (by decide) (hts _ mb_X3_make_10) (fun _ h9 => h9) rfl dX3_make_34 ?_
      refine lv_if_eq (tgt := 44) hx hb dX3_make_37 (by decide) (fun c2 => ?_) (fun c2 => ?_)
      · have h := ift c2 h
        refine lv_iconst (v := 0) hx hb dX3_make_44 (by decide) ?_
        obtain rfl := Option.some.inj h
        exact g_zret C hP hD hS (nz_b (Or.inl rfl)) dX3_make_45
      · have h := iff_ c2 h
        refine lv_iload_n hx hb dX3_make_40 rfl (lv_at hl 2 rfl) ?_
        refine lv_if_ge (tgt := 46) hx hb dX3_make_41 (by decide) (fun c3 => ?_) (fun c3 => ?_)
        · have h := ift c3 h
          refine lv_aload_n hx hb dX3_make_46 rfl (lv_at hl 0 rfl) ?_
          refine lv_aload_n hx hb dX3_make_47 rfl (lv_at hl 1 rfl) ?_
          refine va_get (D := D) (ci := 8) (v := .int o1_size) (C := RX8) (T := TX8) (N := 10) hx hb hts in_X3_make_X8 hown hK hP 2 rfl rfl 0 (by decide) (hts _ mb_X3_make_10) (fun _ h9 => h9) rfl dX3_make_48 ?_
          refine va_put (D := D) (ci := 3) (v := .int o1_size) (ty := .int) (C := RX3) (T := TX3) (N := 6) hx hb hts in_X3_make_X3 tyX3 tyX3_ok nmX3 hown hK hP hD hS 0 rfl rfl 3 (by decide) (hts _ mb_X3_make_0) (fun _ h9 => h9) rfl (by decide +kernel) rfl rfl (Nat.le_of_ble_eq_true rfl) dX3_make_51 (fun H locs hP hD hS => ?_)
          have hP : va_P D vwCl (w_X3_make cI cJ cZ cG a_x a_x_parts a_o1 a_o1_kind a_o1_saved a_o1_lost a_o1_gain a_o1_gap a_o1_least a_o1_most a_o1_hand x_levelAbove x_levelBelow x_unit o1_size x_goal x_parts o1_size o1_guards o1_saved o1_lost o1_gain o1_gap o1_least o1_most) H := hP
          have hD : va_D A (w_X3_make cI cJ cZ cG a_x a_x_parts a_o1 a_o1_kind a_o1_saved a_o1_lost a_o1_gain a_o1_gap a_o1_least a_o1_most a_o1_hand x_levelAbove x_levelBelow x_unit o1_size x_goal x_parts o1_size o1_guards o1_saved o1_lost o1_gain o1_gap o1_least o1_most) := hD
          refine lv_aload_n hx hb dX3_make_54 rfl (lv_at hl 0 rfl) ?_
          refine lv_aload_n hx hb dX3_make_55 rfl (lv_at hl 1 rfl) ?_
          refine lv_iload_n hx hb dX3_make_56 rfl (lv_at hl 2 rfl) ?_
          obtain ⟨q4, e4, h⟩ := bd_some h
          refine g_callV (index := 36) (maxL := 6) (n := 2) (As := [.ref a_o1, .int v2]) (rest := []) (st1 := []) (C1 := RX3) (T1 := TX3) (N1 := 6) (ws2 := (w_X3_make cI cJ cZ cG a_x a_x_parts a_o1 a_o1_kind a_o1_saved a_o1_lost a_o1_gain a_o1_gap a_o1_least a_o1_most a_o1_hand q4.1 q4.2 x_unit o1_size x_goal x_parts o1_size o1_guards o1_saved o1_lost o1_gain o1_gap o1_least o1_most)) C hP hD hS hl.1 3 0 (c_X3_findLevel l D cI cJ cZ cG a_x a_x_parts a_o1 a_o1_kind a_o1_saved a_o1_lost a_o1_gain a_o1_gap a_o1_least a_o1_most a_o1_hand x_levelAbove x_levelBelow x_unit o1_size x_goal o1_size o1_guards o1_gain o1_gap o1_least o1_most v2 N q4 e4) gX3_make_X3_findLevel rfl rfl rfl (by decide +kernel) ⟨Nat.le_of_ble_eq_true rfl, Nat.le_of_ble_eq_true rfl⟩ rfl rfl rfl (Nat.le_of_ble_eq_true rfl) rfl dX3_make_57 [0, 2, 5, 6, 7, 8] [1, 3, 4] [3, 0, 4, 1, 2, 5, 6, 7, 8] rfl rfl rfl rfl (by decide) rfl rfl rfl (fun H locs hP hD hS => ?_)
          refine lv_aload_n hx hb dX3_make_60 rfl (lv_at hl 0 rfl) ?_
          refine lv_ldc2 (v := 3600) hx hb hown (hts _ mb_X3_make_11) dX3_make_61 ?_
          refine lv_aload_n hx hb dX3_make_64 rfl (lv_at hl 0 rfl) ?_
          refine va_get (D := D) (ci := 3) (v := .long q4.2) (C := RX3) (T := TX3) (N := 6) hx hb hts in_X3_make_X3 hown hK hP 0 rfl rfl 1 (by decide) (hts _ mb_X3_make_2) (fun _ h9 => h9) rfl dX3_make_65 ?_
          refine lv_lmul hx hb dX3_make_68 ?_
          refine va_put (D := D) (ci := 3) (v := .long (3600 * q4.2)) (ty := .long) (C := RX3) (T := TX3) (N := 6) hx hb hts in_X3_make_X3 tyX3 tyX3_ok nmX3 hown hK hP hD hS 0 rfl rfl 2 (by decide) (hts _ mb_X3_make_12) (fun _ h9 => h9) rfl (by decide +kernel) rfl rfl (Nat.le_of_ble_eq_true rfl) dX3_make_69 (fun H locs hP hD hS => ?_)
          have hP : va_P D vwCl (w_X3_make cI cJ cZ cG a_x a_x_parts a_o1 a_o1_kind a_o1_saved a_o1_lost a_o1_gain a_o1_gap a_o1_least a_o1_most a_o1_hand q4.1 q4.2 (3600 * q4.2) o1_size x_goal x_parts o1_size o1_guards o1_saved o1_lost o1_gain o1_gap o1_least o1_most) H := hP
          have hD : va_D A (w_X3_make cI cJ cZ cG a_x a_x_parts a_o1 a_o1_kind a_o1_saved a_o1_lost a_o1_gain a_o1_gap a_o1_least a_o1_most a_o1_hand q4.1 q4.2 (3600 * q4.2) o1_size x_goal x_parts o1_size o1_guards o1_saved o1_lost o1_gain o1_gap o1_least o1_most) := hD
          refine lv_iconst (v := 0) hx hb dX3_make_72 (by decide) ?_
          refine lv_istore_n (lv' := [(3, .int 0), (0, .ref a_x), (1, .ref a_o1), (2, .int v2)]) hx hb dX3_make_73 rfl hl (by decide) rfl (fun ls hl => ?_)
          exact t_X3_make_b74 C a_x a_x_parts a_o1 a_o1_kind a_o1_saved a_o1_lost a_o1_gain a_o1_gap a_o1_least a_o1_most a_o1_hand o1_size o1_guards o1_saved o1_lost o1_gain o1_gap o1_least o1_most N q q4.1 q4.2 (3600 * q4.2) o1_size x_goal N x_parts 0 h H locs ls hP hD hS (lv_sub hl [1, 2, 0] rfl)
        · have h := iff_ c3 h
          refine lv_iconst (v := 0) hx hb dX3_make_44 (by decide) ?_
          obtain rfl := Option.some.inj h
          exact g_zret C hP hD hS (nz_b (Or.inl rfl)) dX3_make_45
    · have h := iff_ c1 h
      refine lv_iload_n hx hb dX3_make_18 rfl (lv_at hl 2 rfl) ?_
      refine lv_aload_n hx hb dX3_make_19 rfl (lv_at hl 1 rfl) ?_
      refine va_get (D := D) (ci := 8) (v := .ref a_o1_least) (C := RX8) (T := TX8) (N := 10) hx hb hts in_X3_make_X8 hown hK hP 2 rfl rfl 7 (by decide) (hts _ mb_X3_make_9) (fun _ h9 => h9) rfl dX3_make_20 ?_
      refine lv_iload_n hx hb dX3_make_23 rfl (lv_at hl 3 rfl) ?_
      obtain ⟨i5, h⟩ := gI_some h
      refine va_iald hx hb hK hP 7 0 rfl rfl i5 dX3_make_24 ?_
      refine lv_isub hx hb dX3_make_25 ?_
      refine lv_istore_n (lv' := [(2, .int (v2 - (o1_least v3.toNatClampNeg))), (0, .ref a_x), (1, .ref a_o1), (3, .int v3)]) hx hb dX3_make_26 rfl hl (by decide) rfl (fun ls hl => ?_)
      refine lv_iinc (v := v3 + 1) (lv' := [(3, .int (v3 + 1)), (2, .int (v2 - (o1_least v3.toNatClampNeg))), (0, .ref a_x), (1, .ref a_o1)]) hx hb dX3_make_27 hl (k := 3) rfl rfl (by decide) rfl (fun ls hl => ?_)
      refine lv_goto (tgt := 10) hx hb dX3_make_30 (by decide) ?_
      exact hk_10 (v2 - (o1_least v3.toNatClampNeg)) (v3 + 1) h H locs ls hP hD hS (lv_sub hl [2, 3, 1, 0] rfl)
set_option maxRecDepth 100000 in
set_option maxHeartbeats 4000000 in
theorem c_X3_make (l : Launch) (D : va_G) (cI cJ cZ cG : ClassId) (a_x a_x_parts a_o1 a_o1_kind a_o1_saved a_o1_lost a_o1_gain a_o1_gap a_o1_least a_o1_most a_o1_hand : Nat) (x_levelAbove : Int64) (x_levelBelow : Int64) (x_unit : Int64) (x_size : Int32) (x_goal : Int32) (x_parts : (Nat → Int64)) (o1_size : Int32) (o1_guards : Int32) (o1_saved : (Nat → Int32)) (o1_lost : (Nat → Int32)) (o1_gain : (Nat → Int32)) (o1_gap : (Nat → Int32)) (o1_least : (Nat → Int32)) (o1_most : (Nat → Int32)) (N : Nat) (q : Int32 × Int64 × Int64 × Int64 × Int32 × Int32 × (Nat → Int64)) (h : f_X3_make N x_levelAbove x_levelBelow x_unit x_size x_goal x_parts o1_size o1_guards o1_saved o1_lost o1_gain o1_gap o1_least o1_most = some q) : gMet l yX3_make wsX3_make rm_X3_make [.ref a_x, .ref a_o1] (w_X3_make cI cJ cZ cG a_x a_x_parts a_o1 a_o1_kind a_o1_saved a_o1_lost a_o1_gain a_o1_gap a_o1_least a_o1_most a_o1_hand x_levelAbove x_levelBelow x_unit x_size x_goal x_parts o1_size o1_guards o1_saved o1_lost o1_gain o1_gap o1_least o1_most) (w_X3_make cI cJ cZ cG a_x a_x_parts a_o1 a_o1_kind a_o1_saved a_o1_lost a_o1_gain a_o1_gap a_o1_least a_o1_most a_o1_hand q.2.1 q.2.2.1 q.2.2.2.1 q.2.2.2.2.1 q.2.2.2.2.2.1 q.2.2.2.2.2.2 o1_size o1_guards o1_saved o1_lost o1_gain o1_gap o1_least o1_most) (some (.int q.1)) D cI cJ cZ cG := by
  refine g_enter (cc := cX3_make) (nL := 6) (ret := (some .boolean)) (by decide) rfl (Nat.le_of_ble_eq_true rfl) ?_
  intro p e s m below meth c A C H locs ls hP hD hS hl
  obtain ⟨hx, hb, hr, hml, hown, hts, hlk, hgk, hA⟩ := id C
  have hK := hgk.1
  have hl : lv_has ls 6 [(0, .ref a_x), (1, .ref a_o1)] := hl
  unfold f_X3_make at h
  refine lv_bipush (v := 60) hx hb dX3_make_0 (by decide) ?_
  refine lv_aload_n hx hb dX3_make_2 rfl (lv_at hl 1 rfl) ?_
  refine va_get (D := D) (ci := 8) (v := .int o1_guards) (C := RX8) (T := TX8) (N := 10) hx hb hts in_X3_make_X8 hown hK hP 2 rfl rfl 1 (by decide) (hts _ mb_X3_make_13) (fun _ h9 => h9) rfl dX3_make_3 ?_
  refine lv_imul hx hb dX3_make_6 ?_
  refine lv_istore_n (lv' := [(2, .int (60 * o1_guards)), (0, .ref a_x), (1, .ref a_o1)]) hx hb dX3_make_7 rfl hl (by decide) rfl (fun ls hl => ?_)
  refine lv_iconst (v := 0) hx hb dX3_make_8 (by decide) ?_
  refine lv_istore_n (lv' := [(3, .int 0), (2, .int (60 * o1_guards)), (0, .ref a_x), (1, .ref a_o1)]) hx hb dX3_make_9 rfl hl (by decide) rfl (fun ls hl => ?_)
  exact t_X3_make_b10 C a_x a_x_parts a_o1 a_o1_kind a_o1_saved a_o1_lost a_o1_gain a_o1_gap a_o1_least a_o1_most a_o1_hand o1_size o1_guards o1_saved o1_lost o1_gain o1_gap o1_least o1_most N q x_levelAbove x_levelBelow x_unit x_size x_goal x_parts N (60 * o1_guards) 0 h H locs ls hP hD hS (lv_sub hl [2, 3, 1, 0] rfl)
theorem in_X4_add_X4 : ∀ w ∈ wsX40, w ∈ wsX4_add := by decide +kernel
theorem mb_X4_add_0 : Cond.fieldLink RX4 15 "GuardDesk$Posts" "size" "I" ∈ wsX4_add := List.mem_of_getElem? (i := 1) rfl
theorem mb_X4_add_1 : Cond.fieldLink RX4 9 "GuardDesk$Posts" "every" "[I" ∈ wsX4_add := List.mem_of_getElem? (i := 2) rfl
set_option maxRecDepth 100000 in
set_option maxHeartbeats 4000000 in
theorem c_X4_add (l : Launch) (D : va_G) (cI cJ cZ cG : ClassId) (a_x a_x_every : Nat) (x_size : Int32) (x_every : (Nat → Int32)) (p1 : Int32) (q : Int32 × Int32 × (Nat → Int32)) (h : f_X4_add x_size x_every p1 = some q) : gMet l yX4_add wsX4_add rm_X4_add [.ref a_x, .int p1] (w_X4_add cI cJ cZ cG a_x a_x_every x_size x_every) (w_X4_add cI cJ cZ cG a_x a_x_every q.2.1 q.2.2) (some (.int q.1)) D cI cJ cZ cG := by
  refine g_enter (cc := cX4_add) (nL := 3) (ret := (some .int)) (by decide) rfl (Nat.le_of_ble_eq_true rfl) ?_
  intro p e s m below meth c A C H locs ls hP hD hS hl
  obtain ⟨hx, hb, hr, hml, hown, hts, hlk, hgk, hA⟩ := id C
  have hK := hgk.1
  have hl : lv_has ls 3 [(0, .ref a_x), (1, .int p1)] := hl
  unfold f_X4_add at h
  refine lv_aload_n hx hb dX4_add_0 rfl (lv_at hl 0 rfl) ?_
  refine va_get (D := D) (ci := 4) (v := .int x_size) (C := RX4) (T := TX4) (N := 2) hx hb hts in_X4_add_X4 hown hK hP 0 rfl rfl 0 (by decide) (hts _ mb_X4_add_0) (fun _ h9 => h9) rfl dX4_add_1 ?_
  refine lv_istore_n (lv' := [(2, .int x_size), (0, .ref a_x), (1, .int p1)]) hx hb dX4_add_4 rfl hl (by decide) rfl (fun ls hl => ?_)
  refine lv_aload_n hx hb dX4_add_5 rfl (lv_at hl 1 rfl) ?_
  refine va_get (D := D) (ci := 4) (v := .ref a_x_every) (C := RX4) (T := TX4) (N := 2) hx hb hts in_X4_add_X4 hown hK hP 0 rfl rfl 1 (by decide) (hts _ mb_X4_add_1) (fun _ h9 => h9) rfl dX4_add_6 ?_
  refine lv_iload_n hx hb dX4_add_9 rfl (lv_at hl 0 rfl) ?_
  refine lv_iload_n hx hb dX4_add_10 rfl (lv_at hl 2 rfl) ?_
  obtain ⟨i1, h⟩ := gI_some h
  refine va_iast hx hb hK hP hD hS 1 0 rfl rfl i1 dX4_add_11 (fun H locs hP hD hS => ?_)
  have hP : va_P D vwCl (w_X4_add cI cJ cZ cG a_x a_x_every x_size (upd x_every x_size.toNatClampNeg p1)) H := hP
  have hD : va_D A (w_X4_add cI cJ cZ cG a_x a_x_every x_size (upd x_every x_size.toNatClampNeg p1)) := hD
  refine lv_aload_n hx hb dX4_add_12 rfl (lv_at hl 1 rfl) ?_
  refine lv_dup hx hb dX4_add_13 rfl ?_
  refine va_get (D := D) (ci := 4) (v := .int x_size) (C := RX4) (T := TX4) (N := 2) hx hb hts in_X4_add_X4 hown hK hP 0 rfl rfl 0 (by decide) (hts _ mb_X4_add_0) (fun _ h9 => h9) rfl dX4_add_14 ?_
  refine lv_iconst (v := 1) hx hb dX4_add_17 (by decide) ?_
  refine lv_iadd hx hb dX4_add_18 ?_
  refine va_put (D := D) (ci := 4) (v := .int (x_size + 1)) (ty := .int) (C := RX4) (T := TX4) (N := 2) hx hb hts in_X4_add_X4 tyX4 tyX4_ok nmX4 hown hK hP hD hS 0 rfl rfl 0 (by decide) (hts _ mb_X4_add_0) (fun _ h9 => h9) rfl (by decide +kernel) rfl rfl (Nat.le_of_ble_eq_true rfl) dX4_add_19 (fun H locs hP hD hS => ?_)
  have hP : va_P D vwCl (w_X4_add cI cJ cZ cG a_x a_x_every (x_size + 1) (upd x_every x_size.toNatClampNeg p1)) H := hP
  have hD : va_D A (w_X4_add cI cJ cZ cG a_x a_x_every (x_size + 1) (upd x_every x_size.toNatClampNeg p1)) := hD
  refine lv_iload_n hx hb dX4_add_22 rfl (lv_at hl 0 rfl) ?_
  obtain rfl := Option.some.inj h
  exact g_iret C hP hD hS dX4_add_23
theorem in_X4_copyFrom_X4 : ∀ w ∈ wsX40, w ∈ wsX4_copyFrom := by decide +kernel
theorem mb_X4_copyFrom_0 : Cond.fieldLink RX4 15 "GuardDesk$Posts" "size" "I" ∈ wsX4_copyFrom := List.mem_of_getElem? (i := 1) rfl
theorem mb_X4_copyFrom_1 : Cond.fieldLink RX4 9 "GuardDesk$Posts" "every" "[I" ∈ wsX4_copyFrom := List.mem_of_getElem? (i := 2) rfl
theorem mb_X4_copyFrom_2 : Cond.methodLink RX4 19 arraycopyName ∈ wsX4_copyFrom := List.mem_of_getElem? (i := 3) rfl
theorem mb_X4_copyFrom_3 : Cond.native arraycopyName ∈ wsX4_copyFrom := List.mem_of_getElem? (i := 4) rfl
theorem mb_X4_copyFrom_4 : Cond.static arraycopyName ∈ wsX4_copyFrom := List.mem_of_getElem? (i := 5) rfl
theorem mb_X4_copyFrom_5 : Cond.initialized "java/lang/System" ∈ wsX4_copyFrom := List.mem_of_getElem? (i := 6) rfl
set_option maxRecDepth 100000 in
set_option maxHeartbeats 4000000 in
theorem c_X4_copyFrom (l : Launch) (D : va_G) (cI cJ cZ cG : ClassId) (a_x a_x_every a_o1 a_o1_every : Nat) (x_size : Int32) (x_every : (Nat → Int32)) (o1_size : Int32) (o1_every : (Nat → Int32)) (q : Int32 × (Nat → Int32)) (h : f_X4_copyFrom x_size x_every o1_size o1_every = q) : gMet l yX4_copyFrom wsX4_copyFrom rm_X4_copyFrom [.ref a_x, .ref a_o1] (w_X4_copyFrom cI cJ cZ cG a_x a_x_every a_o1 a_o1_every x_size x_every o1_size o1_every) (w_X4_copyFrom cI cJ cZ cG a_x a_x_every a_o1 a_o1_every q.1 q.2 o1_size o1_every) none D cI cJ cZ cG := by
  refine g_enter (cc := cX4_copyFrom) (nL := 2) (ret := none) (by decide) rfl (Nat.le_of_ble_eq_true rfl) ?_
  intro p e s m below meth c A C H locs ls hP hD hS hl
  obtain ⟨hx, hb, hr, hml, hown, hts, hlk, hgk, hA⟩ := id C
  have hK := hgk.1
  have hl : lv_has ls 2 [(0, .ref a_x), (1, .ref a_o1)] := hl
  unfold f_X4_copyFrom at h
  refine lv_aload_n hx hb dX4_copyFrom_0 rfl (lv_at hl 0 rfl) ?_
  refine lv_aload_n hx hb dX4_copyFrom_1 rfl (lv_at hl 1 rfl) ?_
  refine va_get (D := D) (ci := 4) (v := .int o1_size) (C := RX4) (T := TX4) (N := 2) hx hb hts in_X4_copyFrom_X4 hown hK hP 2 rfl rfl 0 (by decide) (hts _ mb_X4_copyFrom_0) (fun _ h9 => h9) rfl dX4_copyFrom_2 ?_
  refine va_put (D := D) (ci := 4) (v := .int o1_size) (ty := .int) (C := RX4) (T := TX4) (N := 2) hx hb hts in_X4_copyFrom_X4 tyX4 tyX4_ok nmX4 hown hK hP hD hS 0 rfl rfl 0 (by decide) (hts _ mb_X4_copyFrom_0) (fun _ h9 => h9) rfl (by decide +kernel) rfl rfl (Nat.le_of_ble_eq_true rfl) dX4_copyFrom_5 (fun H locs hP hD hS => ?_)
  have hP : va_P D vwCl (w_X4_copyFrom cI cJ cZ cG a_x a_x_every a_o1 a_o1_every o1_size x_every o1_size o1_every) H := hP
  have hD : va_D A (w_X4_copyFrom cI cJ cZ cG a_x a_x_every a_o1 a_o1_every o1_size x_every o1_size o1_every) := hD
  refine lv_aload_n hx hb dX4_copyFrom_8 rfl (lv_at hl 1 rfl) ?_
  refine va_get (D := D) (ci := 4) (v := .ref a_o1_every) (C := RX4) (T := TX4) (N := 2) hx hb hts in_X4_copyFrom_X4 hown hK hP 2 rfl rfl 1 (by decide) (hts _ mb_X4_copyFrom_1) (fun _ h9 => h9) rfl dX4_copyFrom_9 ?_
  refine lv_iconst (v := 0) hx hb dX4_copyFrom_12 (by decide) ?_
  refine lv_aload_n hx hb dX4_copyFrom_13 rfl (lv_at hl 0 rfl) ?_
  refine va_get (D := D) (ci := 4) (v := .ref a_x_every) (C := RX4) (T := TX4) (N := 2) hx hb hts in_X4_copyFrom_X4 hown hK hP 0 rfl rfl 1 (by decide) (hts _ mb_X4_copyFrom_1) (fun _ h9 => h9) rfl dX4_copyFrom_14 ?_
  refine lv_iconst (v := 0) hx hb dX4_copyFrom_17 (by decide) ?_
  refine lv_iconst (v := 5) hx hb dX4_copyFrom_18 (by decide) ?_
  refine va_copyi (ty := .int) hx hb (hml.trans hl.1.symm) hown (hts _ mb_X4_copyFrom_2) (hts _ mb_X4_copyFrom_3) (hts _ mb_X4_copyFrom_4) (hts _ mb_X4_copyFrom_5) hK hP hD hS 3 1 0 0 rfl rfl rfl rfl rfl (by decide) (by decide) (by decide) (by decide) (by decide) (fun _ _ => rfl) (Nat.le_of_ble_eq_true rfl) (Nat.le_of_ble_eq_true rfl) dX4_copyFrom_19 (fun H locs hP hD hS => ?_)
  have hP : va_P D vwCl (w_X4_copyFrom cI cJ cZ cG a_x a_x_every a_o1 a_o1_every o1_size (va_cpy o1_every x_every 0 0 5) o1_size o1_every) H := hP
  have hD : va_D A (w_X4_copyFrom cI cJ cZ cG a_x a_x_every a_o1 a_o1_every o1_size (va_cpy o1_every x_every 0 0 5) o1_size o1_every) := hD
  obtain rfl := h
  exact g_vret C hP hD hS dX4_copyFrom_22
theorem in_X4_isLike_X4 : ∀ w ∈ wsX40, w ∈ wsX4_isLike := by decide +kernel
theorem mb_X4_isLike_0 : Cond.fieldLink RX4 15 "GuardDesk$Posts" "size" "I" ∈ wsX4_isLike := List.mem_of_getElem? (i := 1) rfl
theorem mb_X4_isLike_1 : Cond.fieldLink RX4 9 "GuardDesk$Posts" "every" "[I" ∈ wsX4_isLike := List.mem_of_getElem? (i := 2) rfl
set_option maxRecDepth 100000 in
set_option maxHeartbeats 4000000 in
theorem t_X4_isLike_b19 (C : cx D cI cJ cZ cG A cX4_isLike 4 (some .boolean) RX4 wsX4_isLike p s m args meth c) (a_x a_x_every a_o1 a_o1_every : Nat) (x_size : Int32) (x_every : (Nat → Int32)) (o1_size : Int32) (o1_every : (Nat → Int32)) (N : Nat) (q : Int32) : ∀ (n : Nat) (v2 : Int32) (v3 : Int32), f_X4_isLike_b19 N x_size x_every o1_size o1_every n v2 v3 = some q → WB p l e rm_X4_isLike s m args below meth c (MQ below (Qg D (some (.int q)) (w_X4_isLike cI cJ cZ cG a_x a_x_every a_o1 a_o1_every x_size x_every o1_size o1_every) A) args s 0 0 A) D A 4 (w_X4_isLike cI cJ cZ cG a_x a_x_every a_o1 a_o1_every x_size x_every o1_size o1_every) [(0, .ref a_x), (1, .ref a_o1), (2, .int v2), (3, .int v3)] [] 19 := by
  obtain ⟨hx, hb, hr, hml, hown, hts, hlk, hgk, hA⟩ := id C
  have hK := hgk.1
  intro n
  induction n with
  | zero => intro v2 v3 h; cases h
  | succ n hk_19 =>
    intro v2 v3 h
    have h : g_X4_isLike_b19 N x_size x_every o1_size o1_every (f_X4_isLike_b19 N x_size x_every o1_size o1_every n) v2 v3 = some q := h
    generalize f_X4_isLike_b19 N x_size x_every o1_size o1_every n = k_19 at h hk_19
    unfold g_X4_isLike_b19 at h
    intro H locs ls hP hD hS hl
    refine lv_iload_n hx hb dX4_isLike_19 rfl (lv_at hl 3 rfl) ?_
    refine lv_aload_n hx hb dX4_isLike_20 rfl (lv_at hl 0 rfl) ?_
    refine va_get (D := D) (ci := 4) (v := .int x_size) (C := RX4) (T := TX4) (N := 2) hx hb hts in_X4_isLike_X4 hown hK hP 0 rfl rfl 0 (by decide) (hts _ mb_X4_isLike_0) (fun _ h9 => h9) rfl dX4_isLike_21 ?_
    refine lv_icmp_ge (tgt := 58) hx hb dX4_isLike_24 (by decide) (fun c1 => ?_) (fun c1 => ?_)
    · have h := ift c1 h
      refine lv_iload_n hx hb dX4_isLike_58 rfl (lv_at hl 2 rfl) ?_
      obtain ⟨z2, h⟩ := gB_some h
      obtain rfl := Option.some.inj h
      exact g_zret C hP hD hS z2 dX4_isLike_59
    · have h := iff_ c1 h
      refine lv_iload_n hx hb dX4_isLike_27 rfl (lv_at hl 2 rfl) ?_
      refine lv_if_eq (tgt := 58) hx hb dX4_isLike_28 (by decide) (fun c3 => ?_) (fun c3 => ?_)
      · have h := ift c3 h
        refine lv_iload_n hx hb dX4_isLike_58 rfl (lv_at hl 2 rfl) ?_
        obtain ⟨z4, h⟩ := gB_some h
        obtain rfl := Option.some.inj h
        exact g_zret C hP hD hS z4 dX4_isLike_59
      · have h := iff_ c3 h
        refine lv_aload_n hx hb dX4_isLike_31 rfl (lv_at hl 0 rfl) ?_
        refine va_get (D := D) (ci := 4) (v := .ref a_x_every) (C := RX4) (T := TX4) (N := 2) hx hb hts in_X4_isLike_X4 hown hK hP 0 rfl rfl 1 (by decide) (hts _ mb_X4_isLike_1) (fun _ h9 => h9) rfl dX4_isLike_32 ?_
        refine lv_iload_n hx hb dX4_isLike_35 rfl (lv_at hl 3 rfl) ?_
        obtain ⟨i5, h⟩ := gI_some h
        refine va_iald hx hb hK hP 1 0 rfl rfl i5 dX4_isLike_36 ?_
        refine lv_aload_n hx hb dX4_isLike_37 rfl (lv_at hl 1 rfl) ?_
        refine va_get (D := D) (ci := 4) (v := .ref a_o1_every) (C := RX4) (T := TX4) (N := 2) hx hb hts in_X4_isLike_X4 hown hK hP 2 rfl rfl 1 (by decide) (hts _ mb_X4_isLike_1) (fun _ h9 => h9) rfl dX4_isLike_38 ?_
        refine lv_iload_n hx hb dX4_isLike_41 rfl (lv_at hl 3 rfl) ?_
        obtain ⟨i6, h⟩ := gI_some h
        refine va_iald hx hb hK hP 3 0 rfl rfl i6 dX4_isLike_42 ?_
        refine lv_icmp_ne (tgt := 50) hx hb dX4_isLike_43 (by decide) (fun c7 => ?_) (fun c7 => ?_)
        · have h := iff_ c7 h
          refine lv_iconst (v := 0) hx hb dX4_isLike_50 (by decide) ?_
          refine lv_istore_n (lv' := [(2, .int 0), (0, .ref a_x), (1, .ref a_o1), (3, .int v3)]) hx hb dX4_isLike_51 rfl hl (by decide) rfl (fun ls hl => ?_)
          refine lv_iinc (v := v3 + 1) (lv' := [(3, .int (v3 + 1)), (2, .int 0), (0, .ref a_x), (1, .ref a_o1)]) hx hb dX4_isLike_52 hl (k := 3) rfl rfl (by decide) rfl (fun ls hl => ?_)
          refine lv_goto (tgt := 19) hx hb dX4_isLike_55 (by decide) ?_
          exact hk_19 0 (v3 + 1) h H locs ls hP hD hS (lv_sub hl [2, 3, 1, 0] rfl)
        · have h := ift c7 h
          refine lv_iconst (v := 1) hx hb dX4_isLike_46 (by decide) ?_
          refine lv_goto (tgt := 51) hx hb dX4_isLike_47 (by decide) ?_
          refine lv_istore_n (lv' := [(2, .int 1), (0, .ref a_x), (1, .ref a_o1), (3, .int v3)]) hx hb dX4_isLike_51 rfl hl (by decide) rfl (fun ls hl => ?_)
          refine lv_iinc (v := v3 + 1) (lv' := [(3, .int (v3 + 1)), (2, .int 1), (0, .ref a_x), (1, .ref a_o1)]) hx hb dX4_isLike_52 hl (k := 3) rfl rfl (by decide) rfl (fun ls hl => ?_)
          refine lv_goto (tgt := 19) hx hb dX4_isLike_55 (by decide) ?_
          exact hk_19 1 (v3 + 1) h H locs ls hP hD hS (lv_sub hl [2, 3, 1, 0] rfl)
set_option maxRecDepth 100000 in
set_option maxHeartbeats 4000000 in
theorem t_X4_isLike_b16 (C : cx D cI cJ cZ cG A cX4_isLike 4 (some .boolean) RX4 wsX4_isLike p s m args meth c) (a_x a_x_every a_o1 a_o1_every : Nat) (x_size : Int32) (x_every : (Nat → Int32)) (o1_size : Int32) (o1_every : (Nat → Int32)) (N : Nat) (q : Int32) (k0 : Int32) (h : f_X4_isLike_b16 N x_size x_every o1_size o1_every k0 = some q) : WB p l e rm_X4_isLike s m args below meth c (MQ below (Qg D (some (.int q)) (w_X4_isLike cI cJ cZ cG a_x a_x_every a_o1 a_o1_every x_size x_every o1_size o1_every) A) args s 0 0 A) D A 4 (w_X4_isLike cI cJ cZ cG a_x a_x_every a_o1 a_o1_every x_size x_every o1_size o1_every) [(0, .ref a_x), (1, .ref a_o1)] [.int k0] 16 := by
  obtain ⟨hx, hb, hr, hml, hown, hts, hlk, hgk, hA⟩ := id C
  have hK := hgk.1
  unfold f_X4_isLike_b16 at h
  intro H locs ls hP hD hS hl
  refine lv_istore_n (lv' := [(2, .int k0), (0, .ref a_x), (1, .ref a_o1)]) hx hb dX4_isLike_16 rfl hl (by decide) rfl (fun ls hl => ?_)
  refine lv_iconst (v := 0) hx hb dX4_isLike_17 (by decide) ?_
  refine lv_istore_n (lv' := [(3, .int 0), (2, .int k0), (0, .ref a_x), (1, .ref a_o1)]) hx hb dX4_isLike_18 rfl hl (by decide) rfl (fun ls hl => ?_)
  exact t_X4_isLike_b19 C a_x a_x_every a_o1 a_o1_every x_size x_every o1_size o1_every N q N k0 0 h H locs ls hP hD hS (lv_sub hl [2, 3, 1, 0] rfl)
set_option maxRecDepth 100000 in
set_option maxHeartbeats 4000000 in
theorem c_X4_isLike (l : Launch) (D : va_G) (cI cJ cZ cG : ClassId) (a_x a_x_every a_o1 a_o1_every : Nat) (x_size : Int32) (x_every : (Nat → Int32)) (o1_size : Int32) (o1_every : (Nat → Int32)) (N : Nat) (q : Int32) (h : f_X4_isLike N x_size x_every o1_size o1_every = some q) : gMet l yX4_isLike wsX4_isLike rm_X4_isLike [.ref a_x, .ref a_o1] (w_X4_isLike cI cJ cZ cG a_x a_x_every a_o1 a_o1_every x_size x_every o1_size o1_every) (w_X4_isLike cI cJ cZ cG a_x a_x_every a_o1 a_o1_every x_size x_every o1_size o1_every) (some (.int q)) D cI cJ cZ cG := by
  refine g_enter (cc := cX4_isLike) (nL := 4) (ret := (some .boolean)) (by decide) rfl (Nat.le_of_ble_eq_true rfl) ?_
  intro p e s m below meth c A C H locs ls hP hD hS hl
  obtain ⟨hx, hb, hr, hml, hown, hts, hlk, hgk, hA⟩ := id C
  have hK := hgk.1
  have hl : lv_has ls 4 [(0, .ref a_x), (1, .ref a_o1)] := hl
  unfold f_X4_isLike at h
  refine lv_aload_n hx hb dX4_isLike_0 rfl (lv_at hl 0 rfl) ?_
  refine va_get (D := D) (ci := 4) (v := .int x_size) (C := RX4) (T := TX4) (N := 2) hx hb hts in_X4_isLike_X4 hown hK hP 0 rfl rfl 0 (by decide) (hts _ mb_X4_isLike_0) (fun _ h9 => h9) rfl dX4_isLike_1 ?_
  refine lv_aload_n hx hb dX4_isLike_4 rfl (lv_at hl 1 rfl) ?_
  refine va_get (D := D) (ci := 4) (v := .int o1_size) (C := RX4) (T := TX4) (N := 2) hx hb hts in_X4_isLike_X4 hown hK hP 2 rfl rfl 0 (by decide) (hts _ mb_X4_isLike_0) (fun _ h9 => h9) rfl dX4_isLike_5 ?_
  refine lv_icmp_ne (tgt := 15) hx hb dX4_isLike_8 (by decide) (fun c1 => ?_) (fun c1 => ?_)
  · have h := iff_ c1 h
    refine lv_iconst (v := 0) hx hb dX4_isLike_15 (by decide) ?_
    exact t_X4_isLike_b16 C a_x a_x_every a_o1 a_o1_every x_size x_every o1_size o1_every N q 0 h H locs ls hP hD hS (lv_sub hl [0, 1] rfl)
  · have h := ift c1 h
    refine lv_iconst (v := 1) hx hb dX4_isLike_11 (by decide) ?_
    refine lv_goto (tgt := 16) hx hb dX4_isLike_12 (by decide) ?_
    exact t_X4_isLike_b16 C a_x a_x_every a_o1 a_o1_every x_size x_every o1_size o1_every N q 1 h H locs ls hP hD hS (lv_sub hl [0, 1] rfl)
theorem in_X5_add_X5 : ∀ w ∈ wsX50, w ∈ wsX5_add := by decide +kernel
theorem mb_X5_add_0 : Cond.fieldLink RX5 27 "GuardDesk$Roads" "size" "I" ∈ wsX5_add := List.mem_of_getElem? (i := 1) rfl
theorem mb_X5_add_1 : Cond.fieldLink RX5 9 "GuardDesk$Roads" "from" "[I" ∈ wsX5_add := List.mem_of_getElem? (i := 2) rfl
theorem mb_X5_add_2 : Cond.fieldLink RX5 15 "GuardDesk$Roads" "to" "[I" ∈ wsX5_add := List.mem_of_getElem? (i := 3) rfl
theorem mb_X5_add_3 : Cond.fieldLink RX5 18 "GuardDesk$Roads" "length" "[I" ∈ wsX5_add := List.mem_of_getElem? (i := 4) rfl
set_option maxRecDepth 100000 in
set_option maxHeartbeats 4000000 in
theorem c_X5_add (l : Launch) (D : va_G) (cI cJ cZ cG : ClassId) (a_x a_x_from a_x_to a_x_length a_x_reach a_x_lastRoad : Nat) (x_size : Int32) (x_barred : Int32) (x_from : (Nat → Int32)) (x_to : (Nat → Int32)) (x_length : (Nat → Int32)) (p1 : Int32) (p2 : Int32) (p3 : Int32) (q : Int32 × Int32 × (Nat → Int32) × (Nat → Int32) × (Nat → Int32)) (h : f_X5_add x_size x_from x_to x_length p1 p2 p3 = some q) : gMet l yX5_add wsX5_add rm_X5_add [.ref a_x, .int p1, .int p2, .int p3] (w_X5_add cI cJ cZ cG a_x a_x_from a_x_to a_x_length a_x_reach a_x_lastRoad x_size x_barred x_from x_to x_length) (w_X5_add cI cJ cZ cG a_x a_x_from a_x_to a_x_length a_x_reach a_x_lastRoad q.2.1 x_barred q.2.2.1 q.2.2.2.1 q.2.2.2.2) (some (.int q.1)) D cI cJ cZ cG := by
  refine g_enter (cc := cX5_add) (nL := 5) (ret := (some .int)) (by decide) rfl (Nat.le_of_ble_eq_true rfl) ?_
  intro p e s m below meth c A C H locs ls hP hD hS hl
  obtain ⟨hx, hb, hr, hml, hown, hts, hlk, hgk, hA⟩ := id C
  have hK := hgk.1
  have hl : lv_has ls 5 [(0, .ref a_x), (1, .int p1), (2, .int p2), (3, .int p3)] := hl
  unfold f_X5_add at h
  refine lv_aload_n hx hb dX5_add_0 rfl (lv_at hl 0 rfl) ?_
  refine va_get (D := D) (ci := 5) (v := .int x_size) (C := RX5) (T := TX5) (N := 7) hx hb hts in_X5_add_X5 hown hK hP 0 rfl rfl 0 (by decide) (hts _ mb_X5_add_0) (fun _ h9 => h9) rfl dX5_add_1 ?_
  refine lv_istore (lv' := [(4, .int x_size), (0, .ref a_x), (1, .int p1), (2, .int p2), (3, .int p3)]) hx hb dX5_add_4 hl (by decide) rfl (fun ls hl => ?_)
  refine lv_aload_n hx hb dX5_add_6 rfl (lv_at hl 1 rfl) ?_
  refine va_get (D := D) (ci := 5) (v := .ref a_x_from) (C := RX5) (T := TX5) (N := 7) hx hb hts in_X5_add_X5 hown hK hP 0 rfl rfl 2 (by decide) (hts _ mb_X5_add_1) (fun _ h9 => h9) rfl dX5_add_7 ?_
  refine lv_iload hx hb dX5_add_10 (lv_at hl 0 rfl) ?_
  refine lv_iload_n hx hb dX5_add_12 rfl (lv_at hl 2 rfl) ?_
  obtain ⟨i1, h⟩ := gI_some h
  refine va_iast hx hb hK hP hD hS 1 0 rfl rfl i1 dX5_add_13 (fun H locs hP hD hS => ?_)
  have hP : va_P D vwCl (w_X5_add cI cJ cZ cG a_x a_x_from a_x_to a_x_length a_x_reach a_x_lastRoad x_size x_barred (upd x_from x_size.toNatClampNeg p1) x_to x_length) H := hP
  have hD : va_D A (w_X5_add cI cJ cZ cG a_x a_x_from a_x_to a_x_length a_x_reach a_x_lastRoad x_size x_barred (upd x_from x_size.toNatClampNeg p1) x_to x_length) := hD
  refine lv_aload_n hx hb dX5_add_14 rfl (lv_at hl 1 rfl) ?_
  refine va_get (D := D) (ci := 5) (v := .ref a_x_to) (C := RX5) (T := TX5) (N := 7) hx hb hts in_X5_add_X5 hown hK hP 0 rfl rfl 3 (by decide) (hts _ mb_X5_add_2) (fun _ h9 => h9) rfl dX5_add_15 ?_
  refine lv_iload hx hb dX5_add_18 (lv_at hl 0 rfl) ?_
  refine lv_iload_n hx hb dX5_add_20 rfl (lv_at hl 3 rfl) ?_
  obtain ⟨i2, h⟩ := gI_some h
  refine va_iast hx hb hK hP hD hS 2 0 rfl rfl i2 dX5_add_21 (fun H locs hP hD hS => ?_)
  have hP : va_P D vwCl (w_X5_add cI cJ cZ cG a_x a_x_from a_x_to a_x_length a_x_reach a_x_lastRoad x_size x_barred (upd x_from x_size.toNatClampNeg p1) (upd x_to x_size.toNatClampNeg p2) x_length) H := hP
  have hD : va_D A (w_X5_add cI cJ cZ cG a_x a_x_from a_x_to a_x_length a_x_reach a_x_lastRoad x_size x_barred (upd x_from x_size.toNatClampNeg p1) (upd x_to x_size.toNatClampNeg p2) x_length) := hD
  refine lv_aload_n hx hb dX5_add_22 rfl (lv_at hl 1 rfl) ?_
  refine va_get (D := D) (ci := 5) (v := .ref a_x_length) (C := RX5) (T := TX5) (N := 7) hx hb hts in_X5_add_X5 hown hK hP 0 rfl rfl 4 (by decide) (hts _ mb_X5_add_3) (fun _ h9 => h9) rfl dX5_add_23 ?_
  refine lv_iload hx hb dX5_add_26 (lv_at hl 0 rfl) ?_
  refine lv_iload_n hx hb dX5_add_28 rfl (lv_at hl 4 rfl) ?_
  obtain ⟨i3, h⟩ := gI_some h
  refine va_iast hx hb hK hP hD hS 3 0 rfl rfl i3 dX5_add_29 (fun H locs hP hD hS => ?_)
  have hP : va_P D vwCl (w_X5_add cI cJ cZ cG a_x a_x_from a_x_to a_x_length a_x_reach a_x_lastRoad x_size x_barred (upd x_from x_size.toNatClampNeg p1) (upd x_to x_size.toNatClampNeg p2) (upd x_length x_size.toNatClampNeg p3)) H := hP
  have hD : va_D A (w_X5_add cI cJ cZ cG a_x a_x_from a_x_to a_x_length a_x_reach a_x_lastRoad x_size x_barred (upd x_from x_size.toNatClampNeg p1) (upd x_to x_size.toNatClampNeg p2) (upd x_length x_size.toNatClampNeg p3)) := hD
  refine lv_aload_n hx hb dX5_add_30 rfl (lv_at hl 1 rfl) ?_
  refine lv_dup hx hb dX5_add_31 rfl ?_
  refine va_get (D := D) (ci := 5) (v := .int x_size) (C := RX5) (T := TX5) (N := 7) hx hb hts in_X5_add_X5 hown hK hP 0 rfl rfl 0 (by decide) (hts _ mb_X5_add_0) (fun _ h9 => h9) rfl dX5_add_32 ?_
  refine lv_iconst (v := 1) hx hb dX5_add_35 (by decide) ?_
  refine lv_iadd hx hb dX5_add_36 ?_
  refine va_put (D := D) (ci := 5) (v := .int (x_size + 1)) (ty := .int) (C := RX5) (T := TX5) (N := 7) hx hb hts in_X5_add_X5 tyX5 tyX5_ok nmX5 hown hK hP hD hS 0 rfl rfl 0 (by decide) (hts _ mb_X5_add_0) (fun _ h9 => h9) rfl (by decide +kernel) rfl rfl (Nat.le_of_ble_eq_true rfl) dX5_add_37 (fun H locs hP hD hS => ?_)
  have hP : va_P D vwCl (w_X5_add cI cJ cZ cG a_x a_x_from a_x_to a_x_length a_x_reach a_x_lastRoad (x_size + 1) x_barred (upd x_from x_size.toNatClampNeg p1) (upd x_to x_size.toNatClampNeg p2) (upd x_length x_size.toNatClampNeg p3)) H := hP
  have hD : va_D A (w_X5_add cI cJ cZ cG a_x a_x_from a_x_to a_x_length a_x_reach a_x_lastRoad (x_size + 1) x_barred (upd x_from x_size.toNatClampNeg p1) (upd x_to x_size.toNatClampNeg p2) (upd x_length x_size.toNatClampNeg p3)) := hD
  refine lv_iload hx hb dX5_add_40 (lv_at hl 0 rfl) ?_
  obtain rfl := Option.some.inj h
  exact g_iret C hP hD hS dX5_add_42
theorem in_X5_copyFrom_X5 : ∀ w ∈ wsX50, w ∈ wsX5_copyFrom := by decide +kernel
theorem mb_X5_copyFrom_0 : Cond.fieldLink RX5 27 "GuardDesk$Roads" "size" "I" ∈ wsX5_copyFrom := List.mem_of_getElem? (i := 1) rfl
theorem mb_X5_copyFrom_1 : Cond.fieldLink RX5 31 "GuardDesk$Roads" "barred" "I" ∈ wsX5_copyFrom := List.mem_of_getElem? (i := 2) rfl
theorem mb_X5_copyFrom_2 : Cond.fieldLink RX5 9 "GuardDesk$Roads" "from" "[I" ∈ wsX5_copyFrom := List.mem_of_getElem? (i := 3) rfl
theorem mb_X5_copyFrom_3 : Cond.methodLink RX5 34 arraycopyName ∈ wsX5_copyFrom := List.mem_of_getElem? (i := 4) rfl
theorem mb_X5_copyFrom_4 : Cond.native arraycopyName ∈ wsX5_copyFrom := List.mem_of_getElem? (i := 5) rfl
theorem mb_X5_copyFrom_5 : Cond.static arraycopyName ∈ wsX5_copyFrom := List.mem_of_getElem? (i := 6) rfl
theorem mb_X5_copyFrom_6 : Cond.initialized "java/lang/System" ∈ wsX5_copyFrom := List.mem_of_getElem? (i := 7) rfl
theorem mb_X5_copyFrom_7 : Cond.fieldLink RX5 15 "GuardDesk$Roads" "to" "[I" ∈ wsX5_copyFrom := List.mem_of_getElem? (i := 8) rfl
theorem mb_X5_copyFrom_8 : Cond.fieldLink RX5 18 "GuardDesk$Roads" "length" "[I" ∈ wsX5_copyFrom := List.mem_of_getElem? (i := 9) rfl
set_option maxRecDepth 100000 in
set_option maxHeartbeats 4000000 in
theorem c_X5_copyFrom (l : Launch) (D : va_G) (cI cJ cZ cG : ClassId) (a_x a_x_from a_x_to a_x_length a_x_reach a_x_lastRoad a_o1 a_o1_from a_o1_to a_o1_length a_o1_reach a_o1_lastRoad : Nat) (x_size : Int32) (x_barred : Int32) (x_from : (Nat → Int32)) (x_to : (Nat → Int32)) (x_length : (Nat → Int32)) (o1_size : Int32) (o1_barred : Int32) (o1_from : (Nat → Int32)) (o1_to : (Nat → Int32)) (o1_length : (Nat → Int32)) (q : Int32 × Int32 × (Nat → Int32) × (Nat → Int32) × (Nat → Int32)) (h : f_X5_copyFrom x_size x_barred x_from x_to x_length o1_size o1_barred o1_from o1_to o1_length = q) : gMet l yX5_copyFrom wsX5_copyFrom rm_X5_copyFrom [.ref a_x, .ref a_o1] (w_X5_copyFrom cI cJ cZ cG a_x a_x_from a_x_to a_x_length a_x_reach a_x_lastRoad a_o1 a_o1_from a_o1_to a_o1_length a_o1_reach a_o1_lastRoad x_size x_barred x_from x_to x_length o1_size o1_barred o1_from o1_to o1_length) (w_X5_copyFrom cI cJ cZ cG a_x a_x_from a_x_to a_x_length a_x_reach a_x_lastRoad a_o1 a_o1_from a_o1_to a_o1_length a_o1_reach a_o1_lastRoad q.1 q.2.1 q.2.2.1 q.2.2.2.1 q.2.2.2.2 o1_size o1_barred o1_from o1_to o1_length) none D cI cJ cZ cG := by
  refine g_enter (cc := cX5_copyFrom) (nL := 2) (ret := none) (by decide) rfl (Nat.le_of_ble_eq_true rfl) ?_
  intro p e s m below meth c A C H locs ls hP hD hS hl
  obtain ⟨hx, hb, hr, hml, hown, hts, hlk, hgk, hA⟩ := id C
  have hK := hgk.1
  have hl : lv_has ls 2 [(0, .ref a_x), (1, .ref a_o1)] := hl
  unfold f_X5_copyFrom at h
  refine lv_aload_n hx hb dX5_copyFrom_0 rfl (lv_at hl 0 rfl) ?_
  refine lv_aload_n hx hb dX5_copyFrom_1 rfl (lv_at hl 1 rfl) ?_
  refine va_get (D := D) (ci := 5) (v := .int o1_size) (C := RX5) (T := TX5) (N := 7) hx hb hts in_X5_copyFrom_X5 hown hK hP 4 rfl rfl 0 (by decide) (hts _ mb_X5_copyFrom_0) (fun _ h9 => h9) rfl dX5_copyFrom_2 ?_
  refine va_put (D := D) (ci := 5) (v := .int o1_size) (ty := .int) (C := RX5) (T := TX5) (N := 7) hx hb hts in_X5_copyFrom_X5 tyX5 tyX5_ok nmX5 hown hK hP hD hS 0 rfl rfl 0 (by decide) (hts _ mb_X5_copyFrom_0) (fun _ h9 => h9) rfl (by decide +kernel) rfl rfl (Nat.le_of_ble_eq_true rfl) dX5_copyFrom_5 (fun H locs hP hD hS => ?_)
  have hP : va_P D vwCl (w_X5_copyFrom cI cJ cZ cG a_x a_x_from a_x_to a_x_length a_x_reach a_x_lastRoad a_o1 a_o1_from a_o1_to a_o1_length a_o1_reach a_o1_lastRoad o1_size x_barred x_from x_to x_length o1_size o1_barred o1_from o1_to o1_length) H := hP
  have hD : va_D A (w_X5_copyFrom cI cJ cZ cG a_x a_x_from a_x_to a_x_length a_x_reach a_x_lastRoad a_o1 a_o1_from a_o1_to a_o1_length a_o1_reach a_o1_lastRoad o1_size x_barred x_from x_to x_length o1_size o1_barred o1_from o1_to o1_length) := hD
  refine lv_aload_n hx hb dX5_copyFrom_8 rfl (lv_at hl 0 rfl) ?_
  refine lv_aload_n hx hb dX5_copyFrom_9 rfl (lv_at hl 1 rfl) ?_
  refine va_get (D := D) (ci := 5) (v := .int o1_barred) (C := RX5) (T := TX5) (N := 7) hx hb hts in_X5_copyFrom_X5 hown hK hP 4 rfl rfl 1 (by decide) (hts _ mb_X5_copyFrom_1) (fun _ h9 => h9) rfl dX5_copyFrom_10 ?_
  refine va_put (D := D) (ci := 5) (v := .int o1_barred) (ty := .int) (C := RX5) (T := TX5) (N := 7) hx hb hts in_X5_copyFrom_X5 tyX5 tyX5_ok nmX5 hown hK hP hD hS 0 rfl rfl 1 (by decide) (hts _ mb_X5_copyFrom_1) (fun _ h9 => h9) rfl (by decide +kernel) rfl rfl (Nat.le_of_ble_eq_true rfl) dX5_copyFrom_13 (fun H locs hP hD hS => ?_)
  have hP : va_P D vwCl (w_X5_copyFrom cI cJ cZ cG a_x a_x_from a_x_to a_x_length a_x_reach a_x_lastRoad a_o1 a_o1_from a_o1_to a_o1_length a_o1_reach a_o1_lastRoad o1_size o1_barred x_from x_to x_length o1_size o1_barred o1_from o1_to o1_length) H := hP
  have hD : va_D A (w_X5_copyFrom cI cJ cZ cG a_x a_x_from a_x_to a_x_length a_x_reach a_x_lastRoad a_o1 a_o1_from a_o1_to a_o1_length a_o1_reach a_o1_lastRoad o1_size o1_barred x_from x_to x_length o1_size o1_barred o1_from o1_to o1_length) := hD
  refine lv_aload_n hx hb dX5_copyFrom_16 rfl (lv_at hl 1 rfl) ?_
  refine va_get (D := D) (ci := 5) (v := .ref a_o1_from) (C := RX5) (T := TX5) (N := 7) hx hb hts in_X5_copyFrom_X5 hown hK hP 4 rfl rfl 2 (by decide) (hts _ mb_X5_copyFrom_2) (fun _ h9 => h9) rfl dX5_copyFrom_17 ?_
  refine lv_iconst (v := 0) hx hb dX5_copyFrom_20 (by decide) ?_
  refine lv_aload_n hx hb dX5_copyFrom_21 rfl (lv_at hl 0 rfl) ?_
  refine va_get (D := D) (ci := 5) (v := .ref a_x_from) (C := RX5) (T := TX5) (N := 7) hx hb hts in_X5_copyFrom_X5 hown hK hP 0 rfl rfl 2 (by decide) (hts _ mb_X5_copyFrom_2) (fun _ h9 => h9) rfl dX5_copyFrom_22 ?_
  refine lv_iconst (v := 0) hx hb dX5_copyFrom_25 (by decide) ?_
  refine lv_bipush (v := 16) hx hb dX5_copyFrom_26 (by decide) ?_
  refine va_copyi (ty := .int) hx hb (hml.trans hl.1.symm) hown (hts _ mb_X5_copyFrom_3) (hts _ mb_X5_copyFrom_4) (hts _ mb_X5_copyFrom_5) (hts _ mb_X5_copyFrom_6) hK hP hD hS 5 1 0 0 rfl rfl rfl rfl rfl (by decide) (by decide) (by decide) (by decide) (by decide) (fun _ _ => rfl) (Nat.le_of_ble_eq_true rfl) (Nat.le_of_ble_eq_true rfl) dX5_copyFrom_28 (fun H locs hP hD hS => ?_)
  have hP : va_P D vwCl (w_X5_copyFrom cI cJ cZ cG a_x a_x_from a_x_to a_x_length a_x_reach a_x_lastRoad a_o1 a_o1_from a_o1_to a_o1_length a_o1_reach a_o1_lastRoad o1_size o1_barred (va_cpy o1_from x_from 0 0 16) x_to x_length o1_size o1_barred o1_from o1_to o1_length) H := hP
  have hD : va_D A (w_X5_copyFrom cI cJ cZ cG a_x a_x_from a_x_to a_x_length a_x_reach a_x_lastRoad a_o1 a_o1_from a_o1_to a_o1_length a_o1_reach a_o1_lastRoad o1_size o1_barred (va_cpy o1_from x_from 0 0 16) x_to x_length o1_size o1_barred o1_from o1_to o1_length) := hD
  refine lv_aload_n hx hb dX5_copyFrom_31 rfl (lv_at hl 1 rfl) ?_
  refine va_get (D := D) (ci := 5) (v := .ref a_o1_to) (C := RX5) (T := TX5) (N := 7) hx hb hts in_X5_copyFrom_X5 hown hK hP 4 rfl rfl 3 (by decide) (hts _ mb_X5_copyFrom_7) (fun _ h9 => h9) rfl dX5_copyFrom_32 ?_
  refine lv_iconst (v := 0) hx hb dX5_copyFrom_35 (by decide) ?_
  refine lv_aload_n hx hb dX5_copyFrom_36 rfl (lv_at hl 0 rfl) ?_
  refine va_get (D := D) (ci := 5) (v := .ref a_x_to) (C := RX5) (T := TX5) (N := 7) hx hb hts in_X5_copyFrom_X5 hown hK hP 0 rfl rfl 3 (by decide) (hts _ mb_X5_copyFrom_7) (fun _ h9 => h9) rfl dX5_copyFrom_37 ?_
  refine lv_iconst (v := 0) hx hb dX5_copyFrom_40 (by decide) ?_
  refine lv_bipush (v := 16) hx hb dX5_copyFrom_41 (by decide) ?_
  refine va_copyi (ty := .int) hx hb (hml.trans hl.1.symm) hown (hts _ mb_X5_copyFrom_3) (hts _ mb_X5_copyFrom_4) (hts _ mb_X5_copyFrom_5) (hts _ mb_X5_copyFrom_6) hK hP hD hS 6 2 0 0 rfl rfl rfl rfl rfl (by decide) (by decide) (by decide) (by decide) (by decide) (fun _ _ => rfl) (Nat.le_of_ble_eq_true rfl) (Nat.le_of_ble_eq_true rfl) dX5_copyFrom_43 (fun H locs hP hD hS => ?_)
  have hP : va_P D vwCl (w_X5_copyFrom cI cJ cZ cG a_x a_x_from a_x_to a_x_length a_x_reach a_x_lastRoad a_o1 a_o1_from a_o1_to a_o1_length a_o1_reach a_o1_lastRoad o1_size o1_barred (va_cpy o1_from x_from 0 0 16) (va_cpy o1_to x_to 0 0 16) x_length o1_size o1_barred o1_from o1_to o1_length) H := hP
  have hD : va_D A (w_X5_copyFrom cI cJ cZ cG a_x a_x_from a_x_to a_x_length a_x_reach a_x_lastRoad a_o1 a_o1_from a_o1_to a_o1_length a_o1_reach a_o1_lastRoad o1_size o1_barred (va_cpy o1_from x_from 0 0 16) (va_cpy o1_to x_to 0 0 16) x_length o1_size o1_barred o1_from o1_to o1_length) := hD
  refine lv_aload_n hx hb dX5_copyFrom_46 rfl (lv_at hl 1 rfl) ?_
  refine va_get (D := D) (ci := 5) (v := .ref a_o1_length) (C := RX5) (T := TX5) (N := 7) hx hb hts in_X5_copyFrom_X5 hown hK hP 4 rfl rfl 4 (by decide) (hts _ mb_X5_copyFrom_8) (fun _ h9 => h9) rfl dX5_copyFrom_47 ?_
  refine lv_iconst (v := 0) hx hb dX5_copyFrom_50 (by decide) ?_
  refine lv_aload_n hx hb dX5_copyFrom_51 rfl (lv_at hl 0 rfl) ?_
  refine va_get (D := D) (ci := 5) (v := .ref a_x_length) (C := RX5) (T := TX5) (N := 7) hx hb hts in_X5_copyFrom_X5 hown hK hP 0 rfl rfl 4 (by decide) (hts _ mb_X5_copyFrom_8) (fun _ h9 => h9) rfl dX5_copyFrom_52 ?_
  refine lv_iconst (v := 0) hx hb dX5_copyFrom_55 (by decide) ?_
  refine lv_bipush (v := 16) hx hb dX5_copyFrom_56 (by decide) ?_
  refine va_copyi (ty := .int) hx hb (hml.trans hl.1.symm) hown (hts _ mb_X5_copyFrom_3) (hts _ mb_X5_copyFrom_4) (hts _ mb_X5_copyFrom_5) (hts _ mb_X5_copyFrom_6) hK hP hD hS 7 3 0 0 rfl rfl rfl rfl rfl (by decide) (by decide) (by decide) (by decide) (by decide) (fun _ _ => rfl) (Nat.le_of_ble_eq_true rfl) (Nat.le_of_ble_eq_true rfl) dX5_copyFrom_58 (fun H locs hP hD hS => ?_)
  have hP : va_P D vwCl (w_X5_copyFrom cI cJ cZ cG a_x a_x_from a_x_to a_x_length a_x_reach a_x_lastRoad a_o1 a_o1_from a_o1_to a_o1_length a_o1_reach a_o1_lastRoad o1_size o1_barred (va_cpy o1_from x_from 0 0 16) (va_cpy o1_to x_to 0 0 16) (va_cpy o1_length x_length 0 0 16) o1_size o1_barred o1_from o1_to o1_length) H := hP
  have hD : va_D A (w_X5_copyFrom cI cJ cZ cG a_x a_x_from a_x_to a_x_length a_x_reach a_x_lastRoad a_o1 a_o1_from a_o1_to a_o1_length a_o1_reach a_o1_lastRoad o1_size o1_barred (va_cpy o1_from x_from 0 0 16) (va_cpy o1_to x_to 0 0 16) (va_cpy o1_length x_length 0 0 16) o1_size o1_barred o1_from o1_to o1_length) := hD
  obtain rfl := h
  exact g_vret C hP hD hS dX5_copyFrom_61
theorem in_X8_copyFrom_X8 : ∀ w ∈ wsX80, w ∈ wsX8_copyFrom := by decide +kernel
theorem mb_X8_copyFrom_0 : Cond.fieldLink RX8 40 "GuardDesk$Targets" "size" "I" ∈ wsX8_copyFrom := List.mem_of_getElem? (i := 1) rfl
theorem mb_X8_copyFrom_1 : Cond.fieldLink RX8 9 "GuardDesk$Targets" "guards" "I" ∈ wsX8_copyFrom := List.mem_of_getElem? (i := 2) rfl
theorem mb_X8_copyFrom_2 : Cond.fieldLink RX8 15 "GuardDesk$Targets" "kind" "[I" ∈ wsX8_copyFrom := List.mem_of_getElem? (i := 3) rfl
theorem mb_X8_copyFrom_3 : Cond.methodLink RX8 47 arraycopyName ∈ wsX8_copyFrom := List.mem_of_getElem? (i := 4) rfl
theorem mb_X8_copyFrom_4 : Cond.native arraycopyName ∈ wsX8_copyFrom := List.mem_of_getElem? (i := 5) rfl
theorem mb_X8_copyFrom_5 : Cond.static arraycopyName ∈ wsX8_copyFrom := List.mem_of_getElem? (i := 6) rfl
theorem mb_X8_copyFrom_6 : Cond.initialized "java/lang/System" ∈ wsX8_copyFrom := List.mem_of_getElem? (i := 7) rfl
theorem mb_X8_copyFrom_7 : Cond.fieldLink RX8 19 "GuardDesk$Targets" "saved" "[I" ∈ wsX8_copyFrom := List.mem_of_getElem? (i := 8) rfl
theorem mb_X8_copyFrom_8 : Cond.fieldLink RX8 22 "GuardDesk$Targets" "lost" "[I" ∈ wsX8_copyFrom := List.mem_of_getElem? (i := 9) rfl
theorem mb_X8_copyFrom_9 : Cond.fieldLink RX8 25 "GuardDesk$Targets" "gain" "[I" ∈ wsX8_copyFrom := List.mem_of_getElem? (i := 10) rfl
theorem mb_X8_copyFrom_10 : Cond.fieldLink RX8 28 "GuardDesk$Targets" "gap" "[I" ∈ wsX8_copyFrom := List.mem_of_getElem? (i := 11) rfl
theorem mb_X8_copyFrom_11 : Cond.fieldLink RX8 31 "GuardDesk$Targets" "least" "[I" ∈ wsX8_copyFrom := List.mem_of_getElem? (i := 12) rfl
theorem mb_X8_copyFrom_12 : Cond.fieldLink RX8 34 "GuardDesk$Targets" "most" "[I" ∈ wsX8_copyFrom := List.mem_of_getElem? (i := 13) rfl
theorem mb_X8_copyFrom_13 : Cond.fieldLink RX8 37 "GuardDesk$Targets" "hand" "[I" ∈ wsX8_copyFrom := List.mem_of_getElem? (i := 14) rfl
set_option maxRecDepth 100000 in
set_option maxHeartbeats 4000000 in
theorem c_X8_copyFrom (l : Launch) (D : va_G) (cI cJ cZ cG : ClassId) (a_x a_x_kind a_x_saved a_x_lost a_x_gain a_x_gap a_x_least a_x_most a_x_hand a_o1 a_o1_kind a_o1_saved a_o1_lost a_o1_gain a_o1_gap a_o1_least a_o1_most a_o1_hand : Nat) (x_size : Int32) (x_guards : Int32) (x_kind : (Nat → Int32)) (x_saved : (Nat → Int32)) (x_lost : (Nat → Int32)) (x_gain : (Nat → Int32)) (x_gap : (Nat → Int32)) (x_least : (Nat → Int32)) (x_most : (Nat → Int32)) (x_hand : (Nat → Int32)) (o1_size : Int32) (o1_guards : Int32) (o1_kind : (Nat → Int32)) (o1_saved : (Nat → Int32)) (o1_lost : (Nat → Int32)) (o1_gain : (Nat → Int32)) (o1_gap : (Nat → Int32)) (o1_least : (Nat → Int32)) (o1_most : (Nat → Int32)) (o1_hand : (Nat → Int32)) (q : Int32 × Int32 × (Nat → Int32) × (Nat → Int32) × (Nat → Int32) × (Nat → Int32) × (Nat → Int32) × (Nat → Int32) × (Nat → Int32) × (Nat → Int32)) (h : f_X8_copyFrom x_size x_guards x_kind x_saved x_lost x_gain x_gap x_least x_most x_hand o1_size o1_guards o1_kind o1_saved o1_lost o1_gain o1_gap o1_least o1_most o1_hand = q) : gMet l yX8_copyFrom wsX8_copyFrom rm_X8_copyFrom [.ref a_x, .ref a_o1] (w_X8_copyFrom cI cJ cZ cG a_x a_x_kind a_x_saved a_x_lost a_x_gain a_x_gap a_x_least a_x_most a_x_hand a_o1 a_o1_kind a_o1_saved a_o1_lost a_o1_gain a_o1_gap a_o1_least a_o1_most a_o1_hand x_size x_guards x_kind x_saved x_lost x_gain x_gap x_least x_most x_hand o1_size o1_guards o1_kind o1_saved o1_lost o1_gain o1_gap o1_least o1_most o1_hand) (w_X8_copyFrom cI cJ cZ cG a_x a_x_kind a_x_saved a_x_lost a_x_gain a_x_gap a_x_least a_x_most a_x_hand a_o1 a_o1_kind a_o1_saved a_o1_lost a_o1_gain a_o1_gap a_o1_least a_o1_most a_o1_hand q.1 q.2.1 q.2.2.1 q.2.2.2.1 q.2.2.2.2.1 q.2.2.2.2.2.1 q.2.2.2.2.2.2.1 q.2.2.2.2.2.2.2.1 q.2.2.2.2.2.2.2.2.1 q.2.2.2.2.2.2.2.2.2 o1_size o1_guards o1_kind o1_saved o1_lost o1_gain o1_gap o1_least o1_most o1_hand) none D cI cJ cZ cG := by
  refine g_enter (cc := cX8_copyFrom) (nL := 2) (ret := none) (by decide) rfl (Nat.le_of_ble_eq_true rfl) ?_
  intro p e s m below meth c A C H locs ls hP hD hS hl
  obtain ⟨hx, hb, hr, hml, hown, hts, hlk, hgk, hA⟩ := id C
  have hK := hgk.1
  have hl : lv_has ls 2 [(0, .ref a_x), (1, .ref a_o1)] := hl
  unfold f_X8_copyFrom at h
  refine lv_aload_n hx hb dX8_copyFrom_0 rfl (lv_at hl 0 rfl) ?_
  refine lv_aload_n hx hb dX8_copyFrom_1 rfl (lv_at hl 1 rfl) ?_
  refine va_get (D := D) (ci := 8) (v := .int o1_size) (C := RX8) (T := TX8) (N := 10) hx hb hts in_X8_copyFrom_X8 hown hK hP 9 rfl rfl 0 (by decide) (hts _ mb_X8_copyFrom_0) (fun _ h9 => h9) rfl dX8_copyFrom_2 ?_
  refine va_put (D := D) (ci := 8) (v := .int o1_size) (ty := .int) (C := RX8) (T := TX8) (N := 10) hx hb hts in_X8_copyFrom_X8 tyX8 tyX8_ok nmX8 hown hK hP hD hS 0 rfl rfl 0 (by decide) (hts _ mb_X8_copyFrom_0) (fun _ h9 => h9) rfl (by decide +kernel) rfl rfl (Nat.le_of_ble_eq_true rfl) dX8_copyFrom_5 (fun H locs hP hD hS => ?_)
  have hP : va_P D vwCl (w_X8_copyFrom cI cJ cZ cG a_x a_x_kind a_x_saved a_x_lost a_x_gain a_x_gap a_x_least a_x_most a_x_hand a_o1 a_o1_kind a_o1_saved a_o1_lost a_o1_gain a_o1_gap a_o1_least a_o1_most a_o1_hand o1_size x_guards x_kind x_saved x_lost x_gain x_gap x_least x_most x_hand o1_size o1_guards o1_kind o1_saved o1_lost o1_gain o1_gap o1_least o1_most o1_hand) H := hP
  have hD : va_D A (w_X8_copyFrom cI cJ cZ cG a_x a_x_kind a_x_saved a_x_lost a_x_gain a_x_gap a_x_least a_x_most a_x_hand a_o1 a_o1_kind a_o1_saved a_o1_lost a_o1_gain a_o1_gap a_o1_least a_o1_most a_o1_hand o1_size x_guards x_kind x_saved x_lost x_gain x_gap x_least x_most x_hand o1_size o1_guards o1_kind o1_saved o1_lost o1_gain o1_gap o1_least o1_most o1_hand) := hD
  refine lv_aload_n hx hb dX8_copyFrom_8 rfl (lv_at hl 0 rfl) ?_
  refine lv_aload_n hx hb dX8_copyFrom_9 rfl (lv_at hl 1 rfl) ?_
  refine va_get (D := D) (ci := 8) (v := .int o1_guards) (C := RX8) (T := TX8) (N := 10) hx hb hts in_X8_copyFrom_X8 hown hK hP 9 rfl rfl 1 (by decide) (hts _ mb_X8_copyFrom_1) (fun _ h9 => h9) rfl dX8_copyFrom_10 ?_
  refine va_put (D := D) (ci := 8) (v := .int o1_guards) (ty := .int) (C := RX8) (T := TX8) (N := 10) hx hb hts in_X8_copyFrom_X8 tyX8 tyX8_ok nmX8 hown hK hP hD hS 0 rfl rfl 1 (by decide) (hts _ mb_X8_copyFrom_1) (fun _ h9 => h9) rfl (by decide +kernel) rfl rfl (Nat.le_of_ble_eq_true rfl) dX8_copyFrom_13 (fun H locs hP hD hS => ?_)
  have hP : va_P D vwCl (w_X8_copyFrom cI cJ cZ cG a_x a_x_kind a_x_saved a_x_lost a_x_gain a_x_gap a_x_least a_x_most a_x_hand a_o1 a_o1_kind a_o1_saved a_o1_lost a_o1_gain a_o1_gap a_o1_least a_o1_most a_o1_hand o1_size o1_guards x_kind x_saved x_lost x_gain x_gap x_least x_most x_hand o1_size o1_guards o1_kind o1_saved o1_lost o1_gain o1_gap o1_least o1_most o1_hand) H := hP
  have hD : va_D A (w_X8_copyFrom cI cJ cZ cG a_x a_x_kind a_x_saved a_x_lost a_x_gain a_x_gap a_x_least a_x_most a_x_hand a_o1 a_o1_kind a_o1_saved a_o1_lost a_o1_gain a_o1_gap a_o1_least a_o1_most a_o1_hand o1_size o1_guards x_kind x_saved x_lost x_gain x_gap x_least x_most x_hand o1_size o1_guards o1_kind o1_saved o1_lost o1_gain o1_gap o1_least o1_most o1_hand) := hD
  refine lv_aload_n hx hb dX8_copyFrom_16 rfl (lv_at hl 1 rfl) ?_
  refine va_get (D := D) (ci := 8) (v := .ref a_o1_kind) (C := RX8) (T := TX8) (N := 10) hx hb hts in_X8_copyFrom_X8 hown hK hP 9 rfl rfl 2 (by decide) (hts _ mb_X8_copyFrom_2) (fun _ h9 => h9) rfl dX8_copyFrom_17 ?_
  refine lv_iconst (v := 0) hx hb dX8_copyFrom_20 (by decide) ?_
  refine lv_aload_n hx hb dX8_copyFrom_21 rfl (lv_at hl 0 rfl) ?_
  refine va_get (D := D) (ci := 8) (v := .ref a_x_kind) (C := RX8) (T := TX8) (N := 10) hx hb hts in_X8_copyFrom_X8 hown hK hP 0 rfl rfl 2 (by decide) (hts _ mb_X8_copyFrom_2) (fun _ h9 => h9) rfl dX8_copyFrom_22 ?_
  refine lv_iconst (v := 0) hx hb dX8_copyFrom_25 (by decide) ?_
  refine lv_bipush (v := 10) hx hb dX8_copyFrom_26 (by decide) ?_
  refine va_copyi (ty := .int) hx hb (hml.trans hl.1.symm) hown (hts _ mb_X8_copyFrom_3) (hts _ mb_X8_copyFrom_4) (hts _ mb_X8_copyFrom_5) (hts _ mb_X8_copyFrom_6) hK hP hD hS 10 1 0 0 rfl rfl rfl rfl rfl (by decide) (by decide) (by decide) (by decide) (by decide) (fun _ _ => rfl) (Nat.le_of_ble_eq_true rfl) (Nat.le_of_ble_eq_true rfl) dX8_copyFrom_28 (fun H locs hP hD hS => ?_)
  have hP : va_P D vwCl (w_X8_copyFrom cI cJ cZ cG a_x a_x_kind a_x_saved a_x_lost a_x_gain a_x_gap a_x_least a_x_most a_x_hand a_o1 a_o1_kind a_o1_saved a_o1_lost a_o1_gain a_o1_gap a_o1_least a_o1_most a_o1_hand o1_size o1_guards (va_cpy o1_kind x_kind 0 0 10) x_saved x_lost x_gain x_gap x_least x_most x_hand o1_size o1_guards o1_kind o1_saved o1_lost o1_gain o1_gap o1_least o1_most o1_hand) H := hP
  have hD : va_D A (w_X8_copyFrom cI cJ cZ cG a_x a_x_kind a_x_saved a_x_lost a_x_gain a_x_gap a_x_least a_x_most a_x_hand a_o1 a_o1_kind a_o1_saved a_o1_lost a_o1_gain a_o1_gap a_o1_least a_o1_most a_o1_hand o1_size o1_guards (va_cpy o1_kind x_kind 0 0 10) x_saved x_lost x_gain x_gap x_least x_most x_hand o1_size o1_guards o1_kind o1_saved o1_lost o1_gain o1_gap o1_least o1_most o1_hand) := hD
  refine lv_aload_n hx hb dX8_copyFrom_31 rfl (lv_at hl 1 rfl) ?_
  refine va_get (D := D) (ci := 8) (v := .ref a_o1_saved) (C := RX8) (T := TX8) (N := 10) hx hb hts in_X8_copyFrom_X8 hown hK hP 9 rfl rfl 3 (by decide) (hts _ mb_X8_copyFrom_7) (fun _ h9 => h9) rfl dX8_copyFrom_32 ?_
  refine lv_iconst (v := 0) hx hb dX8_copyFrom_35 (by decide) ?_
  refine lv_aload_n hx hb dX8_copyFrom_36 rfl (lv_at hl 0 rfl) ?_
  refine va_get (D := D) (ci := 8) (v := .ref a_x_saved) (C := RX8) (T := TX8) (N := 10) hx hb hts in_X8_copyFrom_X8 hown hK hP 0 rfl rfl 3 (by decide) (hts _ mb_X8_copyFrom_7) (fun _ h9 => h9) rfl dX8_copyFrom_37 ?_
  refine lv_iconst (v := 0) hx hb dX8_copyFrom_40 (by decide) ?_
  refine lv_bipush (v := 10) hx hb dX8_copyFrom_41 (by decide) ?_
  refine va_copyi (ty := .int) hx hb (hml.trans hl.1.symm) hown (hts _ mb_X8_copyFrom_3) (hts _ mb_X8_copyFrom_4) (hts _ mb_X8_copyFrom_5) (hts _ mb_X8_copyFrom_6) hK hP hD hS 11 2 0 0 rfl rfl rfl rfl rfl (by decide) (by decide) (by decide) (by decide) (by decide) (fun _ _ => rfl) (Nat.le_of_ble_eq_true rfl) (Nat.le_of_ble_eq_true rfl) dX8_copyFrom_43 (fun H locs hP hD hS => ?_)
  have hP : va_P D vwCl (w_X8_copyFrom cI cJ cZ cG a_x a_x_kind a_x_saved a_x_lost a_x_gain a_x_gap a_x_least a_x_most a_x_hand a_o1 a_o1_kind a_o1_saved a_o1_lost a_o1_gain a_o1_gap a_o1_least a_o1_most a_o1_hand o1_size o1_guards (va_cpy o1_kind x_kind 0 0 10) (va_cpy o1_saved x_saved 0 0 10) x_lost x_gain x_gap x_least x_most x_hand o1_size o1_guards o1_kind o1_saved o1_lost o1_gain o1_gap o1_least o1_most o1_hand) H := hP
  have hD : va_D A (w_X8_copyFrom cI cJ cZ cG a_x a_x_kind a_x_saved a_x_lost a_x_gain a_x_gap a_x_least a_x_most a_x_hand a_o1 a_o1_kind a_o1_saved a_o1_lost a_o1_gain a_o1_gap a_o1_least a_o1_most a_o1_hand o1_size o1_guards (va_cpy o1_kind x_kind 0 0 10) (va_cpy o1_saved x_saved 0 0 10) x_lost x_gain x_gap x_least x_most x_hand o1_size o1_guards o1_kind o1_saved o1_lost o1_gain o1_gap o1_least o1_most o1_hand) := hD
  refine lv_aload_n hx hb dX8_copyFrom_46 rfl (lv_at hl 1 rfl) ?_
  refine va_get (D := D) (ci := 8) (v := .ref a_o1_lost) (C := RX8) (T := TX8) (N := 10) hx hb hts in_X8_copyFrom_X8 hown hK hP 9 rfl rfl 4 (by decide) (hts _ mb_X8_copyFrom_8) (fun _ h9 => h9) rfl dX8_copyFrom_47 ?_
  refine lv_iconst (v := 0) hx hb dX8_copyFrom_50 (by decide) ?_
  refine lv_aload_n hx hb dX8_copyFrom_51 rfl (lv_at hl 0 rfl) ?_
  refine va_get (D := D) (ci := 8) (v := .ref a_x_lost) (C := RX8) (T := TX8) (N := 10) hx hb hts in_X8_copyFrom_X8 hown hK hP 0 rfl rfl 4 (by decide) (hts _ mb_X8_copyFrom_8) (fun _ h9 => h9) rfl dX8_copyFrom_52 ?_
  refine lv_iconst (v := 0) hx hb dX8_copyFrom_55 (by decide) ?_
  refine lv_bipush (v := 10) hx hb dX8_copyFrom_56 (by decide) ?_
  refine va_copyi (ty := .int) hx hb (hml.trans hl.1.symm) hown (hts _ mb_X8_copyFrom_3) (hts _ mb_X8_copyFrom_4) (hts _ mb_X8_copyFrom_5) (hts _ mb_X8_copyFrom_6) hK hP hD hS 12 3 0 0 rfl rfl rfl rfl rfl (by decide) (by decide) (by decide) (by decide) (by decide) (fun _ _ => rfl) (Nat.le_of_ble_eq_true rfl) (Nat.le_of_ble_eq_true rfl) dX8_copyFrom_58 (fun H locs hP hD hS => ?_)
  have hP : va_P D vwCl (w_X8_copyFrom cI cJ cZ cG a_x a_x_kind a_x_saved a_x_lost a_x_gain a_x_gap a_x_least a_x_most a_x_hand a_o1 a_o1_kind a_o1_saved a_o1_lost a_o1_gain a_o1_gap a_o1_least a_o1_most a_o1_hand o1_size o1_guards (va_cpy o1_kind x_kind 0 0 10) (va_cpy o1_saved x_saved 0 0 10) (va_cpy o1_lost x_lost 0 0 10) x_gain x_gap x_least x_most x_hand o1_size o1_guards o1_kind o1_saved o1_lost o1_gain o1_gap o1_least o1_most o1_hand) H := hP
  have hD : va_D A (w_X8_copyFrom cI cJ cZ cG a_x a_x_kind a_x_saved a_x_lost a_x_gain a_x_gap a_x_least a_x_most a_x_hand a_o1 a_o1_kind a_o1_saved a_o1_lost a_o1_gain a_o1_gap a_o1_least a_o1_most a_o1_hand o1_size o1_guards (va_cpy o1_kind x_kind 0 0 10) (va_cpy o1_saved x_saved 0 0 10) (va_cpy o1_lost x_lost 0 0 10) x_gain x_gap x_least x_most x_hand o1_size o1_guards o1_kind o1_saved o1_lost o1_gain o1_gap o1_least o1_most o1_hand) := hD
  refine lv_aload_n hx hb dX8_copyFrom_61 rfl (lv_at hl 1 rfl) ?_
  refine va_get (D := D) (ci := 8) (v := .ref a_o1_gain) (C := RX8) (T := TX8) (N := 10) hx hb hts in_X8_copyFrom_X8 hown hK hP 9 rfl rfl 5 (by decide) (hts _ mb_X8_copyFrom_9) (fun _ h9 => h9) rfl dX8_copyFrom_62 ?_
  refine lv_iconst (v := 0) hx hb dX8_copyFrom_65 (by decide) ?_
  refine lv_aload_n hx hb dX8_copyFrom_66 rfl (lv_at hl 0 rfl) ?_
  refine va_get (D := D) (ci := 8) (v := .ref a_x_gain) (C := RX8) (T := TX8) (N := 10) hx hb hts in_X8_copyFrom_X8 hown hK hP 0 rfl rfl 5 (by decide) (hts _ mb_X8_copyFrom_9) (fun _ h9 => h9) rfl dX8_copyFrom_67 ?_
  refine lv_iconst (v := 0) hx hb dX8_copyFrom_70 (by decide) ?_
  refine lv_bipush (v := 10) hx hb dX8_copyFrom_71 (by decide) ?_
  refine va_copyi (ty := .int) hx hb (hml.trans hl.1.symm) hown (hts _ mb_X8_copyFrom_3) (hts _ mb_X8_copyFrom_4) (hts _ mb_X8_copyFrom_5) (hts _ mb_X8_copyFrom_6) hK hP hD hS 13 4 0 0 rfl rfl rfl rfl rfl (by decide) (by decide) (by decide) (by decide) (by decide) (fun _ _ => rfl) (Nat.le_of_ble_eq_true rfl) (Nat.le_of_ble_eq_true rfl) dX8_copyFrom_73 (fun H locs hP hD hS => ?_)
  have hP : va_P D vwCl (w_X8_copyFrom cI cJ cZ cG a_x a_x_kind a_x_saved a_x_lost a_x_gain a_x_gap a_x_least a_x_most a_x_hand a_o1 a_o1_kind a_o1_saved a_o1_lost a_o1_gain a_o1_gap a_o1_least a_o1_most a_o1_hand o1_size o1_guards (va_cpy o1_kind x_kind 0 0 10) (va_cpy o1_saved x_saved 0 0 10) (va_cpy o1_lost x_lost 0 0 10) (va_cpy o1_gain x_gain 0 0 10) x_gap x_least x_most x_hand o1_size o1_guards o1_kind o1_saved o1_lost o1_gain o1_gap o1_least o1_most o1_hand) H := hP
  have hD : va_D A (w_X8_copyFrom cI cJ cZ cG a_x a_x_kind a_x_saved a_x_lost a_x_gain a_x_gap a_x_least a_x_most a_x_hand a_o1 a_o1_kind a_o1_saved a_o1_lost a_o1_gain a_o1_gap a_o1_least a_o1_most a_o1_hand o1_size o1_guards (va_cpy o1_kind x_kind 0 0 10) (va_cpy o1_saved x_saved 0 0 10) (va_cpy o1_lost x_lost 0 0 10) (va_cpy o1_gain x_gain 0 0 10) x_gap x_least x_most x_hand o1_size o1_guards o1_kind o1_saved o1_lost o1_gain o1_gap o1_least o1_most o1_hand) := hD
  refine lv_aload_n hx hb dX8_copyFrom_76 rfl (lv_at hl 1 rfl) ?_
  refine va_get (D := D) (ci := 8) (v := .ref a_o1_gap) (C := RX8) (T := TX8) (N := 10) hx hb hts in_X8_copyFrom_X8 hown hK hP 9 rfl rfl 6 (by decide) (hts _ mb_X8_copyFrom_10) (fun _ h9 => h9) rfl dX8_copyFrom_77 ?_
  refine lv_iconst (v := 0) hx hb dX8_copyFrom_80 (by decide) ?_
  refine lv_aload_n hx hb dX8_copyFrom_81 rfl (lv_at hl 0 rfl) ?_
  refine va_get (D := D) (ci := 8) (v := .ref a_x_gap) (C := RX8) (T := TX8) (N := 10) hx hb hts in_X8_copyFrom_X8 hown hK hP 0 rfl rfl 6 (by decide) (hts _ mb_X8_copyFrom_10) (fun _ h9 => h9) rfl dX8_copyFrom_82 ?_
  refine lv_iconst (v := 0) hx hb dX8_copyFrom_85 (by decide) ?_
  refine lv_bipush (v := 10) hx hb dX8_copyFrom_86 (by decide) ?_
  refine va_copyi (ty := .int) hx hb (hml.trans hl.1.symm) hown (hts _ mb_X8_copyFrom_3) (hts _ mb_X8_copyFrom_4) (hts _ mb_X8_copyFrom_5) (hts _ mb_X8_copyFrom_6) hK hP hD hS 14 5 0 0 rfl rfl rfl rfl rfl (by decide) (by decide) (by decide) (by decide) (by decide) (fun _ _ => rfl) (Nat.le_of_ble_eq_true rfl) (Nat.le_of_ble_eq_true rfl) dX8_copyFrom_88 (fun H locs hP hD hS => ?_)
  have hP : va_P D vwCl (w_X8_copyFrom cI cJ cZ cG a_x a_x_kind a_x_saved a_x_lost a_x_gain a_x_gap a_x_least a_x_most a_x_hand a_o1 a_o1_kind a_o1_saved a_o1_lost a_o1_gain a_o1_gap a_o1_least a_o1_most a_o1_hand o1_size o1_guards (va_cpy o1_kind x_kind 0 0 10) (va_cpy o1_saved x_saved 0 0 10) (va_cpy o1_lost x_lost 0 0 10) (va_cpy o1_gain x_gain 0 0 10) (va_cpy o1_gap x_gap 0 0 10) x_least x_most x_hand o1_size o1_guards o1_kind o1_saved o1_lost o1_gain o1_gap o1_least o1_most o1_hand) H := hP
  have hD : va_D A (w_X8_copyFrom cI cJ cZ cG a_x a_x_kind a_x_saved a_x_lost a_x_gain a_x_gap a_x_least a_x_most a_x_hand a_o1 a_o1_kind a_o1_saved a_o1_lost a_o1_gain a_o1_gap a_o1_least a_o1_most a_o1_hand o1_size o1_guards (va_cpy o1_kind x_kind 0 0 10) (va_cpy o1_saved x_saved 0 0 10) (va_cpy o1_lost x_lost 0 0 10) (va_cpy o1_gain x_gain 0 0 10) (va_cpy o1_gap x_gap 0 0 10) x_least x_most x_hand o1_size o1_guards o1_kind o1_saved o1_lost o1_gain o1_gap o1_least o1_most o1_hand) := hD
  refine lv_aload_n hx hb dX8_copyFrom_91 rfl (lv_at hl 1 rfl) ?_
  refine va_get (D := D) (ci := 8) (v := .ref a_o1_least) (C := RX8) (T := TX8) (N := 10) hx hb hts in_X8_copyFrom_X8 hown hK hP 9 rfl rfl 7 (by decide) (hts _ mb_X8_copyFrom_11) (fun _ h9 => h9) rfl dX8_copyFrom_92 ?_
  refine lv_iconst (v := 0) hx hb dX8_copyFrom_95 (by decide) ?_
  refine lv_aload_n hx hb dX8_copyFrom_96 rfl (lv_at hl 0 rfl) ?_
  refine va_get (D := D) (ci := 8) (v := .ref a_x_least) (C := RX8) (T := TX8) (N := 10) hx hb hts in_X8_copyFrom_X8 hown hK hP 0 rfl rfl 7 (by decide) (hts _ mb_X8_copyFrom_11) (fun _ h9 => h9) rfl dX8_copyFrom_97 ?_
  refine lv_iconst (v := 0) hx hb dX8_copyFrom_100 (by decide) ?_
  refine lv_bipush (v := 10) hx hb dX8_copyFrom_101 (by decide) ?_
  refine va_copyi (ty := .int) hx hb (hml.trans hl.1.symm) hown (hts _ mb_X8_copyFrom_3) (hts _ mb_X8_copyFrom_4) (hts _ mb_X8_copyFrom_5) (hts _ mb_X8_copyFrom_6) hK hP hD hS 15 6 0 0 rfl rfl rfl rfl rfl (by decide) (by decide) (by decide) (by decide) (by decide) (fun _ _ => rfl) (Nat.le_of_ble_eq_true rfl) (Nat.le_of_ble_eq_true rfl) dX8_copyFrom_103 (fun H locs hP hD hS => ?_)
  have hP : va_P D vwCl (w_X8_copyFrom cI cJ cZ cG a_x a_x_kind a_x_saved a_x_lost a_x_gain a_x_gap a_x_least a_x_most a_x_hand a_o1 a_o1_kind a_o1_saved a_o1_lost a_o1_gain a_o1_gap a_o1_least a_o1_most a_o1_hand o1_size o1_guards (va_cpy o1_kind x_kind 0 0 10) (va_cpy o1_saved x_saved 0 0 10) (va_cpy o1_lost x_lost 0 0 10) (va_cpy o1_gain x_gain 0 0 10) (va_cpy o1_gap x_gap 0 0 10) (va_cpy o1_least x_least 0 0 10) x_most x_hand o1_size o1_guards o1_kind o1_saved o1_lost o1_gain o1_gap o1_least o1_most o1_hand) H := hP
  have hD : va_D A (w_X8_copyFrom cI cJ cZ cG a_x a_x_kind a_x_saved a_x_lost a_x_gain a_x_gap a_x_least a_x_most a_x_hand a_o1 a_o1_kind a_o1_saved a_o1_lost a_o1_gain a_o1_gap a_o1_least a_o1_most a_o1_hand o1_size o1_guards (va_cpy o1_kind x_kind 0 0 10) (va_cpy o1_saved x_saved 0 0 10) (va_cpy o1_lost x_lost 0 0 10) (va_cpy o1_gain x_gain 0 0 10) (va_cpy o1_gap x_gap 0 0 10) (va_cpy o1_least x_least 0 0 10) x_most x_hand o1_size o1_guards o1_kind o1_saved o1_lost o1_gain o1_gap o1_least o1_most o1_hand) := hD
  refine lv_aload_n hx hb dX8_copyFrom_106 rfl (lv_at hl 1 rfl) ?_
  refine va_get (D := D) (ci := 8) (v := .ref a_o1_most) (C := RX8) (T := TX8) (N := 10) hx hb hts in_X8_copyFrom_X8 hown hK hP 9 rfl rfl 8 (by decide) (hts _ mb_X8_copyFrom_12) (fun _ h9 => h9) rfl dX8_copyFrom_107 ?_
  refine lv_iconst (v := 0) hx hb dX8_copyFrom_110 (by decide) ?_
  refine lv_aload_n hx hb dX8_copyFrom_111 rfl (lv_at hl 0 rfl) ?_
  refine va_get (D := D) (ci := 8) (v := .ref a_x_most) (C := RX8) (T := TX8) (N := 10) hx hb hts in_X8_copyFrom_X8 hown hK hP 0 rfl rfl 8 (by decide) (hts _ mb_X8_copyFrom_12) (fun _ h9 => h9) rfl dX8_copyFrom_112 ?_
  refine lv_iconst (v := 0) hx hb dX8_copyFrom_115 (by decide) ?_
  refine lv_bipush (v := 10) hx hb dX8_copyFrom_116 (by decide) ?_
  refine va_copyi (ty := .int) hx hb (hml.trans hl.1.symm) hown (hts _ mb_X8_copyFrom_3) (hts _ mb_X8_copyFrom_4) (hts _ mb_X8_copyFrom_5) (hts _ mb_X8_copyFrom_6) hK hP hD hS 16 7 0 0 rfl rfl rfl rfl rfl (by decide) (by decide) (by decide) (by decide) (by decide) (fun _ _ => rfl) (Nat.le_of_ble_eq_true rfl) (Nat.le_of_ble_eq_true rfl) dX8_copyFrom_118 (fun H locs hP hD hS => ?_)
  have hP : va_P D vwCl (w_X8_copyFrom cI cJ cZ cG a_x a_x_kind a_x_saved a_x_lost a_x_gain a_x_gap a_x_least a_x_most a_x_hand a_o1 a_o1_kind a_o1_saved a_o1_lost a_o1_gain a_o1_gap a_o1_least a_o1_most a_o1_hand o1_size o1_guards (va_cpy o1_kind x_kind 0 0 10) (va_cpy o1_saved x_saved 0 0 10) (va_cpy o1_lost x_lost 0 0 10) (va_cpy o1_gain x_gain 0 0 10) (va_cpy o1_gap x_gap 0 0 10) (va_cpy o1_least x_least 0 0 10) (va_cpy o1_most x_most 0 0 10) x_hand o1_size o1_guards o1_kind o1_saved o1_lost o1_gain o1_gap o1_least o1_most o1_hand) H := hP
  have hD : va_D A (w_X8_copyFrom cI cJ cZ cG a_x a_x_kind a_x_saved a_x_lost a_x_gain a_x_gap a_x_least a_x_most a_x_hand a_o1 a_o1_kind a_o1_saved a_o1_lost a_o1_gain a_o1_gap a_o1_least a_o1_most a_o1_hand o1_size o1_guards (va_cpy o1_kind x_kind 0 0 10) (va_cpy o1_saved x_saved 0 0 10) (va_cpy o1_lost x_lost 0 0 10) (va_cpy o1_gain x_gain 0 0 10) (va_cpy o1_gap x_gap 0 0 10) (va_cpy o1_least x_least 0 0 10) (va_cpy o1_most x_most 0 0 10) x_hand o1_size o1_guards o1_kind o1_saved o1_lost o1_gain o1_gap o1_least o1_most o1_hand) := hD
  refine lv_aload_n hx hb dX8_copyFrom_121 rfl (lv_at hl 1 rfl) ?_
  refine va_get (D := D) (ci := 8) (v := .ref a_o1_hand) (C := RX8) (T := TX8) (N := 10) hx hb hts in_X8_copyFrom_X8 hown hK hP 9 rfl rfl 9 (by decide) (hts _ mb_X8_copyFrom_13) (fun _ h9 => h9) rfl dX8_copyFrom_122 ?_
  refine lv_iconst (v := 0) hx hb dX8_copyFrom_125 (by decide) ?_
  refine lv_aload_n hx hb dX8_copyFrom_126 rfl (lv_at hl 0 rfl) ?_
  refine va_get (D := D) (ci := 8) (v := .ref a_x_hand) (C := RX8) (T := TX8) (N := 10) hx hb hts in_X8_copyFrom_X8 hown hK hP 0 rfl rfl 9 (by decide) (hts _ mb_X8_copyFrom_13) (fun _ h9 => h9) rfl dX8_copyFrom_127 ?_
  refine lv_iconst (v := 0) hx hb dX8_copyFrom_130 (by decide) ?_
  refine lv_bipush (v := 10) hx hb dX8_copyFrom_131 (by decide) ?_
  refine va_copyi (ty := .int) hx hb (hml.trans hl.1.symm) hown (hts _ mb_X8_copyFrom_3) (hts _ mb_X8_copyFrom_4) (hts _ mb_X8_copyFrom_5) (hts _ mb_X8_copyFrom_6) hK hP hD hS 17 8 0 0 rfl rfl rfl rfl rfl (by decide) (by decide) (by decide) (by decide) (by decide) (fun _ _ => rfl) (Nat.le_of_ble_eq_true rfl) (Nat.le_of_ble_eq_true rfl) dX8_copyFrom_133 (fun H locs hP hD hS => ?_)
  have hP : va_P D vwCl (w_X8_copyFrom cI cJ cZ cG a_x a_x_kind a_x_saved a_x_lost a_x_gain a_x_gap a_x_least a_x_most a_x_hand a_o1 a_o1_kind a_o1_saved a_o1_lost a_o1_gain a_o1_gap a_o1_least a_o1_most a_o1_hand o1_size o1_guards (va_cpy o1_kind x_kind 0 0 10) (va_cpy o1_saved x_saved 0 0 10) (va_cpy o1_lost x_lost 0 0 10) (va_cpy o1_gain x_gain 0 0 10) (va_cpy o1_gap x_gap 0 0 10) (va_cpy o1_least x_least 0 0 10) (va_cpy o1_most x_most 0 0 10) (va_cpy o1_hand x_hand 0 0 10) o1_size o1_guards o1_kind o1_saved o1_lost o1_gain o1_gap o1_least o1_most o1_hand) H := hP
  have hD : va_D A (w_X8_copyFrom cI cJ cZ cG a_x a_x_kind a_x_saved a_x_lost a_x_gain a_x_gap a_x_least a_x_most a_x_hand a_o1 a_o1_kind a_o1_saved a_o1_lost a_o1_gain a_o1_gap a_o1_least a_o1_most a_o1_hand o1_size o1_guards (va_cpy o1_kind x_kind 0 0 10) (va_cpy o1_saved x_saved 0 0 10) (va_cpy o1_lost x_lost 0 0 10) (va_cpy o1_gain x_gain 0 0 10) (va_cpy o1_gap x_gap 0 0 10) (va_cpy o1_least x_least 0 0 10) (va_cpy o1_most x_most 0 0 10) (va_cpy o1_hand x_hand 0 0 10) o1_size o1_guards o1_kind o1_saved o1_lost o1_gain o1_gap o1_least o1_most o1_hand) := hD
  obtain rfl := h
  exact g_vret C hP hD hS dX8_copyFrom_136
