variable {p : Program} {l : Launch} {e : Env} {s : State} {m : MethodId} {args : Array Value} {below : List Frame} {meth : Method} {c : Code} {D : va_G} {A : Nat → Prop} {cI cJ cZ cG : ClassId}
set_option maxRecDepth 100000 in
set_option maxHeartbeats 4000000 in
theorem c_X9_mark (l : Launch) (D : va_G) (cI cJ cZ cG : ClassId) (a_o0 : Nat) (n_o0 : Nat) (o0 : (Nat → Int64)) (p1 : Int32) (q : (Nat → Int64)) (h : f_X9_mark n_o0 o0 p1 = some q) : gMet l yX9_mark wsX9_mark rm_X9_mark [.ref a_o0, .int p1] (w_X9_mark cI cJ cZ cG a_o0 n_o0 o0) (w_X9_mark cI cJ cZ cG a_o0 n_o0 q) none D cI cJ cZ cG := by
  refine g_enter (cc := cX9_mark) (nL := 2) (ret := none) (by decide) rfl (Nat.le_of_ble_eq_true rfl) ?_
  intro p e s m below meth c A C H locs ls hP hD hS hl
  obtain ⟨hx, hb, hr, hml, hown, hts, hlk, hgk, hA⟩ := id C
  have hK := hgk.1
  have hl : lv_has ls 2 [(0, .ref a_o0), (1, .int p1)] := hl
  unfold f_X9_mark at h
  refine lv_aload_n hx hb dX9_mark_0 rfl (lv_at hl 0 rfl) ?_
  refine lv_iload_n hx hb dX9_mark_1 rfl (lv_at hl 1 rfl) ?_
  refine lv_bipush (v := 6) hx hb dX9_mark_2 (by decide) ?_
  refine lv_ishr hx hb dX9_mark_4 ?_
  refine lv_dup2_11 hx hb dX9_mark_5 rfl rfl ?_
  obtain ⟨i1, h⟩ := gI_some h
  refine va_lald hx hb hK hP 0 1 rfl rfl i1 dX9_mark_6 ?_
  refine lv_lconst (v := 1) hx hb dX9_mark_7 (by decide) ?_
  refine lv_iload_n hx hb dX9_mark_8 rfl (lv_at hl 1 rfl) ?_
  refine lv_bipush (v := 63) hx hb dX9_mark_9 (by decide) ?_
  refine lv_iand hx hb dX9_mark_11 ?_
  refine lv_lshl (v := (1 : Int64) <<< ((p1 &&& 63).toInt64 &&& 63)) hx hb dX9_mark_12 rfl ?_
  refine lv_lor hx hb dX9_mark_13 ?_
  obtain ⟨i2, h⟩ := gI_some h
  refine va_last hx hb hK hP hD hS 0 1 rfl rfl i2 dX9_mark_14 (fun H locs hP hD hS => ?_)
  have hP : va_P D vwCl (w_X9_mark cI cJ cZ cG a_o0 n_o0 (vp_updL o0 (p1 >>> ((6 : Int32) &&& 31)).toNatClampNeg ((o0 (p1 >>> ((6 : Int32) &&& 31)).toNatClampNeg) ||| ((1 : Int64) <<< ((p1 &&& 63).toInt64 &&& 63))))) H := hP
  have hD : va_D A (w_X9_mark cI cJ cZ cG a_o0 n_o0 (vp_updL o0 (p1 >>> ((6 : Int32) &&& 31)).toNatClampNeg ((o0 (p1 >>> ((6 : Int32) &&& 31)).toNatClampNeg) ||| ((1 : Int64) <<< ((p1 &&& 63).toInt64 &&& 63))))) := hD
  obtain rfl := Option.some.inj h
  exact g_vret C hP hD hS dX9_mark_15
theorem in_X9_push_X9 : ∀ w ∈ wsX90, w ∈ wsX9_push := by decide +kernel
theorem mb_X9_push_0 : Cond.fieldLink RX9 46 "GuardDesk$Watch" "size" "I" ∈ wsX9_push := List.mem_of_getElem? (i := 1) rfl
theorem mb_X9_push_1 : Cond.fieldLink RX9 22 "GuardDesk$Watch" "met" "[J" ∈ wsX9_push := List.mem_of_getElem? (i := 2) rfl
theorem mb_X9_push_2 : Cond.fieldLink RX9 25 "GuardDesk$Watch" "states" "[I" ∈ wsX9_push := List.mem_of_getElem? (i := 3) rfl
theorem mb_X9_push_3 : Cond.fieldLink RX9 29 "GuardDesk$Watch" "visits" "[I" ∈ wsX9_push := List.mem_of_getElem? (i := 4) rfl
set_option maxRecDepth 100000 in
set_option maxHeartbeats 4000000 in
theorem c_X9_push (l : Launch) (D : va_G) (cI cJ cZ cG : ClassId) (a_x a_x_madeFor a_x_dead a_x_met a_x_states a_x_visits : Nat) (x_size : Int32) (x_roundStart : Int32) (x_met : (Nat → Int64)) (x_states : (Nat → Int32)) (x_visits : (Nat → Int32)) (p1 : Int32) (q : Int32 × (Nat → Int64) × (Nat → Int32) × (Nat → Int32)) (h : f_X9_push x_size x_met x_states x_visits p1 = some q) : gMet l yX9_push wsX9_push rm_X9_push [.ref a_x, .int p1] (w_X9_push cI cJ cZ cG a_x a_x_madeFor a_x_dead a_x_met a_x_states a_x_visits x_size x_roundStart x_met x_states x_visits) (w_X9_push cI cJ cZ cG a_x a_x_madeFor a_x_dead a_x_met a_x_states a_x_visits q.1 x_roundStart q.2.1 q.2.2.1 q.2.2.2) none D cI cJ cZ cG := by
  refine g_enter (cc := cX9_push) (nL := 2) (ret := none) (by decide) rfl (Nat.le_of_ble_eq_true rfl) ?_
  intro p e s m below meth c A C H locs ls hP hD hS hl
  obtain ⟨hx, hb, hr, hml, hown, hts, hlk, hgk, hA⟩ := id C
  have hK := hgk.1
  have hl : lv_has ls 2 [(0, .ref a_x), (1, .int p1)] := hl
  unfold f_X9_push at h
  refine lv_aload_n hx hb dX9_push_0 rfl (lv_at hl 0 rfl) ?_
  refine va_get (D := D) (ci := 9) (v := .int x_size) (C := RX9) (T := TX9) (N := 7) hx hb hts in_X9_push_X9 hown hK hP 0 rfl rfl 5 (by decide) (hts _ mb_X9_push_0) (fun _ h9 => h9) rfl dX9_push_1 ?_
  refine lv_sipush (v := 256) hx hb dX9_push_4 (by decide) ?_
  refine lv_icmp_lt (tgt := 11) hx hb dX9_push_7 (by decide) (fun c1 => ?_) (fun c1 => ?_)
  · have h := ift c1 h
    refine lv_aload_n hx hb dX9_push_11 rfl (lv_at hl 0 rfl) ?_
    refine va_get (D := D) (ci := 9) (v := .ref a_x_met) (C := RX9) (T := TX9) (N := 7) hx hb hts in_X9_push_X9 hown hK hP 0 rfl rfl 2 (by decide) (hts _ mb_X9_push_1) (fun _ h9 => h9) rfl dX9_push_12 ?_
    refine lv_iload_n hx hb dX9_push_15 rfl (lv_at hl 1 rfl) ?_
    obtain ⟨q2, e2, h⟩ := bd_some h
    refine g_callS (index := 68) (maxL := 2) (n := 2) (As := [.ref a_x_met, .int p1]) (rest := []) (st1 := []) (ws2 := (w_X9_push cI cJ cZ cG a_x a_x_madeFor a_x_dead a_x_met a_x_states a_x_visits x_size x_roundStart q2 x_states x_visits)) C hP hD hS hl.1 (c_X9_mark l D cI cJ cZ cG a_x_met 512 x_met p1 q2 e2) gX9_push_X9_mark rfl rfl rfl (by decide +kernel) ⟨Nat.le_of_ble_eq_true rfl, Nat.le_of_ble_eq_true rfl⟩ rfl (Nat.le_of_ble_eq_true rfl) rfl dX9_push_16 [1] [0, 2, 3] [0, 3, 1, 2] rfl rfl rfl rfl (by decide) rfl rfl rfl (fun H locs hP hD hS => ?_)
    refine lv_aload_n hx hb dX9_push_19 rfl (lv_at hl 0 rfl) ?_
    refine va_get (D := D) (ci := 9) (v := .ref a_x_states) (C := RX9) (T := TX9) (N := 7) hx hb hts in_X9_push_X9 hown hK hP 0 rfl rfl 3 (by decide) (hts _ mb_X9_push_2) (fun _ h9 => h9) rfl dX9_push_20 ?_
    refine lv_aload_n hx hb dX9_push_23 rfl (lv_at hl 0 rfl) ?_
    refine va_get (D := D) (ci := 9) (v := .int x_size) (C := RX9) (T := TX9) (N := 7) hx hb hts in_X9_push_X9 hown hK hP 0 rfl rfl 5 (by decide) (hts _ mb_X9_push_0) (fun _ h9 => h9) rfl dX9_push_24 ?_
    refine lv_iload_n hx hb dX9_push_27 rfl (lv_at hl 1 rfl) ?_
    obtain ⟨i3, h⟩ := gI_some h
    refine va_iast hx hb hK hP hD hS 2 0 rfl rfl i3 dX9_push_28 (fun H locs hP hD hS => ?_)
    have hP : va_P D vwCl (w_X9_push cI cJ cZ cG a_x a_x_madeFor a_x_dead a_x_met a_x_states a_x_visits x_size x_roundStart q2 (upd x_states x_size.toNatClampNeg p1) x_visits) H := hP
    have hD : va_D A (w_X9_push cI cJ cZ cG a_x a_x_madeFor a_x_dead a_x_met a_x_states a_x_visits x_size x_roundStart q2 (upd x_states x_size.toNatClampNeg p1) x_visits) := hD
    refine lv_aload_n hx hb dX9_push_29 rfl (lv_at hl 0 rfl) ?_
    refine va_get (D := D) (ci := 9) (v := .ref a_x_visits) (C := RX9) (T := TX9) (N := 7) hx hb hts in_X9_push_X9 hown hK hP 0 rfl rfl 4 (by decide) (hts _ mb_X9_push_3) (fun _ h9 => h9) rfl dX9_push_30 ?_
    refine lv_aload_n hx hb dX9_push_33 rfl (lv_at hl 0 rfl) ?_
    refine va_get (D := D) (ci := 9) (v := .int x_size) (C := RX9) (T := TX9) (N := 7) hx hb hts in_X9_push_X9 hown hK hP 0 rfl rfl 5 (by decide) (hts _ mb_X9_push_0) (fun _ h9 => h9) rfl dX9_push_34 ?_
    refine lv_iconst (v := (-1)) hx hb dX9_push_37 (by decide) ?_
    obtain ⟨i4, h⟩ := gI_some h
    refine va_iast hx hb hK hP hD hS 3 0 rfl rfl i4 dX9_push_38 (fun H locs hP hD hS => ?_)
    have hP : va_P D vwCl (w_X9_push cI cJ cZ cG a_x a_x_madeFor a_x_dead a_x_met a_x_states a_x_visits x_size x_roundStart q2 (upd x_states x_size.toNatClampNeg p1) (upd x_visits x_size.toNatClampNeg (-1))) H := hP
    have hD : va_D A (w_X9_push cI cJ cZ cG a_x a_x_madeFor a_x_dead a_x_met a_x_states a_x_visits x_size x_roundStart q2 (upd x_states x_size.toNatClampNeg p1) (upd x_visits x_size.toNatClampNeg (-1))) := hD
    refine lv_aload_n hx hb dX9_push_39 rfl (lv_at hl 0 rfl) ?_
    refine lv_dup hx hb dX9_push_40 rfl ?_
    refine va_get (D := D) (ci := 9) (v := .int x_size) (C := RX9) (T := TX9) (N := 7) hx hb hts in_X9_push_X9 hown hK hP 0 rfl rfl 5 (by decide) (hts _ mb_X9_push_0) (fun _ h9 => h9) rfl dX9_push_41 ?_
    refine lv_iconst (v := 1) hx hb dX9_push_44 (by decide) ?_
    refine lv_iadd hx hb dX9_push_45 ?_
    refine va_put (D := D) (ci := 9) (v := .int (x_size + 1)) (ty := .int) (C := RX9) (T := TX9) (N := 7) hx hb hts in_X9_push_X9 tyX9 tyX9_ok nmX9 hown hK hP hD hS 0 rfl rfl 5 (by decide) (hts _ mb_X9_push_0) (fun _ h9 => h9) rfl (by decide +kernel) rfl rfl (Nat.le_of_ble_eq_true rfl) dX9_push_46 (fun H locs hP hD hS => ?_)
    have hP : va_P D vwCl (w_X9_push cI cJ cZ cG a_x a_x_madeFor a_x_dead a_x_met a_x_states a_x_visits (x_size + 1) x_roundStart q2 (upd x_states x_size.toNatClampNeg p1) (upd x_visits x_size.toNatClampNeg (-1))) H := hP
    have hD : va_D A (w_X9_push cI cJ cZ cG a_x a_x_madeFor a_x_dead a_x_met a_x_states a_x_visits (x_size + 1) x_roundStart q2 (upd x_states x_size.toNatClampNeg p1) (upd x_visits x_size.toNatClampNeg (-1))) := hD
    obtain rfl := Option.some.inj h
    exact g_vret C hP hD hS dX9_push_49
  · have h := iff_ c1 h
    obtain rfl := Option.some.inj h
    exact g_vret C hP hD hS dX9_push_10
theorem in_X9_stateAfter_X4 : ∀ w ∈ wsX40, w ∈ wsX9_stateAfter := by decide +kernel
theorem in_X9_stateAfter_X9 : ∀ w ∈ wsX90, w ∈ wsX9_stateAfter := by decide +kernel
theorem mb_X9_stateAfter_0 : Cond.fieldLink RX9 14 "GuardDesk$Watch" "madeFor" "LGuardDesk$Posts;" ∈ wsX9_stateAfter := List.mem_of_getElem? (i := 1) rfl
theorem mb_X9_stateAfter_1 : Cond.fieldLink RX9 67 "GuardDesk$Posts" "size" "I" ∈ wsX9_stateAfter := List.mem_of_getElem? (i := 2) rfl
theorem mb_X9_stateAfter_2 : Cond.fieldLink RX9 84 "GuardDesk$Posts" "every" "[I" ∈ wsX9_stateAfter := List.mem_of_getElem? (i := 3) rfl
set_option maxRecDepth 100000 in
set_option maxHeartbeats 4000000 in
theorem t_X9_stateAfter_b45 (C : cx D cI cJ cZ cG A cX9_stateAfter 6 (some .int) RX9 wsX9_stateAfter p s m args meth c) (a_x a_x_madeFor a_x_dead a_x_met a_x_states a_x_visits a_x_madeFor_every : Nat) (x_size : Int32) (x_roundStart : Int32) (x_madeFor_size : Int32) (x_madeFor_every : (Nat → Int32)) (N : Nat) (q : Int32) (k0 : Int32) (v1 : Int32) (v2 : Int32) (v3 : Int32) (v4 : Int32) (k_5 : Int32 → Int32 → Option (Int32)) (hk_5 : ∀ (v3 : Int32) (v4 : Int32), k_5 v3 v4 = some q → WB p l e rm_X9_stateAfter s m args below meth c (MQ below (Qg D (some (.int q)) (w_X9_stateAfter cI cJ cZ cG a_x a_x_madeFor a_x_dead a_x_met a_x_states a_x_visits a_x_madeFor_every x_size x_roundStart x_madeFor_size x_madeFor_every) A) args s 0 0 A) D A 6 (w_X9_stateAfter cI cJ cZ cG a_x a_x_madeFor a_x_dead a_x_met a_x_states a_x_visits a_x_madeFor_every x_size x_roundStart x_madeFor_size x_madeFor_every) [(0, .ref a_x), (1, .int v1), (2, .int v2), (3, .int v3), (4, .int v4)] [] 5) (h : f_X9_stateAfter_b45 N x_madeFor_size x_madeFor_every k_5 k0 v1 v2 v3 v4 = some q) : WB p l e rm_X9_stateAfter s m args below meth c (MQ below (Qg D (some (.int q)) (w_X9_stateAfter cI cJ cZ cG a_x a_x_madeFor a_x_dead a_x_met a_x_states a_x_visits a_x_madeFor_every x_size x_roundStart x_madeFor_size x_madeFor_every) A) args s 0 0 A) D A 6 (w_X9_stateAfter cI cJ cZ cG a_x a_x_madeFor a_x_dead a_x_met a_x_states a_x_visits a_x_madeFor_every x_size x_roundStart x_madeFor_size x_madeFor_every) [(0, .ref a_x), (1, .int v1), (2, .int v2), (3, .int v3), (4, .int v4)] [.int k0] 45 := by
  obtain ⟨hx, hb, hr, hml, hown, hts, hlk, hgk, hA⟩ := id C
  have hK := hgk.1
  unfold f_X9_stateAfter_b45 at h
  intro H locs ls hP hD hS hl
  refine lv_iconst (v := 1) hx hb dX9_stateAfter_45 (by decide) ?_
  refine lv_isub hx hb dX9_stateAfter_46 ?_
  refine lv_istore (lv' := [(5, .int (k0 - 1)), (0, .ref a_x), (1, .int v1), (2, .int v2), (3, .int v3), (4, .int v4)]) hx hb dX9_stateAfter_47 hl (by decide) rfl (fun ls hl => ?_)
  refine lv_iload hx hb dX9_stateAfter_49 (lv_at hl 0 rfl) ?_
  refine lv_if_ge (tgt := 56) hx hb dX9_stateAfter_51 (by decide) (fun c1 => ?_) (fun c1 => ?_)
  · have h := ift c1 h
    refine lv_iload_n hx hb dX9_stateAfter_56 rfl (lv_at hl 4 rfl) ?_
    refine lv_iload hx hb dX9_stateAfter_57 (lv_at hl 0 rfl) ?_
    refine lv_iconst (v := 3) hx hb dX9_stateAfter_59 (by decide) ?_
    refine lv_iload hx hb dX9_stateAfter_60 (lv_at hl 5 rfl) ?_
    refine lv_imul hx hb dX9_stateAfter_62 ?_
    refine lv_ishl hx hb dX9_stateAfter_63 ?_
    refine lv_ior hx hb dX9_stateAfter_64 ?_
    refine lv_istore_n (lv' := [(3, .int (v3 ||| ((k0 - 1) <<< ((3 * v4) &&& 31)))), (5, .int (k0 - 1)), (0, .ref a_x), (1, .int v1), (2, .int v2), (4, .int v4)]) hx hb dX9_stateAfter_65 rfl hl (by decide) rfl (fun ls hl => ?_)
    refine lv_iinc (v := v4 + 1) (lv' := [(4, .int (v4 + 1)), (3, .int (v3 ||| ((k0 - 1) <<< ((3 * v4) &&& 31)))), (5, .int (k0 - 1)), (0, .ref a_x), (1, .int v1), (2, .int v2)]) hx hb dX9_stateAfter_66 hl (k := 5) rfl rfl (by decide) rfl (fun ls hl => ?_)
    refine lv_goto (tgt := 5) hx hb dX9_stateAfter_69 (by decide) ?_
    exact hk_5 (v3 ||| ((k0 - 1) <<< ((3 * v4) &&& 31))) (v4 + 1) h H locs ls hP hD hS (lv_sub hl [3, 4, 5, 1, 0] rfl)
  · have h := iff_ c1 h
    refine lv_iconst (v := (-1)) hx hb dX9_stateAfter_54 (by decide) ?_
    obtain rfl := Option.some.inj h
    exact g_iret C hP hD hS dX9_stateAfter_55
set_option maxRecDepth 100000 in
set_option maxHeartbeats 4000000 in
theorem t_X9_stateAfter_b5 (C : cx D cI cJ cZ cG A cX9_stateAfter 6 (some .int) RX9 wsX9_stateAfter p s m args meth c) (a_x a_x_madeFor a_x_dead a_x_met a_x_states a_x_visits a_x_madeFor_every : Nat) (x_size : Int32) (x_roundStart : Int32) (x_madeFor_size : Int32) (x_madeFor_every : (Nat → Int32)) (N : Nat) (q : Int32) (v1 : Int32) (v2 : Int32) : ∀ (n : Nat) (v3 : Int32) (v4 : Int32), f_X9_stateAfter_b5 N x_madeFor_size x_madeFor_every v1 v2 n v3 v4 = some q → WB p l e rm_X9_stateAfter s m args below meth c (MQ below (Qg D (some (.int q)) (w_X9_stateAfter cI cJ cZ cG a_x a_x_madeFor a_x_dead a_x_met a_x_states a_x_visits a_x_madeFor_every x_size x_roundStart x_madeFor_size x_madeFor_every) A) args s 0 0 A) D A 6 (w_X9_stateAfter cI cJ cZ cG a_x a_x_madeFor a_x_dead a_x_met a_x_states a_x_visits a_x_madeFor_every x_size x_roundStart x_madeFor_size x_madeFor_every) [(0, .ref a_x), (1, .int v1), (2, .int v2), (3, .int v3), (4, .int v4)] [] 5 := by
  obtain ⟨hx, hb, hr, hml, hown, hts, hlk, hgk, hA⟩ := id C
  have hK := hgk.1
  intro n
  induction n with
  | zero => intro v3 v4 h; cases h
  | succ n hk_5 =>
    intro v3 v4 h
    have h : g_X9_stateAfter_b5 N x_madeFor_size x_madeFor_every v1 v2 (f_X9_stateAfter_b5 N x_madeFor_size x_madeFor_every v1 v2 n) v3 v4 = some q := h
    generalize f_X9_stateAfter_b5 N x_madeFor_size x_madeFor_every v1 v2 n = k_5 at h hk_5
    unfold g_X9_stateAfter_b5 at h
    intro H locs ls hP hD hS hl
    refine lv_iload hx hb dX9_stateAfter_5 (lv_at hl 4 rfl) ?_
    refine lv_aload_n hx hb dX9_stateAfter_7 rfl (lv_at hl 0 rfl) ?_
    refine va_get (D := D) (ci := 9) (v := .ref a_x_madeFor) (C := RX9) (T := TX9) (N := 7) hx hb hts in_X9_stateAfter_X9 hown hK hP 0 rfl rfl 0 (by decide) (hts _ mb_X9_stateAfter_0) (fun _ h9 => h9) rfl dX9_stateAfter_8 ?_
    refine va_get (D := D) (ci := 4) (v := .int x_madeFor_size) (C := RX4) (T := TX4) (N := 2) hx hb hts in_X9_stateAfter_X4 hown hK hP 1 rfl rfl 0 (by decide) (hts _ mb_X9_stateAfter_1) (fun _ h9 => h9) rfl dX9_stateAfter_11 ?_
    refine lv_icmp_ge (tgt := 72) hx hb dX9_stateAfter_14 (by decide) (fun c1 => ?_) (fun c1 => ?_)
    · have h := ift c1 h
      refine lv_iload_n hx hb dX9_stateAfter_72 rfl (lv_at hl 3 rfl) ?_
      obtain rfl := Option.some.inj h
      exact g_iret C hP hD hS dX9_stateAfter_73
    · have h := iff_ c1 h
      refine lv_iload hx hb dX9_stateAfter_17 (lv_at hl 4 rfl) ?_
      refine lv_iload_n hx hb dX9_stateAfter_19 rfl (lv_at hl 2 rfl) ?_
      refine lv_icmp_ne (tgt := 36) hx hb dX9_stateAfter_20 (by decide) (fun c2 => ?_) (fun c2 => ?_)
      · have h := iff_ c2 h
        refine lv_iload_n hx hb dX9_stateAfter_36 rfl (lv_at hl 1 rfl) ?_
        refine lv_iconst (v := 3) hx hb dX9_stateAfter_37 (by decide) ?_
        refine lv_iload hx hb dX9_stateAfter_38 (lv_at hl 4 rfl) ?_
        refine lv_imul hx hb dX9_stateAfter_40 ?_
        refine lv_ishr hx hb dX9_stateAfter_41 ?_
        refine lv_bipush (v := 7) hx hb dX9_stateAfter_42 (by decide) ?_
        refine lv_iand hx hb dX9_stateAfter_44 ?_
        exact t_X9_stateAfter_b45 C a_x a_x_madeFor a_x_dead a_x_met a_x_states a_x_visits a_x_madeFor_every x_size x_roundStart x_madeFor_size x_madeFor_every N q ((v1 >>> ((3 * v4) &&& 31)) &&& 7) v1 v2 v3 v4 k_5 hk_5 h H locs ls hP hD hS (lv_sub hl [0, 1, 2, 3, 4] rfl)
      · have h := ift c2 h
        refine lv_aload_n hx hb dX9_stateAfter_23 rfl (lv_at hl 0 rfl) ?_
        refine va_get (D := D) (ci := 9) (v := .ref a_x_madeFor) (C := RX9) (T := TX9) (N := 7) hx hb hts in_X9_stateAfter_X9 hown hK hP 0 rfl rfl 0 (by decide) (hts _ mb_X9_stateAfter_0) (fun _ h9 => h9) rfl dX9_stateAfter_24 ?_
        refine va_get (D := D) (ci := 4) (v := .ref a_x_madeFor_every) (C := RX4) (T := TX4) (N := 2) hx hb hts in_X9_stateAfter_X4 hown hK hP 1 rfl rfl 1 (by decide) (hts _ mb_X9_stateAfter_2) (fun _ h9 => h9) rfl dX9_stateAfter_27 ?_
        refine lv_iload hx hb dX9_stateAfter_30 (lv_at hl 4 rfl) ?_
        obtain ⟨i3, h⟩ := gI_some h
        refine va_iald hx hb hK hP 2 0 rfl rfl i3 dX9_stateAfter_32 ?_
        refine lv_goto (tgt := 45) hx hb dX9_stateAfter_33 (by decide) ?_
        exact t_X9_stateAfter_b45 C a_x a_x_madeFor a_x_dead a_x_met a_x_states a_x_visits a_x_madeFor_every x_size x_roundStart x_madeFor_size x_madeFor_every N q (x_madeFor_every v4.toNatClampNeg) v1 v2 v3 v4 k_5 hk_5 h H locs ls hP hD hS (lv_sub hl [0, 1, 2, 3, 4] rfl)
set_option maxRecDepth 100000 in
set_option maxHeartbeats 4000000 in
theorem c_X9_stateAfter (l : Launch) (D : va_G) (cI cJ cZ cG : ClassId) (a_x a_x_madeFor a_x_dead a_x_met a_x_states a_x_visits a_x_madeFor_every : Nat) (x_size : Int32) (x_roundStart : Int32) (x_madeFor_size : Int32) (x_madeFor_every : (Nat → Int32)) (p1 : Int32) (p2 : Int32) (N : Nat) (q : Int32) (h : f_X9_stateAfter N x_madeFor_size x_madeFor_every p1 p2 = some q) : gMet l yX9_stateAfter wsX9_stateAfter rm_X9_stateAfter [.ref a_x, .int p1, .int p2] (w_X9_stateAfter cI cJ cZ cG a_x a_x_madeFor a_x_dead a_x_met a_x_states a_x_visits a_x_madeFor_every x_size x_roundStart x_madeFor_size x_madeFor_every) (w_X9_stateAfter cI cJ cZ cG a_x a_x_madeFor a_x_dead a_x_met a_x_states a_x_visits a_x_madeFor_every x_size x_roundStart x_madeFor_size x_madeFor_every) (some (.int q)) D cI cJ cZ cG := by
  refine g_enter (cc := cX9_stateAfter) (nL := 6) (ret := (some .int)) (by decide) rfl (Nat.le_of_ble_eq_true rfl) ?_
  intro p e s m below meth c A C H locs ls hP hD hS hl
  obtain ⟨hx, hb, hr, hml, hown, hts, hlk, hgk, hA⟩ := id C
  have hK := hgk.1
  have hl : lv_has ls 6 [(0, .ref a_x), (1, .int p1), (2, .int p2)] := hl
  unfold f_X9_stateAfter at h
  refine lv_iconst (v := 0) hx hb dX9_stateAfter_0 (by decide) ?_
  refine lv_istore_n (lv' := [(3, .int 0), (0, .ref a_x), (1, .int p1), (2, .int p2)]) hx hb dX9_stateAfter_1 rfl hl (by decide) rfl (fun ls hl => ?_)
  refine lv_iconst (v := 0) hx hb dX9_stateAfter_2 (by decide) ?_
  refine lv_istore (lv' := [(4, .int 0), (3, .int 0), (0, .ref a_x), (1, .int p1), (2, .int p2)]) hx hb dX9_stateAfter_3 hl (by decide) rfl (fun ls hl => ?_)
  exact t_X9_stateAfter_b5 C a_x a_x_madeFor a_x_dead a_x_met a_x_states a_x_visits a_x_madeFor_every x_size x_roundStart x_madeFor_size x_madeFor_every N q p1 p2 N 0 0 h H locs ls hP hD hS (lv_sub hl [2, 3, 4, 1, 0] rfl)
set_option maxRecDepth 100000 in
set_option maxHeartbeats 4000000 in
theorem c_X9_isMarked (l : Launch) (D : va_G) (cI cJ cZ cG : ClassId) (a_o0 : Nat) (n_o0 : Nat) (o0 : (Nat → Int64)) (p1 : Int32) (q : Int32) (h : f_X9_isMarked n_o0 o0 p1 = some q) : gMet l yX9_isMarked wsX9_isMarked rm_X9_isMarked [.ref a_o0, .int p1] (w_X9_isMarked cI cJ cZ cG a_o0 n_o0 o0) (w_X9_isMarked cI cJ cZ cG a_o0 n_o0 o0) (some (.int q)) D cI cJ cZ cG := by
  refine g_enter (cc := cX9_isMarked) (nL := 2) (ret := (some .boolean)) (by decide) rfl (Nat.le_of_ble_eq_true rfl) ?_
  intro p e s m below meth c A C H locs ls hP hD hS hl
  obtain ⟨hx, hb, hr, hml, hown, hts, hlk, hgk, hA⟩ := id C
  have hK := hgk.1
  have hl : lv_has ls 2 [(0, .ref a_o0), (1, .int p1)] := hl
  unfold f_X9_isMarked at h
  refine lv_aload_n hx hb dX9_isMarked_0 rfl (lv_at hl 0 rfl) ?_
  refine lv_iload_n hx hb dX9_isMarked_1 rfl (lv_at hl 1 rfl) ?_
  refine lv_bipush (v := 6) hx hb dX9_isMarked_2 (by decide) ?_
  refine lv_ishr hx hb dX9_isMarked_4 ?_
  obtain ⟨i1, h⟩ := gI_some h
  refine va_lald hx hb hK hP 0 1 rfl rfl i1 dX9_isMarked_5 ?_
  refine lv_iload_n hx hb dX9_isMarked_6 rfl (lv_at hl 1 rfl) ?_
  refine lv_bipush (v := 63) hx hb dX9_isMarked_7 (by decide) ?_
  refine lv_iand hx hb dX9_isMarked_9 ?_
  refine lv_lshr (v := (o0 (p1 >>> ((6 : Int32) &&& 31)).toNatClampNeg) >>> ((p1 &&& 63).toInt64 &&& 63)) hx hb dX9_isMarked_10 rfl ?_
  refine lv_lconst (v := 1) hx hb dX9_isMarked_11 (by decide) ?_
  refine lv_land hx hb dX9_isMarked_12 ?_
  refine lv_lconst (v := 0) hx hb dX9_isMarked_13 (by decide) ?_
  refine W.lcmp hx hb dX9_isMarked_14 ?_
  refine lv_if_eq (tgt := 22) hx hb dX9_isMarked_15 (by decide) (fun c2 => ?_) (fun c2 => ?_)
  · have c2 := lc_eq.mp c2
    have h := ift c2 h
    refine lv_iconst (v := 0) hx hb dX9_isMarked_22 (by decide) ?_
    obtain rfl := Option.some.inj h
    exact g_zret C hP hD hS (nz_b (Or.inl rfl)) dX9_isMarked_23
  · have c2 := (not_congr lc_eq).mp c2
    have h := iff_ c2 h
    refine lv_iconst (v := 1) hx hb dX9_isMarked_18 (by decide) ?_
    refine lv_goto (tgt := 23) hx hb dX9_isMarked_19 (by decide) ?_
    obtain rfl := Option.some.inj h
    exact g_zret C hP hD hS (nz_b (Or.inr rfl)) dX9_isMarked_23
theorem in_X9_walkPlaceOf_X9 : ∀ w ∈ wsX90, w ∈ wsX9_walkPlaceOf := by decide +kernel
theorem mb_X9_walkPlaceOf_0 : Cond.fieldLink RX9 46 "GuardDesk$Watch" "size" "I" ∈ wsX9_walkPlaceOf := List.mem_of_getElem? (i := 1) rfl
theorem mb_X9_walkPlaceOf_1 : Cond.fieldLink RX9 25 "GuardDesk$Watch" "states" "[I" ∈ wsX9_walkPlaceOf := List.mem_of_getElem? (i := 2) rfl
set_option maxRecDepth 100000 in
set_option maxHeartbeats 4000000 in
theorem t_X9_walkPlaceOf_b2 (C : cx D cI cJ cZ cG A cX9_walkPlaceOf 3 (some .int) RX9 wsX9_walkPlaceOf p s m args meth c) (a_x a_x_madeFor a_x_dead a_x_met a_x_states a_x_visits : Nat) (x_size : Int32) (x_roundStart : Int32) (x_states : (Nat → Int32)) (N : Nat) (q : Int32) (v1 : Int32) : ∀ (n : Nat) (v2 : Int32), f_X9_walkPlaceOf_b2 N x_size x_states v1 n v2 = some q → WB p l e rm_X9_walkPlaceOf s m args below meth c (MQ below (Qg D (some (.int q)) (w_X9_walkPlaceOf cI cJ cZ cG a_x a_x_madeFor a_x_dead a_x_met a_x_states a_x_visits x_size x_roundStart x_states) A) args s 0 0 A) D A 3 (w_X9_walkPlaceOf cI cJ cZ cG a_x a_x_madeFor a_x_dead a_x_met a_x_states a_x_visits x_size x_roundStart x_states) [(0, .ref a_x), (1, .int v1), (2, .int v2)] [] 2 := by
  obtain ⟨hx, hb, hr, hml, hown, hts, hlk, hgk, hA⟩ := id C
  have hK := hgk.1
  intro n
  induction n with
  | zero => intro v2 h; cases h
  | succ n hk_2 =>
    intro v2 h
    have h : g_X9_walkPlaceOf_b2 N x_size x_states v1 (f_X9_walkPlaceOf_b2 N x_size x_states v1 n) v2 = some q := h
    generalize f_X9_walkPlaceOf_b2 N x_size x_states v1 n = k_2 at h hk_2
    unfold g_X9_walkPlaceOf_b2 at h
    intro H locs ls hP hD hS hl
    refine lv_iload_n hx hb dX9_walkPlaceOf_2 rfl (lv_at hl 2 rfl) ?_
    refine lv_aload_n hx hb dX9_walkPlaceOf_3 rfl (lv_at hl 0 rfl) ?_
    refine va_get (D := D) (ci := 9) (v := .int x_size) (C := RX9) (T := TX9) (N := 7) hx hb hts in_X9_walkPlaceOf_X9 hown hK hP 0 rfl rfl 5 (by decide) (hts _ mb_X9_walkPlaceOf_0) (fun _ h9 => h9) rfl dX9_walkPlaceOf_4 ?_
    refine lv_iconst (v := 1) hx hb dX9_walkPlaceOf_7 (by decide) ?_
    refine lv_isub hx hb dX9_walkPlaceOf_8 ?_
    refine lv_icmp_ge (tgt := 28) hx hb dX9_walkPlaceOf_9 (by decide) (fun c1 => ?_) (fun c1 => ?_)
    · have h := ift c1 h
      refine lv_iload_n hx hb dX9_walkPlaceOf_28 rfl (lv_at hl 2 rfl) ?_
      obtain rfl := Option.some.inj h
      exact g_iret C hP hD hS dX9_walkPlaceOf_29
    · have h := iff_ c1 h
      refine lv_aload_n hx hb dX9_walkPlaceOf_12 rfl (lv_at hl 0 rfl) ?_
      refine va_get (D := D) (ci := 9) (v := .ref a_x_states) (C := RX9) (T := TX9) (N := 7) hx hb hts in_X9_walkPlaceOf_X9 hown hK hP 0 rfl rfl 3 (by decide) (hts _ mb_X9_walkPlaceOf_1) (fun _ h9 => h9) rfl dX9_walkPlaceOf_13 ?_
      refine lv_iload_n hx hb dX9_walkPlaceOf_16 rfl (lv_at hl 2 rfl) ?_
      obtain ⟨i2, h⟩ := gI_some h
      refine va_iald hx hb hK hP 1 0 rfl rfl i2 dX9_walkPlaceOf_17 ?_
      refine lv_iload_n hx hb dX9_walkPlaceOf_18 rfl (lv_at hl 1 rfl) ?_
      refine lv_icmp_eq (tgt := 28) hx hb dX9_walkPlaceOf_19 (by decide) (fun c3 => ?_) (fun c3 => ?_)
      · have h := ift c3 h
        refine lv_iload_n hx hb dX9_walkPlaceOf_28 rfl (lv_at hl 2 rfl) ?_
        obtain rfl := Option.some.inj h
        exact g_iret C hP hD hS dX9_walkPlaceOf_29
      · have h := iff_ c3 h
        refine lv_iinc (v := v2 + 1) (lv' := [(2, .int (v2 + 1)), (0, .ref a_x), (1, .int v1)]) hx hb dX9_walkPlaceOf_22 hl (k := 2) rfl rfl (by decide) rfl (fun ls hl => ?_)
        refine lv_goto (tgt := 2) hx hb dX9_walkPlaceOf_25 (by decide) ?_
        exact hk_2 (v2 + 1) h H locs ls hP hD hS (lv_sub hl [1, 2, 0] rfl)
set_option maxRecDepth 100000 in
set_option maxHeartbeats 4000000 in
theorem c_X9_walkPlaceOf (l : Launch) (D : va_G) (cI cJ cZ cG : ClassId) (a_x a_x_madeFor a_x_dead a_x_met a_x_states a_x_visits : Nat) (x_size : Int32) (x_roundStart : Int32) (x_states : (Nat → Int32)) (p1 : Int32) (N : Nat) (q : Int32) (h : f_X9_walkPlaceOf N x_size x_states p1 = some q) : gMet l yX9_walkPlaceOf wsX9_walkPlaceOf rm_X9_walkPlaceOf [.ref a_x, .int p1] (w_X9_walkPlaceOf cI cJ cZ cG a_x a_x_madeFor a_x_dead a_x_met a_x_states a_x_visits x_size x_roundStart x_states) (w_X9_walkPlaceOf cI cJ cZ cG a_x a_x_madeFor a_x_dead a_x_met a_x_states a_x_visits x_size x_roundStart x_states) (some (.int q)) D cI cJ cZ cG := by
  refine g_enter (cc := cX9_walkPlaceOf) (nL := 3) (ret := (some .int)) (by decide) rfl (Nat.le_of_ble_eq_true rfl) ?_
  intro p e s m below meth c A C H locs ls hP hD hS hl
  obtain ⟨hx, hb, hr, hml, hown, hts, hlk, hgk, hA⟩ := id C
  have hK := hgk.1
  have hl : lv_has ls 3 [(0, .ref a_x), (1, .int p1)] := hl
  unfold f_X9_walkPlaceOf at h
  refine lv_iconst (v := 0) hx hb dX9_walkPlaceOf_0 (by decide) ?_
  refine lv_istore_n (lv' := [(2, .int 0), (0, .ref a_x), (1, .int p1)]) hx hb dX9_walkPlaceOf_1 rfl hl (by decide) rfl (fun ls hl => ?_)
  exact t_X9_walkPlaceOf_b2 C a_x a_x_madeFor a_x_dead a_x_met a_x_states a_x_visits x_size x_roundStart x_states N q p1 N 0 h H locs ls hP hD hS (lv_sub hl [1, 2, 0] rfl)
theorem in_X9_advance_X4 : ∀ w ∈ wsX40, w ∈ wsX9_advance := by decide +kernel
theorem in_X9_advance_X9 : ∀ w ∈ wsX90, w ∈ wsX9_advance := by decide +kernel
theorem mb_X9_advance_0 : Cond.fieldLink RX9 46 "GuardDesk$Watch" "size" "I" ∈ wsX9_advance := List.mem_of_getElem? (i := 1) rfl
theorem mb_X9_advance_1 : Cond.fieldLink RX9 25 "GuardDesk$Watch" "states" "[I" ∈ wsX9_advance := List.mem_of_getElem? (i := 2) rfl
theorem mb_X9_advance_2 : Cond.fieldLink RX9 29 "GuardDesk$Watch" "visits" "[I" ∈ wsX9_advance := List.mem_of_getElem? (i := 3) rfl
theorem mb_X9_advance_3 : Cond.fieldLink RX9 14 "GuardDesk$Watch" "madeFor" "LGuardDesk$Posts;" ∈ wsX9_advance := List.mem_of_getElem? (i := 4) rfl
theorem mb_X9_advance_4 : Cond.fieldLink RX9 67 "GuardDesk$Posts" "size" "I" ∈ wsX9_advance := List.mem_of_getElem? (i := 5) rfl
theorem mb_X9_advance_5 : Cond.fieldLink RX9 18 "GuardDesk$Watch" "dead" "[J" ∈ wsX9_advance := List.mem_of_getElem? (i := 6) rfl
theorem mb_X9_advance_6 : Cond.fieldLink RX9 22 "GuardDesk$Watch" "met" "[J" ∈ wsX9_advance := List.mem_of_getElem? (i := 7) rfl
theorem mb_X9_advance_7 : Cond.fieldLink RX9 63 "GuardDesk$Watch" "roundStart" "I" ∈ wsX9_advance := List.mem_of_getElem? (i := 8) rfl
set_option maxRecDepth 100000 in
set_option maxHeartbeats 4000000 in
theorem c_X9_advance (l : Launch) (D : va_G) (cI cJ cZ cG : ClassId) (a_x a_x_madeFor a_x_dead a_x_met a_x_states a_x_visits a_x_madeFor_every : Nat) (x_size : Int32) (x_roundStart : Int32) (x_madeFor_size : Int32) (x_madeFor_every : (Nat → Int32)) (x_dead : (Nat → Int64)) (x_met : (Nat → Int64)) (x_states : (Nat → Int32)) (x_visits : (Nat → Int32)) (N : Nat) (q : Int32 × Int32 × Int32 × (Nat → Int64) × (Nat → Int64) × (Nat → Int32) × (Nat → Int32)) (h : f_X9_advance N x_size x_roundStart x_madeFor_size x_madeFor_every x_dead x_met x_states x_visits = some q) : gMet l yX9_advance wsX9_advance rm_X9_advance [.ref a_x] (w_X9_advance cI cJ cZ cG a_x a_x_madeFor a_x_dead a_x_met a_x_states a_x_visits a_x_madeFor_every x_size x_roundStart x_madeFor_size x_madeFor_every x_dead x_met x_states x_visits) (w_X9_advance cI cJ cZ cG a_x a_x_madeFor a_x_dead a_x_met a_x_states a_x_visits a_x_madeFor_every q.2.1 q.2.2.1 x_madeFor_size x_madeFor_every q.2.2.2.1 q.2.2.2.2.1 q.2.2.2.2.2.1 q.2.2.2.2.2.2) (some (.int q.1)) D cI cJ cZ cG := by
  refine g_enter (cc := cX9_advance) (nL := 4) (ret := (some .boolean)) (by decide) rfl (Nat.le_of_ble_eq_true rfl) ?_
  intro p e s m below meth c A C H locs ls hP hD hS hl
  obtain ⟨hx, hb, hr, hml, hown, hts, hlk, hgk, hA⟩ := id C
  have hK := hgk.1
  have hl : lv_has ls 4 [(0, .ref a_x)] := hl
  unfold f_X9_advance at h
  refine lv_aload_n hx hb dX9_advance_0 rfl (lv_at hl 0 rfl) ?_
  refine va_get (D := D) (ci := 9) (v := .int x_size) (C := RX9) (T := TX9) (N := 7) hx hb hts in_X9_advance_X9 hown hK hP 0 rfl rfl 5 (by decide) (hts _ mb_X9_advance_0) (fun _ h9 => h9) rfl dX9_advance_1 ?_
  refine lv_iconst (v := 1) hx hb dX9_advance_4 (by decide) ?_
  refine lv_isub hx hb dX9_advance_5 ?_
  refine lv_istore_n (lv' := [(1, .int (x_size - 1)), (0, .ref a_x)]) hx hb dX9_advance_6 rfl hl (by decide) rfl (fun ls hl => ?_)
  refine lv_aload_n hx hb dX9_advance_7 rfl (lv_at hl 1 rfl) ?_
  refine va_get (D := D) (ci := 9) (v := .ref a_x_states) (C := RX9) (T := TX9) (N := 7) hx hb hts in_X9_advance_X9 hown hK hP 0 rfl rfl 3 (by decide) (hts _ mb_X9_advance_1) (fun _ h9 => h9) rfl dX9_advance_8 ?_
  refine lv_iload_n hx hb dX9_advance_11 rfl (lv_at hl 0 rfl) ?_
  obtain ⟨i1, h⟩ := gI_some h
  refine va_iald hx hb hK hP 5 0 rfl rfl i1 dX9_advance_12 ?_
  refine lv_istore_n (lv' := [(2, .int (x_states (x_size - 1).toNatClampNeg)), (1, .int (x_size - 1)), (0, .ref a_x)]) hx hb dX9_advance_13 rfl hl (by decide) rfl (fun ls hl => ?_)
  refine lv_aload_n hx hb dX9_advance_14 rfl (lv_at hl 2 rfl) ?_
  refine va_get (D := D) (ci := 9) (v := .ref a_x_visits) (C := RX9) (T := TX9) (N := 7) hx hb hts in_X9_advance_X9 hown hK hP 0 rfl rfl 4 (by decide) (hts _ mb_X9_advance_2) (fun _ h9 => h9) rfl dX9_advance_15 ?_
  refine lv_iload_n hx hb dX9_advance_18 rfl (lv_at hl 1 rfl) ?_
  refine lv_dup2_11 hx hb dX9_advance_19 rfl rfl ?_
  obtain ⟨i2, h⟩ := gI_some h
  refine va_iald hx hb hK hP 6 0 rfl rfl i2 dX9_advance_20 ?_
  refine lv_iconst (v := 1) hx hb dX9_advance_21 (by decide) ?_
  refine lv_iadd hx hb dX9_advance_22 ?_
  obtain ⟨i3, h⟩ := gI_some h
  refine va_iast hx hb hK hP hD hS 6 0 rfl rfl i3 dX9_advance_23 (fun H locs hP hD hS => ?_)
  have hP : va_P D vwCl (w_X9_advance cI cJ cZ cG a_x a_x_madeFor a_x_dead a_x_met a_x_states a_x_visits a_x_madeFor_every x_size x_roundStart x_madeFor_size x_madeFor_every x_dead x_met x_states (upd x_visits (x_size - 1).toNatClampNeg ((x_visits (x_size - 1).toNatClampNeg) + 1))) H := hP
  have hD : va_D A (w_X9_advance cI cJ cZ cG a_x a_x_madeFor a_x_dead a_x_met a_x_states a_x_visits a_x_madeFor_every x_size x_roundStart x_madeFor_size x_madeFor_every x_dead x_met x_states (upd x_visits (x_size - 1).toNatClampNeg ((x_visits (x_size - 1).toNatClampNeg) + 1))) := hD
  refine lv_aload_n hx hb dX9_advance_24 rfl (lv_at hl 2 rfl) ?_
  refine va_get (D := D) (ci := 9) (v := .ref a_x_visits) (C := RX9) (T := TX9) (N := 7) hx hb hts in_X9_advance_X9 hown hK hP 0 rfl rfl 4 (by decide) (hts _ mb_X9_advance_2) (fun _ h9 => h9) rfl dX9_advance_25 ?_
  refine lv_iload_n hx hb dX9_advance_28 rfl (lv_at hl 1 rfl) ?_
  obtain ⟨i4, h⟩ := gI_some h
  refine va_iald hx hb hK hP 6 0 rfl rfl i4 dX9_advance_29 ?_
  refine lv_aload_n hx hb dX9_advance_30 rfl (lv_at hl 2 rfl) ?_
  refine va_get (D := D) (ci := 9) (v := .ref a_x_madeFor) (C := RX9) (T := TX9) (N := 7) hx hb hts in_X9_advance_X9 hown hK hP 0 rfl rfl 0 (by decide) (hts _ mb_X9_advance_3) (fun _ h9 => h9) rfl dX9_advance_31 ?_
  refine va_get (D := D) (ci := 4) (v := .int x_madeFor_size) (C := RX4) (T := TX4) (N := 2) hx hb hts in_X9_advance_X4 hown hK hP 1 rfl rfl 0 (by decide) (hts _ mb_X9_advance_4) (fun _ h9 => h9) rfl dX9_advance_34 ?_
  refine lv_icmp_lt (tgt := 60) hx hb dX9_advance_37 (by decide) (fun c5 => ?_) (fun c5 => ?_)
  · have h := ift c5 h
    refine lv_aload_n hx hb dX9_advance_60 rfl (lv_at hl 2 rfl) ?_
    refine lv_iload_n hx hb dX9_advance_61 rfl (lv_at hl 0 rfl) ?_
    refine lv_aload_n hx hb dX9_advance_62 rfl (lv_at hl 2 rfl) ?_
    refine va_get (D := D) (ci := 9) (v := .ref a_x_visits) (C := RX9) (T := TX9) (N := 7) hx hb hts in_X9_advance_X9 hown hK hP 0 rfl rfl 4 (by decide) (hts _ mb_X9_advance_2) (fun _ h9 => h9) rfl dX9_advance_63 ?_
    refine lv_iload_n hx hb dX9_advance_66 rfl (lv_at hl 1 rfl) ?_
    obtain ⟨i6, h⟩ := gI_some h
    refine va_iald hx hb hK hP 6 0 rfl rfl i6 dX9_advance_67 ?_
    obtain ⟨q7, e7, h⟩ := bd_some h
    refine g_callV (index := 72) (maxL := 6) (n := 2) (As := [.int (x_states (x_size - 1).toNatClampNeg), .int ((upd x_visits (x_size - 1).toNatClampNeg ((x_visits (x_size - 1).toNatClampNeg) + 1)) (x_size - 1).toNatClampNeg)]) (rest := []) (st1 := [.int q7]) (C1 := RX9) (T1 := TX9) (N1 := 7) (ws2 := (w_X9_advance cI cJ cZ cG a_x a_x_madeFor a_x_dead a_x_met a_x_states a_x_visits a_x_madeFor_every x_size x_roundStart x_madeFor_size x_madeFor_every x_dead x_met x_states (upd x_visits (x_size - 1).toNatClampNeg ((x_visits (x_size - 1).toNatClampNeg) + 1)))) C hP hD hS hl.1 9 0 (c_X9_stateAfter l D cI cJ cZ cG a_x a_x_madeFor a_x_dead a_x_met a_x_states a_x_visits a_x_madeFor_every x_size x_roundStart x_madeFor_size x_madeFor_every (x_states (x_size - 1).toNatClampNeg) ((upd x_visits (x_size - 1).toNatClampNeg ((x_visits (x_size - 1).toNatClampNeg) + 1)) (x_size - 1).toNatClampNeg) N q7 e7) gX9_advance_X9_stateAfter rfl rfl rfl (by decide +kernel) ⟨Nat.le_of_ble_eq_true rfl, Nat.le_of_ble_eq_true rfl⟩ rfl rfl rfl (Nat.le_of_ble_eq_true rfl) rfl dX9_advance_68 [0, 1, 2] [3, 4, 5, 6] [4, 5, 6, 0, 1, 2, 3] rfl rfl rfl rfl (by decide) rfl rfl rfl (fun H locs hP hD hS => ?_)
    refine lv_istore_n (lv' := [(3, .int q7), (2, .int (x_states (x_size - 1).toNatClampNeg)), (1, .int (x_size - 1)), (0, .ref a_x)]) hx hb dX9_advance_71 rfl hl (by decide) rfl (fun ls hl => ?_)
    refine lv_iload_n hx hb dX9_advance_72 rfl (lv_at hl 0 rfl) ?_
    refine lv_if_lt (tgt := 87) hx hb dX9_advance_73 (by decide) (fun c8 => ?_) (fun c8 => ?_)
    · have h := ift c8 h
      refine lv_iconst (v := 0) hx hb dX9_advance_87 (by decide) ?_
      obtain rfl := Option.some.inj h
      exact g_zret C hP hD hS (nz_b (Or.inl rfl)) dX9_advance_88
    · have h := iff_ c8 h
      refine lv_aload_n hx hb dX9_advance_76 rfl (lv_at hl 3 rfl) ?_
      refine va_get (D := D) (ci := 9) (v := .ref a_x_dead) (C := RX9) (T := TX9) (N := 7) hx hb hts in_X9_advance_X9 hown hK hP 0 rfl rfl 1 (by decide) (hts _ mb_X9_advance_5) (fun _ h9 => h9) rfl dX9_advance_77 ?_
      refine lv_iload_n hx hb dX9_advance_80 rfl (lv_at hl 0 rfl) ?_
      obtain ⟨q9, e9, h⟩ := bd_some h
      refine g_callS (index := 76) (maxL := 2) (n := 2) (As := [.ref a_x_dead, .int q7]) (rest := []) (st1 := [.int q9]) (ws2 := (w_X9_advance cI cJ cZ cG a_x a_x_madeFor a_x_dead a_x_met a_x_states a_x_visits a_x_madeFor_every x_size x_roundStart x_madeFor_size x_madeFor_every x_dead x_met x_states (upd x_visits (x_size - 1).toNatClampNeg ((x_visits (x_size - 1).toNatClampNeg) + 1)))) C hP hD hS hl.1 (c_X9_isMarked l D cI cJ cZ cG a_x_dead 512 x_dead q7 q9 e9) gX9_advance_X9_isMarked rfl rfl rfl (by decide +kernel) ⟨Nat.le_of_ble_eq_true rfl, Nat.le_of_ble_eq_true rfl⟩ rfl (Nat.le_of_ble_eq_true rfl) rfl dX9_advance_81 [3] [0, 1, 2, 4, 5, 6] [0, 1, 2, 6, 3, 4, 5] rfl rfl rfl rfl (by decide) rfl rfl rfl (fun H locs hP hD hS => ?_)
      refine lv_if_eq (tgt := 89) hx hb dX9_advance_84 (by decide) (fun c10 => ?_) (fun c10 => ?_)
      · have h := ift c10 h
        refine lv_aload_n hx hb dX9_advance_89 rfl (lv_at hl 3 rfl) ?_
        refine va_get (D := D) (ci := 9) (v := .ref a_x_met) (C := RX9) (T := TX9) (N := 7) hx hb hts in_X9_advance_X9 hown hK hP 0 rfl rfl 2 (by decide) (hts _ mb_X9_advance_6) (fun _ h9 => h9) rfl dX9_advance_90 ?_
        refine lv_iload_n hx hb dX9_advance_93 rfl (lv_at hl 0 rfl) ?_
        obtain ⟨q11, e11, h⟩ := bd_some h
        refine g_callS (index := 76) (maxL := 2) (n := 2) (As := [.ref a_x_met, .int q7]) (rest := []) (st1 := [.int q11]) (ws2 := (w_X9_advance cI cJ cZ cG a_x a_x_madeFor a_x_dead a_x_met a_x_states a_x_visits a_x_madeFor_every x_size x_roundStart x_madeFor_size x_madeFor_every x_dead x_met x_states (upd x_visits (x_size - 1).toNatClampNeg ((x_visits (x_size - 1).toNatClampNeg) + 1)))) C hP hD hS hl.1 (c_X9_isMarked l D cI cJ cZ cG a_x_met 512 x_met q7 q11 e11) gX9_advance_X9_isMarked rfl rfl rfl (by decide +kernel) ⟨Nat.le_of_ble_eq_true rfl, Nat.le_of_ble_eq_true rfl⟩ rfl (Nat.le_of_ble_eq_true rfl) rfl dX9_advance_94 [4] [0, 1, 2, 3, 5, 6] [0, 1, 2, 3, 6, 4, 5] rfl rfl rfl rfl (by decide) rfl rfl rfl (fun H locs hP hD hS => ?_)
        refine lv_if_eq (tgt := 111) hx hb dX9_advance_97 (by decide) (fun c12 => ?_) (fun c12 => ?_)
        · have h := ift c12 h
          refine lv_aload_n hx hb dX9_advance_111 rfl (lv_at hl 3 rfl) ?_
          refine lv_iload_n hx hb dX9_advance_112 rfl (lv_at hl 0 rfl) ?_
          obtain ⟨q13, e13, h⟩ := bd_some h
          refine g_callV (index := 54) (maxL := 2) (n := 1) (As := [.int q7]) (rest := []) (st1 := []) (C1 := RX9) (T1 := TX9) (N1 := 7) (ws2 := (w_X9_advance cI cJ cZ cG a_x a_x_madeFor a_x_dead a_x_met a_x_states a_x_visits a_x_madeFor_every q13.1 x_roundStart x_madeFor_size x_madeFor_every x_dead q13.2.1 q13.2.2.1 q13.2.2.2)) C hP hD hS hl.1 9 0 (c_X9_push l D cI cJ cZ cG a_x a_x_madeFor a_x_dead a_x_met a_x_states a_x_visits x_size x_roundStart x_met x_states (upd x_visits (x_size - 1).toNatClampNeg ((x_visits (x_size - 1).toNatClampNeg) + 1)) q7 q13 e13) gX9_advance_X9_push rfl rfl rfl (by decide +kernel) ⟨Nat.le_of_ble_eq_true rfl, Nat.le_of_ble_eq_true rfl⟩ rfl rfl rfl (Nat.le_of_ble_eq_true rfl) rfl dX9_advance_113 [0, 4, 5, 6] [1, 2, 3] [3, 0, 1, 2, 4, 5, 6] rfl rfl rfl rfl (by decide) rfl rfl rfl (fun H locs hP hD hS => ?_)
          refine lv_iconst (v := 0) hx hb dX9_advance_116 (by decide) ?_
          obtain rfl := Option.some.inj h
          exact g_zret C hP hD hS (nz_b (Or.inl rfl)) dX9_advance_117
        · have h := iff_ c12 h
          refine lv_aload_n hx hb dX9_advance_100 rfl (lv_at hl 3 rfl) ?_
          refine lv_aload_n hx hb dX9_advance_101 rfl (lv_at hl 3 rfl) ?_
          refine lv_iload_n hx hb dX9_advance_102 rfl (lv_at hl 0 rfl) ?_
          obtain ⟨q14, e14, h⟩ := bd_some h
          refine g_callV (index := 80) (maxL := 3) (n := 1) (As := [.int q7]) (rest := [.ref a_x]) (st1 := [.int q14, .ref a_x]) (C1 := RX9) (T1 := TX9) (N1 := 7) (ws2 := (w_X9_advance cI cJ cZ cG a_x a_x_madeFor a_x_dead a_x_met a_x_states a_x_visits a_x_madeFor_every x_size x_roundStart x_madeFor_size x_madeFor_every x_dead x_met x_states (upd x_visits (x_size - 1).toNatClampNeg ((x_visits (x_size - 1).toNatClampNeg) + 1)))) C hP hD hS hl.1 9 0 (c_X9_walkPlaceOf l D cI cJ cZ cG a_x a_x_madeFor a_x_dead a_x_met a_x_states a_x_visits x_size x_roundStart x_states q7 N q14 e14) gX9_advance_X9_walkPlaceOf rfl rfl rfl (by decide +kernel) ⟨Nat.le_of_ble_eq_true rfl, Nat.le_of_ble_eq_true rfl⟩ rfl rfl rfl (Nat.le_of_ble_eq_true rfl) rfl dX9_advance_103 [0, 5] [1, 2, 3, 4, 6] [5, 0, 1, 2, 3, 6, 4] rfl rfl rfl rfl (by decide) rfl rfl rfl (fun H locs hP hD hS => ?_)
          refine va_put (D := D) (ci := 9) (v := .int q14) (ty := .int) (C := RX9) (T := TX9) (N := 7) hx hb hts in_X9_advance_X9 tyX9 tyX9_ok nmX9 hown hK hP hD hS 0 rfl rfl 6 (by decide) (hts _ mb_X9_advance_7) (fun _ h9 => h9) rfl (by decide +kernel) rfl rfl (Nat.le_of_ble_eq_true rfl) dX9_advance_106 (fun H locs hP hD hS => ?_)
          have hP : va_P D vwCl (w_X9_advance cI cJ cZ cG a_x a_x_madeFor a_x_dead a_x_met a_x_states a_x_visits a_x_madeFor_every x_size q14 x_madeFor_size x_madeFor_every x_dead x_met x_states (upd x_visits (x_size - 1).toNatClampNeg ((x_visits (x_size - 1).toNatClampNeg) + 1))) H := hP
          have hD : va_D A (w_X9_advance cI cJ cZ cG a_x a_x_madeFor a_x_dead a_x_met a_x_states a_x_visits a_x_madeFor_every x_size q14 x_madeFor_size x_madeFor_every x_dead x_met x_states (upd x_visits (x_size - 1).toNatClampNeg ((x_visits (x_size - 1).toNatClampNeg) + 1))) := hD
          refine lv_iconst (v := 1) hx hb dX9_advance_109 (by decide) ?_
          obtain rfl := Option.some.inj h
          exact g_zret C hP hD hS (nz_b (Or.inr rfl)) dX9_advance_110
      · have h := iff_ c10 h
        refine lv_iconst (v := 0) hx hb dX9_advance_87 (by decide) ?_
        obtain rfl := Option.some.inj h
        exact g_zret C hP hD hS (nz_b (Or.inl rfl)) dX9_advance_88
  · have h := iff_ c5 h
    refine lv_aload_n hx hb dX9_advance_40 rfl (lv_at hl 2 rfl) ?_
    refine va_get (D := D) (ci := 9) (v := .ref a_x_dead) (C := RX9) (T := TX9) (N := 7) hx hb hts in_X9_advance_X9 hown hK hP 0 rfl rfl 1 (by decide) (hts _ mb_X9_advance_5) (fun _ h9 => h9) rfl dX9_advance_41 ?_
    refine lv_iload_n hx hb dX9_advance_44 rfl (lv_at hl 0 rfl) ?_
    obtain ⟨q15, e15, h⟩ := bd_some h
    refine g_callS (index := 68) (maxL := 2) (n := 2) (As := [.ref a_x_dead, .int (x_states (x_size - 1).toNatClampNeg)]) (rest := []) (st1 := []) (ws2 := (w_X9_advance cI cJ cZ cG a_x a_x_madeFor a_x_dead a_x_met a_x_states a_x_visits a_x_madeFor_every x_size x_roundStart x_madeFor_size x_madeFor_every q15 x_met x_states (upd x_visits (x_size - 1).toNatClampNeg ((x_visits (x_size - 1).toNatClampNeg) + 1)))) C hP hD hS hl.1 (c_X9_mark l D cI cJ cZ cG a_x_dead 512 x_dead (x_states (x_size - 1).toNatClampNeg) q15 e15) gX9_advance_X9_mark rfl rfl rfl (by decide +kernel) ⟨Nat.le_of_ble_eq_true rfl, Nat.le_of_ble_eq_true rfl⟩ rfl (Nat.le_of_ble_eq_true rfl) rfl dX9_advance_45 [3] [0, 1, 2, 4, 5, 6] [0, 1, 2, 6, 3, 4, 5] rfl rfl rfl rfl (by decide) rfl rfl rfl (fun H locs hP hD hS => ?_)
    refine lv_aload_n hx hb dX9_advance_48 rfl (lv_at hl 2 rfl) ?_
    refine lv_dup hx hb dX9_advance_49 rfl ?_
    refine va_get (D := D) (ci := 9) (v := .int x_size) (C := RX9) (T := TX9) (N := 7) hx hb hts in_X9_advance_X9 hown hK hP 0 rfl rfl 5 (by decide) (hts _ mb_X9_advance_0) (fun _ h9 => h9) rfl dX9_advance_50 ?_
    refine lv_iconst (v := 1) hx hb dX9_advance_53 (by decide) ?_
    refine lv_isub hx hb dX9_advance_54 ?_
    refine va_put (D := D) (ci := 9) (v := .int (x_size - 1)) (ty := .int) (C := RX9) (T := TX9) (N := 7) hx hb hts in_X9_advance_X9 tyX9 tyX9_ok nmX9 hown hK hP hD hS 0 rfl rfl 5 (by decide) (hts _ mb_X9_advance_0) (fun _ h9 => h9) rfl (by decide +kernel) rfl rfl (Nat.le_of_ble_eq_true rfl) dX9_advance_55 (fun H locs hP hD hS => ?_)
    have hP : va_P D vwCl (w_X9_advance cI cJ cZ cG a_x a_x_madeFor a_x_dead a_x_met a_x_states a_x_visits a_x_madeFor_every (x_size - 1) x_roundStart x_madeFor_size x_madeFor_every q15 x_met x_states (upd x_visits (x_size - 1).toNatClampNeg ((x_visits (x_size - 1).toNatClampNeg) + 1))) H := hP
    have hD : va_D A (w_X9_advance cI cJ cZ cG a_x a_x_madeFor a_x_dead a_x_met a_x_states a_x_visits a_x_madeFor_every (x_size - 1) x_roundStart x_madeFor_size x_madeFor_every q15 x_met x_states (upd x_visits (x_size - 1).toNatClampNeg ((x_visits (x_size - 1).toNatClampNeg) + 1))) := hD
    refine lv_iconst (v := 0) hx hb dX9_advance_58 (by decide) ?_
    obtain rfl := Option.some.inj h
    exact g_zret C hP hD hS (nz_b (Or.inl rfl)) dX9_advance_59
theorem in_X9_make_X9 : ∀ w ∈ wsX90, w ∈ wsX9_make := by decide +kernel
theorem mb_X9_make_0 : Cond.fieldLink RX9 46 "GuardDesk$Watch" "size" "I" ∈ wsX9_make := List.mem_of_getElem? (i := 4) rfl
theorem mb_X9_make_1 : Cond.constant RX9 58 (1000000) ∈ wsX9_make := List.mem_of_getElem? (i := 5) rfl
theorem mb_X9_make_2 : Cond.fieldLink RX9 14 "GuardDesk$Watch" "madeFor" "LGuardDesk$Posts;" ∈ wsX9_make := List.mem_of_getElem? (i := 1) rfl
theorem mb_X9_make_3 : Cond.fieldLink RX9 18 "GuardDesk$Watch" "dead" "[J" ∈ wsX9_make := List.mem_of_getElem? (i := 2) rfl
theorem mb_X9_make_4 : Cond.fieldLink RX9 22 "GuardDesk$Watch" "met" "[J" ∈ wsX9_make := List.mem_of_getElem? (i := 3) rfl
set_option maxRecDepth 100000 in
set_option maxHeartbeats 4000000 in
theorem t_X9_make_b81 (C : cx D cI cJ cZ cG A cX9_make 4 none RX9 wsX9_make p s m args meth c) (a_x a_x_madeFor a_x_dead a_x_met a_x_states a_x_visits a_x_madeFor_every a_o1 a_o1_every : Nat) (o1_size : Int32) (o1_every : (Nat → Int32)) (N : Nat) (q : Int32 × Int32 × Int32 × (Nat → Int32) × (Nat → Int64) × (Nat → Int64) × (Nat → Int32) × (Nat → Int32)) (x_size : Int32) (x_roundStart : Int32) (x_madeFor_size : Int32) (x_madeFor_every : (Nat → Int32)) (x_dead : (Nat → Int64)) (x_met : (Nat → Int64)) (x_states : (Nat → Int32)) (x_visits : (Nat → Int32)) (v2 : Int32) (h : f_X9_make_b81 N o1_size o1_every x_size x_roundStart x_madeFor_size x_madeFor_every x_dead x_met x_states x_visits v2 = some q) : WB p l e rm_X9_make s m args below meth c (MQ below (Qg D none (w_X9_make cI cJ cZ cG a_x a_x_madeFor a_x_dead a_x_met a_x_states a_x_visits a_x_madeFor_every a_o1 a_o1_every q.1 q.2.1 q.2.2.1 q.2.2.2.1 q.2.2.2.2.1 q.2.2.2.2.2.1 q.2.2.2.2.2.2.1 q.2.2.2.2.2.2.2 o1_size o1_every) A) args s 0 0 A) D A 4 (w_X9_make cI cJ cZ cG a_x a_x_madeFor a_x_dead a_x_met a_x_states a_x_visits a_x_madeFor_every a_o1 a_o1_every x_size x_roundStart x_madeFor_size x_madeFor_every x_dead x_met x_states x_visits o1_size o1_every) [(0, .ref a_x), (2, .int v2)] [] 81 := by
  obtain ⟨hx, hb, hr, hml, hown, hts, hlk, hgk, hA⟩ := id C
  have hK := hgk.1
  unfold f_X9_make_b81 at h
  intro H locs ls hP hD hS hl
  refine lv_iload_n hx hb dX9_make_81 rfl (lv_at hl 1 rfl) ?_
  refine lv_if_ne (tgt := 90) hx hb dX9_make_82 (by decide) (fun c1 => ?_) (fun c1 => ?_)
  · have h := iff_ c1 h
    obtain rfl := Option.some.inj h
    exact g_vret C hP hD hS dX9_make_90
  · have h := ift c1 h
    refine lv_aload_n hx hb dX9_make_85 rfl (lv_at hl 0 rfl) ?_
    refine lv_iconst (v := 0) hx hb dX9_make_86 (by decide) ?_
    refine va_put (D := D) (ci := 9) (v := .int 0) (ty := .int) (C := RX9) (T := TX9) (N := 7) hx hb hts in_X9_make_X9 tyX9 tyX9_ok nmX9 hown hK hP hD hS 0 rfl rfl 5 (by decide) (hts _ mb_X9_make_0) (fun _ h9 => h9) rfl (by decide +kernel) rfl rfl (Nat.le_of_ble_eq_true rfl) dX9_make_87 (fun H locs hP hD hS => ?_)
    have hP : va_P D vwCl (w_X9_make cI cJ cZ cG a_x a_x_madeFor a_x_dead a_x_met a_x_states a_x_visits a_x_madeFor_every a_o1 a_o1_every 0 x_roundStart x_madeFor_size x_madeFor_every x_dead x_met x_states x_visits o1_size o1_every) H := hP
    have hD : va_D A (w_X9_make cI cJ cZ cG a_x a_x_madeFor a_x_dead a_x_met a_x_states a_x_visits a_x_madeFor_every a_o1 a_o1_every 0 x_roundStart x_madeFor_size x_madeFor_every x_dead x_met x_states x_visits o1_size o1_every) := hD
    obtain rfl := Option.some.inj h
    exact g_vret C hP hD hS dX9_make_90
set_option maxRecDepth 100000 in
set_option maxHeartbeats 4000000 in
theorem t_X9_make_b53 (C : cx D cI cJ cZ cG A cX9_make 4 none RX9 wsX9_make p s m args meth c) (a_x a_x_madeFor a_x_dead a_x_met a_x_states a_x_visits a_x_madeFor_every a_o1 a_o1_every : Nat) (o1_size : Int32) (o1_every : (Nat → Int32)) (N : Nat) (q : Int32 × Int32 × Int32 × (Nat → Int32) × (Nat → Int64) × (Nat → Int64) × (Nat → Int32) × (Nat → Int32)) (x_madeFor_size : Int32) (x_madeFor_every : (Nat → Int32)) : ∀ (n : Nat) (x_size : Int32) (x_roundStart : Int32) (x_dead : (Nat → Int64)) (x_met : (Nat → Int64)) (x_states : (Nat → Int32)) (x_visits : (Nat → Int32)) (v2 : Int32) (v3 : Int32), f_X9_make_b53 N o1_size o1_every x_madeFor_size x_madeFor_every n x_size x_roundStart x_dead x_met x_states x_visits v2 v3 = some q → WB p l e rm_X9_make s m args below meth c (MQ below (Qg D none (w_X9_make cI cJ cZ cG a_x a_x_madeFor a_x_dead a_x_met a_x_states a_x_visits a_x_madeFor_every a_o1 a_o1_every q.1 q.2.1 q.2.2.1 q.2.2.2.1 q.2.2.2.2.1 q.2.2.2.2.2.1 q.2.2.2.2.2.2.1 q.2.2.2.2.2.2.2 o1_size o1_every) A) args s 0 0 A) D A 4 (w_X9_make cI cJ cZ cG a_x a_x_madeFor a_x_dead a_x_met a_x_states a_x_visits a_x_madeFor_every a_o1 a_o1_every x_size x_roundStart x_madeFor_size x_madeFor_every x_dead x_met x_states x_visits o1_size o1_every) [(0, .ref a_x), (2, .int v2), (3, .int v3)] [] 53 := by
  obtain ⟨hx, hb, hr, hml, hown, hts, hlk, hgk, hA⟩ := id C
  have hK := hgk.1
  intro n
  induction n with
  | zero => intro x_size x_roundStart x_dead x_met x_states x_visits v2 v3 h; cases h
  | succ n hk_53 =>
    intro x_size x_roundStart x_dead x_met x_states x_visits v2 v3 h
    have h : g_X9_make_b53 N o1_size o1_every x_madeFor_size x_madeFor_every (f_X9_make_b53 N o1_size o1_every x_madeFor_size x_madeFor_every n) x_size x_roundStart x_dead x_met x_states x_visits v2 v3 = some q := h
    generalize f_X9_make_b53 N o1_size o1_every x_madeFor_size x_madeFor_every n = k_53 at h hk_53
    unfold g_X9_make_b53 at h
    intro H locs ls hP hD hS hl
    refine lv_iload_n hx hb dX9_make_53 rfl (lv_at hl 2 rfl) ?_
    refine lv_ldc (v := 1000000) hx hb hown (hts _ mb_X9_make_1) dX9_make_54 ?_
    refine lv_icmp_ge (tgt := 81) hx hb dX9_make_56 (by decide) (fun c1 => ?_) (fun c1 => ?_)
    · have h := ift c1 h
      exact t_X9_make_b81 C a_x a_x_madeFor a_x_dead a_x_met a_x_states a_x_visits a_x_madeFor_every a_o1 a_o1_every o1_size o1_every N q x_size x_roundStart x_madeFor_size x_madeFor_every x_dead x_met x_states x_visits v2 h H locs ls hP hD hS (lv_sub hl [0, 1] rfl)
    · have h := iff_ c1 h
      refine lv_aload_n hx hb dX9_make_59 rfl (lv_at hl 0 rfl) ?_
      refine va_get (D := D) (ci := 9) (v := .int x_size) (C := RX9) (T := TX9) (N := 7) hx hb hts in_X9_make_X9 hown hK hP 0 rfl rfl 5 (by decide) (hts _ mb_X9_make_0) (fun _ h9 => h9) rfl dX9_make_60 ?_
      refine lv_if_le (tgt := 81) hx hb dX9_make_63 (by decide) (fun c2 => ?_) (fun c2 => ?_)
      · have h := ift c2 h
        exact t_X9_make_b81 C a_x a_x_madeFor a_x_dead a_x_met a_x_states a_x_visits a_x_madeFor_every a_o1 a_o1_every o1_size o1_every N q x_size x_roundStart x_madeFor_size x_madeFor_every x_dead x_met x_states x_visits v2 h H locs ls hP hD hS (lv_sub hl [0, 1] rfl)
      · have h := iff_ c2 h
        refine lv_iload_n hx hb dX9_make_66 rfl (lv_at hl 1 rfl) ?_
        refine lv_if_ne (tgt := 81) hx hb dX9_make_67 (by decide) (fun c3 => ?_) (fun c3 => ?_)
        · have h := iff_ c3 h
          exact t_X9_make_b81 C a_x a_x_madeFor a_x_dead a_x_met a_x_states a_x_visits a_x_madeFor_every a_o1 a_o1_every o1_size o1_every N q x_size x_roundStart x_madeFor_size x_madeFor_every x_dead x_met x_states x_visits v2 h H locs ls hP hD hS (lv_sub hl [0, 1] rfl)
        · have h := ift c3 h
          refine lv_aload_n hx hb dX9_make_70 rfl (lv_at hl 0 rfl) ?_
          obtain ⟨q4, e4, h⟩ := bd_some h
          refine g_callV (index := 59) (maxL := 4) (n := 0) (As := []) (rest := []) (st1 := [.int q4.1]) (C1 := RX9) (T1 := TX9) (N1 := 7) (ws2 := (w_X9_make cI cJ cZ cG a_x a_x_madeFor a_x_dead a_x_met a_x_states a_x_visits a_x_madeFor_every a_o1 a_o1_every q4.2.1 q4.2.2.1 x_madeFor_size x_madeFor_every q4.2.2.2.1 q4.2.2.2.2.1 q4.2.2.2.2.2.1 q4.2.2.2.2.2.2 o1_size o1_every)) C hP hD hS hl.1 9 0 (c_X9_advance l D cI cJ cZ cG a_x a_x_madeFor a_x_dead a_x_met a_x_states a_x_visits a_x_madeFor_every x_size x_roundStart x_madeFor_size x_madeFor_every x_dead x_met x_states x_visits N q4 e4) gX9_make_X9_advance rfl rfl rfl (by decide +kernel) ⟨Nat.le_of_ble_eq_true rfl, Nat.le_of_ble_eq_true rfl⟩ rfl rfl rfl (Nat.le_of_ble_eq_true rfl) rfl dX9_make_71 [0, 1, 2, 3, 4, 5, 6] [7, 8] [2, 3, 4, 5, 6, 7, 8, 0, 1] rfl rfl rfl rfl (by decide) rfl rfl rfl (fun H locs hP hD hS => ?_)
          refine lv_istore_n (lv' := [(2, .int q4.1), (0, .ref a_x), (3, .int v3)]) hx hb dX9_make_74 rfl hl (by decide) rfl (fun ls hl => ?_)
          refine lv_iinc (v := v3 + 1) (lv' := [(3, .int (v3 + 1)), (2, .int q4.1), (0, .ref a_x)]) hx hb dX9_make_75 hl (k := 2) rfl rfl (by decide) rfl (fun ls hl => ?_)
          refine lv_goto (tgt := 53) hx hb dX9_make_78 (by decide) ?_
          exact hk_53 q4.2.1 q4.2.2.1 q4.2.2.2.1 q4.2.2.2.2.1 q4.2.2.2.2.2.1 q4.2.2.2.2.2.2 q4.1 (v3 + 1) h H locs ls hP hD hS (lv_sub hl [2, 1, 0] rfl)
set_option maxRecDepth 100000 in
set_option maxHeartbeats 4000000 in
theorem c_X9_make (l : Launch) (D : va_G) (cI cJ cZ cG : ClassId) (a_x a_x_madeFor a_x_dead a_x_met a_x_states a_x_visits a_x_madeFor_every a_o1 a_o1_every : Nat) (x_size : Int32) (x_roundStart : Int32) (x_madeFor_size : Int32) (x_madeFor_every : (Nat → Int32)) (x_dead : (Nat → Int64)) (x_met : (Nat → Int64)) (x_states : (Nat → Int32)) (x_visits : (Nat → Int32)) (o1_size : Int32) (o1_every : (Nat → Int32)) (N : Nat) (q : Int32 × Int32 × Int32 × (Nat → Int32) × (Nat → Int64) × (Nat → Int64) × (Nat → Int32) × (Nat → Int32)) (h : f_X9_make N x_size x_roundStart x_madeFor_size x_madeFor_every x_dead x_met x_states x_visits o1_size o1_every = some q) : gMet l yX9_make wsX9_make rm_X9_make [.ref a_x, .ref a_o1] (w_X9_make cI cJ cZ cG a_x a_x_madeFor a_x_dead a_x_met a_x_states a_x_visits a_x_madeFor_every a_o1 a_o1_every x_size x_roundStart x_madeFor_size x_madeFor_every x_dead x_met x_states x_visits o1_size o1_every) (w_X9_make cI cJ cZ cG a_x a_x_madeFor a_x_dead a_x_met a_x_states a_x_visits a_x_madeFor_every a_o1 a_o1_every q.1 q.2.1 q.2.2.1 q.2.2.2.1 q.2.2.2.2.1 q.2.2.2.2.2.1 q.2.2.2.2.2.2.1 q.2.2.2.2.2.2.2 o1_size o1_every) none D cI cJ cZ cG := by
  refine g_enter (cc := cX9_make) (nL := 4) (ret := none) (by decide) rfl (Nat.le_of_ble_eq_true rfl) ?_
  intro p e s m below meth c A C H locs ls hP hD hS hl
  obtain ⟨hx, hb, hr, hml, hown, hts, hlk, hgk, hA⟩ := id C
  have hK := hgk.1
  have hl : lv_has ls 4 [(0, .ref a_x), (1, .ref a_o1)] := hl
  unfold f_X9_make at h
  refine lv_aload_n hx hb dX9_make_0 rfl (lv_at hl 0 rfl) ?_
  refine va_get (D := D) (ci := 9) (v := .ref a_x_madeFor) (C := RX9) (T := TX9) (N := 7) hx hb hts in_X9_make_X9 hown hK hP 0 rfl rfl 0 (by decide) (hts _ mb_X9_make_2) (fun _ h9 => h9) rfl dX9_make_1 ?_
  refine lv_aload_n hx hb dX9_make_4 rfl (lv_at hl 1 rfl) ?_
  obtain ⟨q1, e1, h⟩ := bd_some h
  refine g_callV (index := 32) (maxL := 4) (n := 1) (As := [.ref a_o1]) (rest := []) (st1 := [.int q1]) (C1 := RX4) (T1 := TX4) (N1 := 2) (ws2 := (w_X9_make cI cJ cZ cG a_x a_x_madeFor a_x_dead a_x_met a_x_states a_x_visits a_x_madeFor_every a_o1 a_o1_every x_size x_roundStart x_madeFor_size x_madeFor_every x_dead x_met x_states x_visits o1_size o1_every)) C hP hD hS hl.1 4 0 (c_X4_isLike l D cI cJ cZ cG a_x_madeFor a_x_madeFor_every a_o1 a_o1_every x_madeFor_size x_madeFor_every o1_size o1_every N q1 e1) gX9_make_X4_isLike rfl rfl rfl (by decide +kernel) ⟨Nat.le_of_ble_eq_true rfl, Nat.le_of_ble_eq_true rfl⟩ rfl rfl rfl (Nat.le_of_ble_eq_true rfl) rfl dX9_make_5 [1, 2, 7, 8] [0, 3, 4, 5, 6] [0, 5, 6, 1, 2, 3, 4, 7, 8] rfl rfl rfl rfl (by decide) rfl rfl rfl (fun H locs hP hD hS => ?_)
  refine lv_if_eq (tgt := 12) hx hb dX9_make_8 (by decide) (fun c2 => ?_) (fun c2 => ?_)
  · have h := ift c2 h
    refine lv_aload_n hx hb dX9_make_12 rfl (lv_at hl 0 rfl) ?_
    refine va_get (D := D) (ci := 9) (v := .ref a_x_madeFor) (C := RX9) (T := TX9) (N := 7) hx hb hts in_X9_make_X9 hown hK hP 0 rfl rfl 0 (by decide) (hts _ mb_X9_make_2) (fun _ h9 => h9) rfl dX9_make_13 ?_
    refine lv_aload_n hx hb dX9_make_16 rfl (lv_at hl 1 rfl) ?_
    refine g_callV (index := 36) (maxL := 2) (n := 1) (As := [.ref a_o1]) (rest := []) (st1 := []) (C1 := RX4) (T1 := TX4) (N1 := 2) (ws2 := (w_X9_make cI cJ cZ cG a_x a_x_madeFor a_x_dead a_x_met a_x_states a_x_visits a_x_madeFor_every a_o1 a_o1_every x_size x_roundStart ((f_X4_copyFrom x_madeFor_size x_madeFor_every o1_size o1_every).1) ((f_X4_copyFrom x_madeFor_size x_madeFor_every o1_size o1_every).2) x_dead x_met x_states x_visits o1_size o1_every)) C hP hD hS hl.1 4 0 (c_X4_copyFrom l D cI cJ cZ cG a_x_madeFor a_x_madeFor_every a_o1 a_o1_every x_madeFor_size x_madeFor_every o1_size o1_every _ rfl) gX9_make_X4_copyFrom rfl rfl rfl (by decide +kernel) ⟨Nat.le_of_ble_eq_true rfl, Nat.le_of_ble_eq_true rfl⟩ rfl rfl rfl (Nat.le_of_ble_eq_true rfl) rfl dX9_make_17 [1, 2, 7, 8] [0, 3, 4, 5, 6] [0, 5, 6, 1, 2, 3, 4, 7, 8] rfl rfl rfl rfl (by decide) rfl rfl rfl (fun H locs hP hD hS => ?_)
    refine lv_aload_n hx hb dX9_make_20 rfl (lv_at hl 0 rfl) ?_
    refine va_get (D := D) (ci := 9) (v := .ref a_x_dead) (C := RX9) (T := TX9) (N := 7) hx hb hts in_X9_make_X9 hown hK hP 0 rfl rfl 1 (by decide) (hts _ mb_X9_make_3) (fun _ h9 => h9) rfl dX9_make_21 ?_
    refine lv_lconst (v := 0) hx hb dX9_make_24 (by decide) ?_
    obtain ⟨q3, e3, h⟩ := bd_some h
    refine g_callS (index := 40) (maxL := 5) (n := 2) (As := [.ref a_x_dead, .long 0]) (rest := []) (st1 := []) (ws2 := (w_X9_make cI cJ cZ cG a_x a_x_madeFor a_x_dead a_x_met a_x_states a_x_visits a_x_madeFor_every a_o1 a_o1_every x_size x_roundStart ((f_X4_copyFrom x_madeFor_size x_madeFor_every o1_size o1_every).1) ((f_X4_copyFrom x_madeFor_size x_madeFor_every o1_size o1_every).2) q3 x_met x_states x_visits o1_size o1_every)) C hP hD hS hl.1 (c_J7_fill_d0a16 l D cI cJ cZ cG a_x_dead 512 x_dead 0 N q3 e3) gX9_make_J7_fill_d0a16 rfl rfl rfl (by decide +kernel) ⟨Nat.le_of_ble_eq_true rfl, Nat.le_of_ble_eq_true rfl⟩ rfl (Nat.le_of_ble_eq_true rfl) rfl dX9_make_25 [3] [0, 1, 2, 4, 5, 6, 7, 8] [0, 1, 2, 8, 3, 4, 5, 6, 7] rfl rfl rfl rfl (by decide) rfl rfl rfl (fun H locs hP hD hS => ?_)
    refine lv_aload_n hx hb dX9_make_28 rfl (lv_at hl 0 rfl) ?_
    refine va_get (D := D) (ci := 9) (v := .ref a_x_met) (C := RX9) (T := TX9) (N := 7) hx hb hts in_X9_make_X9 hown hK hP 0 rfl rfl 2 (by decide) (hts _ mb_X9_make_4) (fun _ h9 => h9) rfl dX9_make_29 ?_
    refine lv_lconst (v := 0) hx hb dX9_make_32 (by decide) ?_
    obtain ⟨q4, e4, h⟩ := bd_some h
    refine g_callS (index := 40) (maxL := 5) (n := 2) (As := [.ref a_x_met, .long 0]) (rest := []) (st1 := []) (ws2 := (w_X9_make cI cJ cZ cG a_x a_x_madeFor a_x_dead a_x_met a_x_states a_x_visits a_x_madeFor_every a_o1 a_o1_every x_size x_roundStart ((f_X4_copyFrom x_madeFor_size x_madeFor_every o1_size o1_every).1) ((f_X4_copyFrom x_madeFor_size x_madeFor_every o1_size o1_every).2) q3 q4 x_states x_visits o1_size o1_every)) C hP hD hS hl.1 (c_J7_fill_d0a16 l D cI cJ cZ cG a_x_met 512 x_met 0 N q4 e4) gX9_make_J7_fill_d0a16 rfl rfl rfl (by decide +kernel) ⟨Nat.le_of_ble_eq_true rfl, Nat.le_of_ble_eq_true rfl⟩ rfl (Nat.le_of_ble_eq_true rfl) rfl dX9_make_33 [4] [0, 1, 2, 3, 5, 6, 7, 8] [0, 1, 2, 3, 8, 4, 5, 6, 7] rfl rfl rfl rfl (by decide) rfl rfl rfl (fun H locs hP hD hS => ?_)
    refine lv_aload_n hx hb dX9_make_36 rfl (lv_at hl 0 rfl) ?_
    refine lv_iconst (v := 0) hx hb dX9_make_37 (by decide) ?_
    refine va_put (D := D) (ci := 9) (v := .int 0) (ty := .int) (C := RX9) (T := TX9) (N := 7) hx hb hts in_X9_make_X9 tyX9 tyX9_ok nmX9 hown hK hP hD hS 0 rfl rfl 5 (by decide) (hts _ mb_X9_make_0) (fun _ h9 => h9) rfl (by decide +kernel) rfl rfl (Nat.le_of_ble_eq_true rfl) dX9_make_38 (fun H locs hP hD hS => ?_)
    have hP : va_P D vwCl (w_X9_make cI cJ cZ cG a_x a_x_madeFor a_x_dead a_x_met a_x_states a_x_visits a_x_madeFor_every a_o1 a_o1_every 0 x_roundStart ((f_X4_copyFrom x_madeFor_size x_madeFor_every o1_size o1_every).1) ((f_X4_copyFrom x_madeFor_size x_madeFor_every o1_size o1_every).2) q3 q4 x_states x_visits o1_size o1_every) H := hP
    have hD : va_D A (w_X9_make cI cJ cZ cG a_x a_x_madeFor a_x_dead a_x_met a_x_states a_x_visits a_x_madeFor_every a_o1 a_o1_every 0 x_roundStart ((f_X4_copyFrom x_madeFor_size x_madeFor_every o1_size o1_every).1) ((f_X4_copyFrom x_madeFor_size x_madeFor_every o1_size o1_every).2) q3 q4 x_states x_visits o1_size o1_every) := hD
    refine lv_aload_n hx hb dX9_make_41 rfl (lv_at hl 0 rfl) ?_
    refine lv_aload_n hx hb dX9_make_42 rfl (lv_at hl 0 rfl) ?_
    obtain ⟨q5, e5, h⟩ := bd_some h
    refine g_callV (index := 50) (maxL := 3) (n := 0) (As := []) (rest := [.ref a_x]) (st1 := [.int q5, .ref a_x]) (C1 := RX9) (T1 := TX9) (N1 := 7) (ws2 := (w_X9_make cI cJ cZ cG a_x a_x_madeFor a_x_dead a_x_met a_x_states a_x_visits a_x_madeFor_every a_o1 a_o1_every 0 x_roundStart ((f_X4_copyFrom x_madeFor_size x_madeFor_every o1_size o1_every).1) ((f_X4_copyFrom x_madeFor_size x_madeFor_every o1_size o1_every).2) q3 q4 x_states x_visits o1_size o1_every)) C hP hD hS hl.1 9 0 (c_X9_fullState l D cI cJ cZ cG a_x a_x_madeFor a_x_dead a_x_met a_x_states a_x_visits a_x_madeFor_every 0 x_roundStart ((f_X4_copyFrom x_madeFor_size x_madeFor_every o1_size o1_every).1) ((f_X4_copyFrom x_madeFor_size x_madeFor_every o1_size o1_every).2) N q5 e5) gX9_make_X9_fullState rfl rfl rfl (by decide +kernel) ⟨Nat.le_of_ble_eq_true rfl, Nat.le_of_ble_eq_true rfl⟩ rfl rfl rfl (Nat.le_of_ble_eq_true rfl) rfl dX9_make_43 [0, 1, 2] [3, 4, 5, 6, 7, 8] [6, 7, 8, 0, 1, 2, 3, 4, 5] rfl rfl rfl rfl (by decide) rfl rfl rfl (fun H locs hP hD hS => ?_)
    obtain ⟨q6, e6, h⟩ := bd_some h
    refine g_callV (index := 54) (maxL := 2) (n := 1) (As := [.int q5]) (rest := []) (st1 := []) (C1 := RX9) (T1 := TX9) (N1 := 7) (ws2 := (w_X9_make cI cJ cZ cG a_x a_x_madeFor a_x_dead a_x_met a_x_states a_x_visits a_x_madeFor_every a_o1 a_o1_every q6.1 x_roundStart ((f_X4_copyFrom x_madeFor_size x_madeFor_every o1_size o1_every).1) ((f_X4_copyFrom x_madeFor_size x_madeFor_every o1_size o1_every).2) q3 q6.2.1 q6.2.2.1 q6.2.2.2 o1_size o1_every)) C hP hD hS hl.1 9 0 (c_X9_push l D cI cJ cZ cG a_x a_x_madeFor a_x_dead a_x_met a_x_states a_x_visits 0 x_roundStart q4 x_states x_visits q5 q6 e6) gX9_make_X9_push rfl rfl rfl (by decide +kernel) ⟨Nat.le_of_ble_eq_true rfl, Nat.le_of_ble_eq_true rfl⟩ rfl rfl rfl (Nat.le_of_ble_eq_true rfl) rfl dX9_make_46 [0, 4, 5, 6] [1, 2, 3, 7, 8] [5, 0, 1, 2, 6, 7, 8, 3, 4] rfl rfl rfl rfl (by decide) rfl rfl rfl (fun H locs hP hD hS => ?_)
    refine lv_iconst (v := 0) hx hb dX9_make_49 (by decide) ?_
    refine lv_istore_n (lv' := [(2, .int 0), (0, .ref a_x), (1, .ref a_o1)]) hx hb dX9_make_50 rfl hl (by decide) rfl (fun ls hl => ?_)
    refine lv_iconst (v := 0) hx hb dX9_make_51 (by decide) ?_
    refine lv_istore_n (lv' := [(3, .int 0), (2, .int 0), (0, .ref a_x), (1, .ref a_o1)]) hx hb dX9_make_52 rfl hl (by decide) rfl (fun ls hl => ?_)
    exact t_X9_make_b53 C a_x a_x_madeFor a_x_dead a_x_met a_x_states a_x_visits a_x_madeFor_every a_o1 a_o1_every o1_size o1_every N q ((f_X4_copyFrom x_madeFor_size x_madeFor_every o1_size o1_every).1) ((f_X4_copyFrom x_madeFor_size x_madeFor_every o1_size o1_every).2) N q6.1 x_roundStart q3 q6.2.1 q6.2.2.1 q6.2.2.2 0 0 h H locs ls hP hD hS (lv_sub hl [2, 1, 0] rfl)
  · have h := iff_ c2 h
    obtain rfl := Option.some.inj h
    exact g_vret C hP hD hS dX9_make_11
theorem in_X9_postAt_X9 : ∀ w ∈ wsX90, w ∈ wsX9_postAt := by decide +kernel
theorem mb_X9_postAt_0 : Cond.fieldLink RX9 46 "GuardDesk$Watch" "size" "I" ∈ wsX9_postAt := List.mem_of_getElem? (i := 1) rfl
theorem mb_X9_postAt_1 : Cond.fieldLink RX9 63 "GuardDesk$Watch" "roundStart" "I" ∈ wsX9_postAt := List.mem_of_getElem? (i := 2) rfl
theorem mb_X9_postAt_2 : Cond.constant RX9 66 (-1000000003) ∈ wsX9_postAt := List.mem_of_getElem? (i := 3) rfl
theorem mb_X9_postAt_3 : Cond.fieldLink RX9 29 "GuardDesk$Watch" "visits" "[I" ∈ wsX9_postAt := List.mem_of_getElem? (i := 4) rfl
set_option maxRecDepth 100000 in
set_option maxHeartbeats 4000000 in
theorem c_X9_postAt (l : Launch) (D : va_G) (cI cJ cZ cG : ClassId) (a_x a_x_madeFor a_x_dead a_x_met a_x_states a_x_visits : Nat) (x_size : Int32) (x_roundStart : Int32) (x_visits : (Nat → Int32)) (p1 : Int32) (q : Int32) (h : f_X9_postAt x_size x_roundStart x_visits p1 = some q) : gMet l yX9_postAt wsX9_postAt rm_X9_postAt [.ref a_x, .int p1] (w_X9_postAt cI cJ cZ cG a_x a_x_madeFor a_x_dead a_x_met a_x_states a_x_visits x_size x_roundStart x_visits) (w_X9_postAt cI cJ cZ cG a_x a_x_madeFor a_x_dead a_x_met a_x_states a_x_visits x_size x_roundStart x_visits) (some (.int q)) D cI cJ cZ cG := by
  refine g_enter (cc := cX9_postAt) (nL := 3) (ret := (some .int)) (by decide) rfl (Nat.le_of_ble_eq_true rfl) ?_
  intro p e s m below meth c A C H locs ls hP hD hS hl
  obtain ⟨hx, hb, hr, hml, hown, hts, hlk, hgk, hA⟩ := id C
  have hK := hgk.1
  have hl : lv_has ls 3 [(0, .ref a_x), (1, .int p1)] := hl
  unfold f_X9_postAt at h
  refine lv_aload_n hx hb dX9_postAt_0 rfl (lv_at hl 0 rfl) ?_
  refine va_get (D := D) (ci := 9) (v := .int x_size) (C := RX9) (T := TX9) (N := 7) hx hb hts in_X9_postAt_X9 hown hK hP 0 rfl rfl 5 (by decide) (hts _ mb_X9_postAt_0) (fun _ h9 => h9) rfl dX9_postAt_1 ?_
  refine lv_aload_n hx hb dX9_postAt_4 rfl (lv_at hl 0 rfl) ?_
  refine va_get (D := D) (ci := 9) (v := .int x_roundStart) (C := RX9) (T := TX9) (N := 7) hx hb hts in_X9_postAt_X9 hown hK hP 0 rfl rfl 6 (by decide) (hts _ mb_X9_postAt_1) (fun _ h9 => h9) rfl dX9_postAt_5 ?_
  refine lv_isub hx hb dX9_postAt_8 ?_
  refine lv_istore_n (lv' := [(2, .int (x_size - x_roundStart)), (0, .ref a_x), (1, .int p1)]) hx hb dX9_postAt_9 rfl hl (by decide) rfl (fun ls hl => ?_)
  refine lv_aload_n hx hb dX9_postAt_10 rfl (lv_at hl 1 rfl) ?_
  refine va_get (D := D) (ci := 9) (v := .int x_size) (C := RX9) (T := TX9) (N := 7) hx hb hts in_X9_postAt_X9 hown hK hP 0 rfl rfl 5 (by decide) (hts _ mb_X9_postAt_0) (fun _ h9 => h9) rfl dX9_postAt_11 ?_
  refine lv_if_le (tgt := 21) hx hb dX9_postAt_14 (by decide) (fun c1 => ?_) (fun c1 => ?_)
  · have h := ift c1 h
    refine lv_ldc (v := (-1000000003)) hx hb hown (hts _ mb_X9_postAt_2) dX9_postAt_21 ?_
    obtain rfl := Option.some.inj h
    exact g_iret C hP hD hS dX9_postAt_23
  · have h := iff_ c1 h
    refine lv_iload_n hx hb dX9_postAt_17 rfl (lv_at hl 0 rfl) ?_
    refine lv_if_gt (tgt := 24) hx hb dX9_postAt_18 (by decide) (fun c2 => ?_) (fun c2 => ?_)
    · have h := ift c2 h
      refine lv_iload_n hx hb dX9_postAt_24 rfl (lv_at hl 2 rfl) ?_
      refine lv_aload_n hx hb dX9_postAt_25 rfl (lv_at hl 1 rfl) ?_
      refine va_get (D := D) (ci := 9) (v := .int x_size) (C := RX9) (T := TX9) (N := 7) hx hb hts in_X9_postAt_X9 hown hK hP 0 rfl rfl 5 (by decide) (hts _ mb_X9_postAt_0) (fun _ h9 => h9) rfl dX9_postAt_26 ?_
      refine lv_icmp_ge (tgt := 41) hx hb dX9_postAt_29 (by decide) (fun c3 => ?_) (fun c3 => ?_)
      · have h := ift c3 h
        refine lv_aload_n hx hb dX9_postAt_41 rfl (lv_at hl 1 rfl) ?_
        refine va_get (D := D) (ci := 9) (v := .ref a_x_visits) (C := RX9) (T := TX9) (N := 7) hx hb hts in_X9_postAt_X9 hown hK hP 0 rfl rfl 4 (by decide) (hts _ mb_X9_postAt_3) (fun _ h9 => h9) rfl dX9_postAt_42 ?_
        refine lv_aload_n hx hb dX9_postAt_45 rfl (lv_at hl 1 rfl) ?_
        refine va_get (D := D) (ci := 9) (v := .int x_roundStart) (C := RX9) (T := TX9) (N := 7) hx hb hts in_X9_postAt_X9 hown hK hP 0 rfl rfl 6 (by decide) (hts _ mb_X9_postAt_1) (fun _ h9 => h9) rfl dX9_postAt_46 ?_
        refine lv_iload_n hx hb dX9_postAt_49 rfl (lv_at hl 2 rfl) ?_
        refine lv_aload_n hx hb dX9_postAt_50 rfl (lv_at hl 1 rfl) ?_
        refine va_get (D := D) (ci := 9) (v := .int x_roundStart) (C := RX9) (T := TX9) (N := 7) hx hb hts in_X9_postAt_X9 hown hK hP 0 rfl rfl 6 (by decide) (hts _ mb_X9_postAt_1) (fun _ h9 => h9) rfl dX9_postAt_51 ?_
        refine lv_isub hx hb dX9_postAt_54 ?_
        refine lv_iload_n hx hb dX9_postAt_55 rfl (lv_at hl 0 rfl) ?_
        obtain ⟨z4, h⟩ := gDi_some h
        refine lv_irem hx hb dX9_postAt_56 z4 ?_
        refine lv_iadd hx hb dX9_postAt_57 ?_
        obtain ⟨i5, h⟩ := gI_some h
        refine va_iald hx hb hK hP 1 0 rfl rfl i5 dX9_postAt_58 ?_
        obtain rfl := Option.some.inj h
        exact g_iret C hP hD hS dX9_postAt_59
      · have h := iff_ c3 h
        refine lv_aload_n hx hb dX9_postAt_32 rfl (lv_at hl 1 rfl) ?_
        refine va_get (D := D) (ci := 9) (v := .ref a_x_visits) (C := RX9) (T := TX9) (N := 7) hx hb hts in_X9_postAt_X9 hown hK hP 0 rfl rfl 4 (by decide) (hts _ mb_X9_postAt_3) (fun _ h9 => h9) rfl dX9_postAt_33 ?_
        refine lv_iload_n hx hb dX9_postAt_36 rfl (lv_at hl 2 rfl) ?_
        obtain ⟨i6, h⟩ := gI_some h
        refine va_iald hx hb hK hP 1 0 rfl rfl i6 dX9_postAt_37 ?_
        refine lv_goto (tgt := 59) hx hb dX9_postAt_38 (by decide) ?_
        obtain rfl := Option.some.inj h
        exact g_iret C hP hD hS dX9_postAt_59
    · have h := iff_ c2 h
      refine lv_ldc (v := (-1000000003)) hx hb hown (hts _ mb_X9_postAt_2) dX9_postAt_21 ?_
      obtain rfl := Option.some.inj h
      exact g_iret C hP hD hS dX9_postAt_23
set_option maxRecDepth 100000 in
set_option maxHeartbeats 4000000 in
theorem c_X10_isGap (l : Launch) (D : va_G) (cI cJ cZ cG : ClassId) (p0 : Int32) (q : Int32) (h : f_X10_isGap p0 = some q) : gMet l yX10_isGap wsX10_isGap rm_X10_isGap [.int p0] (w_X10_isGap cI cJ cZ cG) (w_X10_isGap cI cJ cZ cG) (some (.int q)) D cI cJ cZ cG := by
  refine g_enter (cc := cX10_isGap) (nL := 1) (ret := (some .boolean)) (by decide) rfl (Nat.le_of_ble_eq_true rfl) ?_
  intro p e s m below meth c A C H locs ls hP hD hS hl
  obtain ⟨hx, hb, hr, hml, hown, hts, hlk, hgk, hA⟩ := id C
  have hK := hgk.1
  have hl : lv_has ls 1 [(0, .int p0)] := hl
  unfold f_X10_isGap at h
  refine lv_iload_n hx hb dX10_isGap_0 rfl (lv_at hl 0 rfl) ?_
  refine lv_iconst (v := 1) hx hb dX10_isGap_1 (by decide) ?_
  refine lv_bipush (v := 60) hx hb dX10_isGap_2 (by decide) ?_
  refine g_callS0 (index := 58) (maxL := 3) (n := 3) (As := [.int p0, .int 1, .int 60]) (rest := []) (st1 := [.int (f_X10_isFrom p0 1 60)]) C hP hS hl.1 (c_X10_isFrom l D cI cJ cZ cG p0 1 60 _ rfl) gX10_isGap_X10_isFrom rfl rfl rfl (by decide +kernel) ⟨Nat.le_of_ble_eq_true rfl, Nat.le_of_ble_eq_true rfl⟩ rfl (Nat.le_of_ble_eq_true rfl) rfl dX10_isGap_4 rfl (fun H locs hP hS => ?_)
  refine lv_if_eq (tgt := 21) hx hb dX10_isGap_7 (by decide) (fun c1 => ?_) (fun c1 => ?_)
  · have h := ift c1 h
    refine lv_iconst (v := 0) hx hb dX10_isGap_21 (by decide) ?_
    obtain rfl := Option.some.inj h
    exact g_zret C hP hD hS (nz_b (Or.inl rfl)) dX10_isGap_22
  · have h := iff_ c1 h
    refine lv_bipush (v := 60) hx hb dX10_isGap_10 (by decide) ?_
    refine lv_iload_n hx hb dX10_isGap_12 rfl (lv_at hl 0 rfl) ?_
    obtain ⟨z2, h⟩ := gDi_some h
    refine lv_irem hx hb dX10_isGap_13 z2 ?_
    refine lv_if_ne (tgt := 21) hx hb dX10_isGap_14 (by decide) (fun c3 => ?_) (fun c3 => ?_)
    · have h := iff_ c3 h
      refine lv_iconst (v := 0) hx hb dX10_isGap_21 (by decide) ?_
      obtain rfl := Option.some.inj h
      exact g_zret C hP hD hS (nz_b (Or.inl rfl)) dX10_isGap_22
    · have h := ift c3 h
      refine lv_iconst (v := 1) hx hb dX10_isGap_17 (by decide) ?_
      refine lv_goto (tgt := 22) hx hb dX10_isGap_18 (by decide) ?_
      obtain rfl := Option.some.inj h
      exact g_zret C hP hD hS (nz_b (Or.inr rfl)) dX10_isGap_22
set_option maxRecDepth 100000 in
set_option maxHeartbeats 4000000 in
theorem c_X10_isPay (l : Launch) (D : va_G) (cI cJ cZ cG : ClassId) (p0 : Int32) (q : Int32) (h : f_X10_isPay p0 = q) : gMet l yX10_isPay wsX10_isPay rm_X10_isPay [.int p0] (w_X10_isPay cI cJ cZ cG) (w_X10_isPay cI cJ cZ cG) (some (.int q)) D cI cJ cZ cG := by
  refine g_enter (cc := cX10_isPay) (nL := 1) (ret := (some .boolean)) (by decide) rfl (Nat.le_of_ble_eq_true rfl) ?_
  intro p e s m below meth c A C H locs ls hP hD hS hl
  obtain ⟨hx, hb, hr, hml, hown, hts, hlk, hgk, hA⟩ := id C
  have hK := hgk.1
  have hl : lv_has ls 1 [(0, .int p0)] := hl
  unfold f_X10_isPay at h
  refine lv_iload_n hx hb dX10_isPay_0 rfl (lv_at hl 0 rfl) ?_
  refine lv_bipush (v := (-60)) hx hb dX10_isPay_1 (by decide) ?_
  refine lv_bipush (v := 60) hx hb dX10_isPay_3 (by decide) ?_
  refine g_callS0 (index := 58) (maxL := 3) (n := 3) (As := [.int p0, .int (-60), .int 60]) (rest := []) (st1 := [.int (f_X10_isFrom p0 (-60) 60)]) C hP hS hl.1 (c_X10_isFrom l D cI cJ cZ cG p0 (-60) 60 _ rfl) gX10_isPay_X10_isFrom rfl rfl rfl (by decide +kernel) ⟨Nat.le_of_ble_eq_true rfl, Nat.le_of_ble_eq_true rfl⟩ rfl (Nat.le_of_ble_eq_true rfl) rfl dX10_isPay_5 rfl (fun H locs hP hS => ?_)
  obtain rfl := h
  exact g_zret C hP hD hS (nz_b (z_X10_isFrom p0 (-60) 60)) dX10_isPay_8
theorem in_X10_target_X10 : ∀ w ∈ wsX100, w ∈ wsX10_target := by decide +kernel
theorem in_X10_target_X6 : ∀ w ∈ wsX60, w ∈ wsX10_target := by decide +kernel
theorem in_X10_target_X8 : ∀ w ∈ wsX80, w ∈ wsX10_target := by decide +kernel
theorem mb_X10_target_0 : Cond.constant RX10 78 (-1000000002) ∈ wsX10_target := List.mem_of_getElem? (i := 4) rfl
theorem mb_X10_target_1 : Cond.fieldLink RX10 10 "GuardDesk" "now" "LGuardDesk$Scene;" ∈ wsX10_target := List.mem_of_getElem? (i := 1) rfl
theorem mb_X10_target_2 : Cond.fieldLink RX10 69 "GuardDesk$Scene" "targets" "LGuardDesk$Targets;" ∈ wsX10_target := List.mem_of_getElem? (i := 2) rfl
theorem mb_X10_target_3 : Cond.fieldLink RX10 73 "GuardDesk$Targets" "size" "I" ∈ wsX10_target := List.mem_of_getElem? (i := 3) rfl
set_option maxRecDepth 100000 in
set_option maxHeartbeats 4000000 in
theorem t_X10_target_b56 (C : cx D cI cJ cZ cG A cX10_target 8 (some .int) RX10 wsX10_target p s m args meth c) (a_x a_x_now a_x_kept a_x_sheets a_x_plan a_x_draw a_x_blockade a_x_watch a_x_now_targets a_x_now_roads a_x_now_posts a_x_now_haunts a_x_now_targets_kind a_x_now_targets_saved a_x_now_targets_lost a_x_now_targets_gain a_x_now_targets_gap a_x_now_targets_least a_x_now_targets_most a_x_now_targets_hand : Nat) (x_isKept : Int32) (x_latestBelow : Int32) (x_findings : Int32) (x_now_targets_guards : Int32) (q : Int32 × Int32 × (Nat → Int32) × (Nat → Int32) × (Nat → Int32) × (Nat → Int32) × (Nat → Int32) × (Nat → Int32) × (Nat → Int32) × (Nat → Int32)) (x_now_targets_size : Int32) (x_now_targets_kind : (Nat → Int32)) (x_now_targets_saved : (Nat → Int32)) (x_now_targets_lost : (Nat → Int32)) (x_now_targets_gain : (Nat → Int32)) (x_now_targets_gap : (Nat → Int32)) (x_now_targets_least : (Nat → Int32)) (x_now_targets_most : (Nat → Int32)) (x_now_targets_hand : (Nat → Int32)) (k0 : Int32) (v1 : Int32) (v2 : Int32) (v3 : Int32) (v4 : Int32) (v5 : Int32) (v6 : Int32) (h : f_X10_target_b56 x_now_targets_size x_now_targets_kind x_now_targets_saved x_now_targets_lost x_now_targets_gain x_now_targets_gap x_now_targets_least x_now_targets_most x_now_targets_hand k0 v1 v2 v3 v4 v5 v6 = some q) : WB p l e rm_X10_target s m args below meth c (MQ below (Qg D (some (.int q.1)) (w_X10_target cI cJ cZ cG a_x a_x_now a_x_kept a_x_sheets a_x_plan a_x_draw a_x_blockade a_x_watch a_x_now_targets a_x_now_roads a_x_now_posts a_x_now_haunts a_x_now_targets_kind a_x_now_targets_saved a_x_now_targets_lost a_x_now_targets_gain a_x_now_targets_gap a_x_now_targets_least a_x_now_targets_most a_x_now_targets_hand x_isKept x_latestBelow x_findings q.2.1 x_now_targets_guards q.2.2.1 q.2.2.2.1 q.2.2.2.2.1 q.2.2.2.2.2.1 q.2.2.2.2.2.2.1 q.2.2.2.2.2.2.2.1 q.2.2.2.2.2.2.2.2.1 q.2.2.2.2.2.2.2.2.2) A) args s 0 0 A) D A 8 (w_X10_target cI cJ cZ cG a_x a_x_now a_x_kept a_x_sheets a_x_plan a_x_draw a_x_blockade a_x_watch a_x_now_targets a_x_now_roads a_x_now_posts a_x_now_haunts a_x_now_targets_kind a_x_now_targets_saved a_x_now_targets_lost a_x_now_targets_gain a_x_now_targets_gap a_x_now_targets_least a_x_now_targets_most a_x_now_targets_hand x_isKept x_latestBelow x_findings x_now_targets_size x_now_targets_guards x_now_targets_kind x_now_targets_saved x_now_targets_lost x_now_targets_gain x_now_targets_gap x_now_targets_least x_now_targets_most x_now_targets_hand) [(0, .ref a_x), (1, .int v1), (2, .int v2), (3, .int v3), (4, .int v4), (5, .int v5), (6, .int v6)] [.int k0] 56 := by
  obtain ⟨hx, hb, hr, hml, hown, hts, hlk, hgk, hA⟩ := id C
  have hK := hgk.1
  unfold f_X10_target_b56 at h
  intro H locs ls hP hD hS hl
  refine lv_istore (lv' := [(7, .int k0), (0, .ref a_x), (1, .int v1), (2, .int v2), (3, .int v3), (4, .int v4), (5, .int v5), (6, .int v6)]) hx hb dX10_target_56 hl (by decide) rfl (fun ls hl => ?_)
  refine lv_iload hx hb dX10_target_58 (lv_at hl 7 rfl) ?_
  refine lv_if_eq (tgt := 83) hx hb dX10_target_60 (by decide) (fun c1 => ?_) (fun c1 => ?_)
  · have h := ift c1 h
    refine lv_ldc (v := (-1000000002)) hx hb hown (hts _ mb_X10_target_0) dX10_target_83 ?_
    obtain rfl := Option.some.inj h
    exact g_iret C hP hD hS dX10_target_85
  · have h := iff_ c1 h
    refine lv_iload hx hb dX10_target_63 (lv_at hl 0 rfl) ?_
    refine lv_if_eq (tgt := 83) hx hb dX10_target_65 (by decide) (fun c2 => ?_) (fun c2 => ?_)
    · have h := ift c2 h
      refine lv_ldc (v := (-1000000002)) hx hb hown (hts _ mb_X10_target_0) dX10_target_83 ?_
      obtain rfl := Option.some.inj h
      exact g_iret C hP hD hS dX10_target_85
    · have h := iff_ c2 h
      refine lv_aload_n hx hb dX10_target_68 rfl (lv_at hl 1 rfl) ?_
      refine va_get (D := D) (ci := 10) (v := .ref a_x_now) (C := RX10) (T := TX10) (N := 10) hx hb hts in_X10_target_X10 hown hK hP 0 rfl rfl 0 (by decide) (hts _ mb_X10_target_1) (fun _ h9 => h9) rfl dX10_target_69 ?_
      refine va_get (D := D) (ci := 6) (v := .ref a_x_now_targets) (C := RX6) (T := TX6) (N := 4) hx hb hts in_X10_target_X6 hown hK hP 1 rfl rfl 0 (by decide) (hts _ mb_X10_target_2) (fun _ h9 => h9) rfl dX10_target_72 ?_
      refine va_get (D := D) (ci := 8) (v := .int x_now_targets_size) (C := RX8) (T := TX8) (N := 10) hx hb hts in_X10_target_X8 hown hK hP 2 rfl rfl 0 (by decide) (hts _ mb_X10_target_3) (fun _ h9 => h9) rfl dX10_target_75 ?_
      refine lv_bipush (v := 10) hx hb dX10_target_78 (by decide) ?_
      refine lv_icmp_lt (tgt := 86) hx hb dX10_target_80 (by decide) (fun c3 => ?_) (fun c3 => ?_)
      · have h := ift c3 h
        refine lv_aload_n hx hb dX10_target_86 rfl (lv_at hl 1 rfl) ?_
        refine va_get (D := D) (ci := 10) (v := .ref a_x_now) (C := RX10) (T := TX10) (N := 10) hx hb hts in_X10_target_X10 hown hK hP 0 rfl rfl 0 (by decide) (hts _ mb_X10_target_1) (fun _ h9 => h9) rfl dX10_target_87 ?_
        refine va_get (D := D) (ci := 6) (v := .ref a_x_now_targets) (C := RX6) (T := TX6) (N := 4) hx hb hts in_X10_target_X6 hown hK hP 1 rfl rfl 0 (by decide) (hts _ mb_X10_target_2) (fun _ h9 => h9) rfl dX10_target_90 ?_
        refine lv_iload_n hx hb dX10_target_93 rfl (lv_at hl 2 rfl) ?_
        refine lv_iload_n hx hb dX10_target_94 rfl (lv_at hl 3 rfl) ?_
        refine lv_iload_n hx hb dX10_target_95 rfl (lv_at hl 4 rfl) ?_
        refine lv_iload hx hb dX10_target_96 (lv_at hl 5 rfl) ?_
        refine lv_iload hx hb dX10_target_98 (lv_at hl 6 rfl) ?_
        obtain ⟨q4, e4, h⟩ := bd_some h
        refine g_callV (index := 79) (maxL := 7) (n := 5) (As := [.int v1, .int v2, .int v3, .int v4, .int v5]) (rest := []) (st1 := [.int q4.1]) (C1 := RX8) (T1 := TX8) (N1 := 10) (ws2 := (w_X10_target cI cJ cZ cG a_x a_x_now a_x_kept a_x_sheets a_x_plan a_x_draw a_x_blockade a_x_watch a_x_now_targets a_x_now_roads a_x_now_posts a_x_now_haunts a_x_now_targets_kind a_x_now_targets_saved a_x_now_targets_lost a_x_now_targets_gain a_x_now_targets_gap a_x_now_targets_least a_x_now_targets_most a_x_now_targets_hand x_isKept x_latestBelow x_findings q4.2.1 x_now_targets_guards q4.2.2.1 q4.2.2.2.1 q4.2.2.2.2.1 q4.2.2.2.2.2.1 q4.2.2.2.2.2.2.1 q4.2.2.2.2.2.2.2.1 q4.2.2.2.2.2.2.2.2.1 q4.2.2.2.2.2.2.2.2.2)) C hP hD hS hl.1 8 0 (c_X8_add l D cI cJ cZ cG a_x_now_targets a_x_now_targets_kind a_x_now_targets_saved a_x_now_targets_lost a_x_now_targets_gain a_x_now_targets_gap a_x_now_targets_least a_x_now_targets_most a_x_now_targets_hand x_now_targets_size x_now_targets_guards x_now_targets_kind x_now_targets_saved x_now_targets_lost x_now_targets_gain x_now_targets_gap x_now_targets_least x_now_targets_most x_now_targets_hand v1 v2 v3 v4 v5 q4 e4) gX10_target_X8_add rfl rfl rfl (by decide +kernel) ⟨Nat.le_of_ble_eq_true rfl, Nat.le_of_ble_eq_true rfl⟩ rfl rfl rfl (Nat.le_of_ble_eq_true rfl) rfl dX10_target_100 [2, 3, 4, 5, 6, 7, 8, 9, 10] [0, 1] [0, 1, 2, 3, 4, 5, 6, 7, 8, 9, 10] rfl rfl rfl rfl (by decide) rfl rfl rfl (fun H locs hP hD hS => ?_)
        obtain rfl := Option.some.inj h
        exact g_iret C hP hD hS dX10_target_103
      · have h := iff_ c3 h
        refine lv_ldc (v := (-1000000002)) hx hb hown (hts _ mb_X10_target_0) dX10_target_83 ?_
        obtain rfl := Option.some.inj h
        exact g_iret C hP hD hS dX10_target_85
set_option maxRecDepth 100000 in
set_option maxHeartbeats 4000000 in
theorem t_X10_target_b55 (C : cx D cI cJ cZ cG A cX10_target 8 (some .int) RX10 wsX10_target p s m args meth c) (a_x a_x_now a_x_kept a_x_sheets a_x_plan a_x_draw a_x_blockade a_x_watch a_x_now_targets a_x_now_roads a_x_now_posts a_x_now_haunts a_x_now_targets_kind a_x_now_targets_saved a_x_now_targets_lost a_x_now_targets_gain a_x_now_targets_gap a_x_now_targets_least a_x_now_targets_most a_x_now_targets_hand : Nat) (x_isKept : Int32) (x_latestBelow : Int32) (x_findings : Int32) (x_now_targets_guards : Int32) (q : Int32 × Int32 × (Nat → Int32) × (Nat → Int32) × (Nat → Int32) × (Nat → Int32) × (Nat → Int32) × (Nat → Int32) × (Nat → Int32) × (Nat → Int32)) (x_now_targets_size : Int32) (x_now_targets_kind : (Nat → Int32)) (x_now_targets_saved : (Nat → Int32)) (x_now_targets_lost : (Nat → Int32)) (x_now_targets_gain : (Nat → Int32)) (x_now_targets_gap : (Nat → Int32)) (x_now_targets_least : (Nat → Int32)) (x_now_targets_most : (Nat → Int32)) (x_now_targets_hand : (Nat → Int32)) (v1 : Int32) (v2 : Int32) (v3 : Int32) (v4 : Int32) (v5 : Int32) (v6 : Int32) (h : f_X10_target_b55 x_now_targets_size x_now_targets_kind x_now_targets_saved x_now_targets_lost x_now_targets_gain x_now_targets_gap x_now_targets_least x_now_targets_most x_now_targets_hand v1 v2 v3 v4 v5 v6 = some q) : WB p l e rm_X10_target s m args below meth c (MQ below (Qg D (some (.int q.1)) (w_X10_target cI cJ cZ cG a_x a_x_now a_x_kept a_x_sheets a_x_plan a_x_draw a_x_blockade a_x_watch a_x_now_targets a_x_now_roads a_x_now_posts a_x_now_haunts a_x_now_targets_kind a_x_now_targets_saved a_x_now_targets_lost a_x_now_targets_gain a_x_now_targets_gap a_x_now_targets_least a_x_now_targets_most a_x_now_targets_hand x_isKept x_latestBelow x_findings q.2.1 x_now_targets_guards q.2.2.1 q.2.2.2.1 q.2.2.2.2.1 q.2.2.2.2.2.1 q.2.2.2.2.2.2.1 q.2.2.2.2.2.2.2.1 q.2.2.2.2.2.2.2.2.1 q.2.2.2.2.2.2.2.2.2) A) args s 0 0 A) D A 8 (w_X10_target cI cJ cZ cG a_x a_x_now a_x_kept a_x_sheets a_x_plan a_x_draw a_x_blockade a_x_watch a_x_now_targets a_x_now_roads a_x_now_posts a_x_now_haunts a_x_now_targets_kind a_x_now_targets_saved a_x_now_targets_lost a_x_now_targets_gain a_x_now_targets_gap a_x_now_targets_least a_x_now_targets_most a_x_now_targets_hand x_isKept x_latestBelow x_findings x_now_targets_size x_now_targets_guards x_now_targets_kind x_now_targets_saved x_now_targets_lost x_now_targets_gain x_now_targets_gap x_now_targets_least x_now_targets_most x_now_targets_hand) [(0, .ref a_x), (1, .int v1), (2, .int v2), (3, .int v3), (4, .int v4), (5, .int v5), (6, .int v6)] [] 55 := by
  obtain ⟨hx, hb, hr, hml, hown, hts, hlk, hgk, hA⟩ := id C
  have hK := hgk.1
  unfold f_X10_target_b55 at h
  intro H locs ls hP hD hS hl
  refine lv_iconst (v := 0) hx hb dX10_target_55 (by decide) ?_
  exact t_X10_target_b56 C a_x a_x_now a_x_kept a_x_sheets a_x_plan a_x_draw a_x_blockade a_x_watch a_x_now_targets a_x_now_roads a_x_now_posts a_x_now_haunts a_x_now_targets_kind a_x_now_targets_saved a_x_now_targets_lost a_x_now_targets_gain a_x_now_targets_gap a_x_now_targets_least a_x_now_targets_most a_x_now_targets_hand x_isKept x_latestBelow x_findings x_now_targets_guards q x_now_targets_size x_now_targets_kind x_now_targets_saved x_now_targets_lost x_now_targets_gain x_now_targets_gap x_now_targets_least x_now_targets_most x_now_targets_hand 0 v1 v2 v3 v4 v5 v6 h H locs ls hP hD hS (lv_sub hl [0, 1, 2, 3, 4, 5, 6] rfl)
set_option maxRecDepth 100000 in
set_option maxHeartbeats 4000000 in
theorem t_X10_target_b22 (C : cx D cI cJ cZ cG A cX10_target 8 (some .int) RX10 wsX10_target p s m args meth c) (a_x a_x_now a_x_kept a_x_sheets a_x_plan a_x_draw a_x_blockade a_x_watch a_x_now_targets a_x_now_roads a_x_now_posts a_x_now_haunts a_x_now_targets_kind a_x_now_targets_saved a_x_now_targets_lost a_x_now_targets_gain a_x_now_targets_gap a_x_now_targets_least a_x_now_targets_most a_x_now_targets_hand : Nat) (x_isKept : Int32) (x_latestBelow : Int32) (x_findings : Int32) (x_now_targets_guards : Int32) (q : Int32 × Int32 × (Nat → Int32) × (Nat → Int32) × (Nat → Int32) × (Nat → Int32) × (Nat → Int32) × (Nat → Int32) × (Nat → Int32) × (Nat → Int32)) (x_now_targets_size : Int32) (x_now_targets_kind : (Nat → Int32)) (x_now_targets_saved : (Nat → Int32)) (x_now_targets_lost : (Nat → Int32)) (x_now_targets_gain : (Nat → Int32)) (x_now_targets_gap : (Nat → Int32)) (x_now_targets_least : (Nat → Int32)) (x_now_targets_most : (Nat → Int32)) (x_now_targets_hand : (Nat → Int32)) (k0 : Int32) (v1 : Int32) (v2 : Int32) (v3 : Int32) (v4 : Int32) (v5 : Int32) (h : f_X10_target_b22 x_now_targets_size x_now_targets_kind x_now_targets_saved x_now_targets_lost x_now_targets_gain x_now_targets_gap x_now_targets_least x_now_targets_most x_now_targets_hand k0 v1 v2 v3 v4 v5 = some q) : WB p l e rm_X10_target s m args below meth c (MQ below (Qg D (some (.int q.1)) (w_X10_target cI cJ cZ cG a_x a_x_now a_x_kept a_x_sheets a_x_plan a_x_draw a_x_blockade a_x_watch a_x_now_targets a_x_now_roads a_x_now_posts a_x_now_haunts a_x_now_targets_kind a_x_now_targets_saved a_x_now_targets_lost a_x_now_targets_gain a_x_now_targets_gap a_x_now_targets_least a_x_now_targets_most a_x_now_targets_hand x_isKept x_latestBelow x_findings q.2.1 x_now_targets_guards q.2.2.1 q.2.2.2.1 q.2.2.2.2.1 q.2.2.2.2.2.1 q.2.2.2.2.2.2.1 q.2.2.2.2.2.2.2.1 q.2.2.2.2.2.2.2.2.1 q.2.2.2.2.2.2.2.2.2) A) args s 0 0 A) D A 8 (w_X10_target cI cJ cZ cG a_x a_x_now a_x_kept a_x_sheets a_x_plan a_x_draw a_x_blockade a_x_watch a_x_now_targets a_x_now_roads a_x_now_posts a_x_now_haunts a_x_now_targets_kind a_x_now_targets_saved a_x_now_targets_lost a_x_now_targets_gain a_x_now_targets_gap a_x_now_targets_least a_x_now_targets_most a_x_now_targets_hand x_isKept x_latestBelow x_findings x_now_targets_size x_now_targets_guards x_now_targets_kind x_now_targets_saved x_now_targets_lost x_now_targets_gain x_now_targets_gap x_now_targets_least x_now_targets_most x_now_targets_hand) [(0, .ref a_x), (1, .int v1), (2, .int v2), (3, .int v3), (4, .int v4), (5, .int v5)] [.int k0] 22 := by
  obtain ⟨hx, hb, hr, hml, hown, hts, hlk, hgk, hA⟩ := id C
  have hK := hgk.1
  unfold f_X10_target_b22 at h
  intro H locs ls hP hD hS hl
  refine lv_istore (lv' := [(6, .int k0), (0, .ref a_x), (1, .int v1), (2, .int v2), (3, .int v3), (4, .int v4), (5, .int v5)]) hx hb dX10_target_22 hl (by decide) rfl (fun ls hl => ?_)
  refine lv_iload_n hx hb dX10_target_24 rfl (lv_at hl 3 rfl) ?_
  refine g_callS0 (index := 66) (maxL := 1) (n := 1) (As := [.int v2]) (rest := []) (st1 := [.int (f_X10_isPay v2)]) C hP hS hl.1 (c_X10_isPay l D cI cJ cZ cG v2 _ rfl) gX10_target_X10_isPay rfl rfl rfl (by decide +kernel) ⟨Nat.le_of_ble_eq_true rfl, Nat.le_of_ble_eq_true rfl⟩ rfl (Nat.le_of_ble_eq_true rfl) rfl dX10_target_25 rfl (fun H locs hP hS => ?_)
  refine lv_if_eq (tgt := 55) hx hb dX10_target_28 (by decide) (fun c1 => ?_) (fun c1 => ?_)
  · have h := ift c1 h
    exact t_X10_target_b55 C a_x a_x_now a_x_kept a_x_sheets a_x_plan a_x_draw a_x_blockade a_x_watch a_x_now_targets a_x_now_roads a_x_now_posts a_x_now_haunts a_x_now_targets_kind a_x_now_targets_saved a_x_now_targets_lost a_x_now_targets_gain a_x_now_targets_gap a_x_now_targets_least a_x_now_targets_most a_x_now_targets_hand x_isKept x_latestBelow x_findings x_now_targets_guards q x_now_targets_size x_now_targets_kind x_now_targets_saved x_now_targets_lost x_now_targets_gain x_now_targets_gap x_now_targets_least x_now_targets_most x_now_targets_hand v1 v2 v3 v4 v5 k0 h H locs ls hP hD hS (lv_sub hl [1, 2, 3, 4, 5, 6, 0] rfl)
  · have h := iff_ c1 h
    refine lv_iload_n hx hb dX10_target_31 rfl (lv_at hl 4 rfl) ?_
    refine g_callS0 (index := 66) (maxL := 1) (n := 1) (As := [.int v3]) (rest := []) (st1 := [.int (f_X10_isPay v3)]) C hP hS hl.1 (c_X10_isPay l D cI cJ cZ cG v3 _ rfl) gX10_target_X10_isPay rfl rfl rfl (by decide +kernel) ⟨Nat.le_of_ble_eq_true rfl, Nat.le_of_ble_eq_true rfl⟩ rfl (Nat.le_of_ble_eq_true rfl) rfl dX10_target_32 rfl (fun H locs hP hS => ?_)
    refine lv_if_eq (tgt := 55) hx hb dX10_target_35 (by decide) (fun c2 => ?_) (fun c2 => ?_)
    · have h := ift c2 h
      exact t_X10_target_b55 C a_x a_x_now a_x_kept a_x_sheets a_x_plan a_x_draw a_x_blockade a_x_watch a_x_now_targets a_x_now_roads a_x_now_posts a_x_now_haunts a_x_now_targets_kind a_x_now_targets_saved a_x_now_targets_lost a_x_now_targets_gain a_x_now_targets_gap a_x_now_targets_least a_x_now_targets_most a_x_now_targets_hand x_isKept x_latestBelow x_findings x_now_targets_guards q x_now_targets_size x_now_targets_kind x_now_targets_saved x_now_targets_lost x_now_targets_gain x_now_targets_gap x_now_targets_least x_now_targets_most x_now_targets_hand v1 v2 v3 v4 v5 k0 h H locs ls hP hD hS (lv_sub hl [1, 2, 3, 4, 5, 6, 0] rfl)
    · have h := iff_ c2 h
      refine lv_iload hx hb dX10_target_38 (lv_at hl 5 rfl) ?_
      refine g_callS0 (index := 66) (maxL := 1) (n := 1) (As := [.int v4]) (rest := []) (st1 := [.int (f_X10_isPay v4)]) C hP hS hl.1 (c_X10_isPay l D cI cJ cZ cG v4 _ rfl) gX10_target_X10_isPay rfl rfl rfl (by decide +kernel) ⟨Nat.le_of_ble_eq_true rfl, Nat.le_of_ble_eq_true rfl⟩ rfl (Nat.le_of_ble_eq_true rfl) rfl dX10_target_40 rfl (fun H locs hP hS => ?_)
      refine lv_if_eq (tgt := 55) hx hb dX10_target_43 (by decide) (fun c3 => ?_) (fun c3 => ?_)
      · have h := ift c3 h
        exact t_X10_target_b55 C a_x a_x_now a_x_kept a_x_sheets a_x_plan a_x_draw a_x_blockade a_x_watch a_x_now_targets a_x_now_roads a_x_now_posts a_x_now_haunts a_x_now_targets_kind a_x_now_targets_saved a_x_now_targets_lost a_x_now_targets_gain a_x_now_targets_gap a_x_now_targets_least a_x_now_targets_most a_x_now_targets_hand x_isKept x_latestBelow x_findings x_now_targets_guards q x_now_targets_size x_now_targets_kind x_now_targets_saved x_now_targets_lost x_now_targets_gain x_now_targets_gap x_now_targets_least x_now_targets_most x_now_targets_hand v1 v2 v3 v4 v5 k0 h H locs ls hP hD hS (lv_sub hl [1, 2, 3, 4, 5, 6, 0] rfl)
      · have h := iff_ c3 h
        refine lv_iload_n hx hb dX10_target_46 rfl (lv_at hl 4 rfl) ?_
        refine lv_iload_n hx hb dX10_target_47 rfl (lv_at hl 3 rfl) ?_
        refine lv_icmp_gt (tgt := 55) hx hb dX10_target_48 (by decide) (fun c4 => ?_) (fun c4 => ?_)
        · have h := ift c4 h
          exact t_X10_target_b55 C a_x a_x_now a_x_kept a_x_sheets a_x_plan a_x_draw a_x_blockade a_x_watch a_x_now_targets a_x_now_roads a_x_now_posts a_x_now_haunts a_x_now_targets_kind a_x_now_targets_saved a_x_now_targets_lost a_x_now_targets_gain a_x_now_targets_gap a_x_now_targets_least a_x_now_targets_most a_x_now_targets_hand x_isKept x_latestBelow x_findings x_now_targets_guards q x_now_targets_size x_now_targets_kind x_now_targets_saved x_now_targets_lost x_now_targets_gain x_now_targets_gap x_now_targets_least x_now_targets_most x_now_targets_hand v1 v2 v3 v4 v5 k0 h H locs ls hP hD hS (lv_sub hl [1, 2, 3, 4, 5, 6, 0] rfl)
        · have h := iff_ c4 h
          refine lv_iconst (v := 1) hx hb dX10_target_51 (by decide) ?_
          refine lv_goto (tgt := 56) hx hb dX10_target_52 (by decide) ?_
          exact t_X10_target_b56 C a_x a_x_now a_x_kept a_x_sheets a_x_plan a_x_draw a_x_blockade a_x_watch a_x_now_targets a_x_now_roads a_x_now_posts a_x_now_haunts a_x_now_targets_kind a_x_now_targets_saved a_x_now_targets_lost a_x_now_targets_gain a_x_now_targets_gap a_x_now_targets_least a_x_now_targets_most a_x_now_targets_hand x_isKept x_latestBelow x_findings x_now_targets_guards q x_now_targets_size x_now_targets_kind x_now_targets_saved x_now_targets_lost x_now_targets_gain x_now_targets_gap x_now_targets_least x_now_targets_most x_now_targets_hand 1 v1 v2 v3 v4 v5 k0 h H locs ls hP hD hS (lv_sub hl [1, 2, 3, 4, 5, 6, 0] rfl)
set_option maxRecDepth 100000 in
set_option maxHeartbeats 4000000 in
theorem t_X10_target_b21 (C : cx D cI cJ cZ cG A cX10_target 8 (some .int) RX10 wsX10_target p s m args meth c) (a_x a_x_now a_x_kept a_x_sheets a_x_plan a_x_draw a_x_blockade a_x_watch a_x_now_targets a_x_now_roads a_x_now_posts a_x_now_haunts a_x_now_targets_kind a_x_now_targets_saved a_x_now_targets_lost a_x_now_targets_gain a_x_now_targets_gap a_x_now_targets_least a_x_now_targets_most a_x_now_targets_hand : Nat) (x_isKept : Int32) (x_latestBelow : Int32) (x_findings : Int32) (x_now_targets_guards : Int32) (q : Int32 × Int32 × (Nat → Int32) × (Nat → Int32) × (Nat → Int32) × (Nat → Int32) × (Nat → Int32) × (Nat → Int32) × (Nat → Int32) × (Nat → Int32)) (x_now_targets_size : Int32) (x_now_targets_kind : (Nat → Int32)) (x_now_targets_saved : (Nat → Int32)) (x_now_targets_lost : (Nat → Int32)) (x_now_targets_gain : (Nat → Int32)) (x_now_targets_gap : (Nat → Int32)) (x_now_targets_least : (Nat → Int32)) (x_now_targets_most : (Nat → Int32)) (x_now_targets_hand : (Nat → Int32)) (v1 : Int32) (v2 : Int32) (v3 : Int32) (v4 : Int32) (v5 : Int32) (h : f_X10_target_b21 x_now_targets_size x_now_targets_kind x_now_targets_saved x_now_targets_lost x_now_targets_gain x_now_targets_gap x_now_targets_least x_now_targets_most x_now_targets_hand v1 v2 v3 v4 v5 = some q) : WB p l e rm_X10_target s m args below meth c (MQ below (Qg D (some (.int q.1)) (w_X10_target cI cJ cZ cG a_x a_x_now a_x_kept a_x_sheets a_x_plan a_x_draw a_x_blockade a_x_watch a_x_now_targets a_x_now_roads a_x_now_posts a_x_now_haunts a_x_now_targets_kind a_x_now_targets_saved a_x_now_targets_lost a_x_now_targets_gain a_x_now_targets_gap a_x_now_targets_least a_x_now_targets_most a_x_now_targets_hand x_isKept x_latestBelow x_findings q.2.1 x_now_targets_guards q.2.2.1 q.2.2.2.1 q.2.2.2.2.1 q.2.2.2.2.2.1 q.2.2.2.2.2.2.1 q.2.2.2.2.2.2.2.1 q.2.2.2.2.2.2.2.2.1 q.2.2.2.2.2.2.2.2.2) A) args s 0 0 A) D A 8 (w_X10_target cI cJ cZ cG a_x a_x_now a_x_kept a_x_sheets a_x_plan a_x_draw a_x_blockade a_x_watch a_x_now_targets a_x_now_roads a_x_now_posts a_x_now_haunts a_x_now_targets_kind a_x_now_targets_saved a_x_now_targets_lost a_x_now_targets_gain a_x_now_targets_gap a_x_now_targets_least a_x_now_targets_most a_x_now_targets_hand x_isKept x_latestBelow x_findings x_now_targets_size x_now_targets_guards x_now_targets_kind x_now_targets_saved x_now_targets_lost x_now_targets_gain x_now_targets_gap x_now_targets_least x_now_targets_most x_now_targets_hand) [(0, .ref a_x), (1, .int v1), (2, .int v2), (3, .int v3), (4, .int v4), (5, .int v5)] [] 21 := by
  obtain ⟨hx, hb, hr, hml, hown, hts, hlk, hgk, hA⟩ := id C
  have hK := hgk.1
  unfold f_X10_target_b21 at h
  intro H locs ls hP hD hS hl
  refine lv_iconst (v := 0) hx hb dX10_target_21 (by decide) ?_
  exact t_X10_target_b22 C a_x a_x_now a_x_kept a_x_sheets a_x_plan a_x_draw a_x_blockade a_x_watch a_x_now_targets a_x_now_roads a_x_now_posts a_x_now_haunts a_x_now_targets_kind a_x_now_targets_saved a_x_now_targets_lost a_x_now_targets_gain a_x_now_targets_gap a_x_now_targets_least a_x_now_targets_most a_x_now_targets_hand x_isKept x_latestBelow x_findings x_now_targets_guards q x_now_targets_size x_now_targets_kind x_now_targets_saved x_now_targets_lost x_now_targets_gain x_now_targets_gap x_now_targets_least x_now_targets_most x_now_targets_hand 0 v1 v2 v3 v4 v5 h H locs ls hP hD hS (lv_sub hl [0, 1, 2, 3, 4, 5] rfl)
set_option maxRecDepth 100000 in
set_option maxHeartbeats 4000000 in
theorem c_X10_target (l : Launch) (D : va_G) (cI cJ cZ cG : ClassId) (a_x a_x_now a_x_kept a_x_sheets a_x_plan a_x_draw a_x_blockade a_x_watch a_x_now_targets a_x_now_roads a_x_now_posts a_x_now_haunts a_x_now_targets_kind a_x_now_targets_saved a_x_now_targets_lost a_x_now_targets_gain a_x_now_targets_gap a_x_now_targets_least a_x_now_targets_most a_x_now_targets_hand : Nat) (x_isKept : Int32) (x_latestBelow : Int32) (x_findings : Int32) (x_now_targets_size : Int32) (x_now_targets_guards : Int32) (x_now_targets_kind : (Nat → Int32)) (x_now_targets_saved : (Nat → Int32)) (x_now_targets_lost : (Nat → Int32)) (x_now_targets_gain : (Nat → Int32)) (x_now_targets_gap : (Nat → Int32)) (x_now_targets_least : (Nat → Int32)) (x_now_targets_most : (Nat → Int32)) (x_now_targets_hand : (Nat → Int32)) (p1 : Int32) (p2 : Int32) (p3 : Int32) (p4 : Int32) (p5 : Int32) (q : Int32 × Int32 × (Nat → Int32) × (Nat → Int32) × (Nat → Int32) × (Nat → Int32) × (Nat → Int32) × (Nat → Int32) × (Nat → Int32) × (Nat → Int32)) (h : f_X10_target x_now_targets_size x_now_targets_kind x_now_targets_saved x_now_targets_lost x_now_targets_gain x_now_targets_gap x_now_targets_least x_now_targets_most x_now_targets_hand p1 p2 p3 p4 p5 = some q) : gMet l yX10_target wsX10_target rm_X10_target [.ref a_x, .int p1, .int p2, .int p3, .int p4, .int p5] (w_X10_target cI cJ cZ cG a_x a_x_now a_x_kept a_x_sheets a_x_plan a_x_draw a_x_blockade a_x_watch a_x_now_targets a_x_now_roads a_x_now_posts a_x_now_haunts a_x_now_targets_kind a_x_now_targets_saved a_x_now_targets_lost a_x_now_targets_gain a_x_now_targets_gap a_x_now_targets_least a_x_now_targets_most a_x_now_targets_hand x_isKept x_latestBelow x_findings x_now_targets_size x_now_targets_guards x_now_targets_kind x_now_targets_saved x_now_targets_lost x_now_targets_gain x_now_targets_gap x_now_targets_least x_now_targets_most x_now_targets_hand) (w_X10_target cI cJ cZ cG a_x a_x_now a_x_kept a_x_sheets a_x_plan a_x_draw a_x_blockade a_x_watch a_x_now_targets a_x_now_roads a_x_now_posts a_x_now_haunts a_x_now_targets_kind a_x_now_targets_saved a_x_now_targets_lost a_x_now_targets_gain a_x_now_targets_gap a_x_now_targets_least a_x_now_targets_most a_x_now_targets_hand x_isKept x_latestBelow x_findings q.2.1 x_now_targets_guards q.2.2.1 q.2.2.2.1 q.2.2.2.2.1 q.2.2.2.2.2.1 q.2.2.2.2.2.2.1 q.2.2.2.2.2.2.2.1 q.2.2.2.2.2.2.2.2.1 q.2.2.2.2.2.2.2.2.2) (some (.int q.1)) D cI cJ cZ cG := by
  refine g_enter (cc := cX10_target) (nL := 8) (ret := (some .int)) (by decide) rfl (Nat.le_of_ble_eq_true rfl) ?_
  intro p e s m below meth c A C H locs ls hP hD hS hl
  obtain ⟨hx, hb, hr, hml, hown, hts, hlk, hgk, hA⟩ := id C
  have hK := hgk.1
  have hl : lv_has ls 8 [(0, .ref a_x), (1, .int p1), (2, .int p2), (3, .int p3), (4, .int p4), (5, .int p5)] := hl
  unfold f_X10_target at h
  refine lv_iload_n hx hb dX10_target_0 rfl (lv_at hl 1 rfl) ?_
  refine lv_iconst (v := 0) hx hb dX10_target_1 (by decide) ?_
  refine lv_iconst (v := 3) hx hb dX10_target_2 (by decide) ?_
  refine g_callS0 (index := 58) (maxL := 3) (n := 3) (As := [.int p1, .int 0, .int 3]) (rest := []) (st1 := [.int (f_X10_isFrom p1 0 3)]) C hP hS hl.1 (c_X10_isFrom l D cI cJ cZ cG p1 0 3 _ rfl) gX10_target_X10_isFrom rfl rfl rfl (by decide +kernel) ⟨Nat.le_of_ble_eq_true rfl, Nat.le_of_ble_eq_true rfl⟩ rfl (Nat.le_of_ble_eq_true rfl) rfl dX10_target_3 rfl (fun H locs hP hS => ?_)
  refine lv_if_eq (tgt := 21) hx hb dX10_target_6 (by decide) (fun c1 => ?_) (fun c1 => ?_)
  · have h := ift c1 h
    exact t_X10_target_b21 C a_x a_x_now a_x_kept a_x_sheets a_x_plan a_x_draw a_x_blockade a_x_watch a_x_now_targets a_x_now_roads a_x_now_posts a_x_now_haunts a_x_now_targets_kind a_x_now_targets_saved a_x_now_targets_lost a_x_now_targets_gain a_x_now_targets_gap a_x_now_targets_least a_x_now_targets_most a_x_now_targets_hand x_isKept x_latestBelow x_findings x_now_targets_guards q x_now_targets_size x_now_targets_kind x_now_targets_saved x_now_targets_lost x_now_targets_gain x_now_targets_gap x_now_targets_least x_now_targets_most x_now_targets_hand p1 p2 p3 p4 p5 h H locs ls hP hD hS (lv_sub hl [0, 1, 2, 3, 4, 5] rfl)
  · have h := iff_ c1 h
    refine lv_iload hx hb dX10_target_9 (lv_at hl 5 rfl) ?_
    obtain ⟨q2, e2, h⟩ := bd_some h
    refine g_callS0 (index := 62) (maxL := 1) (n := 1) (As := [.int p5]) (rest := []) (st1 := [.int q2]) C hP hS hl.1 (c_X10_isGap l D cI cJ cZ cG p5 q2 e2) gX10_target_X10_isGap rfl rfl rfl (by decide +kernel) ⟨Nat.le_of_ble_eq_true rfl, Nat.le_of_ble_eq_true rfl⟩ rfl (Nat.le_of_ble_eq_true rfl) rfl dX10_target_11 rfl (fun H locs hP hS => ?_)
    refine lv_if_eq (tgt := 21) hx hb dX10_target_14 (by decide) (fun c3 => ?_) (fun c3 => ?_)
    · have h := ift c3 h
      exact t_X10_target_b21 C a_x a_x_now a_x_kept a_x_sheets a_x_plan a_x_draw a_x_blockade a_x_watch a_x_now_targets a_x_now_roads a_x_now_posts a_x_now_haunts a_x_now_targets_kind a_x_now_targets_saved a_x_now_targets_lost a_x_now_targets_gain a_x_now_targets_gap a_x_now_targets_least a_x_now_targets_most a_x_now_targets_hand x_isKept x_latestBelow x_findings x_now_targets_guards q x_now_targets_size x_now_targets_kind x_now_targets_saved x_now_targets_lost x_now_targets_gain x_now_targets_gap x_now_targets_least x_now_targets_most x_now_targets_hand p1 p2 p3 p4 p5 h H locs ls hP hD hS (lv_sub hl [0, 1, 2, 3, 4, 5] rfl)
    · have h := iff_ c3 h
      refine lv_iconst (v := 1) hx hb dX10_target_17 (by decide) ?_
      refine lv_goto (tgt := 22) hx hb dX10_target_18 (by decide) ?_
      exact t_X10_target_b22 C a_x a_x_now a_x_kept a_x_sheets a_x_plan a_x_draw a_x_blockade a_x_watch a_x_now_targets a_x_now_roads a_x_now_posts a_x_now_haunts a_x_now_targets_kind a_x_now_targets_saved a_x_now_targets_lost a_x_now_targets_gain a_x_now_targets_gap a_x_now_targets_least a_x_now_targets_most a_x_now_targets_hand x_isKept x_latestBelow x_findings x_now_targets_guards q x_now_targets_size x_now_targets_kind x_now_targets_saved x_now_targets_lost x_now_targets_gain x_now_targets_gap x_now_targets_least x_now_targets_most x_now_targets_hand 1 p1 p2 p3 p4 p5 h H locs ls hP hD hS (lv_sub hl [0, 1, 2, 3, 4, 5] rfl)
theorem in_X10_hostFinding_X10 : ∀ w ∈ wsX100, w ∈ wsX10_hostFinding := by decide +kernel
theorem mb_X10_hostFinding_0 : Cond.fieldLink RX10 278 "GuardDesk" "findings" "I" ∈ wsX10_hostFinding := List.mem_of_getElem? (i := 1) rfl
set_option maxRecDepth 100000 in
set_option maxHeartbeats 4000000 in
theorem c_X10_hostFinding (l : Launch) (D : va_G) (cI cJ cZ cG : ClassId) (a_x a_x_now a_x_kept a_x_sheets a_x_plan a_x_draw a_x_blockade a_x_watch : Nat) (x_isKept : Int32) (x_latestBelow : Int32) (x_findings : Int32) (p1 : Int32) (q : Int32 × Int32) (h : f_X10_hostFinding x_findings p1 = q) : gMet l yX10_hostFinding wsX10_hostFinding rm_X10_hostFinding [.ref a_x, .int p1] (w_X10_hostFinding cI cJ cZ cG a_x a_x_now a_x_kept a_x_sheets a_x_plan a_x_draw a_x_blockade a_x_watch x_isKept x_latestBelow x_findings) (w_X10_hostFinding cI cJ cZ cG a_x a_x_now a_x_kept a_x_sheets a_x_plan a_x_draw a_x_blockade a_x_watch x_isKept x_latestBelow q.2) (some (.int q.1)) D cI cJ cZ cG := by
  refine g_enter (cc := cX10_hostFinding) (nL := 2) (ret := (some .int)) (by decide) rfl (Nat.le_of_ble_eq_true rfl) ?_
  intro p e s m below meth c A C H locs ls hP hD hS hl
  obtain ⟨hx, hb, hr, hml, hown, hts, hlk, hgk, hA⟩ := id C
  have hK := hgk.1
  have hl : lv_has ls 2 [(0, .ref a_x), (1, .int p1)] := hl
  unfold f_X10_hostFinding at h
  refine lv_aload_n hx hb dX10_hostFinding_0 rfl (lv_at hl 0 rfl) ?_
  refine lv_dup hx hb dX10_hostFinding_1 rfl ?_
  refine va_get (D := D) (ci := 10) (v := .int x_findings) (C := RX10) (T := TX10) (N := 10) hx hb hts in_X10_hostFinding_X10 hown hK hP 0 rfl rfl 9 (by decide) (hts _ mb_X10_hostFinding_0) (fun _ h9 => h9) rfl dX10_hostFinding_2 ?_
  refine lv_iconst (v := 1) hx hb dX10_hostFinding_5 (by decide) ?_
  refine lv_iadd hx hb dX10_hostFinding_6 ?_
  refine va_put (D := D) (ci := 10) (v := .int (x_findings + 1)) (ty := .int) (C := RX10) (T := TX10) (N := 10) hx hb hts in_X10_hostFinding_X10 tyX10 tyX10_ok nmX10 hown hK hP hD hS 0 rfl rfl 9 (by decide) (hts _ mb_X10_hostFinding_0) (fun _ h9 => h9) rfl (by decide +kernel) rfl rfl (Nat.le_of_ble_eq_true rfl) dX10_hostFinding_7 (fun H locs hP hD hS => ?_)
  have hP : va_P D vwCl (w_X10_hostFinding cI cJ cZ cG a_x a_x_now a_x_kept a_x_sheets a_x_plan a_x_draw a_x_blockade a_x_watch x_isKept x_latestBelow (x_findings + 1)) H := hP
  have hD : va_D A (w_X10_hostFinding cI cJ cZ cG a_x a_x_now a_x_kept a_x_sheets a_x_plan a_x_draw a_x_blockade a_x_watch x_isKept x_latestBelow (x_findings + 1)) := hD
  refine lv_iload_n hx hb dX10_hostFinding_10 rfl (lv_at hl 1 rfl) ?_
  obtain rfl := h
  exact g_iret C hP hD hS dX10_hostFinding_11
theorem in_X10_bounds_X10 : ∀ w ∈ wsX100, w ∈ wsX10_bounds := by decide +kernel
theorem in_X10_bounds_X6 : ∀ w ∈ wsX60, w ∈ wsX10_bounds := by decide +kernel
theorem in_X10_bounds_X8 : ∀ w ∈ wsX80, w ∈ wsX10_bounds := by decide +kernel
theorem mb_X10_bounds_0 : Cond.fieldLink RX10 95 "GuardDesk$Targets" "least" "[I" ∈ wsX10_bounds := List.mem_of_getElem? (i := 6) rfl
theorem mb_X10_bounds_1 : Cond.fieldLink RX10 98 "GuardDesk$Targets" "most" "[I" ∈ wsX10_bounds := List.mem_of_getElem? (i := 7) rfl
theorem mb_X10_bounds_2 : Cond.constant RX10 78 (-1000000002) ∈ wsX10_bounds := List.mem_of_getElem? (i := 3) rfl
theorem mb_X10_bounds_3 : Cond.fieldLink RX10 10 "GuardDesk" "now" "LGuardDesk$Scene;" ∈ wsX10_bounds := List.mem_of_getElem? (i := 1) rfl
theorem mb_X10_bounds_4 : Cond.fieldLink RX10 69 "GuardDesk$Scene" "targets" "LGuardDesk$Targets;" ∈ wsX10_bounds := List.mem_of_getElem? (i := 2) rfl
theorem mb_X10_bounds_5 : Cond.fieldLink RX10 86 "GuardDesk$Targets" "kind" "[I" ∈ wsX10_bounds := List.mem_of_getElem? (i := 4) rfl
theorem mb_X10_bounds_6 : Cond.constant RX10 90 (-1000000012) ∈ wsX10_bounds := List.mem_of_getElem? (i := 5) rfl
set_option maxRecDepth 100000 in
set_option maxHeartbeats 4000000 in
theorem t_X10_bounds_b81 (C : cx D cI cJ cZ cG A cX10_bounds 6 (some .int) RX10 wsX10_bounds p s m args meth c) (a_x a_x_now a_x_kept a_x_sheets a_x_plan a_x_draw a_x_blockade a_x_watch a_x_now_targets a_x_now_roads a_x_now_posts a_x_now_haunts a_x_now_targets_kind a_x_now_targets_saved a_x_now_targets_lost a_x_now_targets_gain a_x_now_targets_gap a_x_now_targets_least a_x_now_targets_most a_x_now_targets_hand : Nat) (x_isKept : Int32) (x_latestBelow : Int32) (x_now_targets_size : Int32) (x_now_targets_guards : Int32) (x_now_targets_kind : (Nat → Int32)) (q : Int32 × Int32 × (Nat → Int32) × (Nat → Int32)) (x_findings : Int32) (x_now_targets_least : (Nat → Int32)) (x_now_targets_most : (Nat → Int32)) (v1 : Int32) (v2 : Int32) (v3 : Int32) (h : f_X10_bounds_b81 x_now_targets_size x_now_targets_kind x_findings x_now_targets_least x_now_targets_most v1 v2 v3 = some q) : WB p l e rm_X10_bounds s m args below meth c (MQ below (Qg D (some (.int q.1)) (w_X10_bounds cI cJ cZ cG a_x a_x_now a_x_kept a_x_sheets a_x_plan a_x_draw a_x_blockade a_x_watch a_x_now_targets a_x_now_roads a_x_now_posts a_x_now_haunts a_x_now_targets_kind a_x_now_targets_saved a_x_now_targets_lost a_x_now_targets_gain a_x_now_targets_gap a_x_now_targets_least a_x_now_targets_most a_x_now_targets_hand x_isKept x_latestBelow q.2.1 x_now_targets_size x_now_targets_guards x_now_targets_kind q.2.2.1 q.2.2.2) A) args s 0 0 A) D A 6 (w_X10_bounds cI cJ cZ cG a_x a_x_now a_x_kept a_x_sheets a_x_plan a_x_draw a_x_blockade a_x_watch a_x_now_targets a_x_now_roads a_x_now_posts a_x_now_haunts a_x_now_targets_kind a_x_now_targets_saved a_x_now_targets_lost a_x_now_targets_gain a_x_now_targets_gap a_x_now_targets_least a_x_now_targets_most a_x_now_targets_hand x_isKept x_latestBelow x_findings x_now_targets_size x_now_targets_guards x_now_targets_kind x_now_targets_least x_now_targets_most) [(1, .int v1), (2, .int v2), (3, .int v3), (4, .ref a_x_now_targets)] [] 81 := by
  obtain ⟨hx, hb, hr, hml, hown, hts, hlk, hgk, hA⟩ := id C
  have hK := hgk.1
  unfold f_X10_bounds_b81 at h
  intro H locs ls hP hD hS hl
  refine lv_aload hx hb dX10_bounds_81 (lv_at hl 3 rfl) ?_
  refine va_get (D := D) (ci := 8) (v := .ref a_x_now_targets_least) (C := RX8) (T := TX8) (N := 10) hx hb hts in_X10_bounds_X8 hown hK hP 2 rfl rfl 7 (by decide) (hts _ mb_X10_bounds_0) (fun _ h9 => h9) rfl dX10_bounds_83 ?_
  refine lv_iload_n hx hb dX10_bounds_86 rfl (lv_at hl 0 rfl) ?_
  refine lv_iload_n hx hb dX10_bounds_87 rfl (lv_at hl 1 rfl) ?_
  obtain ⟨i1, h⟩ := gI_some h
  refine va_iast hx hb hK hP hD hS 4 0 rfl rfl i1 dX10_bounds_88 (fun H locs hP hD hS => ?_)
  have hP : va_P D vwCl (w_X10_bounds cI cJ cZ cG a_x a_x_now a_x_kept a_x_sheets a_x_plan a_x_draw a_x_blockade a_x_watch a_x_now_targets a_x_now_roads a_x_now_posts a_x_now_haunts a_x_now_targets_kind a_x_now_targets_saved a_x_now_targets_lost a_x_now_targets_gain a_x_now_targets_gap a_x_now_targets_least a_x_now_targets_most a_x_now_targets_hand x_isKept x_latestBelow x_findings x_now_targets_size x_now_targets_guards x_now_targets_kind (upd x_now_targets_least v1.toNatClampNeg v2) x_now_targets_most) H := hP
  have hD : va_D A (w_X10_bounds cI cJ cZ cG a_x a_x_now a_x_kept a_x_sheets a_x_plan a_x_draw a_x_blockade a_x_watch a_x_now_targets a_x_now_roads a_x_now_posts a_x_now_haunts a_x_now_targets_kind a_x_now_targets_saved a_x_now_targets_lost a_x_now_targets_gain a_x_now_targets_gap a_x_now_targets_least a_x_now_targets_most a_x_now_targets_hand x_isKept x_latestBelow x_findings x_now_targets_size x_now_targets_guards x_now_targets_kind (upd x_now_targets_least v1.toNatClampNeg v2) x_now_targets_most) := hD
  refine lv_aload hx hb dX10_bounds_89 (lv_at hl 3 rfl) ?_
  refine va_get (D := D) (ci := 8) (v := .ref a_x_now_targets_most) (C := RX8) (T := TX8) (N := 10) hx hb hts in_X10_bounds_X8 hown hK hP 2 rfl rfl 8 (by decide) (hts _ mb_X10_bounds_1) (fun _ h9 => h9) rfl dX10_bounds_91 ?_
  refine lv_iload_n hx hb dX10_bounds_94 rfl (lv_at hl 0 rfl) ?_
  refine lv_iload_n hx hb dX10_bounds_95 rfl (lv_at hl 2 rfl) ?_
  obtain ⟨i2, h⟩ := gI_some h
  refine va_iast hx hb hK hP hD hS 5 0 rfl rfl i2 dX10_bounds_96 (fun H locs hP hD hS => ?_)
  have hP : va_P D vwCl (w_X10_bounds cI cJ cZ cG a_x a_x_now a_x_kept a_x_sheets a_x_plan a_x_draw a_x_blockade a_x_watch a_x_now_targets a_x_now_roads a_x_now_posts a_x_now_haunts a_x_now_targets_kind a_x_now_targets_saved a_x_now_targets_lost a_x_now_targets_gain a_x_now_targets_gap a_x_now_targets_least a_x_now_targets_most a_x_now_targets_hand x_isKept x_latestBelow x_findings x_now_targets_size x_now_targets_guards x_now_targets_kind (upd x_now_targets_least v1.toNatClampNeg v2) (upd x_now_targets_most v1.toNatClampNeg v3)) H := hP
  have hD : va_D A (w_X10_bounds cI cJ cZ cG a_x a_x_now a_x_kept a_x_sheets a_x_plan a_x_draw a_x_blockade a_x_watch a_x_now_targets a_x_now_roads a_x_now_posts a_x_now_haunts a_x_now_targets_kind a_x_now_targets_saved a_x_now_targets_lost a_x_now_targets_gain a_x_now_targets_gap a_x_now_targets_least a_x_now_targets_most a_x_now_targets_hand x_isKept x_latestBelow x_findings x_now_targets_size x_now_targets_guards x_now_targets_kind (upd x_now_targets_least v1.toNatClampNeg v2) (upd x_now_targets_most v1.toNatClampNeg v3)) := hD
  refine lv_iconst (v := 1) hx hb dX10_bounds_97 (by decide) ?_
  obtain rfl := Option.some.inj h
  exact g_iret C hP hD hS dX10_bounds_98
set_option maxRecDepth 100000 in
set_option maxHeartbeats 4000000 in
theorem t_X10_bounds_b68 (C : cx D cI cJ cZ cG A cX10_bounds 6 (some .int) RX10 wsX10_bounds p s m args meth c) (a_x a_x_now a_x_kept a_x_sheets a_x_plan a_x_draw a_x_blockade a_x_watch a_x_now_targets a_x_now_roads a_x_now_posts a_x_now_haunts a_x_now_targets_kind a_x_now_targets_saved a_x_now_targets_lost a_x_now_targets_gain a_x_now_targets_gap a_x_now_targets_least a_x_now_targets_most a_x_now_targets_hand : Nat) (x_isKept : Int32) (x_latestBelow : Int32) (x_now_targets_size : Int32) (x_now_targets_guards : Int32) (x_now_targets_kind : (Nat → Int32)) (q : Int32 × Int32 × (Nat → Int32) × (Nat → Int32)) (x_findings : Int32) (x_now_targets_least : (Nat → Int32)) (x_now_targets_most : (Nat → Int32)) (v1 : Int32) (v2 : Int32) (v3 : Int32) (v5 : Int32) (h : f_X10_bounds_b68 x_now_targets_size x_now_targets_kind x_findings x_now_targets_least x_now_targets_most v1 v2 v3 v5 = some q) : WB p l e rm_X10_bounds s m args below meth c (MQ below (Qg D (some (.int q.1)) (w_X10_bounds cI cJ cZ cG a_x a_x_now a_x_kept a_x_sheets a_x_plan a_x_draw a_x_blockade a_x_watch a_x_now_targets a_x_now_roads a_x_now_posts a_x_now_haunts a_x_now_targets_kind a_x_now_targets_saved a_x_now_targets_lost a_x_now_targets_gain a_x_now_targets_gap a_x_now_targets_least a_x_now_targets_most a_x_now_targets_hand x_isKept x_latestBelow q.2.1 x_now_targets_size x_now_targets_guards x_now_targets_kind q.2.2.1 q.2.2.2) A) args s 0 0 A) D A 6 (w_X10_bounds cI cJ cZ cG a_x a_x_now a_x_kept a_x_sheets a_x_plan a_x_draw a_x_blockade a_x_watch a_x_now_targets a_x_now_roads a_x_now_posts a_x_now_haunts a_x_now_targets_kind a_x_now_targets_saved a_x_now_targets_lost a_x_now_targets_gain a_x_now_targets_gap a_x_now_targets_least a_x_now_targets_most a_x_now_targets_hand x_isKept x_latestBelow x_findings x_now_targets_size x_now_targets_guards x_now_targets_kind x_now_targets_least x_now_targets_most) [(1, .int v1), (2, .int v2), (3, .int v3), (4, .ref a_x_now_targets), (5, .int v5)] [] 68 := by
  obtain ⟨hx, hb, hr, hml, hown, hts, hlk, hgk, hA⟩ := id C
  have hK := hgk.1
  unfold f_X10_bounds_b68 at h
  intro H locs ls hP hD hS hl
  refine lv_iload hx hb dX10_bounds_68 (lv_at hl 4 rfl) ?_
  refine lv_iconst (v := 2) hx hb dX10_bounds_70 (by decide) ?_
  refine lv_icmp_ne (tgt := 81) hx hb dX10_bounds_71 (by decide) (fun c1 => ?_) (fun c1 => ?_)
  · have h := iff_ c1 h
    exact t_X10_bounds_b81 C a_x a_x_now a_x_kept a_x_sheets a_x_plan a_x_draw a_x_blockade a_x_watch a_x_now_targets a_x_now_roads a_x_now_posts a_x_now_haunts a_x_now_targets_kind a_x_now_targets_saved a_x_now_targets_lost a_x_now_targets_gain a_x_now_targets_gap a_x_now_targets_least a_x_now_targets_most a_x_now_targets_hand x_isKept x_latestBelow x_now_targets_size x_now_targets_guards x_now_targets_kind q x_findings x_now_targets_least x_now_targets_most v1 v2 v3 h H locs ls hP hD hS (lv_sub hl [0, 1, 2, 3] rfl)
  · have h := ift c1 h
    refine lv_iload_n hx hb dX10_bounds_74 rfl (lv_at hl 1 rfl) ?_
    refine lv_if_eq (tgt := 81) hx hb dX10_bounds_75 (by decide) (fun c2 => ?_) (fun c2 => ?_)
    · have h := ift c2 h
      exact t_X10_bounds_b81 C a_x a_x_now a_x_kept a_x_sheets a_x_plan a_x_draw a_x_blockade a_x_watch a_x_now_targets a_x_now_roads a_x_now_posts a_x_now_haunts a_x_now_targets_kind a_x_now_targets_saved a_x_now_targets_lost a_x_now_targets_gain a_x_now_targets_gap a_x_now_targets_least a_x_now_targets_most a_x_now_targets_hand x_isKept x_latestBelow x_now_targets_size x_now_targets_guards x_now_targets_kind q x_findings x_now_targets_least x_now_targets_most v1 v2 v3 h H locs ls hP hD hS (lv_sub hl [0, 1, 2, 3] rfl)
    · have h := iff_ c2 h
      refine lv_ldc (v := (-1000000002)) hx hb hown (hts _ mb_X10_bounds_2) dX10_bounds_78 ?_
      obtain rfl := Option.some.inj h
      exact g_iret C hP hD hS dX10_bounds_80
set_option maxRecDepth 100000 in
set_option maxHeartbeats 4000000 in
theorem c_X10_bounds (l : Launch) (D : va_G) (cI cJ cZ cG : ClassId) (a_x a_x_now a_x_kept a_x_sheets a_x_plan a_x_draw a_x_blockade a_x_watch a_x_now_targets a_x_now_roads a_x_now_posts a_x_now_haunts a_x_now_targets_kind a_x_now_targets_saved a_x_now_targets_lost a_x_now_targets_gain a_x_now_targets_gap a_x_now_targets_least a_x_now_targets_most a_x_now_targets_hand : Nat) (x_isKept : Int32) (x_latestBelow : Int32) (x_findings : Int32) (x_now_targets_size : Int32) (x_now_targets_guards : Int32) (x_now_targets_kind : (Nat → Int32)) (x_now_targets_least : (Nat → Int32)) (x_now_targets_most : (Nat → Int32)) (p1 : Int32) (p2 : Int32) (p3 : Int32) (q : Int32 × Int32 × (Nat → Int32) × (Nat → Int32)) (h : f_X10_bounds x_findings x_now_targets_size x_now_targets_kind x_now_targets_least x_now_targets_most p1 p2 p3 = some q) : gMet l yX10_bounds wsX10_bounds rm_X10_bounds [.ref a_x, .int p1, .int p2, .int p3] (w_X10_bounds cI cJ cZ cG a_x a_x_now a_x_kept a_x_sheets a_x_plan a_x_draw a_x_blockade a_x_watch a_x_now_targets a_x_now_roads a_x_now_posts a_x_now_haunts a_x_now_targets_kind a_x_now_targets_saved a_x_now_targets_lost a_x_now_targets_gain a_x_now_targets_gap a_x_now_targets_least a_x_now_targets_most a_x_now_targets_hand x_isKept x_latestBelow x_findings x_now_targets_size x_now_targets_guards x_now_targets_kind x_now_targets_least x_now_targets_most) (w_X10_bounds cI cJ cZ cG a_x a_x_now a_x_kept a_x_sheets a_x_plan a_x_draw a_x_blockade a_x_watch a_x_now_targets a_x_now_roads a_x_now_posts a_x_now_haunts a_x_now_targets_kind a_x_now_targets_saved a_x_now_targets_lost a_x_now_targets_gain a_x_now_targets_gap a_x_now_targets_least a_x_now_targets_most a_x_now_targets_hand x_isKept x_latestBelow q.2.1 x_now_targets_size x_now_targets_guards x_now_targets_kind q.2.2.1 q.2.2.2) (some (.int q.1)) D cI cJ cZ cG := by
  refine g_enter (cc := cX10_bounds) (nL := 6) (ret := (some .int)) (by decide) rfl (Nat.le_of_ble_eq_true rfl) ?_
  intro p e s m below meth c A C H locs ls hP hD hS hl
  obtain ⟨hx, hb, hr, hml, hown, hts, hlk, hgk, hA⟩ := id C
  have hK := hgk.1
  have hl : lv_has ls 6 [(0, .ref a_x), (1, .int p1), (2, .int p2), (3, .int p3)] := hl
  unfold f_X10_bounds at h
  refine lv_aload_n hx hb dX10_bounds_0 rfl (lv_at hl 0 rfl) ?_
  refine va_get (D := D) (ci := 10) (v := .ref a_x_now) (C := RX10) (T := TX10) (N := 10) hx hb hts in_X10_bounds_X10 hown hK hP 0 rfl rfl 0 (by decide) (hts _ mb_X10_bounds_3) (fun _ h9 => h9) rfl dX10_bounds_1 ?_
  refine va_get (D := D) (ci := 6) (v := .ref a_x_now_targets) (C := RX6) (T := TX6) (N := 4) hx hb hts in_X10_bounds_X6 hown hK hP 1 rfl rfl 0 (by decide) (hts _ mb_X10_bounds_4) (fun _ h9 => h9) rfl dX10_bounds_4 ?_
  refine lv_astore (lv' := [(4, .ref a_x_now_targets), (0, .ref a_x), (1, .int p1), (2, .int p2), (3, .int p3)]) hx hb dX10_bounds_7 hl (by decide) rfl (fun ls hl => ?_)
  refine lv_aload hx hb dX10_bounds_9 (lv_at hl 0 rfl) ?_
  refine lv_iload_n hx hb dX10_bounds_11 rfl (lv_at hl 2 rfl) ?_
  refine g_callV (index := 83) (maxL := 2) (n := 1) (As := [.int p1]) (rest := []) (st1 := [.int (f_X8_has x_now_targets_size p1)]) (C1 := RX8) (T1 := TX8) (N1 := 10) (ws2 := (w_X10_bounds cI cJ cZ cG a_x a_x_now a_x_kept a_x_sheets a_x_plan a_x_draw a_x_blockade a_x_watch a_x_now_targets a_x_now_roads a_x_now_posts a_x_now_haunts a_x_now_targets_kind a_x_now_targets_saved a_x_now_targets_lost a_x_now_targets_gain a_x_now_targets_gap a_x_now_targets_least a_x_now_targets_most a_x_now_targets_hand x_isKept x_latestBelow x_findings x_now_targets_size x_now_targets_guards x_now_targets_kind x_now_targets_least x_now_targets_most)) C hP hD hS hl.1 8 0 (c_X8_has l D cI cJ cZ cG a_x_now_targets a_x_now_targets_kind a_x_now_targets_saved a_x_now_targets_lost a_x_now_targets_gain a_x_now_targets_gap a_x_now_targets_least a_x_now_targets_most a_x_now_targets_hand x_now_targets_size x_now_targets_guards p1 _ rfl) gX10_bounds_X8_has rfl rfl rfl (by decide +kernel) ⟨Nat.le_of_ble_eq_true rfl, Nat.le_of_ble_eq_true rfl⟩ rfl rfl rfl (Nat.le_of_ble_eq_true rfl) rfl dX10_bounds_12 [2] [0, 1, 3, 4, 5] [0, 1, 5, 2, 3, 4] rfl rfl rfl rfl (by decide) rfl rfl rfl (fun H locs hP hD hS => ?_)
  refine lv_if_eq (tgt := 37) hx hb dX10_bounds_15 (by decide) (fun c1 => ?_) (fun c1 => ?_)
  · have h := ift c1 h
    refine lv_ldc (v := (-1000000002)) hx hb hown (hts _ mb_X10_bounds_2) dX10_bounds_37 ?_
    obtain rfl := Option.some.inj h
    exact g_iret C hP hD hS dX10_bounds_39
  · have h := iff_ c1 h
    refine lv_iload_n hx hb dX10_bounds_18 rfl (lv_at hl 4 rfl) ?_
    refine lv_iconst (v := 0) hx hb dX10_bounds_19 (by decide) ?_
    refine lv_bipush (v := 60) hx hb dX10_bounds_20 (by decide) ?_
    refine g_callS0 (index := 58) (maxL := 3) (n := 3) (As := [.int p3, .int 0, .int 60]) (rest := []) (st1 := [.int (f_X10_isFrom p3 0 60)]) C hP hS hl.1 (c_X10_isFrom l D cI cJ cZ cG p3 0 60 _ rfl) gX10_bounds_X10_isFrom rfl rfl rfl (by decide +kernel) ⟨Nat.le_of_ble_eq_true rfl, Nat.le_of_ble_eq_true rfl⟩ rfl (Nat.le_of_ble_eq_true rfl) rfl dX10_bounds_22 rfl (fun H locs hP hS => ?_)
    refine lv_if_eq (tgt := 37) hx hb dX10_bounds_25 (by decide) (fun c2 => ?_) (fun c2 => ?_)
    · have h := ift c2 h
      refine lv_ldc (v := (-1000000002)) hx hb hown (hts _ mb_X10_bounds_2) dX10_bounds_37 ?_
      obtain rfl := Option.some.inj h
      exact g_iret C hP hD hS dX10_bounds_39
    · have h := iff_ c2 h
      refine lv_iload_n hx hb dX10_bounds_28 rfl (lv_at hl 3 rfl) ?_
      refine lv_iconst (v := 0) hx hb dX10_bounds_29 (by decide) ?_
      refine lv_iload_n hx hb dX10_bounds_30 rfl (lv_at hl 4 rfl) ?_
      refine g_callS0 (index := 58) (maxL := 3) (n := 3) (As := [.int p2, .int 0, .int p3]) (rest := []) (st1 := [.int (f_X10_isFrom p2 0 p3)]) C hP hS hl.1 (c_X10_isFrom l D cI cJ cZ cG p2 0 p3 _ rfl) gX10_bounds_X10_isFrom rfl rfl rfl (by decide +kernel) ⟨Nat.le_of_ble_eq_true rfl, Nat.le_of_ble_eq_true rfl⟩ rfl (Nat.le_of_ble_eq_true rfl) rfl dX10_bounds_31 rfl (fun H locs hP hS => ?_)
      refine lv_if_ne (tgt := 40) hx hb dX10_bounds_34 (by decide) (fun c3 => ?_) (fun c3 => ?_)
      · have h := iff_ c3 h
        refine lv_aload hx hb dX10_bounds_40 (lv_at hl 0 rfl) ?_
        refine va_get (D := D) (ci := 8) (v := .ref a_x_now_targets_kind) (C := RX8) (T := TX8) (N := 10) hx hb hts in_X10_bounds_X8 hown hK hP 2 rfl rfl 2 (by decide) (hts _ mb_X10_bounds_5) (fun _ h9 => h9) rfl dX10_bounds_42 ?_
        refine lv_iload_n hx hb dX10_bounds_45 rfl (lv_at hl 2 rfl) ?_
        obtain ⟨i4, h⟩ := gI_some h
        refine va_iald hx hb hK hP 3 0 rfl rfl i4 dX10_bounds_46 ?_
        refine lv_istore (lv' := [(5, .int (x_now_targets_kind p1.toNatClampNeg)), (4, .ref a_x_now_targets), (0, .ref a_x), (1, .int p1), (2, .int p2), (3, .int p3)]) hx hb dX10_bounds_47 hl (by decide) rfl (fun ls hl => ?_)
        refine lv_iload hx hb dX10_bounds_49 (lv_at hl 0 rfl) ?_
        refine lv_iconst (v := 2) hx hb dX10_bounds_51 (by decide) ?_
        refine lv_icmp_eq (tgt := 68) hx hb dX10_bounds_52 (by decide) (fun c5 => ?_) (fun c5 => ?_)
        · have h := ift c5 h
          exact t_X10_bounds_b68 C a_x a_x_now a_x_kept a_x_sheets a_x_plan a_x_draw a_x_blockade a_x_watch a_x_now_targets a_x_now_roads a_x_now_posts a_x_now_haunts a_x_now_targets_kind a_x_now_targets_saved a_x_now_targets_lost a_x_now_targets_gain a_x_now_targets_gap a_x_now_targets_least a_x_now_targets_most a_x_now_targets_hand x_isKept x_latestBelow x_now_targets_size x_now_targets_guards x_now_targets_kind q x_findings x_now_targets_least x_now_targets_most p1 p2 p3 (x_now_targets_kind p1.toNatClampNeg) h H locs ls hP hD hS (lv_sub hl [3, 4, 5, 1, 0] rfl)
        · have h := iff_ c5 h
          refine lv_iload hx hb dX10_bounds_55 (lv_at hl 0 rfl) ?_
          refine lv_iconst (v := 3) hx hb dX10_bounds_57 (by decide) ?_
          refine lv_icmp_eq (tgt := 68) hx hb dX10_bounds_58 (by decide) (fun c6 => ?_) (fun c6 => ?_)
          · have h := ift c6 h
            exact t_X10_bounds_b68 C a_x a_x_now a_x_kept a_x_sheets a_x_plan a_x_draw a_x_blockade a_x_watch a_x_now_targets a_x_now_roads a_x_now_posts a_x_now_haunts a_x_now_targets_kind a_x_now_targets_saved a_x_now_targets_lost a_x_now_targets_gain a_x_now_targets_gap a_x_now_targets_least a_x_now_targets_most a_x_now_targets_hand x_isKept x_latestBelow x_now_targets_size x_now_targets_guards x_now_targets_kind q x_findings x_now_targets_least x_now_targets_most p1 p2 p3 (x_now_targets_kind p1.toNatClampNeg) h H locs ls hP hD hS (lv_sub hl [3, 4, 5, 1, 0] rfl)
          · have h := iff_ c6 h
            refine lv_aload_n hx hb dX10_bounds_61 rfl (lv_at hl 2 rfl) ?_
            refine lv_ldc (v := (-1000000012)) hx hb hown (hts _ mb_X10_bounds_6) dX10_bounds_62 ?_
            refine g_callV (index := 91) (maxL := 2) (n := 1) (As := [.int (-1000000012)]) (rest := []) (st1 := [.int ((f_X10_hostFinding x_findings (-1000000012)).1)]) (C1 := RX10) (T1 := TX10) (N1 := 10) (ws2 := (w_X10_bounds cI cJ cZ cG a_x a_x_now a_x_kept a_x_sheets a_x_plan a_x_draw a_x_blockade a_x_watch a_x_now_targets a_x_now_roads a_x_now_posts a_x_now_haunts a_x_now_targets_kind a_x_now_targets_saved a_x_now_targets_lost a_x_now_targets_gain a_x_now_targets_gap a_x_now_targets_least a_x_now_targets_most a_x_now_targets_hand x_isKept x_latestBelow ((f_X10_hostFinding x_findings (-1000000012)).2) x_now_targets_size x_now_targets_guards x_now_targets_kind x_now_targets_least x_now_targets_most)) C hP hD hS hl.1 10 0 (c_X10_hostFinding l D cI cJ cZ cG a_x a_x_now a_x_kept a_x_sheets a_x_plan a_x_draw a_x_blockade a_x_watch x_isKept x_latestBelow x_findings (-1000000012) _ rfl) gX10_bounds_X10_hostFinding rfl rfl rfl (by decide +kernel) ⟨Nat.le_of_ble_eq_true rfl, Nat.le_of_ble_eq_true rfl⟩ rfl rfl rfl (Nat.le_of_ble_eq_true rfl) rfl dX10_bounds_64 [0] [1, 2, 3, 4, 5] [5, 0, 1, 2, 3, 4] rfl rfl rfl rfl (by decide) rfl rfl rfl (fun H locs hP hD hS => ?_)
            obtain rfl := Option.some.inj h
            exact g_iret C hP hD hS dX10_bounds_67
      · have h := ift c3 h
        refine lv_ldc (v := (-1000000002)) hx hb hown (hts _ mb_X10_bounds_2) dX10_bounds_37 ?_
        obtain rfl := Option.some.inj h
        exact g_iret C hP hD hS dX10_bounds_39
theorem in_X10_guards_X10 : ∀ w ∈ wsX100, w ∈ wsX10_guards := by decide +kernel
theorem in_X10_guards_X6 : ∀ w ∈ wsX60, w ∈ wsX10_guards := by decide +kernel
theorem in_X10_guards_X8 : ∀ w ∈ wsX80, w ∈ wsX10_guards := by decide +kernel
theorem mb_X10_guards_0 : Cond.fieldLink RX10 10 "GuardDesk" "now" "LGuardDesk$Scene;" ∈ wsX10_guards := List.mem_of_getElem? (i := 2) rfl
theorem mb_X10_guards_1 : Cond.fieldLink RX10 69 "GuardDesk$Scene" "targets" "LGuardDesk$Targets;" ∈ wsX10_guards := List.mem_of_getElem? (i := 3) rfl
theorem mb_X10_guards_2 : Cond.fieldLink RX10 101 "GuardDesk$Targets" "guards" "I" ∈ wsX10_guards := List.mem_of_getElem? (i := 4) rfl
theorem mb_X10_guards_3 : Cond.constant RX10 78 (-1000000002) ∈ wsX10_guards := List.mem_of_getElem? (i := 1) rfl
set_option maxRecDepth 100000 in
set_option maxHeartbeats 4000000 in
theorem c_X10_guards (l : Launch) (D : va_G) (cI cJ cZ cG : ClassId) (a_x a_x_now a_x_kept a_x_sheets a_x_plan a_x_draw a_x_blockade a_x_watch a_x_now_targets a_x_now_roads a_x_now_posts a_x_now_haunts a_x_now_targets_kind a_x_now_targets_saved a_x_now_targets_lost a_x_now_targets_gain a_x_now_targets_gap a_x_now_targets_least a_x_now_targets_most a_x_now_targets_hand : Nat) (x_isKept : Int32) (x_latestBelow : Int32) (x_findings : Int32) (x_now_targets_size : Int32) (x_now_targets_guards : Int32) (p1 : Int32) (q : Int32 × Int32) (h : f_X10_guards x_now_targets_guards p1 = q) : gMet l yX10_guards wsX10_guards rm_X10_guards [.ref a_x, .int p1] (w_X10_guards cI cJ cZ cG a_x a_x_now a_x_kept a_x_sheets a_x_plan a_x_draw a_x_blockade a_x_watch a_x_now_targets a_x_now_roads a_x_now_posts a_x_now_haunts a_x_now_targets_kind a_x_now_targets_saved a_x_now_targets_lost a_x_now_targets_gain a_x_now_targets_gap a_x_now_targets_least a_x_now_targets_most a_x_now_targets_hand x_isKept x_latestBelow x_findings x_now_targets_size x_now_targets_guards) (w_X10_guards cI cJ cZ cG a_x a_x_now a_x_kept a_x_sheets a_x_plan a_x_draw a_x_blockade a_x_watch a_x_now_targets a_x_now_roads a_x_now_posts a_x_now_haunts a_x_now_targets_kind a_x_now_targets_saved a_x_now_targets_lost a_x_now_targets_gain a_x_now_targets_gap a_x_now_targets_least a_x_now_targets_most a_x_now_targets_hand x_isKept x_latestBelow x_findings x_now_targets_size q.2) (some (.int q.1)) D cI cJ cZ cG := by
  refine g_enter (cc := cX10_guards) (nL := 3) (ret := (some .int)) (by decide) rfl (Nat.le_of_ble_eq_true rfl) ?_
  intro p e s m below meth c A C H locs ls hP hD hS hl
  obtain ⟨hx, hb, hr, hml, hown, hts, hlk, hgk, hA⟩ := id C
  have hK := hgk.1
  have hl : lv_has ls 3 [(0, .ref a_x), (1, .int p1)] := hl
  unfold f_X10_guards at h
  refine lv_iload_n hx hb dX10_guards_0 rfl (lv_at hl 1 rfl) ?_
  refine lv_iconst (v := 0) hx hb dX10_guards_1 (by decide) ?_
  refine lv_bipush (v := 10) hx hb dX10_guards_2 (by decide) ?_
  refine g_callS0 (index := 58) (maxL := 3) (n := 3) (As := [.int p1, .int 0, .int 10]) (rest := []) (st1 := [.int (f_X10_isFrom p1 0 10)]) C hP hS hl.1 (c_X10_isFrom l D cI cJ cZ cG p1 0 10 _ rfl) gX10_guards_X10_isFrom rfl rfl rfl (by decide +kernel) ⟨Nat.le_of_ble_eq_true rfl, Nat.le_of_ble_eq_true rfl⟩ rfl (Nat.le_of_ble_eq_true rfl) rfl dX10_guards_4 rfl (fun H locs hP hS => ?_)
  refine lv_if_ne (tgt := 13) hx hb dX10_guards_7 (by decide) (fun c1 => ?_) (fun c1 => ?_)
  · have h := iff_ c1 h
    refine lv_aload_n hx hb dX10_guards_13 rfl (lv_at hl 0 rfl) ?_
    refine va_get (D := D) (ci := 10) (v := .ref a_x_now) (C := RX10) (T := TX10) (N := 10) hx hb hts in_X10_guards_X10 hown hK hP 0 rfl rfl 0 (by decide) (hts _ mb_X10_guards_0) (fun _ h9 => h9) rfl dX10_guards_14 ?_
    refine va_get (D := D) (ci := 6) (v := .ref a_x_now_targets) (C := RX6) (T := TX6) (N := 4) hx hb hts in_X10_guards_X6 hown hK hP 1 rfl rfl 0 (by decide) (hts _ mb_X10_guards_1) (fun _ h9 => h9) rfl dX10_guards_17 ?_
    refine va_get (D := D) (ci := 8) (v := .int x_now_targets_guards) (C := RX8) (T := TX8) (N := 10) hx hb hts in_X10_guards_X8 hown hK hP 2 rfl rfl 1 (by decide) (hts _ mb_X10_guards_2) (fun _ h9 => h9) rfl dX10_guards_20 ?_
    refine lv_istore_n (lv' := [(2, .int x_now_targets_guards), (0, .ref a_x), (1, .int p1)]) hx hb dX10_guards_23 rfl hl (by decide) rfl (fun ls hl => ?_)
    refine lv_aload_n hx hb dX10_guards_24 rfl (lv_at hl 1 rfl) ?_
    refine va_get (D := D) (ci := 10) (v := .ref a_x_now) (C := RX10) (T := TX10) (N := 10) hx hb hts in_X10_guards_X10 hown hK hP 0 rfl rfl 0 (by decide) (hts _ mb_X10_guards_0) (fun _ h9 => h9) rfl dX10_guards_25 ?_
    refine va_get (D := D) (ci := 6) (v := .ref a_x_now_targets) (C := RX6) (T := TX6) (N := 4) hx hb hts in_X10_guards_X6 hown hK hP 1 rfl rfl 0 (by decide) (hts _ mb_X10_guards_1) (fun _ h9 => h9) rfl dX10_guards_28 ?_
    refine lv_iload_n hx hb dX10_guards_31 rfl (lv_at hl 2 rfl) ?_
    refine va_put (D := D) (ci := 8) (v := .int p1) (ty := .int) (C := RX8) (T := TX8) (N := 10) hx hb hts in_X10_guards_X8 tyX8 tyX8_ok nmX8 hown hK hP hD hS 2 rfl rfl 1 (by decide) (hts _ mb_X10_guards_2) (fun _ h9 => h9) rfl (by decide +kernel) rfl rfl (Nat.le_of_ble_eq_true rfl) dX10_guards_32 (fun H locs hP hD hS => ?_)
    have hP : va_P D vwCl (w_X10_guards cI cJ cZ cG a_x a_x_now a_x_kept a_x_sheets a_x_plan a_x_draw a_x_blockade a_x_watch a_x_now_targets a_x_now_roads a_x_now_posts a_x_now_haunts a_x_now_targets_kind a_x_now_targets_saved a_x_now_targets_lost a_x_now_targets_gain a_x_now_targets_gap a_x_now_targets_least a_x_now_targets_most a_x_now_targets_hand x_isKept x_latestBelow x_findings x_now_targets_size p1) H := hP
    have hD : va_D A (w_X10_guards cI cJ cZ cG a_x a_x_now a_x_kept a_x_sheets a_x_plan a_x_draw a_x_blockade a_x_watch a_x_now_targets a_x_now_roads a_x_now_posts a_x_now_haunts a_x_now_targets_kind a_x_now_targets_saved a_x_now_targets_lost a_x_now_targets_gain a_x_now_targets_gap a_x_now_targets_least a_x_now_targets_most a_x_now_targets_hand x_isKept x_latestBelow x_findings x_now_targets_size p1) := hD
    refine lv_iload_n hx hb dX10_guards_35 rfl (lv_at hl 0 rfl) ?_
    obtain rfl := h
    exact g_iret C hP hD hS dX10_guards_36
  · have h := ift c1 h
    refine lv_ldc (v := (-1000000002)) hx hb hown (hts _ mb_X10_guards_3) dX10_guards_10 ?_
    obtain rfl := h
    exact g_iret C hP hD hS dX10_guards_12
theorem in_X10_of_X10 : ∀ w ∈ wsX100, w ∈ wsX10_of := by decide +kernel
theorem in_X10_of_X6 : ∀ w ∈ wsX60, w ∈ wsX10_of := by decide +kernel
theorem in_X10_of_X8 : ∀ w ∈ wsX80, w ∈ wsX10_of := by decide +kernel
theorem mb_X10_of_0 : Cond.fieldLink RX10 10 "GuardDesk" "now" "LGuardDesk$Scene;" ∈ wsX10_of := List.mem_of_getElem? (i := 1) rfl
theorem mb_X10_of_1 : Cond.fieldLink RX10 69 "GuardDesk$Scene" "targets" "LGuardDesk$Targets;" ∈ wsX10_of := List.mem_of_getElem? (i := 2) rfl
theorem mb_X10_of_2 : Cond.fieldLink RX10 86 "GuardDesk$Targets" "kind" "[I" ∈ wsX10_of := List.mem_of_getElem? (i := 4) rfl
theorem mb_X10_of_3 : Cond.fieldLink RX10 104 "GuardDesk$Targets" "saved" "[I" ∈ wsX10_of := List.mem_of_getElem? (i := 5) rfl
theorem mb_X10_of_4 : Cond.fieldLink RX10 107 "GuardDesk$Targets" "lost" "[I" ∈ wsX10_of := List.mem_of_getElem? (i := 6) rfl
theorem mb_X10_of_5 : Cond.fieldLink RX10 110 "GuardDesk$Targets" "gain" "[I" ∈ wsX10_of := List.mem_of_getElem? (i := 7) rfl
theorem mb_X10_of_6 : Cond.fieldLink RX10 113 "GuardDesk$Targets" "gap" "[I" ∈ wsX10_of := List.mem_of_getElem? (i := 8) rfl
theorem mb_X10_of_7 : Cond.fieldLink RX10 95 "GuardDesk$Targets" "least" "[I" ∈ wsX10_of := List.mem_of_getElem? (i := 9) rfl
theorem mb_X10_of_8 : Cond.fieldLink RX10 98 "GuardDesk$Targets" "most" "[I" ∈ wsX10_of := List.mem_of_getElem? (i := 10) rfl
theorem mb_X10_of_9 : Cond.fieldLink RX10 116 "GuardDesk$Targets" "hand" "[I" ∈ wsX10_of := List.mem_of_getElem? (i := 11) rfl
theorem mb_X10_of_10 : Cond.constant RX10 78 (-1000000002) ∈ wsX10_of := List.mem_of_getElem? (i := 3) rfl
set_option maxRecDepth 100000 in
set_option maxHeartbeats 4000000 in
theorem c_X10_of (l : Launch) (D : va_G) (cI cJ cZ cG : ClassId) (a_x a_x_now a_x_kept a_x_sheets a_x_plan a_x_draw a_x_blockade a_x_watch a_x_now_targets a_x_now_roads a_x_now_posts a_x_now_haunts a_x_now_targets_kind a_x_now_targets_saved a_x_now_targets_lost a_x_now_targets_gain a_x_now_targets_gap a_x_now_targets_least a_x_now_targets_most a_x_now_targets_hand : Nat) (x_isKept : Int32) (x_latestBelow : Int32) (x_findings : Int32) (x_now_targets_size : Int32) (x_now_targets_guards : Int32) (x_now_targets_kind : (Nat → Int32)) (x_now_targets_saved : (Nat → Int32)) (x_now_targets_lost : (Nat → Int32)) (x_now_targets_gain : (Nat → Int32)) (x_now_targets_gap : (Nat → Int32)) (x_now_targets_least : (Nat → Int32)) (x_now_targets_most : (Nat → Int32)) (x_now_targets_hand : (Nat → Int32)) (p1 : Int32) (p2 : Int32) (q : Int32) (h : f_X10_of x_now_targets_size x_now_targets_kind x_now_targets_saved x_now_targets_lost x_now_targets_gain x_now_targets_gap x_now_targets_least x_now_targets_most x_now_targets_hand p1 p2 = some q) : gMet l yX10_of wsX10_of rm_X10_of [.ref a_x, .int p1, .int p2] (w_X10_of cI cJ cZ cG a_x a_x_now a_x_kept a_x_sheets a_x_plan a_x_draw a_x_blockade a_x_watch a_x_now_targets a_x_now_roads a_x_now_posts a_x_now_haunts a_x_now_targets_kind a_x_now_targets_saved a_x_now_targets_lost a_x_now_targets_gain a_x_now_targets_gap a_x_now_targets_least a_x_now_targets_most a_x_now_targets_hand x_isKept x_latestBelow x_findings x_now_targets_size x_now_targets_guards x_now_targets_kind x_now_targets_saved x_now_targets_lost x_now_targets_gain x_now_targets_gap x_now_targets_least x_now_targets_most x_now_targets_hand) (w_X10_of cI cJ cZ cG a_x a_x_now a_x_kept a_x_sheets a_x_plan a_x_draw a_x_blockade a_x_watch a_x_now_targets a_x_now_roads a_x_now_posts a_x_now_haunts a_x_now_targets_kind a_x_now_targets_saved a_x_now_targets_lost a_x_now_targets_gain a_x_now_targets_gap a_x_now_targets_least a_x_now_targets_most a_x_now_targets_hand x_isKept x_latestBelow x_findings x_now_targets_size x_now_targets_guards x_now_targets_kind x_now_targets_saved x_now_targets_lost x_now_targets_gain x_now_targets_gap x_now_targets_least x_now_targets_most x_now_targets_hand) (some (.int q)) D cI cJ cZ cG := by
  refine g_enter (cc := cX10_of) (nL := 4) (ret := (some .int)) (by decide) rfl (Nat.le_of_ble_eq_true rfl) ?_
  intro p e s m below meth c A C H locs ls hP hD hS hl
  obtain ⟨hx, hb, hr, hml, hown, hts, hlk, hgk, hA⟩ := id C
  have hK := hgk.1
  have hl : lv_has ls 4 [(0, .ref a_x), (1, .int p1), (2, .int p2)] := hl
  unfold f_X10_of at h
  refine lv_aload_n hx hb dX10_of_0 rfl (lv_at hl 0 rfl) ?_
  refine va_get (D := D) (ci := 10) (v := .ref a_x_now) (C := RX10) (T := TX10) (N := 10) hx hb hts in_X10_of_X10 hown hK hP 0 rfl rfl 0 (by decide) (hts _ mb_X10_of_0) (fun _ h9 => h9) rfl dX10_of_1 ?_
  refine va_get (D := D) (ci := 6) (v := .ref a_x_now_targets) (C := RX6) (T := TX6) (N := 4) hx hb hts in_X10_of_X6 hown hK hP 1 rfl rfl 0 (by decide) (hts _ mb_X10_of_1) (fun _ h9 => h9) rfl dX10_of_4 ?_
  refine lv_astore_n (lv' := [(3, .ref a_x_now_targets), (0, .ref a_x), (1, .int p1), (2, .int p2)]) hx hb dX10_of_7 rfl hl (by decide) rfl (fun ls hl => ?_)
  refine lv_aload_n hx hb dX10_of_8 rfl (lv_at hl 0 rfl) ?_
  refine lv_iload_n hx hb dX10_of_9 rfl (lv_at hl 2 rfl) ?_
  refine g_callV (index := 83) (maxL := 2) (n := 1) (As := [.int p1]) (rest := []) (st1 := [.int (f_X8_has x_now_targets_size p1)]) (C1 := RX8) (T1 := TX8) (N1 := 10) (ws2 := (w_X10_of cI cJ cZ cG a_x a_x_now a_x_kept a_x_sheets a_x_plan a_x_draw a_x_blockade a_x_watch a_x_now_targets a_x_now_roads a_x_now_posts a_x_now_haunts a_x_now_targets_kind a_x_now_targets_saved a_x_now_targets_lost a_x_now_targets_gain a_x_now_targets_gap a_x_now_targets_least a_x_now_targets_most a_x_now_targets_hand x_isKept x_latestBelow x_findings x_now_targets_size x_now_targets_guards x_now_targets_kind x_now_targets_saved x_now_targets_lost x_now_targets_gain x_now_targets_gap x_now_targets_least x_now_targets_most x_now_targets_hand)) C hP hD hS hl.1 8 0 (c_X8_has l D cI cJ cZ cG a_x_now_targets a_x_now_targets_kind a_x_now_targets_saved a_x_now_targets_lost a_x_now_targets_gain a_x_now_targets_gap a_x_now_targets_least a_x_now_targets_most a_x_now_targets_hand x_now_targets_size x_now_targets_guards p1 _ rfl) gX10_of_X8_has rfl rfl rfl (by decide +kernel) ⟨Nat.le_of_ble_eq_true rfl, Nat.le_of_ble_eq_true rfl⟩ rfl rfl rfl (Nat.le_of_ble_eq_true rfl) rfl dX10_of_10 [2] [0, 1, 3, 4, 5, 6, 7, 8, 9, 10] [0, 1, 10, 2, 3, 4, 5, 6, 7, 8, 9] rfl rfl rfl rfl (by decide) rfl rfl rfl (fun H locs hP hD hS => ?_)
  refine lv_if_ne (tgt := 19) hx hb dX10_of_13 (by decide) (fun c1 => ?_) (fun c1 => ?_)
  · have h := iff_ c1 h
    refine lv_iload_n hx hb dX10_of_19 rfl (lv_at hl 3 rfl) ?_
    by_cases c2_0 : p2 = 0
    · have h := ift c2_0 h
      refine lv_tableIn (tgt := 68) hx hb dX10_of_20 (by rw [c2_0]; decide) (by rw [c2_0]; decide) (by rw [c2_0]; rfl) (by decide) ?_
      refine lv_aload_n hx hb dX10_of_68 rfl (lv_at hl 0 rfl) ?_
      refine va_get (D := D) (ci := 8) (v := .ref a_x_now_targets_kind) (C := RX8) (T := TX8) (N := 10) hx hb hts in_X10_of_X8 hown hK hP 2 rfl rfl 2 (by decide) (hts _ mb_X10_of_2) (fun _ h9 => h9) rfl dX10_of_69 ?_
      refine lv_iload_n hx hb dX10_of_72 rfl (lv_at hl 2 rfl) ?_
      obtain ⟨i3, h⟩ := gI_some h
      refine va_iald hx hb hK hP 3 0 rfl rfl i3 dX10_of_73 ?_
      obtain rfl := Option.some.inj h
      exact g_iret C hP hD hS dX10_of_74
    have h := iff_ c2_0 h
    by_cases c2_1 : p2 = 1
    · have h := ift c2_1 h
      refine lv_tableIn (tgt := 75) hx hb dX10_of_20 (by rw [c2_1]; decide) (by rw [c2_1]; decide) (by rw [c2_1]; rfl) (by decide) ?_
      refine lv_aload_n hx hb dX10_of_75 rfl (lv_at hl 0 rfl) ?_
      refine va_get (D := D) (ci := 8) (v := .ref a_x_now_targets_saved) (C := RX8) (T := TX8) (N := 10) hx hb hts in_X10_of_X8 hown hK hP 2 rfl rfl 3 (by decide) (hts _ mb_X10_of_3) (fun _ h9 => h9) rfl dX10_of_76 ?_
      refine lv_iload_n hx hb dX10_of_79 rfl (lv_at hl 2 rfl) ?_
      obtain ⟨i4, h⟩ := gI_some h
      refine va_iald hx hb hK hP 4 0 rfl rfl i4 dX10_of_80 ?_
      obtain rfl := Option.some.inj h
      exact g_iret C hP hD hS dX10_of_81
    have h := iff_ c2_1 h
    by_cases c2_2 : p2 = 2
    · have h := ift c2_2 h
      refine lv_tableIn (tgt := 82) hx hb dX10_of_20 (by rw [c2_2]; decide) (by rw [c2_2]; decide) (by rw [c2_2]; rfl) (by decide) ?_
      refine lv_aload_n hx hb dX10_of_82 rfl (lv_at hl 0 rfl) ?_
      refine va_get (D := D) (ci := 8) (v := .ref a_x_now_targets_lost) (C := RX8) (T := TX8) (N := 10) hx hb hts in_X10_of_X8 hown hK hP 2 rfl rfl 4 (by decide) (hts _ mb_X10_of_4) (fun _ h9 => h9) rfl dX10_of_83 ?_
      refine lv_iload_n hx hb dX10_of_86 rfl (lv_at hl 2 rfl) ?_
      obtain ⟨i5, h⟩ := gI_some h
      refine va_iald hx hb hK hP 5 0 rfl rfl i5 dX10_of_87 ?_
      obtain rfl := Option.some.inj h
      exact g_iret C hP hD hS dX10_of_88
    have h := iff_ c2_2 h
    by_cases c2_3 : p2 = 3
    · have h := ift c2_3 h
      refine lv_tableIn (tgt := 89) hx hb dX10_of_20 (by rw [c2_3]; decide) (by rw [c2_3]; decide) (by rw [c2_3]; rfl) (by decide) ?_
      refine lv_aload_n hx hb dX10_of_89 rfl (lv_at hl 0 rfl) ?_
      refine va_get (D := D) (ci := 8) (v := .ref a_x_now_targets_gain) (C := RX8) (T := TX8) (N := 10) hx hb hts in_X10_of_X8 hown hK hP 2 rfl rfl 5 (by decide) (hts _ mb_X10_of_5) (fun _ h9 => h9) rfl dX10_of_90 ?_
      refine lv_iload_n hx hb dX10_of_93 rfl (lv_at hl 2 rfl) ?_
      obtain ⟨i6, h⟩ := gI_some h
      refine va_iald hx hb hK hP 6 0 rfl rfl i6 dX10_of_94 ?_
      obtain rfl := Option.some.inj h
      exact g_iret C hP hD hS dX10_of_95
    have h := iff_ c2_3 h
    by_cases c2_4 : p2 = 4
    · have h := ift c2_4 h
      refine lv_tableIn (tgt := 96) hx hb dX10_of_20 (by rw [c2_4]; decide) (by rw [c2_4]; decide) (by rw [c2_4]; rfl) (by decide) ?_
      refine lv_aload_n hx hb dX10_of_96 rfl (lv_at hl 0 rfl) ?_
      refine va_get (D := D) (ci := 8) (v := .ref a_x_now_targets_gap) (C := RX8) (T := TX8) (N := 10) hx hb hts in_X10_of_X8 hown hK hP 2 rfl rfl 6 (by decide) (hts _ mb_X10_of_6) (fun _ h9 => h9) rfl dX10_of_97 ?_
      refine lv_iload_n hx hb dX10_of_100 rfl (lv_at hl 2 rfl) ?_
      obtain ⟨i7, h⟩ := gI_some h
      refine va_iald hx hb hK hP 7 0 rfl rfl i7 dX10_of_101 ?_
      obtain rfl := Option.some.inj h
      exact g_iret C hP hD hS dX10_of_102
    have h := iff_ c2_4 h
    by_cases c2_5 : p2 = 5
    · have h := ift c2_5 h
      refine lv_tableIn (tgt := 103) hx hb dX10_of_20 (by rw [c2_5]; decide) (by rw [c2_5]; decide) (by rw [c2_5]; rfl) (by decide) ?_
      refine lv_aload_n hx hb dX10_of_103 rfl (lv_at hl 0 rfl) ?_
      refine va_get (D := D) (ci := 8) (v := .ref a_x_now_targets_least) (C := RX8) (T := TX8) (N := 10) hx hb hts in_X10_of_X8 hown hK hP 2 rfl rfl 7 (by decide) (hts _ mb_X10_of_7) (fun _ h9 => h9) rfl dX10_of_104 ?_
      refine lv_iload_n hx hb dX10_of_107 rfl (lv_at hl 2 rfl) ?_
      obtain ⟨i8, h⟩ := gI_some h
      refine va_iald hx hb hK hP 8 0 rfl rfl i8 dX10_of_108 ?_
      obtain rfl := Option.some.inj h
      exact g_iret C hP hD hS dX10_of_109
    have h := iff_ c2_5 h
    by_cases c2_6 : p2 = 6
    · have h := ift c2_6 h
      refine lv_tableIn (tgt := 110) hx hb dX10_of_20 (by rw [c2_6]; decide) (by rw [c2_6]; decide) (by rw [c2_6]; rfl) (by decide) ?_
      refine lv_aload_n hx hb dX10_of_110 rfl (lv_at hl 0 rfl) ?_
      refine va_get (D := D) (ci := 8) (v := .ref a_x_now_targets_most) (C := RX8) (T := TX8) (N := 10) hx hb hts in_X10_of_X8 hown hK hP 2 rfl rfl 8 (by decide) (hts _ mb_X10_of_8) (fun _ h9 => h9) rfl dX10_of_111 ?_
      refine lv_iload_n hx hb dX10_of_114 rfl (lv_at hl 2 rfl) ?_
      obtain ⟨i9, h⟩ := gI_some h
      refine va_iald hx hb hK hP 9 0 rfl rfl i9 dX10_of_115 ?_
      obtain rfl := Option.some.inj h
      exact g_iret C hP hD hS dX10_of_116
    have h := iff_ c2_6 h
    by_cases c2_7 : p2 = 7
    · have h := ift c2_7 h
      refine lv_tableIn (tgt := 117) hx hb dX10_of_20 (by rw [c2_7]; decide) (by rw [c2_7]; decide) (by rw [c2_7]; rfl) (by decide) ?_
      refine lv_aload_n hx hb dX10_of_117 rfl (lv_at hl 0 rfl) ?_
      refine va_get (D := D) (ci := 8) (v := .ref a_x_now_targets_hand) (C := RX8) (T := TX8) (N := 10) hx hb hts in_X10_of_X8 hown hK hP 2 rfl rfl 9 (by decide) (hts _ mb_X10_of_9) (fun _ h9 => h9) rfl dX10_of_118 ?_
      refine lv_iload_n hx hb dX10_of_121 rfl (lv_at hl 2 rfl) ?_
      obtain ⟨i10, h⟩ := gI_some h
      refine va_iald hx hb hK hP 10 0 rfl rfl i10 dX10_of_122 ?_
      obtain rfl := Option.some.inj h
      exact g_iret C hP hD hS dX10_of_123
    have h := iff_ c2_7 h
    refine lv_tableOut (tgt := 124) hx hb dX10_of_20 (by have y0 := lv_neT c2_0 (a := 0) rfl; have y1 := lv_neT c2_1 (a := 1) rfl; have y2 := lv_neT c2_2 (a := 2) rfl; have y3 := lv_neT c2_3 (a := 3) rfl; have y4 := lv_neT c2_4 (a := 4) rfl; have y5 := lv_neT c2_5 (a := 5) rfl; have y6 := lv_neT c2_6 (a := 6) rfl; have y7 := lv_neT c2_7 (a := 7) rfl; omega) (by decide) ?_
    refine lv_ldc (v := (-1000000002)) hx hb hown (hts _ mb_X10_of_10) dX10_of_124 ?_
    obtain rfl := Option.some.inj h
    exact g_iret C hP hD hS dX10_of_126
  · have h := ift c1 h
    refine lv_ldc (v := (-1000000002)) hx hb hown (hts _ mb_X10_of_10) dX10_of_16 ?_
    obtain rfl := Option.some.inj h
    exact g_iret C hP hD hS dX10_of_18
theorem in_X10_drop_X10 : ∀ w ∈ wsX100, w ∈ wsX10_drop := by decide +kernel
theorem in_X10_drop_X6 : ∀ w ∈ wsX60, w ∈ wsX10_drop := by decide +kernel
theorem in_X10_drop_X8 : ∀ w ∈ wsX80, w ∈ wsX10_drop := by decide +kernel
theorem mb_X10_drop_0 : Cond.fieldLink RX10 10 "GuardDesk" "now" "LGuardDesk$Scene;" ∈ wsX10_drop := List.mem_of_getElem? (i := 1) rfl
theorem mb_X10_drop_1 : Cond.fieldLink RX10 69 "GuardDesk$Scene" "targets" "LGuardDesk$Targets;" ∈ wsX10_drop := List.mem_of_getElem? (i := 2) rfl
theorem mb_X10_drop_2 : Cond.fieldLink RX10 73 "GuardDesk$Targets" "size" "I" ∈ wsX10_drop := List.mem_of_getElem? (i := 3) rfl
theorem mb_X10_drop_3 : Cond.constant RX10 119 (-1000000010) ∈ wsX10_drop := List.mem_of_getElem? (i := 4) rfl
set_option maxRecDepth 100000 in
set_option maxHeartbeats 4000000 in
theorem c_X10_drop (l : Launch) (D : va_G) (cI cJ cZ cG : ClassId) (a_x a_x_now a_x_kept a_x_sheets a_x_plan a_x_draw a_x_blockade a_x_watch a_x_now_targets a_x_now_roads a_x_now_posts a_x_now_haunts a_x_now_targets_kind a_x_now_targets_saved a_x_now_targets_lost a_x_now_targets_gain a_x_now_targets_gap a_x_now_targets_least a_x_now_targets_most a_x_now_targets_hand : Nat) (x_isKept : Int32) (x_latestBelow : Int32) (x_findings : Int32) (x_now_targets_size : Int32) (x_now_targets_guards : Int32) (q : Int32 × Int32 × Int32) (h : f_X10_drop x_findings x_now_targets_size = q) : gMet l yX10_drop wsX10_drop rm_X10_drop [.ref a_x] (w_X10_drop cI cJ cZ cG a_x a_x_now a_x_kept a_x_sheets a_x_plan a_x_draw a_x_blockade a_x_watch a_x_now_targets a_x_now_roads a_x_now_posts a_x_now_haunts a_x_now_targets_kind a_x_now_targets_saved a_x_now_targets_lost a_x_now_targets_gain a_x_now_targets_gap a_x_now_targets_least a_x_now_targets_most a_x_now_targets_hand x_isKept x_latestBelow x_findings x_now_targets_size x_now_targets_guards) (w_X10_drop cI cJ cZ cG a_x a_x_now a_x_kept a_x_sheets a_x_plan a_x_draw a_x_blockade a_x_watch a_x_now_targets a_x_now_roads a_x_now_posts a_x_now_haunts a_x_now_targets_kind a_x_now_targets_saved a_x_now_targets_lost a_x_now_targets_gain a_x_now_targets_gap a_x_now_targets_least a_x_now_targets_most a_x_now_targets_hand x_isKept x_latestBelow q.2.1 q.2.2 x_now_targets_guards) (some (.int q.1)) D cI cJ cZ cG := by
  refine g_enter (cc := cX10_drop) (nL := 1) (ret := (some .int)) (by decide) rfl (Nat.le_of_ble_eq_true rfl) ?_
  intro p e s m below meth c A C H locs ls hP hD hS hl
  obtain ⟨hx, hb, hr, hml, hown, hts, hlk, hgk, hA⟩ := id C
  have hK := hgk.1
  have hl : lv_has ls 1 [(0, .ref a_x)] := hl
  unfold f_X10_drop at h
  refine lv_aload_n hx hb dX10_drop_0 rfl (lv_at hl 0 rfl) ?_
  refine va_get (D := D) (ci := 10) (v := .ref a_x_now) (C := RX10) (T := TX10) (N := 10) hx hb hts in_X10_drop_X10 hown hK hP 0 rfl rfl 0 (by decide) (hts _ mb_X10_drop_0) (fun _ h9 => h9) rfl dX10_drop_1 ?_
  refine va_get (D := D) (ci := 6) (v := .ref a_x_now_targets) (C := RX6) (T := TX6) (N := 4) hx hb hts in_X10_drop_X6 hown hK hP 1 rfl rfl 0 (by decide) (hts _ mb_X10_drop_1) (fun _ h9 => h9) rfl dX10_drop_4 ?_
  refine va_get (D := D) (ci := 8) (v := .int x_now_targets_size) (C := RX8) (T := TX8) (N := 10) hx hb hts in_X10_drop_X8 hown hK hP 2 rfl rfl 0 (by decide) (hts _ mb_X10_drop_2) (fun _ h9 => h9) rfl dX10_drop_7 ?_
  refine lv_if_gt (tgt := 20) hx hb dX10_drop_10 (by decide) (fun c1 => ?_) (fun c1 => ?_)
  · have h := ift c1 h
    refine lv_aload_n hx hb dX10_drop_20 rfl (lv_at hl 0 rfl) ?_
    refine va_get (D := D) (ci := 10) (v := .ref a_x_now) (C := RX10) (T := TX10) (N := 10) hx hb hts in_X10_drop_X10 hown hK hP 0 rfl rfl 0 (by decide) (hts _ mb_X10_drop_0) (fun _ h9 => h9) rfl dX10_drop_21 ?_
    refine va_get (D := D) (ci := 6) (v := .ref a_x_now_targets) (C := RX6) (T := TX6) (N := 4) hx hb hts in_X10_drop_X6 hown hK hP 1 rfl rfl 0 (by decide) (hts _ mb_X10_drop_1) (fun _ h9 => h9) rfl dX10_drop_24 ?_
    refine lv_dup hx hb dX10_drop_27 rfl ?_
    refine va_get (D := D) (ci := 8) (v := .int x_now_targets_size) (C := RX8) (T := TX8) (N := 10) hx hb hts in_X10_drop_X8 hown hK hP 2 rfl rfl 0 (by decide) (hts _ mb_X10_drop_2) (fun _ h9 => h9) rfl dX10_drop_28 ?_
    refine lv_iconst (v := 1) hx hb dX10_drop_31 (by decide) ?_
    refine lv_isub hx hb dX10_drop_32 ?_
    refine va_put (D := D) (ci := 8) (v := .int (x_now_targets_size - 1)) (ty := .int) (C := RX8) (T := TX8) (N := 10) hx hb hts in_X10_drop_X8 tyX8 tyX8_ok nmX8 hown hK hP hD hS 2 rfl rfl 0 (by decide) (hts _ mb_X10_drop_2) (fun _ h9 => h9) rfl (by decide +kernel) rfl rfl (Nat.le_of_ble_eq_true rfl) dX10_drop_33 (fun H locs hP hD hS => ?_)
    have hP : va_P D vwCl (w_X10_drop cI cJ cZ cG a_x a_x_now a_x_kept a_x_sheets a_x_plan a_x_draw a_x_blockade a_x_watch a_x_now_targets a_x_now_roads a_x_now_posts a_x_now_haunts a_x_now_targets_kind a_x_now_targets_saved a_x_now_targets_lost a_x_now_targets_gain a_x_now_targets_gap a_x_now_targets_least a_x_now_targets_most a_x_now_targets_hand x_isKept x_latestBelow x_findings (x_now_targets_size - 1) x_now_targets_guards) H := hP
    have hD : va_D A (w_X10_drop cI cJ cZ cG a_x a_x_now a_x_kept a_x_sheets a_x_plan a_x_draw a_x_blockade a_x_watch a_x_now_targets a_x_now_roads a_x_now_posts a_x_now_haunts a_x_now_targets_kind a_x_now_targets_saved a_x_now_targets_lost a_x_now_targets_gain a_x_now_targets_gap a_x_now_targets_least a_x_now_targets_most a_x_now_targets_hand x_isKept x_latestBelow x_findings (x_now_targets_size - 1) x_now_targets_guards) := hD
    refine lv_aload_n hx hb dX10_drop_36 rfl (lv_at hl 0 rfl) ?_
    refine va_get (D := D) (ci := 10) (v := .ref a_x_now) (C := RX10) (T := TX10) (N := 10) hx hb hts in_X10_drop_X10 hown hK hP 0 rfl rfl 0 (by decide) (hts _ mb_X10_drop_0) (fun _ h9 => h9) rfl dX10_drop_37 ?_
    refine va_get (D := D) (ci := 6) (v := .ref a_x_now_targets) (C := RX6) (T := TX6) (N := 4) hx hb hts in_X10_drop_X6 hown hK hP 1 rfl rfl 0 (by decide) (hts _ mb_X10_drop_1) (fun _ h9 => h9) rfl dX10_drop_40 ?_
    refine va_get (D := D) (ci := 8) (v := .int (x_now_targets_size - 1)) (C := RX8) (T := TX8) (N := 10) hx hb hts in_X10_drop_X8 hown hK hP 2 rfl rfl 0 (by decide) (hts _ mb_X10_drop_2) (fun _ h9 => h9) rfl dX10_drop_43 ?_
    obtain rfl := h
    exact g_iret C hP hD hS dX10_drop_46
  · have h := iff_ c1 h
    refine lv_aload_n hx hb dX10_drop_13 rfl (lv_at hl 0 rfl) ?_
    refine lv_ldc (v := (-1000000010)) hx hb hown (hts _ mb_X10_drop_3) dX10_drop_14 ?_
    refine g_callV (index := 91) (maxL := 2) (n := 1) (As := [.int (-1000000010)]) (rest := []) (st1 := [.int ((f_X10_hostFinding x_findings (-1000000010)).1)]) (C1 := RX10) (T1 := TX10) (N1 := 10) (ws2 := (w_X10_drop cI cJ cZ cG a_x a_x_now a_x_kept a_x_sheets a_x_plan a_x_draw a_x_blockade a_x_watch a_x_now_targets a_x_now_roads a_x_now_posts a_x_now_haunts a_x_now_targets_kind a_x_now_targets_saved a_x_now_targets_lost a_x_now_targets_gain a_x_now_targets_gap a_x_now_targets_least a_x_now_targets_most a_x_now_targets_hand x_isKept x_latestBelow ((f_X10_hostFinding x_findings (-1000000010)).2) x_now_targets_size x_now_targets_guards)) C hP hD hS hl.1 10 0 (c_X10_hostFinding l D cI cJ cZ cG a_x a_x_now a_x_kept a_x_sheets a_x_plan a_x_draw a_x_blockade a_x_watch x_isKept x_latestBelow x_findings (-1000000010) _ rfl) gX10_drop_X10_hostFinding rfl rfl rfl (by decide +kernel) ⟨Nat.le_of_ble_eq_true rfl, Nat.le_of_ble_eq_true rfl⟩ rfl rfl rfl (Nat.le_of_ble_eq_true rfl) rfl dX10_drop_16 [0] [1, 2] [2, 0, 1] rfl rfl rfl rfl (by decide) rfl rfl rfl (fun H locs hP hD hS => ?_)
    obtain rfl := h
    exact g_iret C hP hD hS dX10_drop_19
