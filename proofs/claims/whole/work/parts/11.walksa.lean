variable {p : Program} {l : Launch} {e : Env} {s : State} {m : MethodId} {args : Array Value} {below : List Frame} {meth : Method} {c : Code} {D : va_G} {A : Nat → Prop} {cI cJ cZ cG : ClassId}
set_option maxRecDepth 100000 in
set_option maxHeartbeats 4000000 in
theorem t_J7_fill_53178_b5 (C : cx D cI cJ cZ cG A cJ7_fill_53178 4 none RJ7 wsJ7_fill_53178 p s m args meth c) (a_o0 : Nat) (n_o0 : Nat) (N : Nat) (q : (Nat → Int32)) (v1 : Int32) (v3 : Int32) : ∀ (n : Nat) (o0 : (Nat → Int32)) (v2 : Int32), f_J7_fill_53178_b5 N n_o0 v1 v3 n o0 v2 = some q → WB p l e rm_J7_fill_53178 s m args below meth c (MQ below (Qg D none (w_J7_fill_53178 cI cJ cZ cG a_o0 n_o0 q) A) args s 0 0 A) D A 4 (w_J7_fill_53178 cI cJ cZ cG a_o0 n_o0 o0) [(0, .ref a_o0), (1, .int v1), (2, .int v2), (3, .int v3)] [] 5 := by
  obtain ⟨hx, hb, hr, hml, hown, hts, hlk, hgk, hA⟩ := id C
  have hK := hgk.1
  intro n
  induction n with
  | zero => intro o0 v2 h; cases h
  | succ n hk_5 =>
    intro o0 v2 h
    have h : g_J7_fill_53178_b5 N n_o0 v1 v3 (f_J7_fill_53178_b5 N n_o0 v1 v3 n) o0 v2 = some q := h
    generalize f_J7_fill_53178_b5 N n_o0 v1 v3 n = k_5 at h hk_5
    unfold g_J7_fill_53178_b5 at h
    intro H locs ls hP hD hS hl
    refine lv_iload_n hx hb dJ7_fill_53178_5 rfl (lv_at hl 2 rfl) ?_
    refine lv_iload_n hx hb dJ7_fill_53178_6 rfl (lv_at hl 3 rfl) ?_
    refine lv_icmp_ge (tgt := 20) hx hb dJ7_fill_53178_7 (by decide) (fun c1 => ?_) (fun c1 => ?_)
    · have h := ift c1 h
      obtain rfl := Option.some.inj h
      exact g_vret C hP hD hS dJ7_fill_53178_20
    · have h := iff_ c1 h
      refine lv_aload_n hx hb dJ7_fill_53178_10 rfl (lv_at hl 0 rfl) ?_
      refine lv_iload_n hx hb dJ7_fill_53178_11 rfl (lv_at hl 2 rfl) ?_
      refine lv_iload_n hx hb dJ7_fill_53178_12 rfl (lv_at hl 1 rfl) ?_
      obtain ⟨i2, h⟩ := gI_some h
      refine va_iast hx hb hK hP hD hS 0 0 rfl rfl i2 dJ7_fill_53178_13 (fun H locs hP hD hS => ?_)
      have hP : va_P D vwCl (w_J7_fill_53178 cI cJ cZ cG a_o0 n_o0 (upd o0 v2.toNatClampNeg v1)) H := hP
      have hD : va_D A (w_J7_fill_53178 cI cJ cZ cG a_o0 n_o0 (upd o0 v2.toNatClampNeg v1)) := hD
      refine lv_iinc (v := v2 + 1) (lv' := [(2, .int (v2 + 1)), (0, .ref a_o0), (1, .int v1), (3, .int v3)]) hx hb dJ7_fill_53178_14 hl (k := 2) rfl rfl (by decide) rfl (fun ls hl => ?_)
      refine lv_goto (tgt := 5) hx hb dJ7_fill_53178_17 (by decide) ?_
      exact hk_5 (upd o0 v2.toNatClampNeg v1) (v2 + 1) h H locs ls hP hD hS (lv_sub hl [1, 2, 0, 3] rfl)
set_option maxRecDepth 100000 in
set_option maxHeartbeats 4000000 in
theorem c_J7_fill_53178 (l : Launch) (D : va_G) (cI cJ cZ cG : ClassId) (a_o0 : Nat) (n_o0 : Nat) (o0 : (Nat → Int32)) (p1 : Int32) (N : Nat) (q : (Nat → Int32)) (h : f_J7_fill_53178 N n_o0 o0 p1 = some q) : gMet l yJ7_fill_53178 wsJ7_fill_53178 rm_J7_fill_53178 [.ref a_o0, .int p1] (w_J7_fill_53178 cI cJ cZ cG a_o0 n_o0 o0) (w_J7_fill_53178 cI cJ cZ cG a_o0 n_o0 q) none D cI cJ cZ cG := by
  refine g_enter (cc := cJ7_fill_53178) (nL := 4) (ret := none) (by decide) rfl (Nat.le_of_ble_eq_true rfl) ?_
  intro p e s m below meth c A C H locs ls hP hD hS hl
  obtain ⟨hx, hb, hr, hml, hown, hts, hlk, hgk, hA⟩ := id C
  have hK := hgk.1
  have hl : lv_has ls 4 [(0, .ref a_o0), (1, .int p1)] := hl
  unfold f_J7_fill_53178 at h
  refine lv_iconst (v := 0) hx hb dJ7_fill_53178_0 (by decide) ?_
  refine lv_istore_n (lv' := [(2, .int 0), (0, .ref a_o0), (1, .int p1)]) hx hb dJ7_fill_53178_1 rfl hl (by decide) rfl (fun ls hl => ?_)
  refine lv_aload_n hx hb dJ7_fill_53178_2 rfl (lv_at hl 1 rfl) ?_
  refine va_alen (v := Int32.ofNat n_o0) hx hb hK hP 0 0 rfl rfl rfl dJ7_fill_53178_3 ?_
  refine lv_istore_n (lv' := [(3, .int (Int32.ofNat n_o0)), (2, .int 0), (0, .ref a_o0), (1, .int p1)]) hx hb dJ7_fill_53178_4 rfl hl (by decide) rfl (fun ls hl => ?_)
  exact t_J7_fill_53178_b5 C a_o0 n_o0 N q p1 (Int32.ofNat n_o0) N o0 0 h H locs ls hP hD hS (lv_sub hl [2, 3, 1, 0] rfl)
theorem in_X5_relax_X5 : ∀ w ∈ wsX50, w ∈ wsX5_relax := by decide +kernel
theorem mb_X5_relax_0 : Cond.fieldLink RX5 27 "GuardDesk$Roads" "size" "I" ∈ wsX5_relax := List.mem_of_getElem? (i := 1) rfl
theorem mb_X5_relax_1 : Cond.fieldLink RX5 21 "GuardDesk$Roads" "reach" "[I" ∈ wsX5_relax := List.mem_of_getElem? (i := 2) rfl
theorem mb_X5_relax_2 : Cond.fieldLink RX5 9 "GuardDesk$Roads" "from" "[I" ∈ wsX5_relax := List.mem_of_getElem? (i := 3) rfl
theorem mb_X5_relax_3 : Cond.fieldLink RX5 18 "GuardDesk$Roads" "length" "[I" ∈ wsX5_relax := List.mem_of_getElem? (i := 4) rfl
theorem mb_X5_relax_4 : Cond.fieldLink RX5 15 "GuardDesk$Roads" "to" "[I" ∈ wsX5_relax := List.mem_of_getElem? (i := 5) rfl
theorem mb_X5_relax_5 : Cond.fieldLink RX5 24 "GuardDesk$Roads" "lastRoad" "[I" ∈ wsX5_relax := List.mem_of_getElem? (i := 6) rfl
set_option maxRecDepth 100000 in
set_option maxHeartbeats 4000000 in
theorem t_X5_relax_b4 (C : cx D cI cJ cZ cG A cX5_relax 5 (some .boolean) RX5 wsX5_relax p s m args meth c) (a_x a_x_from a_x_to a_x_length a_x_reach a_x_lastRoad : Nat) (x_size : Int32) (x_barred : Int32) (x_from : (Nat → Int32)) (x_to : (Nat → Int32)) (x_length : (Nat → Int32)) (N : Nat) (q : Int32 × (Nat → Int32) × (Nat → Int32)) (v1 : Int32) : ∀ (n : Nat) (x_reach : (Nat → Int32)) (x_lastRoad : (Nat → Int32)) (v2 : Int32) (v3 : Int32), f_X5_relax_b4 N x_size x_from x_to x_length v1 n x_reach x_lastRoad v2 v3 = some q → WB p l e rm_X5_relax s m args below meth c (MQ below (Qg D (some (.int q.1)) (w_X5_relax cI cJ cZ cG a_x a_x_from a_x_to a_x_length a_x_reach a_x_lastRoad x_size x_barred x_from x_to x_length q.2.1 q.2.2) A) args s 0 0 A) D A 5 (w_X5_relax cI cJ cZ cG a_x a_x_from a_x_to a_x_length a_x_reach a_x_lastRoad x_size x_barred x_from x_to x_length x_reach x_lastRoad) [(0, .ref a_x), (1, .int v1), (2, .int v2), (3, .int v3)] [] 4 := by
  obtain ⟨hx, hb, hr, hml, hown, hts, hlk, hgk, hA⟩ := id C
  have hK := hgk.1
  intro n
  induction n with
  | zero => intro x_reach x_lastRoad v2 v3 h; cases h
  | succ n hk_4 =>
    intro x_reach x_lastRoad v2 v3 h
    have h : g_X5_relax_b4 N x_size x_from x_to x_length v1 (f_X5_relax_b4 N x_size x_from x_to x_length v1 n) x_reach x_lastRoad v2 v3 = some q := h
    generalize f_X5_relax_b4 N x_size x_from x_to x_length v1 n = k_4 at h hk_4
    unfold g_X5_relax_b4 at h
    intro H locs ls hP hD hS hl
    refine lv_iload_n hx hb dX5_relax_4 rfl (lv_at hl 3 rfl) ?_
    refine lv_aload_n hx hb dX5_relax_5 rfl (lv_at hl 0 rfl) ?_
    refine va_get (D := D) (ci := 5) (v := .int x_size) (C := RX5) (T := TX5) (N := 7) hx hb hts in_X5_relax_X5 hown hK hP 0 rfl rfl 0 (by decide) (hts _ mb_X5_relax_0) (fun _ h9 => h9) rfl dX5_relax_6 ?_
    refine lv_icmp_ge (tgt := 89) hx hb dX5_relax_9 (by decide) (fun c1 => ?_) (fun c1 => ?_)
    · have h := ift c1 h
      refine lv_iload_n hx hb dX5_relax_89 rfl (lv_at hl 2 rfl) ?_
      obtain ⟨z2, h⟩ := gB_some h
      obtain rfl := Option.some.inj h
      exact g_zret C hP hD hS z2 dX5_relax_90
    · have h := iff_ c1 h
      refine lv_aload_n hx hb dX5_relax_12 rfl (lv_at hl 0 rfl) ?_
      refine va_get (D := D) (ci := 5) (v := .ref a_x_reach) (C := RX5) (T := TX5) (N := 7) hx hb hts in_X5_relax_X5 hown hK hP 0 rfl rfl 5 (by decide) (hts _ mb_X5_relax_1) (fun _ h9 => h9) rfl dX5_relax_13 ?_
      refine lv_aload_n hx hb dX5_relax_16 rfl (lv_at hl 0 rfl) ?_
      refine va_get (D := D) (ci := 5) (v := .ref a_x_from) (C := RX5) (T := TX5) (N := 7) hx hb hts in_X5_relax_X5 hown hK hP 0 rfl rfl 2 (by decide) (hts _ mb_X5_relax_2) (fun _ h9 => h9) rfl dX5_relax_17 ?_
      refine lv_iload_n hx hb dX5_relax_20 rfl (lv_at hl 3 rfl) ?_
      obtain ⟨i3, h⟩ := gI_some h
      refine va_iald hx hb hK hP 1 0 rfl rfl i3 dX5_relax_21 ?_
      obtain ⟨i4, h⟩ := gI_some h
      refine va_iald hx hb hK hP 4 0 rfl rfl i4 dX5_relax_22 ?_
      refine lv_aload_n hx hb dX5_relax_23 rfl (lv_at hl 0 rfl) ?_
      refine va_get (D := D) (ci := 5) (v := .ref a_x_length) (C := RX5) (T := TX5) (N := 7) hx hb hts in_X5_relax_X5 hown hK hP 0 rfl rfl 4 (by decide) (hts _ mb_X5_relax_3) (fun _ h9 => h9) rfl dX5_relax_24 ?_
      refine lv_iload_n hx hb dX5_relax_27 rfl (lv_at hl 3 rfl) ?_
      obtain ⟨i5, h⟩ := gI_some h
      refine va_iald hx hb hK hP 3 0 rfl rfl i5 dX5_relax_28 ?_
      refine lv_iadd hx hb dX5_relax_29 ?_
      refine lv_istore (lv' := [(4, .int ((x_reach (x_from v3.toNatClampNeg).toNatClampNeg) + (x_length v3.toNatClampNeg))), (0, .ref a_x), (1, .int v1), (2, .int v2), (3, .int v3)]) hx hb dX5_relax_30 hl (by decide) rfl (fun ls hl => ?_)
      refine lv_iload_n hx hb dX5_relax_32 rfl (lv_at hl 2 rfl) ?_
      refine lv_iload_n hx hb dX5_relax_33 rfl (lv_at hl 4 rfl) ?_
      refine lv_ishr hx hb dX5_relax_34 ?_
      refine lv_iconst (v := 1) hx hb dX5_relax_35 (by decide) ?_
      refine lv_iand hx hb dX5_relax_36 ?_
      refine lv_if_eq (tgt := 83) hx hb dX5_relax_37 (by decide) (fun c6 => ?_) (fun c6 => ?_)
      · have h := ift c6 h
        refine lv_iinc (v := v3 + 1) (lv' := [(3, .int (v3 + 1)), (4, .int ((x_reach (x_from v3.toNatClampNeg).toNatClampNeg) + (x_length v3.toNatClampNeg))), (0, .ref a_x), (1, .int v1), (2, .int v2)]) hx hb dX5_relax_83 hl (k := 4) rfl rfl (by decide) rfl (fun ls hl => ?_)
        refine lv_goto (tgt := 4) hx hb dX5_relax_86 (by decide) ?_
        exact hk_4 x_reach x_lastRoad v2 (v3 + 1) h H locs ls hP hD hS (lv_sub hl [2, 3, 4, 0] rfl)
      · have h := iff_ c6 h
        refine lv_iload hx hb dX5_relax_40 (lv_at hl 0 rfl) ?_
        refine lv_aload_n hx hb dX5_relax_42 rfl (lv_at hl 1 rfl) ?_
        refine va_get (D := D) (ci := 5) (v := .ref a_x_reach) (C := RX5) (T := TX5) (N := 7) hx hb hts in_X5_relax_X5 hown hK hP 0 rfl rfl 5 (by decide) (hts _ mb_X5_relax_1) (fun _ h9 => h9) rfl dX5_relax_43 ?_
        refine lv_aload_n hx hb dX5_relax_46 rfl (lv_at hl 1 rfl) ?_
        refine va_get (D := D) (ci := 5) (v := .ref a_x_to) (C := RX5) (T := TX5) (N := 7) hx hb hts in_X5_relax_X5 hown hK hP 0 rfl rfl 3 (by decide) (hts _ mb_X5_relax_4) (fun _ h9 => h9) rfl dX5_relax_47 ?_
        refine lv_iload_n hx hb dX5_relax_50 rfl (lv_at hl 4 rfl) ?_
        obtain ⟨i7, h⟩ := gI_some h
        refine va_iald hx hb hK hP 2 0 rfl rfl i7 dX5_relax_51 ?_
        obtain ⟨i8, h⟩ := gI_some h
        refine va_iald hx hb hK hP 4 0 rfl rfl i8 dX5_relax_52 ?_
        refine lv_icmp_ge (tgt := 83) hx hb dX5_relax_53 (by decide) (fun c9 => ?_) (fun c9 => ?_)
        · have h := ift c9 h
          refine lv_iinc (v := v3 + 1) (lv' := [(3, .int (v3 + 1)), (4, .int ((x_reach (x_from v3.toNatClampNeg).toNatClampNeg) + (x_length v3.toNatClampNeg))), (0, .ref a_x), (1, .int v1), (2, .int v2)]) hx hb dX5_relax_83 hl (k := 4) rfl rfl (by decide) rfl (fun ls hl => ?_)
          refine lv_goto (tgt := 4) hx hb dX5_relax_86 (by decide) ?_
          exact hk_4 x_reach x_lastRoad v2 (v3 + 1) h H locs ls hP hD hS (lv_sub hl [2, 3, 4, 0] rfl)
        · have h := iff_ c9 h
          refine lv_aload_n hx hb dX5_relax_56 rfl (lv_at hl 1 rfl) ?_
          refine va_get (D := D) (ci := 5) (v := .ref a_x_reach) (C := RX5) (T := TX5) (N := 7) hx hb hts in_X5_relax_X5 hown hK hP 0 rfl rfl 5 (by decide) (hts _ mb_X5_relax_1) (fun _ h9 => h9) rfl dX5_relax_57 ?_
          refine lv_aload_n hx hb dX5_relax_60 rfl (lv_at hl 1 rfl) ?_
          refine va_get (D := D) (ci := 5) (v := .ref a_x_to) (C := RX5) (T := TX5) (N := 7) hx hb hts in_X5_relax_X5 hown hK hP 0 rfl rfl 3 (by decide) (hts _ mb_X5_relax_4) (fun _ h9 => h9) rfl dX5_relax_61 ?_
          refine lv_iload_n hx hb dX5_relax_64 rfl (lv_at hl 4 rfl) ?_
          obtain ⟨i10, h⟩ := gI_some h
          refine va_iald hx hb hK hP 2 0 rfl rfl i10 dX5_relax_65 ?_
          refine lv_iload hx hb dX5_relax_66 (lv_at hl 0 rfl) ?_
          obtain ⟨i11, h⟩ := gI_some h
          refine va_iast hx hb hK hP hD hS 4 0 rfl rfl i11 dX5_relax_68 (fun H locs hP hD hS => ?_)
          have hP : va_P D vwCl (w_X5_relax cI cJ cZ cG a_x a_x_from a_x_to a_x_length a_x_reach a_x_lastRoad x_size x_barred x_from x_to x_length (upd x_reach (x_to v3.toNatClampNeg).toNatClampNeg ((x_reach (x_from v3.toNatClampNeg).toNatClampNeg) + (x_length v3.toNatClampNeg))) x_lastRoad) H := hP
          have hD : va_D A (w_X5_relax cI cJ cZ cG a_x a_x_from a_x_to a_x_length a_x_reach a_x_lastRoad x_size x_barred x_from x_to x_length (upd x_reach (x_to v3.toNatClampNeg).toNatClampNeg ((x_reach (x_from v3.toNatClampNeg).toNatClampNeg) + (x_length v3.toNatClampNeg))) x_lastRoad) := hD
          refine lv_aload_n hx hb dX5_relax_69 rfl (lv_at hl 1 rfl) ?_
          refine va_get (D := D) (ci := 5) (v := .ref a_x_lastRoad) (C := RX5) (T := TX5) (N := 7) hx hb hts in_X5_relax_X5 hown hK hP 0 rfl rfl 6 (by decide) (hts _ mb_X5_relax_5) (fun _ h9 => h9) rfl dX5_relax_70 ?_
          refine lv_aload_n hx hb dX5_relax_73 rfl (lv_at hl 1 rfl) ?_
          refine va_get (D := D) (ci := 5) (v := .ref a_x_to) (C := RX5) (T := TX5) (N := 7) hx hb hts in_X5_relax_X5 hown hK hP 0 rfl rfl 3 (by decide) (hts _ mb_X5_relax_4) (fun _ h9 => h9) rfl dX5_relax_74 ?_
          refine lv_iload_n hx hb dX5_relax_77 rfl (lv_at hl 4 rfl) ?_
          obtain ⟨i12, h⟩ := gI_some h
          refine va_iald hx hb hK hP 2 0 rfl rfl i12 dX5_relax_78 ?_
          refine lv_iload_n hx hb dX5_relax_79 rfl (lv_at hl 4 rfl) ?_
          obtain ⟨i13, h⟩ := gI_some h
          refine va_iast hx hb hK hP hD hS 5 0 rfl rfl i13 dX5_relax_80 (fun H locs hP hD hS => ?_)
          have hP : va_P D vwCl (w_X5_relax cI cJ cZ cG a_x a_x_from a_x_to a_x_length a_x_reach a_x_lastRoad x_size x_barred x_from x_to x_length (upd x_reach (x_to v3.toNatClampNeg).toNatClampNeg ((x_reach (x_from v3.toNatClampNeg).toNatClampNeg) + (x_length v3.toNatClampNeg))) (upd x_lastRoad (x_to v3.toNatClampNeg).toNatClampNeg v3)) H := hP
          have hD : va_D A (w_X5_relax cI cJ cZ cG a_x a_x_from a_x_to a_x_length a_x_reach a_x_lastRoad x_size x_barred x_from x_to x_length (upd x_reach (x_to v3.toNatClampNeg).toNatClampNeg ((x_reach (x_from v3.toNatClampNeg).toNatClampNeg) + (x_length v3.toNatClampNeg))) (upd x_lastRoad (x_to v3.toNatClampNeg).toNatClampNeg v3)) := hD
          refine lv_iconst (v := 1) hx hb dX5_relax_81 (by decide) ?_
          refine lv_istore_n (lv' := [(2, .int 1), (4, .int ((x_reach (x_from v3.toNatClampNeg).toNatClampNeg) + (x_length v3.toNatClampNeg))), (0, .ref a_x), (1, .int v1), (3, .int v3)]) hx hb dX5_relax_82 rfl hl (by decide) rfl (fun ls hl => ?_)
          refine lv_iinc (v := v3 + 1) (lv' := [(3, .int (v3 + 1)), (2, .int 1), (4, .int ((x_reach (x_from v3.toNatClampNeg).toNatClampNeg) + (x_length v3.toNatClampNeg))), (0, .ref a_x), (1, .int v1)]) hx hb dX5_relax_83 hl (k := 4) rfl rfl (by decide) rfl (fun ls hl => ?_)
          refine lv_goto (tgt := 4) hx hb dX5_relax_86 (by decide) ?_
          exact hk_4 (upd x_reach (x_to v3.toNatClampNeg).toNatClampNeg ((x_reach (x_from v3.toNatClampNeg).toNatClampNeg) + (x_length v3.toNatClampNeg))) (upd x_lastRoad (x_to v3.toNatClampNeg).toNatClampNeg v3) 1 (v3 + 1) h H locs ls hP hD hS (lv_sub hl [3, 4, 1, 0] rfl)
set_option maxRecDepth 100000 in
set_option maxHeartbeats 4000000 in
theorem c_X5_relax (l : Launch) (D : va_G) (cI cJ cZ cG : ClassId) (a_x a_x_from a_x_to a_x_length a_x_reach a_x_lastRoad : Nat) (x_size : Int32) (x_barred : Int32) (x_from : (Nat → Int32)) (x_to : (Nat → Int32)) (x_length : (Nat → Int32)) (x_reach : (Nat → Int32)) (x_lastRoad : (Nat → Int32)) (p1 : Int32) (N : Nat) (q : Int32 × (Nat → Int32) × (Nat → Int32)) (h : f_X5_relax N x_size x_from x_to x_length x_reach x_lastRoad p1 = some q) : gMet l yX5_relax wsX5_relax rm_X5_relax [.ref a_x, .int p1] (w_X5_relax cI cJ cZ cG a_x a_x_from a_x_to a_x_length a_x_reach a_x_lastRoad x_size x_barred x_from x_to x_length x_reach x_lastRoad) (w_X5_relax cI cJ cZ cG a_x a_x_from a_x_to a_x_length a_x_reach a_x_lastRoad x_size x_barred x_from x_to x_length q.2.1 q.2.2) (some (.int q.1)) D cI cJ cZ cG := by
  refine g_enter (cc := cX5_relax) (nL := 5) (ret := (some .boolean)) (by decide) rfl (Nat.le_of_ble_eq_true rfl) ?_
  intro p e s m below meth c A C H locs ls hP hD hS hl
  obtain ⟨hx, hb, hr, hml, hown, hts, hlk, hgk, hA⟩ := id C
  have hK := hgk.1
  have hl : lv_has ls 5 [(0, .ref a_x), (1, .int p1)] := hl
  unfold f_X5_relax at h
  refine lv_iconst (v := 0) hx hb dX5_relax_0 (by decide) ?_
  refine lv_istore_n (lv' := [(2, .int 0), (0, .ref a_x), (1, .int p1)]) hx hb dX5_relax_1 rfl hl (by decide) rfl (fun ls hl => ?_)
  refine lv_iconst (v := 0) hx hb dX5_relax_2 (by decide) ?_
  refine lv_istore_n (lv' := [(3, .int 0), (2, .int 0), (0, .ref a_x), (1, .int p1)]) hx hb dX5_relax_3 rfl hl (by decide) rfl (fun ls hl => ?_)
  exact t_X5_relax_b4 C a_x a_x_from a_x_to a_x_length a_x_reach a_x_lastRoad x_size x_barred x_from x_to x_length N q p1 N x_reach x_lastRoad 0 0 h H locs ls hP hD hS (lv_sub hl [2, 3, 1, 0] rfl)
theorem in_X5_measure_X5 : ∀ w ∈ wsX50, w ∈ wsX5_measure := by decide +kernel
theorem mb_X5_measure_0 : Cond.fieldLink RX5 21 "GuardDesk$Roads" "reach" "[I" ∈ wsX5_measure := List.mem_of_getElem? (i := 1) rfl
theorem mb_X5_measure_1 : Cond.constant RX5 40 (1000000) ∈ wsX5_measure := List.mem_of_getElem? (i := 2) rfl
theorem mb_X5_measure_2 : Cond.fieldLink RX5 24 "GuardDesk$Roads" "lastRoad" "[I" ∈ wsX5_measure := List.mem_of_getElem? (i := 3) rfl
theorem mb_X5_measure_3 : Cond.fieldLink RX5 31 "GuardDesk$Roads" "barred" "I" ∈ wsX5_measure := List.mem_of_getElem? (i := 4) rfl
set_option maxRecDepth 100000 in
set_option maxHeartbeats 4000000 in
theorem t_X5_measure_b40 (C : cx D cI cJ cZ cG A cX5_measure 7 (some .int) RX5 wsX5_measure p s m args meth c) (a_x a_x_from a_x_to a_x_length a_x_reach a_x_lastRoad : Nat) (x_size : Int32) (x_barred : Int32) (x_from : (Nat → Int32)) (x_to : (Nat → Int32)) (x_length : (Nat → Int32)) (N : Nat) (q : Int32 × (Nat → Int32) × (Nat → Int32)) (v2 : Int32) (v4 : Int32) : ∀ (n : Nat) (x_reach : (Nat → Int32)) (x_lastRoad : (Nat → Int32)) (v5 : Int32) (v6 : Int32), f_X5_measure_b40 N x_size x_barred x_from x_to x_length v2 v4 n x_reach x_lastRoad v5 v6 = some q → WB p l e rm_X5_measure s m args below meth c (MQ below (Qg D (some (.int q.1)) (w_X5_measure cI cJ cZ cG a_x a_x_from a_x_to a_x_length a_x_reach a_x_lastRoad x_size x_barred x_from x_to x_length q.2.1 q.2.2) A) args s 0 0 A) D A 7 (w_X5_measure cI cJ cZ cG a_x a_x_from a_x_to a_x_length a_x_reach a_x_lastRoad x_size x_barred x_from x_to x_length x_reach x_lastRoad) [(0, .ref a_x), (2, .int v2), (4, .int v4), (5, .int v5), (6, .int v6)] [] 40 := by
  obtain ⟨hx, hb, hr, hml, hown, hts, hlk, hgk, hA⟩ := id C
  have hK := hgk.1
  intro n
  induction n with
  | zero => intro x_reach x_lastRoad v5 v6 h; cases h
  | succ n hk_40 =>
    intro x_reach x_lastRoad v5 v6 h
    have h : g_X5_measure_b40 N x_size x_barred x_from x_to x_length v2 v4 (f_X5_measure_b40 N x_size x_barred x_from x_to x_length v2 v4 n) x_reach x_lastRoad v5 v6 = some q := h
    generalize f_X5_measure_b40 N x_size x_barred x_from x_to x_length v2 v4 n = k_40 at h hk_40
    unfold g_X5_measure_b40 at h
    intro H locs ls hP hD hS hl
    refine lv_iload hx hb dX5_measure_40 (lv_at hl 4 rfl) ?_
    refine lv_bipush (v := 10) hx hb dX5_measure_42 (by decide) ?_
    refine lv_icmp_ge (tgt := 66) hx hb dX5_measure_44 (by decide) (fun c1 => ?_) (fun c1 => ?_)
    · have h := ift c1 h
      refine lv_aload_n hx hb dX5_measure_66 rfl (lv_at hl 0 rfl) ?_
      refine va_get (D := D) (ci := 5) (v := .ref a_x_reach) (C := RX5) (T := TX5) (N := 7) hx hb hts in_X5_measure_X5 hown hK hP 0 rfl rfl 5 (by decide) (hts _ mb_X5_measure_0) (fun _ h9 => h9) rfl dX5_measure_67 ?_
      refine lv_iload_n hx hb dX5_measure_70 rfl (lv_at hl 1 rfl) ?_
      obtain ⟨i2, h⟩ := gI_some h
      refine va_iald hx hb hK hP 4 0 rfl rfl i2 dX5_measure_71 ?_
      obtain rfl := Option.some.inj h
      exact g_iret C hP hD hS dX5_measure_72
    · have h := iff_ c1 h
      refine lv_iload hx hb dX5_measure_47 (lv_at hl 3 rfl) ?_
      refine lv_if_eq (tgt := 66) hx hb dX5_measure_49 (by decide) (fun c3 => ?_) (fun c3 => ?_)
      · have h := ift c3 h
        refine lv_aload_n hx hb dX5_measure_66 rfl (lv_at hl 0 rfl) ?_
        refine va_get (D := D) (ci := 5) (v := .ref a_x_reach) (C := RX5) (T := TX5) (N := 7) hx hb hts in_X5_measure_X5 hown hK hP 0 rfl rfl 5 (by decide) (hts _ mb_X5_measure_0) (fun _ h9 => h9) rfl dX5_measure_67 ?_
        refine lv_iload_n hx hb dX5_measure_70 rfl (lv_at hl 1 rfl) ?_
        obtain ⟨i4, h⟩ := gI_some h
        refine va_iald hx hb hK hP 4 0 rfl rfl i4 dX5_measure_71 ?_
        obtain rfl := Option.some.inj h
        exact g_iret C hP hD hS dX5_measure_72
      · have h := iff_ c3 h
        refine lv_aload_n hx hb dX5_measure_52 rfl (lv_at hl 0 rfl) ?_
        refine lv_iload hx hb dX5_measure_53 (lv_at hl 2 rfl) ?_
        obtain ⟨q5, e5, h⟩ := bd_some h
        refine g_callV (index := 47) (maxL := 5) (n := 1) (As := [.int v4]) (rest := []) (st1 := [.int q5.1]) (C1 := RX5) (T1 := TX5) (N1 := 7) (ws2 := (w_X5_measure cI cJ cZ cG a_x a_x_from a_x_to a_x_length a_x_reach a_x_lastRoad x_size x_barred x_from x_to x_length q5.2.1 q5.2.2)) C hP hD hS hl.1 5 0 (c_X5_relax l D cI cJ cZ cG a_x a_x_from a_x_to a_x_length a_x_reach a_x_lastRoad x_size x_barred x_from x_to x_length x_reach x_lastRoad v4 N q5 e5) gX5_measure_X5_relax rfl rfl rfl (by decide +kernel) ⟨Nat.le_of_ble_eq_true rfl, Nat.le_of_ble_eq_true rfl⟩ rfl rfl rfl (Nat.le_of_ble_eq_true rfl) rfl dX5_measure_55 [0, 1, 2, 3, 4, 5] [] [0, 1, 2, 3, 4, 5] rfl rfl rfl rfl (by decide) rfl rfl rfl (fun H locs hP hD hS => ?_)
        refine lv_istore (lv' := [(5, .int q5.1), (0, .ref a_x), (2, .int v2), (4, .int v4), (6, .int v6)]) hx hb dX5_measure_58 hl (by decide) rfl (fun ls hl => ?_)
        refine lv_iinc (v := v6 + 1) (lv' := [(6, .int (v6 + 1)), (5, .int q5.1), (0, .ref a_x), (2, .int v2), (4, .int v4)]) hx hb dX5_measure_60 hl (k := 4) rfl rfl (by decide) rfl (fun ls hl => ?_)
        refine lv_goto (tgt := 40) hx hb dX5_measure_63 (by decide) ?_
        exact hk_40 q5.2.1 q5.2.2 q5.1 (v6 + 1) h H locs ls hP hD hS (lv_sub hl [2, 3, 4, 1, 0] rfl)
set_option maxRecDepth 100000 in
set_option maxHeartbeats 4000000 in
theorem c_X5_measure (l : Launch) (D : va_G) (cI cJ cZ cG : ClassId) (a_x a_x_from a_x_to a_x_length a_x_reach a_x_lastRoad : Nat) (x_size : Int32) (x_barred : Int32) (x_from : (Nat → Int32)) (x_to : (Nat → Int32)) (x_length : (Nat → Int32)) (x_reach : (Nat → Int32)) (x_lastRoad : (Nat → Int32)) (p1 : Int32) (p2 : Int32) (p3 : Int32) (N : Nat) (q : Int32 × (Nat → Int32) × (Nat → Int32)) (h : f_X5_measure N x_size x_barred x_from x_to x_length x_reach x_lastRoad p1 p2 p3 = some q) : gMet l yX5_measure wsX5_measure rm_X5_measure [.ref a_x, .int p1, .int p2, .int p3] (w_X5_measure cI cJ cZ cG a_x a_x_from a_x_to a_x_length a_x_reach a_x_lastRoad x_size x_barred x_from x_to x_length x_reach x_lastRoad) (w_X5_measure cI cJ cZ cG a_x a_x_from a_x_to a_x_length a_x_reach a_x_lastRoad x_size x_barred x_from x_to x_length q.2.1 q.2.2) (some (.int q.1)) D cI cJ cZ cG := by
  refine g_enter (cc := cX5_measure) (nL := 7) (ret := (some .int)) (by decide) rfl (Nat.le_of_ble_eq_true rfl) ?_
  intro p e s m below meth c A C H locs ls hP hD hS hl
  obtain ⟨hx, hb, hr, hml, hown, hts, hlk, hgk, hA⟩ := id C
  have hK := hgk.1
  have hl : lv_has ls 7 [(0, .ref a_x), (1, .int p1), (2, .int p2), (3, .int p3)] := hl
  unfold f_X5_measure at h
  refine lv_aload_n hx hb dX5_measure_0 rfl (lv_at hl 0 rfl) ?_
  refine va_get (D := D) (ci := 5) (v := .ref a_x_reach) (C := RX5) (T := TX5) (N := 7) hx hb hts in_X5_measure_X5 hown hK hP 0 rfl rfl 5 (by decide) (hts _ mb_X5_measure_0) (fun _ h9 => h9) rfl dX5_measure_1 ?_
  refine lv_ldc (v := 1000000) hx hb hown (hts _ mb_X5_measure_1) dX5_measure_4 ?_
  obtain ⟨q1, e1, h⟩ := bd_some h
  refine g_callS (index := 41) (maxL := 4) (n := 2) (As := [.ref a_x_reach, .int 1000000]) (rest := []) (st1 := []) (ws2 := (w_X5_measure cI cJ cZ cG a_x a_x_from a_x_to a_x_length a_x_reach a_x_lastRoad x_size x_barred x_from x_to x_length q1 x_lastRoad)) C hP hD hS hl.1 (c_J7_fill_53178 l D cI cJ cZ cG a_x_reach 10 x_reach 1000000 N q1 e1) gX5_measure_J7_fill_53178 rfl rfl rfl (by decide +kernel) ⟨Nat.le_of_ble_eq_true rfl, Nat.le_of_ble_eq_true rfl⟩ rfl (Nat.le_of_ble_eq_true rfl) rfl dX5_measure_6 [4] [0, 1, 2, 3, 5] [0, 1, 2, 3, 5, 4] rfl rfl rfl rfl (by decide) rfl rfl rfl (fun H locs hP hD hS => ?_)
  refine lv_aload_n hx hb dX5_measure_9 rfl (lv_at hl 0 rfl) ?_
  refine va_get (D := D) (ci := 5) (v := .ref a_x_lastRoad) (C := RX5) (T := TX5) (N := 7) hx hb hts in_X5_measure_X5 hown hK hP 0 rfl rfl 6 (by decide) (hts _ mb_X5_measure_2) (fun _ h9 => h9) rfl dX5_measure_10 ?_
  refine lv_iconst (v := (-1)) hx hb dX5_measure_13 (by decide) ?_
  obtain ⟨q2, e2, h⟩ := bd_some h
  refine g_callS (index := 41) (maxL := 4) (n := 2) (As := [.ref a_x_lastRoad, .int (-1)]) (rest := []) (st1 := []) (ws2 := (w_X5_measure cI cJ cZ cG a_x a_x_from a_x_to a_x_length a_x_reach a_x_lastRoad x_size x_barred x_from x_to x_length q1 q2)) C hP hD hS hl.1 (c_J7_fill_53178 l D cI cJ cZ cG a_x_lastRoad 10 x_lastRoad (-1) N q2 e2) gX5_measure_J7_fill_53178 rfl rfl rfl (by decide +kernel) ⟨Nat.le_of_ble_eq_true rfl, Nat.le_of_ble_eq_true rfl⟩ rfl (Nat.le_of_ble_eq_true rfl) rfl dX5_measure_14 [5] [0, 1, 2, 3, 4] [0, 1, 2, 3, 4, 5] rfl rfl rfl rfl (by decide) rfl rfl rfl (fun H locs hP hD hS => ?_)
  refine lv_aload_n hx hb dX5_measure_17 rfl (lv_at hl 0 rfl) ?_
  refine va_get (D := D) (ci := 5) (v := .ref a_x_reach) (C := RX5) (T := TX5) (N := 7) hx hb hts in_X5_measure_X5 hown hK hP 0 rfl rfl 5 (by decide) (hts _ mb_X5_measure_0) (fun _ h9 => h9) rfl dX5_measure_18 ?_
  refine lv_iload_n hx hb dX5_measure_21 rfl (lv_at hl 1 rfl) ?_
  refine lv_iconst (v := 0) hx hb dX5_measure_22 (by decide) ?_
  obtain ⟨i3, h⟩ := gI_some h
  refine va_iast hx hb hK hP hD hS 4 0 rfl rfl i3 dX5_measure_23 (fun H locs hP hD hS => ?_)
  have hP : va_P D vwCl (w_X5_measure cI cJ cZ cG a_x a_x_from a_x_to a_x_length a_x_reach a_x_lastRoad x_size x_barred x_from x_to x_length (upd q1 p1.toNatClampNeg 0) q2) H := hP
  have hD : va_D A (w_X5_measure cI cJ cZ cG a_x a_x_from a_x_to a_x_length a_x_reach a_x_lastRoad x_size x_barred x_from x_to x_length (upd q1 p1.toNatClampNeg 0) q2) := hD
  refine lv_aload_n hx hb dX5_measure_24 rfl (lv_at hl 0 rfl) ?_
  refine va_get (D := D) (ci := 5) (v := .int x_barred) (C := RX5) (T := TX5) (N := 7) hx hb hts in_X5_measure_X5 hown hK hP 0 rfl rfl 1 (by decide) (hts _ mb_X5_measure_3) (fun _ h9 => h9) rfl dX5_measure_25 ?_
  refine lv_iload_n hx hb dX5_measure_28 rfl (lv_at hl 3 rfl) ?_
  refine lv_ior hx hb dX5_measure_29 ?_
  refine lv_iconst (v := (-1)) hx hb dX5_measure_30 (by decide) ?_
  refine lv_ixor hx hb dX5_measure_31 ?_
  refine lv_istore (lv' := [(4, .int ((x_barred ||| p3) ^^^ (-1))), (0, .ref a_x), (1, .int p1), (2, .int p2), (3, .int p3)]) hx hb dX5_measure_32 hl (by decide) rfl (fun ls hl => ?_)
  refine lv_iconst (v := 1) hx hb dX5_measure_34 (by decide) ?_
  refine lv_istore (lv' := [(5, .int 1), (4, .int ((x_barred ||| p3) ^^^ (-1))), (0, .ref a_x), (1, .int p1), (2, .int p2), (3, .int p3)]) hx hb dX5_measure_35 hl (by decide) rfl (fun ls hl => ?_)
  refine lv_iconst (v := 0) hx hb dX5_measure_37 (by decide) ?_
  refine lv_istore (lv' := [(6, .int 0), (5, .int 1), (4, .int ((x_barred ||| p3) ^^^ (-1))), (0, .ref a_x), (1, .int p1), (2, .int p2), (3, .int p3)]) hx hb dX5_measure_38 hl (by decide) rfl (fun ls hl => ?_)
  exact t_X5_measure_b40 C a_x a_x_from a_x_to a_x_length a_x_reach a_x_lastRoad x_size x_barred x_from x_to x_length N q p2 ((x_barred ||| p3) ^^^ (-1)) N (upd q1 p1.toNatClampNeg 0) q2 1 0 h H locs ls hP hD hS (lv_sub hl [3, 5, 2, 1, 0] rfl)
theorem mb_J6_bitCount_0f7a4_0 : Cond.constant RJ6 265 (1431655765) ∈ wsJ6_bitCount_0f7a4 := List.mem_of_getElem? (i := 1) rfl
theorem mb_J6_bitCount_0f7a4_1 : Cond.constant RJ6 266 (858993459) ∈ wsJ6_bitCount_0f7a4 := List.mem_of_getElem? (i := 2) rfl
theorem mb_J6_bitCount_0f7a4_2 : Cond.constant RJ6 267 (252645135) ∈ wsJ6_bitCount_0f7a4 := List.mem_of_getElem? (i := 3) rfl
set_option maxRecDepth 100000 in
set_option maxHeartbeats 4000000 in
theorem c_J6_bitCount_0f7a4 (l : Launch) (D : va_G) (cI cJ cZ cG : ClassId) (p0 : Int32) (q : Int32) (h : f_J6_bitCount_0f7a4 p0 = q) : gMet l yJ6_bitCount_0f7a4 wsJ6_bitCount_0f7a4 rm_J6_bitCount_0f7a4 [.int p0] (w_J6_bitCount_0f7a4 cI cJ cZ cG) (w_J6_bitCount_0f7a4 cI cJ cZ cG) (some (.int q)) D cI cJ cZ cG := by
  refine g_enter (cc := cJ6_bitCount_0f7a4) (nL := 1) (ret := (some .int)) (by decide) rfl (Nat.le_of_ble_eq_true rfl) ?_
  intro p e s m below meth c A C H locs ls hP hD hS hl
  obtain ⟨hx, hb, hr, hml, hown, hts, hlk, hgk, hA⟩ := id C
  have hK := hgk.1
  have hl : lv_has ls 1 [(0, .int p0)] := hl
  unfold f_J6_bitCount_0f7a4 at h
  refine lv_iload_n hx hb dJ6_bitCount_0f7a4_0 rfl (lv_at hl 0 rfl) ?_
  refine lv_iload_n hx hb dJ6_bitCount_0f7a4_1 rfl (lv_at hl 0 rfl) ?_
  refine lv_iconst (v := 1) hx hb dJ6_bitCount_0f7a4_2 (by decide) ?_
  refine lv_iushr (v := (p0.toUInt32 >>> ((1 : Int32).toUInt32 &&& Int32.toUInt32 31)).toInt32) hx hb dJ6_bitCount_0f7a4_3 rfl ?_
  refine lv_ldcw (v := 1431655765) hx hb hown (hts _ mb_J6_bitCount_0f7a4_0) dJ6_bitCount_0f7a4_4 ?_
  refine lv_iand hx hb dJ6_bitCount_0f7a4_7 ?_
  refine lv_isub hx hb dJ6_bitCount_0f7a4_8 ?_
  refine lv_istore_n (lv' := [(0, .int (p0 - (((p0.toUInt32 >>> ((1 : Int32).toUInt32 &&& Int32.toUInt32 31)).toInt32) &&& 1431655765)))]) hx hb dJ6_bitCount_0f7a4_9 rfl hl (by decide) rfl (fun ls hl => ?_)
  refine lv_iload_n hx hb dJ6_bitCount_0f7a4_10 rfl (lv_at hl 0 rfl) ?_
  refine lv_ldcw (v := 858993459) hx hb hown (hts _ mb_J6_bitCount_0f7a4_1) dJ6_bitCount_0f7a4_11 ?_
  refine lv_iand hx hb dJ6_bitCount_0f7a4_14 ?_
  refine lv_iload_n hx hb dJ6_bitCount_0f7a4_15 rfl (lv_at hl 0 rfl) ?_
  refine lv_iconst (v := 2) hx hb dJ6_bitCount_0f7a4_16 (by decide) ?_
  refine lv_iushr (v := ((p0 - (((p0.toUInt32 >>> ((1 : Int32).toUInt32 &&& Int32.toUInt32 31)).toInt32) &&& 1431655765)).toUInt32 >>> ((2 : Int32).toUInt32 &&& Int32.toUInt32 31)).toInt32) hx hb dJ6_bitCount_0f7a4_17 rfl ?_
  refine lv_ldcw (v := 858993459) hx hb hown (hts _ mb_J6_bitCount_0f7a4_1) dJ6_bitCount_0f7a4_18 ?_
  refine lv_iand hx hb dJ6_bitCount_0f7a4_21 ?_
  refine lv_iadd hx hb dJ6_bitCount_0f7a4_22 ?_
  refine lv_istore_n (lv' := [(0, .int (((p0 - (((p0.toUInt32 >>> ((1 : Int32).toUInt32 &&& Int32.toUInt32 31)).toInt32) &&& 1431655765)) &&& 858993459) + ((((p0 - (((p0.toUInt32 >>> ((1 : Int32).toUInt32 &&& Int32.toUInt32 31)).toInt32) &&& 1431655765)).toUInt32 >>> ((2 : Int32).toUInt32 &&& Int32.toUInt32 31)).toInt32) &&& 858993459)))]) hx hb dJ6_bitCount_0f7a4_23 rfl hl (by decide) rfl (fun ls hl => ?_)
  refine lv_iload_n hx hb dJ6_bitCount_0f7a4_24 rfl (lv_at hl 0 rfl) ?_
  refine lv_iload_n hx hb dJ6_bitCount_0f7a4_25 rfl (lv_at hl 0 rfl) ?_
  refine lv_iconst (v := 4) hx hb dJ6_bitCount_0f7a4_26 (by decide) ?_
  refine lv_iushr (v := ((((p0 - (((p0.toUInt32 >>> ((1 : Int32).toUInt32 &&& Int32.toUInt32 31)).toInt32) &&& 1431655765)) &&& 858993459) + ((((p0 - (((p0.toUInt32 >>> ((1 : Int32).toUInt32 &&& Int32.toUInt32 31)).toInt32) &&& 1431655765)).toUInt32 >>> ((2 : Int32).toUInt32 &&& Int32.toUInt32 31)).toInt32) &&& 858993459)).toUInt32 >>> ((4 : Int32).toUInt32 &&& Int32.toUInt32 31)).toInt32) hx hb dJ6_bitCount_0f7a4_27 rfl ?_
  refine lv_iadd hx hb dJ6_bitCount_0f7a4_28 ?_
  refine lv_ldcw (v := 252645135) hx hb hown (hts _ mb_J6_bitCount_0f7a4_2) dJ6_bitCount_0f7a4_29 ?_
  refine lv_iand hx hb dJ6_bitCount_0f7a4_32 ?_
  refine lv_istore_n (lv' := [(0, .int (((((p0 - (((p0.toUInt32 >>> ((1 : Int32).toUInt32 &&& Int32.toUInt32 31)).toInt32) &&& 1431655765)) &&& 858993459) + ((((p0 - (((p0.toUInt32 >>> ((1 : Int32).toUInt32 &&& Int32.toUInt32 31)).toInt32) &&& 1431655765)).toUInt32 >>> ((2 : Int32).toUInt32 &&& Int32.toUInt32 31)).toInt32) &&& 858993459)) + (((((p0 - (((p0.toUInt32 >>> ((1 : Int32).toUInt32 &&& Int32.toUInt32 31)).toInt32) &&& 1431655765)) &&& 858993459) + ((((p0 - (((p0.toUInt32 >>> ((1 : Int32).toUInt32 &&& Int32.toUInt32 31)).toInt32) &&& 1431655765)).toUInt32 >>> ((2 : Int32).toUInt32 &&& Int32.toUInt32 31)).toInt32) &&& 858993459)).toUInt32 >>> ((4 : Int32).toUInt32 &&& Int32.toUInt32 31)).toInt32)) &&& 252645135))]) hx hb dJ6_bitCount_0f7a4_33 rfl hl (by decide) rfl (fun ls hl => ?_)
  refine lv_iload_n hx hb dJ6_bitCount_0f7a4_34 rfl (lv_at hl 0 rfl) ?_
  refine lv_iload_n hx hb dJ6_bitCount_0f7a4_35 rfl (lv_at hl 0 rfl) ?_
  refine lv_bipush (v := 8) hx hb dJ6_bitCount_0f7a4_36 (by decide) ?_
  refine lv_iushr (v := ((((((p0 - (((p0.toUInt32 >>> ((1 : Int32).toUInt32 &&& Int32.toUInt32 31)).toInt32) &&& 1431655765)) &&& 858993459) + ((((p0 - (((p0.toUInt32 >>> ((1 : Int32).toUInt32 &&& Int32.toUInt32 31)).toInt32) &&& 1431655765)).toUInt32 >>> ((2 : Int32).toUInt32 &&& Int32.toUInt32 31)).toInt32) &&& 858993459)) + (((((p0 - (((p0.toUInt32 >>> ((1 : Int32).toUInt32 &&& Int32.toUInt32 31)).toInt32) &&& 1431655765)) &&& 858993459) + ((((p0 - (((p0.toUInt32 >>> ((1 : Int32).toUInt32 &&& Int32.toUInt32 31)).toInt32) &&& 1431655765)).toUInt32 >>> ((2 : Int32).toUInt32 &&& Int32.toUInt32 31)).toInt32) &&& 858993459)).toUInt32 >>> ((4 : Int32).toUInt32 &&& Int32.toUInt32 31)).toInt32)) &&& 252645135).toUInt32 >>> ((8 : Int32).toUInt32 &&& Int32.toUInt32 31)).toInt32) hx hb dJ6_bitCount_0f7a4_38 rfl ?_
  refine lv_iadd hx hb dJ6_bitCount_0f7a4_39 ?_
  refine lv_istore_n (lv' := [(0, .int ((((((p0 - (((p0.toUInt32 >>> ((1 : Int32).toUInt32 &&& Int32.toUInt32 31)).toInt32) &&& 1431655765)) &&& 858993459) + ((((p0 - (((p0.toUInt32 >>> ((1 : Int32).toUInt32 &&& Int32.toUInt32 31)).toInt32) &&& 1431655765)).toUInt32 >>> ((2 : Int32).toUInt32 &&& Int32.toUInt32 31)).toInt32) &&& 858993459)) + (((((p0 - (((p0.toUInt32 >>> ((1 : Int32).toUInt32 &&& Int32.toUInt32 31)).toInt32) &&& 1431655765)) &&& 858993459) + ((((p0 - (((p0.toUInt32 >>> ((1 : Int32).toUInt32 &&& Int32.toUInt32 31)).toInt32) &&& 1431655765)).toUInt32 >>> ((2 : Int32).toUInt32 &&& Int32.toUInt32 31)).toInt32) &&& 858993459)).toUInt32 >>> ((4 : Int32).toUInt32 &&& Int32.toUInt32 31)).toInt32)) &&& 252645135) + (((((((p0 - (((p0.toUInt32 >>> ((1 : Int32).toUInt32 &&& Int32.toUInt32 31)).toInt32) &&& 1431655765)) &&& 858993459) + ((((p0 - (((p0.toUInt32 >>> ((1 : Int32).toUInt32 &&& Int32.toUInt32 31)).toInt32) &&& 1431655765)).toUInt32 >>> ((2 : Int32).toUInt32 &&& Int32.toUInt32 31)).toInt32) &&& 858993459)) + (((((p0 - (((p0.toUInt32 >>> ((1 : Int32).toUInt32 &&& Int32.toUInt32 31)).toInt32) &&& 1431655765)) &&& 858993459) + ((((p0 - (((p0.toUInt32 >>> ((1 : Int32).toUInt32 &&& Int32.toUInt32 31)).toInt32) &&& 1431655765)).toUInt32 >>> ((2 : Int32).toUInt32 &&& Int32.toUInt32 31)).toInt32) &&& 858993459)).toUInt32 >>> ((4 : Int32).toUInt32 &&& Int32.toUInt32 31)).toInt32)) &&& 252645135).toUInt32 >>> ((8 : Int32).toUInt32 &&& Int32.toUInt32 31)).toInt32)))]) hx hb dJ6_bitCount_0f7a4_40 rfl hl (by decide) rfl (fun ls hl => ?_)
  refine lv_iload_n hx hb dJ6_bitCount_0f7a4_41 rfl (lv_at hl 0 rfl) ?_
  refine lv_iload_n hx hb dJ6_bitCount_0f7a4_42 rfl (lv_at hl 0 rfl) ?_
  refine lv_bipush (v := 16) hx hb dJ6_bitCount_0f7a4_43 (by decide) ?_
  refine lv_iushr (v := (((((((p0 - (((p0.toUInt32 >>> ((1 : Int32).toUInt32 &&& Int32.toUInt32 31)).toInt32) &&& 1431655765)) &&& 858993459) + ((((p0 - (((p0.toUInt32 >>> ((1 : Int32).toUInt32 &&& Int32.toUInt32 31)).toInt32) &&& 1431655765)).toUInt32 >>> ((2 : Int32).toUInt32 &&& Int32.toUInt32 31)).toInt32) &&& 858993459)) + (((((p0 - (((p0.toUInt32 >>> ((1 : Int32).toUInt32 &&& Int32.toUInt32 31)).toInt32) &&& 1431655765)) &&& 858993459) + ((((p0 - (((p0.toUInt32 >>> ((1 : Int32).toUInt32 &&& Int32.toUInt32 31)).toInt32) &&& 1431655765)).toUInt32 >>> ((2 : Int32).toUInt32 &&& Int32.toUInt32 31)).toInt32) &&& 858993459)).toUInt32 >>> ((4 : Int32).toUInt32 &&& Int32.toUInt32 31)).toInt32)) &&& 252645135) + (((((((p0 - (((p0.toUInt32 >>> ((1 : Int32).toUInt32 &&& Int32.toUInt32 31)).toInt32) &&& 1431655765)) &&& 858993459) + ((((p0 - (((p0.toUInt32 >>> ((1 : Int32).toUInt32 &&& Int32.toUInt32 31)).toInt32) &&& 1431655765)).toUInt32 >>> ((2 : Int32).toUInt32 &&& Int32.toUInt32 31)).toInt32) &&& 858993459)) + (((((p0 - (((p0.toUInt32 >>> ((1 : Int32).toUInt32 &&& Int32.toUInt32 31)).toInt32) &&& 1431655765)) &&& 858993459) + ((((p0 - (((p0.toUInt32 >>> ((1 : Int32).toUInt32 &&& Int32.toUInt32 31)).toInt32) &&& 1431655765)).toUInt32 >>> ((2 : Int32).toUInt32 &&& Int32.toUInt32 31)).toInt32) &&& 858993459)).toUInt32 >>> ((4 : Int32).toUInt32 &&& Int32.toUInt32 31)).toInt32)) &&& 252645135).toUInt32 >>> ((8 : Int32).toUInt32 &&& Int32.toUInt32 31)).toInt32)).toUInt32 >>> ((16 : Int32).toUInt32 &&& Int32.toUInt32 31)).toInt32) hx hb dJ6_bitCount_0f7a4_45 rfl ?_
  refine lv_iadd hx hb dJ6_bitCount_0f7a4_46 ?_
  refine lv_istore_n (lv' := [(0, .int (((((((p0 - (((p0.toUInt32 >>> ((1 : Int32).toUInt32 &&& Int32.toUInt32 31)).toInt32) &&& 1431655765)) &&& 858993459) + ((((p0 - (((p0.toUInt32 >>> ((1 : Int32).toUInt32 &&& Int32.toUInt32 31)).toInt32) &&& 1431655765)).toUInt32 >>> ((2 : Int32).toUInt32 &&& Int32.toUInt32 31)).toInt32) &&& 858993459)) + (((((p0 - (((p0.toUInt32 >>> ((1 : Int32).toUInt32 &&& Int32.toUInt32 31)).toInt32) &&& 1431655765)) &&& 858993459) + ((((p0 - (((p0.toUInt32 >>> ((1 : Int32).toUInt32 &&& Int32.toUInt32 31)).toInt32) &&& 1431655765)).toUInt32 >>> ((2 : Int32).toUInt32 &&& Int32.toUInt32 31)).toInt32) &&& 858993459)).toUInt32 >>> ((4 : Int32).toUInt32 &&& Int32.toUInt32 31)).toInt32)) &&& 252645135) + (((((((p0 - (((p0.toUInt32 >>> ((1 : Int32).toUInt32 &&& Int32.toUInt32 31)).toInt32) &&& 1431655765)) &&& 858993459) + ((((p0 - (((p0.toUInt32 >>> ((1 : Int32).toUInt32 &&& Int32.toUInt32 31)).toInt32) &&& 1431655765)).toUInt32 >>> ((2 : Int32).toUInt32 &&& Int32.toUInt32 31)).toInt32) &&& 858993459)) + (((((p0 - (((p0.toUInt32 >>> ((1 : Int32).toUInt32 &&& Int32.toUInt32 31)).toInt32) &&& 1431655765)) &&& 858993459) + ((((p0 - (((p0.toUInt32 >>> ((1 : Int32).toUInt32 &&& Int32.toUInt32 31)).toInt32) &&& 1431655765)).toUInt32 >>> ((2 : Int32).toUInt32 &&& Int32.toUInt32 31)).toInt32) &&& 858993459)).toUInt32 >>> ((4 : Int32).toUInt32 &&& Int32.toUInt32 31)).toInt32)) &&& 252645135).toUInt32 >>> ((8 : Int32).toUInt32 &&& Int32.toUInt32 31)).toInt32)) + ((((((((p0 - (((p0.toUInt32 >>> ((1 : Int32).toUInt32 &&& Int32.toUInt32 31)).toInt32) &&& 1431655765)) &&& 858993459) + ((((p0 - (((p0.toUInt32 >>> ((1 : Int32).toUInt32 &&& Int32.toUInt32 31)).toInt32) &&& 1431655765)).toUInt32 >>> ((2 : Int32).toUInt32 &&& Int32.toUInt32 31)).toInt32) &&& 858993459)) + (((((p0 - (((p0.toUInt32 >>> ((1 : Int32).toUInt32 &&& Int32.toUInt32 31)).toInt32) &&& 1431655765)) &&& 858993459) + ((((p0 - (((p0.toUInt32 >>> ((1 : Int32).toUInt32 &&& Int32.toUInt32 31)).toInt32) &&& 1431655765)).toUInt32 >>> ((2 : Int32).toUInt32 &&& Int32.toUInt32 31)).toInt32) &&& 858993459)).toUInt32 >>> ((4 : Int32).toUInt32 &&& Int32.toUInt32 31)).toInt32)) &&& 252645135) + (((((((p0 - (((p0.toUInt32 >>> ((1 : Int32).toUInt32 &&& Int32.toUInt32 31)).toInt32) &&& 1431655765)) &&& 858993459) + ((((p0 - (((p0.toUInt32 >>> ((1 : Int32).toUInt32 &&& Int32.toUInt32 31)).toInt32) &&& 1431655765)).toUInt32 >>> ((2 : Int32).toUInt32 &&& Int32.toUInt32 31)).toInt32) &&& 858993459)) + (((((p0 - (((p0.toUInt32 >>> ((1 : Int32).toUInt32 &&& Int32.toUInt32 31)).toInt32) &&& 1431655765)) &&& 858993459) + ((((p0 - (((p0.toUInt32 >>> ((1 : Int32).toUInt32 &&& Int32.toUInt32 31)).toInt32) &&& 1431655765)).toUInt32 >>> ((2 : Int32).toUInt32 &&& Int32.toUInt32 31)).toInt32) &&& 858993459)).toUInt32 >>> ((4 : Int32).toUInt32 &&& Int32.toUInt32 31)).toInt32)) &&& 252645135).toUInt32 >>> ((8 : Int32).toUInt32 &&& Int32.toUInt32 31)).toInt32)).toUInt32 >>> ((16 : Int32).toUInt32 &&& Int32.toUInt32 31)).toInt32)))]) hx hb dJ6_bitCount_0f7a4_47 rfl hl (by decide) rfl (fun ls hl => ?_)
  refine lv_iload_n hx hb dJ6_bitCount_0f7a4_48 rfl (lv_at hl 0 rfl) ?_
  refine lv_bipush (v := 63) hx hb dJ6_bitCount_0f7a4_49 (by decide) ?_
  refine lv_iand hx hb dJ6_bitCount_0f7a4_51 ?_
  obtain rfl := h
  exact g_iret C hP hD hS dJ6_bitCount_0f7a4_52
theorem in_X0_take_X0 : ∀ w ∈ wsX00, w ∈ wsX0_take := by decide +kernel
theorem mb_X0_take_0 : Cond.fieldLink RX0 18 "GuardDesk$Blockade" "found" "I" ∈ wsX0_take := List.mem_of_getElem? (i := 1) rfl
theorem mb_X0_take_1 : Cond.fieldLink RX0 21 "GuardDesk$Blockade" "foundLength" "I" ∈ wsX0_take := List.mem_of_getElem? (i := 2) rfl
set_option maxRecDepth 100000 in
set_option maxHeartbeats 4000000 in
theorem t_X0_take_b57 (C : cx D cI cJ cZ cG A cX0_take 5 none RX0 wsX0_take p s m args meth c) (a_x : Nat) (x_start : Int32) (x_end : Int32) (q : Int32 × Int32) (x_found : Int32) (x_foundLength : Int32) (v1 : Int32) (v2 : Int32) (h : f_X0_take_b57 x_found x_foundLength v1 v2 = q) : WB p l e rm_X0_take s m args below meth c (MQ below (Qg D none (w_X0_take cI cJ cZ cG a_x x_start x_end q.1 q.2) A) args s 0 0 A) D A 5 (w_X0_take cI cJ cZ cG a_x x_start x_end x_found x_foundLength) [(0, .ref a_x), (1, .int v1), (2, .int v2)] [] 57 := by
  obtain ⟨hx, hb, hr, hml, hown, hts, hlk, hgk, hA⟩ := id C
  have hK := hgk.1
  unfold f_X0_take_b57 at h
  intro H locs ls hP hD hS hl
  refine lv_aload_n hx hb dX0_take_57 rfl (lv_at hl 0 rfl) ?_
  refine lv_iload_n hx hb dX0_take_58 rfl (lv_at hl 1 rfl) ?_
  refine va_put (D := D) (ci := 0) (v := .int v1) (ty := .int) (C := RX0) (T := TX0) (N := 4) hx hb hts in_X0_take_X0 tyX0 tyX0_ok nmX0 hown hK hP hD hS 0 rfl rfl 2 (by decide) (hts _ mb_X0_take_0) (fun _ h9 => h9) rfl (by decide +kernel) rfl rfl (Nat.le_of_ble_eq_true rfl) dX0_take_59 (fun H locs hP hD hS => ?_)
  have hP : va_P D vwCl (w_X0_take cI cJ cZ cG a_x x_start x_end v1 x_foundLength) H := hP
  have hD : va_D A (w_X0_take cI cJ cZ cG a_x x_start x_end v1 x_foundLength) := hD
  refine lv_aload_n hx hb dX0_take_62 rfl (lv_at hl 0 rfl) ?_
  refine lv_iload_n hx hb dX0_take_63 rfl (lv_at hl 2 rfl) ?_
  refine va_put (D := D) (ci := 0) (v := .int v2) (ty := .int) (C := RX0) (T := TX0) (N := 4) hx hb hts in_X0_take_X0 tyX0 tyX0_ok nmX0 hown hK hP hD hS 0 rfl rfl 3 (by decide) (hts _ mb_X0_take_1) (fun _ h9 => h9) rfl (by decide +kernel) rfl rfl (Nat.le_of_ble_eq_true rfl) dX0_take_64 (fun H locs hP hD hS => ?_)
  have hP : va_P D vwCl (w_X0_take cI cJ cZ cG a_x x_start x_end v1 v2) H := hP
  have hD : va_D A (w_X0_take cI cJ cZ cG a_x x_start x_end v1 v2) := hD
  obtain rfl := h
  exact g_vret C hP hD hS dX0_take_67
set_option maxRecDepth 100000 in
set_option maxHeartbeats 4000000 in
theorem t_X0_take_b34 (C : cx D cI cJ cZ cG A cX0_take 5 none RX0 wsX0_take p s m args meth c) (a_x : Nat) (x_start : Int32) (x_end : Int32) (q : Int32 × Int32) (x_found : Int32) (x_foundLength : Int32) (k0 : Int32) (v1 : Int32) (v2 : Int32) (h : f_X0_take_b34 x_found x_foundLength k0 v1 v2 = q) : WB p l e rm_X0_take s m args below meth c (MQ below (Qg D none (w_X0_take cI cJ cZ cG a_x x_start x_end q.1 q.2) A) args s 0 0 A) D A 5 (w_X0_take cI cJ cZ cG a_x x_start x_end x_found x_foundLength) [(0, .ref a_x), (1, .int v1), (2, .int v2)] [.int k0] 34 := by
  obtain ⟨hx, hb, hr, hml, hown, hts, hlk, hgk, hA⟩ := id C
  have hK := hgk.1
  unfold f_X0_take_b34 at h
  intro H locs ls hP hD hS hl
  refine lv_istore (lv' := [(4, .int k0), (0, .ref a_x), (1, .int v1), (2, .int v2)]) hx hb dX0_take_34 hl (by decide) rfl (fun ls hl => ?_)
  refine lv_iload_n hx hb dX0_take_36 rfl (lv_at hl 3 rfl) ?_
  refine lv_aload_n hx hb dX0_take_37 rfl (lv_at hl 1 rfl) ?_
  refine va_get (D := D) (ci := 0) (v := .int x_foundLength) (C := RX0) (T := TX0) (N := 4) hx hb hts in_X0_take_X0 hown hK hP 0 rfl rfl 3 (by decide) (hts _ mb_X0_take_1) (fun _ h9 => h9) rfl dX0_take_38 ?_
  refine lv_icmp_gt (tgt := 57) hx hb dX0_take_41 (by decide) (fun c1 => ?_) (fun c1 => ?_)
  · have h := ift c1 h
    exact t_X0_take_b57 C a_x x_start x_end q x_found x_foundLength v1 v2 h H locs ls hP hD hS (lv_sub hl [1, 2, 3] rfl)
  · have h := iff_ c1 h
    refine lv_iload_n hx hb dX0_take_44 rfl (lv_at hl 3 rfl) ?_
    refine lv_aload_n hx hb dX0_take_45 rfl (lv_at hl 1 rfl) ?_
    refine va_get (D := D) (ci := 0) (v := .int x_foundLength) (C := RX0) (T := TX0) (N := 4) hx hb hts in_X0_take_X0 hown hK hP 0 rfl rfl 3 (by decide) (hts _ mb_X0_take_1) (fun _ h9 => h9) rfl dX0_take_46 ?_
    refine lv_icmp_ne (tgt := 67) hx hb dX0_take_49 (by decide) (fun c2 => ?_) (fun c2 => ?_)
    · have h := iff_ c2 h
      obtain rfl := h
      exact g_vret C hP hD hS dX0_take_67
    · have h := ift c2 h
      refine lv_iload hx hb dX0_take_52 (lv_at hl 0 rfl) ?_
      refine lv_if_eq (tgt := 67) hx hb dX0_take_54 (by decide) (fun c3 => ?_) (fun c3 => ?_)
      · have h := ift c3 h
        obtain rfl := h
        exact g_vret C hP hD hS dX0_take_67
      · have h := iff_ c3 h
        exact t_X0_take_b57 C a_x x_start x_end q x_found x_foundLength v1 v2 h H locs ls hP hD hS (lv_sub hl [1, 2, 3] rfl)
set_option maxRecDepth 100000 in
set_option maxHeartbeats 4000000 in
theorem t_X0_take_b33 (C : cx D cI cJ cZ cG A cX0_take 5 none RX0 wsX0_take p s m args meth c) (a_x : Nat) (x_start : Int32) (x_end : Int32) (q : Int32 × Int32) (x_found : Int32) (x_foundLength : Int32) (v1 : Int32) (v2 : Int32) (h : f_X0_take_b33 x_found x_foundLength v1 v2 = q) : WB p l e rm_X0_take s m args below meth c (MQ below (Qg D none (w_X0_take cI cJ cZ cG a_x x_start x_end q.1 q.2) A) args s 0 0 A) D A 5 (w_X0_take cI cJ cZ cG a_x x_start x_end x_found x_foundLength) [(0, .ref a_x), (1, .int v1), (2, .int v2)] [] 33 := by
  obtain ⟨hx, hb, hr, hml, hown, hts, hlk, hgk, hA⟩ := id C
  have hK := hgk.1
  unfold f_X0_take_b33 at h
  intro H locs ls hP hD hS hl
  refine lv_iconst (v := 0) hx hb dX0_take_33 (by decide) ?_
  exact t_X0_take_b34 C a_x x_start x_end q x_found x_foundLength 0 v1 v2 h H locs ls hP hD hS (lv_sub hl [0, 1, 2] rfl)
set_option maxRecDepth 100000 in
set_option maxHeartbeats 4000000 in
theorem t_X0_take_b29 (C : cx D cI cJ cZ cG A cX0_take 5 none RX0 wsX0_take p s m args meth c) (a_x : Nat) (x_start : Int32) (x_end : Int32) (q : Int32 × Int32) (x_found : Int32) (x_foundLength : Int32) (v1 : Int32) (v2 : Int32) (h : f_X0_take_b29 x_found x_foundLength v1 v2 = q) : WB p l e rm_X0_take s m args below meth c (MQ below (Qg D none (w_X0_take cI cJ cZ cG a_x x_start x_end q.1 q.2) A) args s 0 0 A) D A 5 (w_X0_take cI cJ cZ cG a_x x_start x_end x_found x_foundLength) [(0, .ref a_x), (1, .int v1), (2, .int v2)] [] 29 := by
  obtain ⟨hx, hb, hr, hml, hown, hts, hlk, hgk, hA⟩ := id C
  have hK := hgk.1
  unfold f_X0_take_b29 at h
  intro H locs ls hP hD hS hl
  refine lv_iconst (v := 1) hx hb dX0_take_29 (by decide) ?_
  refine lv_goto (tgt := 34) hx hb dX0_take_30 (by decide) ?_
  exact t_X0_take_b34 C a_x x_start x_end q x_found x_foundLength 1 v1 v2 h H locs ls hP hD hS (lv_sub hl [0, 1, 2] rfl)
set_option maxRecDepth 100000 in
set_option maxHeartbeats 4000000 in
theorem c_X0_take (l : Launch) (D : va_G) (cI cJ cZ cG : ClassId) (a_x : Nat) (x_start : Int32) (x_end : Int32) (x_found : Int32) (x_foundLength : Int32) (p1 : Int32) (p2 : Int32) (q : Int32 × Int32) (h : f_X0_take x_found x_foundLength p1 p2 = q) : gMet l yX0_take wsX0_take rm_X0_take [.ref a_x, .int p1, .int p2] (w_X0_take cI cJ cZ cG a_x x_start x_end x_found x_foundLength) (w_X0_take cI cJ cZ cG a_x x_start x_end q.1 q.2) none D cI cJ cZ cG := by
  refine g_enter (cc := cX0_take) (nL := 5) (ret := none) (by decide) rfl (Nat.le_of_ble_eq_true rfl) ?_
  intro p e s m below meth c A C H locs ls hP hD hS hl
  obtain ⟨hx, hb, hr, hml, hown, hts, hlk, hgk, hA⟩ := id C
  have hK := hgk.1
  have hl : lv_has ls 5 [(0, .ref a_x), (1, .int p1), (2, .int p2)] := hl
  unfold f_X0_take at h
  refine lv_aload_n hx hb dX0_take_0 rfl (lv_at hl 0 rfl) ?_
  refine va_get (D := D) (ci := 0) (v := .int x_found) (C := RX0) (T := TX0) (N := 4) hx hb hts in_X0_take_X0 hown hK hP 0 rfl rfl 2 (by decide) (hts _ mb_X0_take_0) (fun _ h9 => h9) rfl dX0_take_1 ?_
  refine g_callS0 (index := 43) (maxL := 1) (n := 1) (As := [.int x_found]) (rest := []) (st1 := [.int (f_J6_bitCount_0f7a4 x_found)]) C hP hS hl.1 (c_J6_bitCount_0f7a4 l D cI cJ cZ cG x_found _ rfl) gX0_take_J6_bitCount_0f7a4 rfl rfl rfl (by decide +kernel) ⟨Nat.le_of_ble_eq_true rfl, Nat.le_of_ble_eq_true rfl⟩ rfl (Nat.le_of_ble_eq_true rfl) rfl dX0_take_4 rfl (fun H locs hP hS => ?_)
  refine lv_iload_n hx hb dX0_take_7 rfl (lv_at hl 1 rfl) ?_
  refine g_callS0 (index := 43) (maxL := 1) (n := 1) (As := [.int p1]) (rest := [.int (f_J6_bitCount_0f7a4 x_found)]) (st1 := [.int (f_J6_bitCount_0f7a4 p1), .int (f_J6_bitCount_0f7a4 x_found)]) C hP hS hl.1 (c_J6_bitCount_0f7a4 l D cI cJ cZ cG p1 _ rfl) gX0_take_J6_bitCount_0f7a4 rfl rfl rfl (by decide +kernel) ⟨Nat.le_of_ble_eq_true rfl, Nat.le_of_ble_eq_true rfl⟩ rfl (Nat.le_of_ble_eq_true rfl) rfl dX0_take_8 rfl (fun H locs hP hS => ?_)
  refine lv_isub hx hb dX0_take_11 ?_
  refine lv_istore_n (lv' := [(3, .int ((f_J6_bitCount_0f7a4 x_found) - (f_J6_bitCount_0f7a4 p1))), (0, .ref a_x), (1, .int p1), (2, .int p2)]) hx hb dX0_take_12 rfl hl (by decide) rfl (fun ls hl => ?_)
  refine lv_iload_n hx hb dX0_take_13 rfl (lv_at hl 0 rfl) ?_
  refine lv_if_gt (tgt := 29) hx hb dX0_take_14 (by decide) (fun c1 => ?_) (fun c1 => ?_)
  · have h := ift c1 h
    exact t_X0_take_b29 C a_x x_start x_end q x_found x_foundLength p1 p2 h H locs ls hP hD hS (lv_sub hl [1, 2, 3] rfl)
  · have h := iff_ c1 h
    refine lv_iload_n hx hb dX0_take_17 rfl (lv_at hl 0 rfl) ?_
    refine lv_if_ne (tgt := 33) hx hb dX0_take_18 (by decide) (fun c2 => ?_) (fun c2 => ?_)
    · have h := iff_ c2 h
      exact t_X0_take_b33 C a_x x_start x_end q x_found x_foundLength p1 p2 h H locs ls hP hD hS (lv_sub hl [1, 2, 3] rfl)
    · have h := ift c2 h
      refine lv_iload_n hx hb dX0_take_21 rfl (lv_at hl 2 rfl) ?_
      refine lv_aload_n hx hb dX0_take_22 rfl (lv_at hl 1 rfl) ?_
      refine va_get (D := D) (ci := 0) (v := .int x_found) (C := RX0) (T := TX0) (N := 4) hx hb hts in_X0_take_X0 hown hK hP 0 rfl rfl 2 (by decide) (hts _ mb_X0_take_0) (fun _ h9 => h9) rfl dX0_take_23 ?_
      refine lv_icmp_ge (tgt := 33) hx hb dX0_take_26 (by decide) (fun c3 => ?_) (fun c3 => ?_)
      · have h := ift c3 h
        exact t_X0_take_b33 C a_x x_start x_end q x_found x_foundLength p1 p2 h H locs ls hP hD hS (lv_sub hl [1, 2, 3] rfl)
      · have h := iff_ c3 h
        exact t_X0_take_b29 C a_x x_start x_end q x_found x_foundLength p1 p2 h H locs ls hP hD hS (lv_sub hl [1, 2, 3] rfl)
theorem in_X5_wayTo_X5 : ∀ w ∈ wsX50, w ∈ wsX5_wayTo := by decide +kernel
theorem mb_X5_wayTo_0 : Cond.fieldLink RX5 24 "GuardDesk$Roads" "lastRoad" "[I" ∈ wsX5_wayTo := List.mem_of_getElem? (i := 1) rfl
theorem mb_X5_wayTo_1 : Cond.fieldLink RX5 9 "GuardDesk$Roads" "from" "[I" ∈ wsX5_wayTo := List.mem_of_getElem? (i := 2) rfl
set_option maxRecDepth 100000 in
set_option maxHeartbeats 4000000 in
theorem t_X5_wayTo_b7 (C : cx D cI cJ cZ cG A cX5_wayTo 6 (some .int) RX5 wsX5_wayTo p s m args meth c) (a_x a_x_from a_x_to a_x_length a_x_reach a_x_lastRoad : Nat) (x_size : Int32) (x_barred : Int32) (x_from : (Nat → Int32)) (x_lastRoad : (Nat → Int32)) (N : Nat) (q : Int32) : ∀ (n : Nat) (v2 : Int32) (v3 : Int32) (v4 : Int32), f_X5_wayTo_b7 N x_from x_lastRoad n v2 v3 v4 = some q → WB p l e rm_X5_wayTo s m args below meth c (MQ below (Qg D (some (.int q)) (w_X5_wayTo cI cJ cZ cG a_x a_x_from a_x_to a_x_length a_x_reach a_x_lastRoad x_size x_barred x_from x_lastRoad) A) args s 0 0 A) D A 6 (w_X5_wayTo cI cJ cZ cG a_x a_x_from a_x_to a_x_length a_x_reach a_x_lastRoad x_size x_barred x_from x_lastRoad) [(0, .ref a_x), (2, .int v2), (3, .int v3), (4, .int v4)] [] 7 := by
  obtain ⟨hx, hb, hr, hml, hown, hts, hlk, hgk, hA⟩ := id C
  have hK := hgk.1
  intro n
  induction n with
  | zero => intro v2 v3 v4 h; cases h
  | succ n hk_7 =>
    intro v2 v3 v4 h
    have h : g_X5_wayTo_b7 N x_from x_lastRoad (f_X5_wayTo_b7 N x_from x_lastRoad n) v2 v3 v4 = some q := h
    generalize f_X5_wayTo_b7 N x_from x_lastRoad n = k_7 at h hk_7
    unfold g_X5_wayTo_b7 at h
    intro H locs ls hP hD hS hl
    refine lv_iload hx hb dX5_wayTo_7 (lv_at hl 3 rfl) ?_
    refine lv_bipush (v := 10) hx hb dX5_wayTo_9 (by decide) ?_
    refine lv_icmp_ge (tgt := 52) hx hb dX5_wayTo_11 (by decide) (fun c1 => ?_) (fun c1 => ?_)
    · have h := ift c1 h
      refine lv_iload_n hx hb dX5_wayTo_52 rfl (lv_at hl 1 rfl) ?_
      obtain rfl := Option.some.inj h
      exact g_iret C hP hD hS dX5_wayTo_53
    · have h := iff_ c1 h
      refine lv_aload_n hx hb dX5_wayTo_14 rfl (lv_at hl 0 rfl) ?_
      refine va_get (D := D) (ci := 5) (v := .ref a_x_lastRoad) (C := RX5) (T := TX5) (N := 7) hx hb hts in_X5_wayTo_X5 hown hK hP 0 rfl rfl 6 (by decide) (hts _ mb_X5_wayTo_0) (fun _ h9 => h9) rfl dX5_wayTo_15 ?_
      refine lv_iload_n hx hb dX5_wayTo_18 rfl (lv_at hl 2 rfl) ?_
      obtain ⟨i2, h⟩ := gI_some h
      refine va_iald hx hb hK hP 2 0 rfl rfl i2 dX5_wayTo_19 ?_
      refine lv_if_lt (tgt := 52) hx hb dX5_wayTo_20 (by decide) (fun c3 => ?_) (fun c3 => ?_)
      · have h := ift c3 h
        refine lv_iload_n hx hb dX5_wayTo_52 rfl (lv_at hl 1 rfl) ?_
        obtain rfl := Option.some.inj h
        exact g_iret C hP hD hS dX5_wayTo_53
      · have h := iff_ c3 h
        refine lv_aload_n hx hb dX5_wayTo_23 rfl (lv_at hl 0 rfl) ?_
        refine va_get (D := D) (ci := 5) (v := .ref a_x_lastRoad) (C := RX5) (T := TX5) (N := 7) hx hb hts in_X5_wayTo_X5 hown hK hP 0 rfl rfl 6 (by decide) (hts _ mb_X5_wayTo_0) (fun _ h9 => h9) rfl dX5_wayTo_24 ?_
        refine lv_iload_n hx hb dX5_wayTo_27 rfl (lv_at hl 2 rfl) ?_
        obtain ⟨i4, h⟩ := gI_some h
        refine va_iald hx hb hK hP 2 0 rfl rfl i4 dX5_wayTo_28 ?_
        refine lv_istore (lv' := [(5, .int (x_lastRoad v3.toNatClampNeg)), (0, .ref a_x), (2, .int v2), (3, .int v3), (4, .int v4)]) hx hb dX5_wayTo_29 hl (by decide) rfl (fun ls hl => ?_)
        refine lv_iload_n hx hb dX5_wayTo_31 rfl (lv_at hl 2 rfl) ?_
        refine lv_iconst (v := 1) hx hb dX5_wayTo_32 (by decide) ?_
        refine lv_iload hx hb dX5_wayTo_33 (lv_at hl 0 rfl) ?_
        refine lv_ishl hx hb dX5_wayTo_35 ?_
        refine lv_ior hx hb dX5_wayTo_36 ?_
        refine lv_istore_n (lv' := [(2, .int (v2 ||| ((1 : Int32) <<< ((x_lastRoad v3.toNatClampNeg) &&& 31)))), (5, .int (x_lastRoad v3.toNatClampNeg)), (0, .ref a_x), (3, .int v3), (4, .int v4)]) hx hb dX5_wayTo_37 rfl hl (by decide) rfl (fun ls hl => ?_)
        refine lv_aload_n hx hb dX5_wayTo_38 rfl (lv_at hl 2 rfl) ?_
        refine va_get (D := D) (ci := 5) (v := .ref a_x_from) (C := RX5) (T := TX5) (N := 7) hx hb hts in_X5_wayTo_X5 hown hK hP 0 rfl rfl 2 (by decide) (hts _ mb_X5_wayTo_1) (fun _ h9 => h9) rfl dX5_wayTo_39 ?_
        refine lv_iload hx hb dX5_wayTo_42 (lv_at hl 1 rfl) ?_
        obtain ⟨i5, h⟩ := gI_some h
        refine va_iald hx hb hK hP 1 0 rfl rfl i5 dX5_wayTo_44 ?_
        refine lv_istore_n (lv' := [(3, .int (x_from (x_lastRoad v3.toNatClampNeg).toNatClampNeg)), (2, .int (v2 ||| ((1 : Int32) <<< ((x_lastRoad v3.toNatClampNeg) &&& 31)))), (5, .int (x_lastRoad v3.toNatClampNeg)), (0, .ref a_x), (4, .int v4)]) hx hb dX5_wayTo_45 rfl hl (by decide) rfl (fun ls hl => ?_)
        refine lv_iinc (v := v4 + 1) (lv' := [(4, .int (v4 + 1)), (3, .int (x_from (x_lastRoad v3.toNatClampNeg).toNatClampNeg)), (2, .int (v2 ||| ((1 : Int32) <<< ((x_lastRoad v3.toNatClampNeg) &&& 31)))), (5, .int (x_lastRoad v3.toNatClampNeg)), (0, .ref a_x)]) hx hb dX5_wayTo_46 hl (k := 4) rfl rfl (by decide) rfl (fun ls hl => ?_)
        refine lv_goto (tgt := 7) hx hb dX5_wayTo_49 (by decide) ?_
        exact hk_7 (v2 ||| ((1 : Int32) <<< ((x_lastRoad v3.toNatClampNeg) &&& 31))) (x_from (x_lastRoad v3.toNatClampNeg).toNatClampNeg) (v4 + 1) h H locs ls hP hD hS (lv_sub hl [4, 2, 1, 0] rfl)
set_option maxRecDepth 100000 in
set_option maxHeartbeats 4000000 in
theorem c_X5_wayTo (l : Launch) (D : va_G) (cI cJ cZ cG : ClassId) (a_x a_x_from a_x_to a_x_length a_x_reach a_x_lastRoad : Nat) (x_size : Int32) (x_barred : Int32) (x_from : (Nat → Int32)) (x_lastRoad : (Nat → Int32)) (p1 : Int32) (N : Nat) (q : Int32) (h : f_X5_wayTo N x_from x_lastRoad p1 = some q) : gMet l yX5_wayTo wsX5_wayTo rm_X5_wayTo [.ref a_x, .int p1] (w_X5_wayTo cI cJ cZ cG a_x a_x_from a_x_to a_x_length a_x_reach a_x_lastRoad x_size x_barred x_from x_lastRoad) (w_X5_wayTo cI cJ cZ cG a_x a_x_from a_x_to a_x_length a_x_reach a_x_lastRoad x_size x_barred x_from x_lastRoad) (some (.int q)) D cI cJ cZ cG := by
  refine g_enter (cc := cX5_wayTo) (nL := 6) (ret := (some .int)) (by decide) rfl (Nat.le_of_ble_eq_true rfl) ?_
  intro p e s m below meth c A C H locs ls hP hD hS hl
  obtain ⟨hx, hb, hr, hml, hown, hts, hlk, hgk, hA⟩ := id C
  have hK := hgk.1
  have hl : lv_has ls 6 [(0, .ref a_x), (1, .int p1)] := hl
  unfold f_X5_wayTo at h
  refine lv_iconst (v := 0) hx hb dX5_wayTo_0 (by decide) ?_
  refine lv_istore_n (lv' := [(2, .int 0), (0, .ref a_x), (1, .int p1)]) hx hb dX5_wayTo_1 rfl hl (by decide) rfl (fun ls hl => ?_)
  refine lv_iload_n hx hb dX5_wayTo_2 rfl (lv_at hl 2 rfl) ?_
  refine lv_istore_n (lv' := [(3, .int p1), (2, .int 0), (0, .ref a_x), (1, .int p1)]) hx hb dX5_wayTo_3 rfl hl (by decide) rfl (fun ls hl => ?_)
  refine lv_iconst (v := 0) hx hb dX5_wayTo_4 (by decide) ?_
  refine lv_istore (lv' := [(4, .int 0), (3, .int p1), (2, .int 0), (0, .ref a_x), (1, .int p1)]) hx hb dX5_wayTo_5 hl (by decide) rfl (fun ls hl => ?_)
  exact t_X5_wayTo_b7 C a_x a_x_from a_x_to a_x_length a_x_reach a_x_lastRoad x_size x_barred x_from x_lastRoad N q N 0 p1 0 h H locs ls hP hD hS (lv_sub hl [3, 2, 1, 0] rfl)
theorem in_X0_search_X0 : ∀ w ∈ wsX00, w ∈ wsX0_search := by decide +kernel
theorem mb_X0_search_0 : Cond.fieldLink RX0 9 "GuardDesk$Blockade" "start" "I" ∈ wsX0_search := List.mem_of_getElem? (i := 1) rfl
theorem mb_X0_search_1 : Cond.fieldLink RX0 15 "GuardDesk$Blockade" "end" "I" ∈ wsX0_search := List.mem_of_getElem? (i := 2) rfl
theorem mb_X0_search_2 : Cond.constant RX0 38 (1000000) ∈ wsX0_search := List.mem_of_getElem? (i := 3) rfl
set_option maxRecDepth 100000 in
set_option maxHeartbeats 4000000 in
theorem t_X0_search_b51 (C : cx D cI cJ cZ cG A cX0_search 10 none RX0 wsX0_search p s m args meth c) (a_x a_o1 a_o1_from a_o1_to a_o1_length a_o1_reach a_o1_lastRoad : Nat) (x_start : Int32) (x_end : Int32) (o1_size : Int32) (o1_barred : Int32) (o1_from : (Nat → Int32)) (o1_to : (Nat → Int32)) (o1_length : (Nat → Int32)) (N : Nat) (q : Int32 × Int32 × (Nat → Int32) × (Nat → Int32)) (d : Nat) (self : Int32 → Int32 → (Nat → Int32) → (Nat → Int32) → Int32 → Int32 → Int32 → Option (Int32 × Int32 × (Nat → Int32) × (Nat → Int32))) (hself : ∀ (x_found : Int32) (x_foundLength : Int32) (o1_reach : (Nat → Int32)) (o1_lastRoad : (Nat → Int32)) (p2 : Int32) (p3 : Int32) (p4 : Int32) (q' : Int32 × Int32 × (Nat → Int32) × (Nat → Int32)), self x_found x_foundLength o1_reach o1_lastRoad p2 p3 p4 = some q' → gMet l yX0_search wsX0_search (rm_X0_search d) [.ref a_x, .ref a_o1, .int p2, .int p3, .int p4] (w_X0_search cI cJ cZ cG a_x a_o1 a_o1_from a_o1_to a_o1_length a_o1_reach a_o1_lastRoad x_start x_end x_found x_foundLength o1_size o1_barred o1_from o1_to o1_length o1_reach o1_lastRoad) (w_X0_search cI cJ cZ cG a_x a_o1 a_o1_from a_o1_to a_o1_length a_o1_reach a_o1_lastRoad x_start x_end (q'.1) (q'.2.1) o1_size o1_barred o1_from o1_to o1_length (q'.2.2.1) (q'.2.2.2)) none D cI cJ cZ cG) (v2 : Int32) (v4 : Int32) (v6 : Int32) : ∀ (n : Nat) (x_found : Int32) (x_foundLength : Int32) (o1_reach : (Nat → Int32)) (o1_lastRoad : (Nat → Int32)) (v7 : Int32) (v8 : Int32), f_X0_search_b51 N x_start x_end o1_size o1_barred o1_from o1_to o1_length self v2 v4 v6 n x_found x_foundLength o1_reach o1_lastRoad v7 v8 = some q → WB p l e (rm_X0_search (d + 1)) s m args below meth c (MQ below (Qg D none (w_X0_search cI cJ cZ cG a_x a_o1 a_o1_from a_o1_to a_o1_length a_o1_reach a_o1_lastRoad x_start x_end q.1 q.2.1 o1_size o1_barred o1_from o1_to o1_length q.2.2.1 q.2.2.2) A) args s 0 0 A) D A 10 (w_X0_search cI cJ cZ cG a_x a_o1 a_o1_from a_o1_to a_o1_length a_o1_reach a_o1_lastRoad x_start x_end x_found x_foundLength o1_size o1_barred o1_from o1_to o1_length o1_reach o1_lastRoad) [(0, .ref a_x), (1, .ref a_o1), (2, .int v2), (4, .int v4), (6, .int v6), (7, .int v7), (8, .int v8)] [] 51 := by
  obtain ⟨hx, hb, hr, hml, hown, hts, hlk, hgk, hA⟩ := id C
  have hK := hgk.1
  intro n
  induction n with
  | zero => intro x_found x_foundLength o1_reach o1_lastRoad v7 v8 h; cases h
  | succ n hk_51 =>
    intro x_found x_foundLength o1_reach o1_lastRoad v7 v8 h
    have h : g_X0_search_b51 N x_start x_end o1_size o1_barred o1_from o1_to o1_length self v2 v4 v6 (f_X0_search_b51 N x_start x_end o1_size o1_barred o1_from o1_to o1_length self v2 v4 v6 n) x_found x_foundLength o1_reach o1_lastRoad v7 v8 = some q := h
    generalize f_X0_search_b51 N x_start x_end o1_size o1_barred o1_from o1_to o1_length self v2 v4 v6 n = k_51 at h hk_51
    unfold g_X0_search_b51 at h
    intro H locs ls hP hD hS hl
    refine lv_iload hx hb dX0_search_51 (lv_at hl 6 rfl) ?_
    refine lv_bipush (v := 16) hx hb dX0_search_53 (by decide) ?_
    refine lv_icmp_ge (tgt := 105) hx hb dX0_search_55 (by decide) (fun c1 => ?_) (fun c1 => ?_)
    · have h := ift c1 h
      obtain rfl := Option.some.inj h
      exact g_vret C hP hD hS dX0_search_105
    · have h := iff_ c1 h
      refine lv_iconst (v := 1) hx hb dX0_search_58 (by decide) ?_
      refine lv_iload hx hb dX0_search_59 (lv_at hl 6 rfl) ?_
      refine lv_ishl hx hb dX0_search_61 ?_
      refine lv_istore (lv' := [(9, .int ((1 : Int32) <<< (v8 &&& 31))), (0, .ref a_x), (1, .ref a_o1), (2, .int v2), (4, .int v4), (6, .int v6), (7, .int v7), (8, .int v8)]) hx hb dX0_search_62 hl (by decide) rfl (fun ls hl => ?_)
      refine lv_iload hx hb dX0_search_64 (lv_at hl 5 rfl) ?_
      refine lv_iload hx hb dX0_search_66 (lv_at hl 6 rfl) ?_
      refine lv_iconst (v := (-1)) hx hb dX0_search_68 (by decide) ?_
      refine lv_ixor hx hb dX0_search_69 ?_
      refine lv_iand hx hb dX0_search_70 ?_
      refine lv_iload hx hb dX0_search_71 (lv_at hl 0 rfl) ?_
      refine lv_iand hx hb dX0_search_73 ?_
      refine lv_if_eq (tgt := 99) hx hb dX0_search_74 (by decide) (fun c2 => ?_) (fun c2 => ?_)
      · have h := ift c2 h
        refine lv_iinc (v := v8 + 1) (lv' := [(8, .int (v8 + 1)), (9, .int ((1 : Int32) <<< (v8 &&& 31))), (0, .ref a_x), (1, .ref a_o1), (2, .int v2), (4, .int v4), (6, .int v6), (7, .int v7)]) hx hb dX0_search_99 hl (k := 7) rfl rfl (by decide) rfl (fun ls hl => ?_)
        refine lv_goto (tgt := 51) hx hb dX0_search_102 (by decide) ?_
        exact hk_51 x_found x_foundLength o1_reach o1_lastRoad v7 (v8 + 1) h H locs ls hP hD hS (lv_sub hl [2, 3, 4, 5, 6, 7, 0] rfl)
      · have h := iff_ c2 h
        refine lv_aload_n hx hb dX0_search_77 rfl (lv_at hl 1 rfl) ?_
        refine lv_aload_n hx hb dX0_search_78 rfl (lv_at hl 2 rfl) ?_
        refine lv_iload_n hx hb dX0_search_79 rfl (lv_at hl 3 rfl) ?_
        refine lv_iload hx hb dX0_search_80 (lv_at hl 0 rfl) ?_
        refine lv_ior hx hb dX0_search_82 ?_
        refine lv_iload hx hb dX0_search_83 (lv_at hl 6 rfl) ?_
        refine lv_iload hx hb dX0_search_85 (lv_at hl 4 rfl) ?_
        refine lv_iconst (v := 1) hx hb dX0_search_87 (by decide) ?_
        refine lv_isub hx hb dX0_search_88 ?_
        obtain ⟨q3, e3, h⟩ := bd_some h
        refine g_callV (index := 24) (maxL := 10) (n := 4) (As := [.ref a_o1, .int (v2 ||| ((1 : Int32) <<< (v8 &&& 31))), .int v7, .int (v4 - 1)]) (rest := []) (st1 := []) (rm := (rm_X0_search d)) (C1 := RX0) (T1 := TX0) (N1 := 4) (ws2 := (w_X0_search cI cJ cZ cG a_x a_o1 a_o1_from a_o1_to a_o1_length a_o1_reach a_o1_lastRoad x_start x_end q3.1 q3.2.1 o1_size o1_barred o1_from o1_to o1_length q3.2.2.1 q3.2.2.2)) C hP hD hS hl.1 0 0 (hself x_found x_foundLength o1_reach o1_lastRoad (v2 ||| ((1 : Int32) <<< (v8 &&& 31))) v7 (v4 - 1) q3 e3) gX0_search_X0_search rfl rfl rfl (by decide +kernel) ⟨by simp only [rm_X0_search]; omega, by simp only [rm_X0_search]; omega⟩ rfl rfl rfl (Nat.le_of_ble_eq_true rfl) rfl dX0_search_89 [0, 1, 2, 3, 4, 5, 6] [] [0, 1, 2, 3, 4, 5, 6] rfl rfl rfl rfl (by decide) rfl rfl rfl (fun H locs hP hD hS => ?_)
        refine lv_iload hx hb dX0_search_92 (lv_at hl 6 rfl) ?_
        refine lv_iload hx hb dX0_search_94 (lv_at hl 0 rfl) ?_
        refine lv_ior hx hb dX0_search_96 ?_
        refine lv_istore (lv' := [(7, .int (v7 ||| ((1 : Int32) <<< (v8 &&& 31)))), (9, .int ((1 : Int32) <<< (v8 &&& 31))), (0, .ref a_x), (1, .ref a_o1), (2, .int v2), (4, .int v4), (6, .int v6), (8, .int v8)]) hx hb dX0_search_97 hl (by decide) rfl (fun ls hl => ?_)
        refine lv_iinc (v := v8 + 1) (lv' := [(8, .int (v8 + 1)), (7, .int (v7 ||| ((1 : Int32) <<< (v8 &&& 31)))), (9, .int ((1 : Int32) <<< (v8 &&& 31))), (0, .ref a_x), (1, .ref a_o1), (2, .int v2), (4, .int v4), (6, .int v6)]) hx hb dX0_search_99 hl (k := 7) rfl rfl (by decide) rfl (fun ls hl => ?_)
        refine lv_goto (tgt := 51) hx hb dX0_search_102 (by decide) ?_
        exact hk_51 q3.1 q3.2.1 q3.2.2.1 q3.2.2.2 (v7 ||| ((1 : Int32) <<< (v8 &&& 31))) (v8 + 1) h H locs ls hP hD hS (lv_sub hl [3, 4, 5, 6, 7, 1, 0] rfl)
set_option maxRecDepth 100000 in
set_option maxHeartbeats 4000000 in
theorem c_X0_search (l : Launch) (D : va_G) (cI cJ cZ cG : ClassId) (a_x a_o1 a_o1_from a_o1_to a_o1_length a_o1_reach a_o1_lastRoad : Nat) (x_start : Int32) (x_end : Int32) (x_found : Int32) (x_foundLength : Int32) (o1_size : Int32) (o1_barred : Int32) (o1_from : (Nat → Int32)) (o1_to : (Nat → Int32)) (o1_length : (Nat → Int32)) (o1_reach : (Nat → Int32)) (o1_lastRoad : (Nat → Int32)) (p2 : Int32) (p3 : Int32) (p4 : Int32) (N d : Nat) (q : Int32 × Int32 × (Nat → Int32) × (Nat → Int32)) (h : f_X0_search N d x_start x_end x_found x_foundLength o1_size o1_barred o1_from o1_to o1_length o1_reach o1_lastRoad p2 p3 p4 = some q) : gMet l yX0_search wsX0_search (rm_X0_search d) [.ref a_x, .ref a_o1, .int p2, .int p3, .int p4] (w_X0_search cI cJ cZ cG a_x a_o1 a_o1_from a_o1_to a_o1_length a_o1_reach a_o1_lastRoad x_start x_end x_found x_foundLength o1_size o1_barred o1_from o1_to o1_length o1_reach o1_lastRoad) (w_X0_search cI cJ cZ cG a_x a_o1 a_o1_from a_o1_to a_o1_length a_o1_reach a_o1_lastRoad x_start x_end q.1 q.2.1 o1_size o1_barred o1_from o1_to o1_length q.2.2.1 q.2.2.2) none D cI cJ cZ cG := by
  induction d generalizing x_found x_foundLength o1_reach o1_lastRoad p2 p3 p4 q with
  | zero => cases h
  | succ d ih =>
    have h : r_X0_search N x_start x_end o1_size o1_barred o1_from o1_to o1_length (fun x_found x_foundLength o1_reach o1_lastRoad p2 p3 p4 => f_X0_search N d x_start x_end x_found x_foundLength o1_size o1_barred o1_from o1_to o1_length o1_reach o1_lastRoad p2 p3 p4) x_found x_foundLength o1_reach o1_lastRoad p2 p3 p4 = some q := h
    obtain ⟨self, es⟩ : ∃ f, f = (fun (x_found : Int32) (x_foundLength : Int32) (o1_reach : (Nat → Int32)) (o1_lastRoad : (Nat → Int32)) (p2 : Int32) (p3 : Int32) (p4 : Int32) => f_X0_search N d x_start x_end x_found x_foundLength o1_size o1_barred o1_from o1_to o1_length o1_reach o1_lastRoad p2 p3 p4) := ⟨_, rfl⟩
    rw [← es] at h
    have hself : ∀ (x_found : Int32) (x_foundLength : Int32) (o1_reach : (Nat → Int32)) (o1_lastRoad : (Nat → Int32)) (p2 : Int32) (p3 : Int32) (p4 : Int32) (q' : Int32 × Int32 × (Nat → Int32) × (Nat → Int32)), self x_found x_foundLength o1_reach o1_lastRoad p2 p3 p4 = some q' → gMet l yX0_search wsX0_search (rm_X0_search d) [.ref a_x, .ref a_o1, .int p2, .int p3, .int p4] (w_X0_search cI cJ cZ cG a_x a_o1 a_o1_from a_o1_to a_o1_length a_o1_reach a_o1_lastRoad x_start x_end x_found x_foundLength o1_size o1_barred o1_from o1_to o1_length o1_reach o1_lastRoad) (w_X0_search cI cJ cZ cG a_x a_o1 a_o1_from a_o1_to a_o1_length a_o1_reach a_o1_lastRoad x_start x_end (q'.1) (q'.2.1) o1_size o1_barred o1_from o1_to o1_length (q'.2.2.1) (q'.2.2.2)) none D cI cJ cZ cG := by
      intro x_found x_foundLength o1_reach o1_lastRoad p2 p3 p4 q' e9
      rw [es] at e9
      exact ih x_found x_foundLength o1_reach o1_lastRoad p2 p3 p4 q' e9
    clear ih es
    refine g_enter (cc := cX0_search) (nL := 10) (ret := none) (by decide) rfl (Nat.le_of_ble_eq_true rfl) ?_
    intro p e s m below meth c A C H locs ls hP hD hS hl
    obtain ⟨hx, hb, hr, hml, hown, hts, hlk, hgk, hA⟩ := id C
    have hK := hgk.1
    have hl : lv_has ls 10 [(0, .ref a_x), (1, .ref a_o1), (2, .int p2), (3, .int p3), (4, .int p4)] := hl
    unfold r_X0_search at h
    refine lv_aload_n hx hb dX0_search_0 rfl (lv_at hl 1 rfl) ?_
    refine lv_aload_n hx hb dX0_search_1 rfl (lv_at hl 0 rfl) ?_
    refine va_get (D := D) (ci := 0) (v := .int x_start) (C := RX0) (T := TX0) (N := 4) hx hb hts in_X0_search_X0 hown hK hP 0 rfl rfl 0 (by decide) (hts _ mb_X0_search_0) (fun _ h9 => h9) rfl dX0_search_2 ?_
    refine lv_aload_n hx hb dX0_search_5 rfl (lv_at hl 0 rfl) ?_
    refine va_get (D := D) (ci := 0) (v := .int x_end) (C := RX0) (T := TX0) (N := 4) hx hb hts in_X0_search_X0 hown hK hP 0 rfl rfl 1 (by decide) (hts _ mb_X0_search_1) (fun _ h9 => h9) rfl dX0_search_6 ?_
    refine lv_iload_n hx hb dX0_search_9 rfl (lv_at hl 2 rfl) ?_
    obtain ⟨q1, e1, h⟩ := bd_some h
    refine g_callV (index := 28) (maxL := 7) (n := 3) (As := [.int x_start, .int x_end, .int p2]) (rest := []) (st1 := [.int q1.1]) (rm := rm_X5_measure) (C1 := RX5) (T1 := TX5) (N1 := 7) (ws2 := (w_X0_search cI cJ cZ cG a_x a_o1 a_o1_from a_o1_to a_o1_length a_o1_reach a_o1_lastRoad x_start x_end x_found x_foundLength o1_size o1_barred o1_from o1_to o1_length q1.2.1 q1.2.2)) C hP hD hS hl.1 5 0 (c_X5_measure l D cI cJ cZ cG a_o1 a_o1_from a_o1_to a_o1_length a_o1_reach a_o1_lastRoad o1_size o1_barred o1_from o1_to o1_length o1_reach o1_lastRoad x_start x_end p2 N q1 e1) gX0_search_X5_measure rfl rfl rfl (by decide +kernel) ⟨by simp only [rm_X0_search, rm_X5_measure]; omega, by simp only [rm_X0_search, rm_X5_measure]; omega⟩ rfl rfl rfl (Nat.le_of_ble_eq_true rfl) rfl dX0_search_10 [1, 2, 3, 4, 5, 6] [0] [0, 1, 2, 3, 4, 5, 6] rfl rfl rfl rfl (by decide) rfl rfl rfl (fun H locs hP hD hS => ?_)
    refine lv_istore (lv' := [(5, .int q1.1), (0, .ref a_x), (1, .ref a_o1), (2, .int p2), (3, .int p3), (4, .int p4)]) hx hb dX0_search_13 hl (by decide) rfl (fun ls hl => ?_)
    refine lv_aload_n hx hb dX0_search_15 rfl (lv_at hl 1 rfl) ?_
    refine lv_iload_n hx hb dX0_search_16 rfl (lv_at hl 3 rfl) ?_
    refine lv_iload hx hb dX0_search_17 (lv_at hl 0 rfl) ?_
    refine g_callV (index := 34) (maxL := 5) (n := 2) (As := [.int p2, .int q1.1]) (rest := []) (st1 := []) (rm := rm_X0_take) (C1 := RX0) (T1 := TX0) (N1 := 4) (ws2 := (w_X0_search cI cJ cZ cG a_x a_o1 a_o1_from a_o1_to a_o1_length a_o1_reach a_o1_lastRoad x_start x_end ((f_X0_take x_found x_foundLength p2 q1.1).1) ((f_X0_take x_found x_foundLength p2 q1.1).2) o1_size o1_barred o1_from o1_to o1_length q1.2.1 q1.2.2)) C hP hD hS hl.1 0 0 (c_X0_take l D cI cJ cZ cG a_x x_start x_end x_found x_foundLength p2 q1.1 _ rfl) gX0_search_X0_take rfl rfl rfl (by decide +kernel) ⟨by simp only [rm_X0_search, rm_X0_take]; omega, by simp only [rm_X0_search, rm_X0_take]; omega⟩ rfl rfl rfl (Nat.le_of_ble_eq_true rfl) rfl dX0_search_19 [0] [1, 2, 3, 4, 5, 6] [6, 0, 1, 2, 3, 4, 5] rfl rfl rfl rfl (by decide) rfl rfl rfl (fun H locs hP hD hS => ?_)
    refine lv_iload hx hb dX0_search_22 (lv_at hl 5 rfl) ?_
    refine lv_if_le (tgt := 34) hx hb dX0_search_24 (by decide) (fun c2 => ?_) (fun c2 => ?_)
    · have h := ift c2 h
      obtain rfl := Option.some.inj h
      exact g_vret C hP hD hS dX0_search_34
    · have h := iff_ c2 h
      refine lv_iload hx hb dX0_search_27 (lv_at hl 0 rfl) ?_
      refine lv_ldc (v := 1000000) hx hb hown (hts _ mb_X0_search_2) dX0_search_29 ?_
      refine lv_icmp_lt (tgt := 35) hx hb dX0_search_31 (by decide) (fun c3 => ?_) (fun c3 => ?_)
      · have h := ift c3 h
        refine lv_aload_n hx hb dX0_search_35 rfl (lv_at hl 2 rfl) ?_
        refine lv_aload_n hx hb dX0_search_36 rfl (lv_at hl 1 rfl) ?_
        refine va_get (D := D) (ci := 0) (v := .int x_end) (C := RX0) (T := TX0) (N := 4) hx hb hts in_X0_search_X0 hown hK hP 0 rfl rfl 1 (by decide) (hts _ mb_X0_search_1) (fun _ h9 => h9) rfl dX0_search_37 ?_
        obtain ⟨q4, e4, h⟩ := bd_some h
        refine g_callV (index := 39) (maxL := 6) (n := 1) (As := [.int x_end]) (rest := []) (st1 := [.int q4]) (rm := rm_X5_wayTo) (C1 := RX5) (T1 := TX5) (N1 := 7) (ws2 := (w_X0_search cI cJ cZ cG a_x a_o1 a_o1_from a_o1_to a_o1_length a_o1_reach a_o1_lastRoad x_start x_end ((f_X0_take x_found x_foundLength p2 q1.1).1) ((f_X0_take x_found x_foundLength p2 q1.1).2) o1_size o1_barred o1_from o1_to o1_length q1.2.1 q1.2.2)) C hP hD hS hl.1 5 0 (c_X5_wayTo l D cI cJ cZ cG a_o1 a_o1_from a_o1_to a_o1_length a_o1_reach a_o1_lastRoad o1_size o1_barred o1_from q1.2.2 x_end N q4 e4) gX0_search_X5_wayTo rfl rfl rfl (by decide +kernel) ⟨by simp only [rm_X0_search, rm_X5_wayTo]; omega, by simp only [rm_X0_search, rm_X5_wayTo]; omega⟩ rfl rfl rfl (Nat.le_of_ble_eq_true rfl) rfl dX0_search_40 [1, 2, 6] [0, 3, 4, 5] [0, 4, 5, 1, 2, 3, 6] rfl rfl rfl rfl (by decide) rfl rfl rfl (fun H locs hP hD hS => ?_)
        refine lv_istore (lv' := [(6, .int q4), (5, .int q1.1), (0, .ref a_x), (1, .ref a_o1), (2, .int p2), (3, .int p3), (4, .int p4)]) hx hb dX0_search_43 hl (by decide) rfl (fun ls hl => ?_)
        refine lv_iload_n hx hb dX0_search_45 rfl (lv_at hl 5 rfl) ?_
        refine lv_istore (lv' := [(7, .int p3), (6, .int q4), (5, .int q1.1), (0, .ref a_x), (1, .ref a_o1), (2, .int p2), (3, .int p3), (4, .int p4)]) hx hb dX0_search_46 hl (by decide) rfl (fun ls hl => ?_)
        refine lv_iconst (v := 0) hx hb dX0_search_48 (by decide) ?_
        refine lv_istore (lv' := [(8, .int 0), (7, .int p3), (6, .int q4), (5, .int q1.1), (0, .ref a_x), (1, .ref a_o1), (2, .int p2), (3, .int p3), (4, .int p4)]) hx hb dX0_search_49 hl (by decide) rfl (fun ls hl => ?_)
        exact t_X0_search_b51 C a_x a_o1 a_o1_from a_o1_to a_o1_length a_o1_reach a_o1_lastRoad x_start x_end o1_size o1_barred o1_from o1_to o1_length N q d self hself p2 p4 q4 N ((f_X0_take x_found x_foundLength p2 q1.1).1) ((f_X0_take x_found x_foundLength p2 q1.1).2) q1.2.1 q1.2.2 p3 0 h H locs ls hP hD hS (lv_sub hl [4, 5, 6, 8, 2, 1, 0] rfl)
      · have h := iff_ c3 h
        obtain rfl := Option.some.inj h
        exact g_vret C hP hD hS dX0_search_34
theorem in_X0_find_X0 : ∀ w ∈ wsX00, w ∈ wsX0_find := by decide +kernel
theorem mb_X0_find_0 : Cond.fieldLink RX0 9 "GuardDesk$Blockade" "start" "I" ∈ wsX0_find := List.mem_of_getElem? (i := 1) rfl
theorem mb_X0_find_1 : Cond.fieldLink RX0 15 "GuardDesk$Blockade" "end" "I" ∈ wsX0_find := List.mem_of_getElem? (i := 2) rfl
theorem mb_X0_find_2 : Cond.fieldLink RX0 18 "GuardDesk$Blockade" "found" "I" ∈ wsX0_find := List.mem_of_getElem? (i := 3) rfl
theorem mb_X0_find_3 : Cond.fieldLink RX0 21 "GuardDesk$Blockade" "foundLength" "I" ∈ wsX0_find := List.mem_of_getElem? (i := 4) rfl
set_option maxRecDepth 100000 in
set_option maxHeartbeats 4000000 in
theorem c_X0_find (l : Launch) (D : va_G) (cI cJ cZ cG : ClassId) (a_x a_o1 a_o1_from a_o1_to a_o1_length a_o1_reach a_o1_lastRoad : Nat) (x_start : Int32) (x_end : Int32) (x_found : Int32) (x_foundLength : Int32) (o1_size : Int32) (o1_barred : Int32) (o1_from : (Nat → Int32)) (o1_to : (Nat → Int32)) (o1_length : (Nat → Int32)) (o1_reach : (Nat → Int32)) (o1_lastRoad : (Nat → Int32)) (p2 : Int32) (p3 : Int32) (p4 : Int32) (N : Nat) (q : Int32 × Int32 × Int32 × Int32 × Int32 × (Nat → Int32) × (Nat → Int32)) (h : f_X0_find N x_start x_end x_found x_foundLength o1_size o1_barred o1_from o1_to o1_length o1_reach o1_lastRoad p2 p3 p4 = some q) : gMet l yX0_find wsX0_find rm_X0_find [.ref a_x, .ref a_o1, .int p2, .int p3, .int p4] (w_X0_find cI cJ cZ cG a_x a_o1 a_o1_from a_o1_to a_o1_length a_o1_reach a_o1_lastRoad x_start x_end x_found x_foundLength o1_size o1_barred o1_from o1_to o1_length o1_reach o1_lastRoad) (w_X0_find cI cJ cZ cG a_x a_o1 a_o1_from a_o1_to a_o1_length a_o1_reach a_o1_lastRoad q.2.1 q.2.2.1 q.2.2.2.1 q.2.2.2.2.1 o1_size o1_barred o1_from o1_to o1_length q.2.2.2.2.2.1 q.2.2.2.2.2.2) (some (.int q.1)) D cI cJ cZ cG := by
  refine g_enter (cc := cX0_find) (nL := 5) (ret := (some .int)) (by decide) rfl (Nat.le_of_ble_eq_true rfl) ?_
  intro p e s m below meth c A C H locs ls hP hD hS hl
  obtain ⟨hx, hb, hr, hml, hown, hts, hlk, hgk, hA⟩ := id C
  have hK := hgk.1
  have hl : lv_has ls 5 [(0, .ref a_x), (1, .ref a_o1), (2, .int p2), (3, .int p3), (4, .int p4)] := hl
  unfold f_X0_find at h
  refine lv_aload_n hx hb dX0_find_0 rfl (lv_at hl 0 rfl) ?_
  refine lv_iload_n hx hb dX0_find_1 rfl (lv_at hl 2 rfl) ?_
  refine va_put (D := D) (ci := 0) (v := .int p2) (ty := .int) (C := RX0) (T := TX0) (N := 4) hx hb hts in_X0_find_X0 tyX0 tyX0_ok nmX0 hown hK hP hD hS 0 rfl rfl 0 (by decide) (hts _ mb_X0_find_0) (fun _ h9 => h9) rfl (by decide +kernel) rfl rfl (Nat.le_of_ble_eq_true rfl) dX0_find_2 (fun H locs hP hD hS => ?_)
  have hP : va_P D vwCl (w_X0_find cI cJ cZ cG a_x a_o1 a_o1_from a_o1_to a_o1_length a_o1_reach a_o1_lastRoad p2 x_end x_found x_foundLength o1_size o1_barred o1_from o1_to o1_length o1_reach o1_lastRoad) H := hP
  have hD : va_D A (w_X0_find cI cJ cZ cG a_x a_o1 a_o1_from a_o1_to a_o1_length a_o1_reach a_o1_lastRoad p2 x_end x_found x_foundLength o1_size o1_barred o1_from o1_to o1_length o1_reach o1_lastRoad) := hD
  refine lv_aload_n hx hb dX0_find_5 rfl (lv_at hl 0 rfl) ?_
  refine lv_iload_n hx hb dX0_find_6 rfl (lv_at hl 3 rfl) ?_
  refine va_put (D := D) (ci := 0) (v := .int p3) (ty := .int) (C := RX0) (T := TX0) (N := 4) hx hb hts in_X0_find_X0 tyX0 tyX0_ok nmX0 hown hK hP hD hS 0 rfl rfl 1 (by decide) (hts _ mb_X0_find_1) (fun _ h9 => h9) rfl (by decide +kernel) rfl rfl (Nat.le_of_ble_eq_true rfl) dX0_find_7 (fun H locs hP hD hS => ?_)
  have hP : va_P D vwCl (w_X0_find cI cJ cZ cG a_x a_o1 a_o1_from a_o1_to a_o1_length a_o1_reach a_o1_lastRoad p2 p3 x_found x_foundLength o1_size o1_barred o1_from o1_to o1_length o1_reach o1_lastRoad) H := hP
  have hD : va_D A (w_X0_find cI cJ cZ cG a_x a_o1 a_o1_from a_o1_to a_o1_length a_o1_reach a_o1_lastRoad p2 p3 x_found x_foundLength o1_size o1_barred o1_from o1_to o1_length o1_reach o1_lastRoad) := hD
  refine lv_aload_n hx hb dX0_find_10 rfl (lv_at hl 0 rfl) ?_
  refine lv_iconst (v := 0) hx hb dX0_find_11 (by decide) ?_
  refine va_put (D := D) (ci := 0) (v := .int 0) (ty := .int) (C := RX0) (T := TX0) (N := 4) hx hb hts in_X0_find_X0 tyX0 tyX0_ok nmX0 hown hK hP hD hS 0 rfl rfl 2 (by decide) (hts _ mb_X0_find_2) (fun _ h9 => h9) rfl (by decide +kernel) rfl rfl (Nat.le_of_ble_eq_true rfl) dX0_find_12 (fun H locs hP hD hS => ?_)
  have hP : va_P D vwCl (w_X0_find cI cJ cZ cG a_x a_o1 a_o1_from a_o1_to a_o1_length a_o1_reach a_o1_lastRoad p2 p3 0 x_foundLength o1_size o1_barred o1_from o1_to o1_length o1_reach o1_lastRoad) H := hP
  have hD : va_D A (w_X0_find cI cJ cZ cG a_x a_o1 a_o1_from a_o1_to a_o1_length a_o1_reach a_o1_lastRoad p2 p3 0 x_foundLength o1_size o1_barred o1_from o1_to o1_length o1_reach o1_lastRoad) := hD
  refine lv_aload_n hx hb dX0_find_15 rfl (lv_at hl 0 rfl) ?_
  refine lv_iconst (v := (-1)) hx hb dX0_find_16 (by decide) ?_
  refine va_put (D := D) (ci := 0) (v := .int (-1)) (ty := .int) (C := RX0) (T := TX0) (N := 4) hx hb hts in_X0_find_X0 tyX0 tyX0_ok nmX0 hown hK hP hD hS 0 rfl rfl 3 (by decide) (hts _ mb_X0_find_3) (fun _ h9 => h9) rfl (by decide +kernel) rfl rfl (Nat.le_of_ble_eq_true rfl) dX0_find_17 (fun H locs hP hD hS => ?_)
  have hP : va_P D vwCl (w_X0_find cI cJ cZ cG a_x a_o1 a_o1_from a_o1_to a_o1_length a_o1_reach a_o1_lastRoad p2 p3 0 (-1) o1_size o1_barred o1_from o1_to o1_length o1_reach o1_lastRoad) H := hP
  have hD : va_D A (w_X0_find cI cJ cZ cG a_x a_o1 a_o1_from a_o1_to a_o1_length a_o1_reach a_o1_lastRoad p2 p3 0 (-1) o1_size o1_barred o1_from o1_to o1_length o1_reach o1_lastRoad) := hD
  refine lv_aload_n hx hb dX0_find_20 rfl (lv_at hl 0 rfl) ?_
  refine lv_aload_n hx hb dX0_find_21 rfl (lv_at hl 1 rfl) ?_
  refine lv_iconst (v := 0) hx hb dX0_find_22 (by decide) ?_
  refine lv_iconst (v := 0) hx hb dX0_find_23 (by decide) ?_
  refine lv_iload hx hb dX0_find_24 (lv_at hl 4 rfl) ?_
  obtain ⟨q1, e1, h⟩ := bd_some h
  refine g_callV (index := 24) (maxL := 10) (n := 4) (As := [.ref a_o1, .int 0, .int 0, .int p4]) (rest := []) (st1 := []) (C1 := RX0) (T1 := TX0) (N1 := 4) (ws2 := (w_X0_find cI cJ cZ cG a_x a_o1 a_o1_from a_o1_to a_o1_length a_o1_reach a_o1_lastRoad p2 p3 q1.1 q1.2.1 o1_size o1_barred o1_from o1_to o1_length q1.2.2.1 q1.2.2.2)) C hP hD hS hl.1 0 0 (c_X0_search l D cI cJ cZ cG a_x a_o1 a_o1_from a_o1_to a_o1_length a_o1_reach a_o1_lastRoad p2 p3 0 (-1) o1_size o1_barred o1_from o1_to o1_length o1_reach o1_lastRoad 0 0 p4 N 8 q1 e1) gX0_find_X0_search rfl rfl rfl (by decide +kernel) ⟨Nat.le_of_ble_eq_true rfl, Nat.le_of_ble_eq_true rfl⟩ rfl rfl rfl (Nat.le_of_ble_eq_true rfl) rfl dX0_find_26 [0, 1, 2, 3, 4, 5, 6] [] [0, 1, 2, 3, 4, 5, 6] rfl rfl rfl rfl (by decide) rfl rfl rfl (fun H locs hP hD hS => ?_)
  refine lv_aload_n hx hb dX0_find_29 rfl (lv_at hl 0 rfl) ?_
  refine va_get (D := D) (ci := 0) (v := .int q1.1) (C := RX0) (T := TX0) (N := 4) hx hb hts in_X0_find_X0 hown hK hP 0 rfl rfl 2 (by decide) (hts _ mb_X0_find_2) (fun _ h9 => h9) rfl dX0_find_30 ?_
  obtain rfl := Option.some.inj h
  exact g_iret C hP hD hS dX0_find_33
set_option maxRecDepth 100000 in
set_option maxHeartbeats 4000000 in
theorem c_X1_restOf (l : Launch) (D : va_G) (cI cJ cZ cG : ClassId) (p0 : Int64) (p2 : Int64) (q : Int64) (h : f_X1_restOf p0 p2 = some q) : gMet l yX1_restOf wsX1_restOf rm_X1_restOf [.long p0, .long p2] (w_X1_restOf cI cJ cZ cG) (w_X1_restOf cI cJ cZ cG) (some (.long q)) D cI cJ cZ cG := by
  refine g_enter (cc := cX1_restOf) (nL := 4) (ret := (some .long)) (by decide) rfl (Nat.le_of_ble_eq_true rfl) ?_
  intro p e s m below meth c A C H locs ls hP hD hS hl
  obtain ⟨hx, hb, hr, hml, hown, hts, hlk, hgk, hA⟩ := id C
  have hK := hgk.1
  have hl : lv_has ls 4 [(0, .long p0), (2, .long p2)] := hl
  unfold f_X1_restOf at h
  refine lv_lload_n hx hb dX1_restOf_0 rfl (lv_at hl 1 rfl) ?_
  refine lv_lconst (v := 0) hx hb dX1_restOf_1 (by decide) ?_
  refine W.lcmp hx hb dX1_restOf_2 ?_
  refine lv_if_gt (tgt := 10) hx hb dX1_restOf_3 (by decide) (fun c1 => ?_) (fun c1 => ?_)
  · have c1 := lc_gt.mp c1
    have h := ift c1 h
    refine lv_lload_n hx hb dX1_restOf_10 rfl (lv_at hl 0 rfl) ?_
    refine lv_lload_n hx hb dX1_restOf_11 rfl (lv_at hl 1 rfl) ?_
    obtain ⟨z2, h⟩ := gDl_some h
    refine lv_lrem hx hb dX1_restOf_12 z2 ?_
    obtain rfl := Option.some.inj h
    exact g_lret C hP hD hS dX1_restOf_13
  · have c1 := (not_congr lc_gt).mp c1
    have h := iff_ c1 h
    refine lv_lconst (v := 0) hx hb dX1_restOf_6 (by decide) ?_
    refine lv_goto (tgt := 13) hx hb dX1_restOf_7 (by decide) ?_
    obtain rfl := Option.some.inj h
    exact g_lret C hP hD hS dX1_restOf_13
theorem in_X1_addCut_X1 : ∀ w ∈ wsX10, w ∈ wsX1_addCut := by decide +kernel
theorem mb_X1_addCut_0 : Cond.fieldLink RX1 9 "GuardDesk$Draw" "cuts" "[J" ∈ wsX1_addCut := List.mem_of_getElem? (i := 2) rfl
theorem mb_X1_addCut_1 : Cond.fieldLink RX1 15 "GuardDesk$Draw" "size" "I" ∈ wsX1_addCut := List.mem_of_getElem? (i := 1) rfl
set_option maxRecDepth 100000 in
set_option maxHeartbeats 4000000 in
theorem t_X1_addCut_b53 (C : cx D cI cJ cZ cG A cX1_addCut 5 none RX1 wsX1_addCut p s m args meth c) (a_x a_x_cuts : Nat) (N : Nat) (q : Int32 × (Nat → Int64)) (x_size : Int32) (v1 : Int64) (v3 : Int32) : ∀ (n : Nat) (x_cuts : (Nat → Int64)) (v4 : Int32), f_X1_addCut_b53 N x_size v1 v3 n x_cuts v4 = some q → WB p l e rm_X1_addCut s m args below meth c (MQ below (Qg D none (w_X1_addCut cI cJ cZ cG a_x a_x_cuts q.1 q.2) A) args s 0 0 A) D A 5 (w_X1_addCut cI cJ cZ cG a_x a_x_cuts x_size x_cuts) [(0, .ref a_x), (1, .long v1), (3, .int v3), (4, .int v4)] [] 53 := by
  obtain ⟨hx, hb, hr, hml, hown, hts, hlk, hgk, hA⟩ := id C
  have hK := hgk.1
  intro n
  induction n with
  | zero => intro x_cuts v4 h; cases h
  | succ n hk_53 =>
    intro x_cuts v4 h
    have h : g_X1_addCut_b53 N x_size v1 v3 (f_X1_addCut_b53 N x_size v1 v3 n) x_cuts v4 = some q := h
    generalize f_X1_addCut_b53 N x_size v1 v3 n = k_53 at h hk_53
    unfold g_X1_addCut_b53 at h
    intro H locs ls hP hD hS hl
    refine lv_iload hx hb dX1_addCut_53 (lv_at hl 3 rfl) ?_
    refine lv_iload_n hx hb dX1_addCut_55 rfl (lv_at hl 2 rfl) ?_
    refine lv_icmp_le (tgt := 81) hx hb dX1_addCut_56 (by decide) (fun c1 => ?_) (fun c1 => ?_)
    · have h := ift c1 h
      refine lv_aload_n hx hb dX1_addCut_81 rfl (lv_at hl 0 rfl) ?_
      refine va_get (D := D) (ci := 1) (v := .ref a_x_cuts) (C := RX1) (T := TX1) (N := 2) hx hb hts in_X1_addCut_X1 hown hK hP 0 rfl rfl 1 (by decide) (hts _ mb_X1_addCut_0) (fun _ h9 => h9) rfl dX1_addCut_82 ?_
      refine lv_iload_n hx hb dX1_addCut_85 rfl (lv_at hl 2 rfl) ?_
      refine lv_lload_n hx hb dX1_addCut_86 rfl (lv_at hl 1 rfl) ?_
      obtain ⟨i2, h⟩ := gI_some h
      refine va_last hx hb hK hP hD hS 1 1 rfl rfl i2 dX1_addCut_87 (fun H locs hP hD hS => ?_)
      have hP : va_P D vwCl (w_X1_addCut cI cJ cZ cG a_x a_x_cuts x_size (vp_updL x_cuts v3.toNatClampNeg v1)) H := hP
      have hD : va_D A (w_X1_addCut cI cJ cZ cG a_x a_x_cuts x_size (vp_updL x_cuts v3.toNatClampNeg v1)) := hD
      refine lv_aload_n hx hb dX1_addCut_88 rfl (lv_at hl 0 rfl) ?_
      refine lv_dup hx hb dX1_addCut_89 rfl ?_
      refine va_get (D := D) (ci := 1) (v := .int x_size) (C := RX1) (T := TX1) (N := 2) hx hb hts in_X1_addCut_X1 hown hK hP 0 rfl rfl 0 (by decide) (hts _ mb_X1_addCut_1) (fun _ h9 => h9) rfl dX1_addCut_90 ?_
      refine lv_iconst (v := 1) hx hb dX1_addCut_93 (by decide) ?_
      refine lv_iadd hx hb dX1_addCut_94 ?_
      refine va_put (D := D) (ci := 1) (v := .int (x_size + 1)) (ty := .int) (C := RX1) (T := TX1) (N := 2) hx hb hts in_X1_addCut_X1 tyX1 tyX1_ok nmX1 hown hK hP hD hS 0 rfl rfl 0 (by decide) (hts _ mb_X1_addCut_1) (fun _ h9 => h9) rfl (by decide +kernel) rfl rfl (Nat.le_of_ble_eq_true rfl) dX1_addCut_95 (fun H locs hP hD hS => ?_)
      have hP : va_P D vwCl (w_X1_addCut cI cJ cZ cG a_x a_x_cuts (x_size + 1) (vp_updL x_cuts v3.toNatClampNeg v1)) H := hP
      have hD : va_D A (w_X1_addCut cI cJ cZ cG a_x a_x_cuts (x_size + 1) (vp_updL x_cuts v3.toNatClampNeg v1)) := hD
      obtain rfl := Option.some.inj h
      exact g_vret C hP hD hS dX1_addCut_98
    · have h := iff_ c1 h
      refine lv_aload_n hx hb dX1_addCut_59 rfl (lv_at hl 0 rfl) ?_
      refine va_get (D := D) (ci := 1) (v := .ref a_x_cuts) (C := RX1) (T := TX1) (N := 2) hx hb hts in_X1_addCut_X1 hown hK hP 0 rfl rfl 1 (by decide) (hts _ mb_X1_addCut_0) (fun _ h9 => h9) rfl dX1_addCut_60 ?_
      refine lv_iload hx hb dX1_addCut_63 (lv_at hl 3 rfl) ?_
      refine lv_aload_n hx hb dX1_addCut_65 rfl (lv_at hl 0 rfl) ?_
      refine va_get (D := D) (ci := 1) (v := .ref a_x_cuts) (C := RX1) (T := TX1) (N := 2) hx hb hts in_X1_addCut_X1 hown hK hP 0 rfl rfl 1 (by decide) (hts _ mb_X1_addCut_0) (fun _ h9 => h9) rfl dX1_addCut_66 ?_
      refine lv_iload hx hb dX1_addCut_69 (lv_at hl 3 rfl) ?_
      refine lv_iconst (v := 1) hx hb dX1_addCut_71 (by decide) ?_
      refine lv_isub hx hb dX1_addCut_72 ?_
      obtain ⟨i3, h⟩ := gI_some h
      refine va_lald hx hb hK hP 1 1 rfl rfl i3 dX1_addCut_73 ?_
      obtain ⟨i4, h⟩ := gI_some h
      refine va_last hx hb hK hP hD hS 1 1 rfl rfl i4 dX1_addCut_74 (fun H locs hP hD hS => ?_)
      have hP : va_P D vwCl (w_X1_addCut cI cJ cZ cG a_x a_x_cuts x_size (vp_updL x_cuts v4.toNatClampNeg (x_cuts (v4 - 1).toNatClampNeg))) H := hP
      have hD : va_D A (w_X1_addCut cI cJ cZ cG a_x a_x_cuts x_size (vp_updL x_cuts v4.toNatClampNeg (x_cuts (v4 - 1).toNatClampNeg))) := hD
      refine lv_iinc (v := v4 + (-1)) (lv' := [(4, .int (v4 + (-1))), (0, .ref a_x), (1, .long v1), (3, .int v3)]) hx hb dX1_addCut_75 hl (k := 3) rfl rfl (by decide) rfl (fun ls hl => ?_)
      refine lv_goto (tgt := 53) hx hb dX1_addCut_78 (by decide) ?_
      exact hk_53 (vp_updL x_cuts v4.toNatClampNeg (x_cuts (v4 - 1).toNatClampNeg)) (v4 + (-1)) h H locs ls hP hD hS (lv_sub hl [1, 2, 3, 0] rfl)
set_option maxRecDepth 100000 in
set_option maxHeartbeats 4000000 in
theorem t_X1_addCut_b47 (C : cx D cI cJ cZ cG A cX1_addCut 5 none RX1 wsX1_addCut p s m args meth c) (a_x a_x_cuts : Nat) (N : Nat) (q : Int32 × (Nat → Int64)) (x_size : Int32) (x_cuts : (Nat → Int64)) (v1 : Int64) (v3 : Int32) (h : f_X1_addCut_b47 N x_size x_cuts v1 v3 = some q) : WB p l e rm_X1_addCut s m args below meth c (MQ below (Qg D none (w_X1_addCut cI cJ cZ cG a_x a_x_cuts q.1 q.2) A) args s 0 0 A) D A 5 (w_X1_addCut cI cJ cZ cG a_x a_x_cuts x_size x_cuts) [(0, .ref a_x), (1, .long v1), (3, .int v3)] [] 47 := by
  obtain ⟨hx, hb, hr, hml, hown, hts, hlk, hgk, hA⟩ := id C
  have hK := hgk.1
  unfold f_X1_addCut_b47 at h
  intro H locs ls hP hD hS hl
  refine lv_aload_n hx hb dX1_addCut_47 rfl (lv_at hl 0 rfl) ?_
  refine va_get (D := D) (ci := 1) (v := .int x_size) (C := RX1) (T := TX1) (N := 2) hx hb hts in_X1_addCut_X1 hown hK hP 0 rfl rfl 0 (by decide) (hts _ mb_X1_addCut_1) (fun _ h9 => h9) rfl dX1_addCut_48 ?_
  refine lv_istore (lv' := [(4, .int x_size), (0, .ref a_x), (1, .long v1), (3, .int v3)]) hx hb dX1_addCut_51 hl (by decide) rfl (fun ls hl => ?_)
  exact t_X1_addCut_b53 C a_x a_x_cuts N q x_size v1 v3 N x_cuts x_size h H locs ls hP hD hS (lv_sub hl [1, 2, 3, 0] rfl)
set_option maxRecDepth 100000 in
set_option maxHeartbeats 4000000 in
theorem t_X1_addCut_b27 (C : cx D cI cJ cZ cG A cX1_addCut 5 none RX1 wsX1_addCut p s m args meth c) (a_x a_x_cuts : Nat) (N : Nat) (q : Int32 × (Nat → Int64)) (x_size : Int32) (x_cuts : (Nat → Int64)) (v1 : Int64) (v3 : Int32) (h : f_X1_addCut_b27 N x_size x_cuts v1 v3 = some q) : WB p l e rm_X1_addCut s m args below meth c (MQ below (Qg D none (w_X1_addCut cI cJ cZ cG a_x a_x_cuts q.1 q.2) A) args s 0 0 A) D A 5 (w_X1_addCut cI cJ cZ cG a_x a_x_cuts x_size x_cuts) [(0, .ref a_x), (1, .long v1), (3, .int v3)] [] 27 := by
  obtain ⟨hx, hb, hr, hml, hown, hts, hlk, hgk, hA⟩ := id C
  have hK := hgk.1
  unfold f_X1_addCut_b27 at h
  intro H locs ls hP hD hS hl
  refine lv_iload_n hx hb dX1_addCut_27 rfl (lv_at hl 2 rfl) ?_
  refine lv_aload_n hx hb dX1_addCut_28 rfl (lv_at hl 0 rfl) ?_
  refine va_get (D := D) (ci := 1) (v := .int x_size) (C := RX1) (T := TX1) (N := 2) hx hb hts in_X1_addCut_X1 hown hK hP 0 rfl rfl 0 (by decide) (hts _ mb_X1_addCut_1) (fun _ h9 => h9) rfl dX1_addCut_29 ?_
  refine lv_icmp_ge (tgt := 47) hx hb dX1_addCut_32 (by decide) (fun c1 => ?_) (fun c1 => ?_)
  · have h := ift c1 h
    exact t_X1_addCut_b47 C a_x a_x_cuts N q x_size x_cuts v1 v3 h H locs ls hP hD hS (lv_sub hl [0, 1, 2] rfl)
  · have h := iff_ c1 h
    refine lv_aload_n hx hb dX1_addCut_35 rfl (lv_at hl 0 rfl) ?_
    refine va_get (D := D) (ci := 1) (v := .ref a_x_cuts) (C := RX1) (T := TX1) (N := 2) hx hb hts in_X1_addCut_X1 hown hK hP 0 rfl rfl 1 (by decide) (hts _ mb_X1_addCut_0) (fun _ h9 => h9) rfl dX1_addCut_36 ?_
    refine lv_iload_n hx hb dX1_addCut_39 rfl (lv_at hl 2 rfl) ?_
    obtain ⟨i2, h⟩ := gI_some h
    refine va_lald hx hb hK hP 1 1 rfl rfl i2 dX1_addCut_40 ?_
    refine lv_lload_n hx hb dX1_addCut_41 rfl (lv_at hl 1 rfl) ?_
    refine W.lcmp hx hb dX1_addCut_42 ?_
    refine lv_if_ne (tgt := 47) hx hb dX1_addCut_43 (by decide) (fun c3 => ?_) (fun c3 => ?_)
    · have c3 := (not_congr lc_eq).mp c3
      have h := iff_ c3 h
      exact t_X1_addCut_b47 C a_x a_x_cuts N q x_size x_cuts v1 v3 h H locs ls hP hD hS (lv_sub hl [0, 1, 2] rfl)
    · have c3 := lc_eq.mp c3
      have h := ift c3 h
      obtain rfl := Option.some.inj h
      exact g_vret C hP hD hS dX1_addCut_46
set_option maxRecDepth 100000 in
set_option maxHeartbeats 4000000 in
theorem t_X1_addCut_b2 (C : cx D cI cJ cZ cG A cX1_addCut 5 none RX1 wsX1_addCut p s m args meth c) (a_x a_x_cuts : Nat) (N : Nat) (q : Int32 × (Nat → Int64)) (x_size : Int32) (x_cuts : (Nat → Int64)) (v1 : Int64) : ∀ (n : Nat) (v3 : Int32), f_X1_addCut_b2 N x_size x_cuts v1 n v3 = some q → WB p l e rm_X1_addCut s m args below meth c (MQ below (Qg D none (w_X1_addCut cI cJ cZ cG a_x a_x_cuts q.1 q.2) A) args s 0 0 A) D A 5 (w_X1_addCut cI cJ cZ cG a_x a_x_cuts x_size x_cuts) [(0, .ref a_x), (1, .long v1), (3, .int v3)] [] 2 := by
  obtain ⟨hx, hb, hr, hml, hown, hts, hlk, hgk, hA⟩ := id C
  have hK := hgk.1
  intro n
  induction n with
  | zero => intro v3 h; cases h
  | succ n hk_2 =>
    intro v3 h
    have h : g_X1_addCut_b2 N x_size x_cuts v1 (f_X1_addCut_b2 N x_size x_cuts v1 n) v3 = some q := h
    generalize f_X1_addCut_b2 N x_size x_cuts v1 n = k_2 at h hk_2
    unfold g_X1_addCut_b2 at h
    intro H locs ls hP hD hS hl
    refine lv_iload_n hx hb dX1_addCut_2 rfl (lv_at hl 2 rfl) ?_
    refine lv_aload_n hx hb dX1_addCut_3 rfl (lv_at hl 0 rfl) ?_
    refine va_get (D := D) (ci := 1) (v := .int x_size) (C := RX1) (T := TX1) (N := 2) hx hb hts in_X1_addCut_X1 hown hK hP 0 rfl rfl 0 (by decide) (hts _ mb_X1_addCut_1) (fun _ h9 => h9) rfl dX1_addCut_4 ?_
    refine lv_icmp_ge (tgt := 27) hx hb dX1_addCut_7 (by decide) (fun c1 => ?_) (fun c1 => ?_)
    · have h := ift c1 h
      exact t_X1_addCut_b27 C a_x a_x_cuts N q x_size x_cuts v1 v3 h H locs ls hP hD hS (lv_sub hl [0, 1, 2] rfl)
    · have h := iff_ c1 h
      refine lv_aload_n hx hb dX1_addCut_10 rfl (lv_at hl 0 rfl) ?_
      refine va_get (D := D) (ci := 1) (v := .ref a_x_cuts) (C := RX1) (T := TX1) (N := 2) hx hb hts in_X1_addCut_X1 hown hK hP 0 rfl rfl 1 (by decide) (hts _ mb_X1_addCut_0) (fun _ h9 => h9) rfl dX1_addCut_11 ?_
      refine lv_iload_n hx hb dX1_addCut_14 rfl (lv_at hl 2 rfl) ?_
      obtain ⟨i2, h⟩ := gI_some h
      refine va_lald hx hb hK hP 1 1 rfl rfl i2 dX1_addCut_15 ?_
      refine lv_lload_n hx hb dX1_addCut_16 rfl (lv_at hl 1 rfl) ?_
      refine W.lcmp hx hb dX1_addCut_17 ?_
      refine lv_if_ge (tgt := 27) hx hb dX1_addCut_18 (by decide) (fun c3 => ?_) (fun c3 => ?_)
      · have c3 := lc_ge.mp c3
        have h := ift c3 h
        exact t_X1_addCut_b27 C a_x a_x_cuts N q x_size x_cuts v1 v3 h H locs ls hP hD hS (lv_sub hl [0, 1, 2] rfl)
      · have c3 := (not_congr lc_ge).mp c3
        have h := iff_ c3 h
        refine lv_iinc (v := v3 + 1) (lv' := [(3, .int (v3 + 1)), (0, .ref a_x), (1, .long v1)]) hx hb dX1_addCut_21 hl (k := 2) rfl rfl (by decide) rfl (fun ls hl => ?_)
        refine lv_goto (tgt := 2) hx hb dX1_addCut_24 (by decide) ?_
        exact hk_2 (v3 + 1) h H locs ls hP hD hS (lv_sub hl [1, 2, 0] rfl)
set_option maxRecDepth 100000 in
set_option maxHeartbeats 4000000 in
theorem c_X1_addCut (l : Launch) (D : va_G) (cI cJ cZ cG : ClassId) (a_x a_x_cuts : Nat) (x_size : Int32) (x_cuts : (Nat → Int64)) (p1 : Int64) (N : Nat) (q : Int32 × (Nat → Int64)) (h : f_X1_addCut N x_size x_cuts p1 = some q) : gMet l yX1_addCut wsX1_addCut rm_X1_addCut [.ref a_x, .long p1] (w_X1_addCut cI cJ cZ cG a_x a_x_cuts x_size x_cuts) (w_X1_addCut cI cJ cZ cG a_x a_x_cuts q.1 q.2) none D cI cJ cZ cG := by
  refine g_enter (cc := cX1_addCut) (nL := 5) (ret := none) (by decide) rfl (Nat.le_of_ble_eq_true rfl) ?_
  intro p e s m below meth c A C H locs ls hP hD hS hl
  obtain ⟨hx, hb, hr, hml, hown, hts, hlk, hgk, hA⟩ := id C
  have hK := hgk.1
  have hl : lv_has ls 5 [(0, .ref a_x), (1, .long p1)] := hl
  unfold f_X1_addCut at h
  refine lv_iconst (v := 0) hx hb dX1_addCut_0 (by decide) ?_
  refine lv_istore_n (lv' := [(3, .int 0), (0, .ref a_x), (1, .long p1)]) hx hb dX1_addCut_1 rfl hl (by decide) rfl (fun ls hl => ?_)
  exact t_X1_addCut_b2 C a_x a_x_cuts N q x_size x_cuts p1 N 0 h H locs ls hP hD hS (lv_sub hl [1, 2, 0] rfl)
theorem in_X1_make_X1 : ∀ w ∈ wsX10, w ∈ wsX1_make := by decide +kernel
theorem in_X1_make_X3 : ∀ w ∈ wsX30, w ∈ wsX1_make := by decide +kernel
theorem mb_X1_make_0 : Cond.fieldLink RX1 19 "GuardDesk$Plan" "size" "I" ∈ wsX1_make := List.mem_of_getElem? (i := 3) rfl
theorem mb_X1_make_1 : Cond.fieldLink RX1 9 "GuardDesk$Draw" "cuts" "[J" ∈ wsX1_make := List.mem_of_getElem? (i := 2) rfl
theorem mb_X1_make_2 : Cond.fieldLink RX1 15 "GuardDesk$Draw" "size" "I" ∈ wsX1_make := List.mem_of_getElem? (i := 1) rfl
theorem mb_X1_make_3 : Cond.fieldLink RX1 25 "GuardDesk$Plan" "unit" "J" ∈ wsX1_make := List.mem_of_getElem? (i := 5) rfl
theorem mb_X1_make_4 : Cond.fieldLink RX1 22 "GuardDesk$Plan" "parts" "[J" ∈ wsX1_make := List.mem_of_getElem? (i := 4) rfl
set_option maxRecDepth 100000 in
set_option maxHeartbeats 4000000 in
theorem t_X1_make_b17 (C : cx D cI cJ cZ cG A cX1_make 5 none RX1 wsX1_make p s m args meth c) (a_x a_x_cuts a_o1 a_o1_parts : Nat) (o1_levelAbove : Int64) (o1_levelBelow : Int64) (o1_unit : Int64) (o1_size : Int32) (o1_goal : Int32) (o1_parts : (Nat → Int64)) (N : Nat) (q : Int32 × (Nat → Int64)) : ∀ (n : Nat) (x_size : Int32) (x_cuts : (Nat → Int64)) (v2 : Int64) (v4 : Int32), f_X1_make_b17 N o1_unit o1_size o1_parts n x_size x_cuts v2 v4 = some q → WB p l e rm_X1_make s m args below meth c (MQ below (Qg D none (w_X1_make cI cJ cZ cG a_x a_x_cuts a_o1 a_o1_parts q.1 q.2 o1_levelAbove o1_levelBelow o1_unit o1_size o1_goal o1_parts) A) args s 0 0 A) D A 5 (w_X1_make cI cJ cZ cG a_x a_x_cuts a_o1 a_o1_parts x_size x_cuts o1_levelAbove o1_levelBelow o1_unit o1_size o1_goal o1_parts) [(0, .ref a_x), (1, .ref a_o1), (2, .long v2), (4, .int v4)] [] 17 := by
  obtain ⟨hx, hb, hr, hml, hown, hts, hlk, hgk, hA⟩ := id C
  have hK := hgk.1
  intro n
  induction n with
  | zero => intro x_size x_cuts v2 v4 h; cases h
  | succ n hk_17 =>
    intro x_size x_cuts v2 v4 h
    have h : g_X1_make_b17 N o1_unit o1_size o1_parts (f_X1_make_b17 N o1_unit o1_size o1_parts n) x_size x_cuts v2 v4 = some q := h
    generalize f_X1_make_b17 N o1_unit o1_size o1_parts n = k_17 at h hk_17
    unfold g_X1_make_b17 at h
    intro H locs ls hP hD hS hl
    refine lv_iload hx hb dX1_make_17 (lv_at hl 3 rfl) ?_
    refine lv_aload_n hx hb dX1_make_19 rfl (lv_at hl 1 rfl) ?_
    refine va_get (D := D) (ci := 3) (v := .int o1_size) (C := RX3) (T := TX3) (N := 6) hx hb hts in_X1_make_X3 hown hK hP 2 rfl rfl 3 (by decide) (hts _ mb_X1_make_0) (fun _ h9 => h9) rfl dX1_make_20 ?_
    refine lv_icmp_ge (tgt := 54) hx hb dX1_make_23 (by decide) (fun c1 => ?_) (fun c1 => ?_)
    · have h := ift c1 h
      refine lv_aload_n hx hb dX1_make_54 rfl (lv_at hl 0 rfl) ?_
      refine va_get (D := D) (ci := 1) (v := .ref a_x_cuts) (C := RX1) (T := TX1) (N := 2) hx hb hts in_X1_make_X1 hown hK hP 0 rfl rfl 1 (by decide) (hts _ mb_X1_make_1) (fun _ h9 => h9) rfl dX1_make_55 ?_
      refine lv_aload_n hx hb dX1_make_58 rfl (lv_at hl 0 rfl) ?_
      refine va_get (D := D) (ci := 1) (v := .int x_size) (C := RX1) (T := TX1) (N := 2) hx hb hts in_X1_make_X1 hown hK hP 0 rfl rfl 0 (by decide) (hts _ mb_X1_make_2) (fun _ h9 => h9) rfl dX1_make_59 ?_
      refine lv_aload_n hx hb dX1_make_62 rfl (lv_at hl 1 rfl) ?_
      refine va_get (D := D) (ci := 3) (v := .long o1_unit) (C := RX3) (T := TX3) (N := 6) hx hb hts in_X1_make_X3 hown hK hP 2 rfl rfl 2 (by decide) (hts _ mb_X1_make_3) (fun _ h9 => h9) rfl dX1_make_63 ?_
      obtain ⟨i2, h⟩ := gI_some h
      refine va_last hx hb hK hP hD hS 1 1 rfl rfl i2 dX1_make_66 (fun H locs hP hD hS => ?_)
      have hP : va_P D vwCl (w_X1_make cI cJ cZ cG a_x a_x_cuts a_o1 a_o1_parts x_size (vp_updL x_cuts x_size.toNatClampNeg o1_unit) o1_levelAbove o1_levelBelow o1_unit o1_size o1_goal o1_parts) H := hP
      have hD : va_D A (w_X1_make cI cJ cZ cG a_x a_x_cuts a_o1 a_o1_parts x_size (vp_updL x_cuts x_size.toNatClampNeg o1_unit) o1_levelAbove o1_levelBelow o1_unit o1_size o1_goal o1_parts) := hD
      obtain rfl := Option.some.inj h
      exact g_vret C hP hD hS dX1_make_67
    · have h := iff_ c1 h
      refine lv_lload_n hx hb dX1_make_26 rfl (lv_at hl 2 rfl) ?_
      refine lv_aload_n hx hb dX1_make_27 rfl (lv_at hl 1 rfl) ?_
      refine va_get (D := D) (ci := 3) (v := .ref a_o1_parts) (C := RX3) (T := TX3) (N := 6) hx hb hts in_X1_make_X3 hown hK hP 2 rfl rfl 5 (by decide) (hts _ mb_X1_make_4) (fun _ h9 => h9) rfl dX1_make_28 ?_
      refine lv_iload hx hb dX1_make_31 (lv_at hl 3 rfl) ?_
      obtain ⟨i3, h⟩ := gI_some h
      refine va_lald hx hb hK hP 3 1 rfl rfl i3 dX1_make_33 ?_
      refine lv_ladd hx hb dX1_make_34 ?_
      refine lv_lstore_n (lv' := [(2, .long (v2 + (o1_parts v4.toNatClampNeg))), (0, .ref a_x), (1, .ref a_o1), (4, .int v4)]) hx hb dX1_make_35 rfl hl (by decide) rfl (fun ls hl => ?_)
      refine lv_aload_n hx hb dX1_make_36 rfl (lv_at hl 1 rfl) ?_
      refine lv_lload_n hx hb dX1_make_37 rfl (lv_at hl 0 rfl) ?_
      refine lv_aload_n hx hb dX1_make_38 rfl (lv_at hl 2 rfl) ?_
      refine va_get (D := D) (ci := 3) (v := .long o1_unit) (C := RX3) (T := TX3) (N := 6) hx hb hts in_X1_make_X3 hown hK hP 2 rfl rfl 2 (by decide) (hts _ mb_X1_make_3) (fun _ h9 => h9) rfl dX1_make_39 ?_
      obtain ⟨q4, e4, h⟩ := bd_some h
      refine g_callS0 (index := 29) (maxL := 4) (n := 2) (As := [.long (v2 + (o1_parts v4.toNatClampNeg)), .long o1_unit]) (rest := [.ref a_x]) (st1 := [.long q4, .ref a_x]) C hP hS hl.1 (c_X1_restOf l D cI cJ cZ cG (v2 + (o1_parts v4.toNatClampNeg)) o1_unit q4 e4) gX1_make_X1_restOf rfl rfl rfl (by decide +kernel) ⟨Nat.le_of_ble_eq_true rfl, Nat.le_of_ble_eq_true rfl⟩ rfl (Nat.le_of_ble_eq_true rfl) rfl dX1_make_42 rfl (fun H locs hP hS => ?_)
      obtain ⟨q5, e5, h⟩ := bd_some h
      refine g_callV (index := 33) (maxL := 5) (n := 1) (As := [.long q4]) (rest := []) (st1 := []) (C1 := RX1) (T1 := TX1) (N1 := 2) (ws2 := (w_X1_make cI cJ cZ cG a_x a_x_cuts a_o1 a_o1_parts q5.1 q5.2 o1_levelAbove o1_levelBelow o1_unit o1_size o1_goal o1_parts)) C hP hD hS hl.1 1 0 (c_X1_addCut l D cI cJ cZ cG a_x a_x_cuts x_size x_cuts q4 N q5 e5) gX1_make_X1_addCut rfl rfl rfl (by decide +kernel) ⟨Nat.le_of_ble_eq_true rfl, Nat.le_of_ble_eq_true rfl⟩ rfl rfl rfl (Nat.le_of_ble_eq_true rfl) rfl dX1_make_45 [0, 1] [2, 3] [2, 3, 0, 1] rfl rfl rfl rfl (by decide) rfl rfl rfl (fun H locs hP hD hS => ?_)
      refine lv_iinc (v := v4 + 1) (lv' := [(4, .int (v4 + 1)), (2, .long (v2 + (o1_parts v4.toNatClampNeg))), (0, .ref a_x), (1, .ref a_o1)]) hx hb dX1_make_48 hl (k := 3) rfl rfl (by decide) rfl (fun ls hl => ?_)
      refine lv_goto (tgt := 17) hx hb dX1_make_51 (by decide) ?_
      exact hk_17 q5.1 q5.2 (v2 + (o1_parts v4.toNatClampNeg)) (v4 + 1) h H locs ls hP hD hS (lv_sub hl [2, 3, 1, 0] rfl)
set_option maxRecDepth 100000 in
set_option maxHeartbeats 4000000 in
theorem c_X1_make (l : Launch) (D : va_G) (cI cJ cZ cG : ClassId) (a_x a_x_cuts a_o1 a_o1_parts : Nat) (x_size : Int32) (x_cuts : (Nat → Int64)) (o1_levelAbove : Int64) (o1_levelBelow : Int64) (o1_unit : Int64) (o1_size : Int32) (o1_goal : Int32) (o1_parts : (Nat → Int64)) (N : Nat) (q : Int32 × (Nat → Int64)) (h : f_X1_make N x_size x_cuts o1_unit o1_size o1_parts = some q) : gMet l yX1_make wsX1_make rm_X1_make [.ref a_x, .ref a_o1] (w_X1_make cI cJ cZ cG a_x a_x_cuts a_o1 a_o1_parts x_size x_cuts o1_levelAbove o1_levelBelow o1_unit o1_size o1_goal o1_parts) (w_X1_make cI cJ cZ cG a_x a_x_cuts a_o1 a_o1_parts q.1 q.2 o1_levelAbove o1_levelBelow o1_unit o1_size o1_goal o1_parts) none D cI cJ cZ cG := by
  refine g_enter (cc := cX1_make) (nL := 5) (ret := none) (by decide) rfl (Nat.le_of_ble_eq_true rfl) ?_
  intro p e s m below meth c A C H locs ls hP hD hS hl
  obtain ⟨hx, hb, hr, hml, hown, hts, hlk, hgk, hA⟩ := id C
  have hK := hgk.1
  have hl : lv_has ls 5 [(0, .ref a_x), (1, .ref a_o1)] := hl
  unfold f_X1_make at h
  refine lv_aload_n hx hb dX1_make_0 rfl (lv_at hl 0 rfl) ?_
  refine lv_iconst (v := 1) hx hb dX1_make_1 (by decide) ?_
  refine va_put (D := D) (ci := 1) (v := .int 1) (ty := .int) (C := RX1) (T := TX1) (N := 2) hx hb hts in_X1_make_X1 tyX1 tyX1_ok nmX1 hown hK hP hD hS 0 rfl rfl 0 (by decide) (hts _ mb_X1_make_2) (fun _ h9 => h9) rfl (by decide +kernel) rfl rfl (Nat.le_of_ble_eq_true rfl) dX1_make_2 (fun H locs hP hD hS => ?_)
  have hP : va_P D vwCl (w_X1_make cI cJ cZ cG a_x a_x_cuts a_o1 a_o1_parts 1 x_cuts o1_levelAbove o1_levelBelow o1_unit o1_size o1_goal o1_parts) H := hP
  have hD : va_D A (w_X1_make cI cJ cZ cG a_x a_x_cuts a_o1 a_o1_parts 1 x_cuts o1_levelAbove o1_levelBelow o1_unit o1_size o1_goal o1_parts) := hD
  refine lv_aload_n hx hb dX1_make_5 rfl (lv_at hl 0 rfl) ?_
  refine va_get (D := D) (ci := 1) (v := .ref a_x_cuts) (C := RX1) (T := TX1) (N := 2) hx hb hts in_X1_make_X1 hown hK hP 0 rfl rfl 1 (by decide) (hts _ mb_X1_make_1) (fun _ h9 => h9) rfl dX1_make_6 ?_
  refine lv_iconst (v := 0) hx hb dX1_make_9 (by decide) ?_
  refine lv_lconst (v := 0) hx hb dX1_make_10 (by decide) ?_
  refine va_last hx hb hK hP hD hS 1 1 rfl rfl (g_lit (i := 0) (n := 12) (by decide)) dX1_make_11 (fun H locs hP hD hS => ?_)
  have hP : va_P D vwCl (w_X1_make cI cJ cZ cG a_x a_x_cuts a_o1 a_o1_parts 1 (vp_updL x_cuts 0 0) o1_levelAbove o1_levelBelow o1_unit o1_size o1_goal o1_parts) H := hP
  have hD : va_D A (w_X1_make cI cJ cZ cG a_x a_x_cuts a_o1 a_o1_parts 1 (vp_updL x_cuts 0 0) o1_levelAbove o1_levelBelow o1_unit o1_size o1_goal o1_parts) := hD
  refine lv_lconst (v := 0) hx hb dX1_make_12 (by decide) ?_
  refine lv_lstore_n (lv' := [(2, .long 0), (0, .ref a_x), (1, .ref a_o1)]) hx hb dX1_make_13 rfl hl (by decide) rfl (fun ls hl => ?_)
  refine lv_iconst (v := 0) hx hb dX1_make_14 (by decide) ?_
  refine lv_istore (lv' := [(4, .int 0), (2, .long 0), (0, .ref a_x), (1, .ref a_o1)]) hx hb dX1_make_15 hl (by decide) rfl (fun ls hl => ?_)
  exact t_X1_make_b17 C a_x a_x_cuts a_o1 a_o1_parts o1_levelAbove o1_levelBelow o1_unit o1_size o1_goal o1_parts N q N 1 (vp_updL x_cuts 0 0) 0 0 h H locs ls hP hD hS (lv_sub hl [2, 3, 1, 0] rfl)
theorem in_X1_membersAt_X3 : ∀ w ∈ wsX30, w ∈ wsX1_membersAt := by decide +kernel
theorem mb_X1_membersAt_0 : Cond.fieldLink RX1 19 "GuardDesk$Plan" "size" "I" ∈ wsX1_membersAt := List.mem_of_getElem? (i := 1) rfl
theorem mb_X1_membersAt_1 : Cond.fieldLink RX1 22 "GuardDesk$Plan" "parts" "[J" ∈ wsX1_membersAt := List.mem_of_getElem? (i := 2) rfl
theorem mb_X1_membersAt_2 : Cond.fieldLink RX1 25 "GuardDesk$Plan" "unit" "J" ∈ wsX1_membersAt := List.mem_of_getElem? (i := 3) rfl
set_option maxRecDepth 100000 in
set_option maxHeartbeats 4000000 in
theorem t_X1_membersAt_b63 (C : cx D cI cJ cZ cG A cX1_membersAt 12 (some .int) RX1 wsX1_membersAt p s m args meth c) (a_x a_x_cuts a_o1 a_o1_parts : Nat) (x_size : Int32) (o1_levelAbove : Int64) (o1_levelBelow : Int64) (o1_unit : Int64) (o1_size : Int32) (o1_goal : Int32) (o1_parts : (Nat → Int64)) (N : Nat) (q : Int32) (v2 : Int64) (v4 : Int32) (v7 : Int32) (v8 : Int64) (v10 : Int64) (k_9 : Int32 → Int64 → Int32 → Option (Int32)) (hk_9 : ∀ (v4 : Int32) (v5 : Int64) (v7 : Int32), k_9 v4 v5 v7 = some q → WB p l e rm_X1_membersAt s m args below meth c (MQ below (Qg D (some (.int q)) (w_X1_membersAt cI cJ cZ cG a_x a_x_cuts a_o1 a_o1_parts x_size o1_levelAbove o1_levelBelow o1_unit o1_size o1_goal o1_parts) A) args s 0 0 A) D A 12 (w_X1_membersAt cI cJ cZ cG a_x a_x_cuts a_o1 a_o1_parts x_size o1_levelAbove o1_levelBelow o1_unit o1_size o1_goal o1_parts) [(1, .ref a_o1), (2, .long v2), (4, .int v4), (5, .long v5), (7, .int v7)] [] 9) (h : f_X1_membersAt_b63 N o1_unit o1_size o1_parts k_9 v2 v4 v7 v8 v10 = some q) : WB p l e rm_X1_membersAt s m args below meth c (MQ below (Qg D (some (.int q)) (w_X1_membersAt cI cJ cZ cG a_x a_x_cuts a_o1 a_o1_parts x_size o1_levelAbove o1_levelBelow o1_unit o1_size o1_goal o1_parts) A) args s 0 0 A) D A 12 (w_X1_membersAt cI cJ cZ cG a_x a_x_cuts a_o1 a_o1_parts x_size o1_levelAbove o1_levelBelow o1_unit o1_size o1_goal o1_parts) [(1, .ref a_o1), (2, .long v2), (4, .int v4), (7, .int v7), (8, .long v8), (10, .long v10)] [] 63 := by
  obtain ⟨hx, hb, hr, hml, hown, hts, hlk, hgk, hA⟩ := id C
  have hK := hgk.1
  unfold f_X1_membersAt_b63 at h
  intro H locs ls hP hD hS hl
  refine lv_lload hx hb dX1_membersAt_63 (lv_at hl 5 rfl) ?_
  refine lv_lload hx hb dX1_membersAt_65 (lv_at hl 4 rfl) ?_
  refine W.lcmp hx hb dX1_membersAt_67 ?_
  refine lv_if_ge (tgt := 80) hx hb dX1_membersAt_68 (by decide) (fun c1 => ?_) (fun c1 => ?_)
  · have c1 := lc_ge.mp c1
    have h := ift c1 h
    refine lv_lload hx hb dX1_membersAt_80 (lv_at hl 4 rfl) ?_
    refine lv_lstore (lv' := [(5, .long v8), (1, .ref a_o1), (2, .long v2), (4, .int v4), (7, .int v7), (8, .long v8), (10, .long v10)]) hx hb dX1_membersAt_82 hl (by decide) rfl (fun ls hl => ?_)
    refine lv_iinc (v := v7 + 1) (lv' := [(7, .int (v7 + 1)), (5, .long v8), (1, .ref a_o1), (2, .long v2), (4, .int v4), (8, .long v8), (10, .long v10)]) hx hb dX1_membersAt_84 hl (k := 4) rfl rfl (by decide) rfl (fun ls hl => ?_)
    refine lv_goto (tgt := 9) hx hb dX1_membersAt_87 (by decide) ?_
    exact hk_9 v4 v8 (v7 + 1) h H locs ls hP hD hS (lv_sub hl [2, 3, 4, 1, 0] rfl)
  · have c1 := (not_congr lc_ge).mp c1
    have h := iff_ c1 h
    refine lv_iload hx hb dX1_membersAt_71 (lv_at hl 2 rfl) ?_
    refine lv_iconst (v := 1) hx hb dX1_membersAt_73 (by decide) ?_
    refine lv_iload hx hb dX1_membersAt_74 (lv_at hl 3 rfl) ?_
    refine lv_ishl hx hb dX1_membersAt_76 ?_
    refine lv_ior hx hb dX1_membersAt_77 ?_
    refine lv_istore (lv' := [(4, .int (v4 ||| ((1 : Int32) <<< (v7 &&& 31)))), (1, .ref a_o1), (2, .long v2), (7, .int v7), (8, .long v8), (10, .long v10)]) hx hb dX1_membersAt_78 hl (by decide) rfl (fun ls hl => ?_)
    refine lv_lload hx hb dX1_membersAt_80 (lv_at hl 4 rfl) ?_
    refine lv_lstore (lv' := [(5, .long v8), (4, .int (v4 ||| ((1 : Int32) <<< (v7 &&& 31)))), (1, .ref a_o1), (2, .long v2), (7, .int v7), (8, .long v8), (10, .long v10)]) hx hb dX1_membersAt_82 hl (by decide) rfl (fun ls hl => ?_)
    refine lv_iinc (v := v7 + 1) (lv' := [(7, .int (v7 + 1)), (5, .long v8), (4, .int (v4 ||| ((1 : Int32) <<< (v7 &&& 31)))), (1, .ref a_o1), (2, .long v2), (8, .long v8), (10, .long v10)]) hx hb dX1_membersAt_84 hl (k := 4) rfl rfl (by decide) rfl (fun ls hl => ?_)
    refine lv_goto (tgt := 9) hx hb dX1_membersAt_87 (by decide) ?_
    exact hk_9 (v4 ||| ((1 : Int32) <<< (v7 &&& 31))) v8 (v7 + 1) h H locs ls hP hD hS (lv_sub hl [3, 4, 2, 1, 0] rfl)
set_option maxRecDepth 100000 in
set_option maxHeartbeats 4000000 in
theorem t_X1_membersAt_b9 (C : cx D cI cJ cZ cG A cX1_membersAt 12 (some .int) RX1 wsX1_membersAt p s m args meth c) (a_x a_x_cuts a_o1 a_o1_parts : Nat) (x_size : Int32) (o1_levelAbove : Int64) (o1_levelBelow : Int64) (o1_unit : Int64) (o1_size : Int32) (o1_goal : Int32) (o1_parts : (Nat → Int64)) (N : Nat) (q : Int32) (v2 : Int64) : ∀ (n : Nat) (v4 : Int32) (v5 : Int64) (v7 : Int32), f_X1_membersAt_b9 N o1_unit o1_size o1_parts v2 n v4 v5 v7 = some q → WB p l e rm_X1_membersAt s m args below meth c (MQ below (Qg D (some (.int q)) (w_X1_membersAt cI cJ cZ cG a_x a_x_cuts a_o1 a_o1_parts x_size o1_levelAbove o1_levelBelow o1_unit o1_size o1_goal o1_parts) A) args s 0 0 A) D A 12 (w_X1_membersAt cI cJ cZ cG a_x a_x_cuts a_o1 a_o1_parts x_size o1_levelAbove o1_levelBelow o1_unit o1_size o1_goal o1_parts) [(1, .ref a_o1), (2, .long v2), (4, .int v4), (5, .long v5), (7, .int v7)] [] 9 := by
  obtain ⟨hx, hb, hr, hml, hown, hts, hlk, hgk, hA⟩ := id C
  have hK := hgk.1
  intro n
  induction n with
  | zero => intro v4 v5 v7 h; cases h
  | succ n hk_9 =>
    intro v4 v5 v7 h
    have h : g_X1_membersAt_b9 N o1_unit o1_size o1_parts v2 (f_X1_membersAt_b9 N o1_unit o1_size o1_parts v2 n) v4 v5 v7 = some q := h
    generalize f_X1_membersAt_b9 N o1_unit o1_size o1_parts v2 n = k_9 at h hk_9
    unfold g_X1_membersAt_b9 at h
    intro H locs ls hP hD hS hl
    refine lv_iload hx hb dX1_membersAt_9 (lv_at hl 4 rfl) ?_
    refine lv_aload_n hx hb dX1_membersAt_11 rfl (lv_at hl 0 rfl) ?_
    refine va_get (D := D) (ci := 3) (v := .int o1_size) (C := RX3) (T := TX3) (N := 6) hx hb hts in_X1_membersAt_X3 hown hK hP 1 rfl rfl 3 (by decide) (hts _ mb_X1_membersAt_0) (fun _ h9 => h9) rfl dX1_membersAt_12 ?_
    refine lv_icmp_ge (tgt := 90) hx hb dX1_membersAt_15 (by decide) (fun c1 => ?_) (fun c1 => ?_)
    · have h := ift c1 h
      refine lv_iload hx hb dX1_membersAt_90 (lv_at hl 2 rfl) ?_
      obtain rfl := Option.some.inj h
      exact g_iret C hP hD hS dX1_membersAt_92
    · have h := iff_ c1 h
      refine lv_lload hx hb dX1_membersAt_18 (lv_at hl 3 rfl) ?_
      refine lv_aload_n hx hb dX1_membersAt_20 rfl (lv_at hl 0 rfl) ?_
      refine va_get (D := D) (ci := 3) (v := .ref a_o1_parts) (C := RX3) (T := TX3) (N := 6) hx hb hts in_X1_membersAt_X3 hown hK hP 1 rfl rfl 5 (by decide) (hts _ mb_X1_membersAt_1) (fun _ h9 => h9) rfl dX1_membersAt_21 ?_
      refine lv_iload hx hb dX1_membersAt_24 (lv_at hl 4 rfl) ?_
      obtain ⟨i2, h⟩ := gI_some h
      refine va_lald hx hb hK hP 2 1 rfl rfl i2 dX1_membersAt_26 ?_
      refine lv_ladd hx hb dX1_membersAt_27 ?_
      refine lv_lstore (lv' := [(8, .long (v5 + (o1_parts v7.toNatClampNeg))), (1, .ref a_o1), (2, .long v2), (4, .int v4), (5, .long v5), (7, .int v7)]) hx hb dX1_membersAt_28 hl (by decide) rfl (fun ls hl => ?_)
      refine lv_lload hx hb dX1_membersAt_30 (lv_at hl 4 rfl) ?_
      refine lv_lload hx hb dX1_membersAt_32 (lv_at hl 4 rfl) ?_
      refine lv_aload_n hx hb dX1_membersAt_34 rfl (lv_at hl 1 rfl) ?_
      refine va_get (D := D) (ci := 3) (v := .long o1_unit) (C := RX3) (T := TX3) (N := 6) hx hb hts in_X1_membersAt_X3 hown hK hP 1 rfl rfl 2 (by decide) (hts _ mb_X1_membersAt_2) (fun _ h9 => h9) rfl dX1_membersAt_35 ?_
      obtain ⟨q3, e3, h⟩ := bd_some h
      refine g_callS0 (index := 29) (maxL := 4) (n := 2) (As := [.long v5, .long o1_unit]) (rest := [.long v5]) (st1 := [.long q3, .long v5]) C hP hS hl.1 (c_X1_restOf l D cI cJ cZ cG v5 o1_unit q3 e3) gX1_membersAt_X1_restOf rfl rfl rfl (by decide +kernel) ⟨Nat.le_of_ble_eq_true rfl, Nat.le_of_ble_eq_true rfl⟩ rfl (Nat.le_of_ble_eq_true rfl) rfl dX1_membersAt_38 rfl (fun H locs hP hS => ?_)
      refine lv_lsub hx hb dX1_membersAt_41 ?_
      refine lv_lload_n hx hb dX1_membersAt_42 rfl (lv_at hl 2 rfl) ?_
      refine lv_ladd hx hb dX1_membersAt_43 ?_
      refine lv_lstore (lv' := [(10, .long ((v5 - q3) + v2)), (8, .long (v5 + (o1_parts v7.toNatClampNeg))), (1, .ref a_o1), (2, .long v2), (4, .int v4), (5, .long v5), (7, .int v7)]) hx hb dX1_membersAt_44 hl (by decide) rfl (fun ls hl => ?_)
      refine lv_lload hx hb dX1_membersAt_46 (lv_at hl 0 rfl) ?_
      refine lv_lload hx hb dX1_membersAt_48 (lv_at hl 5 rfl) ?_
      refine W.lcmp hx hb dX1_membersAt_50 ?_
      refine lv_if_ge (tgt := 63) hx hb dX1_membersAt_51 (by decide) (fun c4 => ?_) (fun c4 => ?_)
      · have c4 := lc_ge.mp c4
        have h := ift c4 h
        exact t_X1_membersAt_b63 C a_x a_x_cuts a_o1 a_o1_parts x_size o1_levelAbove o1_levelBelow o1_unit o1_size o1_goal o1_parts N q v2 v4 v7 (v5 + (o1_parts v7.toNatClampNeg)) ((v5 - q3) + v2) k_9 hk_9 h H locs ls hP hD hS (lv_sub hl [2, 3, 4, 6, 1, 0] rfl)
      · have c4 := (not_congr lc_ge).mp c4
        have h := iff_ c4 h
        refine lv_lload hx hb dX1_membersAt_54 (lv_at hl 0 rfl) ?_
        refine lv_aload_n hx hb dX1_membersAt_56 rfl (lv_at hl 2 rfl) ?_
        refine va_get (D := D) (ci := 3) (v := .long o1_unit) (C := RX3) (T := TX3) (N := 6) hx hb hts in_X1_membersAt_X3 hown hK hP 1 rfl rfl 2 (by decide) (hts _ mb_X1_membersAt_2) (fun _ h9 => h9) rfl dX1_membersAt_57 ?_
        refine lv_ladd hx hb dX1_membersAt_60 ?_
        refine lv_lstore (lv' := [(10, .long (((v5 - q3) + v2) + o1_unit)), (8, .long (v5 + (o1_parts v7.toNatClampNeg))), (1, .ref a_o1), (2, .long v2), (4, .int v4), (5, .long v5), (7, .int v7)]) hx hb dX1_membersAt_61 hl (by decide) rfl (fun ls hl => ?_)
        exact t_X1_membersAt_b63 C a_x a_x_cuts a_o1 a_o1_parts x_size o1_levelAbove o1_levelBelow o1_unit o1_size o1_goal o1_parts N q v2 v4 v7 (v5 + (o1_parts v7.toNatClampNeg)) (((v5 - q3) + v2) + o1_unit) k_9 hk_9 h H locs ls hP hD hS (lv_sub hl [2, 3, 4, 6, 1, 0] rfl)
set_option maxRecDepth 100000 in
set_option maxHeartbeats 4000000 in
theorem c_X1_membersAt (l : Launch) (D : va_G) (cI cJ cZ cG : ClassId) (a_x a_x_cuts a_o1 a_o1_parts : Nat) (x_size : Int32) (o1_levelAbove : Int64) (o1_levelBelow : Int64) (o1_unit : Int64) (o1_size : Int32) (o1_goal : Int32) (o1_parts : (Nat → Int64)) (p2 : Int64) (N : Nat) (q : Int32) (h : f_X1_membersAt N o1_unit o1_size o1_parts p2 = some q) : gMet l yX1_membersAt wsX1_membersAt rm_X1_membersAt [.ref a_x, .ref a_o1, .long p2] (w_X1_membersAt cI cJ cZ cG a_x a_x_cuts a_o1 a_o1_parts x_size o1_levelAbove o1_levelBelow o1_unit o1_size o1_goal o1_parts) (w_X1_membersAt cI cJ cZ cG a_x a_x_cuts a_o1 a_o1_parts x_size o1_levelAbove o1_levelBelow o1_unit o1_size o1_goal o1_parts) (some (.int q)) D cI cJ cZ cG := by
  refine g_enter (cc := cX1_membersAt) (nL := 12) (ret := (some .int)) (by decide) rfl (Nat.le_of_ble_eq_true rfl) ?_
  intro p e s m below meth c A C H locs ls hP hD hS hl
  obtain ⟨hx, hb, hr, hml, hown, hts, hlk, hgk, hA⟩ := id C
  have hK := hgk.1
  have hl : lv_has ls 12 [(0, .ref a_x), (1, .ref a_o1), (2, .long p2)] := hl
  unfold f_X1_membersAt at h
  refine lv_iconst (v := 0) hx hb dX1_membersAt_0 (by decide) ?_
  refine lv_istore (lv' := [(4, .int 0), (0, .ref a_x), (1, .ref a_o1), (2, .long p2)]) hx hb dX1_membersAt_1 hl (by decide) rfl (fun ls hl => ?_)
  refine lv_lconst (v := 0) hx hb dX1_membersAt_3 (by decide) ?_
  refine lv_lstore (lv' := [(5, .long 0), (4, .int 0), (0, .ref a_x), (1, .ref a_o1), (2, .long p2)]) hx hb dX1_membersAt_4 hl (by decide) rfl (fun ls hl => ?_)
  refine lv_iconst (v := 0) hx hb dX1_membersAt_6 (by decide) ?_
  refine lv_istore (lv' := [(7, .int 0), (5, .long 0), (4, .int 0), (0, .ref a_x), (1, .ref a_o1), (2, .long p2)]) hx hb dX1_membersAt_7 hl (by decide) rfl (fun ls hl => ?_)
  exact t_X1_membersAt_b9 C a_x a_x_cuts a_o1 a_o1_parts x_size o1_levelAbove o1_levelBelow o1_unit o1_size o1_goal o1_parts N q p2 N 0 0 0 h H locs ls hP hD hS (lv_sub hl [4, 5, 2, 1, 0] rfl)
theorem in_X2_add_X2 : ∀ w ∈ wsX20, w ∈ wsX2_add := by decide +kernel
theorem mb_X2_add_0 : Cond.fieldLink RX2 18 "GuardDesk$Haunts" "size" "I" ∈ wsX2_add := List.mem_of_getElem? (i := 1) rfl
theorem mb_X2_add_1 : Cond.fieldLink RX2 9 "GuardDesk$Haunts" "places" "[I" ∈ wsX2_add := List.mem_of_getElem? (i := 2) rfl
theorem mb_X2_add_2 : Cond.fieldLink RX2 15 "GuardDesk$Haunts" "weight" "[I" ∈ wsX2_add := List.mem_of_getElem? (i := 3) rfl
set_option maxRecDepth 100000 in
set_option maxHeartbeats 4000000 in
theorem c_X2_add (l : Launch) (D : va_G) (cI cJ cZ cG : ClassId) (a_x a_x_places a_x_weight : Nat) (x_size : Int32) (x_places : (Nat → Int32)) (x_weight : (Nat → Int32)) (p1 : Int32) (p2 : Int32) (q : Int32 × Int32 × (Nat → Int32) × (Nat → Int32)) (h : f_X2_add x_size x_places x_weight p1 p2 = some q) : gMet l yX2_add wsX2_add rm_X2_add [.ref a_x, .int p1, .int p2] (w_X2_add cI cJ cZ cG a_x a_x_places a_x_weight x_size x_places x_weight) (w_X2_add cI cJ cZ cG a_x a_x_places a_x_weight q.2.1 q.2.2.1 q.2.2.2) (some (.int q.1)) D cI cJ cZ cG := by
  refine g_enter (cc := cX2_add) (nL := 4) (ret := (some .int)) (by decide) rfl (Nat.le_of_ble_eq_true rfl) ?_
  intro p e s m below meth c A C H locs ls hP hD hS hl
  obtain ⟨hx, hb, hr, hml, hown, hts, hlk, hgk, hA⟩ := id C
  have hK := hgk.1
  have hl : lv_has ls 4 [(0, .ref a_x), (1, .int p1), (2, .int p2)] := hl
  unfold f_X2_add at h
  refine lv_aload_n hx hb dX2_add_0 rfl (lv_at hl 0 rfl) ?_
  refine va_get (D := D) (ci := 2) (v := .int x_size) (C := RX2) (T := TX2) (N := 3) hx hb hts in_X2_add_X2 hown hK hP 0 rfl rfl 0 (by decide) (hts _ mb_X2_add_0) (fun _ h9 => h9) rfl dX2_add_1 ?_
  refine lv_istore_n (lv' := [(3, .int x_size), (0, .ref a_x), (1, .int p1), (2, .int p2)]) hx hb dX2_add_4 rfl hl (by decide) rfl (fun ls hl => ?_)
  refine lv_aload_n hx hb dX2_add_5 rfl (lv_at hl 1 rfl) ?_
  refine va_get (D := D) (ci := 2) (v := .ref a_x_places) (C := RX2) (T := TX2) (N := 3) hx hb hts in_X2_add_X2 hown hK hP 0 rfl rfl 1 (by decide) (hts _ mb_X2_add_1) (fun _ h9 => h9) rfl dX2_add_6 ?_
  refine lv_iload_n hx hb dX2_add_9 rfl (lv_at hl 0 rfl) ?_
  refine lv_iload_n hx hb dX2_add_10 rfl (lv_at hl 2 rfl) ?_
  obtain ⟨i1, h⟩ := gI_some h
  refine va_iast hx hb hK hP hD hS 1 0 rfl rfl i1 dX2_add_11 (fun H locs hP hD hS => ?_)
  have hP : va_P D vwCl (w_X2_add cI cJ cZ cG a_x a_x_places a_x_weight x_size (upd x_places x_size.toNatClampNeg p1) x_weight) H := hP
  have hD : va_D A (w_X2_add cI cJ cZ cG a_x a_x_places a_x_weight x_size (upd x_places x_size.toNatClampNeg p1) x_weight) := hD
  refine lv_aload_n hx hb dX2_add_12 rfl (lv_at hl 1 rfl) ?_
  refine va_get (D := D) (ci := 2) (v := .ref a_x_weight) (C := RX2) (T := TX2) (N := 3) hx hb hts in_X2_add_X2 hown hK hP 0 rfl rfl 2 (by decide) (hts _ mb_X2_add_2) (fun _ h9 => h9) rfl dX2_add_13 ?_
  refine lv_iload_n hx hb dX2_add_16 rfl (lv_at hl 0 rfl) ?_
  refine lv_iload_n hx hb dX2_add_17 rfl (lv_at hl 3 rfl) ?_
  obtain ⟨i2, h⟩ := gI_some h
  refine va_iast hx hb hK hP hD hS 2 0 rfl rfl i2 dX2_add_18 (fun H locs hP hD hS => ?_)
  have hP : va_P D vwCl (w_X2_add cI cJ cZ cG a_x a_x_places a_x_weight x_size (upd x_places x_size.toNatClampNeg p1) (upd x_weight x_size.toNatClampNeg p2)) H := hP
  have hD : va_D A (w_X2_add cI cJ cZ cG a_x a_x_places a_x_weight x_size (upd x_places x_size.toNatClampNeg p1) (upd x_weight x_size.toNatClampNeg p2)) := hD
  refine lv_aload_n hx hb dX2_add_19 rfl (lv_at hl 1 rfl) ?_
  refine lv_dup hx hb dX2_add_20 rfl ?_
  refine va_get (D := D) (ci := 2) (v := .int x_size) (C := RX2) (T := TX2) (N := 3) hx hb hts in_X2_add_X2 hown hK hP 0 rfl rfl 0 (by decide) (hts _ mb_X2_add_0) (fun _ h9 => h9) rfl dX2_add_21 ?_
  refine lv_iconst (v := 1) hx hb dX2_add_24 (by decide) ?_
  refine lv_iadd hx hb dX2_add_25 ?_
  refine va_put (D := D) (ci := 2) (v := .int (x_size + 1)) (ty := .int) (C := RX2) (T := TX2) (N := 3) hx hb hts in_X2_add_X2 tyX2 tyX2_ok nmX2 hown hK hP hD hS 0 rfl rfl 0 (by decide) (hts _ mb_X2_add_0) (fun _ h9 => h9) rfl (by decide +kernel) rfl rfl (Nat.le_of_ble_eq_true rfl) dX2_add_26 (fun H locs hP hD hS => ?_)
  have hP : va_P D vwCl (w_X2_add cI cJ cZ cG a_x a_x_places a_x_weight (x_size + 1) (upd x_places x_size.toNatClampNeg p1) (upd x_weight x_size.toNatClampNeg p2)) H := hP
  have hD : va_D A (w_X2_add cI cJ cZ cG a_x a_x_places a_x_weight (x_size + 1) (upd x_places x_size.toNatClampNeg p1) (upd x_weight x_size.toNatClampNeg p2)) := hD
  refine lv_iload_n hx hb dX2_add_29 rfl (lv_at hl 0 rfl) ?_
  obtain rfl := Option.some.inj h
  exact g_iret C hP hD hS dX2_add_30
theorem in_X2_copyFrom_X2 : ∀ w ∈ wsX20, w ∈ wsX2_copyFrom := by decide +kernel
theorem mb_X2_copyFrom_0 : Cond.fieldLink RX2 18 "GuardDesk$Haunts" "size" "I" ∈ wsX2_copyFrom := List.mem_of_getElem? (i := 1) rfl
theorem mb_X2_copyFrom_1 : Cond.fieldLink RX2 9 "GuardDesk$Haunts" "places" "[I" ∈ wsX2_copyFrom := List.mem_of_getElem? (i := 2) rfl
theorem mb_X2_copyFrom_2 : Cond.methodLink RX2 22 arraycopyName ∈ wsX2_copyFrom := List.mem_of_getElem? (i := 3) rfl
theorem mb_X2_copyFrom_3 : Cond.native arraycopyName ∈ wsX2_copyFrom := List.mem_of_getElem? (i := 4) rfl
theorem mb_X2_copyFrom_4 : Cond.static arraycopyName ∈ wsX2_copyFrom := List.mem_of_getElem? (i := 5) rfl
theorem mb_X2_copyFrom_5 : Cond.initialized "java/lang/System" ∈ wsX2_copyFrom := List.mem_of_getElem? (i := 6) rfl
theorem mb_X2_copyFrom_6 : Cond.fieldLink RX2 15 "GuardDesk$Haunts" "weight" "[I" ∈ wsX2_copyFrom := List.mem_of_getElem? (i := 7) rfl
set_option maxRecDepth 100000 in
set_option maxHeartbeats 4000000 in
theorem c_X2_copyFrom (l : Launch) (D : va_G) (cI cJ cZ cG : ClassId) (a_x a_x_places a_x_weight a_o1 a_o1_places a_o1_weight : Nat) (x_size : Int32) (x_places : (Nat → Int32)) (x_weight : (Nat → Int32)) (o1_size : Int32) (o1_places : (Nat → Int32)) (o1_weight : (Nat → Int32)) (q : Int32 × (Nat → Int32) × (Nat → Int32)) (h : f_X2_copyFrom x_size x_places x_weight o1_size o1_places o1_weight = q) : gMet l yX2_copyFrom wsX2_copyFrom rm_X2_copyFrom [.ref a_x, .ref a_o1] (w_X2_copyFrom cI cJ cZ cG a_x a_x_places a_x_weight a_o1 a_o1_places a_o1_weight x_size x_places x_weight o1_size o1_places o1_weight) (w_X2_copyFrom cI cJ cZ cG a_x a_x_places a_x_weight a_o1 a_o1_places a_o1_weight q.1 q.2.1 q.2.2 o1_size o1_places o1_weight) none D cI cJ cZ cG := by
  refine g_enter (cc := cX2_copyFrom) (nL := 2) (ret := none) (by decide) rfl (Nat.le_of_ble_eq_true rfl) ?_
  intro p e s m below meth c A C H locs ls hP hD hS hl
  obtain ⟨hx, hb, hr, hml, hown, hts, hlk, hgk, hA⟩ := id C
  have hK := hgk.1
  have hl : lv_has ls 2 [(0, .ref a_x), (1, .ref a_o1)] := hl
  unfold f_X2_copyFrom at h
  refine lv_aload_n hx hb dX2_copyFrom_0 rfl (lv_at hl 0 rfl) ?_
  refine lv_aload_n hx hb dX2_copyFrom_1 rfl (lv_at hl 1 rfl) ?_
  refine va_get (D := D) (ci := 2) (v := .int o1_size) (C := RX2) (T := TX2) (N := 3) hx hb hts in_X2_copyFrom_X2 hown hK hP 3 rfl rfl 0 (by decide) (hts _ mb_X2_copyFrom_0) (fun _ h9 => h9) rfl dX2_copyFrom_2 ?_
  refine va_put (D := D) (ci := 2) (v := .int o1_size) (ty := .int) (C := RX2) (T := TX2) (N := 3) hx hb hts in_X2_copyFrom_X2 tyX2 tyX2_ok nmX2 hown hK hP hD hS 0 rfl rfl 0 (by decide) (hts _ mb_X2_copyFrom_0) (fun _ h9 => h9) rfl (by decide +kernel) rfl rfl (Nat.le_of_ble_eq_true rfl) dX2_copyFrom_5 (fun H locs hP hD hS => ?_)
  have hP : va_P D vwCl (w_X2_copyFrom cI cJ cZ cG a_x a_x_places a_x_weight a_o1 a_o1_places a_o1_weight o1_size x_places x_weight o1_size o1_places o1_weight) H := hP
  have hD : va_D A (w_X2_copyFrom cI cJ cZ cG a_x a_x_places a_x_weight a_o1 a_o1_places a_o1_weight o1_size x_places x_weight o1_size o1_places o1_weight) := hD
  refine lv_aload_n hx hb dX2_copyFrom_8 rfl (lv_at hl 1 rfl) ?_
  refine va_get (D := D) (ci := 2) (v := .ref a_o1_places) (C := RX2) (T := TX2) (N := 3) hx hb hts in_X2_copyFrom_X2 hown hK hP 3 rfl rfl 1 (by decide) (hts _ mb_X2_copyFrom_1) (fun _ h9 => h9) rfl dX2_copyFrom_9 ?_
  refine lv_iconst (v := 0) hx hb dX2_copyFrom_12 (by decide) ?_
  refine lv_aload_n hx hb dX2_copyFrom_13 rfl (lv_at hl 0 rfl) ?_
  refine va_get (D := D) (ci := 2) (v := .ref a_x_places) (C := RX2) (T := TX2) (N := 3) hx hb hts in_X2_copyFrom_X2 hown hK hP 0 rfl rfl 1 (by decide) (hts _ mb_X2_copyFrom_1) (fun _ h9 => h9) rfl dX2_copyFrom_14 ?_
  refine lv_iconst (v := 0) hx hb dX2_copyFrom_17 (by decide) ?_
  refine lv_bipush (v := 20) hx hb dX2_copyFrom_18 (by decide) ?_
  refine va_copyi (ty := .int) hx hb (hml.trans hl.1.symm) hown (hts _ mb_X2_copyFrom_2) (hts _ mb_X2_copyFrom_3) (hts _ mb_X2_copyFrom_4) (hts _ mb_X2_copyFrom_5) hK hP hD hS 4 1 0 0 rfl rfl rfl rfl rfl (by decide) (by decide) (by decide) (by decide) (by decide) (fun _ _ => rfl) (Nat.le_of_ble_eq_true rfl) (Nat.le_of_ble_eq_true rfl) dX2_copyFrom_20 (fun H locs hP hD hS => ?_)
  have hP : va_P D vwCl (w_X2_copyFrom cI cJ cZ cG a_x a_x_places a_x_weight a_o1 a_o1_places a_o1_weight o1_size (va_cpy o1_places x_places 0 0 20) x_weight o1_size o1_places o1_weight) H := hP
  have hD : va_D A (w_X2_copyFrom cI cJ cZ cG a_x a_x_places a_x_weight a_o1 a_o1_places a_o1_weight o1_size (va_cpy o1_places x_places 0 0 20) x_weight o1_size o1_places o1_weight) := hD
  refine lv_aload_n hx hb dX2_copyFrom_23 rfl (lv_at hl 1 rfl) ?_
  refine va_get (D := D) (ci := 2) (v := .ref a_o1_weight) (C := RX2) (T := TX2) (N := 3) hx hb hts in_X2_copyFrom_X2 hown hK hP 3 rfl rfl 2 (by decide) (hts _ mb_X2_copyFrom_6) (fun _ h9 => h9) rfl dX2_copyFrom_24 ?_
  refine lv_iconst (v := 0) hx hb dX2_copyFrom_27 (by decide) ?_
  refine lv_aload_n hx hb dX2_copyFrom_28 rfl (lv_at hl 0 rfl) ?_
  refine va_get (D := D) (ci := 2) (v := .ref a_x_weight) (C := RX2) (T := TX2) (N := 3) hx hb hts in_X2_copyFrom_X2 hown hK hP 0 rfl rfl 2 (by decide) (hts _ mb_X2_copyFrom_6) (fun _ h9 => h9) rfl dX2_copyFrom_29 ?_
  refine lv_iconst (v := 0) hx hb dX2_copyFrom_32 (by decide) ?_
  refine lv_bipush (v := 20) hx hb dX2_copyFrom_33 (by decide) ?_
  refine va_copyi (ty := .int) hx hb (hml.trans hl.1.symm) hown (hts _ mb_X2_copyFrom_2) (hts _ mb_X2_copyFrom_3) (hts _ mb_X2_copyFrom_4) (hts _ mb_X2_copyFrom_5) hK hP hD hS 5 2 0 0 rfl rfl rfl rfl rfl (by decide) (by decide) (by decide) (by decide) (by decide) (fun _ _ => rfl) (Nat.le_of_ble_eq_true rfl) (Nat.le_of_ble_eq_true rfl) dX2_copyFrom_35 (fun H locs hP hD hS => ?_)
  have hP : va_P D vwCl (w_X2_copyFrom cI cJ cZ cG a_x a_x_places a_x_weight a_o1 a_o1_places a_o1_weight o1_size (va_cpy o1_places x_places 0 0 20) (va_cpy o1_weight x_weight 0 0 20) o1_size o1_places o1_weight) H := hP
  have hD : va_D A (w_X2_copyFrom cI cJ cZ cG a_x a_x_places a_x_weight a_o1 a_o1_places a_o1_weight o1_size (va_cpy o1_places x_places 0 0 20) (va_cpy o1_weight x_weight 0 0 20) o1_size o1_places o1_weight) := hD
  obtain rfl := h
  exact g_vret C hP hD hS dX2_copyFrom_38
theorem in_X2_weightCaught_X2 : ∀ w ∈ wsX20, w ∈ wsX2_weightCaught := by decide +kernel
theorem mb_X2_weightCaught_0 : Cond.fieldLink RX2 18 "GuardDesk$Haunts" "size" "I" ∈ wsX2_weightCaught := List.mem_of_getElem? (i := 1) rfl
theorem mb_X2_weightCaught_1 : Cond.fieldLink RX2 9 "GuardDesk$Haunts" "places" "[I" ∈ wsX2_weightCaught := List.mem_of_getElem? (i := 2) rfl
theorem mb_X2_weightCaught_2 : Cond.fieldLink RX2 15 "GuardDesk$Haunts" "weight" "[I" ∈ wsX2_weightCaught := List.mem_of_getElem? (i := 3) rfl
set_option maxRecDepth 100000 in
set_option maxHeartbeats 4000000 in
theorem t_X2_weightCaught_b4 (C : cx D cI cJ cZ cG A cX2_weightCaught 4 (some .int) RX2 wsX2_weightCaught p s m args meth c) (a_x a_x_places a_x_weight : Nat) (x_size : Int32) (x_places : (Nat → Int32)) (x_weight : (Nat → Int32)) (N : Nat) (q : Int32) (v1 : Int32) : ∀ (n : Nat) (v2 : Int32) (v3 : Int32), f_X2_weightCaught_b4 N x_size x_places x_weight v1 n v2 v3 = some q → WB p l e rm_X2_weightCaught s m args below meth c (MQ below (Qg D (some (.int q)) (w_X2_weightCaught cI cJ cZ cG a_x a_x_places a_x_weight x_size x_places x_weight) A) args s 0 0 A) D A 4 (w_X2_weightCaught cI cJ cZ cG a_x a_x_places a_x_weight x_size x_places x_weight) [(0, .ref a_x), (1, .int v1), (2, .int v2), (3, .int v3)] [] 4 := by
  obtain ⟨hx, hb, hr, hml, hown, hts, hlk, hgk, hA⟩ := id C
  have hK := hgk.1
  intro n
  induction n with
  | zero => intro v2 v3 h; cases h
  | succ n hk_4 =>
    intro v2 v3 h
    have h : g_X2_weightCaught_b4 N x_size x_places x_weight v1 (f_X2_weightCaught_b4 N x_size x_places x_weight v1 n) v2 v3 = some q := h
    generalize f_X2_weightCaught_b4 N x_size x_places x_weight v1 n = k_4 at h hk_4
    unfold g_X2_weightCaught_b4 at h
    intro H locs ls hP hD hS hl
    refine lv_iload_n hx hb dX2_weightCaught_4 rfl (lv_at hl 3 rfl) ?_
    refine lv_aload_n hx hb dX2_weightCaught_5 rfl (lv_at hl 0 rfl) ?_
    refine va_get (D := D) (ci := 2) (v := .int x_size) (C := RX2) (T := TX2) (N := 3) hx hb hts in_X2_weightCaught_X2 hown hK hP 0 rfl rfl 0 (by decide) (hts _ mb_X2_weightCaught_0) (fun _ h9 => h9) rfl dX2_weightCaught_6 ?_
    refine lv_icmp_ge (tgt := 38) hx hb dX2_weightCaught_9 (by decide) (fun c1 => ?_) (fun c1 => ?_)
    · have h := ift c1 h
      refine lv_iload_n hx hb dX2_weightCaught_38 rfl (lv_at hl 2 rfl) ?_
      obtain rfl := Option.some.inj h
      exact g_iret C hP hD hS dX2_weightCaught_39
    · have h := iff_ c1 h
      refine lv_aload_n hx hb dX2_weightCaught_12 rfl (lv_at hl 0 rfl) ?_
      refine va_get (D := D) (ci := 2) (v := .ref a_x_places) (C := RX2) (T := TX2) (N := 3) hx hb hts in_X2_weightCaught_X2 hown hK hP 0 rfl rfl 1 (by decide) (hts _ mb_X2_weightCaught_1) (fun _ h9 => h9) rfl dX2_weightCaught_13 ?_
      refine lv_iload_n hx hb dX2_weightCaught_16 rfl (lv_at hl 3 rfl) ?_
      obtain ⟨i2, h⟩ := gI_some h
      refine va_iald hx hb hK hP 1 0 rfl rfl i2 dX2_weightCaught_17 ?_
      refine lv_iload_n hx hb dX2_weightCaught_18 rfl (lv_at hl 1 rfl) ?_
      refine lv_iand hx hb dX2_weightCaught_19 ?_
      refine lv_if_eq (tgt := 32) hx hb dX2_weightCaught_20 (by decide) (fun c3 => ?_) (fun c3 => ?_)
      · have h := ift c3 h
        refine lv_iinc (v := v3 + 1) (lv' := [(3, .int (v3 + 1)), (0, .ref a_x), (1, .int v1), (2, .int v2)]) hx hb dX2_weightCaught_32 hl (k := 3) rfl rfl (by decide) rfl (fun ls hl => ?_)
        refine lv_goto (tgt := 4) hx hb dX2_weightCaught_35 (by decide) ?_
        exact hk_4 v2 (v3 + 1) h H locs ls hP hD hS (lv_sub hl [1, 2, 3, 0] rfl)
      · have h := iff_ c3 h
        refine lv_iload_n hx hb dX2_weightCaught_23 rfl (lv_at hl 2 rfl) ?_
        refine lv_aload_n hx hb dX2_weightCaught_24 rfl (lv_at hl 0 rfl) ?_
        refine va_get (D := D) (ci := 2) (v := .ref a_x_weight) (C := RX2) (T := TX2) (N := 3) hx hb hts in_X2_weightCaught_X2 hown hK hP 0 rfl rfl 2 (by decide) (hts _ mb_X2_weightCaught_2) (fun _ h9 => h9) rfl dX2_weightCaught_25 ?_
        refine lv_iload_n hx hb dX2_weightCaught_28 rfl (lv_at hl 3 rfl) ?_
        obtain ⟨i4, h⟩ := gI_some h
        refine va_iald hx hb hK hP 2 0 rfl rfl i4 dX2_weightCaught_29 ?_
        refine lv_iadd hx hb dX2_weightCaught_30 ?_
        refine lv_istore_n (lv' := [(2, .int (v2 + (x_weight v3.toNatClampNeg))), (0, .ref a_x), (1, .int v1), (3, .int v3)]) hx hb dX2_weightCaught_31 rfl hl (by decide) rfl (fun ls hl => ?_)
        refine lv_iinc (v := v3 + 1) (lv' := [(3, .int (v3 + 1)), (2, .int (v2 + (x_weight v3.toNatClampNeg))), (0, .ref a_x), (1, .int v1)]) hx hb dX2_weightCaught_32 hl (k := 3) rfl rfl (by decide) rfl (fun ls hl => ?_)
        refine lv_goto (tgt := 4) hx hb dX2_weightCaught_35 (by decide) ?_
        exact hk_4 (v2 + (x_weight v3.toNatClampNeg)) (v3 + 1) h H locs ls hP hD hS (lv_sub hl [2, 3, 1, 0] rfl)
set_option maxRecDepth 100000 in
set_option maxHeartbeats 4000000 in
theorem c_X2_weightCaught (l : Launch) (D : va_G) (cI cJ cZ cG : ClassId) (a_x a_x_places a_x_weight : Nat) (x_size : Int32) (x_places : (Nat → Int32)) (x_weight : (Nat → Int32)) (p1 : Int32) (N : Nat) (q : Int32) (h : f_X2_weightCaught N x_size x_places x_weight p1 = some q) : gMet l yX2_weightCaught wsX2_weightCaught rm_X2_weightCaught [.ref a_x, .int p1] (w_X2_weightCaught cI cJ cZ cG a_x a_x_places a_x_weight x_size x_places x_weight) (w_X2_weightCaught cI cJ cZ cG a_x a_x_places a_x_weight x_size x_places x_weight) (some (.int q)) D cI cJ cZ cG := by
  refine g_enter (cc := cX2_weightCaught) (nL := 4) (ret := (some .int)) (by decide) rfl (Nat.le_of_ble_eq_true rfl) ?_
  intro p e s m below meth c A C H locs ls hP hD hS hl
  obtain ⟨hx, hb, hr, hml, hown, hts, hlk, hgk, hA⟩ := id C
  have hK := hgk.1
  have hl : lv_has ls 4 [(0, .ref a_x), (1, .int p1)] := hl
  unfold f_X2_weightCaught at h
  refine lv_iconst (v := 0) hx hb dX2_weightCaught_0 (by decide) ?_
  refine lv_istore_n (lv' := [(2, .int 0), (0, .ref a_x), (1, .int p1)]) hx hb dX2_weightCaught_1 rfl hl (by decide) rfl (fun ls hl => ?_)
  refine lv_iconst (v := 0) hx hb dX2_weightCaught_2 (by decide) ?_
  refine lv_istore_n (lv' := [(3, .int 0), (2, .int 0), (0, .ref a_x), (1, .int p1)]) hx hb dX2_weightCaught_3 rfl hl (by decide) rfl (fun ls hl => ?_)
  exact t_X2_weightCaught_b4 C a_x a_x_places a_x_weight x_size x_places x_weight N q p1 N 0 0 h H locs ls hP hD hS (lv_sub hl [2, 3, 1, 0] rfl)
set_option maxRecDepth 100000 in
set_option maxHeartbeats 4000000 in
theorem t_X2_heaviestSet_b79 (C : cx D cI cJ cZ cG A cX2_heaviestSet 8 (some .int) RX2 wsX2_heaviestSet p s m args meth c) (a_x a_x_places a_x_weight : Nat) (x_size : Int32) (x_places : (Nat → Int32)) (x_weight : (Nat → Int32)) (N : Nat) (q : Int32) (v1 : Int32) (v4 : Int32) (v6 : Int32) (k_7 : Int32 → Int32 → Int32 → Option (Int32)) (hk_7 : ∀ (v2 : Int32) (v3 : Int32) (v4 : Int32), k_7 v2 v3 v4 = some q → WB p l e rm_X2_heaviestSet s m args below meth c (MQ below (Qg D (some (.int q)) (w_X2_heaviestSet cI cJ cZ cG a_x a_x_places a_x_weight x_size x_places x_weight) A) args s 0 0 A) D A 8 (w_X2_heaviestSet cI cJ cZ cG a_x a_x_places a_x_weight x_size x_places x_weight) [(0, .ref a_x), (1, .int v1), (2, .int v2), (3, .int v3), (4, .int v4)] [] 7) (h : f_X2_heaviestSet_b79 N x_size x_places x_weight k_7 v1 v4 v6 = some q) : WB p l e rm_X2_heaviestSet s m args below meth c (MQ below (Qg D (some (.int q)) (w_X2_heaviestSet cI cJ cZ cG a_x a_x_places a_x_weight x_size x_places x_weight) A) args s 0 0 A) D A 8 (w_X2_heaviestSet cI cJ cZ cG a_x a_x_places a_x_weight x_size x_places x_weight) [(0, .ref a_x), (1, .int v1), (4, .int v4), (6, .int v6)] [] 79 := by
  obtain ⟨hx, hb, hr, hml, hown, hts, hlk, hgk, hA⟩ := id C
  have hK := hgk.1
  unfold f_X2_heaviestSet_b79 at h
  intro H locs ls hP hD hS hl
  refine lv_iload hx hb dX2_heaviestSet_79 (lv_at hl 2 rfl) ?_
  refine lv_istore_n (lv' := [(2, .int v4), (0, .ref a_x), (1, .int v1), (4, .int v4), (6, .int v6)]) hx hb dX2_heaviestSet_81 rfl hl (by decide) rfl (fun ls hl => ?_)
  refine lv_iload hx hb dX2_heaviestSet_82 (lv_at hl 4 rfl) ?_
  refine lv_istore_n (lv' := [(3, .int v6), (2, .int v4), (0, .ref a_x), (1, .int v1), (4, .int v4), (6, .int v6)]) hx hb dX2_heaviestSet_84 rfl hl (by decide) rfl (fun ls hl => ?_)
  refine lv_iinc (v := v4 + 1) (lv' := [(4, .int (v4 + 1)), (3, .int v6), (2, .int v4), (0, .ref a_x), (1, .int v1), (6, .int v6)]) hx hb dX2_heaviestSet_85 hl (k := 4) rfl rfl (by decide) rfl (fun ls hl => ?_)
  refine lv_goto (tgt := 7) hx hb dX2_heaviestSet_88 (by decide) ?_
  exact hk_7 v4 v6 (v4 + 1) h H locs ls hP hD hS (lv_sub hl [3, 4, 2, 1, 0] rfl)
set_option maxRecDepth 100000 in
set_option maxHeartbeats 4000000 in
theorem t_X2_heaviestSet_b60 (C : cx D cI cJ cZ cG A cX2_heaviestSet 8 (some .int) RX2 wsX2_heaviestSet p s m args meth c) (a_x a_x_places a_x_weight : Nat) (x_size : Int32) (x_places : (Nat → Int32)) (x_weight : (Nat → Int32)) (N : Nat) (q : Int32) (k0 : Int32) (v1 : Int32) (v2 : Int32) (v3 : Int32) (v4 : Int32) (v5 : Int32) (v6 : Int32) (k_7 : Int32 → Int32 → Int32 → Option (Int32)) (hk_7 : ∀ (v2 : Int32) (v3 : Int32) (v4 : Int32), k_7 v2 v3 v4 = some q → WB p l e rm_X2_heaviestSet s m args below meth c (MQ below (Qg D (some (.int q)) (w_X2_heaviestSet cI cJ cZ cG a_x a_x_places a_x_weight x_size x_places x_weight) A) args s 0 0 A) D A 8 (w_X2_heaviestSet cI cJ cZ cG a_x a_x_places a_x_weight x_size x_places x_weight) [(0, .ref a_x), (1, .int v1), (2, .int v2), (3, .int v3), (4, .int v4)] [] 7) (h : f_X2_heaviestSet_b60 N x_size x_places x_weight k_7 k0 v1 v2 v3 v4 v5 v6 = some q) : WB p l e rm_X2_heaviestSet s m args below meth c (MQ below (Qg D (some (.int q)) (w_X2_heaviestSet cI cJ cZ cG a_x a_x_places a_x_weight x_size x_places x_weight) A) args s 0 0 A) D A 8 (w_X2_heaviestSet cI cJ cZ cG a_x a_x_places a_x_weight x_size x_places x_weight) [(0, .ref a_x), (1, .int v1), (2, .int v2), (3, .int v3), (4, .int v4), (5, .int v5), (6, .int v6)] [.int k0] 60 := by
  obtain ⟨hx, hb, hr, hml, hown, hts, hlk, hgk, hA⟩ := id C
  have hK := hgk.1
  unfold f_X2_heaviestSet_b60 at h
  intro H locs ls hP hD hS hl
  refine lv_istore (lv' := [(7, .int k0), (0, .ref a_x), (1, .int v1), (2, .int v2), (3, .int v3), (4, .int v4), (5, .int v5), (6, .int v6)]) hx hb dX2_heaviestSet_60 hl (by decide) rfl (fun ls hl => ?_)
  refine lv_iload hx hb dX2_heaviestSet_62 (lv_at hl 6 rfl) ?_
  refine lv_iload_n hx hb dX2_heaviestSet_64 rfl (lv_at hl 2 rfl) ?_
  refine lv_icmp_gt (tgt := 85) hx hb dX2_heaviestSet_65 (by decide) (fun c1 => ?_) (fun c1 => ?_)
  · have h := ift c1 h
    refine lv_iinc (v := v4 + 1) (lv' := [(4, .int (v4 + 1)), (7, .int k0), (0, .ref a_x), (1, .int v1), (2, .int v2), (3, .int v3), (5, .int v5), (6, .int v6)]) hx hb dX2_heaviestSet_85 hl (k := 5) rfl rfl (by decide) rfl (fun ls hl => ?_)
    refine lv_goto (tgt := 7) hx hb dX2_heaviestSet_88 (by decide) ?_
    exact hk_7 v2 v3 (v4 + 1) h H locs ls hP hD hS (lv_sub hl [2, 3, 4, 5, 0] rfl)
  · have h := iff_ c1 h
    refine lv_iload hx hb dX2_heaviestSet_68 (lv_at hl 7 rfl) ?_
    refine lv_iload_n hx hb dX2_heaviestSet_70 rfl (lv_at hl 4 rfl) ?_
    refine lv_icmp_gt (tgt := 79) hx hb dX2_heaviestSet_71 (by decide) (fun c2 => ?_) (fun c2 => ?_)
    · have h := ift c2 h
      exact t_X2_heaviestSet_b79 C a_x a_x_places a_x_weight x_size x_places x_weight N q v1 v4 v6 k_7 hk_7 h H locs ls hP hD hS (lv_sub hl [1, 2, 5, 7] rfl)
    · have h := iff_ c2 h
      refine lv_iload hx hb dX2_heaviestSet_74 (lv_at hl 0 rfl) ?_
      refine lv_if_eq (tgt := 85) hx hb dX2_heaviestSet_76 (by decide) (fun c3 => ?_) (fun c3 => ?_)
      · have h := ift c3 h
        refine lv_iinc (v := v4 + 1) (lv' := [(4, .int (v4 + 1)), (7, .int k0), (0, .ref a_x), (1, .int v1), (2, .int v2), (3, .int v3), (5, .int v5), (6, .int v6)]) hx hb dX2_heaviestSet_85 hl (k := 5) rfl rfl (by decide) rfl (fun ls hl => ?_)
        refine lv_goto (tgt := 7) hx hb dX2_heaviestSet_88 (by decide) ?_
        exact hk_7 v2 v3 (v4 + 1) h H locs ls hP hD hS (lv_sub hl [2, 3, 4, 5, 0] rfl)
      · have h := iff_ c3 h
        exact t_X2_heaviestSet_b79 C a_x a_x_places a_x_weight x_size x_places x_weight N q v1 v4 v6 k_7 hk_7 h H locs ls hP hD hS (lv_sub hl [1, 2, 5, 7] rfl)
set_option maxRecDepth 100000 in
set_option maxHeartbeats 4000000 in
theorem t_X2_heaviestSet_b59 (C : cx D cI cJ cZ cG A cX2_heaviestSet 8 (some .int) RX2 wsX2_heaviestSet p s m args meth c) (a_x a_x_places a_x_weight : Nat) (x_size : Int32) (x_places : (Nat → Int32)) (x_weight : (Nat → Int32)) (N : Nat) (q : Int32) (v1 : Int32) (v2 : Int32) (v3 : Int32) (v4 : Int32) (v5 : Int32) (v6 : Int32) (k_7 : Int32 → Int32 → Int32 → Option (Int32)) (hk_7 : ∀ (v2 : Int32) (v3 : Int32) (v4 : Int32), k_7 v2 v3 v4 = some q → WB p l e rm_X2_heaviestSet s m args below meth c (MQ below (Qg D (some (.int q)) (w_X2_heaviestSet cI cJ cZ cG a_x a_x_places a_x_weight x_size x_places x_weight) A) args s 0 0 A) D A 8 (w_X2_heaviestSet cI cJ cZ cG a_x a_x_places a_x_weight x_size x_places x_weight) [(0, .ref a_x), (1, .int v1), (2, .int v2), (3, .int v3), (4, .int v4)] [] 7) (h : f_X2_heaviestSet_b59 N x_size x_places x_weight k_7 v1 v2 v3 v4 v5 v6 = some q) : WB p l e rm_X2_heaviestSet s m args below meth c (MQ below (Qg D (some (.int q)) (w_X2_heaviestSet cI cJ cZ cG a_x a_x_places a_x_weight x_size x_places x_weight) A) args s 0 0 A) D A 8 (w_X2_heaviestSet cI cJ cZ cG a_x a_x_places a_x_weight x_size x_places x_weight) [(0, .ref a_x), (1, .int v1), (2, .int v2), (3, .int v3), (4, .int v4), (5, .int v5), (6, .int v6)] [] 59 := by
  obtain ⟨hx, hb, hr, hml, hown, hts, hlk, hgk, hA⟩ := id C
  have hK := hgk.1
  unfold f_X2_heaviestSet_b59 at h
  intro H locs ls hP hD hS hl
  refine lv_iconst (v := 0) hx hb dX2_heaviestSet_59 (by decide) ?_
  exact t_X2_heaviestSet_b60 C a_x a_x_places a_x_weight x_size x_places x_weight N q 0 v1 v2 v3 v4 v5 v6 k_7 hk_7 h H locs ls hP hD hS (lv_sub hl [0, 1, 2, 3, 4, 5, 6] rfl)
set_option maxRecDepth 100000 in
set_option maxHeartbeats 4000000 in
theorem t_X2_heaviestSet_b38 (C : cx D cI cJ cZ cG A cX2_heaviestSet 8 (some .int) RX2 wsX2_heaviestSet p s m args meth c) (a_x a_x_places a_x_weight : Nat) (x_size : Int32) (x_places : (Nat → Int32)) (x_weight : (Nat → Int32)) (N : Nat) (q : Int32) (k0 : Int32) (v1 : Int32) (v2 : Int32) (v3 : Int32) (v4 : Int32) (v5 : Int32) (k_7 : Int32 → Int32 → Int32 → Option (Int32)) (hk_7 : ∀ (v2 : Int32) (v3 : Int32) (v4 : Int32), k_7 v2 v3 v4 = some q → WB p l e rm_X2_heaviestSet s m args below meth c (MQ below (Qg D (some (.int q)) (w_X2_heaviestSet cI cJ cZ cG a_x a_x_places a_x_weight x_size x_places x_weight) A) args s 0 0 A) D A 8 (w_X2_heaviestSet cI cJ cZ cG a_x a_x_places a_x_weight x_size x_places x_weight) [(0, .ref a_x), (1, .int v1), (2, .int v2), (3, .int v3), (4, .int v4)] [] 7) (h : f_X2_heaviestSet_b38 N x_size x_places x_weight k_7 k0 v1 v2 v3 v4 v5 = some q) : WB p l e rm_X2_heaviestSet s m args below meth c (MQ below (Qg D (some (.int q)) (w_X2_heaviestSet cI cJ cZ cG a_x a_x_places a_x_weight x_size x_places x_weight) A) args s 0 0 A) D A 8 (w_X2_heaviestSet cI cJ cZ cG a_x a_x_places a_x_weight x_size x_places x_weight) [(0, .ref a_x), (1, .int v1), (2, .int v2), (3, .int v3), (4, .int v4), (5, .int v5)] [.int k0] 38 := by
  obtain ⟨hx, hb, hr, hml, hown, hts, hlk, hgk, hA⟩ := id C
  have hK := hgk.1
  unfold f_X2_heaviestSet_b38 at h
  intro H locs ls hP hD hS hl
  refine lv_istore (lv' := [(6, .int k0), (0, .ref a_x), (1, .int v1), (2, .int v2), (3, .int v3), (4, .int v4), (5, .int v5)]) hx hb dX2_heaviestSet_38 hl (by decide) rfl (fun ls hl => ?_)
  refine lv_iload hx hb dX2_heaviestSet_40 (lv_at hl 0 rfl) ?_
  refine lv_iload_n hx hb dX2_heaviestSet_42 rfl (lv_at hl 4 rfl) ?_
  refine lv_icmp_ne (tgt := 59) hx hb dX2_heaviestSet_43 (by decide) (fun c1 => ?_) (fun c1 => ?_)
  · have h := iff_ c1 h
    exact t_X2_heaviestSet_b59 C a_x a_x_places a_x_weight x_size x_places x_weight N q v1 v2 v3 v4 v5 k0 k_7 hk_7 h H locs ls hP hD hS (lv_sub hl [1, 2, 3, 4, 5, 6, 0] rfl)
  · have h := ift c1 h
    refine lv_iload hx hb dX2_heaviestSet_46 (lv_at hl 6 rfl) ?_
    refine lv_iload_n hx hb dX2_heaviestSet_48 rfl (lv_at hl 3 rfl) ?_
    refine g_callS0 (index := 28) (maxL := 1) (n := 1) (As := [.int v2]) (rest := [.int v5]) (st1 := [.int (f_J6_bitCount_0f7a4 v2), .int v5]) C hP hS hl.1 (c_J6_bitCount_0f7a4 l D cI cJ cZ cG v2 _ rfl) gX2_heaviestSet_J6_bitCount_0f7a4 rfl rfl rfl (by decide +kernel) ⟨Nat.le_of_ble_eq_true rfl, Nat.le_of_ble_eq_true rfl⟩ rfl (Nat.le_of_ble_eq_true rfl) rfl dX2_heaviestSet_49 rfl (fun H locs hP hS => ?_)
    refine lv_icmp_ge (tgt := 59) hx hb dX2_heaviestSet_52 (by decide) (fun c2 => ?_) (fun c2 => ?_)
    · have h := ift c2 h
      exact t_X2_heaviestSet_b59 C a_x a_x_places a_x_weight x_size x_places x_weight N q v1 v2 v3 v4 v5 k0 k_7 hk_7 h H locs ls hP hD hS (lv_sub hl [1, 2, 3, 4, 5, 6, 0] rfl)
    · have h := iff_ c2 h
      refine lv_iconst (v := 1) hx hb dX2_heaviestSet_55 (by decide) ?_
      refine lv_goto (tgt := 60) hx hb dX2_heaviestSet_56 (by decide) ?_
      exact t_X2_heaviestSet_b60 C a_x a_x_places a_x_weight x_size x_places x_weight N q 1 v1 v2 v3 v4 v5 k0 k_7 hk_7 h H locs ls hP hD hS (lv_sub hl [1, 2, 3, 4, 5, 6, 0] rfl)
set_option maxRecDepth 100000 in
set_option maxHeartbeats 4000000 in
theorem t_X2_heaviestSet_b7 (C : cx D cI cJ cZ cG A cX2_heaviestSet 8 (some .int) RX2 wsX2_heaviestSet p s m args meth c) (a_x a_x_places a_x_weight : Nat) (x_size : Int32) (x_places : (Nat → Int32)) (x_weight : (Nat → Int32)) (N : Nat) (q : Int32) (v1 : Int32) : ∀ (n : Nat) (v2 : Int32) (v3 : Int32) (v4 : Int32), f_X2_heaviestSet_b7 N x_size x_places x_weight v1 n v2 v3 v4 = some q → WB p l e rm_X2_heaviestSet s m args below meth c (MQ below (Qg D (some (.int q)) (w_X2_heaviestSet cI cJ cZ cG a_x a_x_places a_x_weight x_size x_places x_weight) A) args s 0 0 A) D A 8 (w_X2_heaviestSet cI cJ cZ cG a_x a_x_places a_x_weight x_size x_places x_weight) [(0, .ref a_x), (1, .int v1), (2, .int v2), (3, .int v3), (4, .int v4)] [] 7 := by
  obtain ⟨hx, hb, hr, hml, hown, hts, hlk, hgk, hA⟩ := id C
  have hK := hgk.1
  intro n
  induction n with
  | zero => intro v2 v3 v4 h; cases h
  | succ n hk_7 =>
    intro v2 v3 v4 h
    have h : g_X2_heaviestSet_b7 N x_size x_places x_weight v1 (f_X2_heaviestSet_b7 N x_size x_places x_weight v1 n) v2 v3 v4 = some q := h
    generalize f_X2_heaviestSet_b7 N x_size x_places x_weight v1 n = k_7 at h hk_7
    unfold g_X2_heaviestSet_b7 at h
    intro H locs ls hP hD hS hl
    refine lv_iload hx hb dX2_heaviestSet_7 (lv_at hl 4 rfl) ?_
    refine lv_sipush (v := 1023) hx hb dX2_heaviestSet_9 (by decide) ?_
    refine lv_icmp_gt (tgt := 91) hx hb dX2_heaviestSet_12 (by decide) (fun c1 => ?_) (fun c1 => ?_)
    · have h := ift c1 h
      refine lv_iload_n hx hb dX2_heaviestSet_91 rfl (lv_at hl 2 rfl) ?_
      obtain rfl := Option.some.inj h
      exact g_iret C hP hD hS dX2_heaviestSet_92
    · have h := iff_ c1 h
      refine lv_iload hx hb dX2_heaviestSet_15 (lv_at hl 4 rfl) ?_
      refine g_callS0 (index := 28) (maxL := 1) (n := 1) (As := [.int v4]) (rest := []) (st1 := [.int (f_J6_bitCount_0f7a4 v4)]) C hP hS hl.1 (c_J6_bitCount_0f7a4 l D cI cJ cZ cG v4 _ rfl) gX2_heaviestSet_J6_bitCount_0f7a4 rfl rfl rfl (by decide +kernel) ⟨Nat.le_of_ble_eq_true rfl, Nat.le_of_ble_eq_true rfl⟩ rfl (Nat.le_of_ble_eq_true rfl) rfl dX2_heaviestSet_17 rfl (fun H locs hP hS => ?_)
      refine lv_istore (lv' := [(5, .int (f_J6_bitCount_0f7a4 v4)), (0, .ref a_x), (1, .int v1), (2, .int v2), (3, .int v3), (4, .int v4)]) hx hb dX2_heaviestSet_20 hl (by decide) rfl (fun ls hl => ?_)
      refine lv_iload hx hb dX2_heaviestSet_22 (lv_at hl 0 rfl) ?_
      refine lv_iload_n hx hb dX2_heaviestSet_24 rfl (lv_at hl 2 rfl) ?_
      refine lv_icmp_gt (tgt := 37) hx hb dX2_heaviestSet_25 (by decide) (fun c2 => ?_) (fun c2 => ?_)
      · have h := ift c2 h
        refine lv_iconst (v := 0) hx hb dX2_heaviestSet_37 (by decide) ?_
        exact t_X2_heaviestSet_b38 C a_x a_x_places a_x_weight x_size x_places x_weight N q 0 v1 v2 v3 v4 (f_J6_bitCount_0f7a4 v4) k_7 hk_7 h H locs ls hP hD hS (lv_sub hl [1, 2, 3, 4, 5, 0] rfl)
      · have h := iff_ c2 h
        refine lv_aload_n hx hb dX2_heaviestSet_28 rfl (lv_at hl 1 rfl) ?_
        refine lv_iload hx hb dX2_heaviestSet_29 (lv_at hl 5 rfl) ?_
        obtain ⟨q3, e3, h⟩ := bd_some h
        refine g_callV (index := 34) (maxL := 4) (n := 1) (As := [.int v4]) (rest := []) (st1 := [.int q3]) (C1 := RX2) (T1 := TX2) (N1 := 3) (ws2 := (w_X2_heaviestSet cI cJ cZ cG a_x a_x_places a_x_weight x_size x_places x_weight)) C hP hD hS hl.1 2 0 (c_X2_weightCaught l D cI cJ cZ cG a_x a_x_places a_x_weight x_size x_places x_weight v4 N q3 e3) gX2_heaviestSet_X2_weightCaught rfl rfl rfl (by decide +kernel) ⟨Nat.le_of_ble_eq_true rfl, Nat.le_of_ble_eq_true rfl⟩ rfl rfl rfl (Nat.le_of_ble_eq_true rfl) rfl dX2_heaviestSet_31 [0, 1, 2] [] [0, 1, 2] rfl rfl rfl rfl (by decide) rfl rfl rfl (fun H locs hP hD hS => ?_)
        refine lv_goto (tgt := 38) hx hb dX2_heaviestSet_34 (by decide) ?_
        exact t_X2_heaviestSet_b38 C a_x a_x_places a_x_weight x_size x_places x_weight N q q3 v1 v2 v3 v4 (f_J6_bitCount_0f7a4 v4) k_7 hk_7 h H locs ls hP hD hS (lv_sub hl [1, 2, 3, 4, 5, 0] rfl)
set_option maxRecDepth 100000 in
set_option maxHeartbeats 4000000 in
theorem c_X2_heaviestSet (l : Launch) (D : va_G) (cI cJ cZ cG : ClassId) (a_x a_x_places a_x_weight : Nat) (x_size : Int32) (x_places : (Nat → Int32)) (x_weight : (Nat → Int32)) (p1 : Int32) (N : Nat) (q : Int32) (h : f_X2_heaviestSet N x_size x_places x_weight p1 = some q) : gMet l yX2_heaviestSet wsX2_heaviestSet rm_X2_heaviestSet [.ref a_x, .int p1] (w_X2_heaviestSet cI cJ cZ cG a_x a_x_places a_x_weight x_size x_places x_weight) (w_X2_heaviestSet cI cJ cZ cG a_x a_x_places a_x_weight x_size x_places x_weight) (some (.int q)) D cI cJ cZ cG := by
  refine g_enter (cc := cX2_heaviestSet) (nL := 8) (ret := (some .int)) (by decide) rfl (Nat.le_of_ble_eq_true rfl) ?_
  intro p e s m below meth c A C H locs ls hP hD hS hl
  obtain ⟨hx, hb, hr, hml, hown, hts, hlk, hgk, hA⟩ := id C
  have hK := hgk.1
  have hl : lv_has ls 8 [(0, .ref a_x), (1, .int p1)] := hl
  unfold f_X2_heaviestSet at h
  refine lv_iconst (v := 0) hx hb dX2_heaviestSet_0 (by decide) ?_
  refine lv_istore_n (lv' := [(2, .int 0), (0, .ref a_x), (1, .int p1)]) hx hb dX2_heaviestSet_1 rfl hl (by decide) rfl (fun ls hl => ?_)
  refine lv_iconst (v := 0) hx hb dX2_heaviestSet_2 (by decide) ?_
  refine lv_istore_n (lv' := [(3, .int 0), (2, .int 0), (0, .ref a_x), (1, .int p1)]) hx hb dX2_heaviestSet_3 rfl hl (by decide) rfl (fun ls hl => ?_)
  refine lv_iconst (v := 1) hx hb dX2_heaviestSet_4 (by decide) ?_
  refine lv_istore (lv' := [(4, .int 1), (3, .int 0), (2, .int 0), (0, .ref a_x), (1, .int p1)]) hx hb dX2_heaviestSet_5 hl (by decide) rfl (fun ls hl => ?_)
  exact t_X2_heaviestSet_b7 C a_x a_x_places a_x_weight x_size x_places x_weight N q p1 N 0 0 1 h H locs ls hP hD hS (lv_sub hl [3, 4, 2, 1, 0] rfl)
