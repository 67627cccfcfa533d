section PST
theorem mw_0 : Cond.instantiable RX0 4 ∈ lw_tbl := List.mem_of_getElem? (i := 276) (by decide +kernel)
theorem mw_1 : Cond.instantiable RX1 2 ∈ lw_tbl := List.mem_of_getElem? (i := 261) (by decide +kernel)
theorem mw_2 : Cond.instantiable RX2 3 ∈ lw_tbl := List.mem_of_getElem? (i := 172) (by decide +kernel)
theorem mw_3 : Cond.instantiable RX3 6 ∈ lw_tbl := List.mem_of_getElem? (i := 227) (by decide +kernel)
theorem mw_4 : Cond.instantiable RX4 2 ∈ lw_tbl := List.mem_of_getElem? (i := 155) (by decide +kernel)
theorem mw_5 : Cond.instantiable RX5 7 ∈ lw_tbl := List.mem_of_getElem? (i := 125) (by decide +kernel)
theorem mw_6 : Cond.instantiable RX6 4 ∈ lw_tbl := List.mem_of_getElem? (i := 63) (by decide +kernel)
theorem mw_7 : Cond.instantiable RX7 3 ∈ lw_tbl := List.mem_of_getElem? (i := 206) (by decide +kernel)
theorem mw_8 : Cond.instantiable RX8 10 ∈ lw_tbl := List.mem_of_getElem? (i := 69) (by decide +kernel)
theorem mw_9 : Cond.instantiable RX9 7 ∈ lw_tbl := List.mem_of_getElem? (i := 295) (by decide +kernel)
theorem mw_10 : Cond.instantiable RX10 10 ∈ lw_tbl := List.mem_of_getElem? (i := 55) (by decide +kernel)
theorem mw_11 : Cond.instantiable RX11 19 ∈ lw_tbl := List.mem_of_getElem? (i := 778) (by decide +kernel)
theorem mw_12 : Cond.arrayClass .int ∈ lw_tbl := List.mem_of_getElem? (i := 123) (by decide +kernel)
theorem mw_13 : Cond.arrayClass .long ∈ lw_tbl := List.mem_of_getElem? (i := 259) (by decide +kernel)
theorem mw_14 : Cond.arrayClass .boolean ∈ lw_tbl := List.mem_of_getElem? (i := 842) (by decide +kernel)
theorem mw_15 : Cond.arrayOver (.array .int) ∈ lw_tbl := List.mem_of_getElem? (i := 212) (by decide +kernel)
theorem mw_16 : Cond.methodLinkNest RX8 43 yX10_isFrom "GuardDesk" ∈ lw_tbl := List.mem_of_getElem? (i := 381) (by decide +kernel)
theorem mw_17 : Cond.methodLinkNest RX6 9 yX8_init "GuardDesk" ∈ lw_tbl := List.mem_of_getElem? (i := 70) (by decide +kernel)
theorem mw_18 : Cond.methodLinkNest RX6 18 yX5_init "GuardDesk" ∈ lw_tbl := List.mem_of_getElem? (i := 126) (by decide +kernel)
theorem mw_19 : Cond.methodLinkNest RX6 25 yX4_init "GuardDesk" ∈ lw_tbl := List.mem_of_getElem? (i := 156) (by decide +kernel)
theorem mw_20 : Cond.methodLinkNest RX6 32 yX2_init "GuardDesk" ∈ lw_tbl := List.mem_of_getElem? (i := 173) (by decide +kernel)
theorem mw_21 : Cond.methodLinkNest RX9 13 yX4_init "GuardDesk" ∈ lw_tbl := List.mem_of_getElem? (i := 301) (by decide +kernel)
theorem mw_22 : Cond.methodLinkNest RX10 9 yX6_init "GuardDesk" ∈ lw_tbl := List.mem_of_getElem? (i := 64) (by decide +kernel)
theorem mw_23 : Cond.methodLinkNest RX10 21 yX7_init "GuardDesk" ∈ lw_tbl := List.mem_of_getElem? (i := 207) (by decide +kernel)
theorem mw_24 : Cond.methodLinkNest RX10 28 yX3_init "GuardDesk" ∈ lw_tbl := List.mem_of_getElem? (i := 228) (by decide +kernel)
theorem mw_25 : Cond.methodLinkNest RX10 35 yX1_init "GuardDesk" ∈ lw_tbl := List.mem_of_getElem? (i := 262) (by decide +kernel)
theorem mw_26 : Cond.methodLinkNest RX10 42 yX0_init "GuardDesk" ∈ lw_tbl := List.mem_of_getElem? (i := 277) (by decide +kernel)
theorem mw_27 : Cond.methodLinkNest RX10 49 yX9_init "GuardDesk" ∈ lw_tbl := List.mem_of_getElem? (i := 296) (by decide +kernel)
theorem mw_28 : Cond.classLink RL 7 RX10 ∈ lw_tbl := List.mem_of_getElem? (i := 54) (by decide +kernel)
theorem mw_29 : Cond.initialized RX10 ∈ lw_tbl := List.mem_of_getElem? (i := 38) (by decide +kernel)
theorem mz_30 : Cond.methodLink RL 9 yX10_init ∈ wsL_law := List.mem_of_getElem? (i := 6) rfl
theorem mz_31 : Cond.initialized RX10 ∈ wsL_law := List.mem_of_getElem? (i := 2) rfl
theorem mz_32 : Cond.instanceMethod yX10_init ∈ wsL_law := List.mem_of_getElem? (i := 7) rfl
theorem mw_33 : Cond.classLink RL 10 RX11 ∈ lw_tbl := List.mem_of_getElem? (i := 777) (by decide +kernel)
theorem mw_34 : Cond.initialized RX11 ∈ lw_tbl := List.mem_of_getElem? (i := 49) (by decide +kernel)
theorem mz_35 : Cond.methodLink RL 12 yX11_init ∈ wsL_law := List.mem_of_getElem? (i := 117) rfl
theorem mz_36 : Cond.initialized RX11 ∈ wsL_law := List.mem_of_getElem? (i := 5) rfl
theorem mz_37 : Cond.instanceMethod yX11_init ∈ wsL_law := List.mem_of_getElem? (i := 118) rfl
theorem law_arr {args : Array Value} {s : State} {ty : FieldType} (h : (Cond.arrayClass ty).before args s = true) : ∃ cA : ClassId, ArrOfT s cA ty ∧ s.vm.findClass ("[" ++ ty.toString) = some cA := by
  obtain ⟨cA, kA, comp, h1, h2, h3⟩ := Cond.arrayClass_spec h
  exact ⟨cA, fun n z => ⟨fun k h => (by cases h), kA, h2, comp, h3⟩, h1⟩
theorem law_arrA {args : Array Value} {s : State} (h : (Cond.arrayOver (.array .int)).before args s = true) : ∃ cA : ClassId, ArrOfT s cA (.array .int) ∧ s.vm.findClass ("[" ++ (FieldType.array .int).toString) = some cA := by
  obtain ⟨comp, cA, kA, h1, h2, h3, h4, h5⟩ := aoa_spec h
  exact ⟨cA, fun n z => ⟨fun k h => (by cases h), kA, h3, comp, h4⟩, h5⟩
theorem law_aoa {args : Array Value} {s : State} (h : (Cond.arrayOver (.array .int)).before args s = true) : va_AOA .int s := by
  unfold Cond.before Cond.holds at h
  unfold va_AOA Cond.before Cond.holds
  simp only [Cond.value] at h ⊢
  exact h
set_option maxRecDepth 100000 in
set_option maxHeartbeats 8000000 in
theorem whole_start {p : Program} {e : Env} {s : State} {m : MethodId} {below : List Frame} {meth : Method} {c : Code} (l : Launch) {b L : Nat} {xs : Nat → Int32} (hL : L ≤ 3072) (C0 : lw_At p s m meth c b L xs) : W p l e room_1 s m #[Value.ref b] below meth c s.heap [] 0 0 (lw_Z below #[Value.ref b] s) (entryFrame m ([Value.ref b] : List Value).toArray 4) := by
  obtain ⟨hx, hb, hr, hml, hown, hts, hX, hbl, hlocks, hgv⟩ := id C0
  have hA : ∀ q : Nat, s.heap.size ≤ q → (fun q : Nat => s.heap.size ≤ q) q := fun _ h => h
  obtain ⟨c0, iS0, hKn0⟩ := u_known (C := RX0) (T := TX0) (N := 4) (n := 4) hts ml_wsX00 (hts _ mw_0)
  obtain ⟨c1, iS1, hKn1⟩ := u_known (C := RX1) (T := TX1) (N := 2) (n := 2) hts ml_wsX10 (hts _ mw_1)
  obtain ⟨c2, iS2, hKn2⟩ := u_known (C := RX2) (T := TX2) (N := 3) (n := 3) hts ml_wsX20 (hts _ mw_2)
  obtain ⟨c3, iS3, hKn3⟩ := u_known (C := RX3) (T := TX3) (N := 6) (n := 6) hts ml_wsX30 (hts _ mw_3)
  obtain ⟨c4, iS4, hKn4⟩ := u_known (C := RX4) (T := TX4) (N := 2) (n := 2) hts ml_wsX40 (hts _ mw_4)
  obtain ⟨c5, iS5, hKn5⟩ := u_known (C := RX5) (T := TX5) (N := 7) (n := 7) hts ml_wsX50 (hts _ mw_5)
  obtain ⟨c6, iS6, hKn6⟩ := u_known (C := RX6) (T := TX6) (N := 4) (n := 4) hts ml_wsX60 (hts _ mw_6)
  obtain ⟨c7, iS7, hKn7⟩ := u_known (C := RX7) (T := TX7) (N := 3) (n := 3) hts ml_wsX70 (hts _ mw_7)
  obtain ⟨c8, iS8, hKn8⟩ := u_known (C := RX8) (T := TX8) (N := 10) (n := 10) hts ml_wsX80 (hts _ mw_8)
  obtain ⟨c9, iS9, hKn9⟩ := u_known (C := RX9) (T := TX9) (N := 7) (n := 7) hts ml_wsX90 (hts _ mw_9)
  obtain ⟨c10, iS10, hKn10⟩ := u_known (C := RX10) (T := TX10) (N := 10) (n := 10) hts ml_wsX100 (hts _ mw_10)
  obtain ⟨c11, iS11, hKn11⟩ := u_known (C := RX11) (T := TX11) (N := 19) (n := 19) hts ml_wsX110 (hts _ mw_11)
  obtain ⟨dC, dI, hKc⟩ : ∃ (dC : Nat → ClassId) (dI : Nat → Nat → Nat), ∀ (k : Nat) (q : vw_C), vwCl[k]? = some q → u_Kn s q.1 q.2.1 q.2.2 (dC k) (dI k) := by
    refine ⟨fun k => ([c0, c1, c2, c3, c4, c5, c6, c7, c8, c9, c10, c11] : List ClassId).getD k c0, fun k => ([iS0, iS1, iS2, iS3, iS4, iS5, iS6, iS7, iS8, iS9, iS10, iS11] : List (Nat → Nat)).getD k iS0, ?_⟩
    intro k q hq
    match k, hq with
    | 0, hq => cases hq; exact hKn0
    | 1, hq => cases hq; exact hKn1
    | 2, hq => cases hq; exact hKn2
    | 3, hq => cases hq; exact hKn3
    | 4, hq => cases hq; exact hKn4
    | 5, hq => cases hq; exact hKn5
    | 6, hq => cases hq; exact hKn6
    | 7, hq => cases hq; exact hKn7
    | 8, hq => cases hq; exact hKn8
    | 9, hq => cases hq; exact hKn9
    | 10, hq => cases hq; exact hKn10
    | 11, hq => cases hq; exact hKn11
    | k + 12, hq => simp [vwCl] at hq
  obtain ⟨cI, hI1, hI2⟩ := law_arr (hts _ mw_12)
  obtain ⟨cJ, hJ1, hJ2⟩ := law_arr (hts _ mw_13)
  obtain ⟨cZ, hZ1, hZ2⟩ := law_arr (hts _ mw_14)
  obtain ⟨cG, hG1, hG2⟩ := law_arrA (hts _ mw_15)
  have hK : va_K (dC, dI) vwCl (gTy cI cJ cZ cG) s := ⟨hKc, fun k q h => by
    match k, h with
    | 0, h => cases h; exact ⟨hI1, hI2⟩
    | 1, h => cases h; exact ⟨hJ1, hJ2⟩
    | 2, h => cases h; exact ⟨hZ1, hZ2⟩
    | 3, h => cases h; exact ⟨hG1, hG2⟩
    | k + 4, h => simp at h⟩
  have hgk : gK (dC, dI) cI cJ cZ cG s := ⟨hK, va_Nw.of rfl (hts _ mw_16)⟩
  have hgn : gN s := ⟨va_Nw.of rfl (hts _ mw_17), va_Nw.of rfl (hts _ mw_18), va_Nw.of rfl (hts _ mw_19), va_Nw.of rfl (hts _ mw_20), va_Nw.of rfl (hts _ mw_21), va_Nw.of rfl (hts _ mw_22), va_Nw.of rfl (hts _ mw_23), va_Nw.of rfl (hts _ mw_24), va_Nw.of rfl (hts _ mw_25), va_Nw.of rfl (hts _ mw_26), va_Nw.of rfl (hts _ mw_27), law_aoa (hts _ mw_15)⟩
  have C : cx (dC, dI) cI cJ cZ cG (fun q : Nat => s.heap.size ≤ q) cL_law 4 ret RL wsL_law p s m #[Value.ref b] meth c := ⟨hx, hb, hr, hml, hown, fun w h => hts w (wsL_law_in w h), hlocks, hgk, hA⟩
  have hS : va_S (fun q : Nat => s.heap.size ≤ q) s.heap s.heap [] := va_S.rf
  have hP : va_P (dC, dI) vwCl [] s.heap := fun k q h => by simp at h
  have hD : va_D (fun q : Nat => s.heap.size ≤ q) [] := ⟨fun i j p q h => by simp at h, fun k q h => by simp at h⟩
  have hl := lv_entry ([.ref b]) (n := 4) (Nat.le_of_ble_eq_true rfl)
  rw [lg_entry_eq]
  generalize (lg_sl ([.ref b]) ++ List.replicate (4 - (lg_sl ([.ref b])).length) Slot.unset).toArray = ls at hl ⊢
  have hl : lv_has ls 4 [(0, .ref b)] := hl
  refine va_new (ci := 10) (fs := [.null, .null, .null, .null, .null, .null, .null, .int 0, .int 0, .int 0]) (C := RX10) (T := TX10) (N := 10) hx hb hts ml_wsX100 tyX10 tyX10_ok hown (hts _ mw_28) (hts _ mw_10) (hts _ mw_29) hK hP hD hS hA rfl (fun j hj => by rcases (show j = 0 ∨ j = 1 ∨ j = 2 ∨ j = 3 ∨ j = 4 ∨ j = 5 ∨ j = 6 ∨ j = 7 ∨ j = 8 ∨ j = 9 by omega) with rfl | rfl | rfl | rfl | rfl | rfl | rfl | rfl | rfl | rfl <;> rfl) (Nat.le_of_ble_eq_true rfl) (Nat.le_of_ble_eq_true rfl) dL_law_0 (fun q0 H hP hD hS => ?_)
  refine lv_dup hx hb dL_law_3 rfl ?_
  refine g_callNewI (mc := 62) (ms := 2197) (rest := [.ref q0]) C hgn hP hD hS hl.1 (c_X10_init l (dC, dI) cI cJ cZ cG q0) gL_law_X10_init rfl rfl rfl mz_30 mz_31 mz_32 rfl (by decide +kernel) ⟨Nat.le_of_ble_eq_true rfl, Nat.le_of_ble_eq_true rfl⟩ dL_law_4 ⟨Nat.le_of_ble_eq_true rfl, Nat.le_of_ble_eq_true rfl⟩ 0 rfl [] rfl rfl (by decide) (fun H locs hB hj hS => ?_)
  obtain ⟨a1, a2, a3, a4, a5, a6, a7, a8, a9, a10, a11, a12, a13, a14, a15, a16, a17, a18, a19, a20, a21, a22, a23, a24, a25, a26, a27, a28, a29, a30, a31, a32, a33, a34, a35, a36, a37, a38, a39, a40, a41, a42, a43, a44, a45, a46, a47, a48, a49, a50, a51, a52, a53, a54, a55, a56, a57, a58, a59, a60, a61, a62, hP1, hD1⟩ := hB
  obtain ⟨hP, hD⟩ := hj _ hP1 hD1
  have hP : va_P (dC, dI) vwCl (w_X10_all cI cJ cZ cG q0 a1 a2 a3 a4 a5 a6 a7 a8 a9 a10 a11 a12 a13 a14 a15 a16 a17 a18 a19 a20 a21 a22 a23 a24 a25 a26 a27 a28 a29 a30 a31 a32 a33 a34 a35 a36 a37 a38 a39 a40 a41 a42 a43 a44 a45 a46 a47 a48 a49 a50 a51 a52 a53 a54 a55 a56 a57 a58 a59 a60 a61 a62 0 1 0 0 1 (fun _ => 0) (fun _ => 0) (fun _ => 0) (fun _ => 0) (fun _ => 0) (fun _ => 0) (fun _ => 0) (fun _ => 0) 0 0 (fun _ => 0) (fun _ => 0) (fun _ => 0) (fun _ => 0) (fun _ => 0) 0 (fun _ => 0) 0 (fun _ => 0) (fun _ => 0) 0 1 (fun _ => 0) (fun _ => 0) (fun _ => 0) (fun _ => 0) (fun _ => 0) (fun _ => 0) (fun _ => 0) (fun _ => 0) 0 0 (fun _ => 0) (fun _ => 0) (fun _ => 0) (fun _ => 0) (fun _ => 0) 0 (fun _ => 0) 0 (fun _ => 0) (fun _ => 0) (fun _ => 0) (upd (upd (upd (upd (fun _ => 0) 0 (-1)) 1 (-1)) 2 (-1)) 3 (-1)) (fun _ => 0) (fun _ => 0) (fun _ => 0) (fun _ => 0) 0 1 1 0 0 (fun _ => 0) 0 (fun _ => 0) 0 0 0 0 0 0 0 (fun _ => 0) (fun _ => 0) (fun _ => 0) (fun _ => 0) (fun _ => 0)) H := hP
  have hD : va_D (fun q : Nat => s.heap.size ≤ q) (w_X10_all cI cJ cZ cG q0 a1 a2 a3 a4 a5 a6 a7 a8 a9 a10 a11 a12 a13 a14 a15 a16 a17 a18 a19 a20 a21 a22 a23 a24 a25 a26 a27 a28 a29 a30 a31 a32 a33 a34 a35 a36 a37 a38 a39 a40 a41 a42 a43 a44 a45 a46 a47 a48 a49 a50 a51 a52 a53 a54 a55 a56 a57 a58 a59 a60 a61 a62 0 1 0 0 1 (fun _ => 0) (fun _ => 0) (fun _ => 0) (fun _ => 0) (fun _ => 0) (fun _ => 0) (fun _ => 0) (fun _ => 0) 0 0 (fun _ => 0) (fun _ => 0) (fun _ => 0) (fun _ => 0) (fun _ => 0) 0 (fun _ => 0) 0 (fun _ => 0) (fun _ => 0) 0 1 (fun _ => 0) (fun _ => 0) (fun _ => 0) (fun _ => 0) (fun _ => 0) (fun _ => 0) (fun _ => 0) (fun _ => 0) 0 0 (fun _ => 0) (fun _ => 0) (fun _ => 0) (fun _ => 0) (fun _ => 0) 0 (fun _ => 0) 0 (fun _ => 0) (fun _ => 0) (fun _ => 0) (upd (upd (upd (upd (fun _ => 0) 0 (-1)) 1 (-1)) 2 (-1)) 3 (-1)) (fun _ => 0) (fun _ => 0) (fun _ => 0) (fun _ => 0) 0 1 1 0 0 (fun _ => 0) 0 (fun _ => 0) 0 0 0 0 0 0 0 (fun _ => 0) (fun _ => 0) (fun _ => 0) (fun _ => 0) (fun _ => 0)) := hD
  refine lv_astore_n (lv' := [(1, .ref q0), (0, .ref b)]) hx hb dL_law_7 rfl hl (by decide) rfl (fun ls hl => ?_)
  refine va_new (ci := 11) (fs := [.null, .null, .int 0, .int 0, .int 0, .null, .null, .null, .int 0, .long 0, .long 0, .long 0, .null, .long 0, .long 0, .int 0, .null, .null, .null]) (C := RX11) (T := TX11) (N := 19) hx hb hts ml_wsX110 tyX11 tyX11_ok hown (hts _ mw_33) (hts _ mw_11) (hts _ mw_34) hK hP hD hS hA rfl (fun j hj => by rcases (show j = 0 ∨ j = 1 ∨ j = 2 ∨ j = 3 ∨ j = 4 ∨ j = 5 ∨ j = 6 ∨ j = 7 ∨ j = 8 ∨ j = 9 ∨ j = 10 ∨ j = 11 ∨ j = 12 ∨ j = 13 ∨ j = 14 ∨ j = 15 ∨ j = 16 ∨ j = 17 ∨ j = 18 by omega) with rfl | rfl | rfl | rfl | rfl | rfl | rfl | rfl | rfl | rfl | rfl | rfl | rfl | rfl | rfl | rfl | rfl | rfl | rfl <;> rfl) (Nat.le_of_ble_eq_true rfl) (Nat.le_of_ble_eq_true rfl) dL_law_8 (fun q1 H hP hD hS => ?_)
  refine lv_dup hx hb dL_law_11 rfl ?_
  refine g_callNewI (mc := 9) (ms := 33356) (rest := [.ref q1]) C hgn hP hD hS hl.1 (c_X11_init l (dC, dI) cI cJ cZ cG q1) gL_law_X11_init rfl rfl rfl mz_35 mz_36 mz_37 rfl (by decide +kernel) ⟨Nat.le_of_ble_eq_true rfl, Nat.le_of_ble_eq_true rfl⟩ dL_law_12 ⟨Nat.le_of_ble_eq_true rfl, Nat.le_of_ble_eq_true rfl⟩ 63 rfl [0, 1, 2, 3, 4, 5, 6, 7, 8, 9, 10, 11, 12, 13, 14, 15, 16, 17, 18, 19, 20, 21, 22, 23, 24, 25, 26, 27, 28, 29, 30, 31, 32, 33, 34, 35, 36, 37, 38, 39, 40, 41, 42, 43, 44, 45, 46, 47, 48, 49, 50, 51, 52, 53, 54, 55, 56, 57, 58, 59, 60, 61, 62] rfl rfl (by decide) (fun H locs hB hj hS => ?_)
  obtain ⟨d1, d2, d3, d4, d5, d6, d7, d8, d9, hP1, hD1⟩ := hB
  obtain ⟨hP, hD⟩ := hj _ hP1 hD1
  obtain ⟨ad, ead⟩ : ∃ ad : Nat → Nat, ad = fun k => ([q0, a1, a2, a3, a4, a5, a6, a7, a8, a9, a10, a11, a12, a13, a14, a15, a16, a17, a18, a19, a20, a21, a22, a23, a24, a25, a26, a27, a28, a29, a30, a31, a32, a33, a34, a35, a36, a37, a38, a39, a40, a41, a42, a43, a44, a45, a46, a47, a48, a49, a50, a51, a52, a53, a54, a55, a56, a57, a58, a59, a60, a61, a62, q1, d1, d2, d3, d4, d5, d6, d7, d8, d9] : List Nat).getD k 0 := ⟨_, rfl⟩
  have hP : va_P (dC, dI) vwCl (LWS cI cJ cZ cG ad LSt0) H := by rw [ead]; exact hP
  have hD : va_D (fun q : Nat => s.heap.size ≤ q) (LWS cI cJ cZ cG ad LSt0) := by rw [ead]; exact hD
  refine lv_astore_n (lv' := [(2, .ref q1), (1, .ref q0), (0, .ref b)]) hx hb dL_law_15 rfl hl (by decide) rfl (fun ls hl => ?_)
  refine lv_iconst (v := 0) hx hb dL_law_16 (by decide) ?_
  refine lv_istore_n (lv' := [(3, .int 0), (2, .ref q1), (1, .ref q0), (0, .ref b)]) hx hb dL_law_17 rfl hl (by decide) rfl (fun ls hl => ?_)
  have hl := lv_sub hl [3, 2, 1, 0] rfl
  have hl : lv_has ls 4 [(0, .ref b), (1, .ref (ad 0)), (2, .ref (ad 63)), (3, .int (nI 0))] := by rw [ead]; exact hl
  exact law_loop (N := 2000000) hL C hX hbl (Nat.le_refl _) (L + 1) 0 LSt0 (by omega) (by omega) inv_init H locs ls hP hD hS hl
end PST
