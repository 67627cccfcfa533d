section PLP
variable {p : Program} {l : Launch} {e : Env} {s : State} {m : MethodId} {below : List Frame} {meth : Method} {c : Code} {D : va_G} {A : Nat → Prop} {cI cJ cZ cG : ClassId} {b L : Nat} {xs : Nat → Int32} {ad : Nat → Nat} {i : Int32} {N : Nat}
theorem law_gt {j L : Nat} (hj : j ≤ 4000) (hL : L ≤ 3072) (h : L < j + 6) : nI j > Int32.ofNat L - 6 := by
  show Int32.ofNat L - 6 < nI j
  rw [Int32.lt_iff_toInt_lt, nI_toInt (by omega)]
  have h1 : (Int32.ofNat L - 6).toInt = (L : Int) - 6 := by
    show (nI L - 6).toInt = _
    rw [i_sub (a := nI L) (b := 6)]
    · rw [nI_toInt (by omega)]; rfl
    · rw [nI_toInt (by omega)]; show -2147483648 ≤ (L : Int) - 6; omega
    · rw [nI_toInt (by omega)]; show (L : Int) - 6 < 2147483648; omega
  rw [h1]; omega
theorem law_in {j k L : Nat} {kk : Int32} (hk : kk = nI k) (h : j + k < L) (hL : L ≤ 3072) : vp_in (nI j + kk) L := by
  rw [hk, nI_add]; exact vp_in_nI h (by omega)
theorem law_6 (j : Nat) : nI j + 6 = nI (j + 6) := nI_add j 6
theorem law_63 (x : Int32) : ∃ k : Nat, k < 64 ∧ x &&& 63 = nI k := by
  have h : (x &&& 63) = nI ((x &&& 63).toBitVec.toNat) := by
    apply Int32.toBitVec_inj.1
    show (x &&& 63).toBitVec = BitVec.ofNat 32 _
    rw [BitVec.ofNat_toNat, BitVec.setWidth_eq]
  refine ⟨_, ?_, h⟩
  rw [Int32.toBitVec_and, BitVec.toNat_and]
  exact Nat.lt_of_le_of_lt Nat.and_le_right (by decide)
set_option maxRecDepth 100000 in
set_option maxHeartbeats 4000000 in
theorem law_loop (hL : L ≤ 3072) (C : cx D cI cJ cZ cG (fun q : Nat => s.heap.size ≤ q) cL_law 4 ret RL wsL_law p s m #[Value.ref b] meth c) (hX : va_X b L xs s s.heap) (hbl : b < s.heap.size) (hN : 2000000 ≤ N) : ∀ (n j : Nat) (S : LSt), L < j + n → j ≤ L + 6 → InvS S → LAt p l e s m below meth c D (fun q : Nat => s.heap.size ≤ q) cI cJ cZ cG b ad (nI j) S 18 := by
  obtain ⟨hx, hb, hr, hml, hown, hts, hlk, hgk, hA⟩ := id C
  have hbA : ¬ (fun q : Nat => s.heap.size ≤ q) b := Nat.not_le.mpr hbl
  intro n
  induction n with
  | zero =>
    intro j S h1 h2 hI H locs ls hP hD hS hl
    refine lv_iload_n hx hb dL_law_18 rfl (lv_at hl 3 rfl) ?_
    refine lv_aload_n hx hb dL_law_19 rfl (lv_at hl 0 rfl) ?_
    refine va_slen hx hb hX hbl hbA hS dL_law_20 ?_
    refine lv_bipush (v := 6) hx hb dL_law_21 (by decide) ?_
    refine lv_isub hx hb dL_law_23 ?_
    refine lv_icmp_gt (tgt := 1115) hx hb dL_law_24 (by decide) (fun c1 => ?_) (fun c1 => absurd (law_gt (by omega) hL (by omega)) c1)
    refine lv_iconst (v := 1) hx hb dL_law_1115 (by decide) ?_
    refine va_forget (fun q hq => hS.2.2 q hq) ?_
    refine W.widen (k := 600000) (n := 7302250) (by decide) (by decide) ?_
    exact lw_ret hx hb hr hlk dL_law_1116
  | succ n ih =>
    intro j S h1 h2 hI H locs ls hP hD hS hl
    refine lv_iload_n hx hb dL_law_18 rfl (lv_at hl 3 rfl) ?_
    refine lv_aload_n hx hb dL_law_19 rfl (lv_at hl 0 rfl) ?_
    refine va_slen hx hb hX hbl hbA hS dL_law_20 ?_
    refine lv_bipush (v := 6) hx hb dL_law_21 (by decide) ?_
    refine lv_isub hx hb dL_law_23 ?_
    refine lv_icmp_gt (tgt := 1115) hx hb dL_law_24 (by decide) (fun c1 => ?_) (fun c1 => ?_)
    · refine lv_iconst (v := 1) hx hb dL_law_1115 (by decide) ?_
      refine va_forget (fun q hq => hS.2.2 q hq) ?_
      refine W.widen (k := 600000) (n := 7302250) (by decide) (by decide) ?_
      exact lw_ret hx hb hr hlk dL_law_1116
    have hj : j + 6 ≤ L := by
      rcases Nat.lt_or_ge L (j + 6) with q | q
      · exact absurd (law_gt (by omega) hL q) c1
      · exact q
    have hin : LIn (nI j) L := ⟨vp_in_nI (by omega) (by omega), law_in (k := 1) rfl (by omega) (by omega), law_in (k := 2) rfl (by omega) (by omega), law_in (k := 3) rfl (by omega) (by omega), law_in (k := 4) rfl (by omega) (by omega), law_in (k := 5) rfl (by omega) (by omega)⟩
    have hk : ∀ S', InvS S' → LAt p l e s m below meth c D (fun q : Nat => s.heap.size ≤ q) cI cJ cZ cG b ad (nI j) S' 1109 := by
      intro S' hI' H locs ls hP hD hS hl
      refine lv_iinc (v := nI (j + 6)) (lv' := [(3, .int (nI (j + 6))), (0, .ref b), (1, .ref (ad 0)), (2, .ref (ad 63))]) hx hb dL_law_1109 hl (k := 3) rfl (law_6 j) (by decide) rfl (fun ls hl => ?_)
      refine lv_goto (tgt := 18) hx hb dL_law_1112 (by decide) ?_
      exact ih (j + 6) S' (by omega) (by omega) hI' H locs ls hP hD hS (lv_sub hl [1, 2, 3, 0] rfl)
    refine lv_aload_n hx hb dL_law_27 rfl (lv_at hl 0 rfl) ?_
    refine lv_iload_n hx hb dL_law_28 rfl (lv_at hl 3 rfl) ?_
    refine va_sld hx hb hX hbl hbA hS hin.1 dL_law_29 ?_
    refine lv_bipush (v := 63) hx hb dL_law_30 (by decide) ?_
    refine lv_iand hx hb dL_law_32 ?_
    obtain ⟨k, hk64, et⟩ := law_63 (xs (nI j).toNatClampNeg)
    rw [et]
    rcases (by omega : (k = 0 ∨ k = 1 ∨ k = 2 ∨ k = 3 ∨ k = 4 ∨ k = 5 ∨ k = 6 ∨ k = 7 ∨ k = 8 ∨ k = 9 ∨ k = 10 ∨ k = 11 ∨ k = 12 ∨ k = 13 ∨ k = 14 ∨ k = 15 ∨ k = 16 ∨ k = 17 ∨ k = 18 ∨ k = 19 ∨ k = 20 ∨ k = 21 ∨ k = 22 ∨ k = 23 ∨ k = 24 ∨ k = 25 ∨ k = 26 ∨ k = 27 ∨ k = 28 ∨ k = 29 ∨ k = 30 ∨ k = 31 ∨ k = 32 ∨ k = 33 ∨ k = 34) ∨ 35 ≤ k) with (ek | ek | ek | ek | ek | ek | ek | ek | ek | ek | ek | ek | ek | ek | ek | ek | ek | ek | ek | ek | ek | ek | ek | ek | ek | ek | ek | ek | ek | ek | ek | ek | ek | ek | ek) | h35
    · subst ek
      refine lv_tableIn (x := nI 0) (off := 155) (tgt := 188) hx hb dL_law_33 (by decide) (by decide) rfl (by decide) ?_
      exact lc_target C hX hbl hbA hin hN S hI hk H locs ls hP hD hS hl
    · subst ek
      refine lv_tableIn (x := nI 1) (off := 218) (tgt := 251) hx hb dL_law_33 (by decide) (by decide) rfl (by decide) ?_
      exact lc_bounds C hX hbl hbA hin hN S hI hk H locs ls hP hD hS hl
    · subst ek
      refine lv_tableIn (x := nI 2) (off := 261) (tgt := 294) hx hb dL_law_33 (by decide) (by decide) rfl (by decide) ?_
      exact lc_guards C hX hbl hbA hin hN S hI hk H locs ls hP hD hS hl
    · subst ek
      refine lv_tableIn (x := nI 3) (off := 284) (tgt := 317) hx hb dL_law_33 (by decide) (by decide) rfl (by decide) ?_
      exact lc_of C hX hbl hbA hin hN S hI hk H locs ls hP hD hS hl
    · subst ek
      refine lv_tableIn (x := nI 4) (off := 317) (tgt := 350) hx hb dL_law_33 (by decide) (by decide) rfl (by decide) ?_
      exact lc_drop C hX hbl hbA hin hN S hI hk H locs ls hP hD hS hl
    · subst ek
      refine lv_tableIn (x := nI 5) (off := 330) (tgt := 363) hx hb dL_law_33 (by decide) (by decide) rfl (by decide) ?_
      exact lc_best C hX hbl hbA hin hN S hI hk H locs ls hP hD hS hl
    · subst ek
      refine lv_tableIn (x := nI 6) (off := 343) (tgt := 376) hx hb dL_law_33 (by decide) (by decide) rfl (by decide) ?_
      exact lc_worth C hX hbl hbA hin hN S hI hk H locs ls hP hD hS hl
    · subst ek
      refine lv_tableIn (x := nI 7) (off := 356) (tgt := 389) hx hb dL_law_33 (by decide) (by decide) rfl (by decide) ?_
      exact lc_prize C hX hbl hbA hin hN S hI hk H locs ls hP hD hS hl
    · subst ek
      refine lv_tableIn (x := nI 8) (off := 369) (tgt := 402) hx hb dL_law_33 (by decide) (by decide) rfl (by decide) ?_
      exact lc_share C hX hbl hbA hin hN S hI hk H locs ls hP hD hS hl
    · subst ek
      refine lv_tableIn (x := nI 9) (off := 392) (tgt := 425) hx hb dL_law_33 (by decide) (by decide) rfl (by decide) ?_
      exact lc_below C hX hbl hbA hin hN S hI hk H locs ls hP hD hS hl
    · subst ek
      refine lv_tableIn (x := nI 10) (off := 405) (tgt := 438) hx hb dL_law_33 (by decide) (by decide) rfl (by decide) ?_
      exact lc_put C hX hbl hbA hin hN S hI hk H locs ls hP hD hS hl
    · subst ek
      refine lv_tableIn (x := nI 11) (off := 438) (tgt := 471) hx hb dL_law_33 (by decide) (by decide) rfl (by decide) ?_
      exact lc_spare C hX hbl hbA hin hN S hI hk H locs ls hP hD hS hl
    · subst ek
      refine lv_tableIn (x := nI 12) (off := 451) (tgt := 484) hx hb dL_law_33 (by decide) (by decide) rfl (by decide) ?_
      exact lc_comes C hX hbl hbA hin hN S hI hk H locs ls hP hD hS hl
    · subst ek
      refine lv_tableIn (x := nI 13) (off := 464) (tgt := 497) hx hb dL_law_33 (by decide) (by decide) rfl (by decide) ?_
      exact lc_handWorth C hX hbl hbA hin hN S hI hk H locs ls hP hD hS hl
    · subst ek
      refine lv_tableIn (x := nI 14) (off := 477) (tgt := 510) hx hb dL_law_33 (by decide) (by decide) rfl (by decide) ?_
      exact lc_errs C hX hbl hbA hin hN S hI hk H locs ls hP hD hS hl
    · subst ek
      refine lv_tableIn (x := nI 15) (off := 500) (tgt := 533) hx hb dL_law_33 (by decide) (by decide) rfl (by decide) ?_
      exact lc_lots C hX hbl hbA hin hN S hI hk H locs ls hP hD hS hl
    · subst ek
      refine lv_tableIn (x := nI 16) (off := 513) (tgt := 546) hx hb dL_law_33 (by decide) (by decide) rfl (by decide) ?_
      exact lc_team C hX hbl hbA hin hN S hI hk H locs ls hP hD hS hl
    · subst ek
      refine lv_tableIn (x := nI 17) (off := 536) (tgt := 569) hx hb dL_law_33 (by decide) (by decide) rfl (by decide) ?_
      exact lc_chance C hX hbl hbA hin hN S hI hk H locs ls hP hD hS hl
    · subst ek
      refine lv_tableIn (x := nI 18) (off := 559) (tgt := 592) hx hb dL_law_33 (by decide) (by decide) rfl (by decide) ?_
      exact lc_road C hX hbl hbA hin hN S hI hk H locs ls hP hD hS hl
    · subst ek
      refine lv_tableIn (x := nI 19) (off := 602) (tgt := 635) hx hb dL_law_33 (by decide) (by decide) rfl (by decide) ?_
      exact lc_bar C hX hbl hbA hin hN S hI hk H locs ls hP hD hS hl
    · subst ek
      refine lv_tableIn (x := nI 20) (off := 651) (tgt := 684) hx hb dL_law_33 (by decide) (by decide) rfl (by decide) ?_
      exact lc_shortest C hX hbl hbA hin hN S hI hk H locs ls hP hD hS hl
    · subst ek
      refine lv_tableIn (x := nI 21) (off := 684) (tgt := 717) hx hb dL_law_33 (by decide) (by decide) rfl (by decide) ?_
      exact lc_bars C hX hbl hbA hin hN S hI hk H locs ls hP hD hS hl
    · subst ek
      refine lv_tableIn (x := nI 22) (off := 727) (tgt := 760) hx hb dL_law_33 (by decide) (by decide) rfl (by decide) ?_
      exact lc_post C hX hbl hbA hin hN S hI hk H locs ls hP hD hS hl
    · subst ek
      refine lv_tableIn (x := nI 23) (off := 750) (tgt := 783) hx hb dL_law_33 (by decide) (by decide) rfl (by decide) ?_
      exact lc_every C hX hbl hbA hin hN S hI hk H locs ls hP hD hS hl
    · subst ek
      refine lv_tableIn (x := nI 24) (off := 783) (tgt := 816) hx hb dL_law_33 (by decide) (by decide) rfl (by decide) ?_
      exact lc_visit C hX hbl hbA hin hN S hI hk H locs ls hP hD hS hl
    · subst ek
      refine lv_tableIn (x := nI 25) (off := 806) (tgt := 839) hx hb dL_law_33 (by decide) (by decide) rfl (by decide) ?_
      exact lc_haunt C hX hbl hbA hin hN S hI hk H locs ls hP hD hS hl
    · subst ek
      refine lv_tableIn (x := nI 26) (off := 839) (tgt := 872) hx hb dL_law_33 (by decide) (by decide) rfl (by decide) ?_
      exact lc_caught C hX hbl hbA hin hN S hI hk H locs ls hP hD hS hl
    · subst ek
      refine lv_tableIn (x := nI 27) (off := 862) (tgt := 895) hx hb dL_law_33 (by decide) (by decide) rfl (by decide) ?_
      exact lc_traps C hX hbl hbA hin hN S hI hk H locs ls hP hD hS hl
    · subst ek
      refine lv_tableIn (x := nI 28) (off := 885) (tgt := 918) hx hb dL_law_33 (by decide) (by decide) rfl (by decide) ?_
      exact lc_cover C hX hbl hbA hin hN S hI hk H locs ls hP hD hS hl
    · subst ek
      refine lv_tableIn (x := nI 29) (off := 898) (tgt := 931) hx hb dL_law_33 (by decide) (by decide) rfl (by decide) ?_
      exact lc_sheet C hX hbl hbA hin hN S hI hk H locs ls hP hD hS hl
    · subst ek
      refine lv_tableIn (x := nI 30) (off := 941) (tgt := 974) hx hb dL_law_33 (by decide) (by decide) rfl (by decide) ?_
      exact lc_write C hX hbl hbA hin hN S hI hk H locs ls hP hD hS hl
    · subst ek
      refine lv_tableIn (x := nI 31) (off := 984) (tgt := 1017) hx hb dL_law_33 (by decide) (by decide) rfl (by decide) ?_
      exact lc_handFrom C hX hbl hbA hin hN S hI hk H locs ls hP hD hS hl
    · subst ek
      refine lv_tableIn (x := nI 32) (off := 1027) (tgt := 1060) hx hb dL_law_33 (by decide) (by decide) rfl (by decide) ?_
      exact lc_keep C hX hbl hbA hin hN S hI hk H locs ls hP hD hS hl
    · subst ek
      refine lv_tableIn (x := nI 33) (off := 1040) (tgt := 1073) hx hb dL_law_33 (by decide) (by decide) rfl (by decide) ?_
      exact lc_back C hX hbl hbA hin hN S hI hk H locs ls hP hD hS hl
    · subst ek
      refine lv_tableIn (x := nI 34) (off := 1053) (tgt := 1086) hx hb dL_law_33 (by decide) (by decide) rfl (by decide) ?_
      exact lc_count C hX hbl hbA hin hN S hI hk H locs ls hP hD hS hl
    · refine lv_tableOut (tgt := 1109) hx hb dL_law_33 (.inr ?_) (by decide) ?_
      · rw [nI_toInt (by omega)]; omega
      · exact hk S hI H locs ls hP hD hS hl
end PLP
