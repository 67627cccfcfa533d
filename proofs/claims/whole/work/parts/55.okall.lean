section PWO
theorem okr_s (n lo d : Nat) : okr n lo (d + 1) = cond (okc n (lo + d)) (okr n lo d) false := rfl
theorem okr_of {n lo : Nat} : ∀ {d : Nat}, okr n lo d = true → ∀ i, i < d → okc n (lo + i) = true := by
  intro d
  induction d with
  | zero => intro _ i h; omega
  | succ d ih =>
    intro h i hi
    rw [okr_s] at h
    cases e : okc n (lo + d) with
    | false => rw [e] at h; exact absurd (show false = true from h) (by decide)
    | true =>
      rw [e] at h
      by_cases q : i = d
      · rw [q]; exact e
      · exact ih h i (by omega)
theorem okr_at {n lo d F : Nat} (h : okr n lo d = true) (h1 : lo ≤ F) (h2 : F < lo + d) : okc n F = true := by
  have := okr_of h (F - lo) (by omega)
  rw [show lo + (F - lo) = F by omega] at this
  exact this
theorem okn_1 (F : Nat) (h : F < 8) : okc 1 F = true :=
  have l0 : 0 ≤ F := Nat.zero_le F
  (Nat.lt_or_ge F 8).elim (fun c => okr_at okr_1_0 l0 c) (fun l1 =>
  absurd h (Nat.not_lt.2 l1))
theorem okn_2 (F : Nat) (h : F < 64) : okc 2 F = true :=
  have l0 : 0 ≤ F := Nat.zero_le F
  (Nat.lt_or_ge F 64).elim (fun c => okr_at okr_2_0 l0 c) (fun l1 =>
  absurd h (Nat.not_lt.2 l1))
theorem okn_3 (F : Nat) (h : F < 512) : okc 3 F = true :=
  have l0 : 0 ≤ F := Nat.zero_le F
  (Nat.lt_or_ge F 512).elim (fun c => okr_at okr_3_0 l0 c) (fun l1 =>
  absurd h (Nat.not_lt.2 l1))
theorem okn_4 (F : Nat) (h : F < 4096) : okc 4 F = true :=
  have l0 : 0 ≤ F := Nat.zero_le F
  (Nat.lt_or_ge F 1024).elim (fun c => okr_at okr_4_0 l0 c) (fun l1 =>
  (Nat.lt_or_ge F 1903).elim (fun c => okr_at okr_4_1024 l1 c) (fun l2 =>
  (Nat.lt_or_ge F 2454).elim (fun c => okr_at okr_4_1903 l2 c) (fun l3 =>
  (Nat.lt_or_ge F 2878).elim (fun c => okr_at okr_4_2454 l3 c) (fun l4 =>
  (Nat.lt_or_ge F 3263).elim (fun c => okr_at okr_4_2878 l4 c) (fun l5 =>
  (Nat.lt_or_ge F 3548).elim (fun c => okr_at okr_4_3263 l5 c) (fun l6 =>
  (Nat.lt_or_ge F 3923).elim (fun c => okr_at okr_4_3548 l6 c) (fun l7 =>
  (Nat.lt_or_ge F 4096).elim (fun c => okr_at okr_4_3923 l7 c) (fun l8 =>
  absurd h (Nat.not_lt.2 l8)))))))))
theorem okn_5 (F : Nat) (h : F < 32768) : okc 5 F = true :=
  have l0 : 0 ≤ F := Nat.zero_le F
  (Nat.lt_or_ge F 1024).elim (fun c => okr_at okr_5_0 l0 c) (fun l1 =>
  (Nat.lt_or_ge F 2048).elim (fun c => okr_at okr_5_1024 l1 c) (fun l2 =>
  (Nat.lt_or_ge F 3072).elim (fun c => okr_at okr_5_2048 l2 c) (fun l3 =>
  (Nat.lt_or_ge F 4096).elim (fun c => okr_at okr_5_3072 l3 c) (fun l4 =>
  (Nat.lt_or_ge F 5120).elim (fun c => okr_at okr_5_4096 l4 c) (fun l5 =>
  (Nat.lt_or_ge F 6144).elim (fun c => okr_at okr_5_5120 l5 c) (fun l6 =>
  (Nat.lt_or_ge F 7168).elim (fun c => okr_at okr_5_6144 l6 c) (fun l7 =>
  (Nat.lt_or_ge F 8192).elim (fun c => okr_at okr_5_7168 l7 c) (fun l8 =>
  (Nat.lt_or_ge F 9216).elim (fun c => okr_at okr_5_8192 l8 c) (fun l9 =>
  (Nat.lt_or_ge F 10240).elim (fun c => okr_at okr_5_9216 l9 c) (fun l10 =>
  (Nat.lt_or_ge F 11264).elim (fun c => okr_at okr_5_10240 l10 c) (fun l11 =>
  (Nat.lt_or_ge F 12222).elim (fun c => okr_at okr_5_11264 l11 c) (fun l12 =>
  (Nat.lt_or_ge F 13246).elim (fun c => okr_at okr_5_12222 l12 c) (fun l13 =>
  (Nat.lt_or_ge F 14270).elim (fun c => okr_at okr_5_13246 l13 c) (fun l14 =>
  (Nat.lt_or_ge F 14780).elim (fun c => okr_at okr_5_14270 l14 c) (fun l15 =>
  (Nat.lt_or_ge F 15212).elim (fun c => okr_at okr_5_14780 l15 c) (fun l16 =>
  (Nat.lt_or_ge F 15597).elim (fun c => okr_at okr_5_15212 l16 c) (fun l17 =>
  (Nat.lt_or_ge F 15773).elim (fun c => okr_at okr_5_15597 l17 c) (fun l18 =>
  (Nat.lt_or_ge F 16117).elim (fun c => okr_at okr_5_15773 l18 c) (fun l19 =>
  (Nat.lt_or_ge F 16293).elim (fun c => okr_at okr_5_16117 l19 c) (fun l20 =>
  (Nat.lt_or_ge F 16382).elim (fun c => okr_at okr_5_16293 l20 c) (fun l21 =>
  (Nat.lt_or_ge F 17406).elim (fun c => okr_at okr_5_16382 l21 c) (fun l22 =>
  (Nat.lt_or_ge F 18407).elim (fun c => okr_at okr_5_17406 l22 c) (fun l23 =>
  (Nat.lt_or_ge F 18939).elim (fun c => okr_at okr_5_18407 l23 c) (fun l24 =>
  (Nat.lt_or_ge F 19323).elim (fun c => okr_at okr_5_18939 l24 c) (fun l25 =>
  (Nat.lt_or_ge F 19445).elim (fun c => okr_at okr_5_19323 l25 c) (fun l26 =>
  (Nat.lt_or_ge F 19812).elim (fun c => okr_at okr_5_19445 l26 c) (fun l27 =>
  (Nat.lt_or_ge F 19942).elim (fun c => okr_at okr_5_19812 l27 c) (fun l28 =>
  (Nat.lt_or_ge F 20275).elim (fun c => okr_at okr_5_19942 l28 c) (fun l29 =>
  (Nat.lt_or_ge F 20390).elim (fun c => okr_at okr_5_20275 l29 c) (fun l30 =>
  (Nat.lt_or_ge F 20952).elim (fun c => okr_at okr_5_20390 l30 c) (fun l31 =>
  (Nat.lt_or_ge F 21976).elim (fun c => okr_at okr_5_20952 l31 c) (fun l32 =>
  (Nat.lt_or_ge F 22437).elim (fun c => okr_at okr_5_21976 l32 c) (fun l33 =>
  (Nat.lt_or_ge F 22823).elim (fun c => okr_at okr_5_22437 l33 c) (fun l34 =>
  (Nat.lt_or_ge F 22963).elim (fun c => okr_at okr_5_22823 l34 c) (fun l35 =>
  (Nat.lt_or_ge F 23038).elim (fun c => okr_at okr_5_22963 l35 c) (fun l36 =>
  (Nat.lt_or_ge F 23381).elim (fun c => okr_at okr_5_23038 l36 c) (fun l37 =>
  (Nat.lt_or_ge F 23509).elim (fun c => okr_at okr_5_23381 l37 c) (fun l38 =>
  (Nat.lt_or_ge F 23837).elim (fun c => okr_at okr_5_23509 l38 c) (fun l39 =>
  (Nat.lt_or_ge F 23930).elim (fun c => okr_at okr_5_23837 l39 c) (fun l40 =>
  (Nat.lt_or_ge F 24028).elim (fun c => okr_at okr_5_23930 l40 c) (fun l41 =>
  (Nat.lt_or_ge F 24299).elim (fun c => okr_at okr_5_24028 l41 c) (fun l42 =>
  (Nat.lt_or_ge F 24419).elim (fun c => okr_at okr_5_24299 l42 c) (fun l43 =>
  (Nat.lt_or_ge F 24507).elim (fun c => okr_at okr_5_24419 l43 c) (fun l44 =>
  (Nat.lt_or_ge F 25531).elim (fun c => okr_at okr_5_24507 l44 c) (fun l45 =>
  (Nat.lt_or_ge F 26422).elim (fun c => okr_at okr_5_25531 l45 c) (fun l46 =>
  (Nat.lt_or_ge F 26559).elim (fun c => okr_at okr_5_26422 l46 c) (fun l47 =>
  (Nat.lt_or_ge F 26919).elim (fun c => okr_at okr_5_26559 l47 c) (fun l48 =>
  (Nat.lt_or_ge F 27095).elim (fun c => okr_at okr_5_26919 l48 c) (fun l49 =>
  (Nat.lt_or_ge F 27375).elim (fun c => okr_at okr_5_27095 l49 c) (fun l50 =>
  (Nat.lt_or_ge F 27455).elim (fun c => okr_at okr_5_27375 l50 c) (fun l51 =>
  (Nat.lt_or_ge F 27571).elim (fun c => okr_at okr_5_27455 l51 c) (fun l52 =>
  (Nat.lt_or_ge F 27635).elim (fun c => okr_at okr_5_27571 l52 c) (fun l53 =>
  (Nat.lt_or_ge F 27947).elim (fun c => okr_at okr_5_27635 l53 c) (fun l54 =>
  (Nat.lt_or_ge F 28071).elim (fun c => okr_at okr_5_27947 l54 c) (fun l55 =>
  (Nat.lt_or_ge F 28342).elim (fun c => okr_at okr_5_28071 l55 c) (fun l56 =>
  (Nat.lt_or_ge F 28453).elim (fun c => okr_at okr_5_28342 l56 c) (fun l57 =>
  (Nat.lt_or_ge F 28530).elim (fun c => okr_at okr_5_28453 l57 c) (fun l58 =>
  (Nat.lt_or_ge F 28628).elim (fun c => okr_at okr_5_28530 l58 c) (fun l59 =>
  (Nat.lt_or_ge F 28670).elim (fun c => okr_at okr_5_28628 l59 c) (fun l60 =>
  (Nat.lt_or_ge F 29694).elim (fun c => okr_at okr_5_28670 l60 c) (fun l61 =>
  (Nat.lt_or_ge F 30459).elim (fun c => okr_at okr_5_29694 l61 c) (fun l62 =>
  (Nat.lt_or_ge F 30629).elim (fun c => okr_at okr_5_30459 l62 c) (fun l63 =>
  (Nat.lt_or_ge F 30717).elim (fun c => okr_at okr_5_30629 l63 c) (fun l64 =>
  (Nat.lt_or_ge F 31076).elim (fun c => okr_at okr_5_30717 l64 c) (fun l65 =>
  (Nat.lt_or_ge F 31151).elim (fun c => okr_at okr_5_31076 l65 c) (fun l66 =>
  (Nat.lt_or_ge F 31407).elim (fun c => okr_at okr_5_31151 l66 c) (fun l67 =>
  (Nat.lt_or_ge F 31580).elim (fun c => okr_at okr_5_31407 l67 c) (fun l68 =>
  (Nat.lt_or_ge F 31663).elim (fun c => okr_at okr_5_31580 l68 c) (fun l69 =>
  (Nat.lt_or_ge F 31925).elim (fun c => okr_at okr_5_31663 l69 c) (fun l70 =>
  (Nat.lt_or_ge F 32029).elim (fun c => okr_at okr_5_31925 l70 c) (fun l71 =>
  (Nat.lt_or_ge F 32085).elim (fun c => okr_at okr_5_32029 l71 c) (fun l72 =>
  (Nat.lt_or_ge F 32125).elim (fun c => okr_at okr_5_32085 l72 c) (fun l73 =>
  (Nat.lt_or_ge F 32221).elim (fun c => okr_at okr_5_32125 l73 c) (fun l74 =>
  (Nat.lt_or_ge F 32438).elim (fun c => okr_at okr_5_32221 l74 c) (fun l75 =>
  (Nat.lt_or_ge F 32555).elim (fun c => okr_at okr_5_32438 l75 c) (fun l76 =>
  (Nat.lt_or_ge F 32675).elim (fun c => okr_at okr_5_32555 l76 c) (fun l77 =>
  (Nat.lt_or_ge F 32746).elim (fun c => okr_at okr_5_32675 l77 c) (fun l78 =>
  (Nat.lt_or_ge F 32768).elim (fun c => okr_at okr_5_32746 l78 c) (fun l79 =>
  absurd h (Nat.not_lt.2 l79))))))))))))))))))))))))))))))))))))))))))))))))))))))))))))))))))))))))))))))))
theorem okc_all {n F : Nat} (h0 : 0 < n) (h5 : n ≤ 5) (hF : F < 8 ^ n) : okc n F = true := by
  rcases (by omega : n = 1 ∨ n = 2 ∨ n = 3 ∨ n = 4 ∨ n = 5) with rfl | rfl | rfl | rfl | rfl
  · exact okn_1 F hF
  · exact okn_2 F hF
  · exact okn_3 F hF
  · exact okn_4 F hF
  · exact okn_5 F hF
theorem WGoA {n F : Nat} (h0 : 0 < n) (h5 : n ≤ 5) (hF : F < 8 ^ n) : ∃ k, k ≤ 300000 ∧ WGo n F k (w0 F) := WGo0 h5 hF (okc_all h0 h5 hF)
end PWO
