/-! ===== sheets ===== -/
section PSh
def rowN (n0 n1 n2 n3 : Nat → Int32) (s : Nat) : Nat → Int32 := if s = 0 then n0 else if s = 1 then n1 else if s = 2 then n2 else n3
/-- the sheets -/
def SR (sort size n0 n1 n2 n3 sortOf sizeOf sheets : Nat → Int32) : Prop :=
  ∀ s, s < 4 → ((size s = -1 ∧ sortOf s = -1) ∨ ∃ k m : Nat, k < 3 ∧ m ≤ 40 ∧ sort s = nI k ∧ sortOf s = nI k ∧ size s = nI m ∧ sizeOf s = nI m) ∧ ∀ i, i < 40 → rowN n0 n1 n2 n3 s i = sheets (40 * s + i)
def fillF (f : Nat → Int32) (v : Int32) (k : Nat) : Nat → Int32 := fun j => if j < k then v else f j
theorem fillF_s (f : Nat → Int32) (v : Int32) (k : Nat) : upd (fillF f v k) k v = fillF f v (k + 1) := by
  funext j
  unfold upd fillF
  by_cases h : j = k
  · rw [if_pos h, if_pos (by omega)]
  · rw [if_neg h]
    by_cases h2 : j < k
    · rw [if_pos h2, if_pos (by omega)]
    · rw [if_neg h2, if_neg (by omega)]
theorem fillF_0 (f : Nat → Int32) (v : Int32) : fillF f v 0 = f := by
  funext j
  unfold fillF
  rw [if_neg (by omega)]
theorem fill_go (N n : Nat) (f : Nat → Int32) (v : Int32) (hn : n < 2 ^ 30) : ∀ (d k m : Nat), k + d = n → d < m → f_J7_fill_53178_b5 N n v (nI n) m (fillF f v k) (nI k) = some (fillF f v n) := by
  intro d
  induction d with
  | zero =>
    intro k m h2 hm
    obtain ⟨m, rfl⟩ : ∃ z, m = z + 1 := ⟨m - 1, by omega⟩
    rw [f_J7_fill_53178_b5_s]
    unfold g_J7_fill_53178_b5
    rw [if_pos ((nI_leI (by omega) (by omega)).mpr (by omega)), show k = n by omega]
  | succ d ih =>
    intro k m h2 hm
    obtain ⟨m, rfl⟩ : ∃ z, m = z + 1 := ⟨m - 1, by omega⟩
    rw [f_J7_fill_53178_b5_s]
    unfold g_J7_fill_53178_b5
    rw [if_neg (fun q => absurd ((nI_leI (by omega) (by omega)).mp q) (by omega)), gI_n (by omega) (by omega), cl_n (by omega), nI_1, fillF_s]
    exact ih (k + 1) m (by omega) (by omega)
theorem fill_eq {N n : Nat} (hn : n < 2 ^ 30) (hN : n < N) (f : Nat → Int32) (v : Int32) : f_J7_fill_53178 N n f v = some (fillF f v n) := by
  unfold f_J7_fill_53178
  have h := fill_go N n f v hn n 0 N (by omega) hN
  rw [fillF_0] at h
  exact h
theorem narrow8 (x : Int32) : (x <<< ((24 : Int32) &&& 31)) >>> ((24 : Int32) &&& 31) = x.toInt8.toInt32 := by
  apply b_ext
  intro i hi
  rw [show (24 : Int32) = nI 24 from rfl, b_sshr 24 (by omega) _ hi]
  have e : bt (x.toInt8.toInt32) i = if i < 8 then bt x i else bt x 7 := by
    unfold bt
    rw [Int8.toBitVec_toInt32, Int32.toBitVec_toInt8, BitVec.getLsbD_signExtend, decide_eq_true hi, Bool.true_and]
    by_cases h : i < 8
    · rw [if_pos h, if_pos h, BitVec.getLsbD_signExtend, decide_eq_true h, if_pos hi, Bool.true_and]
    · rw [if_neg h, if_neg h, BitVec.msb_eq_getLsbD_last, BitVec.getLsbD_signExtend, if_pos (by omega)]
      simp
  rw [e]
  by_cases h : i < 8
  · rw [if_pos (by omega), if_pos h, b_shl 24 (by omega) x (by omega), decide_eq_true (by omega), Bool.true_and, show 24 + i - 24 = i by omega]
  · rw [if_neg (by omega), if_neg h, b_shl 24 (by omega) x (by omega), decide_eq_true (by omega), Bool.true_and]
theorem narrow16 (x : Int32) : (x <<< ((16 : Int32) &&& 31)) >>> ((16 : Int32) &&& 31) = x.toInt16.toInt32 := by
  apply b_ext
  intro i hi
  rw [show (16 : Int32) = nI 16 from rfl, b_sshr 16 (by omega) _ hi]
  have e : bt (x.toInt16.toInt32) i = if i < 16 then bt x i else bt x 15 := by
    unfold bt
    rw [Int16.toBitVec_toInt32, Int32.toBitVec_toInt16, BitVec.getLsbD_signExtend, decide_eq_true hi, Bool.true_and]
    by_cases h : i < 16
    · rw [if_pos h, if_pos h, BitVec.getLsbD_signExtend, decide_eq_true h, if_pos hi, Bool.true_and]
    · rw [if_neg h, if_neg h, BitVec.msb_eq_getLsbD_last, BitVec.getLsbD_signExtend, if_pos (by omega)]
      simp
  rw [e]
  by_cases h : i < 16
  · rw [if_pos (by omega), if_pos h, b_shl 16 (by omega) x (by omega), decide_eq_true (by omega), Bool.true_and, show 16 + i - 16 = i by omega]
  · rw [if_neg (by omega), if_neg h, b_shl 16 (by omega) x (by omega), decide_eq_true (by omega), Bool.true_and]
theorem narrow0 (x : Int32) : (x <<< ((0 : Int32) &&& 31)) >>> ((0 : Int32) &&& 31) = x := by
  rw [sb_shl0, sb_shr0]
variable {sort size n0 n1 n2 n3 sortOf sizeOf sheets : Nat → Int32}
/-- one row gets another function, sort and size stay or change with it -/
theorem rowN_set (R : (Nat → Int32) → Nat → Int32) {s : Nat} (hs : s < 4) (t : Nat) (ht : t < 4) : rowN (if s = 0 then R n0 else n0) (if s = 1 then R n1 else n1) (if s = 2 then R n2 else n2) (if s = 3 then R n3 else n3) t = if t = s then R (rowN n0 n1 n2 n3 s) else rowN n0 n1 n2 n3 t := by
  unfold rowN
  match s, hs, t, ht with
  | 0, _, 0, _ => rfl
  | 0, _, 1, _ => rfl
  | 0, _, 2, _ => rfl
  | 0, _, 3, _ => rfl
  | 1, _, 0, _ => rfl
  | 1, _, 1, _ => rfl
  | 1, _, 2, _ => rfl
  | 1, _, 3, _ => rfl
  | 2, _, 0, _ => rfl
  | 2, _, 1, _ => rfl
  | 2, _, 2, _ => rfl
  | 2, _, 3, _ => rfl
  | 3, _, 0, _ => rfl
  | 3, _, 1, _ => rfl
  | 3, _, 2, _ => rfl
  | 3, _, 3, _ => rfl
theorem renew_eq {N : Nat} (hN : 40 < N) {s : Nat} (hs : s < 4) (p2 p3 : Int32) : f_X7_renew N sort size n0 n1 n2 n3 (nI s) p2 p3 = some (upd sort s p2, upd size s p3, (if s = 0 then fillF n0 0 40 else n0), (if s = 1 then fillF n1 0 40 else n1), (if s = 2 then fillF n2 0 40 else n2), (if s = 3 then fillF n3 0 40 else n3)) := by
  unfold f_X7_renew
  rw [gI_n hs (by decide), gI_n hs (by decide), gI_n hs (by decide), cl_n (by omega), fill_eq (by omega) hN, fill_eq (by omega) hN, fill_eq (by omega) hN, fill_eq (by omega) hN]
  match s, hs with
  | 0, _ => rfl
  | 1, _ => rfl
  | 2, _ => rfl
  | 3, _ => rfl
theorem replace_eq {s i : Nat} (hs : s < 4) (hi : i < 40) (p3 : Int32) : f_X7_replace sort n0 n1 n2 n3 (nI s) (nI i) p3 = some (rowN n0 n1 n2 n3 s i, (if s = 0 then upd n0 i (f_X7_narrowed p3 (sort s)) else n0), (if s = 1 then upd n1 i (f_X7_narrowed p3 (sort s)) else n1), (if s = 2 then upd n2 i (f_X7_narrowed p3 (sort s)) else n2), (if s = 3 then upd n3 i (f_X7_narrowed p3 (sort s)) else n3)) := by
  unfold f_X7_replace
  simp only [gI_n hs (by decide), gI_n hi (by decide), cl_n (show s < 2 ^ 31 by omega), cl_n (show i < 2 ^ 31 by omega)]
  match s, hs with
  | 0, _ => rfl
  | 1, _ => rfl
  | 2, _ => rfl
  | 3, _ => rfl
def zeroF (f : Nat → Int32) (b k : Nat) : Nat → Int32 := fun j => if b ≤ j ∧ j < b + k then 0 else f j
theorem zeroF_s (f : Nat → Int32) (b k : Nat) : upd (zeroF f b k) (b + k) 0 = zeroF f b (k + 1) := by
  funext j
  unfold upd zeroF
  by_cases h : j = b + k
  · rw [if_pos h, if_pos (by omega)]
  · rw [if_neg h]
    by_cases h2 : b ≤ j ∧ j < b + k
    · rw [if_pos h2, if_pos (by omega)]
    · rw [if_neg h2, if_neg (by omega)]
theorem zeroF_0 (f : Nat → Int32) (b : Nat) : zeroF f b 0 = f := by
  funext j
  unfold zeroF
  rw [if_neg (by omega)]
theorem ix40 (s i : Nat) : ((40 : Int32) * nI s) + nI i = nI (40 * s + i) := by
  rw [show (40 : Int32) = nI 40 from rfl, pk_mul, nI_add]
theorem sheet_go (N : Nat) (x v3 : Int32) {s : Nat} (hs : s < 4) : ∀ (d k m : Nat), k + d = 40 → d < m → f_X11_sheet_b53 N x sortOf sizeOf (nI s) v3 m (zeroF sheets (40 * s) k) (nI k) = some (v3, x, sortOf, sizeOf, zeroF sheets (40 * s) 40) := by
  intro d
  induction d with
  | zero =>
    intro k m h2 hm
    obtain ⟨m, rfl⟩ : ∃ z, m = z + 1 := ⟨m - 1, by omega⟩
    rw [f_X11_sheet_b53_s]
    unfold g_X11_sheet_b53
    rw [if_pos ((nI_leC (k := 40) (a := 40) rfl (by omega) (by omega)).mpr (by omega)), show k = 40 by omega]
  | succ d ih =>
    intro k m h2 hm
    obtain ⟨m, rfl⟩ : ∃ z, m = z + 1 := ⟨m - 1, by omega⟩
    rw [f_X11_sheet_b53_s]
    unfold g_X11_sheet_b53
    rw [if_neg (fun q => absurd ((nI_leC (k := 40) (a := 40) rfl (by omega) (by omega)).mp q) (by omega)), ix40, gI_n (by omega) (by omega), cl_n (by omega), nI_1, zeroF_s]
    exact ih (k + 1) m (by omega) (by omega)
theorem sheetP_eq (p : Int32) : f_X11_isSheet p = f_X10_isSheet p := rfl
theorem sheetP_cases (p : Int32) : (f_X10_isSheet p = 1 ∧ ∃ s, s < 4 ∧ p = nI s) ∨ f_X10_isSheet p = 0 := by
  unfold f_X10_isSheet
  rcases from_nat p 0 3 (by omega) (by omega) with ⟨h, i, -, h2, rfl⟩ | h
  · exact Or.inl ⟨h, i, by omega, rfl⟩
  · exact Or.inr h
theorem sortP_cases (p : Int32) : (f_X10_isSort p = 1 ∧ f_X10_isFrom p 0 2 = 1 ∧ ∃ k, k < 3 ∧ p = nI k) ∨ (f_X10_isSort p = 0 ∧ f_X10_isFrom p 0 2 = 0) := by
  unfold f_X10_isSort
  rcases from_nat p 0 2 (by omega) (by omega) with ⟨h, i, -, h2, rfl⟩ | h
  · exact Or.inl ⟨h, h, i, by omega, rfl⟩
  · exact Or.inr ⟨h, h⟩
theorem po_sheet (hS : SR sort size n0 n1 n2 n3 sortOf sizeOf sheets) {N : Nat} (hN : 100 ≤ N) (x p1 p2 p3 : Int32) :
    ∃ (r x' : Int32) (sort' size' m0 m1 m2 m3 sortOf' sizeOf' sheets' : Nat → Int32), f_X10_sheet N x sort size n0 n1 n2 n3 p1 p2 p3 = some (r, x', sort', size', m0, m1, m2, m3) ∧ f_X11_sheet N x sortOf sizeOf sheets p1 p2 p3 = some (r, x', sortOf', sizeOf', sheets') ∧ SR sort' size' m0 m1 m2 m3 sortOf' sizeOf' sheets' := by
  unfold f_X10_sheet f_X11_sheet f_X10_hostFinding f_X11_found
  simp only [within_eq, sheetP_eq]
  rcases sheetP_cases p1 with ⟨h1, s, hs, rfl⟩ | h1
  rotate_left
  · simp only [h1, if_true]
    exact ⟨_, _, _, _, _, _, _, _, _, _, _, rfl, rfl, hS⟩
  rcases sortP_cases p2 with ⟨h2, h2', k, hk, rfl⟩ | ⟨h2, h2'⟩
  rotate_left
  · simp only [h1, h2, h2', i10f, if_true, if_false]
    exact ⟨_, _, _, _, _, _, _, _, _, _, _, rfl, rfl, hS⟩
  simp only [h1, h2, h2', i10f, if_false]
  by_cases h40 : p3 ≤ 40
  rotate_left
  · simp only [h40, if_false]
    exact ⟨_, _, _, _, _, _, _, _, _, _, _, rfl, rfl, hS⟩
  by_cases h00 : 0 ≤ p3
  rotate_left
  · simp only [h40, h00, if_true, if_false]
    exact ⟨_, _, _, _, _, _, _, _, _, _, _, rfl, rfl, hS⟩
  simp only [h40, h00, if_true]
  rw [Int32.le_iff_toInt_le] at h40 h00
  have l40 : (40 : Int32).toInt = 40 := rfl
  rw [i0] at h00
  obtain ⟨m, hm, rfl⟩ := nI_of_toInt (x := p3) (n := 41) h00 (by omega)
  rw [renew_eq (by omega) hs, bd_s, gI_n hs (by decide), gI_n hs (by decide), cl_n (by omega)]
  have hg := sheet_go (sortOf := upd sortOf s (nI k)) (sizeOf := upd sizeOf s (nI m)) (sheets := sheets) N x (nI m) hs 40 0 N (by omega) (by omega)
  rw [zeroF_0] at hg
  refine ⟨_, _, _, _, _, _, _, _, _, _, _, rfl, hg, ?_⟩
  intro t ht
  obtain ⟨q1, q2⟩ := hS t ht
  dsimp only
  rw [rowN_set (fun f => fillF f 0 40) hs t ht]
  by_cases z : t = s
  · subst z
    refine ⟨Or.inr ⟨k, m, hk, by omega, upd_s, upd_s, upd_s, upd_s⟩, fun i hi => ?_⟩
    rw [if_pos rfl]
    unfold fillF zeroF
    rw [if_pos hi, if_pos (by omega)]
  · refine ⟨?_, fun i hi => ?_⟩
    · rw [upd_n z, upd_n z, upd_n z, upd_n z]; exact q1
    · rw [if_neg z, q2 i hi]
      unfold zeroF
      rw [if_neg (by omega)]
theorem missing_eq {s : Nat} (hs : s < 4) : f_X7_isMissing size (nI s) = if 0 ≤ size s then some 0 else some 1 := by
  unfold f_X7_isMissing
  rw [gI_n hs (by decide), cl_n (by omega)]
theorem po_write (hS : SR sort size n0 n1 n2 n3 sortOf sizeOf sheets) (x p1 p2 p3 : Int32) :
    ∃ (r x' : Int32) (m0 m1 m2 m3 sheets' : Nat → Int32), f_X10_write x sort size n0 n1 n2 n3 p1 p2 p3 = some (r, x', m0, m1, m2, m3) ∧ f_X11_write x sortOf sizeOf sheets p1 p2 p3 = some (r, x', sheets') ∧ SR sort size m0 m1 m2 m3 sortOf sizeOf sheets' := by
  unfold f_X10_write f_X11_write f_X10_hostFinding f_X11_found
  simp only [within_eq, sheetP_eq]
  rcases sheetP_cases p1 with ⟨h1, s, hs, rfl⟩ | h1
  rotate_left
  · simp only [h1, if_true]
    exact ⟨_, _, _, _, _, _, _, rfl, rfl, hS⟩
  simp only [h1, i10f, if_false, missing_eq hs, gI_n hs (by decide), cl_n (show s < 2 ^ 31 by omega)]
  obtain ⟨q1, q2⟩ := hS s hs
  rcases q1 with ⟨a1, a2⟩ | ⟨k, m, hk, hm, a1, a2, a3, a4⟩
  · have e1 : ¬ (0 : Int32) ≤ -1 := by decide
    simp only [a1, a2, e1, if_false, bd_s, i10f]
    exact ⟨_, _, _, _, _, _, _, rfl, rfl, hS⟩
  · have e1 : (0 : Int32) ≤ nI m := nI_pos' (by omega)
    have e2 : (0 : Int32) ≤ nI k := nI_pos' (by omega)
    simp only [a2, a3, a4, e1, e2, if_true, bd_s]
    rcases has_cases p2 (n := m) (by omega) with ⟨h2, i, hi, rfl⟩ | h2
    rotate_left
    · simp only [h2, if_true]
      exact ⟨_, _, _, _, _, _, _, rfl, rfl, hS⟩
    simp only [h2, i10f, if_false, replace_eq hs (show i < 40 by omega), bd_s, ix40, gI_n (show 40 * s + i < 160 by omega) (by decide), cl_n (show 40 * s + i < 2 ^ 31 by omega)]
    have fin : ∀ v : Int32, f_X7_narrowed p3 (sort s) = v → SR sort size (if s = 0 then upd n0 i (f_X7_narrowed p3 (sort s)) else n0) (if s = 1 then upd n1 i (f_X7_narrowed p3 (sort s)) else n1) (if s = 2 then upd n2 i (f_X7_narrowed p3 (sort s)) else n2) (if s = 3 then upd n3 i (f_X7_narrowed p3 (sort s)) else n3) sortOf sizeOf (upd sheets (40 * s + i) v) := by
      intro v hv t ht
      obtain ⟨w1, w2⟩ := hS t ht
      refine ⟨w1, fun j hj => ?_⟩
      rw [rowN_set (fun f => upd f i (f_X7_narrowed p3 (sort s))) hs t ht]
      by_cases z : t = s
      · subst z
        rw [if_pos rfl]
        by_cases zj : j = i
        · subst zj; rw [upd_s, upd_s, hv]
        · rw [upd_n zj, upd_n (by omega)]; exact q2 j hj
      · rw [if_neg z, upd_n (by omega)]; exact w2 j hj
    unfold f_X11_write_b92
    simp only [ix40, gI_n (show 40 * s + i < 160 by omega) (by decide), cl_n (show 40 * s + i < 2 ^ 31 by omega)]
    have hrow := q2 i (by omega)
    match k, hk with
    | 0, _ =>
      have k0 : nI 0 = (0 : Int32) := rfl
      simp only [k0, if_true]
      refine ⟨_, _, _, _, _, _, _, rfl, ?_, fin p3.toInt8.toInt32 (by unfold f_X7_narrowed; rw [a1] <;> rfl)⟩
      rw [narrow8, hrow]
    | 1, _ =>
      have k0 : ¬ nI 1 = (0 : Int32) := by decide
      have k1 : nI 1 = (1 : Int32) := rfl
      simp only [k0, if_false]
      simp only [k1, if_true]
      refine ⟨_, _, _, _, _, _, _, rfl, ?_, fin p3.toInt16.toInt32 (by unfold f_X7_narrowed; rw [a1] <;> rfl)⟩
      rw [narrow16, hrow]
    | 2, _ =>
      have k0 : ¬ nI 2 = (0 : Int32) := by decide
      have k1 : ¬ nI 2 = (1 : Int32) := by decide
      simp only [k0, k1, if_false]
      refine ⟨_, _, _, _, _, _, _, rfl, ?_, fin p3 (by unfold f_X7_narrowed; rw [a1] <;> rfl)⟩
      rw [narrow0, hrow]
end PSh
