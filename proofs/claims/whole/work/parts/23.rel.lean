/-! ===== what the class's rows and the reference's have in common ===== -/
section PR
def TOK (g : Nat → Int32) (t : Nat) : Prop :=
  (0 ≤ (g (5 + t)).toInt ∧ (g (5 + t)).toInt ≤ 3) ∧ (-60 ≤ (g (15 + t)).toInt ∧ (g (15 + t)).toInt ≤ 60) ∧ (-60 ≤ (g (25 + t)).toInt ∧ (g (25 + t)).toInt ≤ (g (15 + t)).toInt) ∧ (-60 ≤ (g (35 + t)).toInt ∧ (g (35 + t)).toInt ≤ 60) ∧ (1 ≤ (g (45 + t)).toInt ∧ (g (45 + t)).toInt ≤ 60 ∧ 60 % (g (45 + t)).toInt = 0) ∧ (0 ≤ (g (55 + t)).toInt ∧ (g (55 + t)).toInt ≤ (g (65 + t)).toInt ∧ (g (65 + t)).toInt ≤ 60) ∧ (0 ≤ (g (75 + t)).toInt ∧ (g (75 + t)).toInt ≤ 60)
def TE (kind saved lost gain gap least most hand g : Nat → Int32) : Prop :=
  ∀ t, t < 10 → kind t = g (5 + t) ∧ saved t = g (15 + t) ∧ lost t = g (25 + t) ∧ gain t = g (35 + t) ∧ gap t = g (45 + t) ∧ least t = g (55 + t) ∧ most t = g (65 + t) ∧ hand t = g (75 + t)
/-- the targets -/
def TR (n u : Nat) (kind saved lost gain gap least most hand g : Nat → Int32) : Prop :=
  n ≤ 10 ∧ u ≤ 10 ∧ g 0 = nI n ∧ g 1 = nI u ∧ TE kind saved lost gain gap least most hand g ∧ ∀ t, t < n → TOK g t
def bitI (b r : Nat) : Int32 := if b.testBit r then 1 else 0
/-- the roads -/
def RR (n : Nat) (bar : Int32) (fr to len g : Nat → Int32) : Prop :=
  n ≤ 16 ∧ g 2 = nI n ∧ (∀ r, r < 16 → fr r = g (85 + r) ∧ to r = g (101 + r) ∧ len r = g (117 + r)) ∧ (∃ b : Nat, b < 65536 ∧ bar = nI b ∧ (∀ r, r < 16 → g (133 + r) = bitI b r) ∧ ∀ r, n ≤ r → b.testBit r = false) ∧
  ∀ r, r < n → (∃ i, i < 10 ∧ g (85 + r) = nI i) ∧ (∃ i, i < 10 ∧ g (101 + r) = nI i) ∧ ∃ w, 1 ≤ w ∧ w ≤ 100 ∧ g (117 + r) = nI w
/-- the posts -/
def PR (n : Nat) (ev g : Nat → Int32) : Prop := n ≤ 5 ∧ g 3 = nI n ∧ (∀ p, p < 5 → ev p = g (149 + p)) ∧ ∀ p, p < n → ∃ e, 1 ≤ e ∧ e ≤ 8 ∧ g (149 + p) = nI e
/-- the haunts -/
def HR (n : Nat) (pl we g : Nat → Int32) : Prop := n ≤ 20 ∧ g 4 = nI n ∧ (∀ h, h < 20 → pl h = g (154 + h) ∧ we h = g (174 + h)) ∧ ∀ h, h < n → (∃ a, 1 ≤ a ∧ a ≤ 1023 ∧ g (154 + h) = nI a) ∧ ∃ w, 1 ≤ w ∧ w ≤ 1000 ∧ g (174 + h) = nI w
theorem TOK_congr {g g' : Nat → Int32} {t : Nat} (h : ∀ i, 5 ≤ i → i < 85 → g' i = g i) (ht : t < 10) (hT : TOK g t) : TOK g' t := by
  unfold TOK at *
  rw [h (5 + t) (by omega) (by omega), h (15 + t) (by omega) (by omega), h (25 + t) (by omega) (by omega), h (35 + t) (by omega) (by omega), h (45 + t) (by omega) (by omega), h (55 + t) (by omega) (by omega), h (65 + t) (by omega) (by omega), h (75 + t) (by omega) (by omega)]
  exact hT
theorem TR_congr {n u : Nat} {kind saved lost gain gap least most hand g g' : Nat → Int32} (h0 : g' 0 = g 0) (h1 : g' 1 = g 1) (h : ∀ i, 5 ≤ i → i < 85 → g' i = g i) (hT : TR n u kind saved lost gain gap least most hand g) : TR n u kind saved lost gain gap least most hand g' := by
  obtain ⟨a, b, c, d, e, f⟩ := hT
  refine ⟨a, b, h0.trans c, h1.trans d, fun t ht => ?_, fun t ht => TOK_congr h (by omega) (f t ht)⟩
  rw [h (5 + t) (by omega) (by omega), h (15 + t) (by omega) (by omega), h (25 + t) (by omega) (by omega), h (35 + t) (by omega) (by omega), h (45 + t) (by omega) (by omega), h (55 + t) (by omega) (by omega), h (65 + t) (by omega) (by omega), h (75 + t) (by omega) (by omega)]
  exact e t ht
theorem RR_congr {n : Nat} {bar : Int32} {fr to len g g' : Nat → Int32} (h2 : g' 2 = g 2) (h : ∀ i, 85 ≤ i → i < 149 → g' i = g i) (hR : RR n bar fr to len g) : RR n bar fr to len g' := by
  obtain ⟨a, b, c, ⟨m, d1, d2, d3, d4⟩, e⟩ := hR
  refine ⟨a, h2.trans b, fun r hr => ?_, ⟨m, d1, d2, fun r hr => ?_, d4⟩, fun r hr => ?_⟩
  · rw [h (85 + r) (by omega) (by omega), h (101 + r) (by omega) (by omega), h (117 + r) (by omega) (by omega)]; exact c r hr
  · rw [h (133 + r) (by omega) (by omega)]; exact d3 r hr
  · rw [h (85 + r) (by omega) (by omega), h (101 + r) (by omega) (by omega), h (117 + r) (by omega) (by omega)]; exact e r hr
theorem PR_congr {n : Nat} {ev g g' : Nat → Int32} (h3 : g' 3 = g 3) (h : ∀ i, 149 ≤ i → i < 154 → g' i = g i) (hR : PR n ev g) : PR n ev g' := by
  obtain ⟨a, b, c, e⟩ := hR
  refine ⟨a, h3.trans b, fun r hr => ?_, fun r hr => ?_⟩
  · rw [h (149 + r) (by omega) (by omega)]; exact c r hr
  · rw [h (149 + r) (by omega) (by omega)]; exact e r hr
theorem HR_congr {n : Nat} {pl we g g' : Nat → Int32} (h4 : g' 4 = g 4) (h : ∀ i, 154 ≤ i → i < 194 → g' i = g i) (hR : HR n pl we g) : HR n pl we g' := by
  obtain ⟨a, b, c, e⟩ := hR
  refine ⟨a, h4.trans b, fun r hr => ?_, fun r hr => ?_⟩
  · rw [h (154 + r) (by omega) (by omega), h (174 + r) (by omega) (by omega)]; exact c r hr
  · rw [h (154 + r) (by omega) (by omega), h (174 + r) (by omega) (by omega)]; exact e r hr
/-- only what belongs to the targets has changed -/
def FT (g g' : Nat → Int32) : Prop := ∀ i, (i = 2 ∨ i = 3 ∨ i = 4 ∨ 85 ≤ i) → g' i = g i
theorem FT.rf {g : Nat → Int32} : FT g g := fun _ _ => rfl
theorem FT.RR {n : Nat} {bar : Int32} {fr to len g g' : Nat → Int32} (h : FT g g') (hR : RR n bar fr to len g) : RR n bar fr to len g' := RR_congr (h 2 (by omega)) (fun i h1 h2 => h i (by omega)) hR
theorem FT.PR {n : Nat} {ev g g' : Nat → Int32} (h : FT g g') (hR : PR n ev g) : PR n ev g' := PR_congr (h 3 (by omega)) (fun i h1 h2 => h i (by omega)) hR
theorem FT.HR {n : Nat} {pl we g g' : Nat → Int32} (h : FT g g') (hR : HR n pl we g) : HR n pl we g' := HR_congr (h 4 (by omega)) (fun i h1 h2 => h i (by omega)) hR
end PR
