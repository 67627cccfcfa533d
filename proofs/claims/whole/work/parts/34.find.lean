/-! ===== the reference's greatest share of a target ===== -/
section PF
def mks (P : Nat → Bool) : Nat → Nat
  | 0 => 0
  | k + 1 => if P k then mks P k ||| 2 ^ k else mks P k
theorem mks_lt (P : Nat → Bool) : ∀ k, mks P k < 2 ^ k := by
  intro k
  induction k with
  | zero => exact Nat.one_pos
  | succ k ih =>
    unfold mks
    have h : mks P k < 2 ^ (k + 1) := Nat.lt_of_lt_of_le ih (Nat.pow_le_pow_right (by omega) (by omega))
    split
    · exact Nat.or_lt_two_pow h (Nat.pow_lt_pow_right (by omega) (by omega))
    · exact h
theorem mks_bit (P : Nat → Bool) : ∀ k j, (mks P k).testBit j = (decide (j < k) && P j) := by
  intro k
  induction k with
  | zero => intro j; unfold mks; rw [Nat.zero_testBit]; rfl
  | succ k ih =>
    intro j
    unfold mks
    by_cases c : P k = true
    · rw [if_pos c, Nat.testBit_or, ih, Nat.testBit_two_pow]
      by_cases d : k = j
      · subst d; simp [c]
      · have : decide (j < k + 1) = decide (j < k) := by
          apply decide_eq_decide.mpr; omega
        rw [this]; simp [d]
    · rw [if_neg c, ih]
      by_cases d : k = j
      · subst d; simp at c; simp [c]
      · have : decide (j < k + 1) = decide (j < k) := by
          apply decide_eq_decide.mpr; omega
        rw [this]
variable {n t : Nat} {G p e l m : Nat → Int} {U : Int}
def AB (n t : Nat) (G e l : Nat → Int) (U : Int) (set : Nat) : Int := 60 * U - sm (fun j => if j = t then 0 else if set.testBit j then e j * (G j - G t) else l j) n
def UN (n t : Nat) (p e : Nat → Int) (set : Nat) : Int := 60 + sm (fun j => if j = t then 0 else if set.testBit j then e j * p t else 0) n
def MX (n t : Nat) (G p e l m : Nat → Int) (U X Z : Int) : Prop :=
  X * 60 ≤ m t * Z ∧ (∀ j, j < n → j ≠ t → X * (60 * p t) ≤ (60 * (G t - G j) + m j * p j) * Z) ∧ ∀ set, set < 2 ^ n → set.testBit t = false → X * UN n t p e set ≤ AB n t G e l U set * Z
def pkF (G p l : Nat → Int) (j : Nat) : Int := 60 * G j - p j * l j
def flF (G p m : Nat → Int) (j : Nat) : Int := 60 * G j - p j * m j
def SF (n : Nat) (l : Nat → Int) (U : Int) : Int := 60 * (60 * U - sm l n)
def YF (t : Nat) (G p : Nat → Int) (X Z : Int) : Int := 60 * (G t * Z - p t * X)
theorem set_go (X Z : Int) (set : Nat) : ∀ k, (∀ j, j < k → e j * p j = 60) →
    60 * (sm (fun j => if j = t then 0 else if set.testBit j then e j * (G j - G t) else l j) k * Z + X * sm (fun j => if j = t then 0 else if set.testBit j then e j * p t else 0) k)
    = sm (fun j => if j = t then 0 else if set.testBit j then e j * (pkF G p l j * Z - YF t G p X Z) else 0) k + 60 * Z * (sm l k - (if t < k then l t else 0)) := by
  intro k
  induction k with
  | zero =>
    intro _
    show 60 * (0 * Z + X * 0) = 0 + 60 * Z * (0 - (if t < 0 then l t else 0))
    rw [if_neg (by omega)]; grind
  | succ k ih =>
    intro h
    have i := ih (fun j hj => h j (by omega))
    have hk := h k (by omega)
    rw [sm_s, sm_s, sm_s, sm_s]
    by_cases c : k = t
    · subst c
      rw [if_neg (by omega)] at i
      simp only [if_true, if_pos (show k < k + 1 by omega)]
      grind
    · simp only [if_neg c]
      have e1 : (if t < k + 1 then l t else 0) = (if t < k then l t else 0) := by
        by_cases d : t < k
        · rw [if_pos d, if_pos (by omega)]
        · rw [if_neg d, if_neg (by omega)]
      rw [e1]
      generalize (if t < k then l t else 0) = lt at i
      generalize sm (fun j => if j = t then 0 else if set.testBit j then e j * (G j - G t) else l j) k = s1 at i ⊢
      generalize sm (fun j => if j = t then 0 else if set.testBit j then e j * p t else 0) k = s2 at i ⊢
      generalize sm (fun j => if j = t then 0 else if set.testBit j then e j * (pkF G p l j * Z - YF t G p X Z) else 0) k = s4 at i ⊢
      generalize sm l k = s3 at i ⊢
      by_cases d : set.testBit k = true
      · simp only [if_pos d]
        unfold pkF YF at *
        have q : e k * (60 * G k * Z - p k * l k * Z - 60 * (G t * Z - p t * X)) = 60 * (e k * G k * Z) - (e k * p k) * (l k * Z) - 60 * (e k * (G t * Z)) + 60 * (e k * (p t * X)) := by grind
        rw [hk] at q
        grind
      · simp only [if_neg d]
        grind
theorem sm_split (f : Nat → Int) : ∀ n t, t < n → sm f n = f t + sm (fun j => if j = t then 0 else f j) n := by
  intro n
  induction n with
  | zero => intro t h; omega
  | succ n ih =>
    intro t h
    rw [sm_s, sm_s]
    by_cases c : n = t
    · subst c
      rw [if_pos rfl, sm_eq (g := fun j => if j = n then 0 else f j) n (fun j hj => by show _ = ite _ _ _; rw [if_neg (by omega)])]
      omega
    · rw [if_neg c, ih t (by omega)]
      omega
theorem set_eq (X Z : Int) (set : Nat) (ht : t < n) (h : ∀ j, j < n → e j * p j = 60) :
    60 * (AB n t G e l U set * Z - X * UN n t p e set) = SF n l U * Z - (e t * (pkF G p l t * Z - YF t G p X Z) + sm (fun j => if j = t then 0 else if set.testBit j then e j * (pkF G p l j * Z - YF t G p X Z) else 0) n) := by
  have q := set_go (t := t) (G := G) (p := p) (e := e) (l := l) X Z set n h
  rw [if_pos ht] at q
  unfold AB UN SF
  have r : e t * (pkF G p l t * Z - YF t G p X Z) = 3600 * X - 60 * (l t * Z) := by
    unfold pkF YF
    have ht' := h t ht
    have r : e t * ((60 * G t - p t * l t) * Z - 60 * (G t * Z - p t * X)) = 60 * (e t * p t * X) - e t * p t * (l t * Z) := by grind
    rw [ht'] at r
    rw [r]; grind
  rw [r]
  grind
theorem mx_iff (X Z : Int) (hZ : 0 < Z) (ht : t < n) (h : ∀ j, j < n → e j * p j = 60) (he : ∀ j, j < n → 0 < e j) (hp : ∀ j, j < n → 0 < p j) :
    MX n t G p e l m U X Z ↔ (∀ j, j < n → flF G p m j * Z ≤ YF t G p X Z) ∧ e t * (pkF G p l t * Z - YF t G p X Z) + sm (fun j => if j = t then 0 else e j * ps (pkF G p l j * Z - YF t G p X Z)) n ≤ SF n l U * Z := by
  have F : ∀ j, flF G p m j * Z ≤ YF t G p X Z ↔ X * (60 * p t) ≤ (60 * (G t - G j) + m j * p j) * Z := by
    intro j
    unfold flF YF
    have e1 : (60 * (G t - G j) + m j * p j) * Z = 60 * (G t * Z) - (60 * G j - p j * m j) * Z := by grind
    have e2 : X * (60 * p t) = 60 * (p t * X) := by grind
    rw [e1, e2]; omega
  have Ft : flF G p m t * Z ≤ YF t G p X Z ↔ X * 60 ≤ m t * Z := by
    rw [F t]
    have e1 : (60 * (G t - G t) + m t * p t) * Z = m t * Z * p t := by grind
    have e2 : X * (60 * p t) = X * 60 * p t := by grind
    rw [e1, e2]
    exact mp_le (hp t ht)
  unfold MX
  constructor
  · rintro ⟨h1, h2, h3⟩
    refine ⟨fun j hj => ?_, ?_⟩
    · by_cases c : j = t
      · subst c; exact Ft.mpr h1
      · exact (F j).mpr (h2 j hj c)
    · let P : Nat → Bool := fun j => decide (j ≠ t ∧ 0 ≤ pkF G p l j * Z - YF t G p X Z)
      have b := mks_bit P n
      have q := h3 (mks P n) (mks_lt P n) (by rw [b]; simp [P])
      have r := set_eq (G := G) (l := l) (U := U) X Z (mks P n) ht h
      have s : sm (fun j => if j = t then 0 else if (mks P n).testBit j then e j * (pkF G p l j * Z - YF t G p X Z) else 0) n = sm (fun j => if j = t then 0 else e j * ps (pkF G p l j * Z - YF t G p X Z)) n := by
        apply sm_eq
        intro j hj
        show ite _ _ _ = ite _ _ _
        by_cases c : j = t
        · rw [if_pos c, if_pos c]
        · rw [if_neg c, if_neg c, b, decide_eq_true hj, Bool.true_and]
          by_cases d : 0 ≤ pkF G p l j * Z - YF t G p X Z
          · rw [if_pos (decide_eq_true ⟨c, d⟩), ps_p d]
          · rw [if_neg (by simp only [P, decide_eq_true_eq]; exact fun z => d z.2), ps_m (by omega), Int.mul_zero]
      rw [s] at r
      omega
  · rintro ⟨h1, h2⟩
    refine ⟨Ft.mp (h1 t ht), fun j hj _ => (F j).mp (h1 j hj), fun set hs hb => ?_⟩
    have r := set_eq (G := G) (l := l) (U := U) X Z set ht h
    have s : sm (fun j => if j = t then 0 else if set.testBit j then e j * (pkF G p l j * Z - YF t G p X Z) else 0) n ≤ sm (fun j => if j = t then 0 else e j * ps (pkF G p l j * Z - YF t G p X Z)) n := by
      apply sm_le
      intro j hj
      show ite _ _ _ ≤ ite _ _ _
      have := Int.mul_le_mul_of_nonneg_left (ps_ge (pkF G p l j * Z - YF t G p X Z)) (Int.le_of_lt (he j hj))
      have := Int.mul_nonneg (Int.le_of_lt (he j hj)) (ps_nn (pkF G p l j * Z - YF t G p X Z))
      by_cases c : j = t
      · rw [if_pos c, if_pos c]; exact Int.le_refl 0
      · rw [if_neg c, if_neg c]
        split
        · assumption
        · assumption
    omega
/-- what the reference finds: the greatest share -/
def FX (n t : Nat) (G p e l m : Nat → Int) (U h lo : Int) : Prop := 0 < lo ∧ MX n t G p e l m U h lo ∧ ∀ X Z, 0 < Z → MX n t G p e l m U X Z → X * lo ≤ h * Z
theorem fx_okl {h lo : Int} (ht : t < n) (hep : ∀ j, j < n → e j * p j = 60) (he : ∀ j, j < n → 0 < e j) (hp : ∀ j, j < n → 0 < p j) (hF : FX n t G p e l m U h lo) (hx : l t * lo ≤ h * 60) :
    YF t G p h lo ≤ pkF G p l t * lo ∧ OKL n (flF G p m) (pkF G p l) e (SF n l U) (YF t G p h lo) lo := by
  obtain ⟨f1, f2, -⟩ := hF
  have q := (mx_iff h lo f1 ht hep he hp).mp f2
  have r : YF t G p h lo ≤ pkF G p l t * lo := by
    unfold YF pkF
    have := Int.mul_le_mul_of_nonneg_left hx (Int.le_of_lt (hp t ht))
    have e1 : (60 * G t - p t * l t) * lo = 60 * (G t * lo) - p t * (l t * lo) := by grind
    have e2 : p t * (h * 60) = 60 * (p t * h) := by grind
    omega
  refine ⟨r, f1, q.1, ?_⟩
  rw [sm_split _ n t ht, ps_p (by omega)]
  exact q.2
theorem fx_none {h lo : Int} (ht : t < n) (hep : ∀ j, j < n → e j * p j = 60) (he : ∀ j, j < n → 0 < e j) (hp : ∀ j, j < n → 0 < p j) (hF : FX n t G p e l m U h lo) (hS : SF n l U < 0) : ¬ l t * lo ≤ h * 60 := by
  intro hx
  obtain ⟨a, b, c, d⟩ := fx_okl ht hep he hp hF hx
  have := sm_nn (f := fun j => e j * ps (pkF G p l j * lo - YF t G p h lo)) (n := n) (fun j hj => Int.mul_nonneg (Int.le_of_lt (he j hj)) (ps_nn _))
  have := Int.mul_neg_of_neg_of_pos hS b
  omega
theorem fx_lv {h lo A B : Int} (ht : t < n) (hep : ∀ j, j < n → e j * p j = 60) (he : ∀ j, j < n → 0 < e j) (hp : ∀ j, j < n → 0 < p j) (hF : FX n t G p e l m U h lo) (hS : 0 ≤ SF n l U) (hL : LV n (flF G p m) (pkF G p l) e (SF n l U) A B) :
    (l t * lo ≤ h * 60 ↔ A ≤ pkF G p l t * B) ∧ (A ≤ pkF G p l t * B → YF t G p h lo * B = A * lo) := by
  have hB : 0 < B := hL.1
  have hlo : 0 < lo := hF.1
  have r1 : l t * lo ≤ h * 60 → A * lo ≤ YF t G p h lo * B ∧ A ≤ pkF G p l t * B := by
    intro hx
    obtain ⟨a, b⟩ := fx_okl ht hep he hp hF hx
    have c := lv_min he hL b
    refine ⟨c, ?_⟩
    have d := Int.mul_le_mul_of_nonneg_right a (Int.le_of_lt hB)
    apply (mp_le hlo).mp
    have e1 : pkF G p l t * B * lo = pkF G p l t * lo * B := by grind
    omega
  have r2 : A ≤ pkF G p l t * B → YF t G p h lo * B ≤ A * lo ∧ l t * lo ≤ h * 60 := by
    intro hA
    have o := lv_ok hS he hL
    have hpt := hp t ht
    have hc : 0 < 60 * p t := by omega
    have hY : YF t G p (60 * G t * B - A) (60 * p t * B) = A * (60 * p t) := by unfold YF; grind
    have hZ : 0 < 60 * p t * B := Int.mul_pos hc hB
    have q : MX n t G p e l m U (60 * G t * B - A) (60 * p t * B) := by
      apply (mx_iff _ _ hZ ht hep he hp).mpr
      rw [hY]
      have E : ∀ x : Int, x * (60 * p t * B) - A * (60 * p t) = (x * B - A) * (60 * p t) := by intro x; grind
      have E2 : ∀ x : Int, x * (60 * p t * B) = x * B * (60 * p t) := by intro x; grind
      refine ⟨fun j hj => ?_, ?_⟩
      · rw [E2]; exact (mp_le hc).mpr (o.2.1 j hj)
      · have s := sm_split (fun j => e j * ps (pkF G p l j * B - A)) n t ht
        have o3 := o.2.2
        rw [s, ps_p (by omega)] at o3
        have s2 : sm (fun j => if j = t then 0 else e j * ps (pkF G p l j * (60 * p t * B) - A * (60 * p t))) n = sm (fun j => if j = t then 0 else e j * ps (pkF G p l j * B - A)) n * (60 * p t) := by
          rw [← sm_mul]
          apply sm_eq
          intro j hj
          show ite _ _ _ = ite _ _ _ * _
          by_cases c : j = t
          · rw [if_pos c, if_pos c, Int.zero_mul]
          · rw [if_neg c, if_neg c, E, ps_mul hc, Int.mul_assoc]
        rw [s2, E, E2]
        have := (mp_le hc).mpr o3
        rw [Int.add_mul, Int.mul_assoc] at this
        exact this
    have z := hF.2.2 _ _ hZ q
    have e1 : YF t G p h lo * B = 60 * (G t * B * lo) - h * (60 * p t * B) := by unfold YF; grind
    have e2 : (60 * G t * B - A) * lo = 60 * (G t * B * lo) - A * lo := by grind
    have y : YF t G p h lo * B ≤ A * lo := by omega
    refine ⟨y, ?_⟩
    have w := Int.mul_le_mul_of_nonneg_right hA (Int.le_of_lt hlo)
    have v : YF t G p h lo ≤ pkF G p l t * lo := by
      apply (mp_le hB).mp
      have e3 : pkF G p l t * lo * B = pkF G p l t * B * lo := by grind
      omega
    unfold YF pkF at v
    have e4 : (60 * G t - p t * l t) * lo = 60 * (G t * lo) - l t * lo * p t := by grind
    apply (mp_le hpt).mp
    have e5 : h * 60 * p t = 60 * (p t * h) := by grind
    omega
  refine ⟨⟨fun x => (r1 x).2, fun x => (r2 x).2⟩, fun x => ?_⟩
  have := (r2 x).1
  have := (r1 (r2 x).2).1
  omega
end PF
