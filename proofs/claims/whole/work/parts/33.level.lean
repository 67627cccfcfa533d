/-! ===== the level of a plan, in whole numbers ===== -/
section PL
theorem cr_tr {x y A B A' B' : Int} (h1 : x * B ≤ A * y) (h2 : A * B' ≤ A' * B) (hB : 0 < B) (hy : 0 ≤ y) (hB' : 0 ≤ B') : x * B' ≤ A' * y := by
  have e1 := Int.mul_le_mul_of_nonneg_right h1 hB'
  have e2 := Int.mul_le_mul_of_nonneg_right h2 hy
  apply Int.le_of_mul_le_mul_right (a := B) _ hB
  have e3 : x * B' * B = x * B * B' := by grind
  have e4 : A' * y * B = A' * B * y := by grind
  have e5 : A * y * B' = A * B' * y := by grind
  omega
theorem mp_le {a b c : Int} (hc : 0 < c) : a * c ≤ b * c ↔ a ≤ b := ⟨fun h => Int.le_of_mul_le_mul_right h hc, fun h => Int.mul_le_mul_of_nonneg_right h (Int.le_of_lt hc)⟩
theorem mp_lt {a b c : Int} (hc : 0 < c) : a * c < b * c ↔ a < b := ⟨fun h => Int.lt_of_mul_lt_mul_right h (Int.le_of_lt hc), fun h => Int.mul_lt_mul_of_pos_right h hc⟩
theorem mp_eq {a b c : Int} (hc : 0 < c) : a * c = b * c ↔ a = b := ⟨fun h => Int.eq_of_mul_eq_mul_right (by omega) h, fun h => by rw [h]⟩
def sm (f : Nat → Int) : Nat → Int
  | 0 => 0
  | k + 1 => sm f k + f k
theorem sm_s (f : Nat → Int) (k : Nat) : sm f (k + 1) = sm f k + f k := rfl
theorem sm_le {f g : Nat → Int} : ∀ n, (∀ j, j < n → f j ≤ g j) → sm f n ≤ sm g n := by
  intro n
  induction n with
  | zero => intro _; exact Int.le_refl 0
  | succ n ih =>
    intro h
    have := ih (fun j hj => h j (by omega))
    have := h n (by omega)
    rw [sm_s, sm_s]; omega
theorem sm_eq {f g : Nat → Int} (n : Nat) (h : ∀ j, j < n → f j = g j) : sm f n = sm g n :=
  Int.le_antisymm (sm_le n (fun j hj => Int.le_of_eq (h j hj))) (sm_le n (fun j hj => Int.le_of_eq (h j hj).symm))
theorem sm_0 : ∀ n, sm (fun _ => 0) n = 0 := by
  intro n
  induction n with
  | zero => rfl
  | succ n ih => rw [sm_s, ih]; rfl
theorem sm_nn {f : Nat → Int} {n : Nat} (h : ∀ j, j < n → 0 ≤ f j) : 0 ≤ sm f n := by
  have := sm_le (f := fun _ => 0) (g := f) n h
  rw [sm_0] at this; exact this
theorem sm_mem {f : Nat → Int} : ∀ n, (∀ j, j < n → 0 ≤ f j) → ∀ k, k < n → f k ≤ sm f n := by
  intro n
  induction n with
  | zero => intro _ k hk; omega
  | succ n ih =>
    intro h k hk
    rw [sm_s]
    have h0 := h n (by omega)
    by_cases q : k = n
    · subst q
      have := sm_nn (f := f) (n := k) (fun j hj => h j (by omega))
      omega
    · have := ih (fun j hj => h j (by omega)) k (by omega)
      omega
theorem sm_add (f g : Nat → Int) : ∀ n, sm (fun j => f j + g j) n = sm f n + sm g n := by
  intro n
  induction n with
  | zero => rfl
  | succ n ih => rw [sm_s, sm_s, sm_s, ih]; omega
theorem sm_mul (f : Nat → Int) (c : Int) : ∀ n, sm (fun j => f j * c) n = sm f n * c := by
  intro n
  induction n with
  | zero => show (0 : Int) = 0 * c; omega
  | succ n ih => rw [sm_s, sm_s, ih, Int.add_mul]
def ps (x : Int) : Int := if 0 ≤ x then x else 0
theorem ps_nn (x : Int) : 0 ≤ ps x := by unfold ps; split <;> omega
theorem ps_ge (x : Int) : x ≤ ps x := by unfold ps; split <;> omega
theorem ps_p {x : Int} (h : 0 ≤ x) : ps x = x := if_pos h
theorem ps_m {x : Int} (h : x ≤ 0) : ps x = 0 := by unfold ps; split <;> omega
theorem ps_mul {x c : Int} (hc : 0 < c) : ps (x * c) = ps x * c := by
  by_cases h : 0 ≤ x
  · rw [ps_p h, ps_p (Int.mul_nonneg h (Int.le_of_lt hc))]
  · rw [ps_m (x := x) (by omega), ps_m, Int.zero_mul]
    have := Int.mul_lt_mul_of_pos_right (show x < 0 by omega) hc
    omega
variable {n : Nat} {fl pk e : Nat → Int} {S A B : Int}
def TA (n : Nat) (e pk : Nat → Int) (S q : Int) : Int := sm (fun j => if q ≤ pk j then e j * pk j else 0) n - S
def TB (n : Nat) (e pk : Nat → Int) (q : Int) : Int := sm (fun j => if q ≤ pk j then e j else 0) n
theorem th_eq (q A B : Int) : ∀ n, sm (fun j => if q ≤ pk j then e j * (pk j * B - A) else 0) n = (TA n e pk S q + S) * B - A * TB n e pk q := by
  intro n
  induction n with
  | zero =>
    show (0 : Int) = (0 - S + S) * B - A * 0
    grind
  | succ n ih =>
    rw [sm_s, ih]
    unfold TA TB
    rw [sm_s, sm_s]
    by_cases c : q ≤ pk n
    · simp only [if_pos c]; grind
    · simp only [if_neg c]; grind
def OKL (n : Nat) (fl pk e : Nat → Int) (S A B : Int) : Prop := 0 < B ∧ (∀ j, j < n → fl j * B ≤ A) ∧ sm (fun j => e j * ps (pk j * B - A)) n ≤ S * B
def LV (n : Nat) (fl pk e : Nat → Int) (S A B : Int) : Prop := 0 < B ∧ (∀ j, j < n → fl j * B ≤ A) ∧ (∀ t, t < n → TA n e pk S (pk t) * B ≤ A * TB n e pk (pk t)) ∧ ((∃ j, j < n ∧ A = fl j ∧ B = 1) ∨ ∃ t, t < n ∧ A = TA n e pk S (pk t) ∧ B = TB n e pk (pk t))
theorem ex_min (P : Nat → Prop) (f : Nat → Int) : ∀ n, (∃ j, j < n ∧ P j) → ∃ t, t < n ∧ P t ∧ ∀ j, j < n → P j → f t ≤ f j := by
  intro n
  induction n with
  | zero => rintro ⟨j, hj, -⟩; omega
  | succ n ih =>
    rintro ⟨j, hj, hp⟩
    by_cases c : ∃ j, j < n ∧ P j
    · obtain ⟨t, t1, t2, t3⟩ := ih c
      by_cases d : P n ∧ f n ≤ f t
      · refine ⟨n, by omega, d.1, fun i hi hpi => ?_⟩
        by_cases q : i = n
        · subst q; exact Int.le_refl _
        · exact Int.le_trans d.2 (t3 i (by omega) hpi)
      · refine ⟨t, by omega, t2, fun i hi hpi => ?_⟩
        by_cases q : i = n
        · subst q
          have : ¬ f i ≤ f t := fun z => d ⟨hpi, z⟩
          omega
        · exact t3 i (by omega) hpi
    · have : j = n := by
        by_cases q : j = n
        · exact q
        · exact absurd ⟨j, by omega, hp⟩ c
      subst this
      refine ⟨j, by omega, hp, fun i hi hpi => ?_⟩
      by_cases q : i = j
      · subst q; exact Int.le_refl _
      · exact absurd ⟨i, by omega, hpi⟩ c
theorem lv_ok (hS : 0 ≤ S) (he : ∀ j, j < n → 0 < e j) (h : LV n fl pk e S A B) : OKL n fl pk e S A B := by
  obtain ⟨h1, h2, h3, -⟩ := h
  refine ⟨h1, h2, ?_⟩
  by_cases c : ∃ j, j < n ∧ A < pk j * B
  · obtain ⟨t, t1, t2, t3⟩ := ex_min (fun j => A < pk j * B) pk n c
    have q : sm (fun j => e j * ps (pk j * B - A)) n = sm (fun j => if pk t ≤ pk j then e j * (pk j * B - A) else 0) n := by
      apply sm_eq
      intro j hj
      by_cases d : pk t ≤ pk j
      · have := Int.mul_le_mul_of_nonneg_right d (Int.le_of_lt h1)
        simp only [if_pos d]
        rw [ps_p (by omega)]
      · simp only [if_neg d]
        rw [ps_m, Int.mul_zero]
        have : ¬ A < pk j * B := fun z => d (t3 j hj z)
        omega
    rw [q, th_eq (S := S)]
    have := h3 t t1
    have e2 : (TA n e pk S (pk t) + S) * B = TA n e pk S (pk t) * B + S * B := Int.add_mul _ _ _
    omega
  · have q : sm (fun j => e j * ps (pk j * B - A)) n = sm (fun _ => 0) n := by
      apply sm_eq
      intro j hj
      have : ¬ A < pk j * B := fun z => c ⟨j, hj, z⟩
      show e j * ps (pk j * B - A) = 0
      rw [ps_m (by omega), Int.mul_zero]
    rw [q, sm_0]
    exact Int.mul_nonneg hS (Int.le_of_lt h1)
theorem lv_min (he : ∀ j, j < n → 0 < e j) (h : LV n fl pk e S A B) {A' B' : Int} (h' : OKL n fl pk e S A' B') : A * B' ≤ A' * B := by
  obtain ⟨h1, h2, h3, h4⟩ := h
  obtain ⟨k1, k2, k3⟩ := h'
  rcases h4 with ⟨j, hj, rfl, rfl⟩ | ⟨t, ht, rfl, rfl⟩
  · have := k2 j hj
    omega
  · have q := th_eq (S := S) (pk := pk) (e := e) (pk t) A' B' n
    have r : sm (fun j => if pk t ≤ pk j then e j * (pk j * B' - A') else 0) n ≤ sm (fun j => e j * ps (pk j * B' - A')) n := by
      apply sm_le
      intro j hj
      have := Int.mul_le_mul_of_nonneg_left (ps_ge (pk j * B' - A')) (Int.le_of_lt (he j hj))
      by_cases d : pk t ≤ pk j
      · simp only [if_pos d]; exact this
      · simp only [if_neg d]; exact Int.mul_nonneg (Int.le_of_lt (he j hj)) (ps_nn _)
    have e2 : (TA n e pk S (pk t) + S) * B' = TA n e pk S (pk t) * B' + S * B' := Int.add_mul _ _ _
    omega
theorem lv_reach (hS : 0 ≤ S) (he : ∀ j, j < n → 0 < e j) (hf : ∀ j, j < n → fl j ≤ pk j) (h : LV n fl pk e S A B) : ∃ t, t < n ∧ A ≤ pk t * B := by
  obtain ⟨h1, h2, h3, h4⟩ := h
  rcases h4 with ⟨j, hj, h5, h6⟩ | ⟨t, ht, h5, h6⟩
  · refine ⟨j, hj, ?_⟩
    have := hf j hj
    rw [h5, h6]; omega
  · by_cases c : ∃ t, t < n ∧ A ≤ pk t * B
    · exact c
    · exfalso
      have q := th_eq (S := S) (pk := pk) (e := e) (pk t) A B n
      have ng : ∀ j, j < n → pk j * B - A < 0 := by
        intro j hj
        have : ¬ A ≤ pk j * B := fun z => c ⟨j, hj, z⟩
        omega
      have r : 0 - (if pk t ≤ pk t then e t * (pk t * B - A) else 0) ≤ sm (fun j => 0 - (if pk t ≤ pk j then e j * (pk j * B - A) else 0)) n := by
        refine sm_mem (f := fun j => 0 - (if pk t ≤ pk j then e j * (pk j * B - A) else 0)) n (fun j hj => ?_) t ht
        have := Int.mul_neg_of_pos_of_neg (he j hj) (ng j hj)
        by_cases d : pk t ≤ pk j
        · simp only [if_pos d]; omega
        · simp only [if_neg d]; omega
      have r2 : sm (fun j => 0 - (if pk t ≤ pk j then e j * (pk j * B - A) else 0)) n = sm (fun j => (if pk t ≤ pk j then e j * (pk j * B - A) else 0) * (-1)) n := sm_eq n (fun j hj => by show _ - _ = _ * (-1); omega)
      rw [r2, sm_mul, q, if_pos (Int.le_refl _), ← h5, ← h6] at r
      have := Int.mul_neg_of_pos_of_neg (he t ht) (ng t ht)
      have e2 : (A + S) * B = A * B + S * B := Int.add_mul _ _ _
      have e3 := Int.mul_nonneg hS (Int.le_of_lt h1)
      omega
end PL
