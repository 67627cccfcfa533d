/-! ===== the walk, in the abstract ===== -/
section PWB
def up {α : Type} (f : Nat → α) (k : Nat) (x : α) : Nat → α := fun i => if i = k then x else f i
theorem up_s {α : Type} {f : Nat → α} {k : Nat} {x : α} : up f k x k = x := if_pos rfl
theorem up_n {α : Type} {f : Nat → α} {k i : Nat} {x : α} (h : i ≠ k) : up f k x i = f i := if_neg h
theorem up_t {f : Nat → Bool} {k i : Nat} (h : f i = true) : up f k true i = true := by
  unfold up; split <;> first | rfl | exact h
/-- a set of states in which every one goes on -/
def Cl (n F : Nat) (A : Nat → Prop) : Prop := ∀ a, A a → a < 8 ^ n ∧ IS n F a ∧ ∃ v r, v < n ∧ nxt n F a v = r + 1 ∧ A r
/-- lost: in no such set -/
def Lz (n F s : Nat) : Prop := ∀ A, Cl n F A → ¬ A s
theorem Lz_of {n F s : Nat} (h : ∀ v r, v < n → nxt n F s v = r + 1 → Lz n F r) : Lz n F s := by
  intro A hA hs
  obtain ⟨_, _, v, r, hv, hr, ha⟩ := hA s hs
  exact h v r hv hr A hA ha
def WSt : Type := (Nat → Bool) × (Nat → Bool) × (Nat → Nat) × (Nat → Nat) × Nat
def WSt.D (x : WSt) : Nat → Bool := x.1
def WSt.M (x : WSt) : Nat → Bool := x.2.1
def WSt.st (x : WSt) : Nat → Nat := x.2.2.1
def WSt.w (x : WSt) : Nat → Nat := x.2.2.2.1
def WSt.sz (x : WSt) : Nat := x.2.2.2.2
def wfail (x : WSt) : WSt := ⟨x.D, x.M, x.st, up x.w (x.sz - 1) (x.w (x.sz - 1) + 1), x.sz⟩
def wpop (x : WSt) : WSt := ⟨up x.D (x.st (x.sz - 1)) true, x.M, x.st, x.w, x.sz - 1⟩
def wpush (x : WSt) (r : Nat) : WSt := ⟨x.D, up x.M r true, up x.st x.sz r, up (up x.w (x.sz - 1) (x.w (x.sz - 1) + 1)) x.sz 0, x.sz + 1⟩
def WInv (n F : Nat) (x : WSt) : Prop :=
  (0 < x.sz → x.st 0 = F) ∧
  (∀ i, i < x.sz → x.st i < 8 ^ n ∧ IS n F (x.st i) ∧ x.w i ≤ n) ∧
  (∀ i, i + 1 < x.sz → 0 < x.w i ∧ nxt n F (x.st i) (x.w i - 1) = x.st (i + 1) + 1) ∧
  (∀ i v r, i + 1 < x.sz → v + 1 < x.w i → nxt n F (x.st i) v = r + 1 → x.D r = true) ∧
  (∀ v r, 0 < x.sz → v < x.w (x.sz - 1) → nxt n F (x.st (x.sz - 1)) v = r + 1 → x.D r = true) ∧
  (∀ s, x.D s = true → Lz n F s) ∧
  (∀ s, x.M s = true → x.D s = true ∨ ∃ i, i < x.sz ∧ x.st i = s) ∧
  (∀ i, i < x.sz → x.M (x.st i) = true ∧ x.D (x.st i) = false) ∧
  (∀ s, x.D s = true → x.M s = true) ∧
  (∀ i j, i < j → j < x.sz → x.st i ≠ x.st j) ∧
  (x.sz = 0 → x.D F = true)
theorem WInv.f0 {n F : Nat} {x : WSt} (h : WInv n F x) : 0 < x.sz → x.st 0 = F := h.1
theorem WInv.fs {n F : Nat} {x : WSt} (h : WInv n F x) : ∀ i, i < x.sz → x.st i < 8 ^ n ∧ IS n F (x.st i) ∧ x.w i ≤ n := h.2.1
theorem WInv.pa {n F : Nat} {x : WSt} (h : WInv n F x) : ∀ i, i + 1 < x.sz → 0 < x.w i ∧ nxt n F (x.st i) (x.w i - 1) = x.st (i + 1) + 1 := h.2.2.1
theorem WInv.t1 {n F : Nat} {x : WSt} (h : WInv n F x) : ∀ i v r, i + 1 < x.sz → v + 1 < x.w i → nxt n F (x.st i) v = r + 1 → x.D r = true := h.2.2.2.1
theorem WInv.t2 {n F : Nat} {x : WSt} (h : WInv n F x) : ∀ v r, 0 < x.sz → v < x.w (x.sz - 1) → nxt n F (x.st (x.sz - 1)) v = r + 1 → x.D r = true := h.2.2.2.2.1
theorem WInv.dl {n F : Nat} {x : WSt} (h : WInv n F x) : ∀ s, x.D s = true → Lz n F s := h.2.2.2.2.2.1
theorem WInv.md {n F : Nat} {x : WSt} (h : WInv n F x) : ∀ s, x.M s = true → x.D s = true ∨ ∃ i, i < x.sz ∧ x.st i = s := h.2.2.2.2.2.2.1
theorem WInv.mm {n F : Nat} {x : WSt} (h : WInv n F x) : ∀ i, i < x.sz → x.M (x.st i) = true ∧ x.D (x.st i) = false := h.2.2.2.2.2.2.2.1
theorem WInv.dm {n F : Nat} {x : WSt} (h : WInv n F x) : ∀ s, x.D s = true → x.M s = true := h.2.2.2.2.2.2.2.2.1
theorem WInv.ij {n F : Nat} {x : WSt} (h : WInv n F x) : ∀ i j, i < j → j < x.sz → x.st i ≠ x.st j := h.2.2.2.2.2.2.2.2.2.1
theorem WInv.em {n F : Nat} {x : WSt} (h : WInv n F x) : x.sz = 0 → x.D F = true := h.2.2.2.2.2.2.2.2.2.2
theorem WInv_mk {n F : Nat} {x : WSt} (f0 : 0 < x.sz → x.st 0 = F) (fs : ∀ i, i < x.sz → x.st i < 8 ^ n ∧ IS n F (x.st i) ∧ x.w i ≤ n) (pa : ∀ i, i + 1 < x.sz → 0 < x.w i ∧ nxt n F (x.st i) (x.w i - 1) = x.st (i + 1) + 1) (t1 : ∀ i v r, i + 1 < x.sz → v + 1 < x.w i → nxt n F (x.st i) v = r + 1 → x.D r = true) (t2 : ∀ v r, 0 < x.sz → v < x.w (x.sz - 1) → nxt n F (x.st (x.sz - 1)) v = r + 1 → x.D r = true) (dl : ∀ s, x.D s = true → Lz n F s) (md : ∀ s, x.M s = true → x.D s = true ∨ ∃ i, i < x.sz ∧ x.st i = s) (mm : ∀ i, i < x.sz → x.M (x.st i) = true ∧ x.D (x.st i) = false) (dm : ∀ s, x.D s = true → x.M s = true) (ij : ∀ i j, i < j → j < x.sz → x.st i ≠ x.st j) (em : x.sz = 0 → x.D F = true) : WInv n F x := ⟨f0, fs, pa, t1, t2, dl, md, mm, dm, ij, em⟩
theorem WInv.fail {n F : Nat} {x : WSt} (h : WInv n F x) (h0 : 0 < x.sz) (hw : x.w (x.sz - 1) < n) (hr : ∀ r, nxt n F (x.st (x.sz - 1)) (x.w (x.sz - 1)) = r + 1 → x.D r = true) : WInv n F (wfail x) :=
  WInv_mk
    (f0 := h.f0)
    (fs := fun i hi => by
    obtain ⟨a, b, c⟩ := h.fs i hi
    refine ⟨a, b, ?_⟩
    show up x.w (x.sz - 1) (x.w (x.sz - 1) + 1) i ≤ n
    by_cases e : i = x.sz - 1
    · rw [e, up_s]; omega
    · rw [up_n e]; exact c)
    (pa := fun i hi => by
    have hi : i + 1 < x.sz := hi
    show 0 < up x.w (x.sz - 1) (x.w (x.sz - 1) + 1) i ∧ nxt n F (x.st i) (up x.w (x.sz - 1) (x.w (x.sz - 1) + 1) i - 1) = _
    rw [up_n (by omega)]; exact h.pa i hi)
    (t1 := fun i v r hi hv hq => by
    have hi : i + 1 < x.sz := hi
    have hv : v + 1 < up x.w (x.sz - 1) (x.w (x.sz - 1) + 1) i := hv
    rw [up_n (by omega)] at hv
    exact h.t1 i v r hi hv hq)
    (t2 := fun v r _ hv hq => by
    have hv : v < up x.w (x.sz - 1) (x.w (x.sz - 1) + 1) (x.sz - 1) := hv
    rw [up_s] at hv
    by_cases e : v = x.w (x.sz - 1)
    · subst e; exact hr r hq
    · exact h.t2 v r h0 (by omega) hq)
    (dl := h.dl)
    (md := h.md)
    (mm := h.mm)
    (dm := h.dm)
    (ij := h.ij)
    (em := h.em)
theorem WInv.pop {n F : Nat} {x : WSt} (h : WInv n F x) (h0 : 0 < x.sz) (hw : n ≤ x.w (x.sz - 1)) : WInv n F (wpop x) :=
  WInv_mk
    (f0 := fun _ => h.f0 h0)
    (fs := fun i hi => h.fs i (by have hi : i < x.sz - 1 := hi; omega))
    (pa := fun i hi => h.pa i (by have hi : i + 1 < x.sz - 1 := hi; omega))
    (t1 := fun i v r hi hv hq => up_t (h.t1 i v r (by have hi : i + 1 < x.sz - 1 := hi; omega) hv hq))
    (t2 := fun v r hz hv hq => by
    have hz : 0 < x.sz - 1 := hz
    have hv : v < x.w (x.sz - 1 - 1) := hv
    have hq : nxt n F (x.st (x.sz - 1 - 1)) v = r + 1 := hq
    show up x.D (x.st (x.sz - 1)) true r = true
    by_cases e : v + 1 < x.w (x.sz - 1 - 1)
    · exact up_t (h.t1 _ v r (by omega) e hq)
    · have hp := (h.pa (x.sz - 1 - 1) (by omega)).2
      rw [show x.w (x.sz - 1 - 1) - 1 = v by omega, hq, show x.sz - 1 - 1 + 1 = x.sz - 1 by omega] at hp
      rw [show r = x.st (x.sz - 1) by omega, up_s])
    (dl := fun s hs => by
    have hs : up x.D (x.st (x.sz - 1)) true s = true := hs
    by_cases e : s = x.st (x.sz - 1)
    · rw [e]
      exact Lz_of (fun v r hv hr => h.dl r (h.t2 v r h0 (by omega) hr))
    · rw [up_n e] at hs; exact h.dl s hs)
    (md := fun s hs => by
    show up x.D (x.st (x.sz - 1)) true s = true ∨ ∃ i, i < x.sz - 1 ∧ x.st i = s
    rcases h.md s hs with a | ⟨i, hi, a⟩
    · exact .inl (up_t a)
    · by_cases e : i = x.sz - 1
      · left; rw [← a, e, up_s]
      · exact .inr ⟨i, by omega, a⟩)
    (mm := fun i hi => by
    have hi : i < x.sz - 1 := hi
    refine ⟨(h.mm i (by omega)).1, ?_⟩
    show up x.D (x.st (x.sz - 1)) true (x.st i) = false
    rw [up_n (h.ij i (x.sz - 1) hi (by omega))]
    exact (h.mm i (by omega)).2)
    (dm := fun s hs => by
    have hs : up x.D (x.st (x.sz - 1)) true s = true := hs
    by_cases e : s = x.st (x.sz - 1)
    · rw [e]; exact (h.mm (x.sz - 1) (by omega)).1
    · rw [up_n e] at hs; exact h.dm s hs)
    (ij := fun i j hij hj => h.ij i j hij (by have hj : j < x.sz - 1 := hj; omega))
    (em := fun hz => by
    have hz : x.sz - 1 = 0 := hz
    show up x.D (x.st (x.sz - 1)) true F = true
    rw [hz, h.f0 h0, up_s])
theorem WInv.push {n F r : Nat} {x : WSt} (h : WInv n F x) (h0 : 0 < x.sz) (hw : x.w (x.sz - 1) < n) (hr : nxt n F (x.st (x.sz - 1)) (x.w (x.sz - 1)) = r + 1) (hM : x.M r = false) : WInv n F (wpush x r) :=
  WInv_mk
    (f0 := fun _ => by
    show up x.st x.sz r 0 = F
    rw [up_n (by omega)]; exact h.f0 h0)
    (fs := fun i hi => by
    have hi : i < x.sz + 1 := hi
    show up x.st x.sz r i < 8 ^ n ∧ IS n F (up x.st x.sz r i) ∧ up (up x.w (x.sz - 1) (x.w (x.sz - 1) + 1)) x.sz 0 i ≤ n
    by_cases e : i = x.sz
    · rw [e, up_s, up_s]
      exact ⟨(nxt_v hw hr).2.1, IS_nxt hw (h.fs _ (by omega)).2.1 hr, by omega⟩
    · rw [up_n e, up_n e]
      obtain ⟨a, b, c⟩ := h.fs i (by omega)
      refine ⟨a, b, ?_⟩
      by_cases e2 : i = x.sz - 1
      · rw [e2, up_s]; omega
      · rw [up_n e2]; exact c)
    (pa := fun i hi => by
    have hi : i + 1 < x.sz + 1 := hi
    show 0 < up (up x.w (x.sz - 1) (x.w (x.sz - 1) + 1)) x.sz 0 i ∧ nxt n F (up x.st x.sz r i) (up (up x.w (x.sz - 1) (x.w (x.sz - 1) + 1)) x.sz 0 i - 1) = up x.st x.sz r (i + 1) + 1
    rw [up_n (show i ≠ x.sz by omega), up_n (show i ≠ x.sz by omega)]
    by_cases e : i = x.sz - 1
    · rw [e, up_s, show x.sz - 1 + 1 = x.sz by omega, up_s]
      exact ⟨by omega, hr⟩
    · rw [up_n e, up_n (show i + 1 ≠ x.sz by omega)]; exact h.pa i (by omega))
    (t1 := fun i v r' hi hv hq => by
    have hi : i + 1 < x.sz + 1 := hi
    have hv : v + 1 < up (up x.w (x.sz - 1) (x.w (x.sz - 1) + 1)) x.sz 0 i := hv
    have hq : nxt n F (up x.st x.sz r i) v = r' + 1 := hq
    rw [up_n (show i ≠ x.sz by omega)] at hv hq
    by_cases e : i = x.sz - 1
    · rw [e, up_s] at hv
      rw [e] at hq
      exact h.t2 v r' h0 (by omega) hq
    · rw [up_n e] at hv
      exact h.t1 i v r' (by omega) hv hq)
    (t2 := fun v r' _ hv _ => by
    have hv : v < up (up x.w (x.sz - 1) (x.w (x.sz - 1) + 1)) x.sz 0 (x.sz + 1 - 1) := hv
    rw [Nat.add_sub_cancel, up_s] at hv
    omega)
    (dl := h.dl)
    (md := fun s hs => by
    have hs : up x.M r true s = true := hs
    show x.D s = true ∨ ∃ i, i < x.sz + 1 ∧ up x.st x.sz r i = s
    by_cases e : s = r
    · exact .inr ⟨x.sz, by omega, by rw [up_s, e]⟩
    · rw [up_n e] at hs
      rcases h.md s hs with a | ⟨i, hi, a⟩
      · exact .inl a
      · exact .inr ⟨i, by omega, by rw [up_n (by omega)]; exact a⟩)
    (mm := fun i hi => by
    have hi : i < x.sz + 1 := hi
    show up x.M r true (up x.st x.sz r i) = true ∧ x.D (up x.st x.sz r i) = false
    by_cases e : i = x.sz
    · rw [e, up_s, up_s]
      refine ⟨rfl, ?_⟩
      cases c : x.D r
      · rfl
      · exact absurd ((h.dm r c).symm.trans hM) (by decide)
    · rw [up_n e]
      exact ⟨up_t (h.mm i (by omega)).1, (h.mm i (by omega)).2⟩)
    (dm := fun s hs => up_t (h.dm s hs))
    (ij := fun i j hij hj => by
    have hj : j < x.sz + 1 := hj
    show up x.st x.sz r i ≠ up x.st x.sz r j
    rw [up_n (show i ≠ x.sz by omega)]
    by_cases e : j = x.sz
    · rw [e, up_s]
      intro q
      have := (h.mm i (by omega)).1
      rw [q, hM] at this
      exact absurd this (by decide)
    · rw [up_n e]; exact h.ij i j hij (by omega))
    (em := fun hz => by have hz : x.sz + 1 = 0 := hz; omega)
/-- it comes to an end within k steps, with at most 256 states on the way -/
def WGo (n F : Nat) : Nat → WSt → Prop
  | 0, x => x.sz = 0
  | k + 1, x => x.sz = 0 ∨ (0 < x.sz ∧ n ≤ x.w (x.sz - 1) ∧ WGo n F k (wpop x)) ∨ (0 < x.sz ∧ x.w (x.sz - 1) < n ∧ nxt n F (x.st (x.sz - 1)) (x.w (x.sz - 1)) = 0 ∧ WGo n F k (wfail x)) ∨ ∃ r, 0 < x.sz ∧ x.w (x.sz - 1) < n ∧ nxt n F (x.st (x.sz - 1)) (x.w (x.sz - 1)) = r + 1 ∧ ((x.D r = true ∧ WGo n F k (wfail x)) ∨ (x.D r = false ∧ x.M r = true) ∨ (x.D r = false ∧ x.M r = false ∧ x.sz < 256 ∧ WGo n F k (wpush x r)))
theorem WGo.em {n F k : Nat} {x : WSt} (h : x.sz = 0) : WGo n F k x := by
  cases k with
  | zero => exact h
  | succ k => exact .inl h
theorem WGo.pop {n F k : Nat} {x : WSt} (h0 : 0 < x.sz) (h1 : n ≤ x.w (x.sz - 1)) (h : WGo n F k (wpop x)) : WGo n F (k + 1) x := .inr (.inl ⟨h0, h1, h⟩)
theorem WGo.fail {n F k : Nat} {x : WSt} (h0 : 0 < x.sz) (h1 : x.w (x.sz - 1) < n) (h2 : nxt n F (x.st (x.sz - 1)) (x.w (x.sz - 1)) = 0) (h : WGo n F k (wfail x)) : WGo n F (k + 1) x := .inr (.inr (.inl ⟨h0, h1, h2, h⟩))
theorem WGo.dead {n F k r : Nat} {x : WSt} (h0 : 0 < x.sz) (h1 : x.w (x.sz - 1) < n) (h2 : nxt n F (x.st (x.sz - 1)) (x.w (x.sz - 1)) = r + 1) (h3 : x.D r = true) (h : WGo n F k (wfail x)) : WGo n F (k + 1) x := .inr (.inr (.inr ⟨r, h0, h1, h2, .inl ⟨h3, h⟩⟩))
theorem WGo.close {n F k r : Nat} {x : WSt} (h0 : 0 < x.sz) (h1 : x.w (x.sz - 1) < n) (h2 : nxt n F (x.st (x.sz - 1)) (x.w (x.sz - 1)) = r + 1) (h3 : x.D r = false) (h4 : x.M r = true) : WGo n F (k + 1) x := .inr (.inr (.inr ⟨r, h0, h1, h2, .inr (.inl ⟨h3, h4⟩)⟩))
theorem WGo.push {n F k r : Nat} {x : WSt} (h0 : 0 < x.sz) (h1 : x.w (x.sz - 1) < n) (h2 : nxt n F (x.st (x.sz - 1)) (x.w (x.sz - 1)) = r + 1) (h3 : x.D r = false) (h4 : x.M r = false) (h5 : x.sz < 256) (h : WGo n F k (wpush x r)) : WGo n F (k + 1) x := .inr (.inr (.inr ⟨r, h0, h1, h2, .inr (.inr ⟨h3, h4, h5, h⟩)⟩))
/-! how many are not met -/
def cu (M : Nat → Bool) : Nat → Nat
  | 0 => 0
  | k + 1 => cu M k + (if M k then 0 else 1)
theorem cu_le (M : Nat → Bool) : ∀ k, cu M k ≤ k
  | 0 => Nat.le_refl 0
  | k + 1 => by
    have := cu_le M k
    show cu M k + (if M k then 0 else 1) ≤ k + 1
    split <;> omega
theorem cu_congr {M M' : Nat → Bool} : ∀ {k : Nat}, (∀ i, i < k → M i = M' i) → cu M k = cu M' k
  | 0, _ => rfl
  | k + 1, h => by
    show cu M k + (if M k then 0 else 1) = cu M' k + (if M' k then 0 else 1)
    rw [cu_congr (fun i hi => h i (by omega)), h k (by omega)]
theorem cu_up {M : Nat → Bool} {r : Nat} (hM : M r = false) : ∀ {k : Nat}, r < k → cu (up M r true) k + 1 = cu M k
  | 0, h => by omega
  | k + 1, h => by
    show cu (up M r true) k + (if up M r true k then 0 else 1) + 1 = cu M k + (if M k then 0 else 1)
    by_cases e : r = k
    · subst e
      rw [up_s, hM, cu_congr (M' := M) (fun i hi => up_n (by omega))]
      rfl
    · have := cu_up hM (k := k) (by omega)
      rw [up_n (fun q => e q.symm)]
      omega
def rsm (n : Nat) (w : Nat → Nat) : Nat → Nat
  | 0 => 0
  | k + 1 => rsm n w k + (n + 1 - w k)
theorem rsm_congr {n : Nat} {w w' : Nat → Nat} : ∀ {k : Nat}, (∀ i, i < k → w i = w' i) → rsm n w k = rsm n w' k
  | 0, _ => rfl
  | k + 1, h => by
    show rsm n w k + (n + 1 - w k) = rsm n w' k + (n + 1 - w' k)
    rw [rsm_congr (fun i hi => h i (by omega)), h k (by omega)]
theorem rsm_top (n : Nat) (w : Nat → Nat) {k : Nat} (h : 0 < k) : rsm n w k = rsm n w (k - 1) + (n + 1 - w (k - 1)) := by
  obtain ⟨j, rfl⟩ : ∃ j, k = j + 1 := ⟨k - 1, by omega⟩
  rfl
theorem rsm_step {n : Nat} {w : Nat → Nat} {k : Nat} (h : 0 < k) (hw : w (k - 1) < n) : rsm n (up w (k - 1) (w (k - 1) + 1)) k + 1 = rsm n w k := by
  rw [rsm_top n _ h, rsm_top n w h, up_s, rsm_congr (w' := w) (fun i hi => up_n (by omega))]
  omega
theorem Rn_path {n F : Nat} {st w : Nat → Nat} : ∀ (d i : Nat), (∀ j, i ≤ j → j < i + d → 0 < w j ∧ w j ≤ n ∧ nxt n F (st j) (w j - 1) = st (j + 1) + 1) → Rn n F d (st i) := by
  intro d
  induction d with
  | zero => intros; trivial
  | succ d ih =>
    intro i h
    obtain ⟨a, b, c⟩ := h i (by omega) (by omega)
    exact ⟨w i - 1, st (i + 1), by omega, c, ih (i + 1) (fun j h1 h2 => h j (by omega) (by omega))⟩
theorem Rn_le {n F : Nat} : ∀ {m k s : Nat}, m ≤ k → Rn n F k s → Rn n F m s := by
  intro m
  induction m with
  | zero => intros; trivial
  | succ m ih =>
    intro k s h hr
    obtain ⟨k, rfl⟩ : ∃ j, k = j + 1 := ⟨k - 1, by omega⟩
    obtain ⟨v, r, a, b, c⟩ := hr
    exact ⟨v, r, a, b, ih (by omega) c⟩
theorem WInv.short {n F : Nat} {x : WSt} (h : WInv n F x) (hF : ¬ Rn n F 27 F) : x.sz ≤ 27 := by
  rcases Nat.lt_or_ge 27 x.sz with c | c
  · have h1 := Rn_path (n := n) (F := F) (st := x.st) (w := x.w) 27 0 (fun j _ hj => ⟨(h.pa j (by omega)).1, (h.fs j (by omega)).2.2, (h.pa j (by omega)).2⟩)
    rw [h.f0 (by omega)] at h1
    exact absurd h1 hF
  · exact c
theorem WGo_dom {n F : Nat} (hn : n ≤ 5) (hF : ¬ Rn n F 27 F) : ∀ (k : Nat) (x : WSt), WInv n F x → 7 * cu x.M 32768 + rsm n x.w x.sz ≤ k → WGo n F k x := by
  intro k
  induction k with
  | zero =>
    intro x h hk
    rcases Nat.eq_zero_or_pos x.sz with c | c
    · exact .em c
    · rw [rsm_top n _ c] at hk
      have := (h.fs (x.sz - 1) (by omega)).2.2
      omega
  | succ k ih =>
    intro x h hk
    have hs := h.short hF
    rcases Nat.eq_zero_or_pos x.sz with c | c
    · exact .em c
    rcases Nat.lt_or_ge (x.w (x.sz - 1)) n with hw | hw
    · have e1 := rsm_step (n := n) c hw
      cases hr : nxt n F (x.st (x.sz - 1)) (x.w (x.sz - 1)) with
      | zero =>
        refine .fail c hw hr (ih _ (h.fail c hw (fun r q => by omega)) ?_)
        show 7 * cu x.M 32768 + rsm n (up x.w (x.sz - 1) (x.w (x.sz - 1) + 1)) x.sz ≤ k
        omega
      | succ r =>
        cases hD : x.D r with
        | true =>
          refine .dead c hw hr hD (ih _ (h.fail c hw (fun r' q => by rw [show r' = r by omega]; exact hD)) ?_)
          show 7 * cu x.M 32768 + rsm n (up x.w (x.sz - 1) (x.w (x.sz - 1) + 1)) x.sz ≤ k
          omega
        | false =>
          cases hM : x.M r with
          | true => exact .close c hw hr hD hM
          | false =>
            refine .push c hw hr hD hM (by omega) (ih _ (h.push c hw hr hM) ?_)
            have e2 := cu_up hM (k := 32768) (Nat.lt_of_lt_of_le (nxt_v hw hr).2.1 (pow8 hn))
            show 7 * cu (up x.M r true) 32768 + (rsm n (up (up x.w (x.sz - 1) (x.w (x.sz - 1) + 1)) x.sz 0) x.sz + (n + 1 - up (up x.w (x.sz - 1) (x.w (x.sz - 1) + 1)) x.sz 0 x.sz)) ≤ k
            rw [up_s, rsm_congr (w' := up x.w (x.sz - 1) (x.w (x.sz - 1) + 1)) (fun i hi => up_n (by omega))]
            omega
    · refine .pop c hw (ih _ (h.pop c hw) ?_)
      rw [rsm_top n _ c] at hk
      have := (h.fs (x.sz - 1) (by omega)).2.2
      show 7 * cu x.M 32768 + rsm n x.w (x.sz - 1) ≤ k
      omega
/-! the walk in numbers -/
def pk (st w : Nat → Nat) : Nat → Nat
  | 0 => 0
  | k + 1 => pk st w k * 262144 + st k * 8 + w k
theorem pk_congr {st w st' w' : Nat → Nat} : ∀ {k : Nat}, (∀ i, i < k → st i = st' i ∧ w i = w' i) → pk st w k = pk st' w' k
  | 0, _ => rfl
  | k + 1, h => by
    show pk st w k * 262144 + st k * 8 + w k = pk st' w' k * 262144 + st' k * 8 + w' k
    rw [pk_congr (fun i hi => h i (by omega)), (h k (by omega)).1, (h k (by omega)).2]
theorem pk_top (st w : Nat → Nat) {k : Nat} (h : 0 < k) : pk st w k = pk st w (k - 1) * 262144 + st (k - 1) * 8 + w (k - 1) := by
  obtain ⟨j, rfl⟩ : ∃ j, k = j + 1 := ⟨k - 1, by omega⟩
  rfl
theorem dfs_s (n F fuel dead met S size : Nat) : dfs n F (fuel + 1) dead met S size = cond (Nat.beq size 0) true
    (cond (Nat.ble n (S % 8)) (dfs n F fuel (Nat.lor dead (Nat.shiftLeft 1 (S % 262144 / 8))) met (S / 262144) (Nat.pred size))
      (Nat.rec (motive := fun _ => Bool) (dfs n F fuel dead met (S + 1) size)
        (fun r _ => cond (Nat.beq (Nat.land (Nat.shiftRight dead r) 1) 1) (dfs n F fuel dead met (S + 1) size)
          (cond (Nat.beq (Nat.land (Nat.shiftRight met r) 1) 1) true
            (cond (Nat.ble 255 size) false (dfs n F fuel dead (Nat.lor met (Nat.shiftLeft 1 r)) ((S + 1) * 262144 + r * 8) (size + 1))))) (nxt n F (S % 262144 / 8) (S % 8)))) := rfl
theorem up_bits {M : Nat → Bool} {m r : Nat} (h : M = fun i => m.testBit i) : up M r true = fun i => (Nat.lor m (Nat.shiftLeft 1 r)).testBit i := by
  funext i
  rw [bit_set, h]
  rfl
theorem WGo_dfs {n F : Nat} (hn : n ≤ 5) : ∀ (k : Nat) (x : WSt) (dead met : Nat), WInv n F x → x.D = (fun i => dead.testBit i) → x.M = (fun i => met.testBit i) → dfs n F k dead met (pk x.st x.w x.sz) x.sz = true → WGo n F k x := by
  intro k
  induction k with
  | zero => intro x dead met _ _ _ h; exact absurd h (by show ¬ false = true; decide)
  | succ k ih =>
    intro x dead met hI hD hM h
    rcases Nat.eq_zero_or_pos x.sz with c | c
    · exact .em c
    obtain ⟨f1, f2, f3⟩ := hI.fs (x.sz - 1) (by omega)
    have f4 := Nat.lt_of_lt_of_le f1 (pow8 hn)
    have hS := pk_top x.st x.w c
    have e1 : pk x.st x.w x.sz % 8 = x.w (x.sz - 1) := by omega
    have e2 : pk x.st x.w x.sz % 262144 / 8 = x.st (x.sz - 1) := by omega
    have e3 : pk x.st x.w x.sz / 262144 = pk x.st x.w (x.sz - 1) := by omega
    have e4 : pk x.st (up x.w (x.sz - 1) (x.w (x.sz - 1) + 1)) x.sz = pk x.st x.w x.sz + 1 := by
      rw [pk_top _ _ c, up_s, pk_congr (st' := x.st) (w' := x.w) (fun i hi => ⟨rfl, up_n (by omega)⟩)]
      omega
    rw [dfs_s, e1, e2, e3, beq_f (by omega)] at h
    rcases Nat.lt_or_ge (x.w (x.sz - 1)) n with hw | hw
    · rw [ble_f (by omega)] at h
      cases hr : nxt n F (x.st (x.sz - 1)) (x.w (x.sz - 1)) with
      | zero =>
        rw [hr] at h
        refine .fail c hw hr (ih (wfail x) dead met (hI.fail c hw (fun r q => by omega)) hD hM ?_)
        show dfs n F k dead met (pk x.st (up x.w (x.sz - 1) (x.w (x.sz - 1) + 1)) x.sz) x.sz = true
        rw [e4]; exact h
      | succ r =>
        rw [hr] at h
        have h : cond (Nat.beq (Nat.land (Nat.shiftRight dead r) 1) 1) (dfs n F k dead met (pk x.st x.w x.sz + 1) x.sz)
          (cond (Nat.beq (Nat.land (Nat.shiftRight met r) 1) 1) true
            (cond (Nat.ble 255 x.sz) false (dfs n F k dead (Nat.lor met (Nat.shiftLeft 1 r)) ((pk x.st x.w x.sz + 1) * 262144 + r * 8) (x.sz + 1)))) = true := h
        rw [bit_beq, bit_beq, show dead.testBit r = x.D r by rw [hD], show met.testBit r = x.M r by rw [hM]] at h
        cases cD : x.D r with
        | true =>
          rw [cD] at h
          refine .dead c hw hr cD (ih (wfail x) dead met (hI.fail c hw (fun r' q => by rw [show r' = r by omega]; exact cD)) hD hM ?_)
          show dfs n F k dead met (pk x.st (up x.w (x.sz - 1) (x.w (x.sz - 1) + 1)) x.sz) x.sz = true
          rw [e4]; exact h
        | false =>
          rw [cD] at h
          cases cM : x.M r with
          | true => exact .close c hw hr cD cM
          | false =>
            rw [cM] at h
            rcases Nat.lt_or_ge x.sz 255 with c2 | c2
            · have h : cond (Nat.ble 255 x.sz) false (dfs n F k dead (Nat.lor met (Nat.shiftLeft 1 r)) ((pk x.st x.w x.sz + 1) * 262144 + r * 8) (x.sz + 1)) = true := h
              rw [ble_f (by omega)] at h
              refine .push c hw hr cD cM (by omega) (ih (wpush x r) dead (Nat.lor met (Nat.shiftLeft 1 r)) (hI.push c hw hr cM) hD (up_bits hM) ?_)
              show dfs n F k dead _ (pk (up x.st x.sz r) (up (up x.w (x.sz - 1) (x.w (x.sz - 1) + 1)) x.sz 0) x.sz * 262144 + up x.st x.sz r x.sz * 8 + up (up x.w (x.sz - 1) (x.w (x.sz - 1) + 1)) x.sz 0 x.sz) (x.sz + 1) = true
              rw [up_s, up_s, pk_congr (st' := x.st) (w' := up x.w (x.sz - 1) (x.w (x.sz - 1) + 1)) (fun i hi => ⟨up_n (by omega), up_n (by omega)⟩), e4, Nat.add_zero]
              exact h
            · have h : cond (Nat.ble 255 x.sz) false _ = true := h
              rw [ble_t c2] at h
              exact absurd h (by show ¬ false = true; decide)
    · rw [ble_t hw] at h
      exact .pop c hw (ih (wpop x) _ met (hI.pop c hw) (up_bits hD) hM h)
/-- the walk's beginning -/
def w0 (F : Nat) : WSt := ⟨fun _ => false, up (fun _ => false) F true, fun _ => F, fun _ => 0, 1⟩
theorem WInv0 {n F : Nat} (hF : F < 8 ^ n) : WInv n F (w0 F) :=
  WInv_mk
    (f0 := fun _ => rfl)
    (fs := fun i _ => ⟨hF, fun _ _ => Nat.le_refl _, Nat.zero_le _⟩)
    (pa := fun i hi => by have hi : i + 1 < 1 := hi; omega)
    (t1 := fun i v r hi => by have hi : i + 1 < 1 := hi; omega)
    (t2 := fun v r _ hv => by have hv : v < 0 := hv; omega)
    (dl := fun s hs => absurd (show false = true from hs) (by decide))
    (md := fun s hs => by
    have hs : up (fun _ => false) F true s = true := hs
    by_cases e : s = F
    · exact .inr ⟨0, Nat.zero_lt_one, e.symm⟩
    · rw [up_n e] at hs; exact absurd hs (by decide))
    (mm := fun i _ => ⟨(up_s : up (fun _ => false) F true F = true), rfl⟩)
    (dm := fun s hs => absurd (show false = true from hs) (by decide))
    (ij := fun i j hij hj => by have hj : j < 1 := hj; omega)
    (em := fun h => absurd (show 1 = 0 from h) (by decide))
theorem WGo0 {n F : Nat} (hn : n ≤ 5) (hF : F < 8 ^ n) (h : okc n F = true) : ∃ k, k ≤ 300000 ∧ WGo n F k (w0 F) := by
  have h : cond (domA n F maxL) true (dfs n F 7000 0 (Nat.shiftLeft 1 F) (F * 8) 1) = true := h
  cases e : domA n F maxL with
  | true =>
    refine ⟨300000, Nat.le_refl _, WGo_dom hn (no_run e) 300000 _ (WInv0 hF) ?_⟩
    have := cu_le (w0 F).M 32768
    show 7 * cu (w0 F).M 32768 + (0 + (n + 1 - 0)) ≤ 300000
    omega
  | false =>
    rw [e] at h
    refine ⟨7000, by omega, WGo_dfs hn 7000 (w0 F) 0 (Nat.shiftLeft 1 F) (WInv0 hF) (by funext i; rw [Nat.zero_testBit]; rfl) ?_ ?_⟩
    · have := up_bits (M := fun _ => false) (m := 0) (r := F) (by funext i; rw [Nat.zero_testBit])
      rw [show Nat.lor 0 (Nat.shiftLeft 1 F) = Nat.shiftLeft 1 F from Nat.zero_or _] at this
      exact this
    · show dfs n F 7000 0 (Nat.shiftLeft 1 F) (0 * 262144 + F * 8 + 0) 1 = true
      rw [Nat.zero_mul, Nat.zero_add, Nat.add_zero]; exact h
end PWB
