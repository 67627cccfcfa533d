/-! ===== the watch's walk, in numbers ===== -/
section PDF
/-- the state behind a visit, and 1; 0: none -/
def nxt0 : Nat → Nat → Nat := fun n => Nat.rec (motive := fun _ => Nat → Nat) (fun _ => 1) (fun _ f s => cond (Nat.beq (s % 8) 0) 0 (Nat.rec (motive := fun _ => Nat) 0 (fun r _ => 8 * r + s % 8) (f (s / 8)))) n
def nxt : Nat → Nat → Nat → Nat → Nat := fun n => Nat.rec (motive := fun _ => Nat → Nat → Nat → Nat) (fun _ _ _ => 0)
  (fun n f F s v => Nat.rec (motive := fun _ => Nat) (Nat.rec (motive := fun _ => Nat) 0 (fun r _ => 8 * r + F % 8 + 1) (nxt0 n (s / 8))) (fun v _ => cond (Nat.beq (s % 8) 0) 0 (Nat.rec (motive := fun _ => Nat) 0 (fun r _ => 8 * r + s % 8) (f (F / 8) (s / 8) v))) v) n
def dfs (n F : Nat) : Nat → Nat → Nat → Nat → Nat → Bool := fun fuel => Nat.rec (motive := fun _ => Nat → Nat → Nat → Nat → Bool) (fun _ _ _ _ => false)
  (fun _ go dead met S size => cond (Nat.beq size 0) true
    (cond (Nat.ble n (S % 8)) (go (Nat.lor dead (Nat.shiftLeft 1 (S % 262144 / 8))) met (S / 262144) (Nat.pred size))
      (Nat.rec (motive := fun _ => Bool) (go dead met (S + 1) size)
        (fun r _ => cond (Nat.beq (Nat.land (Nat.shiftRight dead r) 1) 1) (go dead met (S + 1) size)
          (cond (Nat.beq (Nat.land (Nat.shiftRight met r) 1) 1) true
            (cond (Nat.ble 255 size) false (go dead (Nat.lor met (Nat.shiftLeft 1 r)) ((S + 1) * 262144 + r * 8) (size + 1))))) (nxt n F (S % 262144 / 8) (S % 8))))) fuel
theorem tdfs0 : dfs 5 23388 7000 0 (Nat.shiftLeft 1 23388) (23388 * 8) 1 = true := by decide +kernel
theorem tdfs1 : dfs 5 32506 7000 0 (Nat.shiftLeft 1 32506) (32506 * 8) 1 = true := by decide +kernel
theorem tdfs2 : dfs 5 16378 7000 0 (Nat.shiftLeft 1 16378) (16378 * 8) 1 = true := by decide +kernel
theorem tdfs3 : dfs 5 30714 7000 0 (Nat.shiftLeft 1 30714) (30714 * 8) 1 = true := by decide +kernel
theorem tdfs4 : dfs 5 19827 7000 0 (Nat.shiftLeft 1 19827) (19827 * 8) 1 = true := by decide +kernel
theorem tdfs5 : dfs 5 24476 7000 0 (Nat.shiftLeft 1 24476) (24476 * 8) 1 = true := by decide +kernel
theorem tdfs6 : dfs 5 26995 7000 0 (Nat.shiftLeft 1 26995) (26995 * 8) 1 = true := by decide +kernel
theorem tdfs7 : dfs 5 19379 7000 0 (Nat.shiftLeft 1 19379) (19379 * 8) 1 = true := by decide +kernel
theorem tdfs8 : dfs 5 23859 7000 0 (Nat.shiftLeft 1 23859) (23859 * 8) 1 = true := by decide +kernel
theorem tdfs9 : dfs 5 22963 7000 0 (Nat.shiftLeft 1 22963) (22963 * 8) 1 = true := by decide +kernel
theorem tdfs10 : dfs 5 28388 7000 0 (Nat.shiftLeft 1 28388) (28388 * 8) 1 = true := by decide +kernel
theorem tdfs11 : dfs 5 31972 7000 0 (Nat.shiftLeft 1 31972) (31972 * 8) 1 = true := by decide +kernel
theorem tdfs12 : dfs 5 27443 7000 0 (Nat.shiftLeft 1 27443) (27443 * 8) 1 = true := by decide +kernel
theorem tdfs13 : dfs 5 23964 7000 0 (Nat.shiftLeft 1 23964) (23964 * 8) 1 = true := by decide +kernel
theorem tdfs14 : dfs 5 32723 7000 0 (Nat.shiftLeft 1 32723) (32723 * 8) 1 = true := by decide +kernel
theorem tdfs15 : dfs 5 30628 7000 0 (Nat.shiftLeft 1 30628) (30628 * 8) 1 = true := by decide +kernel
theorem tdfs16 : dfs 5 24483 7000 0 (Nat.shiftLeft 1 24483) (24483 * 8) 1 = true := by decide +kernel
theorem tdfs17 : dfs 5 31651 7000 0 (Nat.shiftLeft 1 31651) (31651 * 8) 1 = true := by decide +kernel
theorem tdfs18 : dfs 5 31973 7000 0 (Nat.shiftLeft 1 31973) (31973 * 8) 1 = true := by decide +kernel
theorem tdfs19 : dfs 5 27612 7000 0 (Nat.shiftLeft 1 27612) (27612 * 8) 1 = true := by decide +kernel
theorem tdfs20 : dfs 5 23035 7000 0 (Nat.shiftLeft 1 23035) (23035 * 8) 1 = true := by decide +kernel
theorem tdfs21 : dfs 5 31147 7000 0 (Nat.shiftLeft 1 31147) (31147 * 8) 1 = true := by decide +kernel
theorem tdfs22 : dfs 5 24028 7000 0 (Nat.shiftLeft 1 24028) (24028 * 8) 1 = true := by decide +kernel
theorem tdfs23 : dfs 5 16292 7000 0 (Nat.shiftLeft 1 16292) (16292 * 8) 1 = true := by decide +kernel
theorem tdfs24 : dfs 5 28635 7000 0 (Nat.shiftLeft 1 28635) (28635 * 8) 1 = true := by decide +kernel
theorem tdfs25 : dfs 5 32219 7000 0 (Nat.shiftLeft 1 32219) (32219 * 8) 1 = true := by decide +kernel
theorem tdfs26 : dfs 5 15844 7000 0 (Nat.shiftLeft 1 15844) (15844 * 8) 1 = true := by decide +kernel
theorem tdfs27 : dfs 5 27451 7000 0 (Nat.shiftLeft 1 27451) (27451 * 8) 1 = true := by decide +kernel
theorem tdfs28 : dfs 5 26596 7000 0 (Nat.shiftLeft 1 26596) (26596 * 8) 1 = true := by decide +kernel
theorem tdfs29 : dfs 5 28381 7000 0 (Nat.shiftLeft 1 28381) (28381 * 8) 1 = true := by decide +kernel
end PDF
