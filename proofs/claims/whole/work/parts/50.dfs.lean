/-! ===== the watch's walk, in numbers ===== -/
section PDF
/-- the state behind a visit, and 1; 0: none -/
def nxt0 : Nat → Nat → Nat := fun n => Nat.rec (motive := fun _ => Nat → Nat) (fun _ => 1) (fun _ f s => cond (Nat.beq (s % 8) 0) 0 (Nat.rec (motive := fun _ => Nat) 0 (fun r _ => 8 * r + s % 8) (f (s / 8)))) n
def nxt : Nat → Nat → Nat → Nat → Nat := fun n => Nat.rec (motive := fun _ => Nat → Nat → Nat → Nat) (fun _ _ _ => 0)
  (fun n f F s v => Nat.rec (motive := fun _ => Nat) (Nat.rec (motive := fun _ => Nat) 0 (fun r _ => 8 * r + F % 8 + 1) (nxt0 n (s / 8))) (fun v _ => cond (Nat.beq (s % 8) 0) 0 (Nat.rec (motive := fun _ => Nat) 0 (fun r _ => 8 * r + s % 8) (f (F / 8) (s / 8) v))) v) n
def dfs (n F : Nat) : Nat → Nat → Nat → Nat → Nat → Bool := fun fuel => Nat.rec (motive := fun _ => Nat → Nat → Nat → Nat → Bool) (fun _ _ _ _ => false)
  (fun _ go dead met S size => cond (Nat.beq size 0) true
    (cond (Nat.ble n (S % 8)) (go (Nat.lor dead (Nat.shiftLeft 1 (S % 262144 / 8))) met (S / 262144) (Nat.pred size))
      (Nat.rec (motive := fun _ => Bool) (go dead met (S + 1) size)
        (fun r _ => cond (Nat.beq (Nat.land (Nat.shiftRight dead r) 1) 1) (go dead met (S + 1) size)
          (cond (Nat.beq (Nat.land (Nat.shiftRight met r) 1) 1) true
            (cond (Nat.ble 255 size) false (go dead (Nat.lor met (Nat.shiftLeft 1 r)) ((S + 1) * 262144 + r * 8) (size + 1))))) (nxt n F (S % 262144 / 8) (S % 8))))) fuel
theorem tdfs1 : dfs 5 (7 + 8*7 + 64*7+512*7+4096*7) 7000 0 (Nat.shiftLeft 1 (7 + 8*7 + 64*7+512*7+4096*7)) ((7 + 8*7 + 64*7+512*7+4096*7)*8) 1 = true := by decide +kernel
end PDF
