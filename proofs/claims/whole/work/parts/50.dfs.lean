/-! ===== the watch's walk, in numbers ===== -/
section PDF
/-- the state behind a visit, and 1; 0: none -/
def nxt0 : Nat → Nat → Nat := fun n => Nat.rec (motive := fun _ => Nat → Nat) (fun _ => 1) (fun _ f s => cond (Nat.beq (s % 8) 0) 0 (Nat.rec (motive := fun _ => Nat) 0 (fun r _ => 8 * r + s % 8) (f (s / 8)))) n
def nxt : Nat → Nat → Nat → Nat → Nat := fun n => Nat.rec (motive := fun _ => Nat → Nat → Nat → Nat) (fun _ _ _ => 0)
  (fun n f F s v => Nat.rec (motive := fun _ => Nat) (Nat.rec (motive := fun _ => Nat) 0 (fun r _ => 8 * r + F % 8 + 1) (nxt0 n (s / 8))) (fun v _ => cond (Nat.beq (s % 8) 0) 0 (Nat.rec (motive := fun _ => Nat) 0 (fun r _ => 8 * r + s % 8) (f (F / 8) (s / 8) v))) v) n
def dfs (n F : Nat) : Nat → Nat → Nat → Nat → Nat → Bool := fun fuel => Nat.rec (motive := fun _ => Nat → Nat → Nat → Nat → Bool) (fun _ _ _ _ => false)
  (fun _ go dead met S size => cond (Nat.beq size 0) true
    (cond (Nat.ble n (S % 8)) (go (Nat.lor dead (Nat.shiftLeft 1 (S % 262144 / 8))) met (S / 262144) (Nat.pred size))
      (Nat.rec (motive := fun _ => Bool) (go dead met (S + 1) size)
        (fun r _ => cond (Nat.beq (Nat.land (Nat.shiftRight dead r) 1) 1) (go dead met (S + 1) size)
          (cond (Nat.beq (Nat.land (Nat.shiftRight met r) 1) 1) true
            (cond (Nat.ble 255 size) false (go dead (Nat.lor met (Nat.shiftLeft 1 r)) ((S + 1) * 262144 + r * 8) (size + 1))))) (nxt n F (S % 262144 / 8) (S % 8))))) fuel
/-- some post below n for which f says yes -/
def anyP : Nat → (Nat → Bool) → Bool := fun n => Nat.rec (motive := fun _ => (Nat → Bool) → Bool) (fun _ => false) (fun p r f => cond (f p) true (r f)) n
/-- can these be laid on posts of their own that wait no longer? -/
def emb (n F : Nat) : List Nat → Nat → Bool
  | [], _ => true
  | m :: t, used => anyP n (fun p => cond (Nat.beq (Nat.land (Nat.shiftRight used p) 1) 1) false (cond (Nat.ble (Nat.land (Nat.shiftRight F (3 * p)) 7) m) (emb n F t (Nat.lor used (Nat.shiftLeft 1 p))) false))
def maxL : List (List Nat) := [[0, 7], [1, 2, 7], [1, 4, 6, 7], [2, 2, 4, 7], [2, 3, 3, 7], [2, 3, 4, 6], [1, 6, 7, 7, 7], [2, 2, 7, 7, 7], [2, 3, 6, 7, 7], [2, 4, 5, 7, 7], [2, 4, 6, 6, 7], [3, 3, 4, 6, 7], [3, 4, 4, 5, 7]]
def domA (n F : Nat) : List (List Nat) → Bool
  | [] => false
  | ms :: L => cond (emb n F ms 0) true (domA n F L)
def okc (n F : Nat) : Bool := cond (domA n F maxL) true (dfs n F 7000 0 (Nat.shiftLeft 1 F) (F * 8) 1)
/-- all of d configurations from lo -/
def okr (n lo : Nat) : Nat → Bool := fun d => Nat.rec (motive := fun _ => Bool) true (fun i r => cond (okc n (lo + i)) r false) d
end PDF
