section PLB
variable {p : Program} {l : Launch} {e : Env} {s : State} {m : MethodId} {below : List Frame} {meth : Method} {c : Code} {D : va_G} {A : Nat → Prop} {cI cJ cZ cG : ClassId} {b L : Nat} {xs : Nat → Int32} {ad : Nat → Nat} {i : Int32} {N : Nat}
set_option maxRecDepth 100000 in
set_option maxHeartbeats 4000000 in
theorem lc_best (C : cx D cI cJ cZ cG A cL_law 4 ret RL wsL_law p s m #[Value.ref b] meth c) (hX : va_X b L xs s s.heap) (hbl : b < s.heap.size) (hbA : ¬ A b) (hin : LIn i L) (hN : 2000000 ≤ N) (S : LSt) (hI : InvS S) (hk : ∀ S', InvS S' → LAt p l e s m below meth c D A cI cJ cZ cG b ad i S' 1109) : LAt p l e s m below meth c D A cI cJ cZ cG b ad i S 363 := by
  sorry
set_option maxRecDepth 100000 in
set_option maxHeartbeats 4000000 in
theorem lc_worth (C : cx D cI cJ cZ cG A cL_law 4 ret RL wsL_law p s m #[Value.ref b] meth c) (hX : va_X b L xs s s.heap) (hbl : b < s.heap.size) (hbA : ¬ A b) (hin : LIn i L) (hN : 2000000 ≤ N) (S : LSt) (hI : InvS S) (hk : ∀ S', InvS S' → LAt p l e s m below meth c D A cI cJ cZ cG b ad i S' 1109) : LAt p l e s m below meth c D A cI cJ cZ cG b ad i S 376 := by
  sorry
set_option maxRecDepth 100000 in
set_option maxHeartbeats 4000000 in
theorem lc_prize (C : cx D cI cJ cZ cG A cL_law 4 ret RL wsL_law p s m #[Value.ref b] meth c) (hX : va_X b L xs s s.heap) (hbl : b < s.heap.size) (hbA : ¬ A b) (hin : LIn i L) (hN : 2000000 ≤ N) (S : LSt) (hI : InvS S) (hk : ∀ S', InvS S' → LAt p l e s m below meth c D A cI cJ cZ cG b ad i S' 1109) : LAt p l e s m below meth c D A cI cJ cZ cG b ad i S 389 := by
  sorry
set_option maxRecDepth 100000 in
set_option maxHeartbeats 4000000 in
theorem lc_share (C : cx D cI cJ cZ cG A cL_law 4 ret RL wsL_law p s m #[Value.ref b] meth c) (hX : va_X b L xs s s.heap) (hbl : b < s.heap.size) (hbA : ¬ A b) (hin : LIn i L) (hN : 2000000 ≤ N) (S : LSt) (hI : InvS S) (hk : ∀ S', InvS S' → LAt p l e s m below meth c D A cI cJ cZ cG b ad i S' 1109) : LAt p l e s m below meth c D A cI cJ cZ cG b ad i S 402 := by
  sorry
set_option maxRecDepth 100000 in
set_option maxHeartbeats 4000000 in
theorem lc_below (C : cx D cI cJ cZ cG A cL_law 4 ret RL wsL_law p s m #[Value.ref b] meth c) (hX : va_X b L xs s s.heap) (hbl : b < s.heap.size) (hbA : ¬ A b) (hin : LIn i L) (hN : 2000000 ≤ N) (S : LSt) (hI : InvS S) (hk : ∀ S', InvS S' → LAt p l e s m below meth c D A cI cJ cZ cG b ad i S' 1109) : LAt p l e s m below meth c D A cI cJ cZ cG b ad i S 425 := by
  sorry
end PLB
