section PLF
variable {p : Program} {l : Launch} {e : Env} {s : State} {m : MethodId} {below : List Frame} {meth : Method} {c : Code} {D : va_G} {A : Nat → Prop} {cI cJ cZ cG : ClassId} {b L : Nat} {xs : Nat → Int32} {ad : Nat → Nat} {i : Int32} {N : Nat}
set_option maxRecDepth 100000 in
set_option maxHeartbeats 4000000 in
theorem lc_haunt (C : cx D cI cJ cZ cG A cL_law 4 ret RL wsL_law p s m #[Value.ref b] meth c) (hX : va_X b L xs s s.heap) (hbl : b < s.heap.size) (hbA : ¬ A b) (hin : LIn i L) (hN : 2000000 ≤ N) (S : LSt) (hI : InvS S) (hk : ∀ S', InvS S' → LAt p l e s m below meth c D A cI cJ cZ cG b ad i S' 1109) : LAt p l e s m below meth c D A cI cJ cZ cG b ad i S 839 := by
  sorry
set_option maxRecDepth 100000 in
set_option maxHeartbeats 4000000 in
theorem lc_caught (C : cx D cI cJ cZ cG A cL_law 4 ret RL wsL_law p s m #[Value.ref b] meth c) (hX : va_X b L xs s s.heap) (hbl : b < s.heap.size) (hbA : ¬ A b) (hin : LIn i L) (hN : 2000000 ≤ N) (S : LSt) (hI : InvS S) (hk : ∀ S', InvS S' → LAt p l e s m below meth c D A cI cJ cZ cG b ad i S' 1109) : LAt p l e s m below meth c D A cI cJ cZ cG b ad i S 872 := by
  sorry
set_option maxRecDepth 100000 in
set_option maxHeartbeats 4000000 in
theorem lc_traps (C : cx D cI cJ cZ cG A cL_law 4 ret RL wsL_law p s m #[Value.ref b] meth c) (hX : va_X b L xs s s.heap) (hbl : b < s.heap.size) (hbA : ¬ A b) (hin : LIn i L) (hN : 2000000 ≤ N) (S : LSt) (hI : InvS S) (hk : ∀ S', InvS S' → LAt p l e s m below meth c D A cI cJ cZ cG b ad i S' 1109) : LAt p l e s m below meth c D A cI cJ cZ cG b ad i S 895 := by
  sorry
set_option maxRecDepth 100000 in
set_option maxHeartbeats 4000000 in
theorem lc_cover (C : cx D cI cJ cZ cG A cL_law 4 ret RL wsL_law p s m #[Value.ref b] meth c) (hX : va_X b L xs s s.heap) (hbl : b < s.heap.size) (hbA : ¬ A b) (hin : LIn i L) (hN : 2000000 ≤ N) (S : LSt) (hI : InvS S) (hk : ∀ S', InvS S' → LAt p l e s m below meth c D A cI cJ cZ cG b ad i S' 1109) : LAt p l e s m below meth c D A cI cJ cZ cG b ad i S 918 := by
  sorry
set_option maxRecDepth 100000 in
set_option maxHeartbeats 4000000 in
theorem lc_sheet (C : cx D cI cJ cZ cG A cL_law 4 ret RL wsL_law p s m #[Value.ref b] meth c) (hX : va_X b L xs s s.heap) (hbl : b < s.heap.size) (hbA : ¬ A b) (hin : LIn i L) (hN : 2000000 ≤ N) (S : LSt) (hI : InvS S) (hk : ∀ S', InvS S' → LAt p l e s m below meth c D A cI cJ cZ cG b ad i S' 1109) : LAt p l e s m below meth c D A cI cJ cZ cG b ad i S 931 := by
  sorry
end PLF
