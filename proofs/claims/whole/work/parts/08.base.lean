/-! ===== the base: what a method is turned into (a pure function), and the rows of a walk over it ===== -/
section GB1
def bd {α β : Type} (o : Option α) (k : α → Option β) : Option β := match o with
  | none => none
  | some a => k a
theorem bd_some {α β : Type} {o : Option α} {k : α → Option β} {q : β} (h : bd o k = some q) : ∃ a, o = some a ∧ k a = some q := by
  cases o with
  | none => cases h
  | some a => exact ⟨a, rfl, h⟩
theorem bd_of {α β : Type} {o : Option α} {k : α → Option β} {a : α} (h : o = some a) : bd o k = k a := by rw [h]; rfl
/-- an index is in its row -/
def gI {α : Type} (i : Int32) (n : Nat) (k : Option α) : Option α := if i < 0 ∨ n ≤ i.toNatClampNeg then none else k
theorem gI_some {α : Type} {i : Int32} {n : Nat} {k : Option α} {q : α} (h : gI i n k = some q) : vp_in i n ∧ k = some q := by
  unfold gI at h
  by_cases c : i < 0 ∨ n ≤ i.toNatClampNeg
  · rw [if_pos c] at h; cases h
  · rw [if_neg c] at h; exact ⟨c, h⟩
theorem gI_of {α : Type} {i : Int32} {n : Nat} {k : Option α} (h : vp_in i n) : gI i n k = k := if_neg h
/-- a divisor isn't 0 -/
def gDi {α : Type} (y : Int32) (k : Option α) : Option α := if y = 0 then none else k
theorem gDi_some {α : Type} {y : Int32} {k : Option α} {q : α} (h : gDi y k = some q) : ¬ y = 0 ∧ k = some q := by
  unfold gDi at h
  by_cases c : y = 0
  · rw [if_pos c] at h; cases h
  · rw [if_neg c] at h; exact ⟨c, h⟩
theorem gDi_of {α : Type} {y : Int32} {k : Option α} (h : ¬ y = 0) : gDi y k = k := if_neg h
def gDl {α : Type} (y : Int64) (k : Option α) : Option α := if y = 0 then none else k
theorem gDl_some {α : Type} {y : Int64} {k : Option α} {q : α} (h : gDl y k = some q) : ¬ y = 0 ∧ k = some q := by
  unfold gDl at h
  by_cases c : y = 0
  · rw [if_pos c] at h; cases h
  · rw [if_neg c] at h; exact ⟨c, h⟩
theorem gDl_of {α : Type} {y : Int64} {k : Option α} (h : ¬ y = 0) : gDl y k = k := if_neg h
/-- a boolean is 0 or 1 -/
def gB {α : Type} (v : Int32) (k : Option α) : Option α := if v = 0 ∨ v = 1 then k else none
theorem nz_b {v : Int32} (h : v = 0 ∨ v = 1) : narrow .boolean (.int v) = .int v := by
  rcases h with rfl | rfl <;> rfl
theorem gB_some {α : Type} {v : Int32} {k : Option α} {q : α} (h : gB v k = some q) : narrow .boolean (.int v) = .int v ∧ k = some q := by
  unfold gB at h
  by_cases c : v = 0 ∨ v = 1
  · rw [if_pos c] at h; exact ⟨nz_b c, h⟩
  · rw [if_neg c] at h; cases h
theorem gB_of {α : Type} {v : Int32} {k : Option α} (h : v = 0 ∨ v = 1) : gB v k = k := if_pos h
/-- a loop: its body over what goes on from its head -/
def lp {σ ρ : Type} (b : (σ → Option ρ) → σ → Option ρ) : Nat → σ → Option ρ
  | 0, _ => none
  | n + 1, v => b (lp b n) v
theorem lp_s {σ ρ : Type} (b : (σ → Option ρ) → σ → Option ρ) (n : Nat) (v : σ) : lp b (n + 1) v = b (lp b n) v := rfl
theorem ift {α : Type} {c : Prop} [Decidable c] {a b q : α} (hc : c) (h : (if c then a else b) = q) : a = q := by rw [if_pos hc] at h; exact h
theorem iff_ {α : Type} {c : Prop} [Decidable c] {a b q : α} (hc : ¬ c) (h : (if c then a else b) = q) : b = q := by rw [if_neg hc] at h; exact h
theorem lc_lt {x y : Int64} : lg_cmp x y < 0 ↔ x < y := by
  unfold lg_cmp
  by_cases h1 : x > y
  · rw [if_pos h1]; exact ⟨fun h => absurd h (by decide), fun h => absurd (Int64.lt_trans h h1) (Int64.lt_irrefl)⟩
  · rw [if_neg h1]
    by_cases h2 : x = y
    · rw [if_pos h2]; exact ⟨fun h => absurd h (by decide), fun h => absurd h (by rw [h2]; exact Int64.lt_irrefl)⟩
    · rw [if_neg h2]; exact ⟨fun _ => Int64.lt_of_le_of_ne (Int64.not_lt.mp h1) h2, fun _ => by decide⟩
theorem lc_gt {x y : Int64} : 0 < lg_cmp x y ↔ y < x := by
  unfold lg_cmp
  by_cases h1 : x > y
  · rw [if_pos h1]; exact ⟨fun _ => h1, fun _ => by decide⟩
  · rw [if_neg h1]
    by_cases h2 : x = y
    · rw [if_pos h2]; exact ⟨fun h => absurd h (by decide), fun h => absurd h h1⟩
    · rw [if_neg h2]; exact ⟨fun h => absurd h (by decide), fun h => absurd h h1⟩
theorem lc_eq {x y : Int64} : lg_cmp x y = 0 ↔ x = y := by
  unfold lg_cmp
  by_cases h1 : x > y
  · rw [if_pos h1]; exact ⟨fun h => absurd h (by decide), fun h => absurd h1 (by rw [h]; exact Int64.lt_irrefl)⟩
  · rw [if_neg h1]
    by_cases h2 : x = y
    · rw [if_pos h2]; exact ⟨fun _ => h2, fun _ => rfl⟩
    · rw [if_neg h2]; exact ⟨fun h => absurd h (by decide), fun h => absurd h h2⟩
theorem lc_le {x y : Int64} : lg_cmp x y ≤ 0 ↔ x ≤ y := by
  rw [← Int32.not_lt, lc_gt, Int64.not_lt]
theorem lc_ge {x y : Int64} : 0 ≤ lg_cmp x y ↔ y ≤ x := by
  rw [← Int32.not_lt, lc_lt, Int64.not_lt]
end GB1
section GB2
/-- the array classes: int[], long[], boolean[], int[][] -/
abbrev gTy (cI cJ cZ cG : ClassId) : List (ClassId × FieldType) := [(cI, .int), (cJ, .long), (cZ, .boolean), (cG, .array .int)]
def gK (D : va_G) (cI cJ cZ cG : ClassId) (U : State) : Prop := va_K D vwCl (gTy cI cJ cZ cG) U ∧ va_Nw (.methodLinkNest RX8 43 yX10_isFrom "GuardDesk") U
theorem gK.warm {D : va_G} {cI cJ cZ cG : ClassId} {s U : State} (hW : s.WarmedH U.vm) (h : gK D cI cJ cZ cG s) : gK D cI cJ cZ cG U := ⟨va_K.moved hW.alike h.1, va_Nw.warmM hW h.2⟩
theorem gK.same {D : va_G} {cI cJ cZ cG : ClassId} {s U : State} (hW : s.vm = U.vm) (h : gK D cI cJ cZ cG s) : gK D cI cJ cZ cG U := ⟨va_K.moved (by rw [hW]; exact Vm.Alike.refl U.vm) h.1, va_Nw.same rfl hW h.2⟩
/-- what holds all along a method's walk -/
def cx (D : va_G) (cI cJ cZ cG : ClassId) (A : Nat → Prop) (cc : ByteArray) (nL : Nat) (ret : Option FieldType) (own : String) (ws : List Cond) (p : Program) (s : State) (m : MethodId) (args : Array Value) (meth : Method) (c : Code) : Prop :=
  p.tables.exec = Jvm.exec ∧ c.code = cc ∧ meth.sig.returnType = ret ∧ c.maxLocals = nL ∧ s.vm.findClass own = some m.cls ∧ (∀ w ∈ ws, w.before args s = true) ∧ meth.locks = false ∧ gK D cI cJ cZ cG s ∧ ∀ q, s.heap.size ≤ q → A q
/-- a method's end: its answer, its world -/
def Qg (D : va_G) (ov : Option Value) (W1 : va_W) (A : Nat → Prop) : Array Value → State → Outcome → State → Prop := fun _ st oc t => oc = .returned ov ∧ va_P D vwCl W1 t.heap ∧ va_D A W1 ∧ va_F A st t
/-- a contract: from the world W0 with these arguments the answer ov and the world W1 -/
def gMet (l : Launch) (y : MethodName) (ws : List Cond) (rm : Room) (av : List Value) (W0 W1 : va_W) (ov : Option Value) (D : va_G) (cI cJ cZ cG : ClassId) : Prop :=
  ∀ sz : Nat, Met l y ws rm (va_Pc av (fun U => U.heap.size = sz ∧ va_P D vwCl W0 U.heap ∧ gK D cI cJ cZ cG U ∧ va_D (fun _ => True) W0)) (Qg D ov W1 (va_A W0 sz)) 0 0 (va_A W0 sz)
/-- the machine at a place, with these locals, this stack, this world -/
def WB (p : Program) (l : Launch) (e : Env) (R : Room) (s : State) (m : MethodId) (args : Array Value) (below : List Frame) (meth : Method) (c : Code) (Q : State → Prop) (D : va_G) (A : Nat → Prop) (nL : Nat) (ws : va_W) (lv : List (Nat × Value)) (st : List Value) (pc : Nat) : Prop :=
  ∀ (H : Heap) (locs : List Loc) (ls : Array Slot), va_P D vwCl ws H → va_D A ws → va_S A s.heap H locs → lv_has ls nL lv → W p l e R s m args below meth c H locs 0 0 Q (F0 m pc ls st)
variable {p : Program} {l : Launch} {e : Env} {R : Room} {s : State} {m : MethodId} {args : Array Value} {below : List Frame} {meth : Method} {c : Code} {H : Heap} {locs : List Loc} {Q : State → Prop}
variable {D : va_G} {cI cJ cZ cG : ClassId} {A : Nat → Prop} {cc : ByteArray} {nL : Nat} {ret : Option FieldType} {own : String} {wsM : List Cond} {ws : va_W} {pc : Nat} {ls : Array Slot}
theorem g_enter {y : MethodName} {rm : Room} {av : List Value} {W0 W1 : va_W} {ov : Option Value} {ws' : List Cond} (hy : plainName y.cls = true) (hw : wsM = Cond.code y cc nL ret :: ws') (hfit : (lg_sl av).length ≤ nL)
    (body : ∀ (p : Program) (e : Env) (s : State) (m : MethodId) (below : List Frame) (meth : Method) (c : Code) (A : Nat → Prop), cx D cI cJ cZ cG A cc nL ret y.cls wsM p s m av.toArray meth c → WB p l e rm s m av.toArray below meth c (MQ below (Qg D ov W1 A) av.toArray s 0 0 A) D A nL W0 (lv_args 0 av) [] 0) :
    gMet l y wsM rm av W0 W1 ov D cI cJ cZ cG := by
  intro sz
  refine Met.ofW (cc := cc) (maxL := nL) (ret := ret) hy hw ?_
  intro p e s m args below meth c s₁ B hml hv
  obtain ⟨rfl, rfl, hP, hgk, hD0⟩ := hv
  have hl := lv_entry av (n := nL) hfit
  rw [lg_entry_eq]
  generalize (lg_sl av ++ List.replicate (nL - (lg_sl av).length) Slot.unset).toArray = ls at hl ⊢
  exact body p e s m below meth c (va_A W0 s.heap.size) ⟨B.exec, B.bytes, B.returns, hml, findClass_of_methodNamed B.named, atoms_spec (ws := wsM) B.pre, B.notSynchronized, hgk, fun q h => Or.inr h⟩ s.heap [] ls hP hD0.self va_S.rf hl
theorem g_iret (C : cx D cI cJ cZ cG A cc nL (some .int) own wsM p s m args meth c) (hP : va_P D vwCl ws H) (hD : va_D A ws) (hS : va_S A s.heap H locs) {v : Int32} (hdg : decode cc pc = .ok (.ireturn, 1)) :
    W p l e R s m args below meth c H locs 0 0 (MQ below (Qg D (some (.int v)) ws A) args s 0 0 A) (F0 m pc ls [.int v]) :=
  W.iret C.1 C.2.1 C.2.2.1 (fun t ht hW => ⟨rfl, by rw [ht]; exact hP, hD, hS.F ht⟩) hS.2.2 hdg C.2.2.2.2.2.2.1
theorem g_zret (C : cx D cI cJ cZ cG A cc nL (some .boolean) own wsM p s m args meth c) (hP : va_P D vwCl ws H) (hD : va_D A ws) (hS : va_S A s.heap H locs) {v : Int32} (hn : narrow .boolean (.int v) = .int v) (hdg : decode cc pc = .ok (.ireturn, 1)) :
    W p l e R s m args below meth c H locs 0 0 (MQ below (Qg D (some (.int v)) ws A) args s 0 0 A) (F0 m pc ls [.int v]) :=
  W.zret C.1 C.2.1 C.2.2.1 hn (fun t ht hW => ⟨rfl, by rw [ht]; exact hP, hD, hS.F ht⟩) hS.2.2 hdg C.2.2.2.2.2.2.1
theorem g_lret (C : cx D cI cJ cZ cG A cc nL (some .long) own wsM p s m args meth c) (hP : va_P D vwCl ws H) (hD : va_D A ws) (hS : va_S A s.heap H locs) {v : Int64} (hdg : decode cc pc = .ok (.lreturn, 1)) :
    W p l e R s m args below meth c H locs 0 0 (MQ below (Qg D (some (.long v)) ws A) args s 0 0 A) (F0 m pc ls [.long v]) :=
  W.lret C.1 C.2.1 C.2.2.1 (fun t ht hW => ⟨rfl, by rw [ht]; exact hP, hD, hS.F ht⟩) hS.2.2 hdg C.2.2.2.2.2.2.1
theorem g_vret (C : cx D cI cJ cZ cG A cc nL none own wsM p s m args meth c) (hP : va_P D vwCl ws H) (hD : va_D A ws) (hS : va_S A s.heap H locs) (hdg : decode cc pc = .ok (.return_, 1)) :
    W p l e R s m args below meth c H locs 0 0 (MQ below (Qg D none ws A) args s 0 0 A) (F0 m pc ls []) :=
  W.vret C.1 C.2.1 C.2.2.1 (fun t ht hW => ⟨rfl, by rw [ht]; exact hP, hD, hS.F ht⟩) hS.2.2 hdg C.2.2.2.2.2.2.1
theorem fm_some {α β : Type} {f : α → Option β} : ∀ {is : List α} {w : List β}, is.map f = w.map some → is.filterMap f = w := by
  intro is
  induction is with
  | nil =>
    intro w h
    cases w with
    | nil => rfl
    | cons a t => cases h
  | cons i t ih =>
    intro w h
    cases w with
    | nil => cases h
    | cons a u =>
      have h1 : f i = some a := (List.cons.inj h).1
      have h2 : t.map f = u.map some := (List.cons.inj h).2
      rw [List.filterMap_cons_some h1, ih h2]
/-- behind a call: the callee's cells, as they have become, at their old places -/
theorem g_join {A0 : Nat → Prop} {wc wr w1 ws2 : va_W} {H1 : Heap} (hP : va_P D vwCl ws H) (hD : va_D A0 ws) (isC isR pm : List Nat) (hC : isC.map (fun i => ws[i]?) = wc.map some) (hR : isR.map (fun i => ws[i]?) = wr.map some) (hn : va_nd isR = true) (hdis : ∀ i ∈ isR, i ∉ isC) (hpn : va_nd pm = true) (hpm : pm.map (fun i => (wr ++ w1)[i]?) = ws2.map some)
    (hk : ∀ q : Nat, q < H.size → ¬ va_A wc H.size q → H1[q]? = H[q]?) (hF : ∀ q, va_A wc H.size q → A0 q) (hP1 : va_P D vwCl w1 H1) (hD1 : va_D (va_A wc H.size) w1) : va_P D vwCl ws2 H1 ∧ va_D A0 ws2 := by
  obtain ⟨h1, h2⟩ := va_join (wr := wr) (w1 := w1) hP hD isC isR hC hR hn hdis hk hF hP1 hD1
  exact ⟨h1.sub pm (fm_some hpm), h2.sub pm hpn hpm⟩
theorem g_run {cells slots : Nat} {W0 W1 wr ws2 : va_W} {ov : Option Value} {st0 rest st1 : List Value} {a : Array Value} (hr : va_Run p l e R s m args below meth c H locs cells slots 0 0 (F0 m pc ls st0) rest (Qg D ov W1 (va_A W0 H.size) a) (va_A W0 H.size)) (hP : va_P D vwCl ws H) (hD : va_D A ws) (hS : va_S A s.heap H locs) (hA : ∀ q, s.heap.size ≤ q → A q)
    (isC isR pm : List Nat) (hC : isC.map (fun i => ws[i]?) = W0.map some) (hR : isR.map (fun i => ws[i]?) = wr.map some) (hn : va_nd isR = true) (hdis : ∀ i ∈ isR, i ∉ isC) (hpn : va_nd pm = true) (hpm : pm.map (fun i => (wr ++ W1)[i]?) = ws2.map some) (hst : ov.toList ++ rest = st1)
    (kk : ∀ (H1 : Heap) (locs1 : List Loc), va_P D vwCl ws2 H1 → va_D A ws2 → va_S A s.heap H1 locs1 → W p l e R s m args below meth c H1 locs1 cells slots Q (F0 m (pc + 3) ls st1)) : W p l e R s m args below meth c H locs cells slots Q (F0 m pc ls st0) := by
  intro T hT X
  obtain ⟨v, st₀, t, T', L, h0, X', hL, e1, e2, ⟨hv, hp1, hd1, hz, hk⟩, st⟩ := hr T hT X
  cases hv
  rw [h0] at hz hk
  have hF := va_free (wc := W0) hD hS hA isC hC
  obtain ⟨hP2, hD2⟩ := g_join (H1 := T'.heap) hP hD isC isR pm hC hR hn hdis hpn hpm (fun q h1 h2 => by rw [e1]; exact hk q h1 h2) hF (by rw [e1]; exact hp1) hd1
  obtain ⟨t2, a1, b1⟩ := kk T'.heap (locs ++ L) hP2 hD2 ⟨Nat.le_trans hS.1 (by rw [e1]; exact hz), fun q h1 h2 => by rw [e1, hk q (Nat.lt_of_lt_of_le h1 hS.1) (fun z => h2 (hF q z))]; exact hS.2.1 q h1 h2, fun q hq => by
      rcases List.mem_append.mp hq with h | h
      · exact hS.2.2 q h
      · exact hF _ (hL q h)⟩ T' rfl X'
  refine ⟨t2, st t2 ?_, b1⟩
  subst hst
  exact a1
theorem g_blind {av : List Value} {sz : Nat} {W0 : va_W} : FrameBlind (va_Pc av (fun U => U.heap.size = sz ∧ va_P D vwCl W0 U.heap ∧ gK D cI cJ cZ cG U ∧ va_D (fun _ => True) W0)) := by
  intro a U g mk q
  obtain ⟨q0, q1, qP, qK, qD⟩ := q
  exact ⟨q0, q1, qP, gK.same (U := U.calling g mk a) rfl qK, qD⟩
/-- a call of an object's method -/
theorem g_callVc {cells slots : Nat} (hcs : cells ≤ R.cells ∧ slots ≤ R.slots) (C : cx D cI cJ cZ cG A cc nL ret own wsM p s m args meth c) (hP : va_P D vwCl ws H) (hD : va_D A ws) (hS : va_S A s.heap H locs) (hl : ls.size = nL)
    {y : MethodName} {wsY wsY' : List Cond} {rm : Room} {C1 : String} {T1 : u_T} {N1 index n maxL b : Nat} {bytes : ByteArray} {ret1 : Option FieldType} {As rest st0 st1 : List Value} {W0 W1 ws2 : va_W} {ov : Option Value} {fs : List Value} (ci q0 : Nat)
    (hM : gMet l y wsY rm (.ref b :: As) W0 W1 ov D cI cJ cZ cG) (hG : GoodIn wsM (wsV own index C1 y wsY)) (hw : wsY = Cond.code y bytes maxL ret1 :: wsY') (hrc : rm.cells = 0) (hrs : rm.slots = 0) (hd : y.cls = C1 ∧ y.cls ≠ "java/lang/invoke/MethodHandle" ∧ y.cls ≠ "java/lang/invoke/VarHandle" ∧ (parseMethodDescriptor y.desc).map (fun d => d.parameters.length) = some n) (hR : rm.frames + 1 ≤ R.frames ∧ 8 + (maxL + 11) + rm.locals ≤ R.locals)
    (hc : vwCl[ci]? = some (C1, T1, N1)) (he : W0[q0]? = some (b, .inr (ci, fs))) (hn : As.length = n) (hroom : (rest.map fun v => v.category).sum ≤ 8) (hst0 : st0 = As.reverse ++ .ref b :: rest) (hdg : decode cc pc = .ok (.invokevirtual index, 3))
    (isC isR pm : List Nat) (hnc : va_nd isC = true) (hC : isC.map (fun i => ws[i]?) = W0.map some) (hRr : isR.map (fun i => ws[i]?) = (isR.filterMap (fun i => ws[i]?)).map some) (hnn : va_nd isR = true) (hdis : ∀ i ∈ isR, i ∉ isC) (hpn : va_nd pm = true) (hpm : pm.map (fun i => (isR.filterMap (fun i => ws[i]?) ++ W1)[i]?) = ws2.map some) (hst : ov.toList ++ rest = st1)
    (kk : ∀ (H1 : Heap) (locs1 : List Loc), va_P D vwCl ws2 H1 → va_D A ws2 → va_S A s.heap H1 locs1 → W p l e R s m args below meth c H1 locs1 cells slots Q (F0 m (pc + 3) ls st1)) : W p l e R s m args below meth c H locs cells slots Q (F0 m pc ls st0) := by
  obtain ⟨hx, hb, hr, hml, hown, hts, hlk, hgk, hA⟩ := id C
  have hPc := hP.sub (ws' := W0) isC (fm_some hC)
  have hDc : va_D (fun _ => True) W0 := (hD.sub isC hnc hC).weaken (fun _ _ _ _ => trivial)
  have hcw : CallW R s args own C1 index y bytes maxL ret1 wsY rm 0 0 n := cwV n hts hG hw hrc hrs hd hR
  exact g_run (va_runV (As := As) (rest := rest) (b := b) ⟨hx, hb, hml, hown, hts⟩ (hM H.size) hcw ⟨g_blind, va_recv hgk.1 hPc (ci := ci) (q0 := q0) hc he, fun U hU hW => ⟨rfl, by rw [hU], by rw [hU]; exact hPc, hgk.warm hW, hDc⟩⟩ rfl hn hl hst0 (lv_room hroom) hdg hcs) hP hD hS hA isC isR pm hC hRr hnn hdis hpn hpm hst kk
/-- the same, where nothing was made before -/
theorem g_callV (C : cx D cI cJ cZ cG A cc nL ret own wsM p s m args meth c) (hP : va_P D vwCl ws H) (hD : va_D A ws) (hS : va_S A s.heap H locs) (hl : ls.size = nL)
    {y : MethodName} {wsY wsY' : List Cond} {rm : Room} {C1 : String} {T1 : u_T} {N1 index n maxL b : Nat} {bytes : ByteArray} {ret1 : Option FieldType} {As rest st0 st1 : List Value} {W0 W1 ws2 : va_W} {ov : Option Value} {fs : List Value} (ci q0 : Nat)
    (hM : gMet l y wsY rm (.ref b :: As) W0 W1 ov D cI cJ cZ cG) (hG : GoodIn wsM (wsV own index C1 y wsY)) (hw : wsY = Cond.code y bytes maxL ret1 :: wsY') (hrc : rm.cells = 0) (hrs : rm.slots = 0) (hd : y.cls = C1 ∧ y.cls ≠ "java/lang/invoke/MethodHandle" ∧ y.cls ≠ "java/lang/invoke/VarHandle" ∧ (parseMethodDescriptor y.desc).map (fun d => d.parameters.length) = some n) (hR : rm.frames + 1 ≤ R.frames ∧ 8 + (maxL + 11) + rm.locals ≤ R.locals)
    (hc : vwCl[ci]? = some (C1, T1, N1)) (he : W0[q0]? = some (b, .inr (ci, fs))) (hn : As.length = n) (hroom : (rest.map fun v => v.category).sum ≤ 8) (hst0 : st0 = As.reverse ++ .ref b :: rest) (hdg : decode cc pc = .ok (.invokevirtual index, 3))
    (isC isR pm : List Nat) (hnc : va_nd isC = true) (hC : isC.map (fun i => ws[i]?) = W0.map some) (hRr : isR.map (fun i => ws[i]?) = (isR.filterMap (fun i => ws[i]?)).map some) (hnn : va_nd isR = true) (hdis : ∀ i ∈ isR, i ∉ isC) (hpn : va_nd pm = true) (hpm : pm.map (fun i => (isR.filterMap (fun i => ws[i]?) ++ W1)[i]?) = ws2.map some) (hst : ov.toList ++ rest = st1)
    (kk : ∀ (H1 : Heap) (locs1 : List Loc), va_P D vwCl ws2 H1 → va_D A ws2 → va_S A s.heap H1 locs1 → W p l e R s m args below meth c H1 locs1 0 0 Q (F0 m (pc + 3) ls st1)) : W p l e R s m args below meth c H locs 0 0 Q (F0 m pc ls st0) := by
  exact g_callVc ⟨Nat.zero_le _, Nat.zero_le _⟩ C hP hD hS hl ci q0 hM hG hw hrc hrs hd hR hc he hn hroom hst0 hdg isC isR pm hnc hC hRr hnn hdis hpn hpm hst kk
/-- a call of a class's own method -/
theorem g_callS (C : cx D cI cJ cZ cG A cc nL ret own wsM p s m args meth c) (hP : va_P D vwCl ws H) (hD : va_D A ws) (hS : va_S A s.heap H locs) (hl : ls.size = nL)
    {y : MethodName} {wsY wsY' : List Cond} {rm : Room} {index n maxL : Nat} {bytes : ByteArray} {ret1 : Option FieldType} {As rest st0 st1 : List Value} {W0 W1 ws2 : va_W} {ov : Option Value}
    (hM : gMet l y wsY rm As W0 W1 ov D cI cJ cZ cG) (hG : GoodIn wsM (va_wsS own index y wsY)) (hw : wsY = Cond.code y bytes maxL ret1 :: wsY') (hrc : rm.cells = 0) (hrs : rm.slots = 0) (hd : y.cls ≠ "java/lang/invoke/MethodHandle" ∧ y.cls ≠ "java/lang/invoke/VarHandle" ∧ (parseMethodDescriptor y.desc).map (fun d => d.parameters.length) = some n) (hR : rm.frames + 1 ≤ R.frames ∧ 8 + (maxL + 11) + rm.locals ≤ R.locals)
    (hn : As.length = n) (hroom : (rest.map fun v => v.category).sum ≤ 8) (hst0 : st0 = As.reverse ++ rest) (hdg : decode cc pc = .ok (.invokestatic index, 3))
    (isC isR pm : List Nat) (hnc : va_nd isC = true) (hC : isC.map (fun i => ws[i]?) = W0.map some) (hRr : isR.map (fun i => ws[i]?) = (isR.filterMap (fun i => ws[i]?)).map some) (hnn : va_nd isR = true) (hdis : ∀ i ∈ isR, i ∉ isC) (hpn : va_nd pm = true) (hpm : pm.map (fun i => (isR.filterMap (fun i => ws[i]?) ++ W1)[i]?) = ws2.map some) (hst : ov.toList ++ rest = st1)
    (kk : ∀ (H1 : Heap) (locs1 : List Loc), va_P D vwCl ws2 H1 → va_D A ws2 → va_S A s.heap H1 locs1 → W p l e R s m args below meth c H1 locs1 0 0 Q (F0 m (pc + 3) ls st1)) : W p l e R s m args below meth c H locs 0 0 Q (F0 m pc ls st0) := by
  obtain ⟨hx, hb, hr, hml, hown, hts, hlk, hgk, hA⟩ := id C
  have hPc := hP.sub (ws' := W0) isC (fm_some hC)
  have hDc : va_D (fun _ => True) W0 := (hD.sub isC hnc hC).weaken (fun _ _ _ _ => trivial)
  have hcw : CallB R s args own index y bytes maxL ret1 wsY rm 0 0 n ∧ (Cond.static y).before args s = true := va_cwS n hts hG hw hrc hrs hd hR
  exact g_run (va_runS (As := As) (rest := rest) ⟨hx, hb, hml, hown, hts⟩ (hM H.size) hcw ⟨g_blind, fun U hU hW => ⟨rfl, by rw [hU], by rw [hU]; exact hPc, hgk.warm hW, hDc⟩⟩ rfl hn hl hst0 (lv_room hroom) hdg ⟨Nat.zero_le _, Nat.zero_le _⟩) hP hD hS hA isC isR pm hC hRr hnn hdis hpn hpm hst kk
theorem g_run0 {ov : Option Value} {st0 rest st1 : List Value} {a : Array Value} (hr : va_Run p l e R s m args below meth c H locs 0 0 0 0 (F0 m pc ls st0) rest (Qg D ov [] (va_A [] H.size) a) (va_A [] H.size)) (hP : va_P D vwCl ws H) (hS : va_S A s.heap H locs) (hA : ∀ q, s.heap.size ≤ q → A q) (hst : ov.toList ++ rest = st1)
    (kk : ∀ (H1 : Heap) (locs1 : List Loc), va_P D vwCl ws H1 → va_S A s.heap H1 locs1 → W p l e R s m args below meth c H1 locs1 0 0 Q (F0 m (pc + 3) ls st1)) : W p l e R s m args below meth c H locs 0 0 Q (F0 m pc ls st0) := by
  intro T hT X
  obtain ⟨v, st₀, t, T', L, h0, X', hL, e1, e2, ⟨hv, hp1, hd1, hz, hk⟩, st⟩ := hr T hT X
  cases hv
  rw [h0] at hz hk
  have hno : ∀ q, q < H.size → ¬ va_A [] H.size q := fun q h1 h2 => by
    rcases h2 with ⟨k, x, h2⟩ | h2
    · cases h2
    · omega
  have hF : ∀ q, va_A [] H.size q → A q := fun q h2 => by
    rcases h2 with ⟨k, x, h2⟩ | h2
    · cases h2
    · exact hA q (Nat.le_trans hS.1 h2)
  obtain ⟨t2, a1, b1⟩ := kk T'.heap (locs ++ L) (hP.kept (fun k q hq => by rw [e1]; exact hk q.1 ((hP k q hq).lt) (hno q.1 ((hP k q hq).lt)))) ⟨Nat.le_trans hS.1 (by rw [e1]; exact hz), fun q h1 h2 => by rw [e1, hk q (Nat.lt_of_lt_of_le h1 hS.1) (hno q (Nat.lt_of_lt_of_le h1 hS.1))]; exact hS.2.1 q h1 h2, fun q hq => by
      rcases List.mem_append.mp hq with h | h
      · exact hS.2.2 q h
      · exact hF _ (hL q h)⟩ T' rfl X'
  refine ⟨t2, st t2 ?_, b1⟩
  subst hst
  exact a1
theorem g_nilP {H : Heap} : va_P D vwCl [] H := fun k q h => by cases h
theorem g_nilD {B : Nat → Prop} : va_D B [] := ⟨fun i j p q h => (by cases h), fun k q h => (by cases h)⟩
/-- a call of a class's own method that has no world -/
theorem g_callS0 (C : cx D cI cJ cZ cG A cc nL ret own wsM p s m args meth c) (hP : va_P D vwCl ws H) (hS : va_S A s.heap H locs) (hl : ls.size = nL)
    {y : MethodName} {wsY wsY' : List Cond} {rm : Room} {index n maxL : Nat} {bytes : ByteArray} {ret1 : Option FieldType} {As rest st0 st1 : List Value} {ov : Option Value}
    (hM : gMet l y wsY rm As [] [] ov D cI cJ cZ cG) (hG : GoodIn wsM (va_wsS own index y wsY)) (hw : wsY = Cond.code y bytes maxL ret1 :: wsY') (hrc : rm.cells = 0) (hrs : rm.slots = 0) (hd : y.cls ≠ "java/lang/invoke/MethodHandle" ∧ y.cls ≠ "java/lang/invoke/VarHandle" ∧ (parseMethodDescriptor y.desc).map (fun d => d.parameters.length) = some n) (hR : rm.frames + 1 ≤ R.frames ∧ 8 + (maxL + 11) + rm.locals ≤ R.locals)
    (hn : As.length = n) (hroom : (rest.map fun v => v.category).sum ≤ 8) (hst0 : st0 = As.reverse ++ rest) (hdg : decode cc pc = .ok (.invokestatic index, 3)) (hst : ov.toList ++ rest = st1)
    (kk : ∀ (H1 : Heap) (locs1 : List Loc), va_P D vwCl ws H1 → va_S A s.heap H1 locs1 → W p l e R s m args below meth c H1 locs1 0 0 Q (F0 m (pc + 3) ls st1)) : W p l e R s m args below meth c H locs 0 0 Q (F0 m pc ls st0) := by
  obtain ⟨hx, hb, hr, hml, hown, hts, hlk, hgk, hA⟩ := id C
  have hcw : CallB R s args own index y bytes maxL ret1 wsY rm 0 0 n ∧ (Cond.static y).before args s = true := va_cwS n hts hG hw hrc hrs hd hR
  exact g_run0 (va_runS (As := As) (rest := rest) ⟨hx, hb, hml, hown, hts⟩ (hM H.size) hcw ⟨g_blind, fun U hU hW => ⟨rfl, by rw [hU], g_nilP, hgk.warm hW, g_nilD⟩⟩ rfl hn hl hst0 (lv_room hroom) hdg ⟨Nat.zero_le _, Nat.zero_le _⟩) hP hS hA hst kk
/-- the same, a nest mate's -/
theorem g_callN0 (C : cx D cI cJ cZ cG A cc nL ret own wsM p s m args meth c) (hP : va_P D vwCl ws H) (hS : va_S A s.heap H locs) (hl : ls.size = nL)
    {y : MethodName} {host : String} {wsY wsY' : List Cond} {rm : Room} {index n maxL : Nat} {bytes : ByteArray} {ret1 : Option FieldType} {As rest st0 st1 : List Value} {ov : Option Value}
    (hM : gMet l y wsY rm As [] [] ov D cI cJ cZ cG) (hG : GoodIn wsM wsY) (hw : wsY = Cond.code y bytes maxL ret1 :: wsY') (hrc : rm.cells = 0) (hrs : rm.slots = 0) (hnl : va_Nw (.methodLinkNest own index y host) s) (hini : Cond.initialized y.cls ∈ wsM) (hstt : Cond.static y ∈ wsM) (hd : y.cls ≠ "java/lang/invoke/MethodHandle" ∧ y.cls ≠ "java/lang/invoke/VarHandle" ∧ (parseMethodDescriptor y.desc).map (fun d => d.parameters.length) = some n) (hR : rm.frames + 1 ≤ R.frames ∧ 8 + (maxL + 11) + rm.locals ≤ R.locals)
    (hn : As.length = n) (hroom : (rest.map fun v => v.category).sum ≤ 8) (hst0 : st0 = As.reverse ++ rest) (hdg : decode cc pc = .ok (.invokestatic index, 3)) (hst : ov.toList ++ rest = st1)
    (kk : ∀ (H1 : Heap) (locs1 : List Loc), va_P D vwCl ws H1 → va_S A s.heap H1 locs1 → W p l e R s m args below meth c H1 locs1 0 0 Q (F0 m (pc + 3) ls st1)) : W p l e R s m args below meth c H locs 0 0 Q (F0 m pc ls st0) := by
  obtain ⟨hx, hb, hr, hml, hown, hts, hlk, hgk, hA⟩ := id C
  exact g_run0 (va_runSN (As := As) (rest := rest) ⟨hx, hb, hml, hown, hts⟩ (hM H.size) ⟨va_cnB n hts hG hw hrc hrs hnl (hts _ hini) hd hR, hts _ hstt, trivial⟩ ⟨g_blind, fun U hU hW => ⟨rfl, by rw [hU], g_nilP, hgk.warm hW, g_nilD⟩⟩ rfl hn hl hst0 (lv_room hroom) hdg ⟨Nat.zero_le _, Nat.zero_le _⟩) hP hS hA hst kk
/-- the rows of an int[][] of four -/
def rw4 (r0 r1 r2 r3 : Nat) : Nat → Option Nat := fun i => if i = 0 then some r0 else if i = 1 then some r1 else if i = 2 then some r2 else if i = 3 then some r3 else none
theorem g_in4 {i : Int32} (h : vp_in i 4) (h0 : ¬ i = 0) (h1 : ¬ i = 1) (h2 : ¬ i = 2) : i = 3 := by
  obtain ⟨j, hj, rfl⟩ := vp_in_of h (by decide)
  match j, hj with
  | 0, _ => exact absurd rfl h0
  | 1, _ => exact absurd rfl h1
  | 2, _ => exact absurd rfl h2
  | 3, _ => rfl
theorem g_lit {i : Int32} {n : Nat} (h : decide (¬ (i < 0 ∨ n ≤ i.toNatClampNeg)) = true) : vp_in i n := (of_decide_eq_true h : ¬ (i < 0 ∨ n ≤ i.toNatClampNeg))
/-- int[][]: a row's address -/
theorem g_aldr (C : cx D cI cJ cZ cG A cc nL ret own wsM p s m args meth c) (hP : va_P D vwCl ws H) (q0 : Nat) {a n : Nat} {f : Nat → Option Nat} {rest : List Value} (ha : ws[q0]? = some (a, .inl (cG, n, .inr (.inr (.inr (.inr f)))))) {i : Int32} {r : Nat} (hin : vp_in i n) (hf : f i.toNatClampNeg = some r) (hdg : decode cc pc = .ok (.aaload, 1))
    (kk : W p l e R s m args below meth c H locs 0 0 Q (F0 m (pc + 1) ls (.ref r :: rest))) : W p l e R s m args below meth c H locs 0 0 Q (F0 m pc ls (.int i :: .ref a :: rest)) := by
  obtain ⟨hx, hb, hr, hml, hown, hts, hlk, hgk, hA⟩ := id C
  have hlt : i.toNatClampNeg < n := Nat.not_le.mp fun q => hin (Or.inr q)
  exact W.aald (v := .ref r) (ty := .array .int) hx hb (hP q0 _ ha) ((hgk.1.2 3 _ rfl).1 n (fun j => va_rf (f j))) rfl (fun q => by cases q) (by show ¬ (i < 0 ∨ (arrV _ _ _).slots.size ≤ _); rw [arrV_size]; exact hin) (by show (arrV _ _ _).slots[_]? = _; rw [arrV_read _ _ hlt, hf]; rfl) rfl rfl hdg kk
end GB2
