/-! ===== the constructors' base ===== -/
section GB3
theorem aoa_spec {args : Array Value} {first s : State} {o : Option Outcome} {idx : List Nat} (h : (Cond.arrayOver (.array .int)).holds args first o s idx = true) :
    ∃ comp c k, s.vm.findClass (FieldType.array .int).toString = some comp ∧ (s.vm.classes.findIdx? fun x => match x.kind with | .array component _ => component == comp | _ => false) = some c ∧ s.vm.classes[c]? = some k ∧ k.kind = .array comp (.array .int) ∧
      s.vm.findClass ("[" ++ (FieldType.array .int).toString) = some c := by
  simp only [Cond.holds, Cond.value, beq_iff_eq] at h
  cases hc : s.vm.findClass (FieldType.array .int).toString with
  | none => simp [hc] at h
  | some comp =>
    simp only [hc, Option.bind_some, Option.bind_eq_some_iff, Option.map_eq_some_iff] at h
    obtain ⟨c, hi, k, hk, hb⟩ := h
    obtain ⟨hlt, hp, -⟩ := Array.findIdx?_eq_some_iff_getElem.mp hi
    have hkk : s.vm.classes[c] = k := (Array.getElem?_eq_some_iff.mp hk).2
    rw [hkk] at hp
    cases hkind : k.kind with
    | array component ty =>
      rw [hkind] at hb hp
      simp at hb hp
      exact ⟨comp, c, k, rfl, hi, hk, by rw [hkind, hp, hb.1], hb.2⟩
    | _ => rw [hkind] at hb; simp at hb
theorem aoa_moved {u U : State} (hvm : u.vm.Alike U.vm) (h : va_AOA .int u) : va_AOA .int U := by
  obtain ⟨comp, c, k, h1, h2, h3, h4, h5⟩ := aoa_spec h
  obtain ⟨k', hk', he⟩ := hvm.2.2 _ _ h3
  have hi : (U.vm.classes.findIdx? fun (x : Class) => match x.kind with | .array component _ => component == comp | _ => false) = some c := by
    have e1 := va_idx_bare U.vm comp
    have e2 := va_idx_bare u.vm comp
    first | rw [hvm.bare_eq] at e1 | rw [← hvm.bare_eq] at e1
    exact e1.symm.trans (e2.trans h2)
  have hkind : k'.kind = .array comp (.array .int) := by rw [he]; exact h4
  have f1 : U.vm.findClass (FieldType.array .int).toString = some comp := by rw [hvm.findClass]; exact h1
  have f2 : U.vm.findClass ("[" ++ (FieldType.array .int).toString) = some c := by rw [hvm.findClass]; exact h5
  unfold va_AOA Cond.before Cond.holds
  simp only [Cond.value]
  rw [f1, Option.bind_some]
  refine (congrArg (fun o : Option Nat => (o.bind (fun c => (U.vm.classes[c]?).map fun (k : Class) => match k.kind with | .array _ ty => decide (ty = FieldType.array .int) && decide (U.vm.findClass ("[" ++ (FieldType.array .int).toString) = some c) | _ => false) == some true)) hi).trans ?_
  simp [hk', hkind, f2]
def gN (U : State) : Prop := va_Nw (.methodLinkNest RX6 9 yX8_init "GuardDesk") U ∧ va_Nw (.methodLinkNest RX6 18 yX5_init "GuardDesk") U ∧ va_Nw (.methodLinkNest RX6 25 yX4_init "GuardDesk") U ∧ va_Nw (.methodLinkNest RX6 32 yX2_init "GuardDesk") U ∧ va_Nw (.methodLinkNest RX9 13 yX4_init "GuardDesk") U ∧ va_Nw (.methodLinkNest RX10 9 yX6_init "GuardDesk") U ∧ va_Nw (.methodLinkNest RX10 21 yX7_init "GuardDesk") U ∧ va_Nw (.methodLinkNest RX10 28 yX3_init "GuardDesk") U ∧ va_Nw (.methodLinkNest RX10 35 yX1_init "GuardDesk") U ∧ va_Nw (.methodLinkNest RX10 42 yX0_init "GuardDesk") U ∧ va_Nw (.methodLinkNest RX10 49 yX9_init "GuardDesk") U ∧ va_AOA .int U
theorem gN.warm {s U : State} (hW : s.WarmedH U.vm) (h : gN s) : gN U := by
  obtain ⟨h0, h1, h2, h3, h4, h5, h6, h7, h8, h9, h10, ha⟩ := h
  exact ⟨va_Nw.warmM hW h0, va_Nw.warmM hW h1, va_Nw.warmM hW h2, va_Nw.warmM hW h3, va_Nw.warmM hW h4, va_Nw.warmM hW h5, va_Nw.warmM hW h6, va_Nw.warmM hW h7, va_Nw.warmM hW h8, va_Nw.warmM hW h9, va_Nw.warmM hW h10, aoa_moved hW.alike ha⟩
theorem gN.same {s U : State} (hW : s.vm = U.vm) (h : gN s) : gN U := by
  obtain ⟨h0, h1, h2, h3, h4, h5, h6, h7, h8, h9, h10, ha⟩ := h
  exact ⟨va_Nw.same rfl hW h0, va_Nw.same rfl hW h1, va_Nw.same rfl hW h2, va_Nw.same rfl hW h3, va_Nw.same rfl hW h4, va_Nw.same rfl hW h5, va_Nw.same rfl hW h6, va_Nw.same rfl hW h7, va_Nw.same rfl hW h8, va_Nw.same rfl hW h9, va_Nw.same rfl hW h10, aoa_moved (by rw [hW]; exact Vm.Alike.refl U.vm) ha⟩
theorem n_X6_9 {s : State} (h : gN s) : va_Nw (.methodLinkNest RX6 9 yX8_init "GuardDesk") s := h.1
theorem n_X6_18 {s : State} (h : gN s) : va_Nw (.methodLinkNest RX6 18 yX5_init "GuardDesk") s := h.2.1
theorem n_X6_25 {s : State} (h : gN s) : va_Nw (.methodLinkNest RX6 25 yX4_init "GuardDesk") s := h.2.2.1
theorem n_X6_32 {s : State} (h : gN s) : va_Nw (.methodLinkNest RX6 32 yX2_init "GuardDesk") s := h.2.2.2.1
theorem n_X9_13 {s : State} (h : gN s) : va_Nw (.methodLinkNest RX9 13 yX4_init "GuardDesk") s := h.2.2.2.2.1
theorem n_X10_9 {s : State} (h : gN s) : va_Nw (.methodLinkNest RX10 9 yX6_init "GuardDesk") s := h.2.2.2.2.2.1
theorem n_X10_21 {s : State} (h : gN s) : va_Nw (.methodLinkNest RX10 21 yX7_init "GuardDesk") s := h.2.2.2.2.2.2.1
theorem n_X10_28 {s : State} (h : gN s) : va_Nw (.methodLinkNest RX10 28 yX3_init "GuardDesk") s := h.2.2.2.2.2.2.2.1
theorem n_X10_35 {s : State} (h : gN s) : va_Nw (.methodLinkNest RX10 35 yX1_init "GuardDesk") s := h.2.2.2.2.2.2.2.2.1
theorem n_X10_42 {s : State} (h : gN s) : va_Nw (.methodLinkNest RX10 42 yX0_init "GuardDesk") s := h.2.2.2.2.2.2.2.2.2.1
theorem n_X10_49 {s : State} (h : gN s) : va_Nw (.methodLinkNest RX10 49 yX9_init "GuardDesk") s := h.2.2.2.2.2.2.2.2.2.2.1
theorem n_aoa {s : State} (h : gN s) : va_AOA .int s := h.2.2.2.2.2.2.2.2.2.2.2
/-- a constructor's end -/
def Qn (B : Heap → Prop) (A : Nat → Prop) : Array Value → State → Outcome → State → Prop := fun _ st oc t => oc = .returned none ∧ B t.heap ∧ va_F A st t
/-- a constructor's contract: from a new object with these fields the world B -/
def gNew (l : Launch) (y : MethodName) (ws : List Cond) (rm : Room) (mc ms h ci : Nat) (fs : List Value) (D : va_G) (cI cJ cZ cG : ClassId) (B : (Nat → Prop) → Heap → Prop) : Prop :=
  ∀ sz : Nat, Met l y ws rm (va_Pc [.ref h] (fun U => U.heap.size = sz ∧ va_P D vwCl [(h, .inr (ci, fs))] U.heap ∧ (gK D cI cJ cZ cG U ∧ gN U) ∧ va_D (fun _ => True) [(h, .inr (ci, fs))])) (Qn (B (va_A [(h, .inr (ci, fs))] sz)) (va_A [(h, .inr (ci, fs))] sz)) mc ms (va_A [(h, .inr (ci, fs))] sz)
variable {p : Program} {l : Launch} {e : Env} {R : Room} {s : State} {m : MethodId} {args : Array Value} {below : List Frame} {meth : Method} {c : Code} {H : Heap} {locs : List Loc} {Q : State → Prop}
variable {D : va_G} {cI cJ cZ cG : ClassId} {A : Nat → Prop} {cc : ByteArray} {nL : Nat} {ret : Option FieldType} {own : String} {wsM : List Cond} {ws : va_W} {pc : Nat} {ls : Array Slot} {cells slots : Nat}
theorem g_enterN {y : MethodName} {rm : Room} {h ci mc ms : Nat} {fs : List Value} {B : (Nat → Prop) → Heap → Prop} {ws' : List Cond} (hy : plainName y.cls = true) (hw : wsM = Cond.code y cc nL none :: ws') (hfit : (lg_sl [Value.ref h]).length ≤ nL)
    (body : ∀ (p : Program) (e : Env) (s : State) (m : MethodId) (below : List Frame) (meth : Method) (c : Code) (A : Nat → Prop), cx D cI cJ cZ cG A cc nL none y.cls wsM p s m #[Value.ref h] meth c → gN s → meth.name = y.name → ∀ (H : Heap) (locs : List Loc) (ls : Array Slot), va_P D vwCl [(h, .inr (ci, fs))] H → va_D A [(h, .inr (ci, fs))] → va_S A s.heap H locs → lv_has ls nL [(0, .ref h)] → W p l e rm s m #[Value.ref h] below meth c H locs 0 0 (MQ below (Qn (B A) A) #[Value.ref h] s mc ms A) (F0 m 0 ls [])) :
    gNew l y wsM rm mc ms h ci fs D cI cJ cZ cG B := by
  intro sz
  refine Met.ofW (cc := cc) (maxL := nL) (ret := none) hy hw ?_
  intro p e s m args below meth c s₁ Bd hml hv
  obtain ⟨rfl, rfl, hP, ⟨hgk, hgn⟩, hD0⟩ := hv
  have hl := lv_entry [Value.ref h] (n := nL) hfit
  rw [lg_entry_eq]
  generalize (lg_sl [Value.ref h] ++ List.replicate (nL - (lg_sl [Value.ref h]).length) Slot.unset).toArray = ls at hl ⊢
  exact body p e s m below meth c (va_A [(h, .inr (ci, fs))] s.heap.size) ⟨Bd.exec, Bd.bytes, Bd.returns, hml, findClass_of_methodNamed Bd.named, atoms_spec (ws := wsM) Bd.pre, Bd.notSynchronized, hgk, fun q h => Or.inr h⟩ hgn (name_of_methodNamed Bd.named Bd.method).1 s.heap [] ls hP hD0.self va_S.rf hl
theorem g_blindN {h ci sz : Nat} {fs : List Value} : FrameBlind (va_Pc [Value.ref h] (fun U => U.heap.size = sz ∧ va_P D vwCl [(h, .inr (ci, fs))] U.heap ∧ (gK D cI cJ cZ cG U ∧ gN U) ∧ va_D (fun _ => True) [(h, .inr (ci, fs))])) := by
  intro a U g mk q
  obtain ⟨q0, q1, qP, ⟨qK, qN⟩, qD⟩ := q
  exact ⟨q0, q1, qP, ⟨gK.same (U := U.calling g mk a) rfl qK, gN.same (U := U.calling g mk a) rfl qN⟩, qD⟩
theorem g_runN {W0 : va_W} {B1 : Heap → Prop} {st0 rest : List Value} {a : Array Value} {mc ms : Nat} (hr : va_Run p l e R s m args below meth c H locs cells slots mc ms (F0 m pc ls st0) rest (Qn B1 (va_A W0 H.size) a) (va_A W0 H.size)) (hP : va_P D vwCl ws H) (hD : va_D A ws) (hS : va_S A s.heap H locs) (hA : ∀ q, s.heap.size ≤ q → A q)
    (isC isR : List Nat) (hC : isC.map (fun i => ws[i]?) = W0.map some) (hRr : isR.map (fun i => ws[i]?) = (isR.filterMap (fun i => ws[i]?)).map some) (hnn : va_nd isR = true) (hdis : ∀ i ∈ isR, i ∉ isC)
    (kk : ∀ (H1 : Heap) (locs1 : List Loc), B1 H1 → (∀ w1 : va_W, va_P D vwCl w1 H1 → va_D (va_A W0 H.size) w1 → va_P D vwCl (isR.filterMap (fun i => ws[i]?) ++ w1) H1 ∧ va_D A (isR.filterMap (fun i => ws[i]?) ++ w1)) → va_S A s.heap H1 locs1 → W p l e R s m args below meth c H1 locs1 (cells + mc) (slots + ms) Q (F0 m (pc + 3) ls rest)) : W p l e R s m args below meth c H locs cells slots Q (F0 m pc ls st0) := by
  intro T hT X
  obtain ⟨v, st₀, t, T', L, h0, X', hL, e1, e2, ⟨hv, hB, hz, hk⟩, st⟩ := hr T hT X
  cases hv
  rw [h0] at hz hk
  have hF := va_free (wc := W0) hD hS hA isC hC
  obtain ⟨t2, a1, b1⟩ := kk T'.heap (locs ++ L) (by rw [e1]; exact hB) (fun w1 hp1 hd1 => va_join (wr := isR.filterMap (fun i => ws[i]?)) (w1 := w1) hP hD isC isR hC hRr hnn hdis (fun q h1 h2 => by rw [e1]; exact hk q h1 h2) hF hp1 hd1)
    ⟨Nat.le_trans hS.1 (by rw [e1]; exact hz), fun q h1 h2 => by rw [e1, hk q (Nat.lt_of_lt_of_le h1 hS.1) (fun z => h2 (hF q z))]; exact hS.2.1 q h1 h2, fun q hq => by
      rcases List.mem_append.mp hq with h | h
      · exact hS.2.2 q h
      · exact hF _ (hL q h)⟩ T' rfl X'
  exact ⟨t2, st t2 a1, b1⟩
/-- a new object's constructor, a nest mate's -/
theorem g_callNew {mc ms : Nat} {rest : List Value} (C : cx D cI cJ cZ cG A cc nL ret own wsM p s m args meth c) (hgn : gN s) (hP : va_P D vwCl ws H) (hD : va_D A ws) (hS : va_S A s.heap H locs) (hl : ls.size = nL)
    {y : MethodName} {host : String} {wsY wsY' : List Cond} {rm : Room} {index maxL b ci : Nat} {bytes : ByteArray} {fs : List Value} {B1 : (Nat → Prop) → Heap → Prop}
    (hM : gNew l y wsY rm mc ms b ci fs D cI cJ cZ cG B1) (hG : GoodIn wsM wsY) (hw : wsY = Cond.code y bytes maxL none :: wsY') (hrc : rm.cells = mc) (hrs : rm.slots = ms) (hnl : va_Nw (.methodLinkNest own index y host) s) (hini : Cond.initialized y.cls ∈ wsM) (hin : Cond.instanceMethod y ∈ wsM) (hy1 : y.name = "<init>") (hd : y.cls ≠ "java/lang/invoke/MethodHandle" ∧ y.cls ≠ "java/lang/invoke/VarHandle" ∧ (parseMethodDescriptor y.desc).map (fun d => d.parameters.length) = some 0) (hR : rm.frames + 1 ≤ R.frames ∧ 8 + (maxL + 11) + rm.locals ≤ R.locals)
    (hdg : decode cc pc = .ok (.invokespecial index, 3)) (hf : cells + mc ≤ R.cells ∧ slots + ms ≤ R.slots) (q0 : Nat) (hq : ws[q0]? = some (b, .inr (ci, fs))) (isR : List Nat) (hRr : isR.map (fun i => ws[i]?) = (isR.filterMap (fun i => ws[i]?)).map some) (hnn : va_nd isR = true) (hdis : ∀ i ∈ isR, i ∉ [q0])
    (kk : ∀ (H1 : Heap) (locs1 : List Loc), B1 (va_A [(b, .inr (ci, fs))] H.size) H1 → (∀ w1 : va_W, va_P D vwCl w1 H1 → va_D (va_A [(b, .inr (ci, fs))] H.size) w1 → va_P D vwCl (isR.filterMap (fun i => ws[i]?) ++ w1) H1 ∧ va_D A (isR.filterMap (fun i => ws[i]?) ++ w1)) → va_S A s.heap H1 locs1 → W p l e R s m args below meth c H1 locs1 (cells + mc) (slots + ms) Q (F0 m (pc + 3) ls rest))
    (hroom : (rest.map fun v => v.category).sum ≤ 8 := by exact Nat.le_of_ble_eq_true rfl) : W p l e R s m args below meth c H locs cells slots Q (F0 m pc ls (.ref b :: rest)) := by
  obtain ⟨hx, hb, hr, hml, hown, hts, hlk, hgk, hA⟩ := id C
  have hC : [q0].map (fun i => ws[i]?) = [(b, .inr (ci, fs))].map some := by simp [hq]
  have hPc := hP.sub (ws' := [(b, .inr (ci, fs))]) [q0] (fm_some hC)
  have hDc : va_D (fun _ => True) [(b, .inr (ci, fs))] := (hD.sub [q0] rfl hC).weaken (fun _ _ _ _ => trivial)
  exact g_runN (va_runIN (As := []) (rest := rest) (b := b) ⟨hx, hb, hml, hown, hts⟩ (hM H.size) ⟨va_cnB 0 hts hG hw hrc hrs hnl (hts _ hini) hd hR, hy1, hts _ hin⟩ ⟨g_blindN, fun U hU hW => ⟨rfl, by rw [hU], by rw [hU]; exact hPc, ⟨hgk.warm hW, hgn.warm hW⟩, hDc⟩⟩ rfl rfl hl rfl (lv_room hroom) hdg hf) hP hD hS hA [q0] isR hC hRr hnn hdis kk
/-- the same from the law, by its own link -/
theorem g_callNewI {mc ms : Nat} {rest : List Value} (C : cx D cI cJ cZ cG A cc nL ret own wsM p s m args meth c) (hgn : gN s) (hP : va_P D vwCl ws H) (hD : va_D A ws) (hS : va_S A s.heap H locs) (hl : ls.size = nL)
    {y : MethodName} {wsY wsY' : List Cond} {rm : Room} {index maxL b ci : Nat} {bytes : ByteArray} {fs : List Value} {B1 : (Nat → Prop) → Heap → Prop}
    (hM : gNew l y wsY rm mc ms b ci fs D cI cJ cZ cG B1) (hG : GoodIn wsM wsY) (hw : wsY = Cond.code y bytes maxL none :: wsY') (hrc : rm.cells = mc) (hrs : rm.slots = ms) (hml1 : Cond.methodLink own index y ∈ wsM) (hini : Cond.initialized y.cls ∈ wsM) (hin : Cond.instanceMethod y ∈ wsM) (hy1 : y.name = "<init>") (hd : y.cls ≠ "java/lang/invoke/MethodHandle" ∧ y.cls ≠ "java/lang/invoke/VarHandle" ∧ (parseMethodDescriptor y.desc).map (fun d => d.parameters.length) = some 0) (hR : rm.frames + 1 ≤ R.frames ∧ 8 + (maxL + 11) + rm.locals ≤ R.locals)
    (hdg : decode cc pc = .ok (.invokespecial index, 3)) (hf : cells + mc ≤ R.cells ∧ slots + ms ≤ R.slots) (q0 : Nat) (hq : ws[q0]? = some (b, .inr (ci, fs))) (isR : List Nat) (hRr : isR.map (fun i => ws[i]?) = (isR.filterMap (fun i => ws[i]?)).map some) (hnn : va_nd isR = true) (hdis : ∀ i ∈ isR, i ∉ [q0])
    (kk : ∀ (H1 : Heap) (locs1 : List Loc), B1 (va_A [(b, .inr (ci, fs))] H.size) H1 → (∀ w1 : va_W, va_P D vwCl w1 H1 → va_D (va_A [(b, .inr (ci, fs))] H.size) w1 → va_P D vwCl (isR.filterMap (fun i => ws[i]?) ++ w1) H1 ∧ va_D A (isR.filterMap (fun i => ws[i]?) ++ w1)) → va_S A s.heap H1 locs1 → W p l e R s m args below meth c H1 locs1 (cells + mc) (slots + ms) Q (F0 m (pc + 3) ls rest))
    (hroom : (rest.map fun v => v.category).sum ≤ 8 := by exact Nat.le_of_ble_eq_true rfl) : W p l e R s m args below meth c H locs cells slots Q (F0 m pc ls (.ref b :: rest)) := by
  obtain ⟨hx, hb, hr, hml, hown, hts, hlk, hgk, hA⟩ := id C
  have hC : [q0].map (fun i => ws[i]?) = [(b, .inr (ci, fs))].map some := by simp [hq]
  have hPc := hP.sub (ws' := [(b, .inr (ci, fs))]) [q0] (fm_some hC)
  have hDc : va_D (fun _ => True) [(b, .inr (ci, fs))] := (hD.sub [q0] rfl hC).weaken (fun _ _ _ _ => trivial)
  exact g_runN (va_runI (As := []) (rest := rest) (b := b) ⟨hx, hb, hml, hown, hts⟩ (hM H.size) (cwI 0 hts hG hw hrc hrs (hts _ hini) (hts _ hml1) (hts _ hin) hy1 hd hR) ⟨g_blindN, fun U hU hW => ⟨rfl, by rw [hU], by rw [hU]; exact hPc, ⟨hgk.warm hW, hgn.warm hW⟩, hDc⟩⟩ rfl rfl hl rfl (lv_room hroom) hdg hf) hP hD hS hA [q0] isR hC hRr hnn hdis kk
theorem nz_I (n : Nat) : ∀ cA : ClassId, vp_cell cA (n, .inl (fun _ => 0)) = arrV cA n (fun _ => defaultValue .int) := fun _ => rfl
theorem nz_Z (n : Nat) : ∀ cA : ClassId, vp_cell cA (n, .inl (fun _ => 0)) = arrV cA n (fun _ => defaultValue .boolean) := fun _ => rfl
theorem nz_J (n : Nat) : ∀ cA : ClassId, vp_cell cA (n, .inr (.inl (fun _ => 0))) = arrV cA n (fun _ => defaultValue .long) := fun _ => rfl
theorem nz_R (n : Nat) : ∀ cA : ClassId, Jvm.Free.Multi.innerC cA n (defaultValue .int) = vp_cell cA (n, .inl (fun _ => 0)) := fun cA => (arrV_new cA n (defaultValue .int)).trans rfl
theorem g_uI {cA : ClassId} (h : va_K D vwCl (gTy cI cJ cZ cG ++ [(cA, .int)]) s) : cI = cA := by
  have h1 := va_nm_int (h.2 0 (cI, .int) rfl).2
  have h2 := va_nm_int (h.2 4 (cA, .int) rfl).2
  exact Option.some.inj (h1.symm.trans h2)
theorem g_uJ {cA : ClassId} (h : va_K D vwCl (gTy cI cJ cZ cG ++ [(cA, .long)]) s) : cJ = cA := by
  have h1 := va_nm_long (h.2 1 (cJ, .long) rfl).2
  have h2 := va_nm_long (h.2 4 (cA, .long) rfl).2
  exact Option.some.inj (h1.symm.trans h2)
theorem g_uZ {cA : ClassId} (h : va_K D vwCl (gTy cI cJ cZ cG ++ [(cA, .boolean)]) s) : cZ = cA := by
  have h1 := va_nm_boolean (h.2 2 (cZ, .boolean) rfl).2
  have h2 := va_nm_boolean (h.2 4 (cA, .boolean) rfl).2
  exact Option.some.inj (h1.symm.trans h2)
theorem rw4_eq (r : Nat → Nat) : (fun i => if i < 4 then some (r i) else none) = rw4 (r 0) (r 1) (r 2) (r 3) := by
  funext i
  unfold rw4
  match i with
  | 0 => rfl
  | 1 => rfl
  | 2 => rfl
  | 3 => rfl
  | k + 4 =>
    have h : ¬ k + 4 < 4 := by omega
    have h0 : ¬ k + 4 = 0 := by omega
    have h1 : ¬ k + 4 = 1 := by omega
    have h2 : ¬ k + 4 = 2 := by omega
    have h3 : ¬ k + 4 = 3 := by omega
    simp [h]
/-- new int[4][40] -/
theorem g_grid {index : Nat} {rest : List Value} (C : cx D cI cJ cZ cG A cc nL ret own wsM p s m args meth c) (hP : va_P D vwCl ws H) (hD : va_D A ws) (hS : va_S A s.heap H locs)
    (hcl : Cond.classLink own index "[[I" ∈ wsM) (hov : va_AOA .int s) (har : Cond.arrayClass .int ∈ wsM) (hcells : cells + (1 + 4) ≤ R.cells) (hslots : slots + (4 + 4 * 40) ≤ R.slots) (hdg : decode cc pc = .ok (.multianewarray index 2, 4))
    (kk : ∀ (q r0 r1 r2 r3 : Nat) (H1 : Heap), va_P D vwCl (ws ++ [(q, .inl (cG, 4, .inr (.inr (.inr (.inr (rw4 r0 r1 r2 r3)))))), (r0, .inl (cI, 40, .inl (fun _ => 0))), (r1, .inl (cI, 40, .inl (fun _ => 0))), (r2, .inl (cI, 40, .inl (fun _ => 0))), (r3, .inl (cI, 40, .inl (fun _ => 0)))]) H1 → va_D A (ws ++ [(q, .inl (cG, 4, .inr (.inr (.inr (.inr (rw4 r0 r1 r2 r3)))))), (r0, .inl (cI, 40, .inl (fun _ => 0))), (r1, .inl (cI, 40, .inl (fun _ => 0))), (r2, .inl (cI, 40, .inl (fun _ => 0))), (r3, .inl (cI, 40, .inl (fun _ => 0)))]) → va_S A s.heap H1 locs → W p l e R s m args below meth c H1 locs (cells + 1 + 4) (slots + 4 + 4 * 40) Q (F0 m (pc + 4) ls (.ref q :: rest))) :
    W p l e R s m args below meth c H locs cells slots Q (F0 m pc ls (.int 40 :: .int 4 :: rest)) := by
  obtain ⟨hx, hb, hr, hml, hown, hts, hlk, hgk, hA⟩ := id C
  have hK := hgk.1
  have hcy : s.vm.findClass (FieldType.array .int).toString = some cI := by
    have h1 := va_nm_int (hK.2 0 (cI, .int) rfl).2
    have e : (FieldType.array .int).toString = "[I" := by decide +kernel
    rw [e]; exact h1
  have e2 : "[" ++ (FieldType.array .int).toString = "[[I" := by decide +kernel
  have hP0 : va_P D vwCl (ws ++ va_pl [] (fun _ => .inr (0, []))) H := by rw [show va_pl [] (fun _ => (.inr (0, []) : va_E)) = [] from rfl, List.append_nil]; exact hP
  have hD0 : va_D A (ws ++ va_pl [] (fun _ => .inr (0, []))) := by rw [show va_pl [] (fun _ => (.inr (0, []) : va_E)) = [] from rfl, List.append_nil]; exact hD
  refine va_mna (X := ws) (L := []) (f := fun _ => .inr (0, [])) (N' := 4) (K' := 40) (cy := cI) (ty := .int) (z := (40, .inl (fun _ => 0))) hx hb hown (by rw [e2]; exact hts _ hcl) hov (hts _ har) hcy hK hP0 hD0 hS hA (by decide) (by decide) (by decide) (by decide) (by decide) (by decide) (by decide) rfl rfl hcells hslots (nz_R 40) hdg ?_
  intro q r cA H1 hinj hnl hK2 hP2 hD2 hS2
  have ecG : cG = cA := by
    have h1 : s.vm.findClass ("[" ++ (FieldType.array .int).toString) = some cG := (hK.2 3 (cG, .array .int) rfl).2
    have h2 : s.vm.findClass ("[" ++ (FieldType.array .int).toString) = some cA := (hK2.2 4 (cA, .array .int) rfl).2
    exact Option.some.inj (h1.symm.trans h2)
  subst ecG
  have er : (List.range 4).map r = [r 0, r 1, r 2, r 3] := rfl
  have ep : va_pl ([] ++ (List.range 4).map r) (vr_up (fun _ => .inr (0, [])) ((List.range 4).map r) (.inl (cI, (40, .inl (fun _ => 0))))) = [(r 0, .inl (cI, 40, .inl (fun _ => 0))), (r 1, .inl (cI, 40, .inl (fun _ => 0))), (r 2, .inl (cI, 40, .inl (fun _ => 0))), (r 3, .inl (cI, 40, .inl (fun _ => 0)))] := by
    rw [er]
    simp [va_pl, vr_up]
  rw [ep, rw4_eq] at hP2 hD2
  rw [List.append_assoc] at hP2 hD2
  exact kk q (r 0) (r 1) (r 2) (r 3) H1 hP2 hD2 hS2
end GB3
