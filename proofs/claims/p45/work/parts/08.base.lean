/-! THE STATE: rows of ints by a number; a scalar is a row's place 0 -/
abbrev St : Type := Nat → Nat → Int32
def up (S : St) (k j : Nat) (v : Int32) : St := fun a => if a = k then upd (S a) j v else S a
def ld (S : St) (k n : Nat) (x : Int32) : Option Int32 := if x < 0 ∨ n ≤ x.toNatClampNeg then none else some (S k x.toNatClampNeg)
def sto (S : St) (k n : Nat) (x v : Int32) : Option St := if x < 0 ∨ n ≤ x.toNatClampNeg then none else some (up S k x.toNatClampNeg v)
def zg (v : Int32) : Option Int32 := if v = 0 ∨ v = 1 then some v else none
theorem ld_some {S : St} {k n : Nat} {x v : Int32} (h : ld S k n x = some v) : vp_in x n ∧ S k x.toNatClampNeg = v := by
  unfold ld at h
  split at h
  · cases h
  · rename_i h1
    exact ⟨h1, Option.some.inj h⟩
theorem sto_some {S S' : St} {k n : Nat} {x v : Int32} (h : sto S k n x v = some S') : vp_in x n ∧ up S k x.toNatClampNeg v = S' := by
  unfold sto at h
  split at h
  · cases h
  · rename_i h1
    exact ⟨h1, Option.some.inj h⟩
theorem zg_some {v w : Int32} (h : zg v = some w) : v = w ∧ (w = 0 ∨ w = 1) := by
  unfold zg at h
  split at h
  · rename_i h1
    cases h
    exact ⟨rfl, h1⟩
  · cases h
theorem zg_nar {w : Int32} (h : w = 0 ∨ w = 1) : narrow .boolean (.int w) = .int w := by
  rcases h with rfl | rfl <;> rfl
theorem bnd {α β : Type} {x : Option α} {f : α → Option β} {r : β} (h : x.bind f = some r) : ∃ a, x = some a ∧ f a = some r := Option.bind_eq_some_iff.mp h
theorem ift {α : Type} {c : Prop} [Decidable c] {a b : α} {r : α} (hc : c) (h : (if c then a else b) = r) : a = r := by rw [if_pos hc] at h; exact h
theorem iff_ {α : Type} {c : Prop} [Decidable c] {a b : α} {r : α} (hc : ¬ c) (h : (if c then a else b) = r) : b = r := by rw [if_neg hc] at h; exact h
/-! THE WORLDS -/
def xw (cI : ClassId) (q : Nat → Nat) (S : St) : va_W :=
  [(q 0, .inr (3, [.ref (q 1), .ref (q 2), .ref (q 3), .ref (q 4), .ref (q 5), .ref (q 6), .ref (q 7), .int (S 12 0), .int (S 13 0)])),
   (q 1, .inr (1, [.ref (q 8), .ref (q 9), .int (S 14 0)])),
   (q 2, .inr (2, [.ref (q 10), .ref (q 11), .ref (q 12), .ref (q 13), .int (S 15 0)])),
   (q 3, .inr (0, [.ref (q 14), .ref (q 15)])),
   (q 4, .inl (cI, 24, .inl (S 0))), (q 5, .inl (cI, 24, .inl (S 1))), (q 6, .inl (cI, 24, .inl (S 2))), (q 7, .inl (cI, 24, .inl (S 3))),
   (q 8, .inl (cI, 16, .inl (S 4))), (q 9, .inl (cI, 16, .inl (S 5))), (q 10, .inl (cI, 20, .inl (S 6))), (q 11, .inl (cI, 20, .inl (S 7))),
   (q 12, .inl (cI, 20, .inl (S 8))), (q 13, .inl (cI, 20, .inl (S 9))), (q 14, .inl (cI, 16, .inl (S 10))), (q 15, .inl (cI, 17, .inl (S 11)))]
theorem xw_adr {cI : ClassId} {q : Nat → Nat} (S S' : St) : (xw cI q S).map Prod.fst = (xw cI q S').map Prod.fst := rfl
theorem inW0 : ∀ w ∈ u_ws RX0 TX0 2, w ∈ XALL := fun w h => List.mem_filter.mpr ⟨(by decide +kernel : ∀ w ∈ u_ws RX0 TX0 2, w ∈ lw_tbl) w h, (by decide +kernel : ∀ w ∈ u_ws RX0 TX0 2, goodWord w = true) w h⟩
theorem inW1 : ∀ w ∈ u_ws RX1 TX1 3, w ∈ XALL := fun w h => List.mem_filter.mpr ⟨(by decide +kernel : ∀ w ∈ u_ws RX1 TX1 3, w ∈ lw_tbl) w h, (by decide +kernel : ∀ w ∈ u_ws RX1 TX1 3, goodWord w = true) w h⟩
theorem inW2 : ∀ w ∈ u_ws RX2 TX2 5, w ∈ XALL := fun w h => List.mem_filter.mpr ⟨(by decide +kernel : ∀ w ∈ u_ws RX2 TX2 5, w ∈ lw_tbl) w h, (by decide +kernel : ∀ w ∈ u_ws RX2 TX2 5, goodWord w = true) w h⟩
theorem inW3 : ∀ w ∈ u_ws RX3 TX3 9, w ∈ XALL := fun w h => List.mem_filter.mpr ⟨(by decide +kernel : ∀ w ∈ u_ws RX3 TX3 9, w ∈ lw_tbl) w h, (by decide +kernel : ∀ w ∈ u_ws RX3 TX3 9, goodWord w = true) w h⟩
theorem inW4 : ∀ w ∈ u_ws RX4 TX4 9, w ∈ XALL := fun w h => List.mem_filter.mpr ⟨(by decide +kernel : ∀ w ∈ u_ws RX4 TX4 9, w ∈ lw_tbl) w h, (by decide +kernel : ∀ w ∈ u_ws RX4 TX4 9, goodWord w = true) w h⟩
/-! WHAT TRAVELS BESIDE THE WORLD: words of the nest, the texts -/
def xEnv (U : State) : Prop := ∀ w ∈ NW, va_Nw w U
theorem nw_warm {w : Cond} (hw : nwOK w = true) {s U : State} (hW : s.WarmedH U.vm) (h : va_Nw w s) : va_Nw w U := by
  cases w <;> first | (exact va_Nw.warmF hW h) | (exact va_Nw.warmM hW h) | (exact va_Nw.warmC hW h) | (exact va_Nw.warmD hW h) | (exact absurd hw (by simp [nwOK]))
theorem xEnv.warm {s U : State} (hW : s.WarmedH U.vm) (h : xEnv s) : xEnv U := fun w hw => nw_warm (List.mem_filter.mp hw).2 hW (h w hw)
theorem nw_on {w : Cond} (hw : nwOK w = true) : w.onTables = true := by
  cases w <;> first | rfl | (exact absurd hw (by simp [nwOK]))
theorem xEnv.same {s U : State} (hW : s.vm = U.vm) (h : xEnv s) : xEnv U := fun w hw => va_Nw.same (nw_on (List.mem_filter.mp hw).2) hW (h w hw)
def gE (D : va_G) (cI : ClassId) (s : State) : Prop := va_K D vwCl [(cI, .int)] s ∧ xEnv s
def gPre (D : va_G) (cI : ClassId) (ws : va_W) (sz : Nat) (U : State) : Prop :=
  U.heap.size = sz ∧ va_P D vwCl ws U.heap ∧ va_K D vwCl [(cI, .int)] U ∧ va_D (fun _ => True) ws ∧ xEnv U
def gW (D : va_G) (ws0 ws : va_W) (s : State) (H : Heap) (locs : List Loc) : Prop :=
  va_P D vwCl ws H ∧ va_D (va_A ws0 s.heap.size) ws ∧ va_S (va_A ws0 s.heap.size) s.heap H locs
theorem gPre_blind {D : va_G} {cI : ClassId} {ws : va_W} {sz : Nat} {av : List Value} : FrameBlind (va_Pc av (gPre D cI ws sz)) := by
  intro a U g mk h
  obtain ⟨h0, h1, h2, h3, h4, h5⟩ := h
  exact ⟨h0, h1, h2, va_K.moved (u := U) (U := U.calling g mk a) (Vm.Alike.refl U.vm) h3, h4, xEnv.same (s := U) (U := U.calling g mk a) rfl h5⟩
theorem g_start {D : va_G} {cI : ClassId} {ws : va_W} {sz : Nat} {s : State} (h : gPre D cI ws sz s) : gE D cI s ∧ gW D ws ws s s.heap [] ∧ s.heap.size = sz :=
  ⟨⟨h.2.2.1, h.2.2.2.2⟩, ⟨h.2.1, h.2.2.2.1.self, va_S.rf⟩, h.1⟩
theorem adr_get {ws ws' : va_W} (h : ws.map Prod.fst = ws'.map Prod.fst) {k : Nat} {a : Nat} {e : va_E} (hk : ws'[k]? = some (a, e)) : ∃ e', ws[k]? = some (a, e') := by
  have h1 : (ws.map Prod.fst)[k]? = some a := by rw [h, List.getElem?_map, hk]; rfl
  rw [List.getElem?_map] at h1
  cases h2 : ws[k]? with
  | none => rw [h2] at h1; cases h1
  | some x =>
    rw [h2] at h1
    obtain ⟨a', e'⟩ := x
    have : a' = a := Option.some.inj h1
    subst this
    exact ⟨e', rfl⟩
theorem gD {A : Nat → Prop} {ws ws' : va_W} (h : ws.map Prod.fst = ws'.map Prod.fst) (hD : va_D A ws) : va_D A ws' := by
  refine ⟨fun i j x y hi hj hxy => ?_, fun k x hk => ?_⟩
  · obtain ⟨a, e⟩ := x
    obtain ⟨b, f⟩ := y
    obtain ⟨e', h1⟩ := adr_get h hi
    obtain ⟨f', h2⟩ := adr_get h hj
    exact hD.1 i j _ _ h1 h2 hxy
  · obtain ⟨a, e⟩ := x
    obtain ⟨e', h1⟩ := adr_get h hk
    exact hD.2 k (a, e') h1
theorem gF {A : Nat → Prop} {ws : va_W} {H0 H : Heap} {locs : List Loc} (hD : va_D A ws) (hS : va_S A H0 H locs) (hA : ∀ q, H0.size ≤ q → A q) : ∀ q, va_A ws H.size q → A q := by
  intro q h
  rcases h with ⟨k, e, h⟩ | h
  · exact hD.2 k (q, e) h
  · exact hA q (Nat.le_trans hS.1 h)
theorem gW.A {D : va_G} {ws0 ws : va_W} {s : State} {H : Heap} {locs : List Loc} (h : gW D ws0 ws s H locs) : ∀ q, va_A ws H.size q → va_A ws0 s.heap.size q :=
  gF h.2.1 h.2.2 (fun _ h => Or.inr h)
theorem gW.F {D : va_G} {ws0 ws : va_W} {s t : State} {H : Heap} {locs : List Loc} (h : gW D ws0 ws s H locs) (ht : t.heap = H) : va_F (va_A ws0 s.heap.size) s t := h.2.2.F ht
theorem gPre_of {D : va_G} {cI : ClassId} {ws0 ws : va_W} {s U : State} {H : Heap} {locs : List Loc} (E : gE D cI s) (h : gW D ws0 ws s H locs) (hU : U.heap = H) (hW : s.WarmedH U.vm) : gPre D cI ws H.size U :=
  ⟨by rw [hU], by rw [hU]; exact h.1, va_K.moved hW.alike E.1, h.2.1.weaken (fun _ _ _ _ => trivial), xEnv.warm hW E.2⟩
/-- what stands throughout a method's walk -/
def Ctx (p : Program) (s : State) (m : MethodId) (args : Array Value) (meth : Method) (c : Code) (cc : ByteArray) (nL : Nat) (own : String) (ret : Option FieldType) : Prop :=
  p.tables.exec = Jvm.exec ∧ c.code = cc ∧ c.maxLocals = nL ∧ s.vm.findClass own = some m.cls ∧ (∀ w ∈ XALL, w.before args s = true) ∧ meth.sig.returnType = ret ∧ meth.locks = false
theorem Ctx.fix {p : Program} {s : State} {m : MethodId} {args : Array Value} {meth : Method} {c : Code} {cc : ByteArray} {nL : Nat} {own : String} {ret : Option FieldType} (h : Ctx p s m args meth c cc nL own ret) : CallFix p m c cc nL s args XALL own := ⟨h.1, h.2.1, h.2.2.1, h.2.2.2.1, h.2.2.2.2.1⟩
theorem Ctx.of {p : Program} {l : Launch} {y : MethodName} {rm : Room} {cc : ByteArray} {maxL : Nat} {ret : Option FieldType} {e : Env} {s s₁ : State} {m : MethodId} {args : Array Value} {below : List Frame} {meth : Method} {c : Code} {w : Cond} {own : String}
    (B : BodyLoose p l y (headSpec (w :: XALL) rm) cc maxL ret e s m args below meth c s₁) (hml : c.maxLocals = maxL) (ho : own = y.cls) : Ctx p s m args meth c cc maxL own ret :=
  ⟨B.exec, B.bytes, hml, by rw [ho]; exact findClass_of_methodNamed B.named, fun w h => atoms_spec (ws := _ :: XALL) B.pre w (List.mem_cons_of_mem _ h), B.returns, B.notSynchronized⟩
/-- a method that can be called: its words -/
def Fct (y : MethodName) (bytes : ByteArray) (maxL : Nat) (ret : Option FieldType) (n : Nat) : Prop :=
  Cond.code y bytes maxL ret ∈ XALL ∧ Cond.initialized y.cls ∈ XALL ∧ y.cls ≠ "java/lang/invoke/MethodHandle" ∧ y.cls ≠ "java/lang/invoke/VarHandle" ∧ (parseMethodDescriptor y.desc).map (fun d => d.parameters.length) = some n
def FctV (y : MethodName) (bytes : ByteArray) (maxL : Nat) (ret : Option FieldType) (n : Nat) : Prop :=
  Fct y bytes maxL ret n ∧ Cond.instanceMethod y ∈ XALL ∧ Cond.selects y.cls y y ∈ XALL
def FctS (y : MethodName) (bytes : ByteArray) (maxL : Nat) (ret : Option FieldType) (n : Nat) : Prop :=
  Fct y bytes maxL ret n ∧ Cond.static y ∈ XALL
section BASE
variable {p : Program} {l : Launch} {e : Env} {R : Room} {s : State} {m : MethodId} {args : Array Value} {below : List Frame} {meth : Method} {c : Code} {H : Heap} {locs : List Loc} {cells slots : Nat} {Q : State → Prop}
variable {cc bytes : ByteArray} {nL maxL : Nat} {own : String} {ret rt : Option FieldType} {D : va_G} {cI : ClassId} {pc : Nat} {ls : Array Slot} {rest st0 : List Value}
theorem topi_b {x y : Int32} (h : some x = some y) (k : W p l e R s m args below meth c H locs cells slots Q (F0 m pc ls (.int y :: rest))) : W p l e R s m args below meth c H locs cells slots Q (F0 m pc ls (.int x :: rest)) := by cases h; exact k
theorem topl_b {x y : Int64} (h : some x = some y) (k : W p l e R s m args below meth c H locs cells slots Q (F0 m pc ls (.long y :: rest))) : W p l e R s m args below meth c H locs cells slots Q (F0 m pc ls (.long x :: rest)) := by cases h; exact k
theorem inc1 {x y : Int32} (h : some (x + 1) = some y) : x + Int32.ofInt 1 = y := Option.some.inj h
theorem fct_B {y : MethodName} {n index : Nat} {rm : Room} (C : Ctx p s m args meth c cc nL own ret) (F : Fct y bytes maxL rt n) (hk : Cond.methodLink own index y ∈ XALL) (hR : rm.frames + 1 ≤ R.frames ∧ 8 + (maxL + 11) + rm.locals ≤ R.locals) :
    CallB R s args own index y bytes maxL rt (Cond.code y bytes maxL rt :: XALL) rm rm.cells rm.slots n :=
  callB_of n C.2.2.2.2.1 (XALL_in F.1) rfl rfl rfl (C.2.2.2.2.1 _ F.2.1) (C.2.2.2.2.1 _ hk) F.2.2 hR
theorem fct_N {y : MethodName} {n index : Nat} {rm : Room} {host : String} (C : Ctx p s m args meth c cc nL own ret) (E : gE D cI s) (F : Fct y bytes maxL rt n) (hk : Cond.methodLinkNest own index y host ∈ NW) (hR : rm.frames + 1 ≤ R.frames ∧ 8 + (maxL + 11) + rm.locals ≤ R.locals) :
    va_CN R s args own index y host bytes maxL rt (Cond.code y bytes maxL rt :: XALL) rm rm.cells rm.slots n :=
  va_cnB n C.2.2.2.2.1 (XALL_in F.1) rfl rfl rfl (E.2 _ hk) (C.2.2.2.2.1 _ F.2.1) F.2.2 hR
variable {wf : St → va_W} {S : St} {ws0 : va_W} {b : Nat} {As : List Value} {rm : Room} {y : MethodName} {n index : Nat} {Qc : Array Value → State → Outcome → State → Prop} {XC : String → State → State → Prop} {free : Addr → Prop} {host : String}
/-- the run of a method of the own class (private or public), of an object of the world -/
theorem g_runV (C : Ctx p s m args meth c cc nL own ret) (E : gE D cI s) {ws : va_W} (hw : gW D ws0 ws s H locs) (F : FctV y bytes maxL rt n) (hM : Met l y (Cond.code y bytes maxL rt :: XALL) rm (va_Pc (.ref b :: As) (gPre D cI ws H.size)) Qc rm.cells rm.slots free) (hk : Cond.methodLink own index y ∈ XALL)
    (q0 : Nat) {ci : Nat} {fs : List Value} {T : u_T} {N : Nat} (he : ws[q0]? = some (b, .inr (ci, fs))) (hc : vwCl[ci]? = some (y.cls, T, N)) (hn : As.length = n) (hsize : ls.size = nL) (hst : st0 = As.reverse ++ .ref b :: rest) (hr8 : (rest.map fun v => v.category).sum ≤ 8) (hR : rm.frames + 1 ≤ R.frames ∧ 8 + (maxL + 11) + rm.locals ≤ R.locals) (hf : cells + rm.cells ≤ R.cells ∧ slots + rm.slots ≤ R.slots) (hdg : decode cc pc = .ok (.invokevirtual index, 3)) :
    va_Run p l e R s m args below meth c H locs cells slots rm.cells rm.slots (F0 m pc ls st0) rest (Qc (Value.ref b :: As).toArray) free :=
  va_runV C.fix hM ⟨fct_B C F.1 hk hR, C.2.2.2.2.1 _ F.2.1, C.2.2.2.2.1 _ F.2.2⟩ ⟨gPre_blind, va_recv (q := (y.cls, T, N)) E.1 hw.1 hc he, fun U hU hW => ⟨rfl, gPre_of E hw hU hW⟩⟩ rfl hn hsize hst (lv_room hr8) hdg hf
theorem g_runVN (C : Ctx p s m args meth c cc nL own ret) (E : gE D cI s) {ws : va_W} (hw : gW D ws0 ws s H locs) (F : FctV y bytes maxL rt n) (hM : Met l y (Cond.code y bytes maxL rt :: XALL) rm (va_Pc (.ref b :: As) (gPre D cI ws H.size)) Qc rm.cells rm.slots free) (hk : Cond.methodLinkNest own index y host ∈ NW)
    (q0 : Nat) {ci : Nat} {fs : List Value} {T : u_T} {N : Nat} (he : ws[q0]? = some (b, .inr (ci, fs))) (hc : vwCl[ci]? = some (y.cls, T, N)) (hn : As.length = n) (hsize : ls.size = nL) (hst : st0 = As.reverse ++ .ref b :: rest) (hr8 : (rest.map fun v => v.category).sum ≤ 8) (hR : rm.frames + 1 ≤ R.frames ∧ 8 + (maxL + 11) + rm.locals ≤ R.locals) (hf : cells + rm.cells ≤ R.cells ∧ slots + rm.slots ≤ R.slots) (hdg : decode cc pc = .ok (.invokevirtual index, 3)) :
    va_Run p l e R s m args below meth c H locs cells slots rm.cells rm.slots (F0 m pc ls st0) rest (Qc (Value.ref b :: As).toArray) free :=
  va_runVN C.fix hM ⟨fct_N C E F.1 hk hR, C.2.2.2.2.1 _ F.2.1, C.2.2.2.2.1 _ F.2.2⟩ ⟨gPre_blind, va_recv (q := (y.cls, T, N)) E.1 hw.1 hc he, fun U hU hW => ⟨rfl, gPre_of E hw hU hW⟩⟩ rfl hn hsize hst (lv_room hr8) hdg hf
/-- a static method that looks at the world -/
theorem g_runS (C : Ctx p s m args meth c cc nL own ret) (E : gE D cI s) {ws : va_W} (hw : gW D ws0 ws s H locs) (F : FctS y bytes maxL rt n) (hM : Met l y (Cond.code y bytes maxL rt :: XALL) rm (va_Pc As (gPre D cI ws H.size)) Qc rm.cells rm.slots free) (hk : Cond.methodLink own index y ∈ XALL)
    (hn : As.length = n) (hsize : ls.size = nL) (hst : st0 = As.reverse ++ rest) (hr8 : (rest.map fun v => v.category).sum ≤ 8) (hR : rm.frames + 1 ≤ R.frames ∧ 8 + (maxL + 11) + rm.locals ≤ R.locals) (hf : cells + rm.cells ≤ R.cells ∧ slots + rm.slots ≤ R.slots) (hdg : decode cc pc = .ok (.invokestatic index, 3)) :
    va_Run p l e R s m args below meth c H locs cells slots rm.cells rm.slots (F0 m pc ls st0) rest (Qc As.toArray) free :=
  va_runS C.fix hM ⟨fct_B C F.1 hk hR, C.2.2.2.2.1 _ F.2⟩ ⟨gPre_blind, fun U hU hW => ⟨rfl, gPre_of E hw hU hW⟩⟩ rfl hn hsize hst (lv_room hr8) hdg hf
/-- a static method without a world -/
theorem tru_blind {av : List Value} : FrameBlind (va_Pc av (fun _ => True)) := fun _ _ _ _ h => h
theorem g_run0 (C : Ctx p s m args meth c cc nL own ret) (F : FctS y bytes maxL rt n) (hM : Met l y (Cond.code y bytes maxL rt :: XALL) rm (va_Pc As (fun _ => True)) Qc rm.cells rm.slots free) (hk : Cond.methodLink own index y ∈ XALL)
    (hn : As.length = n) (hsize : ls.size = nL) (hst : st0 = As.reverse ++ rest) (hr8 : (rest.map fun v => v.category).sum ≤ 8) (hR : rm.frames + 1 ≤ R.frames ∧ 8 + (maxL + 11) + rm.locals ≤ R.locals) (hf : cells + rm.cells ≤ R.cells ∧ slots + rm.slots ≤ R.slots) (hdg : decode cc pc = .ok (.invokestatic index, 3)) :
    va_Run p l e R s m args below meth c H locs cells slots rm.cells rm.slots (F0 m pc ls st0) rest (Qc As.toArray) free :=
  va_runS C.fix hM ⟨fct_B C F.1 hk hR, C.2.2.2.2.1 _ F.2⟩ ⟨tru_blind, fun U hU hW => ⟨rfl, trivial⟩⟩ rfl hn hsize hst (lv_room hr8) hdg hf
theorem g_run0N (C : Ctx p s m args meth c cc nL own ret) (E : gE D cI s) (F : FctS y bytes maxL rt n) (hM : Met l y (Cond.code y bytes maxL rt :: XALL) rm (va_Pc As (fun _ => True)) Qc rm.cells rm.slots free) (hk : Cond.methodLinkNest own index y host ∈ NW)
    (hn : As.length = n) (hsize : ls.size = nL) (hst : st0 = As.reverse ++ rest) (hr8 : (rest.map fun v => v.category).sum ≤ 8) (hR : rm.frames + 1 ≤ R.frames ∧ 8 + (maxL + 11) + rm.locals ≤ R.locals) (hf : cells + rm.cells ≤ R.cells ∧ slots + rm.slots ≤ R.slots) (hdg : decode cc pc = .ok (.invokestatic index, 3)) :
    va_Run p l e R s m args below meth c H locs cells slots rm.cells rm.slots (F0 m pc ls st0) rest (Qc As.toArray) free :=
  va_runSN C.fix hM ⟨fct_N C E F.1 hk hR, C.2.2.2.2.1 _ F.2, trivial⟩ ⟨tru_blind, fun U hU hW => ⟨rfl, trivial⟩⟩ rfl hn hsize hst (lv_room hr8) hdg hf
/-! behind a call -/
theorem gW_call {wf : St → va_W} {S S1 : St} {H1 : Heap} {locs1 : List Loc} {t : State} (ha : ∀ S S', (wf S).map Prod.fst = (wf S').map Prod.fst) (hw : gW D ws0 (wf S) s H locs) (ht : t.heap = H1) (hB : va_P D vwCl (wf S1) t.heap) (hS : va_S (va_A ws0 s.heap.size) s.heap H1 locs1) : gW D ws0 (wf S1) s H1 locs1 :=
  ⟨by rw [← ht]; exact hB, gD (ha S S1) hw.2.1, hS⟩
theorem gW_keep {ws : va_W} {H1 : Heap} {locs1 : List Loc} (hw : gW D ws0 ws s H locs) (hk : ∀ q : Nat, q < H.size → ¬ False → H1[q]? = H[q]?) (hS : va_S (va_A ws0 s.heap.size) s.heap H1 locs1) : gW D ws0 ws s H1 locs1 :=
  ⟨hw.1.kept (fun k q hq => hk q.1 (hw.1 k q hq).lt (fun h => h)), hw.2.1, hS⟩
variable {a : Array Value} {mc ms : Nat}
theorem g_ci (ha : ∀ S S', (wf S).map Prod.fst = (wf S').map Prod.fst) (hw : gW D ws0 (wf S) s H locs) {post : Int32 → St → Prop} (hr : va_Run p l e R s m args below meth c H locs cells slots mc ms (F0 m pc ls st0) rest (va_Qi post (fun u t => va_P D vwCl (wf u) t.heap) (va_A (wf S) H.size) a) (va_A (wf S) H.size))
    (kk : ∀ (r : Int32) (u : St), post r u → ∀ (H : Heap) (locs : List Loc), gW D ws0 (wf u) s H locs → W p l e R s m args below meth c H locs (cells + mc) (slots + ms) Q (F0 m (pc + 3) ls (.int r :: rest))) : W p l e R s m args below meth c H locs cells slots Q (F0 m pc ls st0) :=
  va_calli hr hw.2.2 (fun q _ h => hw.A q h) hw.A (fun r u t H1 locs1 ht _ hp hB _ _ hS => kk r u hp H1 locs1 (gW_call ha hw ht hB hS))
theorem g_cl (ha : ∀ S S', (wf S).map Prod.fst = (wf S').map Prod.fst) (hw : gW D ws0 (wf S) s H locs) {post : Int64 → St → Prop} (hr : va_Run p l e R s m args below meth c H locs cells slots mc ms (F0 m pc ls st0) rest (va_Ql post (fun u t => va_P D vwCl (wf u) t.heap) (va_A (wf S) H.size) a) (va_A (wf S) H.size))
    (kk : ∀ (r : Int64) (u : St), post r u → ∀ (H : Heap) (locs : List Loc), gW D ws0 (wf u) s H locs → W p l e R s m args below meth c H locs (cells + mc) (slots + ms) Q (F0 m (pc + 3) ls (.long r :: rest))) : W p l e R s m args below meth c H locs cells slots Q (F0 m pc ls st0) :=
  va_calll hr hw.2.2 (fun q _ h => hw.A q h) hw.A (fun r u t H1 locs1 ht _ hp hB _ _ hS => kk r u hp H1 locs1 (gW_call ha hw ht hB hS))
theorem g_cv (ha : ∀ S S', (wf S).map Prod.fst = (wf S').map Prod.fst) (hw : gW D ws0 (wf S) s H locs) {post : St → Prop} (hr : va_Run p l e R s m args below meth c H locs cells slots mc ms (F0 m pc ls st0) rest (va_Qv post (fun u t => va_P D vwCl (wf u) t.heap) (va_A (wf S) H.size) a) (va_A (wf S) H.size))
    (kk : ∀ (u : St), post u → ∀ (H : Heap) (locs : List Loc), gW D ws0 (wf u) s H locs → W p l e R s m args below meth c H locs (cells + mc) (slots + ms) Q (F0 m (pc + 3) ls rest)) : W p l e R s m args below meth c H locs cells slots Q (F0 m pc ls st0) :=
  va_callv hr hw.2.2 (fun q _ h => hw.A q h) hw.A (fun u t H1 locs1 ht _ hp hB _ _ hS => kk u hp H1 locs1 (gW_call ha hw ht hB hS))
theorem g_ci0 {ws : va_W} (hw : gW D ws0 ws s H locs) {post : Int32 → Unit → Prop} (hr : va_Run p l e R s m args below meth c H locs cells slots mc ms (F0 m pc ls st0) rest (va_Qi post (fun _ _ => True) (fun _ => False) a) (fun _ => False))
    (kk : ∀ (r : Int32), post r () → ∀ (H : Heap) (locs : List Loc), gW D ws0 ws s H locs → W p l e R s m args below meth c H locs (cells + mc) (slots + ms) Q (F0 m (pc + 3) ls (.int r :: rest))) : W p l e R s m args below meth c H locs cells slots Q (F0 m pc ls st0) :=
  va_calli hr hw.2.2 (fun q _ h => h.elim) (fun q h => h.elim) (fun r u t H1 locs1 _ _ hp _ _ hk hS => kk r hp H1 locs1 (gW_keep hw hk hS))
theorem g_cl0 {ws : va_W} (hw : gW D ws0 ws s H locs) {post : Int64 → Unit → Prop} (hr : va_Run p l e R s m args below meth c H locs cells slots mc ms (F0 m pc ls st0) rest (va_Ql post (fun _ _ => True) (fun _ => False) a) (fun _ => False))
    (kk : ∀ (r : Int64), post r () → ∀ (H : Heap) (locs : List Loc), gW D ws0 ws s H locs → W p l e R s m args below meth c H locs (cells + mc) (slots + ms) Q (F0 m (pc + 3) ls (.long r :: rest))) : W p l e R s m args below meth c H locs cells slots Q (F0 m pc ls st0) :=
  va_calll hr hw.2.2 (fun q _ h => h.elim) (fun q h => h.elim) (fun r u t H1 locs1 _ _ hp _ _ hk hS => kk r hp H1 locs1 (gW_keep hw hk hS))
/-- the same in a walk that has no world: only 'va_S' with nothing of its own -/
def zS (s : State) (H : Heap) (locs : List Loc) : Prop := va_S (fun _ => False) s.heap H locs
theorem g_ci00 (hS : zS s H locs) {post : Int32 → Unit → Prop} (hr : va_Run p l e R s m args below meth c H locs cells slots mc ms (F0 m pc ls st0) rest (va_Qi post (fun _ _ => True) (fun _ => False) a) (fun _ => False))
    (kk : ∀ (r : Int32), post r () → ∀ (H : Heap) (locs : List Loc), zS s H locs → W p l e R s m args below meth c H locs (cells + mc) (slots + ms) Q (F0 m (pc + 3) ls (.int r :: rest))) : W p l e R s m args below meth c H locs cells slots Q (F0 m pc ls st0) :=
  va_calli hr hS (fun q _ h => h) (fun q h => h) (fun r u t H1 locs1 _ _ hp _ _ _ hS => kk r hp H1 locs1 hS)
theorem g_cl00 (hS : zS s H locs) {post : Int64 → Unit → Prop} (hr : va_Run p l e R s m args below meth c H locs cells slots mc ms (F0 m pc ls st0) rest (va_Ql post (fun _ _ => True) (fun _ => False) a) (fun _ => False))
    (kk : ∀ (r : Int64), post r () → ∀ (H : Heap) (locs : List Loc), zS s H locs → W p l e R s m args below meth c H locs (cells + mc) (slots + ms) Q (F0 m (pc + 3) ls (.long r :: rest))) : W p l e R s m args below meth c H locs cells slots Q (F0 m pc ls st0) :=
  va_calll hr hS (fun q _ h => h) (fun q h => h) (fun r u t H1 locs1 _ _ hp _ _ _ hS => kk r hp H1 locs1 hS)
/-! fields and rows of the world -/
theorem g_get (C : Ctx p s m args meth c cc nL own ret) (E : gE D cI s) {ws : va_W} (hw : gW D ws0 ws s H locs) {Cn : String} {T : u_T} {N ci : Nat} {b : Nat} (hin : ∀ w ∈ u_ws Cn T N, w ∈ XALL) (q0 : Nat) {fs : List Value} (he : ws[q0]? = some (b, .inr (ci, fs))) (hc : vwCl[ci]? = some (Cn, T, N)) (k : Nat) (hk : k < N)
    (hl : Cond.fieldLink own index (T k).1 (T k).2.1 (T k).2.2.1 ∈ XALL) {v : Value} (hv : fs[k]? = some v) (hdg : decode cc pc = .ok (.getfield index, 3)) (kk : W p l e R s m args below meth c H locs cells slots Q (F0 m (pc + 3) ls (v :: rest))) : W p l e R s m args below meth c H locs cells slots Q (F0 m pc ls (.ref b :: rest)) :=
  va_get C.1 C.2.1 C.2.2.2.2.1 hin C.2.2.2.1 E.1 hw.1 q0 he hc k hk (C.2.2.2.2.1 _ hl) (fun _ h => h) hv hdg kk
theorem g_getN (C : Ctx p s m args meth c cc nL own ret) (E : gE D cI s) {ws : va_W} (hw : gW D ws0 ws s H locs) {Cn : String} {T : u_T} {N ci : Nat} {b : Nat} (hin : ∀ w ∈ u_ws Cn T N, w ∈ XALL) (q0 : Nat) {fs : List Value} (he : ws[q0]? = some (b, .inr (ci, fs))) (hc : vwCl[ci]? = some (Cn, T, N)) (k : Nat) (hk : k < N)
    (hl : Cond.fieldLinkNest own index (T k).1 (T k).2.1 (T k).2.2.1 host ∈ NW) {v : Value} (hv : fs[k]? = some v) (hdg : decode cc pc = .ok (.getfield index, 3)) (kk : W p l e R s m args below meth c H locs cells slots Q (F0 m (pc + 3) ls (v :: rest))) : W p l e R s m args below meth c H locs cells slots Q (F0 m pc ls (.ref b :: rest)) :=
  va_getN C.1 C.2.1 C.2.2.2.2.1 hin C.2.2.2.1 E.1 hw.1 q0 he hc k hk (va_Nw.use (nw_on (List.mem_filter.mp hl).2) (E.2 _ hl)) (fun _ h => h) hv hdg kk
theorem g_put (C : Ctx p s m args meth c cc nL own ret) (E : gE D cI s) {ws ws' : va_W} (hw : gW D ws0 ws s H locs) {Cn : String} {T : u_T} {N ci : Nat} {b : Nat} (hin : ∀ w ∈ u_ws Cn T N, w ∈ XALL) (ty0 : Nat → FieldType) (hty : ∀ k, k < N → parseFieldDescriptor (T k).2.2.1 = some (ty0 k)) (hnm : ∀ a, a < N → ∀ b, b < N → a ≠ b → (T a).2.1 ≠ (T b).2.1) (q0 : Nat) {fs : List Value} (he : ws[q0]? = some (b, .inr (ci, fs))) (hc : vwCl[ci]? = some (Cn, T, N)) (k : Nat) (hk : k < N)
    (hl : Cond.fieldLink own index (T k).1 (T k).2.1 (T k).2.2.1 ∈ XALL) (hfin : (T k).2.2.2 = false) (hd : parseFieldDescriptor (T k).2.2.1 = some .int) {v : Int32} (hlen : k < fs.length) (hset : ws.set q0 (b, .inr (ci, fs.set k (.int v))) = ws') (hdg : decode cc pc = .ok (.putfield index, 3)) (kk : ∀ (H : Heap) (locs : List Loc), gW D ws0 ws' s H locs → W p l e R s m args below meth c H locs cells slots Q (F0 m (pc + 3) ls rest)) : W p l e R s m args below meth c H locs cells slots Q (F0 m pc ls (.int v :: .ref b :: rest)) :=
  va_put C.1 C.2.1 C.2.2.2.2.1 hin ty0 hty hnm C.2.2.2.1 E.1 hw.1 hw.2.1 hw.2.2 q0 he hc k hk (C.2.2.2.2.1 _ hl) (fun _ h => h) hfin hd rfl rfl hlen hdg (fun H1 locs1 hP hD hS => kk H1 locs1 (by rw [← hset]; exact ⟨hP, hD, hS⟩))
theorem g_putN (C : Ctx p s m args meth c cc nL own ret) (E : gE D cI s) {ws ws' : va_W} (hw : gW D ws0 ws s H locs) {Cn : String} {T : u_T} {N ci : Nat} {b : Nat} (hin : ∀ w ∈ u_ws Cn T N, w ∈ XALL) (ty0 : Nat → FieldType) (hty : ∀ k, k < N → parseFieldDescriptor (T k).2.2.1 = some (ty0 k)) (hnm : ∀ a, a < N → ∀ b, b < N → a ≠ b → (T a).2.1 ≠ (T b).2.1) (q0 : Nat) {fs : List Value} (he : ws[q0]? = some (b, .inr (ci, fs))) (hc : vwCl[ci]? = some (Cn, T, N)) (k : Nat) (hk : k < N)
    (hl : Cond.fieldLinkNest own index (T k).1 (T k).2.1 (T k).2.2.1 host ∈ NW) (hfin : (T k).2.2.2 = false) (hd : parseFieldDescriptor (T k).2.2.1 = some .int) {v : Int32} (hlen : k < fs.length) (hset : ws.set q0 (b, .inr (ci, fs.set k (.int v))) = ws') (hdg : decode cc pc = .ok (.putfield index, 3)) (kk : ∀ (H : Heap) (locs : List Loc), gW D ws0 ws' s H locs → W p l e R s m args below meth c H locs cells slots Q (F0 m (pc + 3) ls rest)) : W p l e R s m args below meth c H locs cells slots Q (F0 m pc ls (.int v :: .ref b :: rest)) :=
  va_putN C.1 C.2.1 C.2.2.2.2.1 hin ty0 hty hnm C.2.2.2.1 E.1 hw.1 hw.2.1 hw.2.2 q0 he hc k hk (va_Nw.use (nw_on (List.mem_filter.mp hl).2) (E.2 _ hl)) (fun _ h => h) hfin hd rfl rfl hlen hdg (fun H1 locs1 hP hD hS => kk H1 locs1 (by rw [← hset]; exact ⟨hP, hD, hS⟩))
theorem g_ald (C : Ctx p s m args meth c cc nL own ret) (E : gE D cI s) {ws : va_W} (hw : gW D ws0 ws s H locs) {b n : Nat} {f : Nat → Int32} (q0 : Nat) (he : ws[q0]? = some (b, .inl (cI, n, .inl f))) {i v : Int32} (hi : vp_in i n ∧ f i.toNatClampNeg = v) (hdg : decode cc pc = .ok (.iaload, 1)) (kk : W p l e R s m args below meth c H locs cells slots Q (F0 m (pc + 1) ls (.int v :: rest))) : W p l e R s m args below meth c H locs cells slots Q (F0 m pc ls (.int i :: .ref b :: rest)) := by
  obtain ⟨h1, rfl⟩ := hi
  exact va_iald C.1 C.2.1 E.1 hw.1 q0 0 he rfl h1 hdg kk
theorem g_ast (C : Ctx p s m args meth c cc nL own ret) (E : gE D cI s) {ws ws' : va_W} (hw : gW D ws0 ws s H locs) {b n : Nat} {f : Nat → Int32} (q0 : Nat) (he : ws[q0]? = some (b, .inl (cI, n, .inl f))) {i x : Int32} (hi : vp_in i n) (hset : ws.set q0 (b, .inl (cI, n, .inl (upd f i.toNatClampNeg x))) = ws') (hdg : decode cc pc = .ok (.iastore, 1)) (kk : ∀ (H : Heap) (locs : List Loc), gW D ws0 ws' s H locs → W p l e R s m args below meth c H locs cells slots Q (F0 m (pc + 1) ls rest)) : W p l e R s m args below meth c H locs cells slots Q (F0 m pc ls (.int x :: .int i :: .ref b :: rest)) :=
  va_iast C.1 C.2.1 E.1 hw.1 hw.2.1 hw.2.2 q0 0 he rfl hi hdg (fun H1 locs1 hP hD hS => kk H1 locs1 (by rw [← hset]; exact ⟨hP, hD, hS⟩))
/-! ends -/
theorem g_iret (C : Ctx p s m args meth c cc nL own (some .int)) {wf : St → va_W} {S0 S : St} (hw : gW D (wf S0) (wf S) s H locs) {mc ms : Nat} (hc : cells ≤ mc) (hs : slots ≤ ms) {post : Int32 → St → Prop} {v : Int32} (hp : post v S) (hdg : decode cc pc = .ok (.ireturn, 1)) :
    W p l e R s m args below meth c H locs cells slots (MQ below (va_Qi post (fun u t => va_P D vwCl (wf u) t.heap) (va_A (wf S0) s.heap.size)) args s mc ms (va_A (wf S0) s.heap.size)) (F0 m pc ls [.int v]) :=
  W.widen hc hs (W.iret C.1 C.2.1 C.2.2.2.2.2.1 (fun t ht hW => ⟨⟨v, S, rfl, hp, by show va_P D vwCl (wf S) t.heap; rw [ht]; exact hw.1⟩, hw.F ht⟩) hw.2.2.2.2 hdg C.2.2.2.2.2.2)
theorem g_zret (C : Ctx p s m args meth c cc nL own (some .boolean)) {wf : St → va_W} {S0 S : St} (hw : gW D (wf S0) (wf S) s H locs) {mc ms : Nat} (hc : cells ≤ mc) (hs : slots ≤ ms) {post : Int32 → St → Prop} {v : Int32} (hv : v = 0 ∨ v = 1) (hp : post v S) (hdg : decode cc pc = .ok (.ireturn, 1)) :
    W p l e R s m args below meth c H locs cells slots (MQ below (va_Qi post (fun u t => va_P D vwCl (wf u) t.heap) (va_A (wf S0) s.heap.size)) args s mc ms (va_A (wf S0) s.heap.size)) (F0 m pc ls [.int v]) :=
  W.widen hc hs (W.zret C.1 C.2.1 C.2.2.2.2.2.1 (zg_nar hv) (fun t ht hW => ⟨⟨v, S, rfl, hp, by show va_P D vwCl (wf S) t.heap; rw [ht]; exact hw.1⟩, hw.F ht⟩) hw.2.2.2.2 hdg C.2.2.2.2.2.2)
theorem g_lret (C : Ctx p s m args meth c cc nL own (some .long)) {wf : St → va_W} {S0 S : St} (hw : gW D (wf S0) (wf S) s H locs) {mc ms : Nat} (hc : cells ≤ mc) (hs : slots ≤ ms) {post : Int64 → St → Prop} {v : Int64} (hp : post v S) (hdg : decode cc pc = .ok (.lreturn, 1)) :
    W p l e R s m args below meth c H locs cells slots (MQ below (va_Ql post (fun u t => va_P D vwCl (wf u) t.heap) (va_A (wf S0) s.heap.size)) args s mc ms (va_A (wf S0) s.heap.size)) (F0 m pc ls [.long v]) :=
  W.widen hc hs (W.lret C.1 C.2.1 C.2.2.2.2.2.1 (fun t ht hW => ⟨⟨v, S, rfl, hp, by show va_P D vwCl (wf S) t.heap; rw [ht]; exact hw.1⟩, hw.F ht⟩) hw.2.2.2.2 hdg C.2.2.2.2.2.2)
theorem g_dret (C : Ctx p s m args meth c cc nL own (some .double)) {wf : St → va_W} {S0 S : St} (hw : gW D (wf S0) (wf S) s H locs) {mc ms : Nat} (hc : cells ≤ mc) (hs : slots ≤ ms) {post : UInt64 → St → Prop} {v : UInt64} (hp : post v S) (hdg : decode cc pc = .ok (.dreturn, 1)) :
    W p l e R s m args below meth c H locs cells slots (MQ below (va_Qd post (fun u t => va_P D vwCl (wf u) t.heap) (va_A (wf S0) s.heap.size)) args s mc ms (va_A (wf S0) s.heap.size)) (F0 m pc ls [.double v]) :=
  W.widen hc hs (W.dret C.1 C.2.1 C.2.2.2.2.2.1 (fun t ht hW => ⟨⟨v, S, rfl, hp, by show va_P D vwCl (wf S) t.heap; rw [ht]; exact hw.1⟩, hw.F ht⟩) hw.2.2.2.2 hdg C.2.2.2.2.2.2)
theorem g_vret (C : Ctx p s m args meth c cc nL own none) {wf : St → va_W} {S0 S : St} (hw : gW D (wf S0) (wf S) s H locs) {mc ms : Nat} (hc : cells ≤ mc) (hs : slots ≤ ms) {post : St → Prop} (hp : post S) (hdg : decode cc pc = .ok (.return_, 1)) :
    W p l e R s m args below meth c H locs cells slots (MQ below (va_Qv post (fun u t => va_P D vwCl (wf u) t.heap) (va_A (wf S0) s.heap.size)) args s mc ms (va_A (wf S0) s.heap.size)) (F0 m pc ls []) :=
  W.widen hc hs (W.vret C.1 C.2.1 C.2.2.2.2.2.1 (fun t ht hW => ⟨⟨S, rfl, hp, by show va_P D vwCl (wf S) t.heap; rw [ht]; exact hw.1⟩, hw.F ht⟩) hw.2.2.2.2 hdg C.2.2.2.2.2.2)
theorem z_iret (C : Ctx p s m args meth c cc nL own (some .int)) (hS : zS s H locs) {mc ms : Nat} (hc : cells ≤ mc) (hs : slots ≤ ms) {post : Int32 → Unit → Prop} {v : Int32} (hp : post v ()) (hdg : decode cc pc = .ok (.ireturn, 1)) :
    W p l e R s m args below meth c H locs cells slots (MQ below (va_Qi post (fun _ _ => True) (fun _ => False)) args s mc ms (fun _ => False)) (F0 m pc ls [.int v]) :=
  W.widen hc hs (W.iret C.1 C.2.1 C.2.2.2.2.2.1 (fun t ht hW => ⟨⟨v, (), rfl, hp, trivial⟩, va_S.F hS ht⟩) hS.2.2 hdg C.2.2.2.2.2.2)
theorem z_zret (C : Ctx p s m args meth c cc nL own (some .boolean)) (hS : zS s H locs) {mc ms : Nat} (hc : cells ≤ mc) (hs : slots ≤ ms) {post : Int32 → Unit → Prop} {v : Int32} (hv : v = 0 ∨ v = 1) (hp : post v ()) (hdg : decode cc pc = .ok (.ireturn, 1)) :
    W p l e R s m args below meth c H locs cells slots (MQ below (va_Qi post (fun _ _ => True) (fun _ => False)) args s mc ms (fun _ => False)) (F0 m pc ls [.int v]) :=
  W.widen hc hs (W.zret C.1 C.2.1 C.2.2.2.2.2.1 (zg_nar hv) (fun t ht hW => ⟨⟨v, (), rfl, hp, trivial⟩, va_S.F hS ht⟩) hS.2.2 hdg C.2.2.2.2.2.2)
theorem z_lret (C : Ctx p s m args meth c cc nL own (some .long)) (hS : zS s H locs) {mc ms : Nat} (hc : cells ≤ mc) (hs : slots ≤ ms) {post : Int64 → Unit → Prop} {v : Int64} (hp : post v ()) (hdg : decode cc pc = .ok (.lreturn, 1)) :
    W p l e R s m args below meth c H locs cells slots (MQ below (va_Ql post (fun _ _ => True) (fun _ => False)) args s mc ms (fun _ => False)) (F0 m pc ls [.long v]) :=
  W.widen hc hs (W.lret C.1 C.2.1 C.2.2.2.2.2.1 (fun t ht hW => ⟨⟨v, (), rfl, hp, trivial⟩, va_S.F hS ht⟩) hS.2.2 hdg C.2.2.2.2.2.2)
end BASE
