/-! THE LAW'S HELPERS: a call of the class with what it throws caught, the answer laid into a row of one long -/
def IOB : String := "java/lang/IndexOutOfBoundsException"
def IAE : String := "java/lang/IllegalArgumentException"
def ISE : String := "java/lang/IllegalStateException"
def hcd : List String → String → Int32
  | [], _ => 0
  | a :: r, x => if x = a then 1 else hcd r x + 1
def lNc (s : State) : Prop := va_Nc IAE IOB s ∧ va_Nc ISE IOB s ∧ va_Nc ISE IAE s
/-- what travels in the law's own walk and in the helpers' -/
def gEL (D : va_G) (cI cL : ClassId) (s : State) : Prop := va_K D vwCl [(cI, .int), (cL, .long)] s ∧ xEnv s ∧ lNc s
theorem gEL.E {D : va_G} {cI cL : ClassId} {s : State} (h : gEL D cI cL s) : gE D cI s := ⟨h.1.sub [0] rfl, h.2.1⟩
theorem gEL.warm {D : va_G} {cI cL : ClassId} {s U : State} (hW : s.WarmedH U.vm) (h : gEL D cI cL s) : gEL D cI cL U :=
  ⟨va_K.moved hW.alike h.1, xEnv.warm hW h.2.1, va_Nc.moved hW.alike h.2.2.1, va_Nc.moved hW.alike h.2.2.2.1, va_Nc.moved hW.alike h.2.2.2.2⟩
theorem gEL.same {D : va_G} {cI cL : ClassId} {s U : State} (hW : s.vm = U.vm) (h : gEL D cI cL s) : gEL D cI cL U := by
  have ha : s.vm.Alike U.vm := by rw [hW]; exact Vm.Alike.refl _
  exact ⟨va_K.moved ha h.1, xEnv.same hW h.2.1, va_Nc.moved ha h.2.2.1, va_Nc.moved ha h.2.2.2.1, va_Nc.moved ha h.2.2.2.2⟩
abbrev oc (cL : ClassId) (qo : Nat) (fo : Nat → Int64) : Nat × va_E := (qo, .inl (cL, 1, .inr (.inl fo)))
def hw9 (cI cL : ClassId) (q : Nat → Nat) (qo : Nat) (u : St × (Nat → Int64)) : va_W := xw cI q u.1 ++ [oc cL qo u.2]
def hPre (D : va_G) (cI cL : ClassId) (ws : va_W) (sz : Nat) (U : State) : Prop :=
  U.heap.size = sz ∧ va_P D vwCl ws U.heap ∧ va_D (fun _ => True) ws ∧ gEL D cI cL U ∧ gZ (va_A ws sz) U U.heap
theorem hPre_blind {D : va_G} {cI cL : ClassId} {ws : va_W} {sz : Nat} {av : List Value} : FrameBlind (va_Pc av (hPre D cI cL ws sz)) := by
  intro a U g mk h
  obtain ⟨h0, h1, h2, h3, h4, h5, h6⟩ := h
  exact ⟨h0, h1, h2, h3, gEL.same (s := U) (U := U.calling g mk a) rfl h4, vx_Zq.moved (u := U) (U := U.calling g mk a) (Vm.Alike.refl U.vm) h5, vx_Zq.moved (u := U) (U := U.calling g mk a) (Vm.Alike.refl U.vm) h6⟩
abbrev hQi (D : va_G) (cI cL : ClassId) (q : Nat → Nat) (qo : Nat) (u0 : St × (Nat → Int64)) (post : Int32 → St × (Nat → Int64) → Prop) (sz : Nat) : Array Value → State → Outcome → State → Prop := va_Qi post (fun u t => va_P D vwCl (hw9 cI cL q qo u) t.heap) (va_A (hw9 cI cL q qo u0) sz)
section BASEH
variable {p : Program} {l : Launch} {e : Env} {R : Room} {s : State} {m : MethodId} {args : Array Value} {below : List Frame} {meth : Method} {c : Code} {H : Heap} {locs : List Loc} {cells slots : Nat} {Q : State → Prop}
variable {cc bytes : ByteArray} {nL maxL : Nat} {own : String} {ret rt : Option FieldType} {D : va_G} {cI cL : ClassId} {q : Nat → Nat} {qo : Nat} {pc : Nat} {ls : Array Slot} {rest st0 : List Value} {ws0 : va_W} {S : St}
theorem gW_part {w w' ex : va_W} {H1 : Heap} {locs1 : List Loc} (hw : gW D ws0 (w ++ ex) s H locs) (ha : w.map Prod.fst = w'.map Prod.fst) (hB : va_P D vwCl w' H1) (hk : ∀ q : Nat, q < H.size → ¬ va_A w H.size q → H1[q]? = H[q]?) (hS : va_S (va_A ws0 s.heap.size) s.heap H1 locs1) : gW D ws0 (w' ++ ex) s H1 locs1 := by
  refine ⟨hB.app (fun k x hx => ?_), gD (by rw [List.map_append, List.map_append, ha]) hw.2.1, hS⟩
  have hk1 : (w ++ ex)[w.length + k]? = some x := by rw [List.getElem?_append_right (Nat.le_add_right _ _), Nat.add_sub_cancel_left]; exact hx
  refine (hw.1 _ _ hk1).kept (hk _ (hw.1 _ _ hk1).lt (fun hA => ?_))
  rcases hA with ⟨i, e9, hi⟩ | hA
  · have hl := (List.getElem?_eq_some_iff.mp hi).1
    have hi2 : (w ++ ex)[i]? = some (x.1, e9) := by rw [List.getElem?_append_left hl]; exact hi
    have := hw.2.1.1 _ _ _ _ hi2 hk1 rfl
    omega
  · exact absurd hA (Nat.not_le.mpr (hw.1 _ _ hk1).lt)
theorem gW_sub1 {w ex : va_W} (hw : gW D ws0 (w ++ ex) s H locs) : gW D ws0 w s H locs := by
  refine ⟨fun k x hx => hw.1 k x (by rw [List.getElem?_append_left (List.getElem?_eq_some_iff.mp hx).1]; exact hx), ⟨fun i j x y hi hj hxy => ?_, fun k x hx => ?_⟩, hw.2.2⟩
  · exact hw.2.1.1 i j x y (by rw [List.getElem?_append_left (List.getElem?_eq_some_iff.mp hi).1]; exact hi) (by rw [List.getElem?_append_left (List.getElem?_eq_some_iff.mp hj).1]; exact hj) hxy
  · exact hw.2.1.2 k x (by rw [List.getElem?_append_left (List.getElem?_eq_some_iff.mp hx).1]; exact hx)
theorem h_start {u : St × (Nat → Int64)} {sz : Nat} (h : hPre D cI cL (hw9 cI cL q qo u) sz s) : gEL D cI cL s ∧ gW D (hw9 cI cL q qo u) (hw9 cI cL q qo u) s s.heap [] ∧ s.heap.size = sz ∧ gZ (va_A (hw9 cI cL q qo u) s.heap.size) s s.heap :=
  ⟨h.2.2.2.1, ⟨h.2.1, h.2.2.1.self, va_S.rf⟩, h.1, by rw [h.1]; exact h.2.2.2.2⟩
variable {y : MethodName} {n index : Nat} {rm : Room} {As : List Value} {Qc : Array Value → State → Outcome → State → Prop} {XC : String → State → State → Prop} {free : Addr → Prop} {a : Array Value} {mc ms : Nat} {ex : va_W}
/-- behind the call of a method that may throw, of an object in the first part of the world -/
theorem g_hcx {u0 : St} (hw : gW D ws0 (xw cI q u0 ++ ex) s H locs) {post : Int32 → St → Prop} {px : String × St → Prop}
    (hr : vx_Run p l e R s m args below meth c H locs cells slots mc ms (F0 m pc ls st0) rest (gQi D (xw cI q) u0 post H.size a) (gXC D (xw cI q) u0 px H.size) (va_A (xw cI q u0) H.size))
    (kx : ∀ (v : String × St) (q9 : Addr) (ce : Cell) (H : Heap) (locs : List Loc), px v → gW D ws0 (xw cI q v.2 ++ ex) s H locs → H[q9]? = some ce → ce.vm = .none → s.vm.findClass v.1 = some ce.cls → vx_W p l e R s m args below meth c H locs (cells + mc) (slots + ms) Q (F0 m pc ls rest) q9)
    (kk : ∀ (r : Int32) (u : St), post r u → ∀ (H : Heap) (locs : List Loc), gW D ws0 (xw cI q u ++ ex) s H locs → W p l e R s m args below meth c H locs (cells + mc) (slots + ms) Q (F0 m (pc + 3) ls (.int r :: rest))) : W p l e R s m args below meth c H locs cells slots Q (F0 m pc ls st0) := by
  have hA := (gW_sub1 hw).A
  refine vx_calli hr hw.2.2 (fun q _ h => hA q h) hA (fun q _ h => hA q h) ?_ ?_
  · intro E ce q9 v t H1 locs1 ht hvm hp hB hz hk hS hce hcv hcl
    obtain ⟨rfl, hB⟩ := hB
    rw [ht] at hB
    exact kx v q9 ce H1 locs1 hp (gW_part hw (xw_adr _ _) hB hk hS) hce hcv hcl
  · intro r u t H1 locs1 ht hvm hp hB hz hk hS
    have hB : va_P D vwCl (xw cI q u) t.heap := hB
    rw [ht] at hB
    exact kk r u hp H1 locs1 (gW_part hw (xw_adr _ _) hB hk hS)
/-- the run of the class's method from the helper -/
theorem g_runHX (C : Ctx p s m args meth c cc nL own ret) (E : gE D cI s) {u0 : St} (hw : gW D ws0 (xw cI q u0 ++ ex) s H locs) (Z : gZ (va_A ws0 s.heap.size) s s.heap) (F : FctV y bytes maxL rt n) (hy : y.cls = RX3) (hM : vx_Met l y (Cond.code y bytes maxL rt :: XALL) rm (va_Pc (.ref (q 0) :: As) (gPreX D cI (xw cI q u0) H.size)) Qc XC rm.cells rm.slots free) (hk : Cond.methodLink own index y ∈ XALL)
    (hn : As.length = n) (hsize : ls.size = nL) (hst : st0 = As.reverse ++ .ref (q 0) :: rest) (hr8 : (rest.map fun v => v.category).sum ≤ 8) (hR : rm.frames + 1 ≤ R.frames ∧ 8 + (maxL + 11) + rm.locals ≤ R.locals) (hf : cells + rm.cells ≤ R.cells ∧ slots + rm.slots ≤ R.slots) (hdg : decode cc pc = .ok (.invokevirtual index, 3)) :
    vx_Run p l e R s m args below meth c H locs cells slots rm.cells rm.slots (F0 m pc ls st0) rest (Qc (Value.ref (q 0) :: As).toArray) XC free :=
  g_runXV (T := TX3) (N := 9) C E (gW_sub1 hw) Z F hM hk 0 rfl (by rw [hy]; rfl) hn hsize hst hr8 hR hf hdg
theorem g_last1 (C : Ctx p s m args meth c cc nL own ret) (E : gEL D cI cL s) {fo : Nat → Int64} (hw : gW D ws0 (xw cI q S ++ [oc cL qo fo]) s H locs) {x : Int64} (hdg : decode cc pc = .ok (.lastore, 1))
    (kk : ∀ (H : Heap) (locs : List Loc), gW D ws0 (xw cI q S ++ [oc cL qo (vp_updL fo 0 x)]) s H locs → W p l e R s m args below meth c H locs cells slots Q (F0 m (pc + 1) ls rest)) : W p l e R s m args below meth c H locs cells slots Q (F0 m pc ls (.long x :: .int 0 :: .ref qo :: rest)) :=
  va_last C.1 C.2.1 E.1 hw.1 hw.2.1 hw.2.2 16 1 rfl rfl (by unfold vp_in; decide) hdg (fun H1 locs1 hP hD hS => kk H1 locs1 ⟨hP, hD, hS⟩)
/-- an exception that a handler of the helper takes, behind those that let it pass -/
theorem g_catch (C : Ctx p s m args meth c cc nL RL ret) (E : gEL D cI cL s) {hh : List (Nat × Nat × Nat × Nat)} (htb : c.exceptionTable.toList = tableOf hh) (pre : List (Nat × Nat × Nat × Nat)) (x : Nat × Nat × Nat × Nat) (suf : List (Nat × Nat × Nat × Nat)) (hs : hh = pre ++ x :: suf) {cls : String} {ce : Cell} {q9 : Addr}
    (hpass : ∀ z ∈ pre, z.2.2.2 ≠ 0 ∧ ∃ nm : String, Cond.classLink RL z.2.2.2 nm ∈ XALL ∧ va_Nc cls nm s) (hcov : covers (⟨x.1, x.2.1, x.2.2.1, x.2.2.2⟩ : ExceptionTableEntry) pc = true) (h0 : x.2.2.2 ≠ 0) (hlink : Cond.classLink RL x.2.2.2 cls ∈ XALL) (hcast : Cond.castable cls cls ∈ NW) (hcell : H[q9]? = some ce) (hv : ce.vm = .none) (hcl : s.vm.findClass cls = some ce.cls)
    (kk : W p l e R s m args below meth c H locs cells slots Q (F0 m x.2.2.1 ls [.ref q9])) : vx_W p l e R s m args below meth c H locs cells slots Q (F0 m pc ls rest) q9 :=
  vx_catch (own := RL) (name := cls) C.2.2.2.1 (tableOf pre) ⟨x.1, x.2.1, x.2.2.1, x.2.2.2⟩ (tableOf suf) (by rw [htb, hs]; simp [tableOf]) (fun z hz => by
    obtain ⟨w, hw, rfl⟩ := List.mem_map.mp hz
    obtain ⟨h1, nm, h2, h3⟩ := hpass w hw
    exact Or.inr ⟨h1, nm, C.2.2.2.2.1 _ h2, h3⟩) hcov h0 (C.2.2.2.2.1 _ hlink) (va_Nw.use rfl (E.2.1.1 _ hcast)) hcell hv hcl kk
theorem h_iret (C : Ctx p s m args meth c cc nL own (some .int)) {u0 u : St × (Nat → Int64)} (hw : gW D (hw9 cI cL q qo u0) (hw9 cI cL q qo u) s H locs) {mc ms : Nat} (hc : cells ≤ mc) (hs : slots ≤ ms) {post : Int32 → St × (Nat → Int64) → Prop} {v : Int32} (hp : post v u) (hdg : decode cc pc = .ok (.ireturn, 1)) :
    W p l e R s m args below meth c H locs cells slots (MQ below (hQi D cI cL q qo u0 post s.heap.size) args s mc ms (va_A (hw9 cI cL q qo u0) s.heap.size)) (F0 m pc ls [.int v]) :=
  W.widen hc hs (W.iret C.1 C.2.1 C.2.2.2.2.2.1 (fun t ht hW => ⟨⟨v, u, rfl, hp, by show va_P D vwCl (hw9 cI cL q qo u) t.heap; rw [ht]; exact hw.1⟩, hw.2.2.F ht⟩) hw.2.2.2.2 hdg C.2.2.2.2.2.2)
end BASEH
theorem kcast_IOB : Cond.castable IOB IOB ∈ NW := List.mem_filter.mpr ⟨by decide +kernel, rfl⟩
theorem kcast_IAE : Cond.castable IAE IAE ∈ NW := List.mem_filter.mpr ⟨by decide +kernel, rfl⟩
theorem kcast_ISE : Cond.castable ISE ISE ∈ NW := List.mem_filter.mpr ⟨by decide +kernel, rfl⟩
theorem CtxH.of {p : Program} {l : Launch} {y : MethodName} {rm : Room} {cc : ByteArray} {maxL : Nat} {ret : Option FieldType} {e : Env} {s s₁ : State} {m : MethodId} {args : Array Value} {below : List Frame} {meth : Method} {c : Code} {hh : List (Nat × Nat × Nat × Nat)}
    (B : BodyLoose p l y (headSpec (Cond.codeWith y cc maxL ret hh :: XALL) rm) cc maxL ret e s m args below meth c s₁) : c.exceptionTable.toList = tableOf hh :=
  vx_table (x := y) B (atoms_spec (ws := _ :: XALL) B.pre _ List.mem_cons_self)
