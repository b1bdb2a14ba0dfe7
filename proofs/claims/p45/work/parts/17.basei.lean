/-! CONSTRUCTORS: new rows and objects -/
section BASEI
variable {p : Program} {l : Launch} {e : Env} {R : Room} {s : State} {m : MethodId} {args : Array Value} {below : List Frame} {meth : Method} {c : Code} {H : Heap} {locs : List Loc} {cells slots : Nat} {Q : State → Prop}
variable {cc bytes : ByteArray} {nL maxL : Nat} {own : String} {ret rt : Option FieldType} {D : va_G} {cI : ClassId} {pc : Nat} {ls : Array Slot} {rest st0 : List Value} {ws0 : va_W} {host : String}
theorem g_newa (C : Ctx p s m args meth c cc nL own ret) (E : gE D cI s) {ws : va_W} (hw : gW D ws0 ws s H locs) {n : Int32} (N : Nat) (hn : ¬ n < 0) (hN : n.toNatClampNeg = N) (hb : N * componentBytes .int ≤ 536870912) (hc : cells + 1 ≤ R.cells) (hs : slots + N ≤ R.slots) (hdg : decode cc pc = .ok (.newarray .int, 2))
    (kk : ∀ (qa : Nat) (H : Heap) (locs : List Loc), gW D ws0 (ws ++ [(qa, .inl (cI, N, .inl (fun _ => 0)))]) s H locs → W p l e R s m args below meth c H locs (cells + 1) (slots + N) Q (F0 m (pc + 2) ls (.ref qa :: rest))) : W p l e R s m args below meth c H locs cells slots Q (F0 m pc ls (.int n :: rest)) := by
  refine va_newa (atype := .int) C.1 C.2.1 (C.2.2.2.2.1 _ ka_int) (ty := .int) rfl E.1 hw.1 hw.2.1 hw.2.2 (fun _ h => Or.inr h) (N' := N) (a0 := (N, .inl (fun _ => 0))) (fun _ => rfl) hn hN hb hc hs hdg ?_
  intro qn cA H1 hK hP hD hS
  have h1 : s.vm.findClass ("[" ++ (FieldType.int).toString) = some cA := (hK.2 1 (cA, .int) rfl).2
  have h2 : s.vm.findClass ("[" ++ (FieldType.int).toString) = some cI := (hK.2 0 (cI, .int) rfl).2
  have h3 : cA = cI := Option.some.inj (h1.symm.trans h2)
  subst h3
  exact kk qn H1 locs ⟨hP, hD, hS⟩
theorem g_newo (C : Ctx p s m args meth c cc nL own ret) (E : gE D cI s) {ws : va_W} (hw : gW D ws0 ws s H locs) {Cn : String} {T : u_T} {N ci index : Nat} (hin : ∀ w ∈ u_ws Cn T N, w ∈ XALL) (ty : Nat → FieldType) (hty : ∀ k, k < N → parseFieldDescriptor (T k).2.2.1 = some (ty k)) (hcl : Cond.classLink own index Cn ∈ XALL) (hinst : Cond.instantiable Cn N ∈ XALL) (hini : Cond.initialized Cn ∈ XALL)
    (hc : vwCl[ci]? = some (Cn, T, N)) {fs : List Value} (hfs : ∀ j, j < N → defaultValue (ty j) = vp_V fs j) (hcells : cells + 1 ≤ R.cells) (hslots : slots + N ≤ R.slots) (hdg : decode cc pc = .ok (.new index, 3))
    (kk : ∀ (qa : Nat) (H : Heap) (locs : List Loc), gW D ws0 (ws ++ [(qa, .inr (ci, fs))]) s H locs → W p l e R s m args below meth c H locs (cells + 1) (slots + N) Q (F0 m (pc + 3) ls (.ref qa :: rest))) : W p l e R s m args below meth c H locs cells slots Q (F0 m pc ls rest) :=
  va_new C.1 C.2.1 C.2.2.2.2.1 hin ty hty C.2.2.2.1 (C.2.2.2.2.1 _ hcl) (C.2.2.2.2.1 _ hinst) (C.2.2.2.2.1 _ hini) E.1 hw.1 hw.2.1 hw.2.2 (fun _ h => Or.inr h) hc hfs hcells hslots hdg (fun q H1 hP hD hS => kk q H1 locs ⟨hP, hD, hS⟩)
theorem g_putF (C : Ctx p s m args meth c cc nL own ret) (E : gE D cI s) (hmi : meth.name = "<init>") {ws ws' : va_W} (hw : gW D ws0 ws s H locs) {Cn : String} {T : u_T} {N ci index : Nat} {b : Nat} (hin : ∀ w ∈ u_ws Cn T N, w ∈ XALL) (ty0 : Nat → FieldType) (hty : ∀ k, k < N → parseFieldDescriptor (T k).2.2.1 = some (ty0 k)) (hnm : ∀ a, a < N → ∀ b, b < N → a ≠ b → (T a).2.1 ≠ (T b).2.1) (q0 : Nat) {fs : List Value} (he : ws[q0]? = some (b, .inr (ci, fs))) (hc : vwCl[ci]? = some (Cn, T, N)) (k : Nat) (hk : k < N)
    (hl : Cond.fieldLink own index (T k).1 (T k).2.1 (T k).2.2.1 ∈ XALL) (hfin : (T k).2.2.2 = true) (hdecl : (T k).1 = own) {ty : FieldType} (hd : parseFieldDescriptor (T k).2.2.1 = some ty) {v : Value} (hn : narrow ty v = v) (hfit : fits ty v = true) (hlen : k < fs.length) (hset : ws.set q0 (b, .inr (ci, fs.set k v)) = ws') (hdg : decode cc pc = .ok (.putfield index, 3)) (kk : ∀ (H : Heap) (locs : List Loc), gW D ws0 ws' s H locs → W p l e R s m args below meth c H locs cells slots Q (F0 m (pc + 3) ls rest)) : W p l e R s m args below meth c H locs cells slots Q (F0 m pc ls (v :: .ref b :: rest)) :=
  va_putF C.1 C.2.1 C.2.2.2.2.1 hin ty0 hty hnm C.2.2.2.1 E.1 hw.1 hw.2.1 hw.2.2 q0 he hc k hk (C.2.2.2.2.1 _ hl) (fun _ h => h) hfin hmi hdecl hd hn hfit hlen hdg (fun H1 locs1 hP hD hS => kk H1 locs1 (by rw [← hset]; exact ⟨hP, hD, hS⟩))
/-- what an initialiser makes of its cell: w1 u, for some u -/
abbrev gQn {ι : Type} (D : va_G) (w1 : ι → va_W) (w0 : va_W) (sz : Nat) : Array Value → State → Outcome → State → Prop := va_Qv (fun _ : ι => True) (fun u t => va_P D vwCl (w1 u) t.heap ∧ va_D (va_A w0 sz) (w1 u)) (va_A w0 sz)
variable {ι : Type} {w1 : ι → va_W} {ws wc wr : va_W} {b : Nat} {rm : Room} {y : MethodName} {index n : Nat}
theorem g_init9 {a : Array Value} {mc ms : Nat} (hw : gW D ws0 ws s H locs) (hr : va_Run p l e R s m args below meth c H locs cells slots mc ms (F0 m pc ls st0) rest (gQn D w1 wc H.size a) (va_A wc H.size)) (isC isR : List Nat) (hC : isC.map (fun i => ws[i]?) = wc.map some) (hR : isR.map (fun i => ws[i]?) = wr.map some) (hn : va_nd isR = true) (hdis : ∀ i ∈ isR, i ∉ isC)
    (kk : ∀ (u : ι) (H : Heap) (locs : List Loc), gW D ws0 (wr ++ w1 u) s H locs → W p l e R s m args below meth c H locs (cells + mc) (slots + ms) Q (F0 m (pc + 3) ls rest)) : W p l e R s m args below meth c H locs cells slots Q (F0 m pc ls st0) := by
  have hF := va_free hw.2.1 hw.2.2 (fun _ h => Or.inr h) isC hC
  refine va_callv hr hw.2.2 (fun q _ h => hF q h) hF (fun u t H1 locs1 ht _ _ hB _ hk hS => ?_)
  obtain ⟨hP1, hD1⟩ := hB
  rw [ht] at hP1
  obtain ⟨hP, hD⟩ := va_join hw.1 hw.2.1 isC isR hC hR hn hdis hk hF hP1 hD1
  exact kk u H1 locs1 ⟨hP, hD, hS⟩
theorem gPre_sub (E : gE D cI s) (hw : gW D ws0 ws s H locs) (isC : List Nat) (hC : isC.map (fun i => ws[i]?) = wc.map some) (hn : va_nd isC = true) {U : State} (hU : U.heap = H) (hW : s.WarmedH U.vm) : gPre D cI wc H.size U := by
  refine ⟨by rw [hU], ?_, va_K.moved hW.alike E.1, (hw.2.1.sub isC hn hC).weaken (fun _ _ _ _ => trivial), xEnv.warm hW E.2⟩
  rw [hU]
  refine hw.1.sub isC ?_
  have h1 : (isC.map (fun i => ws[i]?)).filterMap id = (wc.map some).filterMap id := by rw [hC]
  rw [List.filterMap_map, List.filterMap_map] at h1
  simpa using h1
theorem g_runIN (C : Ctx p s m args meth c cc nL own ret) (E : gE D cI s) (hw : gW D ws0 ws s H locs) (isC : List Nat) (hC : isC.map (fun i => ws[i]?) = wc.map some) (hnd : va_nd isC = true) (F : Fct y bytes maxL none 0) (hyi : y.name = "<init>") (hin : Cond.instanceMethod y ∈ XALL) {Qc : Array Value → State → Outcome → State → Prop} {free : Addr → Prop} (hM : Met l y (Cond.code y bytes maxL none :: XALL) rm (va_Pc [.ref b] (gPre D cI wc H.size)) Qc rm.cells rm.slots free) (hk : Cond.methodLinkNest own index y host ∈ NW)
    (hsize : ls.size = nL) (hr8 : (rest.map fun v => v.category).sum ≤ 8) (hR : rm.frames + 1 ≤ R.frames ∧ 8 + (maxL + 11) + rm.locals ≤ R.locals) (hf : cells + rm.cells ≤ R.cells ∧ slots + rm.slots ≤ R.slots) (hdg : decode cc pc = .ok (.invokespecial index, 3)) :
    va_Run p l e R s m args below meth c H locs cells slots rm.cells rm.slots (F0 m pc ls (.ref b :: rest)) rest (Qc [Value.ref b].toArray) free :=
  va_runIN (As := []) C.fix hM ⟨fct_N C E F hk hR, hyi, C.2.2.2.2.1 _ hin⟩ ⟨gPre_blind, fun U hU hW => ⟨rfl, gPre_sub E hw isC hC hnd hU hW⟩⟩ rfl rfl hsize rfl (lv_room hr8) hdg hf
theorem g_runI (C : Ctx p s m args meth c cc nL own ret) (E : gE D cI s) (hw : gW D ws0 ws s H locs) (isC : List Nat) (hC : isC.map (fun i => ws[i]?) = wc.map some) (hnd : va_nd isC = true) (F : Fct y bytes maxL none 0) (hyi : y.name = "<init>") (hin : Cond.instanceMethod y ∈ XALL) {Qc : Array Value → State → Outcome → State → Prop} {free : Addr → Prop} (hM : Met l y (Cond.code y bytes maxL none :: XALL) rm (va_Pc [.ref b] (gPre D cI wc H.size)) Qc rm.cells rm.slots free) (hk : Cond.methodLink own index y ∈ XALL)
    (hsize : ls.size = nL) (hr8 : (rest.map fun v => v.category).sum ≤ 8) (hR : rm.frames + 1 ≤ R.frames ∧ 8 + (maxL + 11) + rm.locals ≤ R.locals) (hf : cells + rm.cells ≤ R.cells ∧ slots + rm.slots ≤ R.slots) (hdg : decode cc pc = .ok (.invokespecial index, 3)) :
    va_Run p l e R s m args below meth c H locs cells slots rm.cells rm.slots (F0 m pc ls (.ref b :: rest)) rest (Qc [Value.ref b].toArray) free :=
  va_runI (As := []) C.fix hM ⟨fct_B C F hk hR, hyi, C.2.2.2.2.1 _ hin⟩ ⟨gPre_blind, fun U hU hW => ⟨rfl, gPre_sub E hw isC hC hnd hU hW⟩⟩ rfl rfl hsize rfl (lv_room hr8) hdg hf
theorem g_nret (C : Ctx p s m args meth c cc nL own none) {w0 : va_W} (u : ι) (hw : gW D w0 (w1 u) s H locs) {mc ms : Nat} (hc : cells ≤ mc) (hs : slots ≤ ms) (hdg : decode cc pc = .ok (.return_, 1)) :
    W p l e R s m args below meth c H locs cells slots (MQ below (gQn D w1 w0 s.heap.size) args s mc ms (va_A w0 s.heap.size)) (F0 m pc ls []) :=
  W.widen hc hs (W.vret C.1 C.2.1 C.2.2.2.2.2.1 (fun t ht hW => ⟨⟨u, rfl, trivial, by rw [ht]; exact hw.1, hw.2.1⟩, hw.2.2.F ht⟩) hw.2.2.2.2 hdg C.2.2.2.2.2.2)
end BASEI
