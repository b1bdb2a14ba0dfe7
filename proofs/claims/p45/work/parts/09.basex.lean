/-! POSTS, and what throws -/
abbrev gQi (D : va_G) (wf : St → va_W) (S0 : St) (post : Int32 → St → Prop) (sz : Nat) : Array Value → State → Outcome → State → Prop := va_Qi post (fun u t => va_P D vwCl (wf u) t.heap) (va_A (wf S0) sz)
abbrev gQl (D : va_G) (wf : St → va_W) (S0 : St) (post : Int64 → St → Prop) (sz : Nat) : Array Value → State → Outcome → State → Prop := va_Ql post (fun u t => va_P D vwCl (wf u) t.heap) (va_A (wf S0) sz)
abbrev gQd (D : va_G) (wf : St → va_W) (S0 : St) (post : UInt64 → St → Prop) (sz : Nat) : Array Value → State → Outcome → State → Prop := va_Qd post (fun u t => va_P D vwCl (wf u) t.heap) (va_A (wf S0) sz)
abbrev gQv (D : va_G) (wf : St → va_W) (S0 : St) (post : St → Prop) (sz : Nat) : Array Value → State → Outcome → State → Prop := va_Qv post (fun u t => va_P D vwCl (wf u) t.heap) (va_A (wf S0) sz)
abbrev gXC (D : va_G) (wf : St → va_W) (S0 : St) (px : String × St → Prop) (sz : Nat) : String → State → State → Prop := vx_X px (fun E v t => E = v.1 ∧ va_P D vwCl (wf v.2) t.heap) (va_A (wf S0) sz)
def xb {β : Type} (r : String ⊕ Unit) (f : String → β) (g : β) : β := match r with
  | .inl e => f e
  | .inr _ => g
theorem xb_l {β : Type} {r : String ⊕ Unit} {f : String → β} {g k : β} {e : String} (he : r = Sum.inl e) (h : xb r f g = k) : f e = k := by subst he; exact h
theorem xb_r {β : Type} {r : String ⊕ Unit} {f : String → β} {g k : β} (he : r = Sum.inr ()) (h : xb r f g = k) : g = k := by subst he; exact h
def gZ (A : Nat → Prop) (U : State) (H : Heap) : Prop := vx_Zq Bundle.tN "UNASSIGNED_STACK" Bundle.steD A U H ∧ vx_Zq Bundle.tN "SUPPRESSED_SENTINEL" Bundle.listD A U H
def gPreX (D : va_G) (cI : ClassId) (ws : va_W) (sz : Nat) (U : State) : Prop := gPre D cI ws sz U ∧ gZ (va_A ws sz) U U.heap
theorem gPreX_blind {D : va_G} {cI : ClassId} {ws : va_W} {sz : Nat} {av : List Value} : FrameBlind (va_Pc av (gPreX D cI ws sz)) := by
  intro a U g mk h
  obtain ⟨h0, h1, h2, h3⟩ := h
  have hb := gPre_blind (D := D) (cI := cI) (ws := ws) (sz := sz) (av := av) a U g mk ⟨h0, h1⟩
  exact ⟨h0, hb.2, vx_Zq.moved (u := U) (U := U.calling g mk a) (Vm.Alike.refl U.vm) h2, vx_Zq.moved (u := U) (U := U.calling g mk a) (Vm.Alike.refl U.vm) h3⟩
section BASEX
variable {p : Program} {l : Launch} {e : Env} {R : Room} {s : State} {m : MethodId} {args : Array Value} {below : List Frame} {meth : Method} {c : Code} {H : Heap} {locs : List Loc} {cells slots : Nat} {Q : State → Prop}
variable {cc bytes : ByteArray} {nL maxL : Nat} {own : String} {ret rt : Option FieldType} {D : va_G} {cI : ClassId} {pc : Nat} {ls : Array Slot} {rest st0 : List Value}
variable {wf : St → va_W} {S : St} {ws0 : va_W} {b : Nat} {As : List Value} {rm : Room} {y : MethodName} {n index : Nat} {Qc : Array Value → State → Outcome → State → Prop} {XC : String → State → State → Prop} {free : Addr → Prop} {host : String}
theorem gZ_of {ws : va_W} {U : State} (hw : gW D ws0 ws s H locs) (Z : gZ (va_A ws0 s.heap.size) s s.heap) (hU : U.heap = H) (hW : s.WarmedH U.vm) : gZ (va_A ws H.size) U U.heap := by
  have key : ∀ (C n d : String), vx_Zq C n d (va_A ws0 s.heap.size) s s.heap → vx_Zq C n d (va_A ws H.size) U U.heap := fun C n d h => by
    rw [hU]
    exact vx_Zq.narrow (vx_Zq.moved hW.alike (h.kept hw.2.2.2.1)) hw.A
  exact ⟨key _ _ _ Z.1, key _ _ _ Z.2⟩
theorem gPreX_of {ws : va_W} {U : State} (E : gE D cI s) (hw : gW D ws0 ws s H locs) (Z : gZ (va_A ws0 s.heap.size) s s.heap) (hU : U.heap = H) (hW : s.WarmedH U.vm) : gPreX D cI ws H.size U :=
  ⟨gPre_of E hw hU hW, by
    have h := gZ_of hw Z hU hW
    exact h⟩
theorem gX_start {ws : va_W} {sz : Nat} (h : gPreX D cI ws sz s) : gE D cI s ∧ gW D ws ws s s.heap [] ∧ s.heap.size = sz ∧ gZ (va_A ws s.heap.size) s s.heap := by
  obtain ⟨h1, h2, h3⟩ := g_start h.1
  exact ⟨h1, h2, h3, by rw [h3]; exact h.2⟩
/-- the run of a method of the own class that may throw -/
theorem g_runXV (C : Ctx p s m args meth c cc nL own ret) (E : gE D cI s) {ws : va_W} (hw : gW D ws0 ws s H locs) (Z : gZ (va_A ws0 s.heap.size) s s.heap) (F : FctV y bytes maxL rt n) (hM : vx_Met l y (Cond.code y bytes maxL rt :: XALL) rm (va_Pc (.ref b :: As) (gPreX D cI ws H.size)) Qc XC rm.cells rm.slots free) (hk : Cond.methodLink own index y ∈ XALL)
    (q0 : Nat) {ci : Nat} {fs : List Value} {T : u_T} {N : Nat} (he : ws[q0]? = some (b, .inr (ci, fs))) (hc : vwCl[ci]? = some (y.cls, T, N)) (hn : As.length = n) (hsize : ls.size = nL) (hst : st0 = As.reverse ++ .ref b :: rest) (hr8 : (rest.map fun v => v.category).sum ≤ 8) (hR : rm.frames + 1 ≤ R.frames ∧ 8 + (maxL + 11) + rm.locals ≤ R.locals) (hf : cells + rm.cells ≤ R.cells ∧ slots + rm.slots ≤ R.slots) (hdg : decode cc pc = .ok (.invokevirtual index, 3)) :
    vx_Run p l e R s m args below meth c H locs cells slots rm.cells rm.slots (F0 m pc ls st0) rest (Qc (Value.ref b :: As).toArray) XC free :=
  vx_runV C.fix hM ⟨fct_B C F.1 hk hR, C.2.2.2.2.1 _ F.2.1, C.2.2.2.2.1 _ F.2.2⟩ ⟨gPreX_blind, va_recv (q := (y.cls, T, N)) E.1 hw.1 hc he, fun U hU hW => ⟨rfl, gPreX_of E hw Z hU hW⟩⟩ rfl hn hsize hst (lv_room hr8) hdg hf
variable {a : Array Value} {mc ms : Nat}
/-- the callee's answer is known: eq-forms of the rows behind a call -/
theorem g_cie (ha : ∀ S S', (wf S).map Prod.fst = (wf S').map Prod.fst) (hw : gW D ws0 (wf S) s H locs) {r1 : Int32} {S1 : St} (hr : va_Run p l e R s m args below meth c H locs cells slots mc ms (F0 m pc ls st0) rest (gQi D wf S (fun r u => r = r1 ∧ u = S1) H.size a) (va_A (wf S) H.size))
    (kk : ∀ (H : Heap) (locs : List Loc), gW D ws0 (wf S1) s H locs → W p l e R s m args below meth c H locs (cells + mc) (slots + ms) Q (F0 m (pc + 3) ls (.int r1 :: rest))) : W p l e R s m args below meth c H locs cells slots Q (F0 m pc ls st0) :=
  g_ci ha hw hr (fun r u hp H locs hw => by obtain ⟨rfl, rfl⟩ := hp; exact kk H locs hw)
theorem g_cle (ha : ∀ S S', (wf S).map Prod.fst = (wf S').map Prod.fst) (hw : gW D ws0 (wf S) s H locs) {r1 : Int64} {S1 : St} (hr : va_Run p l e R s m args below meth c H locs cells slots mc ms (F0 m pc ls st0) rest (gQl D wf S (fun r u => r = r1 ∧ u = S1) H.size a) (va_A (wf S) H.size))
    (kk : ∀ (H : Heap) (locs : List Loc), gW D ws0 (wf S1) s H locs → W p l e R s m args below meth c H locs (cells + mc) (slots + ms) Q (F0 m (pc + 3) ls (.long r1 :: rest))) : W p l e R s m args below meth c H locs cells slots Q (F0 m pc ls st0) :=
  g_cl ha hw hr (fun r u hp H locs hw => by obtain ⟨rfl, rfl⟩ := hp; exact kk H locs hw)
theorem g_cve (ha : ∀ S S', (wf S).map Prod.fst = (wf S').map Prod.fst) (hw : gW D ws0 (wf S) s H locs) {S1 : St} (hr : va_Run p l e R s m args below meth c H locs cells slots mc ms (F0 m pc ls st0) rest (gQv D wf S (fun u => u = S1) H.size a) (va_A (wf S) H.size))
    (kk : ∀ (H : Heap) (locs : List Loc), gW D ws0 (wf S1) s H locs → W p l e R s m args below meth c H locs (cells + mc) (slots + ms) Q (F0 m (pc + 3) ls rest)) : W p l e R s m args below meth c H locs cells slots Q (F0 m pc ls st0) :=
  g_cv ha hw hr (fun u hp H locs hw => by subst hp; exact kk H locs hw)
abbrev zQi (r1 : Int32) : Array Value → State → Outcome → State → Prop := va_Qi (fun (r : Int32) (_ : Unit) => r = r1) (fun _ _ => True) (fun _ => False)
abbrev zQl (r1 : Int64) : Array Value → State → Outcome → State → Prop := va_Ql (fun (r : Int64) (_ : Unit) => r = r1) (fun _ _ => True) (fun _ => False)
theorem g_ci0e {ws : va_W} (hw : gW D ws0 ws s H locs) {r1 : Int32} (hr : va_Run p l e R s m args below meth c H locs cells slots mc ms (F0 m pc ls st0) rest (zQi r1 a) (fun _ => False))
    (kk : ∀ (H : Heap) (locs : List Loc), gW D ws0 ws s H locs → W p l e R s m args below meth c H locs (cells + mc) (slots + ms) Q (F0 m (pc + 3) ls (.int r1 :: rest))) : W p l e R s m args below meth c H locs cells slots Q (F0 m pc ls st0) :=
  g_ci0 hw hr (fun r hp H locs hw => by subst hp; exact kk H locs hw)
theorem g_cl0e {ws : va_W} (hw : gW D ws0 ws s H locs) {r1 : Int64} (hr : va_Run p l e R s m args below meth c H locs cells slots mc ms (F0 m pc ls st0) rest (zQl r1 a) (fun _ => False))
    (kk : ∀ (H : Heap) (locs : List Loc), gW D ws0 ws s H locs → W p l e R s m args below meth c H locs (cells + mc) (slots + ms) Q (F0 m (pc + 3) ls (.long r1 :: rest))) : W p l e R s m args below meth c H locs cells slots Q (F0 m pc ls st0) :=
  g_cl0 hw hr (fun r hp H locs hw => by subst hp; exact kk H locs hw)
theorem g_ci00e (hS : zS s H locs) {r1 : Int32} (hr : va_Run p l e R s m args below meth c H locs cells slots mc ms (F0 m pc ls st0) rest (zQi r1 a) (fun _ => False))
    (kk : ∀ (H : Heap) (locs : List Loc), zS s H locs → W p l e R s m args below meth c H locs (cells + mc) (slots + ms) Q (F0 m (pc + 3) ls (.int r1 :: rest))) : W p l e R s m args below meth c H locs cells slots Q (F0 m pc ls st0) :=
  g_ci00 hS hr (fun r hp H locs hw => by subst hp; exact kk H locs hw)
theorem g_cl00e (hS : zS s H locs) {r1 : Int64} (hr : va_Run p l e R s m args below meth c H locs cells slots mc ms (F0 m pc ls st0) rest (zQl r1 a) (fun _ => False))
    (kk : ∀ (H : Heap) (locs : List Loc), zS s H locs → W p l e R s m args below meth c H locs (cells + mc) (slots + ms) Q (F0 m (pc + 3) ls (.long r1 :: rest))) : W p l e R s m args below meth c H locs cells slots Q (F0 m pc ls st0) :=
  g_cl00 hS hr (fun r hp H locs hw => by subst hp; exact kk H locs hw)
/-- a callee without an answer that may throw and changes nothing: where it throws, that goes on to the caller -/
theorem g_cxv (C : Ctx p s m args meth c cc nL own ret) (ho : ∀ x ∈ c.exceptionTable.toList, False) (ha : ∀ S S', (wf S).map Prod.fst = (wf S').map Prod.fst) {S0 : St} (hw : gW D (wf S0) (wf S) s H locs) {r1 : String ⊕ Unit} {mcm msm : Nat} {px : String × St → Prop}
    (hr : vx_Run p l e R s m args below meth c H locs cells slots mc ms (F0 m pc ls st0) rest (gQv D wf S (fun u => r1 = Sum.inr () ∧ u = S) H.size a) (gXC D wf S (fun v => r1 = Sum.inl v.1 ∧ v.2 = S) H.size) (va_A (wf S) H.size))
    (hcx : cells + mc ≤ mcm) (hsx : slots + ms ≤ msm) (kx : ∀ e, r1 = Sum.inl e → px (e, S))
    (kk : r1 = Sum.inr () → ∀ (H : Heap) (locs : List Loc), gW D (wf S0) (wf S) s H locs → W p l e R s m args below meth c H locs (cells + mc) (slots + ms) (vx_MQ below Qc (gXC D wf S0 px s.heap.size) args s mcm msm (va_A (wf S0) s.heap.size)) (F0 m (pc + 3) ls rest)) :
    W p l e R s m args below meth c H locs cells slots (vx_MQ below Qc (gXC D wf S0 px s.heap.size) args s mcm msm (va_A (wf S0) s.heap.size)) (F0 m pc ls st0) := by
  refine vx_callv hr hw.2.2 (fun q _ h => hw.A q h) hw.A (fun q _ h => hw.A q h) ?_ ?_
  · intro E ce q9 v t H1 locs1 ht hvm hp hB hz hk hS hce hcv hcl
    obtain ⟨hp1, hp2⟩ := hp
    obtain ⟨rfl, hB⟩ := hB
    rw [hp2, ht] at hB
    exact vx_out (fun x hx => (ho x hx).elim) C.2.2.2.2.2.2 hce hcv hcl (fun t2 ht2 _ => ⟨(v.1, S), kx _ hp1, ⟨rfl, by rw [ht2]; exact hB⟩, hS.F ht2⟩) hS.2.2 hcx hsx
  · intro u t H1 locs1 ht hvm hp hB hz hk hS
    obtain ⟨hp1, rfl⟩ := hp
    exact kk hp1 H1 locs1 (gW_call ha hw ht hB hS)
/-- the words by which an exception is made and thrown -/
def ThrF (cls : String) (ik ic : Nat) : Prop :=
  Bundle.fit cls = true ∧ Cond.classLink RX3 ik cls ∈ XALL ∧ Cond.initialized cls ∈ XALL ∧ (∀ w ∈ vx_atS RX3 ic cls ["java/lang/RuntimeException", "java/lang/Exception"], w ∈ lw_tbl ∧ (goodWord w || nwOK w) = true ∧ vx_ot w = true)
theorem thr_ISE : ThrF "java/lang/IllegalStateException" 47 51 := ⟨by decide +kernel, kl_X3_47, kz_IllegalStateException, by decide +kernel⟩
theorem thr_IAE : ThrF "java/lang/IllegalArgumentException" 79 83 := ⟨by decide +kernel, kl_X3_79, kz_IllegalArgumentException, by decide +kernel⟩
theorem thr_IOB : ThrF "java/lang/IndexOutOfBoundsException" 166 170 := ⟨by decide +kernel, kl_X3_166, kz_IndexOutOfBoundsException, by decide +kernel⟩
theorem vx_ot_good {w : Cond} (h : w ∈ XALL) : vx_ot w = true := by
  have := XALL_good h
  simp only [vx_ot, this, Bool.or_true]
theorem g_throw (C : Ctx p s m args meth c cc nL RX3 ret) (E : gE D cI s) {ws : va_W} (Z : gZ (va_A ws0 s.heap.size) s s.heap) (hT : l.stackTraces = false) (ho : ∀ x ∈ c.exceptionTable.toList, False) (hw : gW D ws0 ws s H locs) {cls text : String} {ik is ic : Nat} (T : ThrF cls ik ic) (hs : (is, text) ∈ STRL) (hsize : ls.size = nL) {mcm msm : Nat}
    (d0 : decode cc pc = .ok (.new ik, 3)) (d3 : decode cc (pc + 3) = .ok (.dup, 1)) (d4 : decode cc (pc + 4) = .ok (.ldc is, 2)) (d6 : decode cc (pc + 6) = .ok (.invokespecial ic, 3)) (d9 : decode cc (pc + 9) = .ok (.athrow, 1))
    (hR1 : 5 < R.frames) (hR2 : (rest.map fun v => v.category).sum + 82 ≤ R.locals) (hR3 : cells + 1 ≤ R.cells) (hR4 : slots + 6 ≤ R.slots) (hc : cells + 1 ≤ mcm) (hs2 : slots + 6 ≤ msm)
    (hx : ∀ t : State, s.vm.Alike t.vm → H.size ≤ t.heap.size → (∀ q : Nat, q < H.size → t.heap[q]? = H[q]?) → XC cls s t) (hfree : ∀ z ∈ locs, free z.base) :
    W p l e R s m args below meth c H locs cells slots (vx_MQ below Qc XC args s mcm msm free) (F0 m pc ls rest) := by
  obtain ⟨sa, hsa⟩ := E.2.2 _ hs
  refine vx_throwS (names := ["java/lang/RuntimeException", "java/lang/Exception"]) (A := va_A ws0 s.heap.size) C.1 C.2.1 hT C.2.2.2.1 T.1 (by decide +kernel) (C.2.2.2.2.1 _ T.2.1) (C.2.2.2.2.1 _ T.2.2.1) hsa (fun w hw9 => ?_) (fun w hw9 => ?_) Z.1 Z.2 hw.2.2 (hsize.trans C.2.2.1.symm) d0 d3 d4 d6 d9 (fun x hx9 => (ho x hx9).elim) hR1 hR2 hR3 hR4 C.2.2.2.2.2.2 hx hfree hc hs2
  · obtain ⟨h1, h2, -⟩ := T.2.2.2 w hw9
    rcases (Bool.or_eq_true _ _).mp h2 with h2 | h2
    · exact C.2.2.2.2.1 w (List.mem_filter.mpr ⟨h1, h2⟩)
    · exact va_Nw.use (nw_on h2) (E.2.1 w (List.mem_filter.mpr ⟨h1, h2⟩))
  · rcases List.mem_cons.mp hw9 with rfl | hw9
    · exact vx_ot_good T.2.1
    · rcases List.mem_cons.mp hw9 with rfl | hw9
      · exact vx_ot_good T.2.2.1
      · exact (T.2.2.2 w hw9).2.2
/-- the same, where the world and the caller's post are as in 'gXC' -/
theorem g_thr (C : Ctx p s m args meth c cc nL RX3 ret) (E : gE D cI s) {S0 : St} (Z : gZ (va_A (wf S0) s.heap.size) s s.heap) (hT : l.stackTraces = false) (ho : ∀ x ∈ c.exceptionTable.toList, False) (hw : gW D (wf S0) (wf S) s H locs) {cls text : String} {ik is ic : Nat} (T : ThrF cls ik ic) (hs : (is, text) ∈ STRL) (hsize : ls.size = nL) {mcm msm : Nat} {px : String × St → Prop}
    (d0 : decode cc pc = .ok (.new ik, 3)) (d3 : decode cc (pc + 3) = .ok (.dup, 1)) (d4 : decode cc (pc + 4) = .ok (.ldc is, 2)) (d6 : decode cc (pc + 6) = .ok (.invokespecial ic, 3)) (d9 : decode cc (pc + 9) = .ok (.athrow, 1))
    (hR1 : 5 < R.frames) (hR2 : (rest.map fun v => v.category).sum + 82 ≤ R.locals) (hR3 : cells + 1 ≤ R.cells) (hR4 : slots + 6 ≤ R.slots) (hc : cells + 1 ≤ mcm) (hs2 : slots + 6 ≤ msm) (hp : px (cls, S)) :
    W p l e R s m args below meth c H locs cells slots (vx_MQ below Qc (gXC D wf S0 px s.heap.size) args s mcm msm (va_A (wf S0) s.heap.size)) (F0 m pc ls rest) :=
  g_throw C E Z hT ho hw T hs hsize d0 d3 d4 d6 d9 hR1 hR2 hR3 hR4 hc hs2 (fun t _ hz hk => ⟨(cls, S), hp, ⟨rfl, hw.1.kept (fun k q hq => hk q.1 (hw.1 k q hq).lt)⟩, Nat.le_trans hw.2.2.1 hz, fun q h1 h2 => by rw [hk q (Nat.lt_of_lt_of_le h1 hw.2.2.1)]; exact hw.2.2.2.1 q h1 h2⟩) hw.2.2.2.2
end BASEX
