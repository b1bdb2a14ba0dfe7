/-! POSTS, and what throws -/
abbrev gQi (D : va_G) (wf : St → va_W) (S0 : St) (post : Int32 → St → Prop) (sz : Nat) : Array Value → State → Outcome → State → Prop := va_Qi post (fun u t => va_P D vwCl (wf u) t.heap) (va_A (wf S0) sz)
abbrev gQl (D : va_G) (wf : St → va_W) (S0 : St) (post : Int64 → St → Prop) (sz : Nat) : Array Value → State → Outcome → State → Prop := va_Ql post (fun u t => va_P D vwCl (wf u) t.heap) (va_A (wf S0) sz)
abbrev gQd (D : va_G) (wf : St → va_W) (S0 : St) (post : UInt64 → St → Prop) (sz : Nat) : Array Value → State → Outcome → State → Prop := va_Qd post (fun u t => va_P D vwCl (wf u) t.heap) (va_A (wf S0) sz)
abbrev gQv (D : va_G) (wf : St → va_W) (S0 : St) (post : St → Prop) (sz : Nat) : Array Value → State → Outcome → State → Prop := va_Qv post (fun u t => va_P D vwCl (wf u) t.heap) (va_A (wf S0) sz)
section BASEX
variable {p : Program} {l : Launch} {e : Env} {R : Room} {s : State} {m : MethodId} {args : Array Value} {below : List Frame} {meth : Method} {c : Code} {H : Heap} {locs : List Loc} {cells slots : Nat} {Q : State → Prop}
variable {cc bytes : ByteArray} {nL maxL : Nat} {own : String} {ret rt : Option FieldType} {D : va_G} {cI : ClassId} {pc : Nat} {ls : Array Slot} {rest st0 : List Value}
variable {wf : St → va_W} {S : St} {ws0 : va_W} {b : Nat} {As : List Value} {rm : Room} {y : MethodName} {n index : Nat} {Qc : Array Value → State → Outcome → State → Prop} {XC : String → State → State → Prop} {free : Addr → Prop} {host : String}
variable {a : Array Value} {mc ms : Nat}
/-- the callee's answer is known: eq-forms of the rows behind a call -/
theorem g_cie (ha : ∀ S S', (wf S).map Prod.fst = (wf S').map Prod.fst) (hw : gW D ws0 (wf S) s H locs) {r1 : Int32} {S1 : St} (hr : va_Run p l e R s m args below meth c H locs cells slots mc ms (F0 m pc ls st0) rest (gQi D wf S (fun r u => r = r1 ∧ u = S1) H.size a) (va_A (wf S) H.size))
    (kk : ∀ (H : Heap) (locs : List Loc), gW D ws0 (wf S1) s H locs → W p l e R s m args below meth c H locs (cells + mc) (slots + ms) Q (F0 m (pc + 3) ls (.int r1 :: rest))) : W p l e R s m args below meth c H locs cells slots Q (F0 m pc ls st0) :=
  g_ci ha hw hr (fun r u hp H locs hw => by obtain ⟨rfl, rfl⟩ := hp; exact kk H locs hw)
theorem g_cle (ha : ∀ S S', (wf S).map Prod.fst = (wf S').map Prod.fst) (hw : gW D ws0 (wf S) s H locs) {r1 : Int64} {S1 : St} (hr : va_Run p l e R s m args below meth c H locs cells slots mc ms (F0 m pc ls st0) rest (gQl D wf S (fun r u => r = r1 ∧ u = S1) H.size a) (va_A (wf S) H.size))
    (kk : ∀ (H : Heap) (locs : List Loc), gW D ws0 (wf S1) s H locs → W p l e R s m args below meth c H locs (cells + mc) (slots + ms) Q (F0 m (pc + 3) ls (.long r1 :: rest))) : W p l e R s m args below meth c H locs cells slots Q (F0 m pc ls st0) :=
  g_cl ha hw hr (fun r u hp H locs hw => by obtain ⟨rfl, rfl⟩ := hp; exact kk H locs hw)
theorem g_cve (ha : ∀ S S', (wf S).map Prod.fst = (wf S').map Prod.fst) (hw : gW D ws0 (wf S) s H locs) {S1 : St} (hr : va_Run p l e R s m args below meth c H locs cells slots mc ms (F0 m pc ls st0) rest (gQv D wf S (fun u => u = S1) H.size a) (va_A (wf S) H.size))
    (kk : ∀ (H : Heap) (locs : List Loc), gW D ws0 (wf S1) s H locs → W p l e R s m args below meth c H locs (cells + mc) (slots + ms) Q (F0 m (pc + 3) ls rest)) : W p l e R s m args below meth c H locs cells slots Q (F0 m pc ls st0) :=
  g_cv ha hw hr (fun u hp H locs hw => by subst hp; exact kk H locs hw)
abbrev zQi (r1 : Int32) : Array Value → State → Outcome → State → Prop := va_Qi (fun (r : Int32) (_ : Unit) => r = r1) (fun _ _ => True) (fun _ => False)
abbrev zQl (r1 : Int64) : Array Value → State → Outcome → State → Prop := va_Ql (fun (r : Int64) (_ : Unit) => r = r1) (fun _ _ => True) (fun _ => False)
theorem g_ci0e {ws : va_W} (hw : gW D ws0 ws s H locs) {r1 : Int32} (hr : va_Run p l e R s m args below meth c H locs cells slots mc ms (F0 m pc ls st0) rest (zQi r1 a) (fun _ => False))
    (kk : ∀ (H : Heap) (locs : List Loc), gW D ws0 ws s H locs → W p l e R s m args below meth c H locs (cells + mc) (slots + ms) Q (F0 m (pc + 3) ls (.int r1 :: rest))) : W p l e R s m args below meth c H locs cells slots Q (F0 m pc ls st0) :=
  g_ci0 hw hr (fun r hp H locs hw => by subst hp; exact kk H locs hw)
theorem g_cl0e {ws : va_W} (hw : gW D ws0 ws s H locs) {r1 : Int64} (hr : va_Run p l e R s m args below meth c H locs cells slots mc ms (F0 m pc ls st0) rest (zQl r1 a) (fun _ => False))
    (kk : ∀ (H : Heap) (locs : List Loc), gW D ws0 ws s H locs → W p l e R s m args below meth c H locs (cells + mc) (slots + ms) Q (F0 m (pc + 3) ls (.long r1 :: rest))) : W p l e R s m args below meth c H locs cells slots Q (F0 m pc ls st0) :=
  g_cl0 hw hr (fun r hp H locs hw => by subst hp; exact kk H locs hw)
theorem g_ci00e (hS : zS s H locs) {r1 : Int32} (hr : va_Run p l e R s m args below meth c H locs cells slots mc ms (F0 m pc ls st0) rest (zQi r1 a) (fun _ => False))
    (kk : ∀ (H : Heap) (locs : List Loc), zS s H locs → W p l e R s m args below meth c H locs (cells + mc) (slots + ms) Q (F0 m (pc + 3) ls (.int r1 :: rest))) : W p l e R s m args below meth c H locs cells slots Q (F0 m pc ls st0) :=
  g_ci00 hS hr (fun r hp H locs hw => by subst hp; exact kk H locs hw)
theorem g_cl00e (hS : zS s H locs) {r1 : Int64} (hr : va_Run p l e R s m args below meth c H locs cells slots mc ms (F0 m pc ls st0) rest (zQl r1 a) (fun _ => False))
    (kk : ∀ (H : Heap) (locs : List Loc), zS s H locs → W p l e R s m args below meth c H locs (cells + mc) (slots + ms) Q (F0 m (pc + 3) ls (.long r1 :: rest))) : W p l e R s m args below meth c H locs cells slots Q (F0 m pc ls st0) :=
  g_cl00 hS hr (fun r hp H locs hw => by subst hp; exact kk H locs hw)
end BASEX
