theorem incm1 {x y : Int32} (h : some (x + (-1)) = some y) : x + Int32.ofInt (-1) = y := Option.some.inj h
def pr {α β γ : Type} (u : α × β) (f : α → β → γ) : γ := f u.1 u.2
theorem pr_r {α β γ : Type} {a : α} {b : β} {f : α → β → γ} {k : γ} (h : pr (a, b) f = k) : f a b = k := h
def dv (x y : UInt64) : Option UInt64 := if FP.ddiv x y &&& 0x7fffffffffffffff ≤ 0x7ff0000000000000 then some (FP.ddiv x y) else none
theorem dv_some {x y v : UInt64} (h : dv x y = some v) : vf_n64 (FP.ddiv x y) ∧ FP.ddiv x y = v := by
  unfold dv at h
  split at h
  · rename_i h1
    exact ⟨h1, Option.some.inj h⟩
  · cases h
def q5 (q : Nat → Nat) (a : Nat) : Nat → Nat := fun i => if i = 11 then a else q i
def z5 (S : St) : St := fun a => if a = 16 then (fun _ => 0) else S a
section BASE5
variable {p : Program} {l : Launch} {e : Env} {R : Room} {s : State} {m : MethodId} {args : Array Value} {below : List Frame} {meth : Method} {c : Code} {H : Heap} {locs : List Loc} {cells slots : Nat} {Q : State → Prop}
variable {cc : ByteArray} {nL : Nat} {own : String} {ret : Option FieldType} {D : va_G} {cI : ClassId} {q : Nat → Nat} {qn : Nat} {pc : Nat} {ls : Array Slot} {rest st0 : List Value} {ws0 : va_W} {S : St}
theorem g_dconst0 (C : Ctx p s m args meth c cc nL own ret) (hdg : decode cc pc = .ok (.dconst 0, 1)) (k : W p l e R s m args below meth c H locs cells slots Q (F0 m (pc + 1) ls (.double 0 :: rest))) : W p l e R s m args below meth c H locs cells slots Q (F0 m pc ls rest) :=
  lv_dconst0 C.1 C.2.1 hdg (by rw [show FP.dconst0 = (0 : UInt64) by decide +kernel]; exact k)
theorem g_ddiv (C : Ctx p s m args meth c cc nL own ret) {x y v : UInt64} (h : dv x y = some v) (hdg : decode cc pc = .ok (.ddiv, 1)) (k : W p l e R s m args below meth c H locs cells slots Q (F0 m (pc + 1) ls (.double v :: rest))) : W p l e R s m args below meth c H locs cells slots Q (F0 m pc ls (.double y :: .double x :: rest)) := by
  obtain ⟨h1, rfl⟩ := dv_some h
  exact lv_ddiv C.1 C.2.1 hdg h1 k
theorem g_sub5 (hw : gW D ws0 (mw5 cI (q5 q qn) S) s H locs) : gW D ws0 (mw cI (q5 q qn) S) s H locs :=
  ⟨hw.1.sub [0, 1, 2, 3, 4, 5, 6, 7, 8, 9, 10] rfl, hw.2.1.sub [0, 1, 2, 3, 4, 5, 6, 7, 8, 9, 10] (by decide) rfl, hw.2.2⟩
theorem g_drop5 (hw : gW D ws0 (mw5 cI (q5 q qn) S) s H locs) : gW D ws0 (mw cI q S) s H locs := g_sub5 hw
theorem g_new5 (C : Ctx p s m args meth c cc nL own ret) (E : gE D cI s) (hw : gW D ws0 (mw cI q S) s H locs) {S' : St} (h : some (z5 S) = some S') (hc : cells + 1 ≤ R.cells) (hs : slots + 5 ≤ R.slots) (hdg : decode cc pc = .ok (.newarray .int, 2))
    (kk : ∀ (qn : Nat) (H : Heap) (locs : List Loc), gW D ws0 (mw5 cI (q5 q qn) S') s H locs → W p l e R s m args below meth c H locs (cells + 1) (slots + 5) Q (F0 m (pc + 2) ls (.ref (q5 q qn 11) :: rest))) : W p l e R s m args below meth c H locs cells slots Q (F0 m pc ls (.int 5 :: rest)) := by
  refine va_newa (atype := .int) C.1 C.2.1 (C.2.2.2.2.1 _ ka_int) (ty := .int) rfl E.1 hw.1 hw.2.1 hw.2.2 (fun _ h => Or.inr h) (N' := 5) (a0 := (5, .inl (fun _ => 0))) (fun _ => rfl) (by decide) rfl (by decide) hc hs hdg ?_
  intro qn cA H1 hK hP hD hS
  have h1 : s.vm.findClass ("[" ++ (FieldType.int).toString) = some cA := (hK.2 1 (cA, .int) rfl).2
  have h2 : s.vm.findClass ("[" ++ (FieldType.int).toString) = some cI := (hK.2 0 (cI, .int) rfl).2
  have h3 : cA = cI := Option.some.inj (h1.symm.trans h2)
  subst h3
  have h4 := Option.some.inj h
  subst h4
  exact kk qn H1 locs ⟨hP, hD, hS⟩
variable {a : Array Value} {mc ms : Nat}
theorem g_c5ie (hw : gW D ws0 (mw5 cI (q5 q qn) S) s H locs) {r1 : Int32} (hr : va_Run p l e R s m args below meth c H locs cells slots mc ms (F0 m pc ls st0) rest (gQi D (mw cI (q5 q qn)) S (fun r u => r = r1 ∧ u = S) H.size a) (va_A ((mw cI (q5 q qn)) S) H.size))
    (kk : ∀ (H : Heap) (locs : List Loc), gW D ws0 (mw5 cI (q5 q qn) S) s H locs → W p l e R s m args below meth c H locs (cells + mc) (slots + ms) Q (F0 m (pc + 3) ls (.int r1 :: rest))) : W p l e R s m args below meth c H locs cells slots Q (F0 m pc ls st0) := by
  have hF := (g_sub5 hw).A
  refine va_calli hr hw.2.2 (fun q _ h => hF q h) hF (fun r u t H1 locs1 ht _ hp hB _ hk hS => ?_)
  obtain ⟨rfl, rfl⟩ := hp
  rw [ht] at hB
  refine kk H1 locs1 ⟨?_, hw.2.1, hS⟩
  have h11 : va_P D vwCl [(q5 q qn 11, .inl (cI, 5, .inl (u 16)))] H1 := by
    refine (hw.1.sub (ws' := [(q5 q qn 11, .inl (cI, 5, .inl (u 16)))]) [11] rfl).kept (fun k x hx => ?_)
    have hx0 : x = (q5 q qn 11, .inl (cI, 5, .inl (u 16))) := by
      have := List.mem_of_getElem? hx
      simpa using this
    subst hx0
    refine hk _ ((hw.1 11 _ rfl).lt) (fun hA => ?_)
    rcases hA with ⟨i, e9, hi⟩ | hA
    · have hi11 : i < 11 := by
        have := (List.getElem?_eq_some_iff.mp hi).1
        exact this
      have hi2 : (mw5 cI (q5 q qn) u)[i]? = some (q5 q qn 11, e9) := by
        rw [show mw5 cI (q5 q qn) u = mw cI (q5 q qn) u ++ [(q5 q qn 11, .inl (cI, 5, .inl (u 16)))] from rfl, List.getElem?_append_left hi11]
        exact hi
      have := hw.2.1.1 i 11 _ _ hi2 rfl rfl
      omega
    · have := (hw.1 11 _ rfl).lt
      exact absurd hA (Nat.not_le.mpr this)
  exact hB.app h11
end BASE5
