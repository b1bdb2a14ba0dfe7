theorem incm1 {x y : Int32} (h : some (x + (-1)) = some y) : x + Int32.ofInt (-1) = y := Option.some.inj h
def pr {α β γ : Type} (u : α × β) (f : α → β → γ) : γ := f u.1 u.2
theorem pr_r {α β γ : Type} {a : α} {b : β} {f : α → β → γ} {k : γ} (h : pr (a, b) f = k) : f a b = k := h
def dv (x y : UInt64) : Option UInt64 := if FP.ddiv x y &&& 0x7fffffffffffffff ≤ 0x7ff0000000000000 then some (FP.ddiv x y) else none
theorem dv_some {x y v : UInt64} (h : dv x y = some v) : vf_n64 (FP.ddiv x y) ∧ FP.ddiv x y = v := by
  unfold dv at h
  split at h
  · rename_i h1
    exact ⟨h1, Option.some.inj h⟩
  · cases h
section BASE5
variable {p : Program} {l : Launch} {e : Env} {R : Room} {s : State} {m : MethodId} {args : Array Value} {below : List Frame} {meth : Method} {c : Code} {H : Heap} {locs : List Loc} {cells slots : Nat} {Q : State → Prop}
variable {cc : ByteArray} {nL : Nat} {own : String} {ret : Option FieldType} {D : va_G} {cI : ClassId} {q : Nat → Nat} {qn : Nat} {pc : Nat} {ls : Array Slot} {rest st0 : List Value} {ws0 : va_W} {S : St}
theorem g_dconst0 (C : Ctx p s m args meth c cc nL own ret) (hdg : decode cc pc = .ok (.dconst 0, 1)) (k : W p l e R s m args below meth c H locs cells slots Q (F0 m (pc + 1) ls (.double 0 :: rest))) : W p l e R s m args below meth c H locs cells slots Q (F0 m pc ls rest) :=
  lv_dconst0 C.1 C.2.1 hdg (by rw [show FP.dconst0 = (0 : UInt64) by decide +kernel]; exact k)
theorem g_ddiv (C : Ctx p s m args meth c cc nL own ret) {x y v : UInt64} (h : dv x y = some v) (hdg : decode cc pc = .ok (.ddiv, 1)) (k : W p l e R s m args below meth c H locs cells slots Q (F0 m (pc + 1) ls (.double v :: rest))) : W p l e R s m args below meth c H locs cells slots Q (F0 m pc ls (.double y :: .double x :: rest)) := by
  obtain ⟨h1, rfl⟩ := dv_some h
  exact lv_ddiv C.1 C.2.1 hdg h1 k
end BASE5
