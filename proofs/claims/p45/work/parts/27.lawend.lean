/-! the law's end -/
theorem nA0 {s : State} {b : Nat} (h : b < s.heap.size) : ¬ va_A [] s.heap.size b := by
  intro q
  rcases q with ⟨k, e9, q⟩ | q
  · simp at q
  · exact absurd q (Nat.not_le.mpr h)
section LEND
variable {p : Program} {l : Launch} {e : Env} {R : Room} {s : State} {m : MethodId} {args : Array Value} {below : List Frame} {meth : Method} {c : Code} {H : Heap} {locs : List Loc} {cells slots : Nat} {Q : State → Prop}
variable {cc bytes : ByteArray} {nL maxL : Nat} {own : String} {ret0 rt : Option FieldType} {D : va_G} {k : Nat → ClassId} {qx r : Nat → Nat} {pc : Nat} {ls : Array Slot} {rest st0 : List Value} {ws0 : va_W} {S T : St}
variable {As : List Value} {rm : Room} {y : MethodName} {n index : Nat} {b : Nat}
theorem l_same (C : Ctx p s m args meth c cc nL own ret0) (E : gEL D k s) (hw : gS D ws0 k qx r S T [] s H locs) (F : FctV y bytes maxL rt n) (hy : y.cls = RX4) (hM : ∀ tf tq nt sz, gok tf tq nt (T 36 0) → Met l y (Cond.code y bytes maxL rt :: XALL) rm (va_Pc (.ref (r 0) :: As) (gPreL D k (LW k qx r tf tq nt S T []) sz)) (va_Qi (fun (x : Int32) (_ : Unit) => x = 1) (fun _ _ => True) (va_A (LW k qx r tf tq nt S T []) sz)) rm.cells rm.slots (va_A (LW k qx r tf tq nt S T []) sz)) (hk : Cond.methodLink own index y ∈ XALL)
    (hn : As.length = n) (hsize : ls.size = nL) (hst : st0 = As.reverse ++ .ref (r 0) :: rest) (hr8 : (rest.map fun v => v.category).sum ≤ 8) (hR : rm.frames + 1 ≤ R.frames ∧ 8 + (maxL + 11) + rm.locals ≤ R.locals) (hf : cells + rm.cells ≤ R.cells ∧ slots + rm.slots ≤ R.slots) (hdg : decode cc pc = .ok (.invokevirtual index, 3))
    (kk : ∀ (H : Heap) (locs : List Loc), va_S (va_A ws0 s.heap.size) s.heap H locs → W p l e R s m args below meth c H locs (cells + rm.cells) (slots + rm.slots) Q (F0 m (pc + 3) ls (.int 1 :: rest))) : W p l e R s m args below meth c H locs cells slots Q (F0 m pc ls st0) := by
  obtain ⟨tf, tq, nt, hg, hw⟩ := hw
  have hr := g_runVL (e := e) (below := below) (T := TX4) (N := 9) C E hw F (hM tf tq nt _ hg) hk 16 (LW_at (i := 0) (by omega)) (by rw [hy]; rfl) hn hsize hst hr8 hR hf hdg
  have hA := hw.A
  refine va_calli hr hw.2.2 (fun q _ h => hA q h) hA (fun v u t H1 locs1 _ _ hp _ _ _ hS => ?_)
  subst hp
  exact kk H1 locs1 hS
theorem l_lret {b : Nat} {ls : Array Slot} (C : Ctx p s m #[Value.ref b] meth c cL_law 17 RL ret) (hS : va_S (va_A [] s.heap.size) s.heap H locs) (hc : cells ≤ 600130) (hs : slots ≤ 7301080) : W p l e room_1 s m #[Value.ref b] below meth c H locs cells slots (lw_Z below #[Value.ref b] s) (F0 m 886 ls [.int 1]) := by
  refine va_forget (fun q hq => ?_) ?_
  · rcases hS.2.2 q hq with ⟨k, e9, h9⟩ | h9
    · simp at h9
    · exact h9
  refine W.widen (k := 600130) (n := 7301080) hc hs ?_
  exact lw_ret (d0 := s.drawn) (Drawn.sameBut.refl s.drawn lw_cs) C.1 C.2.1 C.2.2.2.2.2.1 C.2.2.2.2.2.2 dL_law_886
end LEND
