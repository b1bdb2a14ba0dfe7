/-! THE LAW'S OWN WALK -/
def LW (cI cL : ClassId) (qx qm : Nat → Nat) (qo : Nat) (u : St × (Nat → Int64)) (M : St) : va_W := hw9 cI cL qx qo u ++ mw cI qm M
theorem arr_cls {s : State} {args : Array Value} {ty : FieldType} (hty : ∀ C, ty ≠ .object C) (h : (Cond.arrayClass ty).before args s = true) : ∃ cA : ClassId, ArrOfT s cA ty ∧ va_RA s cA ty := by
  obtain ⟨c, k, comp, h1, h2, h3⟩ := Cond.arrayClass_spec h
  refine ⟨c, fun n z => ⟨(fun k h => (by cases h)), k, h2, comp, h3⟩, ?_⟩
  cases ty <;> first | exact h1 | exact absurd rfl (hty _)
section BASEL
variable {p : Program} {l : Launch} {e : Env} {R : Room} {s : State} {m : MethodId} {args : Array Value} {below : List Frame} {meth : Method} {c : Code} {H : Heap} {locs : List Loc} {cells slots : Nat} {Q : State → Prop}
variable {cc bytes : ByteArray} {nL maxL : Nat} {own : String} {ret rt : Option FieldType} {D : va_G} {cI cL : ClassId} {qx qm : Nat → Nat} {qo : Nat} {pc : Nat} {ls : Array Slot} {rest st0 : List Value} {ws0 : va_W} {X M : St} {u : St × (Nat → Int64)}
theorem gW_swap {a b : va_W} (hw : gW D ws0 (a ++ b) s H locs) : gW D ws0 (b ++ a) s H locs := by
  have key : ∀ (k : Nat) (x : Nat × va_E), (b ++ a)[k]? = some x → ∃ i : Nat, (a ++ b)[i]? = some x ∧ ((k < b.length ∧ i = a.length + k) ∨ (b.length ≤ k ∧ i = k - b.length ∧ i < a.length)) := by
    intro k x hk
    by_cases hl : k < b.length
    · rw [List.getElem?_append_left hl] at hk
      exact ⟨a.length + k, by rw [List.getElem?_append_right (Nat.le_add_right _ _), Nat.add_sub_cancel_left]; exact hk, Or.inl ⟨hl, rfl⟩⟩
    · rw [List.getElem?_append_right (by omega)] at hk
      have hz := (List.getElem?_eq_some_iff.mp hk).1
      exact ⟨k - b.length, by rw [List.getElem?_append_left hz]; exact hk, Or.inr ⟨by omega, rfl, hz⟩⟩
  refine ⟨fun k x hk => ?_, ⟨fun i j x y hi hj hxy => ?_, fun k x hk => ?_⟩, hw.2.2⟩
  · obtain ⟨i, h1, -⟩ := key k x hk
    exact hw.1 i x h1
  · obtain ⟨i', h1, h2⟩ := key i x hi
    obtain ⟨j', h3, h4⟩ := key j y hj
    have := hw.2.1.1 i' j' x y h1 h3 hxy
    omega
  · obtain ⟨i, h1, -⟩ := key k x hk
    exact hw.2.1.2 i x h1
theorem LW_x (hw : gW D ws0 (LW cI cL qx qm qo u M) s H locs) : gW D ws0 (xw cI qx u.1 ++ ([oc cL qo u.2] ++ mw cI qm M)) s H locs := by
  rw [← List.append_assoc]
  exact hw
theorem LW_ofx {o : Nat → Int64} (hw : gW D ws0 (xw cI qx X ++ ([oc cL qo o] ++ mw cI qm M)) s H locs) : gW D ws0 (LW cI cL qx qm qo (X, o) M) s H locs := by
  rw [← List.append_assoc] at hw
  exact hw
theorem LW_m (hw : gW D ws0 (LW cI cL qx qm qo u M) s H locs) : gW D ws0 (mw cI qm M ++ hw9 cI cL qx qo u) s H locs := gW_swap hw
theorem LW_ofm (hw : gW D ws0 (mw cI qm M ++ hw9 cI cL qx qo u) s H locs) : gW D ws0 (LW cI cL qx qm qo u M) s H locs := gW_swap hw
theorem hPre_of {ws ex : va_W} {U : State} (E : gEL D cI cL s) (Z : gZ (va_A ws0 s.heap.size) s s.heap) (hw : gW D ws0 (ws ++ ex) s H locs) (hU : U.heap = H) (hW : s.WarmedH U.vm) : hPre D cI cL ws H.size U := by
  have h1 := gW_sub1 hw
  exact ⟨by rw [hU], by rw [hU]; exact h1.1, h1.2.1.weaken (fun _ _ _ _ => trivial), gEL.warm hW E, gZ_of h1 Z hU hW⟩
variable {y : MethodName} {n index : Nat} {rm : Room} {As : List Value} {hh : List (Nat × Nat × Nat × Nat)}
/-- a helper of the law is called -/
theorem g_lh (C : Ctx p s m args meth c cc nL own ret) (E : gEL D cI cL s) (Z : gZ (va_A ws0 s.heap.size) s s.heap) (hw : gW D ws0 (LW cI cL qx qm qo u M) s H locs) (F : FctS0 y ∧ Cond.codeWith y bytes maxL rt hh ∈ XALL ∧ (parseMethodDescriptor y.desc).map (fun d => d.parameters.length) = some n) (hini : Cond.initialized y.cls ∈ XALL) {post : Int32 → St × (Nat → Int64) → Prop}
    (hM : Met l y (Cond.codeWith y bytes maxL rt hh :: XALL) rm (va_Pc As (hPre D cI cL (hw9 cI cL qx qo u) H.size)) (hQi D cI cL qx qo u post H.size) rm.cells rm.slots (va_A (hw9 cI cL qx qo u) H.size)) (hk : Cond.methodLink own index y ∈ XALL)
    (hn : As.length = n) (hsize : ls.size = nL) (hst : st0 = As.reverse ++ rest) (hr8 : (rest.map fun v => v.category).sum ≤ 8) (hR : rm.frames + 1 ≤ R.frames ∧ 8 + (maxL + 11) + rm.locals ≤ R.locals) (hf : cells + rm.cells ≤ R.cells ∧ slots + rm.slots ≤ R.slots) (hdg : decode cc pc = .ok (.invokestatic index, 3))
    (kk : ∀ (r : Int32) (u : St × (Nat → Int64)), post r u → ∀ (H : Heap) (locs : List Loc), gW D ws0 (LW cI cL qx qm qo u M) s H locs → W p l e R s m args below meth c H locs (cells + rm.cells) (slots + rm.slots) Q (F0 m (pc + 3) ls (.int r :: rest))) : W p l e R s m args below meth c H locs cells slots Q (F0 m pc ls st0) := by
  have hG : GoodIn XALL (va_wsS own index y (Cond.codeWith y bytes maxL rt hh :: XALL)) := by
    intro w hw9
    have : w ∈ XALL := by
      rcases List.mem_append.mp hw9 with h | h
      · rcases List.mem_cons.mp h with rfl | h
        · exact hk
        · rcases List.mem_cons.mp h with rfl | h
          · exact F.1.1
          · rw [List.mem_singleton] at h
            subst h
            exact hini
      · rcases List.mem_cons.mp h with rfl | h
        · exact F.2.1
        · exact h
    exact ⟨this, good_of_word (XALL_good this)⟩
  have hr : va_Run p l e R s m args below meth c H locs cells slots rm.cells rm.slots (F0 m pc ls st0) rest (hQi D cI cL qx qo u post H.size As.toArray) (va_A (hw9 cI cL qx qo u) H.size) := vx_runSW C.fix hM (vx_cwSW n C.2.2.2.2.1 hG rfl rfl rfl ⟨F.1.2.1, F.1.2.2, F.2.2⟩ hR) ⟨hPre_blind, fun U hU hW => ⟨rfl, hPre_of E Z hw hU hW⟩⟩ rfl hn hsize hst (lv_room hr8) hdg hf
  have hA := (gW_sub1 hw).A
  refine va_calli hr hw.2.2 (fun q _ h => hA q h) hA (fun r u2 t H1 locs1 ht _ hp hB _ hk hS => kk r u2 hp H1 locs1 ?_)
  have hB : va_P D vwCl (hw9 cI cL qx qo u2) t.heap := hB
  rw [ht] at hB
  refine gW_part hw ?_ hB hk hS
  show (xw cI qx u.1 ++ [oc cL qo u.2]).map Prod.fst = (xw cI qx u2.1 ++ [oc cL qo u2.2]).map Prod.fst
  rfl
variable {a : Array Value} {mc ms : Nat}
/-- behind a call of the model, of the class -/
theorem g_lmi (hw : gW D ws0 (LW cI cL qx qm qo u M) s H locs) {r1 : Int32} {M1 : St} (hr : va_Run p l e R s m args below meth c H locs cells slots mc ms (F0 m pc ls st0) rest (gQi D (mw cI qm) M (fun r u => r = r1 ∧ u = M1) H.size a) (va_A (mw cI qm M) H.size))
    (kk : ∀ (H : Heap) (locs : List Loc), gW D ws0 (LW cI cL qx qm qo u M1) s H locs → W p l e R s m args below meth c H locs (cells + mc) (slots + ms) Q (F0 m (pc + 3) ls (.int r1 :: rest))) : W p l e R s m args below meth c H locs cells slots Q (F0 m pc ls st0) := by
  have hA := (gW_sub1 (LW_m hw)).A
  refine va_calli hr hw.2.2 (fun q _ h => hA q h) hA (fun r u2 t H1 locs1 ht _ hp hB _ hk hS => ?_)
  obtain ⟨rfl, rfl⟩ := hp
  rw [ht] at hB
  exact kk H1 locs1 (LW_ofm (gW_part (LW_m hw) (mw_adr _ _) hB hk hS))
theorem g_lml (hw : gW D ws0 (LW cI cL qx qm qo u M) s H locs) {r1 : Int64} {M1 : St} (hr : va_Run p l e R s m args below meth c H locs cells slots mc ms (F0 m pc ls st0) rest (gQl D (mw cI qm) M (fun r u => r = r1 ∧ u = M1) H.size a) (va_A (mw cI qm M) H.size))
    (kk : ∀ (H : Heap) (locs : List Loc), gW D ws0 (LW cI cL qx qm qo u M1) s H locs → W p l e R s m args below meth c H locs (cells + mc) (slots + ms) Q (F0 m (pc + 3) ls (.long r1 :: rest))) : W p l e R s m args below meth c H locs cells slots Q (F0 m pc ls st0) := by
  have hA := (gW_sub1 (LW_m hw)).A
  refine va_calll hr hw.2.2 (fun q _ h => hA q h) hA (fun r u2 t H1 locs1 ht _ hp hB _ hk hS => ?_)
  obtain ⟨rfl, rfl⟩ := hp
  rw [ht] at hB
  exact kk H1 locs1 (LW_ofm (gW_part (LW_m hw) (mw_adr _ _) hB hk hS))
theorem g_lmd (hw : gW D ws0 (LW cI cL qx qm qo u M) s H locs) {r1 : UInt64} {M1 : St} (hr : va_Run p l e R s m args below meth c H locs cells slots mc ms (F0 m pc ls st0) rest (gQd D (mw cI qm) M (fun r u => r = r1 ∧ u = M1) H.size a) (va_A (mw cI qm M) H.size))
    (kk : ∀ (H : Heap) (locs : List Loc), gW D ws0 (LW cI cL qx qm qo u M1) s H locs → W p l e R s m args below meth c H locs (cells + mc) (slots + ms) Q (F0 m (pc + 3) ls (.double r1 :: rest))) : W p l e R s m args below meth c H locs cells slots Q (F0 m pc ls st0) := by
  have hA := (gW_sub1 (LW_m hw)).A
  refine va_calld hr hw.2.2 (fun q _ h => hA q h) hA (fun r u2 t H1 locs1 ht _ hp hB _ hk hS => ?_)
  obtain ⟨rfl, rfl⟩ := hp
  rw [ht] at hB
  exact kk H1 locs1 (LW_ofm (gW_part (LW_m hw) (mw_adr _ _) hB hk hS))
theorem g_lxi {o : Nat → Int64} (hw : gW D ws0 (LW cI cL qx qm qo (X, o) M) s H locs) {r1 : Int32} {X1 : St} (hr : va_Run p l e R s m args below meth c H locs cells slots mc ms (F0 m pc ls st0) rest (gQi D (xw cI qx) X (fun r u => r = r1 ∧ u = X1) H.size a) (va_A (xw cI qx X) H.size))
    (kk : ∀ (H : Heap) (locs : List Loc), gW D ws0 (LW cI cL qx qm qo (X1, o) M) s H locs → W p l e R s m args below meth c H locs (cells + mc) (slots + ms) Q (F0 m (pc + 3) ls (.int r1 :: rest))) : W p l e R s m args below meth c H locs cells slots Q (F0 m pc ls st0) := by
  have hA := (gW_sub1 (LW_x hw)).A
  refine va_calli hr hw.2.2 (fun q _ h => hA q h) hA (fun r u2 t H1 locs1 ht _ hp hB _ hk hS => ?_)
  obtain ⟨rfl, rfl⟩ := hp
  rw [ht] at hB
  exact kk H1 locs1 (LW_ofx (gW_part (LW_x hw) (xw_adr _ _) hB hk hS))
theorem g_lxl {o : Nat → Int64} (hw : gW D ws0 (LW cI cL qx qm qo (X, o) M) s H locs) {r1 : Int64} {X1 : St} (hr : va_Run p l e R s m args below meth c H locs cells slots mc ms (F0 m pc ls st0) rest (gQl D (xw cI qx) X (fun r u => r = r1 ∧ u = X1) H.size a) (va_A (xw cI qx X) H.size))
    (kk : ∀ (H : Heap) (locs : List Loc), gW D ws0 (LW cI cL qx qm qo (X1, o) M) s H locs → W p l e R s m args below meth c H locs (cells + mc) (slots + ms) Q (F0 m (pc + 3) ls (.long r1 :: rest))) : W p l e R s m args below meth c H locs cells slots Q (F0 m pc ls st0) := by
  have hA := (gW_sub1 (LW_x hw)).A
  refine va_calll hr hw.2.2 (fun q _ h => hA q h) hA (fun r u2 t H1 locs1 ht _ hp hB _ hk hS => ?_)
  obtain ⟨rfl, rfl⟩ := hp
  rw [ht] at hB
  exact kk H1 locs1 (LW_ofx (gW_part (LW_x hw) (xw_adr _ _) hB hk hS))
theorem g_lxd {o : Nat → Int64} (hw : gW D ws0 (LW cI cL qx qm qo (X, o) M) s H locs) {r1 : UInt64} {X1 : St} (hr : va_Run p l e R s m args below meth c H locs cells slots mc ms (F0 m pc ls st0) rest (gQd D (xw cI qx) X (fun r u => r = r1 ∧ u = X1) H.size a) (va_A (xw cI qx X) H.size))
    (kk : ∀ (H : Heap) (locs : List Loc), gW D ws0 (LW cI cL qx qm qo (X1, o) M) s H locs → W p l e R s m args below meth c H locs (cells + mc) (slots + ms) Q (F0 m (pc + 3) ls (.double r1 :: rest))) : W p l e R s m args below meth c H locs cells slots Q (F0 m pc ls st0) := by
  have hA := (gW_sub1 (LW_x hw)).A
  refine va_calld hr hw.2.2 (fun q _ h => hA q h) hA (fun r u2 t H1 locs1 ht _ hp hB _ hk hS => ?_)
  obtain ⟨rfl, rfl⟩ := hp
  rw [ht] at hB
  exact kk H1 locs1 (LW_ofx (gW_part (LW_x hw) (xw_adr _ _) hB hk hS))
/-- an int of the script; the row of one long -/
theorem g_sld (C : Ctx p s m args meth c cc nL own ret) {b L : Nat} {xs : Nat → Int32} (hX : va_X b L xs s s.heap) (hbl : b < s.heap.size) (hL : L ≤ 2048) {ws : va_W} (hw : gW D [] ws s H locs) {x : Int32} (k : Nat) (hx : x = nI k) (hk : k < L) (hdg : decode cc pc = .ok (.iaload, 1))
    (kk : W p l e R s m args below meth c H locs cells slots Q (F0 m (pc + 1) ls (.int (xs k) :: rest))) : W p l e R s m args below meth c H locs cells slots Q (F0 m pc ls (.int x :: .ref b :: rest)) := by
  subst hx
  refine va_sld C.1 C.2.1 hX hbl (fun h => ?_) hw.2.2 (vp_in_nI hk (by omega)) hdg ?_
  · rcases h with ⟨k, e9, h⟩ | h
    · simp at h
    · exact absurd h (Nat.not_le.mpr hbl)
  · rw [nI_clamp (by omega)]
    exact kk
theorem g_slen (C : Ctx p s m args meth c cc nL own ret) {b L : Nat} {xs : Nat → Int32} (hX : va_X b L xs s s.heap) (hbl : b < s.heap.size) {ws : va_W} (hw : gW D [] ws s H locs) (hdg : decode cc pc = .ok (.arraylength, 1))
    (kk : W p l e R s m args below meth c H locs cells slots Q (F0 m (pc + 1) ls (.int (nI L) :: rest))) : W p l e R s m args below meth c H locs cells slots Q (F0 m pc ls (.ref b :: rest)) := by
  refine va_slen C.1 C.2.1 hX hbl (fun h => ?_) hw.2.2 hdg kk
  rcases h with ⟨k, e9, h⟩ | h
  · simp at h
  · exact absurd h (Nat.not_le.mpr hbl)
theorem g_lout (C : Ctx p s m args meth c cc nL own ret) (E : gEL D cI cL s) {o : Nat → Int64} (hw : gW D ws0 (LW cI cL qx qm qo (X, o) M) s H locs) (hdg : decode cc pc = .ok (.laload, 1)) (kk : W p l e R s m args below meth c H locs cells slots Q (F0 m (pc + 1) ls (.long (o 0) :: rest))) : W p l e R s m args below meth c H locs cells slots Q (F0 m pc ls (.int 0 :: .ref qo :: rest)) :=
  va_lald C.1 C.2.1 E.1 hw.1 16 1 rfl rfl (by unfold vp_in; decide) hdg kk
theorem lg_eq (x : Int64) : lg_cmp x x = 0 := by
  unfold lg_cmp
  rw [if_neg (by simp [Int64.lt_irrefl]), if_pos rfl]
theorem g_lcmp (C : Ctx p s m args meth c cc nL own ret) {x : Int64} (hdg : decode cc pc = .ok (.lcmp, 1)) (kk : W p l e R s m args below meth c H locs cells slots Q (F0 m (pc + 1) ls (.int 0 :: rest))) : W p l e R s m args below meth c H locs cells slots Q (F0 m pc ls (.long x :: .long x :: rest)) :=
  W.lcmp C.1 C.2.1 hdg (by rw [lg_eq]; exact kk)
theorem g_dcmp (C : Ctx p s m args meth c cc nL own ret) {x : UInt64} {op : CmpOp} (h : FP.dcmp x x = some .eq) (hdg : decode cc pc = .ok (.dcmp op, 1)) (kk : W p l e R s m args below meth c H locs cells slots Q (F0 m (pc + 1) ls (.int 0 :: rest))) : W p l e R s m args below meth c H locs cells slots Q (F0 m pc ls (.double x :: .double x :: rest)) :=
  lv_dcmp C.1 C.2.1 hdg (by rw [h]; exact kk)
end BASEL
