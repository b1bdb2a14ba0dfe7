/-! ROWS OF THE LAW'S WALKS -/
abbrev SN (k : Nat → ClassId) (r : Nat → Nat) (tf : Nat → Option Nat) (tq : Nat → Nat) (nt : Nat) (T : St) : va_W := SW k r tf tq nt T ++ []
theorem SN_e {k : Nat → ClassId} {r : Nat → Nat} {tf : Nat → Option Nat} {tq : Nat → Nat} {nt : Nat} (T : St) : SN k r tf tq nt T = SW k r tf tq nt T := List.append_nil _
theorem SN_adr {k : Nat → ClassId} {r : Nat → Nat} {tf : Nat → Option Nat} {tq : Nat → Nat} {nt : Nat} (T T' : St) : (SN k r tf tq nt T).map Prod.fst = (SN k r tf tq nt T').map Prod.fst := by rw [SN_e, SN_e]; exact SW_adr T T'
theorem SN_0 {k : Nat → ClassId} {r : Nat → Nat} {tf : Nat → Option Nat} {tq : Nat → Nat} {nt : Nat} {T : St} : (SN k r tf tq nt T)[0]? = some (r 0, .inr (4, sfs r T)) := by rw [SN_e]; exact SW_at (by omega)
def rmd (x y : Int32) : Option Int32 := if y = 0 then none else some (x - x / y * y)
theorem rmd_some {x y v : Int32} (h : rmd x y = some v) : ¬ y = 0 ∧ x - x / y * y = v := by
  unfold rmd at h
  split at h
  · cases h
  · rename_i h1
    exact ⟨h1, Option.some.inj h⟩
theorem swE_00 {k : Nat → ClassId} {r : Nat → Nat} {tf : Nat → Option Nat} {tq : Nat → Nat} {T : St} : ∀ j, j < 4 → ∀ v, swE k r tf tq (up T (34 + j) 0 v) 0 = (r 0, .inr (4, (sfs r T).set j (.int v)))
  | 0, _, _ => rfl
  | 1, _, _ => rfl
  | 2, _, _ => rfl
  | 3, _, _ => rfl
  | j + 4, h, _ => absurd h (by omega)
theorem up_oth {T : St} {k j : Nat} {v : Int32} {b : Nat} (h : b ≠ k) : up T k j v b = T b := by unfold up; rw [if_neg h]
theorem up_same (T : St) (k j : Nat) (v : Int32) : up T k j v k = upd (T k) j v := by unfold up; rw [if_pos rfl]
theorem tx4_i : ∀ j, j < 4 → (TX4 j).2.2.2 = false ∧ parseFieldDescriptor (TX4 j).2.2.1 = some .int := by decide +kernel
/-- what an act of the law leaves -/
abbrev GG : Type := (Nat → Option Nat) × (Nat → Nat) × Nat
abbrev gQA (D : va_G) (k : Nat → ClassId) (qx r : Nat → Nat) (r1 : Int32) (S1 T1 : St) (ws0 : va_W) (sz : Nat) : Array Value → State → Outcome → State → Prop :=
  va_Qi (fun (v : Int32) (u : GG) => v = r1 ∧ gok u.1 u.2.1 u.2.2 (T1 36 0)) (fun u t => va_P D vwCl (LW k qx r u.1 u.2.1 u.2.2 S1 T1 []) t.heap ∧ va_D (va_A ws0 sz) (LW k qx r u.1 u.2.1 u.2.2 S1 T1 [])) (va_A ws0 sz)
/-- the rows that 'matches' makes -/
abbrev gQM (D : va_G) (k : Nat → ClassId) (r : Nat → Nat) (tf : Nat → Option Nat) (tq : Nat → Nat) (nt : Nat) (T B : St) (sz : Nat) : Array Value → State → Outcome → State → Prop :=
  va_Qr (fun (_ : Nat → Nat) => True) (fun mq a t => va_P D vwCl (SW k r tf tq nt T ++ mat k a mq (T 36 0).toNatClampNeg (T 35 0).toNatClampNeg B) t.heap ∧ va_D (va_A (SN k r tf tq nt T) sz) (SW k r tf tq nt T ++ mat k a mq (T 36 0).toNatClampNeg (T 35 0).toNatClampNeg B)) (va_A (SN k r tf tq nt T) sz)
def ldM (B : St) (n j N : Nat) (x : Int32) : Option Int32 := if j < n then ld B j N x else none
theorem ldM_some {B : St} {n j N : Nat} {x v : Int32} (h : ldM B n j N x = some v) : j < n ∧ ld B j N x = some v := by
  unfold ldM at h
  split at h
  · rename_i h1
    exact ⟨h1, h⟩
  · cases h
section LAWR
variable {p : Program} {l : Launch} {e : Env} {R : Room} {s : State} {m : MethodId} {args : Array Value} {below : List Frame} {meth : Method} {c : Code} {H : Heap} {locs : List Loc} {cells slots : Nat} {Q : State → Prop}
variable {cc bytes : ByteArray} {nL maxL : Nat} {own : String} {ret rt : Option FieldType} {D : va_G} {k : Nat → ClassId} {qx r : Nat → Nat} {pc : Nat} {ls : Array Slot} {rest st0 : List Value} {ws0 : va_W} {S T : St} {ex : va_W}
variable {As : List Value} {rm : Room} {y : MethodName} {n index : Nat} {Qc : Array Value → State → Outcome → State → Prop} {free : Addr → Prop} {host : String} {b : Nat}
theorem l_irem (C : Ctx p s m args meth c cc nL own ret) {x y v : Int32} (h : rmd x y = some v) (hdg : decode cc pc = .ok (.irem, 1)) (kk : W p l e R s m args below meth c H locs cells slots Q (F0 m (pc + 1) ls (.int v :: rest))) : W p l e R s m args below meth c H locs cells slots Q (F0 m pc ls (.int y :: .int x :: rest)) := by
  obtain ⟨h1, rfl⟩ := rmd_some h
  exact lv_irem C.1 C.2.1 hdg h1 kk
theorem g_runVL (C : Ctx p s m args meth c cc nL own ret) (E : gEL D k s) {ws : va_W} (hw : gW D ws0 ws s H locs) (F : FctV y bytes maxL rt n) (hM : Met l y (Cond.code y bytes maxL rt :: XALL) rm (va_Pc (.ref b :: As) (gPreL D k ws H.size)) Qc rm.cells rm.slots free) (hk : Cond.methodLink own index y ∈ XALL)
    (q0 : Nat) {ci : Nat} {fs : List Value} {T : u_T} {N : Nat} (he : ws[q0]? = some (b, .inr (ci, fs))) (hc : vwCl[ci]? = some (y.cls, T, N)) (hn : As.length = n) (hsize : ls.size = nL) (hst : st0 = As.reverse ++ .ref b :: rest) (hr8 : (rest.map fun v => v.category).sum ≤ 8) (hR : rm.frames + 1 ≤ R.frames ∧ 8 + (maxL + 11) + rm.locals ≤ R.locals) (hf : cells + rm.cells ≤ R.cells ∧ slots + rm.slots ≤ R.slots) (hdg : decode cc pc = .ok (.invokevirtual index, 3)) :
    va_Run p l e R s m args below meth c H locs cells slots rm.cells rm.slots (F0 m pc ls st0) rest (Qc (Value.ref b :: As).toArray) free :=
  va_runV C.fix hM ⟨fct_B C F.1 hk hR, C.2.2.2.2.1 _ F.2.1, C.2.2.2.2.1 _ F.2.2⟩ ⟨gPreL_blind, va_recv (q := (y.cls, T, N)) E.1 hw.1 hc he, fun U hU hW => ⟨rfl, gPreL_of E hw hU hW⟩⟩ rfl hn hsize hst (lv_room hr8) hdg hf
theorem g_runSL (C : Ctx p s m args meth c cc nL own ret) (E : gEL D k s) {ws : va_W} (hw : gW D ws0 ws s H locs) (F : FctS y bytes maxL rt n) (hM : Met l y (Cond.code y bytes maxL rt :: XALL) rm (va_Pc As (gPreL D k ws H.size)) Qc rm.cells rm.slots free) (hk : Cond.methodLink own index y ∈ XALL)
    (hn : As.length = n) (hsize : ls.size = nL) (hst : st0 = As.reverse ++ rest) (hr8 : (rest.map fun v => v.category).sum ≤ 8) (hR : rm.frames + 1 ≤ R.frames ∧ 8 + (maxL + 11) + rm.locals ≤ R.locals) (hf : cells + rm.cells ≤ R.cells ∧ slots + rm.slots ≤ R.slots) (hdg : decode cc pc = .ok (.invokestatic index, 3)) :
    va_Run p l e R s m args below meth c H locs cells slots rm.cells rm.slots (F0 m pc ls st0) rest (Qc As.toArray) free :=
  va_runS C.fix hM ⟨fct_B C F.1 hk hR, C.2.2.2.2.1 _ F.2⟩ ⟨gPreL_blind, fun U hU hW => ⟨rfl, gPreL_of E hw hU hW⟩⟩ rfl hn hsize hst (lv_room hr8) hdg hf
theorem l_get (C : Ctx p s m args meth c cc nL own ret) (E : gEL D k s) (hw : gS D ws0 k qx r S T ex s H locs) (j : Nat) (hj : j < 9) {index : Nat} (hl : Cond.fieldLink own index (TX4 j).1 (TX4 j).2.1 (TX4 j).2.2.1 ∈ XALL) {v : Value} (hv : (sfs r T)[j]? = some v) (hdg : decode cc pc = .ok (.getfield index, 3)) (kk : W p l e R s m args below meth c H locs cells slots Q (F0 m (pc + 3) ls (v :: rest))) : W p l e R s m args below meth c H locs cells slots Q (F0 m pc ls (.ref (r 0) :: rest)) := by
  obtain ⟨tf, tq, nt, hg, hw⟩ := hw
  exact s_get C E (LW_sw hw) j hj hl hv hdg kk
theorem l_ald (C : Ctx p s m args meth c cc nL own ret) (E : gEL D k s) (hw : gS D ws0 k qx r S T ex s H locs) (i : Nat) {a n : Nat} (hi : i < 30) (he : ∀ tf tq, swE k r tf tq T i = (r i, .inl (k 0, n, .inl (T a)))) {x v : Int32} (h : ld T a n x = some v) (hdg : decode cc pc = .ok (.iaload, 1)) (kk : W p l e R s m args below meth c H locs cells slots Q (F0 m (pc + 1) ls (.int v :: rest))) : W p l e R s m args below meth c H locs cells slots Q (F0 m pc ls (.int x :: .ref (r i) :: rest)) := by
  obtain ⟨tf, tq, nt, hg, hw⟩ := hw
  exact s_ald C E (LW_sw hw) i hi (he _ _) h hdg kk
theorem l_aaO (C : Ctx p s m args meth c cc nL own ret) (E : gEL D k s) (hw : gS D ws0 k qx r S T ex s H locs) {x : Int32} {j : Nat} (h : ix 24 x = some j) (hdg : decode cc pc = .ok (.aaload, 1)) (kk : W p l e R s m args below meth c H locs cells slots Q (F0 m (pc + 1) ls (.ref (r (6 + j)) :: rest))) : W p l e R s m args below meth c H locs cells slots Q (F0 m pc ls (.int x :: .ref (r 2) :: rest)) := by
  obtain ⟨tf, tq, nt, hg, hw⟩ := hw
  exact s_aaO C E (LW_sw hw) h hdg kk
theorem l_zald (C : Ctx p s m args meth c cc nL own ret) (E : gEL D k s) (hw : gS D ws0 k qx r S T ex s H locs) {x v : Int32} {j : Nat} (h : ldO T j x = some v) (hdg : decode cc pc = .ok (.baload, 1)) (kk : W p l e R s m args below meth c H locs cells slots Q (F0 m (pc + 1) ls (.int v :: rest))) : W p l e R s m args below meth c H locs cells slots Q (F0 m pc ls (.int x :: .ref (r (6 + j)) :: rest)) := by
  obtain ⟨tf, tq, nt, hg, hw⟩ := hw
  exact s_zald C E (LW_sw hw) h hdg kk
theorem l_put (C : Ctx p s m args meth c cc nL own ret) (E : gEL D k s) (hw : gS D ws0 k qx r S T ex s H locs) (j : Nat) (hj : j < 4) {index : Nat} (hl : Cond.fieldLink own index (TX4 j).1 (TX4 j).2.1 (TX4 j).2.2.1 ∈ XALL) {v : Int32} (h2 : j = 2 → v = 0) {T' : St} (h : some (up T (34 + j) 0 v) = some T') (hdg : decode cc pc = .ok (.putfield index, 3))
    (kk : ∀ (H : Heap) (locs : List Loc), gS D ws0 k qx r S T' ex s H locs → W p l e R s m args below meth c H locs cells slots Q (F0 m (pc + 3) ls rest)) : W p l e R s m args below meth c H locs cells slots Q (F0 m pc ls (.int v :: .ref (r 0) :: rest)) := by
  obtain ⟨tf, tq, nt, hg, hw⟩ := hw
  have h := Option.some.inj h
  subst h
  have hset := LW_set (k := k) (qx := qx) (r := r) (S := S) (ex := ex) (tf := tf) (tq := tq) (nt := nt) (i := 0) (T := T) (T' := up T (34 + j) 0 v) (a := 34 + j) (by omega) (Or.inl ⟨rfl, by omega, by omega⟩) (fun b hb => up_oth hb)
  rw [swE_00 j hj v] at hset
  refine g_put C E.E hw inW4 tyX4 tyX4_ok nmX4 16 (fs := sfs r T) (LW_at (i := 0) (by omega)) rfl j (by omega) hl (tx4_i j hj).1 (tx4_i j hj).2 (by show j < 9; omega) hset hdg (fun H locs hw => kk H locs ⟨tf, tq, nt, ⟨hg.1, ?_, hg.2.2⟩, hw⟩)
  by_cases h3 : j = 2
  · rw [h2 h3]
    subst h3
    exact Nat.zero_le _
  · rw [up_oth (show 36 ≠ 34 + j by omega)]
    exact hg.2.1
theorem l_ast (C : Ctx p s m args meth c cc nL own ret) (E : gEL D k s) (hw : gS D ws0 k qx r S T ex s H locs) (i : Nat) {n : Nat} (hi : i < 30) (hR : i = 1 ∨ i = 3 ∨ i = 4) (he : ∀ tf tq Z, swE k r tf tq Z i = (r i, .inl (k 0, n, .inl (Z i)))) {x v : Int32} {T' : St} (h : sto T i n x v = some T') (hdg : decode cc pc = .ok (.iastore, 1))
    (kk : ∀ (H : Heap) (locs : List Loc), gS D ws0 k qx r S T' ex s H locs → W p l e R s m args below meth c H locs cells slots Q (F0 m (pc + 1) ls rest)) : W p l e R s m args below meth c H locs cells slots Q (F0 m pc ls (.int v :: .int x :: .ref (r i) :: rest)) := by
  obtain ⟨tf, tq, nt, hg, hw⟩ := hw
  obtain ⟨h1, rfl⟩ := sto_some h
  have hset := LW_set (k := k) (qx := qx) (r := r) (S := S) (ex := ex) (tf := tf) (tq := tq) (nt := nt) (i := i) (T := T) (T' := up T i x.toNatClampNeg v) (a := i) hi (Or.inr (Or.inl ⟨rfl, hR⟩)) (fun b hb => up_oth hb)
  rw [he, up_same] at hset
  refine g_ast C E.E hw (16 + i) (by rw [LW_at (by omega), he]) h1 hset hdg (fun H locs hw => kk H locs ⟨tf, tq, nt, ?_, hw⟩)
  rw [up_oth (show 36 ≠ i by omega)]
  exact hg
theorem l_zast (C : Ctx p s m args meth c cc nL own ret) (E : gEL D k s) (hw : gS D ws0 k qx r S T ex s H locs) {x v : Int32} (hv : vp_nar .boolean v = v) {j : Nat} {T' : St} (h : stoO T j x v = some T') (hdg : decode cc pc = .ok (.bastore, 1))
    (kk : ∀ (H : Heap) (locs : List Loc), gS D ws0 k qx r S T' ex s H locs → W p l e R s m args below meth c H locs cells slots Q (F0 m (pc + 1) ls rest)) : W p l e R s m args below meth c H locs cells slots Q (F0 m pc ls (.int v :: .int x :: .ref (r (6 + j)) :: rest)) := by
  obtain ⟨tf, tq, nt, hg, hw⟩ := hw
  obtain ⟨h0, h⟩ := stoO_some h
  obtain ⟨h1, rfl⟩ := sto_some h
  have hset := LW_set (k := k) (qx := qx) (r := r) (S := S) (ex := ex) (tf := tf) (tq := tq) (nt := nt) (i := 6 + j) (T := T) (T' := up T (10 + j) x.toNatClampNeg v) (a := 10 + j) (by omega) (Or.inr (Or.inr ⟨j, h0, rfl, rfl⟩)) (fun b hb => up_oth hb)
  rw [swE_own h0, up_same] at hset
  refine va_zast C.1 C.2.1 E.1 hw.1 hw.2.1 hw.2.2 (16 + (6 + j)) 1 (by rw [LW_at (by omega), swE_own h0]) rfl h1 hdg (fun H1 locs1 hP hD hS => kk H1 locs1 ⟨tf, tq, nt, ?_, ?_⟩)
  · rw [up_oth (show 36 ≠ 10 + j by omega)]
    exact hg
  · rw [hv, hset] at hP hD
    exact ⟨hP, hD, hS⟩
/-! calls -/
theorem l_xi (C : Ctx p s m args meth c cc nL own ret) (E : gEL D k s) (hw : gS D ws0 k qx r S T ex s H locs) (F : FctV y bytes maxL rt n) (hy : y.cls = RX3) {r1 : Int32} {S1 : St} (hM : ∀ sz, Met l y (Cond.code y bytes maxL rt :: XALL) rm (va_Pc (.ref (qx 0) :: As) (gPre D (k 0) (xw (k 0) qx S) sz)) (gQi D (xw (k 0) qx) S (fun v u => v = r1 ∧ u = S1) sz) rm.cells rm.slots (va_A (xw (k 0) qx S) sz)) (hk : Cond.methodLink own index y ∈ XALL)
    (hn : As.length = n) (hsize : ls.size = nL) (hst : st0 = As.reverse ++ .ref (qx 0) :: rest) (hr8 : (rest.map fun v => v.category).sum ≤ 8) (hR : rm.frames + 1 ≤ R.frames ∧ 8 + (maxL + 11) + rm.locals ≤ R.locals) (hf : cells + rm.cells ≤ R.cells ∧ slots + rm.slots ≤ R.slots) (hdg : decode cc pc = .ok (.invokevirtual index, 3))
    (kk : ∀ (H : Heap) (locs : List Loc), gS D ws0 k qx r S1 T ex s H locs → W p l e R s m args below meth c H locs (cells + rm.cells) (slots + rm.slots) Q (F0 m (pc + 3) ls (.int r1 :: rest))) : W p l e R s m args below meth c H locs cells slots Q (F0 m pc ls st0) := by
  obtain ⟨tf, tq, nt, hg, hw⟩ := hw
  have hr := g_runV (e := e) (below := below) (T := TX3) (N := 9) C E.E (gW_sub1 hw) F (hM _) hk 0 rfl (by rw [hy]; rfl) hn hsize hst hr8 hR hf hdg
  have hA := (gW_sub1 hw).A
  refine va_calli hr hw.2.2 (fun q _ h => hA q h) hA (fun v u t H1 locs1 ht _ hp hB _ hkq hS => ?_)
  obtain ⟨rfl, rfl⟩ := hp
  rw [ht] at hB
  exact kk H1 locs1 ⟨tf, tq, nt, hg, gW_part hw (xw_adr _ _) hB hkq hS⟩
theorem l_xd (C : Ctx p s m args meth c cc nL own ret) (E : gEL D k s) (hw : gS D ws0 k qx r S T ex s H locs) (F : FctV y bytes maxL rt n) (hy : y.cls = RX3) {r1 : UInt64} {S1 : St} (hM : ∀ sz, Met l y (Cond.code y bytes maxL rt :: XALL) rm (va_Pc (.ref (qx 0) :: As) (gPre D (k 0) (xw (k 0) qx S) sz)) (gQd D (xw (k 0) qx) S (fun v u => v = r1 ∧ u = S1) sz) rm.cells rm.slots (va_A (xw (k 0) qx S) sz)) (hk : Cond.methodLink own index y ∈ XALL)
    (hn : As.length = n) (hsize : ls.size = nL) (hst : st0 = As.reverse ++ .ref (qx 0) :: rest) (hr8 : (rest.map fun v => v.category).sum ≤ 8) (hR : rm.frames + 1 ≤ R.frames ∧ 8 + (maxL + 11) + rm.locals ≤ R.locals) (hf : cells + rm.cells ≤ R.cells ∧ slots + rm.slots ≤ R.slots) (hdg : decode cc pc = .ok (.invokevirtual index, 3))
    (kk : ∀ (H : Heap) (locs : List Loc), gS D ws0 k qx r S1 T ex s H locs → W p l e R s m args below meth c H locs (cells + rm.cells) (slots + rm.slots) Q (F0 m (pc + 3) ls (.double r1 :: rest))) : W p l e R s m args below meth c H locs cells slots Q (F0 m pc ls st0) := by
  obtain ⟨tf, tq, nt, hg, hw⟩ := hw
  have hr := g_runV (e := e) (below := below) (T := TX3) (N := 9) C E.E (gW_sub1 hw) F (hM _) hk 0 rfl (by rw [hy]; rfl) hn hsize hst hr8 hR hf hdg
  have hA := (gW_sub1 hw).A
  refine va_calld hr hw.2.2 (fun q _ h => hA q h) hA (fun v u t H1 locs1 ht _ hp hB _ hkq hS => ?_)
  obtain ⟨rfl, rfl⟩ := hp
  rw [ht] at hB
  exact kk H1 locs1 ⟨tf, tq, nt, hg, gW_part hw (xw_adr _ _) hB hkq hS⟩
/-- a method of the law's ledger that looks -/
theorem l_si (C : Ctx p s m args meth c cc nL own ret) (E : gEL D k s) (hw : gS D ws0 k qx r S T ex s H locs) (F : FctV y bytes maxL rt n) (hy : y.cls = RX4) {r1 : Int32} (hM : ∀ tf tq nt sz, Met l y (Cond.code y bytes maxL rt :: XALL) rm (va_Pc (.ref (r 0) :: As) (gPreL D k (SN k r tf tq nt T) sz)) (gQi D (SN k r tf tq nt) T (fun v u => v = r1 ∧ u = T) sz) rm.cells rm.slots (va_A (SN k r tf tq nt T) sz)) (hk : Cond.methodLink own index y ∈ XALL)
    (hn : As.length = n) (hsize : ls.size = nL) (hst : st0 = As.reverse ++ .ref (r 0) :: rest) (hr8 : (rest.map fun v => v.category).sum ≤ 8) (hR : rm.frames + 1 ≤ R.frames ∧ 8 + (maxL + 11) + rm.locals ≤ R.locals) (hf : cells + rm.cells ≤ R.cells ∧ slots + rm.slots ≤ R.slots) (hdg : decode cc pc = .ok (.invokevirtual index, 3))
    (kk : ∀ (H : Heap) (locs : List Loc), gS D ws0 k qx r S T ex s H locs → W p l e R s m args below meth c H locs (cells + rm.cells) (slots + rm.slots) Q (F0 m (pc + 3) ls (.int r1 :: rest))) : W p l e R s m args below meth c H locs cells slots Q (F0 m pc ls st0) := by
  obtain ⟨tf, tq, nt, hg, hw⟩ := hw
  have hw2 := LW_sw hw
  have hw3 : gW D ws0 (SN k r tf tq nt T) s H locs := by rw [SN_e]; exact gW_sub1 hw2
  have hr := g_runVL (e := e) (below := below) (T := TX4) (N := 9) C E hw3 F (hM tf tq nt _) hk 0 SN_0 (by rw [hy]; rfl) hn hsize hst hr8 hR hf hdg
  have hA := hw3.A
  refine va_calli hr hw.2.2 (fun q _ h => hA q h) hA (fun v u t H1 locs1 ht _ hp hB _ hkq hS => ?_)
  obtain ⟨rfl, rfl⟩ := hp
  rw [ht, SN_e] at hB
  rw [SN_e] at hkq
  exact kk H1 locs1 ⟨tf, tq, nt, hg, LW_ofsw (gW_part hw2 (SW_adr _ _) hB hkq hS)⟩
/-- a static method without a world -/
theorem l_0i (C : Ctx p s m args meth c cc nL own ret) (hw : gS D ws0 k qx r S T ex s H locs) (F : FctS y bytes maxL rt n) {r1 : Int32} (hM : Met l y (Cond.code y bytes maxL rt :: XALL) rm (va_Pc As (fun _ => True)) (zQi r1) rm.cells rm.slots (fun _ => False)) (hk : Cond.methodLink own index y ∈ XALL)
    (hn : As.length = n) (hsize : ls.size = nL) (hst : st0 = As.reverse ++ rest) (hr8 : (rest.map fun v => v.category).sum ≤ 8) (hR : rm.frames + 1 ≤ R.frames ∧ 8 + (maxL + 11) + rm.locals ≤ R.locals) (hf : cells + rm.cells ≤ R.cells ∧ slots + rm.slots ≤ R.slots) (hdg : decode cc pc = .ok (.invokestatic index, 3))
    (kk : ∀ (H : Heap) (locs : List Loc), gS D ws0 k qx r S T ex s H locs → W p l e R s m args below meth c H locs (cells + rm.cells) (slots + rm.slots) Q (F0 m (pc + 3) ls (.int r1 :: rest))) : W p l e R s m args below meth c H locs cells slots Q (F0 m pc ls st0) := by
  obtain ⟨tf, tq, nt, hg, hw⟩ := hw
  exact g_ci0e hw (g_run0 C F hM hk hn hsize hst hr8 hR hf hdg) (fun H locs hw => kk H locs ⟨tf, tq, nt, hg, hw⟩)
/-- an act -/
theorem l_act (C : Ctx p s m args meth c cc nL own ret) (E : gEL D k s) (hw : gS D ws0 k qx r S T [] s H locs) (F : FctS y bytes maxL rt n) {r1 : Int32} {S1 T1 : St} (hM : ∀ tf tq nt sz, gok tf tq nt (T 36 0) → Met l y (Cond.code y bytes maxL rt :: XALL) rm (va_Pc As (gPreL D k (LW k qx r tf tq nt S T []) sz)) (gQA D k qx r r1 S1 T1 (LW k qx r tf tq nt S T []) sz) rm.cells rm.slots (va_A (LW k qx r tf tq nt S T []) sz)) (hk : Cond.methodLink own index y ∈ XALL)
    (hn : As.length = n) (hsize : ls.size = nL) (hst : st0 = As.reverse ++ rest) (hr8 : (rest.map fun v => v.category).sum ≤ 8) (hR : rm.frames + 1 ≤ R.frames ∧ 8 + (maxL + 11) + rm.locals ≤ R.locals) (hf : cells + rm.cells ≤ R.cells ∧ slots + rm.slots ≤ R.slots) (hdg : decode cc pc = .ok (.invokestatic index, 3))
    (kk : ∀ (H : Heap) (locs : List Loc), gS D ws0 k qx r S1 T1 [] s H locs → W p l e R s m args below meth c H locs (cells + rm.cells) (slots + rm.slots) Q (F0 m (pc + 3) ls (.int r1 :: rest))) : W p l e R s m args below meth c H locs cells slots Q (F0 m pc ls st0) := by
  obtain ⟨tf, tq, nt, hg, hw⟩ := hw
  have hr := g_runSL (e := e) (below := below) C E hw F (hM tf tq nt _ hg) hk hn hsize hst hr8 hR hf hdg
  have hA := hw.A
  refine va_calli hr hw.2.2 (fun q _ h => hA q h) hA (fun v u t H1 locs1 ht _ hp hB _ hkq hS => ?_)
  obtain ⟨rfl, hg2⟩ := hp
  obtain ⟨hP1, hD1⟩ := hB
  rw [ht] at hP1
  exact kk H1 locs1 ⟨u.1, u.2.1, u.2.2, hg2, hP1, hD1.weaken (fun _ _ _ h => hA _ h), hS⟩
theorem gS_drop (hw : gS D ws0 k qx r S T ex s H locs) : gS D ws0 k qx r S T [] s H locs := by
  obtain ⟨tf, tq, nt, hg, hw⟩ := hw
  refine ⟨tf, tq, nt, hg, ?_⟩
  unfold LW at hw ⊢
  rw [← List.append_assoc] at hw
  rw [List.append_nil]
  exact gW_sub1 hw
theorem l_aret (C : Ctx p s m args meth c cc nL own (some .boolean)) {S1 T1 : St} (hw : gS D ws0 k qx r S1 T1 ex s H locs) {mc ms : Nat} (hc : cells ≤ mc) (hs : slots ≤ ms) {v r1 : Int32} (hv : v = 0 ∨ v = 1) (hp : v = r1) (hdg : decode cc pc = .ok (.ireturn, 1)) :
    W p l e R s m args below meth c H locs cells slots (MQ below (gQA D k qx r r1 S1 T1 ws0 s.heap.size) args s mc ms (va_A ws0 s.heap.size)) (F0 m pc ls [.int v]) := by
  obtain ⟨tf, tq, nt, hg, hw⟩ := gS_drop hw
  exact W.widen hc hs (W.zret C.1 C.2.1 C.2.2.2.2.2.1 (zg_nar hv) (fun t ht hW => ⟨⟨v, (tf, tq, nt), rfl, ⟨hp, hg⟩, by rw [ht]; exact hw.1, hw.2.1⟩, hw.F ht⟩) hw.2.2.2.2 hdg C.2.2.2.2.2.2)
theorem l_bret (C : Ctx p s m args meth c cc nL own (some .boolean)) (hw : gS D ws0 k qx r S T ex s H locs) {mc ms : Nat} (hc : cells ≤ mc) (hs : slots ≤ ms) {v r1 : Int32} (hv : v = 0 ∨ v = 1) (hp : v = r1) (hdg : decode cc pc = .ok (.ireturn, 1)) :
    W p l e R s m args below meth c H locs cells slots (MQ below (va_Qi (fun (x : Int32) (_ : Unit) => x = r1) (fun _ _ => True) (va_A ws0 s.heap.size)) args s mc ms (va_A ws0 s.heap.size)) (F0 m pc ls [.int v]) := by
  obtain ⟨tf, tq, nt, hg, hw⟩ := hw
  exact W.widen hc hs (W.zret C.1 C.2.1 C.2.2.2.2.2.1 (zg_nar hv) (fun t ht hW => ⟨⟨v, (), rfl, hp, trivial⟩, hw.F ht⟩) hw.2.2.2.2 hdg C.2.2.2.2.2.2)
/-! a row of ints beside the world -/
theorem l_newa (C : Ctx p s m args meth c cc nL own ret) (E : gEL D k s) (hw : gS D ws0 k qx r S T [] s H locs) {n : Int32} (N : Nat) (hn : ¬ n < 0) (hN : n.toNatClampNeg = N) (hb : N * componentBytes .int ≤ 536870912) (hc : cells + 1 ≤ R.cells) (hs : slots + N ≤ R.slots) (hdg : decode cc pc = .ok (.newarray .int, 2))
    (kk : ∀ (qa : Nat) (H : Heap) (locs : List Loc), gS D ws0 k qx r S T [(qa, .inl (k 0, N, .inl (fun _ => 0)))] s H locs → W p l e R s m args below meth c H locs (cells + 1) (slots + N) Q (F0 m (pc + 2) ls (.ref qa :: rest))) : W p l e R s m args below meth c H locs cells slots Q (F0 m pc ls (.int n :: rest)) := by
  obtain ⟨tf, tq, nt, hg, hw⟩ := hw
  refine va_newa (atype := .int) C.1 C.2.1 (C.2.2.2.2.1 _ ka_int) (ty := .int) rfl E.1 hw.1 hw.2.1 hw.2.2 (fun _ h => Or.inr h) (N' := N) (a0 := (N, .inl (fun _ => 0))) (fun _ => rfl) hn hN hb hc hs hdg ?_
  intro qn cA H1 hK hP hD hS
  have h1 : s.vm.findClass ("[" ++ (FieldType.int).toString) = some cA := (hK.2 4 (cA, .int) rfl).2
  have h2 : s.vm.findClass ("[" ++ (FieldType.int).toString) = some (k 0) := (hK.2 0 (k 0, .int) rfl).2
  have h3 : cA = k 0 := Option.some.inj (h1.symm.trans h2)
  subst h3
  unfold LW at hP hD
  rw [List.append_assoc, List.append_assoc] at hP hD
  exact kk qn H1 locs ⟨tf, tq, nt, hg, hP, hD, hS⟩
theorem LW_last {tf : Nat → Option Nat} {tq : Nat → Nat} {nt : Nat} {x : Nat × va_E} : (LW k qx r tf tq nt S T [x])[46 + nt]? = some x := by
  unfold LW
  have hx : (xw (k 0) qx S).length = 16 := rfl
  rw [List.getElem?_append_right (by rw [hx]; omega), hx, List.getElem?_append_right (by rw [SW_len]; omega), SW_len, show 46 + nt - 16 - (30 + nt) = 0 by omega]
  rfl
theorem LW_lset {tf : Nat → Option Nat} {tq : Nat → Nat} {nt : Nat} {x z : Nat × va_E} : (LW k qx r tf tq nt S T [x]).set (46 + nt) z = LW k qx r tf tq nt S T [z] := by
  unfold LW
  have hx : (xw (k 0) qx S).length = 16 := rfl
  rw [List.set_append_right _ _ (by rw [hx]; omega), hx, List.set_append_right _ _ (by rw [SW_len]; omega), SW_len, show 46 + nt - 16 - (30 + nt) = 0 by omega]
  rfl
theorem l_xld (C : Ctx p s m args meth c cc nL own ret) (E : gEL D k s) {qa N : Nat} {A : Nat → Int32} (hw : gS D ws0 k qx r S T [(qa, .inl (k 0, N, .inl A))] s H locs) {x v : Int32} (h : vp_in x N ∧ A x.toNatClampNeg = v) (hdg : decode cc pc = .ok (.iaload, 1)) (kk : W p l e R s m args below meth c H locs cells slots Q (F0 m (pc + 1) ls (.int v :: rest))) : W p l e R s m args below meth c H locs cells slots Q (F0 m pc ls (.int x :: .ref qa :: rest)) := by
  obtain ⟨tf, tq, nt, hg, hw⟩ := hw
  exact g_ald C E.E hw (46 + nt) LW_last h hdg kk
theorem l_xst (C : Ctx p s m args meth c cc nL own ret) (E : gEL D k s) {qa N : Nat} {A : Nat → Int32} (hw : gS D ws0 k qx r S T [(qa, .inl (k 0, N, .inl A))] s H locs) {x v : Int32} (h : vp_in x N) (hdg : decode cc pc = .ok (.iastore, 1))
    (kk : ∀ (H : Heap) (locs : List Loc), gS D ws0 k qx r S T [(qa, .inl (k 0, N, .inl (upd A x.toNatClampNeg v)))] s H locs → W p l e R s m args below meth c H locs cells slots Q (F0 m (pc + 1) ls rest)) : W p l e R s m args below meth c H locs cells slots Q (F0 m pc ls (.int v :: .int x :: .ref qa :: rest)) := by
  obtain ⟨tf, tq, nt, hg, hw⟩ := hw
  exact g_ast C E.E hw (46 + nt) LW_last h LW_lset hdg (fun H locs hw => kk H locs ⟨tf, tq, nt, hg, hw⟩)
end LAWR
