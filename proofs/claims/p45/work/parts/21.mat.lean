/-! new rows over rows -/
theorem pl_map {K : Nat} {f : Nat → Nat} {g : Nat → va_E} {x : va_E} : va_pl ([] ++ (List.range K).map f) (vr_up g ((List.range K).map f) x) = (List.range K).map (fun i => (f i, x)) := by
  rw [← vr_rows (fun a _ h => by cases h)]
  show [] ++ _ = _
  rw [List.nil_append, List.map_map]
  rfl
def mkM (T : St) : Option St := if T 36 0 < 0 ∨ 20 < T 36 0 ∨ T 35 0 < 0 ∨ 24 < T 35 0 then none else some (fun _ _ => 0)
theorem le_clamp {x : Int32} {n : Nat} (hn : n < 2 ^ 31) (h0 : ¬ x < 0) (h : ¬ nI n < x) : x.toNatClampNeg ≤ n := by
  rw [Int32.lt_iff_toInt_lt, nI_toInt hn] at h
  have h1 : ¬ x.toInt < 0 := fun q => h0 (Int32.lt_iff_toInt_lt.mpr q)
  show x.toInt.toNat ≤ n
  omega
theorem mkM_some {T B : St} (h : mkM T = some B) : ¬ T 36 0 < 0 ∧ (T 36 0).toNatClampNeg ≤ 20 ∧ ¬ T 35 0 < 0 ∧ (T 35 0).toNatClampNeg ≤ 24 ∧ B = fun _ _ => 0 := by
  unfold mkM at h
  split at h
  · cases h
  · rename_i h1
    have h2 : ¬ T 36 0 < 0 := fun q => h1 (Or.inl q)
    have h3 : ¬ (20 : Int32) < T 36 0 := fun q => h1 (Or.inr (Or.inl q))
    have h4 : ¬ T 35 0 < 0 := fun q => h1 (Or.inr (Or.inr (Or.inl q)))
    have h5 : ¬ (24 : Int32) < T 35 0 := fun q => h1 (Or.inr (Or.inr (Or.inr q)))
    exact ⟨h2, le_clamp (n := 20) (by decide) h2 h3, h4, le_clamp (n := 24) (by decide) h4 h5, (Option.some.inj h).symm⟩
def ldT (T : St) (j : Nat) (x : Int32) : Option Int32 := if j < (T 36 0).toNatClampNeg then ld T (40 + j) 3 x else none
theorem ldT_some {T : St} {j : Nat} {x v : Int32} (h : ldT T j x = some v) : j < (T 36 0).toNatClampNeg ∧ ld T (40 + j) 3 x = some v := by
  unfold ldT at h
  split at h
  · rename_i h1
    exact ⟨h1, h⟩
  · cases h
def stoM (B : St) (K j N : Nat) (x v : Int32) : Option St := if j < K then sto B j N x (vp_nar .boolean v) else none
theorem stoM_some {B B' : St} {K j N : Nat} {x v : Int32} (h : stoM B K j N x v = some B') : j < K ∧ sto B j N x (vp_nar .boolean v) = some B' := by
  unfold stoM at h
  split at h
  · rename_i h1
    exact ⟨h1, h⟩
  · cases h
theorem mat_0 {k : Nat → ClassId} {a : Nat} {mq : Nat → Nat} {K N : Nat} {B : St} : (mat k a mq K N B)[0]? = some (a, .inl (k 2, K, refs (fun i => if i < K then some (mq i) else none))) := rfl
theorem mat_s {k : Nat → ClassId} {a : Nat} {mq : Nat → Nat} {K N : Nat} {B : St} {j : Nat} (h : j < K) : (mat k a mq K N B)[j + 1]? = some (mq j, .inl (k 1, N, .inl (B j))) := by
  unfold mat
  rw [List.getElem?_cons_succ, List.getElem?_map, List.getElem?_range h]
  rfl
theorem mat_len {k : Nat → ClassId} {a : Nat} {mq : Nat → Nat} {K N : Nat} {B : St} : (mat k a mq K N B).length = K + 1 := by unfold mat; rw [List.length_cons, List.length_map, List.length_range]
theorem mat_set {k : Nat → ClassId} {a : Nat} {mq : Nat → Nat} {K N : Nat} {B : St} {j : Nat} (h : j < K) {x : Nat} {v : Int32} : (mat k a mq K N B).set (j + 1) (mq j, .inl (k 1, N, .inl (upd (B j) x v))) = mat k a mq K N (up B j x v) := by
  refine List.ext_getElem? (fun i => ?_)
  rw [List.getElem?_set]
  by_cases hi : j + 1 = i
  · subst hi
    rw [if_pos rfl, if_pos (by rw [mat_len]; omega), mat_s h, up_same]
  · rw [if_neg hi]
    match i with
    | 0 => rfl
    | i + 1 =>
      by_cases h2 : i < K
      · rw [mat_s h2, mat_s h2, up_oth (by omega)]
      · rw [List.getElem?_eq_none (by rw [mat_len]; omega), List.getElem?_eq_none (by rw [mat_len]; omega)]
section MATR
variable {p : Program} {l : Launch} {e : Env} {R : Room} {s : State} {m : MethodId} {args : Array Value} {below : List Frame} {meth : Method} {c : Code} {H : Heap} {locs : List Loc} {cells slots : Nat} {Q : State → Prop}
variable {cc bytes : ByteArray} {nL maxL : Nat} {own : String} {ret rt : Option FieldType} {D : va_G} {k : Nat → ClassId} {qx r : Nat → Nat} {pc : Nat} {ls : Array Slot} {rest st0 : List Value} {ws0 : va_W} {S T B : St} {ex : va_W}
variable {As : List Value} {rm : Room} {y : MethodName} {n index : Nat} {Qc : Array Value → State → Outcome → State → Prop} {free : Addr → Prop} {host : String} {b : Nat} {tf : Nat → Option Nat} {tq : Nat → Nat} {nt : Nat}
theorem g_newM (C : Ctx p s m args meth c cc nL own ret) (E : gEL D k s) {ws : va_W} (hw : gW D ws0 ws s H locs) (hcl : Cond.classLink own index "[[Z" ∈ XALL) {n v : Int32} (K N : Nat) (hn : ¬ n < 0) (hv : ¬ v < 0) (hK : n.toNatClampNeg = K) (hN : v.toNatClampNeg = N) (hK9 : K ≤ 100) (hN9 : N ≤ 100) (hc : cells + (1 + K) ≤ R.cells) (hs : slots + (K + K * N) ≤ R.slots) (hdg : decode cc pc = .ok (.multianewarray index 2, 4))
    (kk : ∀ (a : Nat) (mq : Nat → Nat) (H : Heap), gW D ws0 (ws ++ mat k a mq K N (fun _ _ => 0)) s H locs → W p l e R s m args below meth c H locs (cells + 1 + K) (slots + K + K * N) Q (F0 m (pc + 4) ls (.ref a :: rest))) : W p l e R s m args below meth c H locs cells slots Q (F0 m pc ls (.int v :: .int n :: rest)) := by
  have hcy : s.vm.findClass (FieldType.array .boolean).toString = some (k 1) := (E.1.2 1 (k 1, .boolean) rfl).2
  have hP0 : va_P D vwCl (ws ++ va_pl [] (fun _ => .inr (0, []))) H := by
    show va_P D vwCl (ws ++ []) H
    rw [List.append_nil]
    exact hw.1
  have hD0 : va_D (va_A ws0 s.heap.size) (ws ++ va_pl [] (fun _ => .inr (0, []))) := by
    show va_D _ (ws ++ [])
    rw [List.append_nil]
    exact hw.2.1
  refine va_mna (ty := .boolean) (z := (N, .inl (fun _ => 0))) C.1 C.2.1 C.2.2.2.1 (C.2.2.2.2.1 _ hcl) E.2.2.1 (C.2.2.2.2.1 _ ka_boolean) hcy E.1 hP0 hD0 hw.2.2 (fun _ h => Or.inr h) hn hv hK hN (by omega) (by show N * 1 ≤ _; omega) (by omega) (by decide) (by decide) hc hs (fun c => ?_) hdg (fun a mq cA H1 _ _ hK4 hP hD hS => ?_)
  · show _ = arrV c N (fun _ => .int 0)
    unfold Jvm.Free.Multi.innerC
    rw [← arrV_new]
    rfl
  · have h1 : s.vm.findClass ("[" ++ (FieldType.array .boolean).toString) = some cA := (hK4.2 4 (cA, .array .boolean) rfl).2
    have h2 : s.vm.findClass ("[" ++ (FieldType.array .boolean).toString) = some (k 2) := (E.1.2 2 (k 2, .array .boolean) rfl).2
    have h3 : cA = k 2 := Option.some.inj (h1.symm.trans h2)
    subst h3
    rw [pl_map, List.append_assoc] at hP hD
    exact kk a mq H1 ⟨hP, hD, hS⟩
theorem va_anewA (C : Ctx p s m args meth c cc nL own ret) (E : gEL D k s) {ws : va_W} (hw : gW D ws0 ws s H locs) (hcl : Cond.classLink own index "[I" ∈ XALL) {n : Int32} (N : Nat) (hn : ¬ n < 0) (hN : n.toNatClampNeg = N) (hb : N * 4 ≤ 536870912) (hc : cells + 1 ≤ R.cells) (hs : slots + N ≤ R.slots) (hdg : decode cc pc = .ok (.anewarray index, 3))
    (kk : ∀ (a : Nat) (H : Heap), gW D ws0 (ws ++ [(a, .inl (k 3, N, refs (fun _ => none)))]) s H locs → W p l e R s m args below meth c H locs (cells + 1) (slots + N) Q (F0 m (pc + 3) ls (.ref a :: rest))) : W p l e R s m args below meth c H locs cells slots Q (F0 m pc ls (.int n :: rest)) := by
  subst hN
  refine W.anewA (t := .int) C.1 C.2.1 C.2.2.2.1 (C.2.2.2.2.1 _ hcl) (va_AOA.use E.2.2.2) rfl hdg rfl hn hb hc hs fun cA kA comp f1 f2 f3 f4 => ?_
  have h2 : s.vm.findClass ("[" ++ (FieldType.array .int).toString) = some (k 3) := (E.1.2 3 (k 3, .array .int) rfl).2
  have h3 : cA = k 3 := Option.some.inj (f1.symm.trans h2)
  subst h3
  generalize hH1 : H.push ({ cls := k 3, slots := Array.replicate n.toNatClampNeg .null, vm := .none } : Cell) = H1
  have z1 : H1.size = H.size + 1 := by rw [← hH1, Array.size_push]
  have e1 : H1[H.size]? = some (arrV (k 3) n.toNatClampNeg (fun _ => .null)) := by rw [← hH1, Array.getElem?_push_size, ← arrV_new]
  have o1 : ∀ q : Nat, q < H.size → H1[q]? = H[q]? := fun q hq => by rw [← hH1, Array.getElem?_push, if_neg (Nat.ne_of_lt hq)]
  have hS1 := hw.2.2
  refine kk H.size H1 ⟨(hw.1.kept (fun k9 x hx => o1 x.1 ((hw.1 k9 x hx).lt))).app (fun k9 x hx => ?_), hw.2.1.push hw.1 rfl (Or.inr hS1.1), ⟨Nat.le_trans hS1.1 (by omega), fun x h1 h2 => (o1 x (Nat.lt_of_lt_of_le h1 hS1.1)).trans (hS1.2.1 x h1 h2), hS1.2.2⟩⟩
  have hz : k9 < 1 := (List.getElem?_eq_some_iff.mp hx).1
  rw [show k9 = 0 by omega] at hx
  cases hx
  show H1[H.size]? = some (vp_cell _ _)
  rw [vp_cell_q]
  exact e1
/-! rows of the walk of 'matches' -/
theorem s_aaT (C : Ctx p s m args meth c cc nL own ret) (E : gEL D k s) (hg : gok tf tq nt (T 36 0)) (hw : gW D ws0 (SW k r tf tq nt T ++ ex) s H locs) {x : Int32} {j : Nat} (h : ix (T 36 0).toNatClampNeg x = some j) (hdg : decode cc pc = .ok (.aaload, 1)) (kk : W p l e R s m args below meth c H locs cells slots Q (F0 m (pc + 1) ls (.ref (tq j) :: rest))) : W p l e R s m args below meth c H locs cells slots Q (F0 m pc ls (.int x :: .ref (r 5) :: rest)) := by
  obtain ⟨h1, h2, h3⟩ := ix_some h
  have h4 := hg.2
  refine va_aldA C.1 C.2.1 E.1 (gW_sub1 hw).1 5 3 (SW_at (by omega)) rfl (n := 20) (fun q => h1 (by rcases q with q | q; exact Or.inl q; exact Or.inr (by omega))) hdg ?_
  rw [h2, hg.1 j (by omega)]
  exact kk
theorem swE_term {T : St} {j : Nat} : swE k r tf tq T (30 + j) = (tq j, .inl (k 0, 3, .inl (T (40 + j)))) := by
  rw [show 30 + j = (24 + j) + 6 by omega, swE_6, if_neg (by omega), Nat.add_sub_cancel_left]
theorem s_ldT (C : Ctx p s m args meth c cc nL own ret) (E : gEL D k s) (hg : gok tf tq nt (T 36 0)) (hw : gW D ws0 (SW k r tf tq nt T ++ ex) s H locs) {x v : Int32} {j : Nat} (h : ldT T j x = some v) (hdg : decode cc pc = .ok (.iaload, 1)) (kk : W p l e R s m args below meth c H locs cells slots Q (F0 m (pc + 1) ls (.int v :: rest))) : W p l e R s m args below meth c H locs cells slots Q (F0 m pc ls (.int x :: .ref (tq j) :: rest)) := by
  obtain ⟨h1, h2⟩ := ldT_some h
  have h4 := hg.2
  exact g_ald C E.E (gW_sub1 hw) (30 + j) (by rw [SW_at (by omega), swE_term]) (ld_some h2) hdg kk
variable {w : va_W} {a : Nat} {mq : Nat → Nat} {K N : Nat}
theorem m_aa (C : Ctx p s m args meth c cc nL own ret) (E : gEL D k s) (hw : gW D ws0 (w ++ mat k a mq K N B) s H locs) {x : Int32} {j : Nat} (h : ix K x = some j) (hdg : decode cc pc = .ok (.aaload, 1)) (kk : W p l e R s m args below meth c H locs cells slots Q (F0 m (pc + 1) ls (.ref (mq j) :: rest))) : W p l e R s m args below meth c H locs cells slots Q (F0 m pc ls (.int x :: .ref a :: rest)) := by
  obtain ⟨h1, h2, h3⟩ := ix_some h
  refine va_aldA C.1 C.2.1 E.1 hw.1 w.length 2 (by rw [List.getElem?_append_right (Nat.le_refl _), Nat.sub_self]; exact mat_0) rfl h1 hdg ?_
  rw [h2, if_pos h3]
  exact kk
theorem mat_in {j : Nat} (h : j < K) : (w ++ mat k a mq K N B)[w.length + (j + 1)]? = some (mq j, .inl (k 1, N, .inl (B j))) := by
  rw [List.getElem?_append_right (Nat.le_add_right _ _), Nat.add_sub_cancel_left, mat_s h]
theorem m_ld (C : Ctx p s m args meth c cc nL own ret) (E : gEL D k s) (hw : gW D ws0 (w ++ mat k a mq K N B) s H locs) {x v : Int32} {j : Nat} (h : ldM B K j N x = some v) (hdg : decode cc pc = .ok (.baload, 1)) (kk : W p l e R s m args below meth c H locs cells slots Q (F0 m (pc + 1) ls (.int v :: rest))) : W p l e R s m args below meth c H locs cells slots Q (F0 m pc ls (.int x :: .ref (mq j) :: rest)) := by
  obtain ⟨h1, h2⟩ := ldM_some h
  obtain ⟨h3, rfl⟩ := ld_some h2
  exact va_zald C.1 C.2.1 E.1 hw.1 (w.length + (j + 1)) 1 (mat_in h1) rfl h3 hdg kk
theorem m_st (C : Ctx p s m args meth c cc nL own ret) (E : gEL D k s) (hw : gW D ws0 (w ++ mat k a mq K N B) s H locs) {x v : Int32} {j : Nat} {B' : St} (h : stoM B K j N x v = some B') (hdg : decode cc pc = .ok (.bastore, 1))
    (kk : ∀ (H : Heap) (locs : List Loc), gW D ws0 (w ++ mat k a mq K N B') s H locs → W p l e R s m args below meth c H locs cells slots Q (F0 m (pc + 1) ls rest)) : W p l e R s m args below meth c H locs cells slots Q (F0 m pc ls (.int v :: .int x :: .ref (mq j) :: rest)) := by
  obtain ⟨h1, h2⟩ := stoM_some h
  obtain ⟨h3, rfl⟩ := sto_some h2
  refine va_zast C.1 C.2.1 E.1 hw.1 hw.2.1 hw.2.2 (w.length + (j + 1)) 1 (mat_in h1) rfl h3 hdg (fun H1 locs1 hP hD hS => kk H1 locs1 ?_)
  rw [List.set_append_right _ _ (Nat.le_add_right _ _), Nat.add_sub_cancel_left, mat_set h1] at hP hD
  exact ⟨hP, hD, hS⟩
/-- hasTag from 'matches' -/
theorem m_si (C : Ctx p s m args meth c cc nL own ret) (E : gEL D k s) (hw : gW D ws0 (SW k r tf tq nt T ++ ex) s H locs) (F : FctV y bytes maxL rt n) (hy : y.cls = RX4) {r1 : Int32} (hM : ∀ sz, Met l y (Cond.code y bytes maxL rt :: XALL) rm (va_Pc (.ref (r 0) :: As) (gPreL D k (SN k r tf tq nt T) sz)) (gQi D (SN k r tf tq nt) T (fun v u => v = r1 ∧ u = T) sz) rm.cells rm.slots (va_A (SN k r tf tq nt T) sz)) (hk : Cond.methodLink own index y ∈ XALL)
    (hn : As.length = n) (hsize : ls.size = nL) (hst : st0 = As.reverse ++ .ref (r 0) :: rest) (hr8 : (rest.map fun v => v.category).sum ≤ 8) (hR : rm.frames + 1 ≤ R.frames ∧ 8 + (maxL + 11) + rm.locals ≤ R.locals) (hf : cells + rm.cells ≤ R.cells ∧ slots + rm.slots ≤ R.slots) (hdg : decode cc pc = .ok (.invokevirtual index, 3))
    (kk : ∀ (H : Heap) (locs : List Loc), gW D ws0 (SW k r tf tq nt T ++ ex) s H locs → W p l e R s m args below meth c H locs (cells + rm.cells) (slots + rm.slots) Q (F0 m (pc + 3) ls (.int r1 :: rest))) : W p l e R s m args below meth c H locs cells slots Q (F0 m pc ls st0) := by
  have hw3 : gW D ws0 (SN k r tf tq nt T) s H locs := by rw [SN_e]; exact gW_sub1 hw
  have hr := g_runVL (e := e) (below := below) (T := TX4) (N := 9) C E hw3 F (hM _) hk 0 SN_0 (by rw [hy]; rfl) hn hsize hst hr8 hR hf hdg
  have hA := hw3.A
  refine va_calli hr hw.2.2 (fun q _ h => hA q h) hA (fun v u t H1 locs1 ht _ hp hB _ hkq hS => ?_)
  obtain ⟨rfl, rfl⟩ := hp
  rw [ht, SN_e] at hB
  rw [SN_e] at hkq
  exact kk H1 locs1 (gW_part hw (SW_adr _ _) hB hkq hS)
theorem m_aret (C : Ctx p s m args meth c cc nL own (some (.array (.array .boolean)))) (hw : gW D (SN k r tf tq nt T) (SW k r tf tq nt T ++ mat k a mq (T 36 0).toNatClampNeg (T 35 0).toNatClampNeg B) s H locs) {mc ms : Nat} (hc : cells ≤ mc) (hs : slots ≤ ms) {B1 : St} (hp : B = B1) (hdg : decode cc pc = .ok (.areturn, 1)) :
    W p l e R s m args below meth c H locs cells slots (MQ below (gQM D k r tf tq nt T B1 s.heap.size) args s mc ms (va_A (SN k r tf tq nt T) s.heap.size)) (F0 m pc ls [.ref a]) := by
  subst hp
  exact W.widen hc hs (W.aret C.1 C.2.1 C.2.2.2.2.2.1 (Or.inr ⟨_, rfl⟩) (Or.inr ⟨a, rfl⟩) (fun t ht hW => ⟨⟨mq, a, rfl, trivial, by rw [ht]; exact hw.1, hw.2.1⟩, hw.F ht⟩) hw.2.2.2.2 hdg C.2.2.2.2.2.2)
/-- a callee's part of the world comes back greater -/
theorem gW_join {w w' ex : va_W} {H1 : Heap} {locs1 : List Loc} (hw : gW D ws0 (w ++ ex) s H locs) (hB : va_P D vwCl w' H1) (hD : va_D (va_A w H.size) w') (hk : ∀ q : Nat, q < H.size → ¬ va_A w H.size q → H1[q]? = H[q]?) (hS : va_S (va_A ws0 s.heap.size) s.heap H1 locs1) : gW D ws0 (w' ++ ex) s H1 locs1 := by
  have hout : ∀ (i : Nat) (x : Nat × va_E), ex[i]? = some x → (w ++ ex)[w.length + i]? = some x ∧ x.1 < H.size ∧ ¬ va_A w H.size x.1 := by
    intro i x hx
    have hk1 : (w ++ ex)[w.length + i]? = some x := by rw [List.getElem?_append_right (Nat.le_add_right _ _), Nat.add_sub_cancel_left]; exact hx
    refine ⟨hk1, (hw.1 _ _ hk1).lt, fun hA => ?_⟩
    rcases hA with ⟨j, e9, hi⟩ | hA
    · have hl := (List.getElem?_eq_some_iff.mp hi).1
      have hi2 : (w ++ ex)[j]? = some (x.1, e9) := by rw [List.getElem?_append_left hl]; exact hi
      have := hw.2.1.1 _ _ _ _ hi2 hk1 rfl
      omega
    · exact absurd hA (Nat.not_le.mpr (hw.1 _ _ hk1).lt)
  have hA := (gW_sub1 hw).A
  refine ⟨hB.app (fun i x hx => ?_), va_D.app (hD.weaken (fun _ _ _ h => hA _ h)) ⟨fun i j x y hi hj hxy => ?_, fun i x hx => hw.2.1.2 _ _ (hout i x hx).1⟩ (fun i j x y hi hj hxy => ?_), hS⟩
  · obtain ⟨h1, h2, h3⟩ := hout i x hx
    exact (hw.1 _ _ h1).kept (hk _ h2 h3)
  · have := hw.2.1.1 _ _ _ _ (hout i x hi).1 (hout j y hj).1 hxy
    omega
  · exact (hout j y hj).2.2 (by rw [← hxy]; exact hD.2 i x hi)
/-- 'matches' from isSame -/
theorem l_mat (C : Ctx p s m args meth c cc nL own ret) (E : gEL D k s) (hw : gS D ws0 k qx r S T [] s H locs) (F : FctV y bytes maxL rt n) (hy : y.cls = RX4) {B1 : St} (hM : ∀ tf tq nt sz, gok tf tq nt (T 36 0) → Met l y (Cond.code y bytes maxL rt :: XALL) rm (va_Pc (.ref (r 0) :: As) (gPreL D k (SN k r tf tq nt T) sz)) (gQM D k r tf tq nt T B1 sz) rm.cells rm.slots (va_A (SN k r tf tq nt T) sz)) (hk : Cond.methodLink own index y ∈ XALL)
    (hn : As.length = n) (hsize : ls.size = nL) (hst : st0 = As.reverse ++ .ref (r 0) :: rest) (hr8 : (rest.map fun v => v.category).sum ≤ 8) (hR : rm.frames + 1 ≤ R.frames ∧ 8 + (maxL + 11) + rm.locals ≤ R.locals) (hf : cells + rm.cells ≤ R.cells ∧ slots + rm.slots ≤ R.slots) (hdg : decode cc pc = .ok (.invokevirtual index, 3))
    (kk : ∀ (a : Nat) (mq : Nat → Nat) (H : Heap) (locs : List Loc), gS D ws0 k qx r S T (mat k a mq (T 36 0).toNatClampNeg (T 35 0).toNatClampNeg B1) s H locs → W p l e R s m args below meth c H locs (cells + rm.cells) (slots + rm.slots) Q (F0 m (pc + 3) ls (.ref a :: rest))) : W p l e R s m args below meth c H locs cells slots Q (F0 m pc ls st0) := by
  obtain ⟨tf, tq, nt, hg, hw⟩ := hw
  have hw2 := LW_sw hw
  have hw3 : gW D ws0 (SN k r tf tq nt T) s H locs := by rw [SN_e]; exact gW_sub1 hw2
  have hr := g_runVL (e := e) (below := below) (T := TX4) (N := 9) C E hw3 F (hM tf tq nt _ hg) hk 0 SN_0 (by rw [hy]; rfl) hn hsize hst hr8 hR hf hdg
  have hA := hw3.A
  refine va_callr hr hw.2.2 (fun q _ h => hA q h) hA (fun mq a t H1 locs1 ht _ _ hB _ hkq hS => ?_)
  obtain ⟨hP1, hD1⟩ := hB
  rw [ht] at hP1
  rw [SN_e] at hD1 hkq
  refine kk a mq H1 locs1 ⟨tf, tq, nt, hg, LW_ofsw ?_⟩
  have hj := gW_join hw2 hP1 hD1 hkq hS
  rw [List.append_assoc] at hj
  exact hj
theorem l_maa (C : Ctx p s m args meth c cc nL own ret) (E : gEL D k s) (hw : gS D ws0 k qx r S T (mat k a mq K N B) s H locs) {x : Int32} {j : Nat} (h : ix K x = some j) (hdg : decode cc pc = .ok (.aaload, 1)) (kk : W p l e R s m args below meth c H locs cells slots Q (F0 m (pc + 1) ls (.ref (mq j) :: rest))) : W p l e R s m args below meth c H locs cells slots Q (F0 m pc ls (.int x :: .ref a :: rest)) := by
  obtain ⟨tf, tq, nt, hg, hw⟩ := hw
  unfold LW at hw
  rw [← List.append_assoc] at hw
  exact m_aa C E hw h hdg kk
theorem l_mld (C : Ctx p s m args meth c cc nL own ret) (E : gEL D k s) (hw : gS D ws0 k qx r S T (mat k a mq K N B) s H locs) {x v : Int32} {j : Nat} (h : ldM B K j N x = some v) (hdg : decode cc pc = .ok (.baload, 1)) (kk : W p l e R s m args below meth c H locs cells slots Q (F0 m (pc + 1) ls (.int v :: rest))) : W p l e R s m args below meth c H locs cells slots Q (F0 m pc ls (.int x :: .ref (mq j) :: rest)) := by
  obtain ⟨tf, tq, nt, hg, hw⟩ := hw
  unfold LW at hw
  rw [← List.append_assoc] at hw
  exact m_ld C E hw h hdg kk
end MATR
