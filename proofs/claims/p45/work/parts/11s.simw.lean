/-! THE LAW'S SIDE: what travels, and the worlds of the law's own ledger -/
def gEL (D : va_G) (k : Nat → ClassId) (s : State) : Prop := va_K D vwCl [(k 0, .int), (k 1, .boolean), (k 2, .array .boolean), (k 3, .array .int)] s ∧ xEnv s ∧ va_AOA .boolean s ∧ va_AOA .int s
theorem gEL.E {D : va_G} {k : Nat → ClassId} {s : State} (h : gEL D k s) : gE D (k 0) s := ⟨h.1.sub [0] rfl, h.2.1⟩
theorem gEL.warm {D : va_G} {k : Nat → ClassId} {s U : State} (hW : s.WarmedH U.vm) (h : gEL D k s) : gEL D k U :=
  ⟨va_K.moved hW.alike h.1, xEnv.warm hW h.2.1, va_AOA.moved hW.alike h.2.2.1, va_AOA.moved hW.alike h.2.2.2⟩
theorem gEL.same {D : va_G} {k : Nat → ClassId} {s U : State} (hW : s.vm = U.vm) (h : gEL D k s) : gEL D k U := by
  have ha : s.vm.Alike U.vm := by rw [hW]; exact Vm.Alike.refl _
  exact ⟨va_K.moved ha h.1, xEnv.same hW h.2.1, va_AOA.moved ha h.2.2.1, va_AOA.moved ha h.2.2.2⟩
def gPreL (D : va_G) (k : Nat → ClassId) (ws : va_W) (sz : Nat) (U : State) : Prop :=
  U.heap.size = sz ∧ va_P D vwCl ws U.heap ∧ va_D (fun _ => True) ws ∧ gEL D k U
theorem gPreL_blind {D : va_G} {k : Nat → ClassId} {ws : va_W} {sz : Nat} {av : List Value} : FrameBlind (va_Pc av (gPreL D k ws sz)) := by
  intro a U g mk h
  obtain ⟨h0, h1, h2, h3, h4⟩ := h
  exact ⟨h0, h1, h2, h3, gEL.same (s := U) (U := U.calling g mk a) rfl h4⟩
theorem gPreL_of {D : va_G} {k : Nat → ClassId} {ws0 ws : va_W} {s U : State} {H : Heap} {locs : List Loc} (E : gEL D k s) (h : gW D ws0 ws s H locs) (hU : U.heap = H) (hW : s.WarmedH U.vm) : gPreL D k ws H.size U :=
  ⟨by rw [hU], by rw [hU]; exact h.1, h.2.1.weaken (fun _ _ _ _ => trivial), gEL.warm hW E⟩
theorem gL_start {D : va_G} {k : Nat → ClassId} {ws : va_W} {sz : Nat} {s : State} (h : gPreL D k ws sz s) : gEL D k s ∧ gW D ws ws s s.heap [] ∧ s.heap.size = sz :=
  ⟨h.2.2.2, ⟨h.2.1, h.2.2.1.self, va_S.rf⟩, h.1⟩
abbrev refs (f : Nat → Option Nat) : (Nat → Int32) ⊕ (Nat → Int64) ⊕ (Nat → UInt32) ⊕ (Nat → UInt64) ⊕ (Nat → Option Nat) := .inr (.inr (.inr (.inr f)))
def sfs (r : Nat → Nat) (T : St) : List Value := [.int (T 34 0), .int (T 35 0), .int (T 36 0), .int (T 37 0), .ref (r 1), .ref (r 2), .ref (r 3), .ref (r 4), .ref (r 5)]
/-- the cells of the law's ledger by their places: itself, its rows, the rows of own tags, the rows of terms -/
def swE (k : Nat → ClassId) (r : Nat → Nat) (tf : Nat → Option Nat) (tq : Nat → Nat) (T : St) : Nat → Nat × va_E
  | 0 => (r 0, .inr (4, sfs r T))
  | 1 => (r 1, .inl (k 0, 16, .inl (T 1)))
  | 2 => (r 2, .inl (k 2, 24, refs (fun d => if d < 24 then some (r (6 + d)) else none)))
  | 3 => (r 3, .inl (k 0, 24, .inl (T 3)))
  | 4 => (r 4, .inl (k 0, 24, .inl (T 4)))
  | 5 => (r 5, .inl (k 3, 20, refs tf))
  | i + 6 => if i < 24 then (r (6 + i), .inl (k 1, 16, .inl (T (10 + i)))) else (tq (i - 24), .inl (k 0, 3, .inl (T (40 + (i - 24)))))
theorem swE_6 {k : Nat → ClassId} {r : Nat → Nat} {tf : Nat → Option Nat} {tq : Nat → Nat} {T : St} (i : Nat) : swE k r tf tq T (i + 6) = if i < 24 then (r (6 + i), .inl (k 1, 16, .inl (T (10 + i)))) else (tq (i - 24), .inl (k 0, 3, .inl (T (40 + (i - 24))))) := rfl
def SW (k : Nat → ClassId) (r : Nat → Nat) (tf : Nat → Option Nat) (tq : Nat → Nat) (nt : Nat) (T : St) : va_W := (List.range (30 + nt)).map (swE k r tf tq T)
theorem SW_len {k : Nat → ClassId} {r : Nat → Nat} {tf : Nat → Option Nat} {tq : Nat → Nat} {nt : Nat} {T : St} : (SW k r tf tq nt T).length = 30 + nt := by unfold SW; rw [List.length_map, List.length_range]
theorem SW_at {k : Nat → ClassId} {r : Nat → Nat} {tf : Nat → Option Nat} {tq : Nat → Nat} {nt : Nat} {T : St} {i : Nat} (h : i < 30 + nt) : (SW k r tf tq nt T)[i]? = some (swE k r tf tq T i) := by
  unfold SW
  rw [List.getElem?_map, List.getElem?_range h]
  rfl
theorem SW_adr {k : Nat → ClassId} {r : Nat → Nat} {tf : Nat → Option Nat} {tq : Nat → Nat} {nt : Nat} (T T' : St) : (SW k r tf tq nt T).map Prod.fst = (SW k r tf tq nt T').map Prod.fst := by
  unfold SW
  rw [List.map_map, List.map_map]
  refine List.map_congr_left (fun i _ => ?_)
  show (swE k r tf tq T i).1 = (swE k r tf tq T' i).1
  match i with
  | 0 | 1 | 2 | 3 | 4 | 5 => rfl
  | i + 6 =>
    rw [swE_6, swE_6]
    by_cases h : i < 24
    · rw [if_pos h, if_pos h]
    · rw [if_neg h, if_neg h]
/-- which place holds which row of the state -/
def swR (p a : Nat) : Prop := (p = 0 ∧ 34 ≤ a ∧ a < 38) ∨ (p = a ∧ (a = 1 ∨ a = 3 ∨ a = 4)) ∨ ∃ j, j < 24 ∧ p = 6 + j ∧ a = 10 + j
theorem SW_set {k : Nat → ClassId} {r : Nat → Nat} {tf : Nat → Option Nat} {tq : Nat → Nat} {nt : Nat} {T T' : St} {p a : Nat} (hp : p < 30) (hR : swR p a) (h : ∀ b, b ≠ a → T' b = T b) : (SW k r tf tq nt T).set p (swE k r tf tq T' p) = SW k r tf tq nt T' := by
  refine List.ext_getElem? (fun i => ?_)
  rw [List.getElem?_set]
  by_cases hip : p = i
  · subst hip
    rw [if_pos rfl, SW_at (by omega), if_pos (by rw [SW_len]; omega)]
  · rw [if_neg hip]
    by_cases hi : i < 30 + nt
    · rw [SW_at hi, SW_at hi]
      congr 1
      symm
      have e0 : i ≠ 0 → (a = 34 ∨ a = 35 ∨ a = 36 ∨ a = 37) ∨ (a ≠ i ∨ (a ≠ 1 ∧ a ≠ 3 ∧ a ≠ 4)) := fun _ => by
        rcases hR with ⟨h1, h2, h3⟩ | ⟨h1, h2⟩ | ⟨j, h1, h2, h3⟩ <;> omega
      have e1 : ∀ d, d < 24 → i = 6 + d → a ≠ 10 + d := fun d hd hi2 => by
        rcases hR with ⟨h1, h2, h3⟩ | ⟨h1, h2⟩ | ⟨j, h1, h2, h3⟩ <;> omega
      have e2 : a < 40 := by
        rcases hR with ⟨h1, h2, h3⟩ | ⟨h1, h2⟩ | ⟨j, h1, h2, h3⟩ <;> omega
      have e3 : i = 0 → ∀ b, 34 ≤ b → b < 38 → T' b = T b := fun hi0 b h1 h2 => h b (by
        rcases hR with ⟨h1, h2, h3⟩ | ⟨h1, h2⟩ | ⟨j, h1, h2, h3⟩ <;> omega)
      match i with
      | 0 =>
        show (r 0, Sum.inr (4, sfs r T')) = (r 0, Sum.inr (4, sfs r T))
        unfold sfs
        rw [e3 rfl 34 (by omega) (by omega), e3 rfl 35 (by omega) (by omega), e3 rfl 36 (by omega) (by omega), e3 rfl 37 (by omega) (by omega)]
      | 1 =>
        show (r 1, Sum.inl (k 0, 16, Sum.inl (T' 1))) = (r 1, Sum.inl (k 0, 16, Sum.inl (T 1)))
        rw [h 1 (by have := e0 (by decide); omega)]
      | 2 => rfl
      | 3 =>
        show (r 3, Sum.inl (k 0, 24, Sum.inl (T' 3))) = (r 3, Sum.inl (k 0, 24, Sum.inl (T 3)))
        rw [h 3 (by have := e0 (by decide); omega)]
      | 4 =>
        show (r 4, Sum.inl (k 0, 24, Sum.inl (T' 4))) = (r 4, Sum.inl (k 0, 24, Sum.inl (T 4)))
        rw [h 4 (by have := e0 (by decide); omega)]
      | 5 => rfl
      | i + 6 =>
        rw [swE_6, swE_6]
        by_cases h9 : i < 24
        · rw [if_pos h9, if_pos h9, h (10 + i) (fun q => e1 i h9 (by omega) q.symm)]
        · rw [if_neg h9, if_neg h9, h (40 + (i - 24)) (by omega)]
    · have n1 : ∀ Z, (SW k r tf tq nt Z)[i]? = none := fun Z => List.getElem?_eq_none (by rw [SW_len]; omega)
      rw [n1, n1]
/-- the rows of what all terms match -/
def mat (k : Nat → ClassId) (a : Nat) (mq : Nat → Nat) (K N : Nat) (B : St) : va_W := (a, .inl (k 2, K, refs (fun i => if i < K then some (mq i) else none))) :: (List.range K).map (fun i => (mq i, .inl (k 1, N, .inl (B i))))
def gok (tf : Nat → Option Nat) (tq : Nat → Nat) (nt : Nat) (v : Int32) : Prop := (∀ i, i < nt → tf i = some (tq i)) ∧ v.toNatClampNeg ≤ nt ∧ nt ≤ 20
def LW (k : Nat → ClassId) (qx r : Nat → Nat) (tf : Nat → Option Nat) (tq : Nat → Nat) (nt : Nat) (S T : St) (ex : va_W) : va_W := xw (k 0) qx S ++ (SW k r tf tq nt T ++ ex)
/-- the law's world while it walks; which rows of terms there are isn't said -/
def gS (D : va_G) (ws0 : va_W) (k : Nat → ClassId) (qx r : Nat → Nat) (S T : St) (ex : va_W) (s : State) (H : Heap) (locs : List Loc) : Prop := ∃ tf tq nt, gok tf tq nt (T 36 0) ∧ gW D ws0 (LW k qx r tf tq nt S T ex) s H locs
def ix (n : Nat) (x : Int32) : Option Nat := if x < 0 ∨ n ≤ x.toNatClampNeg then none else some x.toNatClampNeg
theorem ix_some {n j : Nat} {x : Int32} (h : ix n x = some j) : vp_in x n ∧ x.toNatClampNeg = j ∧ j < n := by
  unfold ix at h
  split at h
  · cases h
  · rename_i h1
    have h2 := Option.some.inj h
    exact ⟨h1, h2, by rw [← h2]; exact Nat.not_le.mp (fun q => h1 (Or.inr q))⟩
def ldO (T : St) (j : Nat) (x : Int32) : Option Int32 := if j < 24 then ld T (10 + j) 16 x else none
theorem ldO_some {T : St} {j : Nat} {x v : Int32} (h : ldO T j x = some v) : j < 24 ∧ ld T (10 + j) 16 x = some v := by
  unfold ldO at h
  split at h
  · rename_i h1
    exact ⟨h1, h⟩
  · cases h
def stoO (T : St) (j : Nat) (x v : Int32) : Option St := if j < 24 then sto T (10 + j) 16 x v else none
theorem stoO_some {T T' : St} {j : Nat} {x v : Int32} (h : stoO T j x v = some T') : j < 24 ∧ sto T (10 + j) 16 x v = some T' := by
  unfold stoO at h
  split at h
  · rename_i h1
    exact ⟨h1, h⟩
  · cases h
section SIMW
variable {p : Program} {l : Launch} {e : Env} {R : Room} {s : State} {m : MethodId} {args : Array Value} {below : List Frame} {meth : Method} {c : Code} {H : Heap} {locs : List Loc} {cells slots : Nat} {Q : State → Prop}
variable {cc bytes : ByteArray} {nL maxL : Nat} {own : String} {ret rt : Option FieldType} {D : va_G} {k : Nat → ClassId} {qx r : Nat → Nat} {pc : Nat} {ls : Array Slot} {rest st0 : List Value} {ws0 : va_W} {S T : St} {ex : va_W}
theorem gW_part {w w' ex : va_W} {H1 : Heap} {locs1 : List Loc} (hw : gW D ws0 (w ++ ex) s H locs) (ha : w.map Prod.fst = w'.map Prod.fst) (hB : va_P D vwCl w' H1) (hk : ∀ q : Nat, q < H.size → ¬ va_A w H.size q → H1[q]? = H[q]?) (hS : va_S (va_A ws0 s.heap.size) s.heap H1 locs1) : gW D ws0 (w' ++ ex) s H1 locs1 := by
  refine ⟨hB.app (fun k x hx => ?_), gD (by rw [List.map_append, List.map_append, ha]) hw.2.1, hS⟩
  have hk1 : (w ++ ex)[w.length + k]? = some x := by rw [List.getElem?_append_right (Nat.le_add_right _ _), Nat.add_sub_cancel_left]; exact hx
  refine (hw.1 _ _ hk1).kept (hk _ (hw.1 _ _ hk1).lt (fun hA => ?_))
  rcases hA with ⟨i, e9, hi⟩ | hA
  · have hl := (List.getElem?_eq_some_iff.mp hi).1
    have hi2 : (w ++ ex)[i]? = some (x.1, e9) := by rw [List.getElem?_append_left hl]; exact hi
    have := hw.2.1.1 _ _ _ _ hi2 hk1 rfl
    omega
  · exact absurd hA (Nat.not_le.mpr (hw.1 _ _ hk1).lt)
theorem gW_sub1 {w ex : va_W} (hw : gW D ws0 (w ++ ex) s H locs) : gW D ws0 w s H locs := by
  refine ⟨fun k x hx => hw.1 k x (by rw [List.getElem?_append_left (List.getElem?_eq_some_iff.mp hx).1]; exact hx), ⟨fun i j x y hi hj hxy => ?_, fun k x hx => ?_⟩, hw.2.2⟩
  · exact hw.2.1.1 i j x y (by rw [List.getElem?_append_left (List.getElem?_eq_some_iff.mp hi).1]; exact hi) (by rw [List.getElem?_append_left (List.getElem?_eq_some_iff.mp hj).1]; exact hj) hxy
  · exact hw.2.1.2 k x (by rw [List.getElem?_append_left (List.getElem?_eq_some_iff.mp hx).1]; exact hx)
theorem gW_swap {a b : va_W} (hw : gW D ws0 (a ++ b) s H locs) : gW D ws0 (b ++ a) s H locs := by
  have key : ∀ (k : Nat) (x : Nat × va_E), (b ++ a)[k]? = some x → ∃ i : Nat, (a ++ b)[i]? = some x ∧ ((k < b.length ∧ i = a.length + k) ∨ (b.length ≤ k ∧ i = k - b.length ∧ i < a.length)) := by
    intro k x hk
    by_cases hl : k < b.length
    · rw [List.getElem?_append_left hl] at hk
      exact ⟨a.length + k, by rw [List.getElem?_append_right (Nat.le_add_right _ _), Nat.add_sub_cancel_left]; exact hk, Or.inl ⟨hl, rfl⟩⟩
    · rw [List.getElem?_append_right (by omega)] at hk
      have hz := (List.getElem?_eq_some_iff.mp hk).1
      exact ⟨k - b.length, by rw [List.getElem?_append_left hz]; exact hk, Or.inr ⟨by omega, rfl, hz⟩⟩
  refine ⟨fun k x hk => ?_, ⟨fun i j x y hi hj hxy => ?_, fun k x hk => ?_⟩, hw.2.2⟩
  · obtain ⟨i, h1, -⟩ := key k x hk
    exact hw.1 i x h1
  · obtain ⟨i', h1, h2⟩ := key i x hi
    obtain ⟨j', h3, h4⟩ := key j y hj
    have := hw.2.1.1 i' j' x y h1 h3 hxy
    omega
  · obtain ⟨i, h1, -⟩ := key k x hk
    exact hw.2.1.2 i x h1
theorem LW_sw {tf : Nat → Option Nat} {tq : Nat → Nat} {nt : Nat} (hw : gW D ws0 (LW k qx r tf tq nt S T ex) s H locs) : gW D ws0 (SW k r tf tq nt T ++ (ex ++ xw (k 0) qx S)) s H locs := by
  rw [← List.append_assoc]
  exact gW_swap hw
theorem LW_ofsw {tf : Nat → Option Nat} {tq : Nat → Nat} {nt : Nat} (hw : gW D ws0 (SW k r tf tq nt T ++ (ex ++ xw (k 0) qx S)) s H locs) : gW D ws0 (LW k qx r tf tq nt S T ex) s H locs := by
  rw [← List.append_assoc] at hw
  exact gW_swap hw
theorem LW_at {tf : Nat → Option Nat} {tq : Nat → Nat} {nt i : Nat} (h : i < 30 + nt) : (LW k qx r tf tq nt S T ex)[16 + i]? = some (swE k r tf tq T i) := by
  unfold LW
  have hx : (xw (k 0) qx S).length = 16 := rfl
  rw [List.getElem?_append_right (by rw [hx]; omega), hx, Nat.add_sub_cancel_left, List.getElem?_append_left (by rw [SW_len]; exact h), SW_at h]
theorem LW_set {tf : Nat → Option Nat} {tq : Nat → Nat} {nt i a : Nat} {T' : St} (hi : i < 30) (hR : swR i a) (h : ∀ b, b ≠ a → T' b = T b) : (LW k qx r tf tq nt S T ex).set (16 + i) (swE k r tf tq T' i) = LW k qx r tf tq nt S T' ex := by
  unfold LW
  have hx : (xw (k 0) qx S).length = 16 := rfl
  rw [List.set_append_right _ _ (by rw [hx]; omega), hx, Nat.add_sub_cancel_left, List.set_append_left _ _ (by rw [SW_len]; omega), SW_set hi hR h]
/-! arrays over arrays -/
theorem va_aldA {ws : va_W} {tys : List (ClassId × FieldType)} {a : Nat} (hexec : p.tables.exec = Jvm.exec) (hb : c.code = cc) (hK : va_K D vwCl tys s) (hP : va_P D vwCl ws H) (q0 t0 : Nat) {cA : ClassId} {ty : FieldType} {n : Nat} {f : Nat → Option Nat} (ha : ws[q0]? = some (a, .inl (cA, n, refs f))) (ht : tys[t0]? = some (cA, .array ty)) {i : Int32} (hin : vp_in i n) (hdg : decode cc pc = .ok (.aaload, 1))
    (kk : W p l e R s m args below meth c H locs cells slots Q (F0 m (pc + 1) ls (va_rf (f i.toNatClampNeg) :: rest))) : W p l e R s m args below meth c H locs cells slots Q (F0 m pc ls (.int i :: .ref a :: rest)) := by
  have hlt : i.toNatClampNeg < n := Nat.not_le.mp fun q => hin (Or.inr q)
  exact W.aald (v := va_rf (f i.toNatClampNeg)) (ty := .array ty) hexec hb (hP q0 _ ha) ((hK.2 t0 _ ht).1 n (fun j => va_rf (f j))) rfl (fun q => by cases q) (by show ¬ (i < 0 ∨ (arrV _ _ _).slots.size ≤ _); rw [arrV_size]; exact hin) (by show (arrV _ _ _).slots[_]? = _; rw [arrV_read _ _ hlt]) rfl rfl hdg kk
/-! rows of the law's ledger alone (world: SW ..) -/
variable {tf : Nat → Option Nat} {tq : Nat → Nat} {nt : Nat}
theorem s_get (C : Ctx p s m args meth c cc nL own ret) (E : gEL D k s) (hw : gW D ws0 (SW k r tf tq nt T ++ ex) s H locs) (j : Nat) (hj : j < 9) {index : Nat} (hl : Cond.fieldLink own index (TX4 j).1 (TX4 j).2.1 (TX4 j).2.2.1 ∈ XALL) {v : Value} (hv : (sfs r T)[j]? = some v) (hdg : decode cc pc = .ok (.getfield index, 3)) (kk : W p l e R s m args below meth c H locs cells slots Q (F0 m (pc + 3) ls (v :: rest))) : W p l e R s m args below meth c H locs cells slots Q (F0 m pc ls (.ref (r 0) :: rest)) :=
  g_get C E.E (gW_sub1 hw) inW4 0 (SW_at (by omega)) rfl j hj hl hv hdg kk
theorem s_ald (C : Ctx p s m args meth c cc nL own ret) (E : gEL D k s) (hw : gW D ws0 (SW k r tf tq nt T ++ ex) s H locs) (i : Nat) {a n : Nat} (hi : i < 30) (he : swE k r tf tq T i = (r i, .inl (k 0, n, .inl (T a)))) {x v : Int32} (h : ld T a n x = some v) (hdg : decode cc pc = .ok (.iaload, 1)) (kk : W p l e R s m args below meth c H locs cells slots Q (F0 m (pc + 1) ls (.int v :: rest))) : W p l e R s m args below meth c H locs cells slots Q (F0 m pc ls (.int x :: .ref (r i) :: rest)) :=
  g_ald C E.E (gW_sub1 hw) i (by rw [SW_at (by omega), he]) (ld_some h) hdg kk
theorem s_aaO (C : Ctx p s m args meth c cc nL own ret) (E : gEL D k s) (hw : gW D ws0 (SW k r tf tq nt T ++ ex) s H locs) {x : Int32} {j : Nat} (h : ix 24 x = some j) (hdg : decode cc pc = .ok (.aaload, 1)) (kk : W p l e R s m args below meth c H locs cells slots Q (F0 m (pc + 1) ls (.ref (r (6 + j)) :: rest))) : W p l e R s m args below meth c H locs cells slots Q (F0 m pc ls (.int x :: .ref (r 2) :: rest)) := by
  obtain ⟨h1, h2, h3⟩ := ix_some h
  refine va_aldA C.1 C.2.1 E.1 (gW_sub1 hw).1 2 2 (SW_at (by omega)) rfl h1 hdg ?_
  rw [h2, if_pos h3]
  exact kk
theorem swE_own {T : St} {j : Nat} (h : j < 24) : swE k r tf tq T (6 + j) = (r (6 + j), .inl (k 1, 16, .inl (T (10 + j)))) := by
  rw [Nat.add_comm 6 j, swE_6, if_pos h, Nat.add_comm 6 j]
theorem s_zald (C : Ctx p s m args meth c cc nL own ret) (E : gEL D k s) (hw : gW D ws0 (SW k r tf tq nt T ++ ex) s H locs) {x v : Int32} {j : Nat} (h : ldO T j x = some v) (hdg : decode cc pc = .ok (.baload, 1)) (kk : W p l e R s m args below meth c H locs cells slots Q (F0 m (pc + 1) ls (.int v :: rest))) : W p l e R s m args below meth c H locs cells slots Q (F0 m pc ls (.int x :: .ref (r (6 + j)) :: rest)) := by
  obtain ⟨h1, h2⟩ := ldO_some h
  obtain ⟨h3, rfl⟩ := ld_some h2
  exact va_zald C.1 C.2.1 E.1 (gW_sub1 hw).1 (6 + j) 1 (by rw [SW_at (by omega), swE_own h1]) rfl h3 hdg kk
theorem s_alen (C : Ctx p s m args meth c cc nL own ret) (E : gEL D k s) (hw : gW D ws0 (SW k r tf tq nt T ++ ex) s H locs) {j : Nat} (h1 : j < 24) (hdg : decode cc pc = .ok (.arraylength, 1)) (kk : W p l e R s m args below meth c H locs cells slots Q (F0 m (pc + 1) ls (.int 16 :: rest))) : W p l e R s m args below meth c H locs cells slots Q (F0 m pc ls (.ref (r (6 + j)) :: rest)) :=
  va_alen C.1 C.2.1 E.1 (gW_sub1 hw).1 (6 + j) 1 (by rw [SW_at (by omega), swE_own h1]) rfl (v := 16) rfl hdg kk
end SIMW
