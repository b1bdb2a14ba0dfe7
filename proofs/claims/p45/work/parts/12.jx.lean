/-! DreamLedger.TagTree.lineFrom -/
def fX1_lineFrom_7 (S : St) : Nat → Int32 → Int32 → Int32 → Option Int32
  | 0, _, _, _ => none
  | n + 1, x2, x3, x4 =>
    if 16 ≤ x4 then
      some x2
    else
      if x3 < 0 then
        some x2
      else
        if (S 14 0) ≤ x3 then
          some x2
        else
          Option.bind (some ((x2 ||| ((1 : Int32) <<< (x3 &&& 31))))) fun x2_1 =>
          Option.bind (ld S 4 16 x3) fun v_2 =>
          Option.bind (some (x4 + 1)) fun x4_3 =>
          fX1_lineFrom_7 S n x2_1 v_2 x4_3
set_option maxHeartbeats 4000000 in
set_option maxRecDepth 100000 in
theorem wX1_lineFrom_7 {p : Program} {l : Launch} {e : Env} {s : State} {m : MethodId} {args : Array Value} {below : List Frame} {meth : Method} {c : Code} {D : va_G} {cI : ClassId} {q : Nat → Nat} (C : Ctx p s m args meth c cX1_lineFrom 5 RX1 (some .int)) (E : gE D cI s) {r1 : Int32} (S : St) : ∀ (n : Nat) (x2 : Int32) (x3 : Int32) (x4 : Int32), fX1_lineFrom_7 S n x2 x3 x4 = some r1 → ∀ (H : Heap) (locs : List Loc) (ls : Array Slot), gW D ((xw cI q) S) ((xw cI q) S) s H locs → lv_has ls 5 [(0, .ref (q 1)), (2, .int x2), (3, .int x3), (4, .int x4)] → W p l e ({ frames := 0, cells := 0, slots := 0, locals := 0 } : Room) s m args below meth c H locs 0 0 (MQ below (gQi D (xw cI q) S (fun (r : Int32) (u : St) => r = r1 ∧ u = S) s.heap.size) args s 0 0 (va_A ((xw cI q) S) s.heap.size)) (F0 m 7 ls []) := by
  intro n
  induction n with
  | zero => intro x2 x3 x4 hf; rw [fX1_lineFrom_7] at hf; cases hf
  | succ n ih =>
    intro x2 x3 x4 hf H locs ls hw hl
    rw [fX1_lineFrom_7] at hf
    refine lv_iload C.1 C.2.1 dX1_lineFrom_7 (lv_at hl 3 rfl) ?_
    refine lv_bipush (v := 16) C.1 C.2.1 dX1_lineFrom_9 (by decide) ?_
    refine lv_icmp_ge (tgt := 45) C.1 C.2.1 dX1_lineFrom_11 (by decide) (fun hc => ?_) (fun hc => ?_)
    · have hf := ift hc hf
      refine lv_iload_n C.1 C.2.1 dX1_lineFrom_45 rfl (lv_at hl 1 rfl) ?_
      exact g_iret C hw (Nat.le_of_ble_eq_true rfl) (Nat.le_of_ble_eq_true rfl) ⟨Option.some.inj hf, rfl⟩ dX1_lineFrom_46
    · have hf := iff_ hc hf
      refine lv_iload_n C.1 C.2.1 dX1_lineFrom_14 rfl (lv_at hl 2 rfl) ?_
      refine lv_if_lt (tgt := 45) C.1 C.2.1 dX1_lineFrom_15 (by decide) (fun hc => ?_) (fun hc => ?_)
      · have hf := ift hc hf
        refine lv_iload_n C.1 C.2.1 dX1_lineFrom_45 rfl (lv_at hl 1 rfl) ?_
        exact g_iret C hw (Nat.le_of_ble_eq_true rfl) (Nat.le_of_ble_eq_true rfl) ⟨Option.some.inj hf, rfl⟩ dX1_lineFrom_46
      · have hf := iff_ hc hf
        refine lv_iload_n C.1 C.2.1 dX1_lineFrom_18 rfl (lv_at hl 2 rfl) ?_
        refine lv_aload_n C.1 C.2.1 dX1_lineFrom_19 rfl (lv_at hl 0 rfl) ?_
        refine g_get C E hw inW1 1 rfl rfl 2 (by decide) kf_X1_18 rfl dX1_lineFrom_20 ?_
        refine lv_icmp_ge (tgt := 45) C.1 C.2.1 dX1_lineFrom_23 (by decide) (fun hc => ?_) (fun hc => ?_)
        · have hf := ift hc hf
          refine lv_iload_n C.1 C.2.1 dX1_lineFrom_45 rfl (lv_at hl 1 rfl) ?_
          exact g_iret C hw (Nat.le_of_ble_eq_true rfl) (Nat.le_of_ble_eq_true rfl) ⟨Option.some.inj hf, rfl⟩ dX1_lineFrom_46
        · have hf := iff_ hc hf
          refine lv_iload_n C.1 C.2.1 dX1_lineFrom_26 rfl (lv_at hl 1 rfl) ?_
          refine lv_iconst (v := 1) C.1 C.2.1 dX1_lineFrom_27 (by decide) ?_
          refine lv_iload_n C.1 C.2.1 dX1_lineFrom_28 rfl (lv_at hl 2 rfl) ?_
          refine lv_ishl C.1 C.2.1 dX1_lineFrom_29 ?_
          refine lv_ior C.1 C.2.1 dX1_lineFrom_30 ?_
          obtain ⟨x2_1, hx2_1, hf⟩ := bnd hf
          refine topi_b hx2_1 ?_
          refine lv_istore_n (lv' := [(2, .int x2_1), (0, .ref (q 1)), (3, .int x3), (4, .int x4)]) C.1 C.2.1 dX1_lineFrom_31 rfl hl (by decide) rfl (fun ls hl => ?_)
          refine lv_aload_n C.1 C.2.1 dX1_lineFrom_32 rfl (lv_at hl 1 rfl) ?_
          refine g_get C E hw inW1 1 rfl rfl 0 (by decide) kf_X1_9 rfl dX1_lineFrom_33 ?_
          refine lv_iload_n C.1 C.2.1 dX1_lineFrom_36 rfl (lv_at hl 2 rfl) ?_
          obtain ⟨v_2, hv_2, hf⟩ := bnd hf
          refine g_ald C E hw 8 rfl (ld_some hv_2) dX1_lineFrom_37 ?_
          refine lv_istore_n (lv' := [(3, .int v_2), (2, .int x2_1), (0, .ref (q 1)), (4, .int x4)]) C.1 C.2.1 dX1_lineFrom_38 rfl hl (by decide) rfl (fun ls hl => ?_)
          obtain ⟨x4_3, hx4_3, hf⟩ := bnd hf
          refine lv_iinc (v := x4_3) (lv' := [(4, .int x4_3), (3, .int v_2), (2, .int x2_1), (0, .ref (q 1))]) C.1 C.2.1 dX1_lineFrom_39 hl (k := 3) rfl (inc1 hx4_3) (by decide) rfl (fun ls hl => ?_)
          refine lv_goto (tgt := 7) C.1 C.2.1 dX1_lineFrom_42 (by decide) ?_
          exact ih x2_1 v_2 x4_3 hf _ _ _ hw (lv_sub hl [3, 2, 1, 0] rfl)
def fX1_lineFrom (S : St) (x1 : Int32) : Option Int32 :=
  fX1_lineFrom_7 S 100 0 x1 0
set_option maxHeartbeats 4000000 in
set_option maxRecDepth 100000 in
theorem ctX1_lineFrom (l : Launch) {D : va_G} {cI : ClassId} {q : Nat → Nat} (S : St) (x1 : Int32) (sz : Nat) {r1 : Int32} (hf : fX1_lineFrom S x1 = some r1) : Met l yX1_lineFrom (Cond.code yX1_lineFrom cX1_lineFrom 5 (some .int) :: XALL) ({ frames := 0, cells := 0, slots := 0, locals := 0 } : Room) (va_Pc [.ref (q 1), .int x1] (gPre D cI ((xw cI q) S) sz)) (gQi D (xw cI q) S (fun (r : Int32) (u : St) => r = r1 ∧ u = S) sz) 0 0 (va_A ((xw cI q) S) sz) := by
  unfold fX1_lineFrom at hf
  refine Met.ofW (cc := cX1_lineFrom) (maxL := 5) (ret := (some .int)) (by decide) rfl ?_
  intro p e s m args below meth c s₁ B hml hv
  obtain ⟨rfl, hg⟩ := hv
  have C : Ctx p s m _ meth c cX1_lineFrom 5 RX1 (some .int) := Ctx.of B hml rfl
  obtain ⟨E, hw, hsz⟩ := g_start hg
  subst hsz
  have hl := lv_entry ([.ref (q 1), .int x1]) (n := 5) (Nat.le_of_ble_eq_true rfl)
  rw [lg_entry_eq]
  generalize (lg_sl ([.ref (q 1), .int x1]) ++ List.replicate (5 - (lg_sl ([.ref (q 1), .int x1])).length) Slot.unset).toArray = ls at hl ⊢
  have hl : lv_has ls 5 [(0, .ref (q 1)), (1, .int x1)] := hl
  refine lv_iconst (v := 0) C.1 C.2.1 dX1_lineFrom_0 (by decide) ?_
  refine lv_istore_n (lv' := [(2, .int 0), (0, .ref (q 1)), (1, .int x1)]) C.1 C.2.1 dX1_lineFrom_1 rfl hl (by decide) rfl (fun ls hl => ?_)
  refine lv_iload_n C.1 C.2.1 dX1_lineFrom_2 rfl (lv_at hl 2 rfl) ?_
  refine lv_istore_n (lv' := [(3, .int x1), (2, .int 0), (0, .ref (q 1)), (1, .int x1)]) C.1 C.2.1 dX1_lineFrom_3 rfl hl (by decide) rfl (fun ls hl => ?_)
  refine lv_iconst (v := 0) C.1 C.2.1 dX1_lineFrom_4 (by decide) ?_
  refine lv_istore (lv' := [(4, .int 0), (3, .int x1), (2, .int 0), (0, .ref (q 1)), (1, .int x1)]) C.1 C.2.1 dX1_lineFrom_5 hl (by decide) rfl (fun ls hl => ?_)
  exact wX1_lineFrom_7 C E S 100 0 x1 0 hf _ _ _ hw (lv_sub hl [3, 2, 1, 0] rfl)
/-! DreamLedger.TagTree.hang -/
def fX1_hang_9 : Nat → St → Int32 → Option St
  | 0, _, _ => none
  | n + 1, S, x3 =>
    if (S 14 0) ≤ x3 then
      some S
    else
      Option.bind (fX1_lineFrom S x3) fun v_2 =>
      Option.bind (sto S 5 16 x3 v_2) fun S_3 =>
      Option.bind (some (x3 + 1)) fun x3_4 =>
      fX1_hang_9 n S_3 x3_4
set_option maxHeartbeats 4000000 in
set_option maxRecDepth 100000 in
theorem wX1_hang_9 {p : Program} {l : Launch} {e : Env} {s : State} {m : MethodId} {args : Array Value} {below : List Frame} {meth : Method} {c : Code} {D : va_G} {cI : ClassId} {q : Nat → Nat} (C : Ctx p s m args meth c cX1_hang 4 RX1 none) (E : gE D cI s) {S0 : St} {S1 : St} : ∀ (n : Nat) (S : St) (x3 : Int32), fX1_hang_9 n S x3 = some S1 → ∀ (H : Heap) (locs : List Loc) (ls : Array Slot), gW D ((xw cI q) S0) ((xw cI q) S) s H locs → lv_has ls 4 [(0, .ref (q 1)), (3, .int x3)] → W p l e ({ frames := 1, cells := 0, slots := 0, locals := 24 } : Room) s m args below meth c H locs 0 0 (MQ below (gQv D (xw cI q) S0 (fun (u : St) => u = S1) s.heap.size) args s 0 0 (va_A ((xw cI q) S0) s.heap.size)) (F0 m 9 ls []) := by
  intro n
  induction n with
  | zero => intro S x3 hf; rw [fX1_hang_9] at hf; cases hf
  | succ n ih =>
    intro S x3 hf H locs ls hw hl
    rw [fX1_hang_9] at hf
    refine lv_iload_n C.1 C.2.1 dX1_hang_9 rfl (lv_at hl 1 rfl) ?_
    refine lv_aload_n C.1 C.2.1 dX1_hang_10 rfl (lv_at hl 0 rfl) ?_
    refine g_get C E hw inW1 1 rfl rfl 2 (by decide) kf_X1_18 rfl dX1_hang_11 ?_
    refine lv_icmp_ge (tgt := 34) C.1 C.2.1 dX1_hang_14 (by decide) (fun hc => ?_) (fun hc => ?_)
    · have hf := ift hc hf
      exact g_vret C hw (Nat.le_of_ble_eq_true rfl) (Nat.le_of_ble_eq_true rfl) (Option.some.inj hf) dX1_hang_34
    · have hf := iff_ hc hf
      refine lv_aload_n C.1 C.2.1 dX1_hang_17 rfl (lv_at hl 0 rfl) ?_
      refine g_get C E hw inW1 1 rfl rfl 1 (by decide) kf_X1_15 rfl dX1_hang_18 ?_
      refine lv_iload_n C.1 C.2.1 dX1_hang_21 rfl (lv_at hl 1 rfl) ?_
      refine lv_aload_n C.1 C.2.1 dX1_hang_22 rfl (lv_at hl 0 rfl) ?_
      refine lv_iload_n C.1 C.2.1 dX1_hang_23 rfl (lv_at hl 1 rfl) ?_
      obtain ⟨v_2, hv_2, hf⟩ := bnd hf
      refine g_cie (wf := (xw cI q)) (S := S) (rest := [.int x3, .ref (q 9)]) xw_adr hw (g_runV (rm := ({ frames := 0, cells := 0, slots := 0, locals := 0 } : Room)) (As := [.int x3]) (rest := [.int x3, .ref (q 9)]) C E hw F_X1_lineFrom (ctX1_lineFrom l (cI := cI) (D := D) (q := q) S x3 _ hv_2) km_X1_26 1 rfl rfl rfl hl.1 rfl (Nat.le_of_ble_eq_true rfl) ⟨(Nat.le_of_ble_eq_true rfl), (Nat.le_of_ble_eq_true rfl)⟩ ⟨(Nat.le_of_ble_eq_true rfl), (Nat.le_of_ble_eq_true rfl)⟩ dX1_hang_24) (fun H locs hw => ?_)
      obtain ⟨S_3, hS_3, hf⟩ := bnd hf
      refine g_ast C E hw 9 rfl (sto_some hS_3).1 (ws' := (xw cI q) S_3) (by rw [← (sto_some hS_3).2]; rfl) dX1_hang_27 (fun H locs hw => ?_)
      obtain ⟨x3_4, hx3_4, hf⟩ := bnd hf
      refine lv_iinc (v := x3_4) (lv' := [(3, .int x3_4), (0, .ref (q 1))]) C.1 C.2.1 dX1_hang_28 hl (k := 1) rfl (inc1 hx3_4) (by decide) rfl (fun ls hl => ?_)
      refine lv_goto (tgt := 9) C.1 C.2.1 dX1_hang_31 (by decide) ?_
      exact ih S_3 x3_4 hf _ _ _ hw (lv_sub hl [1, 0] rfl)
def fX1_hang (S : St) (x1 : Int32) (x2 : Int32) : Option St :=
  Option.bind (sto S 4 16 x1 x2) fun S_1 =>
  fX1_hang_9 100 S_1 0
set_option maxHeartbeats 4000000 in
set_option maxRecDepth 100000 in
theorem ctX1_hang (l : Launch) {D : va_G} {cI : ClassId} {q : Nat → Nat} (S : St) (x1 : Int32) (x2 : Int32) (sz : Nat) {S1 : St} (hf : fX1_hang S x1 x2 = some S1) : Met l yX1_hang (Cond.code yX1_hang cX1_hang 4 none :: XALL) ({ frames := 1, cells := 0, slots := 0, locals := 24 } : Room) (va_Pc [.ref (q 1), .int x1, .int x2] (gPre D cI ((xw cI q) S) sz)) (gQv D (xw cI q) S (fun (u : St) => u = S1) sz) 0 0 (va_A ((xw cI q) S) sz) := by
  unfold fX1_hang at hf
  refine Met.ofW (cc := cX1_hang) (maxL := 4) (ret := none) (by decide) rfl ?_
  intro p e s m args below meth c s₁ B hml hv
  obtain ⟨rfl, hg⟩ := hv
  have C : Ctx p s m _ meth c cX1_hang 4 RX1 none := Ctx.of B hml rfl
  obtain ⟨E, hw, hsz⟩ := g_start hg
  subst hsz
  have hl := lv_entry ([.ref (q 1), .int x1, .int x2]) (n := 4) (Nat.le_of_ble_eq_true rfl)
  rw [lg_entry_eq]
  generalize (lg_sl ([.ref (q 1), .int x1, .int x2]) ++ List.replicate (4 - (lg_sl ([.ref (q 1), .int x1, .int x2])).length) Slot.unset).toArray = ls at hl ⊢
  have hl : lv_has ls 4 [(0, .ref (q 1)), (1, .int x1), (2, .int x2)] := hl
  refine lv_aload_n C.1 C.2.1 dX1_hang_0 rfl (lv_at hl 0 rfl) ?_
  refine g_get C E hw inW1 1 rfl rfl 0 (by decide) kf_X1_9 rfl dX1_hang_1 ?_
  refine lv_iload_n C.1 C.2.1 dX1_hang_4 rfl (lv_at hl 1 rfl) ?_
  refine lv_iload_n C.1 C.2.1 dX1_hang_5 rfl (lv_at hl 2 rfl) ?_
  obtain ⟨S_1, hS_1, hf⟩ := bnd hf
  refine g_ast C E hw 8 rfl (sto_some hS_1).1 (ws' := (xw cI q) S_1) (by rw [← (sto_some hS_1).2]; rfl) dX1_hang_6 (fun H locs hw => ?_)
  refine lv_iconst (v := 0) C.1 C.2.1 dX1_hang_7 (by decide) ?_
  refine lv_istore_n (lv' := [(3, .int 0), (0, .ref (q 1)), (1, .int x1), (2, .int x2)]) C.1 C.2.1 dX1_hang_8 rfl hl (by decide) rfl (fun ls hl => ?_)
  exact wX1_hang_9 C E 100 S_1 0 hf _ _ _ hw (lv_sub hl [1, 0] rfl)
/-! DreamLedger.TagTree.grow -/
def fX1_grow (S : St) : Option (Int32 × St) :=
  Option.bind (some ((S 14 0))) fun x1_1 =>
  Option.bind (some (up S 14 0 ((S 14 0) + 1))) fun S_2 =>
  Option.bind (fX1_hang S_2 x1_1 (-1)) fun S_3 =>
  some (x1_1, S_3)
set_option maxHeartbeats 4000000 in
set_option maxRecDepth 100000 in
theorem ctX1_grow (l : Launch) {D : va_G} {cI : ClassId} {q : Nat → Nat} (S : St) (sz : Nat) {r1 : Int32} {S1 : St} (hf : fX1_grow S = some (r1, S1)) : Met l yX1_grow (Cond.code yX1_grow cX1_grow 2 (some .int) :: XALL) ({ frames := 2, cells := 0, slots := 0, locals := 47 } : Room) (va_Pc [.ref (q 1)] (gPre D cI ((xw cI q) S) sz)) (gQi D (xw cI q) S (fun (r : Int32) (u : St) => r = r1 ∧ u = S1) sz) 0 0 (va_A ((xw cI q) S) sz) := by
  unfold fX1_grow at hf
  refine Met.ofW (cc := cX1_grow) (maxL := 2) (ret := (some .int)) (by decide) rfl ?_
  intro p e s m args below meth c s₁ B hml hv
  obtain ⟨rfl, hg⟩ := hv
  have C : Ctx p s m _ meth c cX1_grow 2 RX1 (some .int) := Ctx.of B hml rfl
  obtain ⟨E, hw, hsz⟩ := g_start hg
  subst hsz
  have hl := lv_entry ([.ref (q 1)]) (n := 2) (Nat.le_of_ble_eq_true rfl)
  rw [lg_entry_eq]
  generalize (lg_sl ([.ref (q 1)]) ++ List.replicate (2 - (lg_sl ([.ref (q 1)])).length) Slot.unset).toArray = ls at hl ⊢
  have hl : lv_has ls 2 [(0, .ref (q 1))] := hl
  refine lv_aload_n C.1 C.2.1 dX1_grow_0 rfl (lv_at hl 0 rfl) ?_
  refine g_get C E hw inW1 1 rfl rfl 2 (by decide) kf_X1_18 rfl dX1_grow_1 ?_
  obtain ⟨x1_1, hx1_1, hf⟩ := bnd hf
  refine topi_b hx1_1 ?_
  refine lv_istore_n (lv' := [(1, .int x1_1), (0, .ref (q 1))]) C.1 C.2.1 dX1_grow_4 rfl hl (by decide) rfl (fun ls hl => ?_)
  refine lv_aload_n C.1 C.2.1 dX1_grow_5 rfl (lv_at hl 1 rfl) ?_
  refine lv_dup C.1 C.2.1 dX1_grow_6 rfl ?_
  refine g_get C E hw inW1 1 rfl rfl 2 (by decide) kf_X1_18 rfl dX1_grow_7 ?_
  refine lv_iconst (v := 1) C.1 C.2.1 dX1_grow_10 (by decide) ?_
  refine lv_iadd C.1 C.2.1 dX1_grow_11 ?_
  obtain ⟨S_2, hS_2, hf⟩ := bnd hf
  refine g_put C E hw inW1 tyX1 tyX1_ok nmX1 1 rfl rfl 2 (by decide) kf_X1_18 rfl (by decide +kernel) (Nat.le_of_ble_eq_true rfl) (ws' := (xw cI q) S_2) (by rw [← Option.some.inj hS_2]; rfl) dX1_grow_12 (fun H locs hw => ?_)
  refine lv_aload_n C.1 C.2.1 dX1_grow_15 rfl (lv_at hl 1 rfl) ?_
  refine lv_iload_n C.1 C.2.1 dX1_grow_16 rfl (lv_at hl 0 rfl) ?_
  refine lv_iconst (v := (-1)) C.1 C.2.1 dX1_grow_17 (by decide) ?_
  obtain ⟨S_3, hS_3, hf⟩ := bnd hf
  refine g_cve (wf := (xw cI q)) (S := S_2) (rest := []) xw_adr hw (g_runV (rm := ({ frames := 1, cells := 0, slots := 0, locals := 24 } : Room)) (As := [.int x1_1, .int (-1)]) (rest := []) C E hw F_X1_hang (ctX1_hang l (cI := cI) (D := D) (q := q) S_2 x1_1 (-1) _ hS_3) km_X1_22 1 rfl rfl rfl hl.1 rfl (Nat.le_of_ble_eq_true rfl) ⟨(Nat.le_of_ble_eq_true rfl), (Nat.le_of_ble_eq_true rfl)⟩ ⟨(Nat.le_of_ble_eq_true rfl), (Nat.le_of_ble_eq_true rfl)⟩ dX1_grow_18) (fun H locs hw => ?_)
  refine lv_iload_n C.1 C.2.1 dX1_grow_21 rfl (lv_at hl 0 rfl) ?_
  exact g_iret C hw (Nat.le_of_ble_eq_true rfl) (Nat.le_of_ble_eq_true rfl) ⟨congrArg Prod.fst (Option.some.inj hf), congrArg Prod.snd (Option.some.inj hf)⟩ dX1_grow_22
/-! DreamLedger.isIn -/
def fX3_isIn (x0 : Int32) (x1 : Int32) : Option Int32 :=
  if ((x1 >>> (x0 &&& 31)) &&& 1) = 0 then
    some 0
  else
    some 1
set_option maxHeartbeats 4000000 in
set_option maxRecDepth 100000 in
theorem ctX3_isIn (l : Launch) (x0 : Int32) (x1 : Int32) {r1 : Int32} (hf : fX3_isIn x0 x1 = some r1) : Met l yX3_isIn (Cond.code yX3_isIn cX3_isIn 2 (some .boolean) :: XALL) ({ frames := 0, cells := 0, slots := 0, locals := 0 } : Room) (va_Pc [.int x0, .int x1] (fun _ => True)) (zQi r1) 0 0 (fun _ => False) := by
  unfold fX3_isIn at hf
  refine Met.ofW (cc := cX3_isIn) (maxL := 2) (ret := (some .boolean)) (by decide) rfl ?_
  intro p e s m args below meth c s₁ B hml hv
  obtain ⟨rfl, hg⟩ := hv
  have C : Ctx p s m _ meth c cX3_isIn 2 RX3 (some .boolean) := Ctx.of B hml rfl
  have hw : zS s s.heap [] := va_S.rf
  have hl := lv_entry ([.int x0, .int x1]) (n := 2) (Nat.le_of_ble_eq_true rfl)
  rw [lg_entry_eq]
  generalize (lg_sl ([.int x0, .int x1]) ++ List.replicate (2 - (lg_sl ([.int x0, .int x1])).length) Slot.unset).toArray = ls at hl ⊢
  have hl : lv_has ls 2 [(0, .int x0), (1, .int x1)] := hl
  refine lv_iload_n C.1 C.2.1 dX3_isIn_0 rfl (lv_at hl 1 rfl) ?_
  refine lv_iload_n C.1 C.2.1 dX3_isIn_1 rfl (lv_at hl 0 rfl) ?_
  refine lv_ishr C.1 C.2.1 dX3_isIn_2 ?_
  refine lv_iconst (v := 1) C.1 C.2.1 dX3_isIn_3 (by decide) ?_
  refine lv_iand C.1 C.2.1 dX3_isIn_4 ?_
  refine lv_if_eq (tgt := 12) C.1 C.2.1 dX3_isIn_5 (by decide) (fun hc => ?_) (fun hc => ?_)
  · have hf := ift hc hf
    refine lv_iconst (v := 0) C.1 C.2.1 dX3_isIn_12 (by decide) ?_
    exact z_zret C hw (Nat.le_of_ble_eq_true rfl) (Nat.le_of_ble_eq_true rfl) (Or.inl rfl) (Option.some.inj hf) dX3_isIn_13
  · have hf := iff_ hc hf
    refine lv_iconst (v := 1) C.1 C.2.1 dX3_isIn_8 (by decide) ?_
    refine lv_goto (tgt := 13) C.1 C.2.1 dX3_isIn_9 (by decide) ?_
    exact z_zret C hw (Nat.le_of_ble_eq_true rfl) (Nat.le_of_ble_eq_true rfl) (Or.inr rfl) (Option.some.inj hf) dX3_isIn_13
/-! DreamLedger.TagTree.standsBelow -/
def fX1_standsBelow (S : St) (x1 : Int32) (x2 : Int32) : Option Int32 :=
  if x1 = x2 then
    some 0
  else
    Option.bind (ld S 5 16 x1) fun v_1 =>
    Option.bind (fX3_isIn x2 v_1) fun v_2 =>
    if v_2 = 0 then
      some 0
    else
      some 1
set_option maxHeartbeats 4000000 in
set_option maxRecDepth 100000 in
theorem ctX1_standsBelow (l : Launch) {D : va_G} {cI : ClassId} {q : Nat → Nat} (S : St) (x1 : Int32) (x2 : Int32) (sz : Nat) {r1 : Int32} (hf : fX1_standsBelow S x1 x2 = some r1) : Met l yX1_standsBelow (Cond.code yX1_standsBelow cX1_standsBelow 3 (some .boolean) :: XALL) ({ frames := 1, cells := 0, slots := 0, locals := 21 } : Room) (va_Pc [.ref (q 1), .int x1, .int x2] (gPre D cI ((xw cI q) S) sz)) (gQi D (xw cI q) S (fun (r : Int32) (u : St) => r = r1 ∧ u = S) sz) 0 0 (va_A ((xw cI q) S) sz) := by
  unfold fX1_standsBelow at hf
  refine Met.ofW (cc := cX1_standsBelow) (maxL := 3) (ret := (some .boolean)) (by decide) rfl ?_
  intro p e s m args below meth c s₁ B hml hv
  obtain ⟨rfl, hg⟩ := hv
  have C : Ctx p s m _ meth c cX1_standsBelow 3 RX1 (some .boolean) := Ctx.of B hml rfl
  obtain ⟨E, hw, hsz⟩ := g_start hg
  subst hsz
  have hl := lv_entry ([.ref (q 1), .int x1, .int x2]) (n := 3) (Nat.le_of_ble_eq_true rfl)
  rw [lg_entry_eq]
  generalize (lg_sl ([.ref (q 1), .int x1, .int x2]) ++ List.replicate (3 - (lg_sl ([.ref (q 1), .int x1, .int x2])).length) Slot.unset).toArray = ls at hl ⊢
  have hl : lv_has ls 3 [(0, .ref (q 1)), (1, .int x1), (2, .int x2)] := hl
  refine lv_iload_n C.1 C.2.1 dX1_standsBelow_0 rfl (lv_at hl 1 rfl) ?_
  refine lv_iload_n C.1 C.2.1 dX1_standsBelow_1 rfl (lv_at hl 2 rfl) ?_
  refine lv_icmp_eq (tgt := 22) C.1 C.2.1 dX1_standsBelow_2 (by decide) (fun hc => ?_) (fun hc => ?_)
  · have hf := ift hc hf
    refine lv_iconst (v := 0) C.1 C.2.1 dX1_standsBelow_22 (by decide) ?_
    exact g_zret C hw (Nat.le_of_ble_eq_true rfl) (Nat.le_of_ble_eq_true rfl) (Or.inl rfl) ⟨Option.some.inj hf, rfl⟩ dX1_standsBelow_23
  · have hf := iff_ hc hf
    refine lv_iload_n C.1 C.2.1 dX1_standsBelow_5 rfl (lv_at hl 2 rfl) ?_
    refine lv_aload_n C.1 C.2.1 dX1_standsBelow_6 rfl (lv_at hl 0 rfl) ?_
    refine g_get C E hw inW1 1 rfl rfl 1 (by decide) kf_X1_15 rfl dX1_standsBelow_7 ?_
    refine lv_iload_n C.1 C.2.1 dX1_standsBelow_10 rfl (lv_at hl 1 rfl) ?_
    obtain ⟨v_1, hv_1, hf⟩ := bnd hf
    refine g_ald C E hw 9 rfl (ld_some hv_1) dX1_standsBelow_11 ?_
    obtain ⟨v_2, hv_2, hf⟩ := bnd hf
    refine g_ci0e (rest := []) hw (g_run0N (rm := ({ frames := 0, cells := 0, slots := 0, locals := 0 } : Room)) (As := [.int x2, .int v_1]) (rest := []) C E F_X3_isIn (ctX3_isIn l x2 v_1 hv_2) kmN_X1_30 rfl hl.1 rfl (Nat.le_of_ble_eq_true rfl) ⟨(Nat.le_of_ble_eq_true rfl), (Nat.le_of_ble_eq_true rfl)⟩ ⟨(Nat.le_of_ble_eq_true rfl), (Nat.le_of_ble_eq_true rfl)⟩ dX1_standsBelow_12) (fun H locs hw => ?_)
    refine lv_if_eq (tgt := 22) C.1 C.2.1 dX1_standsBelow_15 (by decide) (fun hc => ?_) (fun hc => ?_)
    · have hf := ift hc hf
      refine lv_iconst (v := 0) C.1 C.2.1 dX1_standsBelow_22 (by decide) ?_
      exact g_zret C hw (Nat.le_of_ble_eq_true rfl) (Nat.le_of_ble_eq_true rfl) (Or.inl rfl) ⟨Option.some.inj hf, rfl⟩ dX1_standsBelow_23
    · have hf := iff_ hc hf
      refine lv_iconst (v := 1) C.1 C.2.1 dX1_standsBelow_18 (by decide) ?_
      refine lv_goto (tgt := 23) C.1 C.2.1 dX1_standsBelow_19 (by decide) ?_
      exact g_zret C hw (Nat.le_of_ble_eq_true rfl) (Nat.le_of_ble_eq_true rfl) (Or.inr rfl) ⟨Option.some.inj hf, rfl⟩ dX1_standsBelow_23
/-! DreamLedger.TagTree.canHang -/
def fX1_canHang (S : St) (x1 : Int32) (x2 : Int32) : Option Int32 :=
  if x1 = x2 then
    some 0
  else
    Option.bind (fX1_standsBelow S x2 x1) fun v_1 =>
    if v_1 = 0 then
      some 1
    else
      some 0
set_option maxHeartbeats 4000000 in
set_option maxRecDepth 100000 in
theorem ctX1_canHang (l : Launch) {D : va_G} {cI : ClassId} {q : Nat → Nat} (S : St) (x1 : Int32) (x2 : Int32) (sz : Nat) {r1 : Int32} (hf : fX1_canHang S x1 x2 = some r1) : Met l yX1_canHang (Cond.code yX1_canHang cX1_canHang 3 (some .boolean) :: XALL) ({ frames := 2, cells := 0, slots := 0, locals := 43 } : Room) (va_Pc [.ref (q 1), .int x1, .int x2] (gPre D cI ((xw cI q) S) sz)) (gQi D (xw cI q) S (fun (r : Int32) (u : St) => r = r1 ∧ u = S) sz) 0 0 (va_A ((xw cI q) S) sz) := by
  unfold fX1_canHang at hf
  refine Met.ofW (cc := cX1_canHang) (maxL := 3) (ret := (some .boolean)) (by decide) rfl ?_
  intro p e s m args below meth c s₁ B hml hv
  obtain ⟨rfl, hg⟩ := hv
  have C : Ctx p s m _ meth c cX1_canHang 3 RX1 (some .boolean) := Ctx.of B hml rfl
  obtain ⟨E, hw, hsz⟩ := g_start hg
  subst hsz
  have hl := lv_entry ([.ref (q 1), .int x1, .int x2]) (n := 3) (Nat.le_of_ble_eq_true rfl)
  rw [lg_entry_eq]
  generalize (lg_sl ([.ref (q 1), .int x1, .int x2]) ++ List.replicate (3 - (lg_sl ([.ref (q 1), .int x1, .int x2])).length) Slot.unset).toArray = ls at hl ⊢
  have hl : lv_has ls 3 [(0, .ref (q 1)), (1, .int x1), (2, .int x2)] := hl
  refine lv_iload_n C.1 C.2.1 dX1_canHang_0 rfl (lv_at hl 1 rfl) ?_
  refine lv_iload_n C.1 C.2.1 dX1_canHang_1 rfl (lv_at hl 2 rfl) ?_
  refine lv_icmp_eq (tgt := 18) C.1 C.2.1 dX1_canHang_2 (by decide) (fun hc => ?_) (fun hc => ?_)
  · have hf := ift hc hf
    refine lv_iconst (v := 0) C.1 C.2.1 dX1_canHang_18 (by decide) ?_
    exact g_zret C hw (Nat.le_of_ble_eq_true rfl) (Nat.le_of_ble_eq_true rfl) (Or.inl rfl) ⟨Option.some.inj hf, rfl⟩ dX1_canHang_19
  · have hf := iff_ hc hf
    refine lv_aload_n C.1 C.2.1 dX1_canHang_5 rfl (lv_at hl 0 rfl) ?_
    refine lv_iload_n C.1 C.2.1 dX1_canHang_6 rfl (lv_at hl 2 rfl) ?_
    refine lv_iload_n C.1 C.2.1 dX1_canHang_7 rfl (lv_at hl 1 rfl) ?_
    obtain ⟨v_1, hv_1, hf⟩ := bnd hf
    refine g_cie (wf := (xw cI q)) (S := S) (rest := []) xw_adr hw (g_runV (rm := ({ frames := 1, cells := 0, slots := 0, locals := 21 } : Room)) (As := [.int x2, .int x1]) (rest := []) C E hw F_X1_standsBelow (ctX1_standsBelow l (cI := cI) (D := D) (q := q) S x2 x1 _ hv_1) km_X1_34 1 rfl rfl rfl hl.1 rfl (Nat.le_of_ble_eq_true rfl) ⟨(Nat.le_of_ble_eq_true rfl), (Nat.le_of_ble_eq_true rfl)⟩ ⟨(Nat.le_of_ble_eq_true rfl), (Nat.le_of_ble_eq_true rfl)⟩ dX1_canHang_8) (fun H locs hw => ?_)
    refine lv_if_ne (tgt := 18) C.1 C.2.1 dX1_canHang_11 (by decide) (fun hc => ?_) (fun hc => ?_)
    · have hf := iff_ hc hf
      refine lv_iconst (v := 0) C.1 C.2.1 dX1_canHang_18 (by decide) ?_
      exact g_zret C hw (Nat.le_of_ble_eq_true rfl) (Nat.le_of_ble_eq_true rfl) (Or.inl rfl) ⟨Option.some.inj hf, rfl⟩ dX1_canHang_19
    · have hf := ift hc hf
      refine lv_iconst (v := 1) C.1 C.2.1 dX1_canHang_14 (by decide) ?_
      refine lv_goto (tgt := 19) C.1 C.2.1 dX1_canHang_15 (by decide) ?_
      exact g_zret C hw (Nat.le_of_ble_eq_true rfl) (Nat.le_of_ble_eq_true rfl) (Or.inr rfl) ⟨Option.some.inj hf, rfl⟩ dX1_canHang_19
/-! DreamLedger.TagTree.linesOf -/
def fX1_linesOf_4 (S : St) (x1 : Int32) : Nat → Int32 → Int32 → Option Int32
  | 0, _, _ => none
  | n + 1, x2, x3 =>
    if (S 14 0) ≤ x3 then
      some x2
    else
      Option.bind (fX3_isIn x3 x1) fun v_1 =>
      if v_1 = 0 then
        Option.bind (some (x3 + 1)) fun x3_2 =>
        fX1_linesOf_4 S x1 n x2 x3_2
      else
        Option.bind (ld S 5 16 x3) fun v_3 =>
        Option.bind (some ((x2 ||| v_3))) fun x2_4 =>
        Option.bind (some (x3 + 1)) fun x3_5 =>
        fX1_linesOf_4 S x1 n x2_4 x3_5
set_option maxHeartbeats 4000000 in
set_option maxRecDepth 100000 in
theorem wX1_linesOf_4 {p : Program} {l : Launch} {e : Env} {s : State} {m : MethodId} {args : Array Value} {below : List Frame} {meth : Method} {c : Code} {D : va_G} {cI : ClassId} {q : Nat → Nat} (C : Ctx p s m args meth c cX1_linesOf 4 RX1 (some .int)) (E : gE D cI s) {r1 : Int32} (S : St) (x1 : Int32) : ∀ (n : Nat) (x2 : Int32) (x3 : Int32), fX1_linesOf_4 S x1 n x2 x3 = some r1 → ∀ (H : Heap) (locs : List Loc) (ls : Array Slot), gW D ((xw cI q) S) ((xw cI q) S) s H locs → lv_has ls 4 [(0, .ref (q 1)), (1, .int x1), (2, .int x2), (3, .int x3)] → W p l e ({ frames := 1, cells := 0, slots := 0, locals := 21 } : Room) s m args below meth c H locs 0 0 (MQ below (gQi D (xw cI q) S (fun (r : Int32) (u : St) => r = r1 ∧ u = S) s.heap.size) args s 0 0 (va_A ((xw cI q) S) s.heap.size)) (F0 m 4 ls []) := by
  intro n
  induction n with
  | zero => intro x2 x3 hf; rw [fX1_linesOf_4] at hf; cases hf
  | succ n ih =>
    intro x2 x3 hf H locs ls hw hl
    rw [fX1_linesOf_4] at hf
    refine lv_iload_n C.1 C.2.1 dX1_linesOf_4 rfl (lv_at hl 3 rfl) ?_
    refine lv_aload_n C.1 C.2.1 dX1_linesOf_5 rfl (lv_at hl 0 rfl) ?_
    refine g_get C E hw inW1 1 rfl rfl 2 (by decide) kf_X1_18 rfl dX1_linesOf_6 ?_
    refine lv_icmp_ge (tgt := 35) C.1 C.2.1 dX1_linesOf_9 (by decide) (fun hc => ?_) (fun hc => ?_)
    · have hf := ift hc hf
      refine lv_iload_n C.1 C.2.1 dX1_linesOf_35 rfl (lv_at hl 2 rfl) ?_
      exact g_iret C hw (Nat.le_of_ble_eq_true rfl) (Nat.le_of_ble_eq_true rfl) ⟨Option.some.inj hf, rfl⟩ dX1_linesOf_36
    · have hf := iff_ hc hf
      refine lv_iload_n C.1 C.2.1 dX1_linesOf_12 rfl (lv_at hl 3 rfl) ?_
      refine lv_iload_n C.1 C.2.1 dX1_linesOf_13 rfl (lv_at hl 1 rfl) ?_
      obtain ⟨v_1, hv_1, hf⟩ := bnd hf
      refine g_ci0e (rest := []) hw (g_run0N (rm := ({ frames := 0, cells := 0, slots := 0, locals := 0 } : Room)) (As := [.int x3, .int x1]) (rest := []) C E F_X3_isIn (ctX3_isIn l x3 x1 hv_1) kmN_X1_30 rfl hl.1 rfl (Nat.le_of_ble_eq_true rfl) ⟨(Nat.le_of_ble_eq_true rfl), (Nat.le_of_ble_eq_true rfl)⟩ ⟨(Nat.le_of_ble_eq_true rfl), (Nat.le_of_ble_eq_true rfl)⟩ dX1_linesOf_14) (fun H locs hw => ?_)
      refine lv_if_eq (tgt := 29) C.1 C.2.1 dX1_linesOf_17 (by decide) (fun hc => ?_) (fun hc => ?_)
      · have hf := ift hc hf
        obtain ⟨x3_2, hx3_2, hf⟩ := bnd hf
        refine lv_iinc (v := x3_2) (lv' := [(3, .int x3_2), (0, .ref (q 1)), (1, .int x1), (2, .int x2)]) C.1 C.2.1 dX1_linesOf_29 hl (k := 3) rfl (inc1 hx3_2) (by decide) rfl (fun ls hl => ?_)
        refine lv_goto (tgt := 4) C.1 C.2.1 dX1_linesOf_32 (by decide) ?_
        exact ih x2 x3_2 hf _ _ _ hw (lv_sub hl [1, 2, 3, 0] rfl)
      · have hf := iff_ hc hf
        refine lv_iload_n C.1 C.2.1 dX1_linesOf_20 rfl (lv_at hl 2 rfl) ?_
        refine lv_aload_n C.1 C.2.1 dX1_linesOf_21 rfl (lv_at hl 0 rfl) ?_
        refine g_get C E hw inW1 1 rfl rfl 1 (by decide) kf_X1_15 rfl dX1_linesOf_22 ?_
        refine lv_iload_n C.1 C.2.1 dX1_linesOf_25 rfl (lv_at hl 3 rfl) ?_
        obtain ⟨v_3, hv_3, hf⟩ := bnd hf
        refine g_ald C E hw 9 rfl (ld_some hv_3) dX1_linesOf_26 ?_
        refine lv_ior C.1 C.2.1 dX1_linesOf_27 ?_
        obtain ⟨x2_4, hx2_4, hf⟩ := bnd hf
        refine topi_b hx2_4 ?_
        refine lv_istore_n (lv' := [(2, .int x2_4), (0, .ref (q 1)), (1, .int x1), (3, .int x3)]) C.1 C.2.1 dX1_linesOf_28 rfl hl (by decide) rfl (fun ls hl => ?_)
        obtain ⟨x3_5, hx3_5, hf⟩ := bnd hf
        refine lv_iinc (v := x3_5) (lv' := [(3, .int x3_5), (2, .int x2_4), (0, .ref (q 1)), (1, .int x1)]) C.1 C.2.1 dX1_linesOf_29 hl (k := 3) rfl (inc1 hx3_5) (by decide) rfl (fun ls hl => ?_)
        refine lv_goto (tgt := 4) C.1 C.2.1 dX1_linesOf_32 (by decide) ?_
        exact ih x2_4 x3_5 hf _ _ _ hw (lv_sub hl [2, 3, 1, 0] rfl)
def fX1_linesOf (S : St) (x1 : Int32) : Option Int32 :=
  fX1_linesOf_4 S x1 100 0 0
set_option maxHeartbeats 4000000 in
set_option maxRecDepth 100000 in
theorem ctX1_linesOf (l : Launch) {D : va_G} {cI : ClassId} {q : Nat → Nat} (S : St) (x1 : Int32) (sz : Nat) {r1 : Int32} (hf : fX1_linesOf S x1 = some r1) : Met l yX1_linesOf (Cond.code yX1_linesOf cX1_linesOf 4 (some .int) :: XALL) ({ frames := 1, cells := 0, slots := 0, locals := 21 } : Room) (va_Pc [.ref (q 1), .int x1] (gPre D cI ((xw cI q) S) sz)) (gQi D (xw cI q) S (fun (r : Int32) (u : St) => r = r1 ∧ u = S) sz) 0 0 (va_A ((xw cI q) S) sz) := by
  unfold fX1_linesOf at hf
  refine Met.ofW (cc := cX1_linesOf) (maxL := 4) (ret := (some .int)) (by decide) rfl ?_
  intro p e s m args below meth c s₁ B hml hv
  obtain ⟨rfl, hg⟩ := hv
  have C : Ctx p s m _ meth c cX1_linesOf 4 RX1 (some .int) := Ctx.of B hml rfl
  obtain ⟨E, hw, hsz⟩ := g_start hg
  subst hsz
  have hl := lv_entry ([.ref (q 1), .int x1]) (n := 4) (Nat.le_of_ble_eq_true rfl)
  rw [lg_entry_eq]
  generalize (lg_sl ([.ref (q 1), .int x1]) ++ List.replicate (4 - (lg_sl ([.ref (q 1), .int x1])).length) Slot.unset).toArray = ls at hl ⊢
  have hl : lv_has ls 4 [(0, .ref (q 1)), (1, .int x1)] := hl
  refine lv_iconst (v := 0) C.1 C.2.1 dX1_linesOf_0 (by decide) ?_
  refine lv_istore_n (lv' := [(2, .int 0), (0, .ref (q 1)), (1, .int x1)]) C.1 C.2.1 dX1_linesOf_1 rfl hl (by decide) rfl (fun ls hl => ?_)
  refine lv_iconst (v := 0) C.1 C.2.1 dX1_linesOf_2 (by decide) ?_
  refine lv_istore_n (lv' := [(3, .int 0), (2, .int 0), (0, .ref (q 1)), (1, .int x1)]) C.1 C.2.1 dX1_linesOf_3 rfl hl (by decide) rfl (fun ls hl => ?_)
  exact wX1_linesOf_4 C E S x1 100 0 0 hf _ _ _ hw (lv_sub hl [2, 3, 1, 0] rfl)
/-! DreamLedger.TermList.matchedAhead -/
def fX2_matchedAhead (S : St) (x1 : Int32) (x2 : Int32) : Option Int32 :=
  if x1 < 0 then
    some 0
  else
    if x2 ≤ x1 then
      some 0
    else
      Option.bind (ld S 9 20 x1) fun v_1 =>
      some v_1
set_option maxHeartbeats 4000000 in
set_option maxRecDepth 100000 in
theorem ctX2_matchedAhead (l : Launch) {D : va_G} {cI : ClassId} {q : Nat → Nat} (S : St) (x1 : Int32) (x2 : Int32) (sz : Nat) {r1 : Int32} (hf : fX2_matchedAhead S x1 x2 = some r1) : Met l yX2_matchedAhead (Cond.code yX2_matchedAhead cX2_matchedAhead 3 (some .int) :: XALL) ({ frames := 0, cells := 0, slots := 0, locals := 0 } : Room) (va_Pc [.ref (q 2), .int x1, .int x2] (gPre D cI ((xw cI q) S) sz)) (gQi D (xw cI q) S (fun (r : Int32) (u : St) => r = r1 ∧ u = S) sz) 0 0 (va_A ((xw cI q) S) sz) := by
  unfold fX2_matchedAhead at hf
  refine Met.ofW (cc := cX2_matchedAhead) (maxL := 3) (ret := (some .int)) (by decide) rfl ?_
  intro p e s m args below meth c s₁ B hml hv
  obtain ⟨rfl, hg⟩ := hv
  have C : Ctx p s m _ meth c cX2_matchedAhead 3 RX2 (some .int) := Ctx.of B hml rfl
  obtain ⟨E, hw, hsz⟩ := g_start hg
  subst hsz
  have hl := lv_entry ([.ref (q 2), .int x1, .int x2]) (n := 3) (Nat.le_of_ble_eq_true rfl)
  rw [lg_entry_eq]
  generalize (lg_sl ([.ref (q 2), .int x1, .int x2]) ++ List.replicate (3 - (lg_sl ([.ref (q 2), .int x1, .int x2])).length) Slot.unset).toArray = ls at hl ⊢
  have hl : lv_has ls 3 [(0, .ref (q 2)), (1, .int x1), (2, .int x2)] := hl
  refine lv_iload_n C.1 C.2.1 dX2_matchedAhead_0 rfl (lv_at hl 1 rfl) ?_
  refine lv_if_lt (tgt := 18) C.1 C.2.1 dX2_matchedAhead_1 (by decide) (fun hc => ?_) (fun hc => ?_)
  · have hf := ift hc hf
    refine lv_iconst (v := 0) C.1 C.2.1 dX2_matchedAhead_18 (by decide) ?_
    exact g_iret C hw (Nat.le_of_ble_eq_true rfl) (Nat.le_of_ble_eq_true rfl) ⟨Option.some.inj hf, rfl⟩ dX2_matchedAhead_19
  · have hf := iff_ hc hf
    refine lv_iload_n C.1 C.2.1 dX2_matchedAhead_4 rfl (lv_at hl 1 rfl) ?_
    refine lv_iload_n C.1 C.2.1 dX2_matchedAhead_5 rfl (lv_at hl 2 rfl) ?_
    refine lv_icmp_ge (tgt := 18) C.1 C.2.1 dX2_matchedAhead_6 (by decide) (fun hc => ?_) (fun hc => ?_)
    · have hf := ift hc hf
      refine lv_iconst (v := 0) C.1 C.2.1 dX2_matchedAhead_18 (by decide) ?_
      exact g_iret C hw (Nat.le_of_ble_eq_true rfl) (Nat.le_of_ble_eq_true rfl) ⟨Option.some.inj hf, rfl⟩ dX2_matchedAhead_19
    · have hf := iff_ hc hf
      refine lv_aload_n C.1 C.2.1 dX2_matchedAhead_9 rfl (lv_at hl 0 rfl) ?_
      refine g_get C E hw inW2 2 rfl rfl 3 (by decide) kf_X2_21 rfl dX2_matchedAhead_10 ?_
      refine lv_iload_n C.1 C.2.1 dX2_matchedAhead_13 rfl (lv_at hl 1 rfl) ?_
      obtain ⟨v_1, hv_1, hf⟩ := bnd hf
      refine g_ald C E hw 13 rfl (ld_some hv_1) dX2_matchedAhead_14 ?_
      refine lv_goto (tgt := 19) C.1 C.2.1 dX2_matchedAhead_15 (by decide) ?_
      exact g_iret C hw (Nat.le_of_ble_eq_true rfl) (Nat.le_of_ble_eq_true rfl) ⟨Option.some.inj hf, rfl⟩ dX2_matchedAhead_19
/-! DreamLedger.TermList.combine -/
def fX2_combine (S : St) (x1 : Int32) (x2 : Int32) : Option St :=
  Option.bind (ld S 7 20 x1) fun v_1 =>
  Option.bind (fX2_matchedAhead S v_1 x1) fun v_2 =>
  Option.bind (ld S 8 20 x1) fun v_3 =>
  Option.bind (fX2_matchedAhead S v_3 x1) fun v_4 =>
  Option.bind (ld S 6 20 x1) fun v_5 =>
  if v_5 = 1 then
    Option.bind (sto S 9 20 x1 (v_2 &&& v_4)) fun S_9 =>
    some S_9
  else
    Option.bind (ld S 6 20 x1) fun v_6 =>
    if v_6 = 2 then
      Option.bind (sto S 9 20 x1 (v_2 ||| v_4)) fun S_8 =>
      some S_8
    else
      Option.bind (sto S 9 20 x1 (x2 &&& (v_2 ^^^ (-1)))) fun S_7 =>
      some S_7
set_option maxHeartbeats 4000000 in
set_option maxRecDepth 100000 in
theorem ctX2_combine (l : Launch) {D : va_G} {cI : ClassId} {q : Nat → Nat} (S : St) (x1 : Int32) (x2 : Int32) (sz : Nat) {S1 : St} (hf : fX2_combine S x1 x2 = some S1) : Met l yX2_combine (Cond.code yX2_combine cX2_combine 5 none :: XALL) ({ frames := 1, cells := 0, slots := 0, locals := 22 } : Room) (va_Pc [.ref (q 2), .int x1, .int x2] (gPre D cI ((xw cI q) S) sz)) (gQv D (xw cI q) S (fun (u : St) => u = S1) sz) 0 0 (va_A ((xw cI q) S) sz) := by
  unfold fX2_combine at hf
  refine Met.ofW (cc := cX2_combine) (maxL := 5) (ret := none) (by decide) rfl ?_
  intro p e s m args below meth c s₁ B hml hv
  obtain ⟨rfl, hg⟩ := hv
  have C : Ctx p s m _ meth c cX2_combine 5 RX2 none := Ctx.of B hml rfl
  obtain ⟨E, hw, hsz⟩ := g_start hg
  subst hsz
  have hl := lv_entry ([.ref (q 2), .int x1, .int x2]) (n := 5) (Nat.le_of_ble_eq_true rfl)
  rw [lg_entry_eq]
  generalize (lg_sl ([.ref (q 2), .int x1, .int x2]) ++ List.replicate (5 - (lg_sl ([.ref (q 2), .int x1, .int x2])).length) Slot.unset).toArray = ls at hl ⊢
  have hl : lv_has ls 5 [(0, .ref (q 2)), (1, .int x1), (2, .int x2)] := hl
  refine lv_aload_n C.1 C.2.1 dX2_combine_0 rfl (lv_at hl 0 rfl) ?_
  refine lv_aload_n C.1 C.2.1 dX2_combine_1 rfl (lv_at hl 0 rfl) ?_
  refine g_get C E hw inW2 2 rfl rfl 1 (by decide) kf_X2_15 rfl dX2_combine_2 ?_
  refine lv_iload_n C.1 C.2.1 dX2_combine_5 rfl (lv_at hl 1 rfl) ?_
  obtain ⟨v_1, hv_1, hf⟩ := bnd hf
  refine g_ald C E hw 11 rfl (ld_some hv_1) dX2_combine_6 ?_
  refine lv_iload_n C.1 C.2.1 dX2_combine_7 rfl (lv_at hl 1 rfl) ?_
  obtain ⟨v_2, hv_2, hf⟩ := bnd hf
  refine g_cie (wf := (xw cI q)) (S := S) (rest := []) xw_adr hw (g_runV (rm := ({ frames := 0, cells := 0, slots := 0, locals := 0 } : Room)) (As := [.int v_1, .int x1]) (rest := []) C E hw F_X2_matchedAhead (ctX2_matchedAhead l (cI := cI) (D := D) (q := q) S v_1 x1 _ hv_2) km_X2_28 2 rfl rfl rfl hl.1 rfl (Nat.le_of_ble_eq_true rfl) ⟨(Nat.le_of_ble_eq_true rfl), (Nat.le_of_ble_eq_true rfl)⟩ ⟨(Nat.le_of_ble_eq_true rfl), (Nat.le_of_ble_eq_true rfl)⟩ dX2_combine_8) (fun H locs hw => ?_)
  refine lv_istore_n (lv' := [(3, .int v_2), (0, .ref (q 2)), (1, .int x1), (2, .int x2)]) C.1 C.2.1 dX2_combine_11 rfl hl (by decide) rfl (fun ls hl => ?_)
  refine lv_aload_n C.1 C.2.1 dX2_combine_12 rfl (lv_at hl 1 rfl) ?_
  refine lv_aload_n C.1 C.2.1 dX2_combine_13 rfl (lv_at hl 1 rfl) ?_
  refine g_get C E hw inW2 2 rfl rfl 2 (by decide) kf_X2_18 rfl dX2_combine_14 ?_
  refine lv_iload_n C.1 C.2.1 dX2_combine_17 rfl (lv_at hl 2 rfl) ?_
  obtain ⟨v_3, hv_3, hf⟩ := bnd hf
  refine g_ald C E hw 12 rfl (ld_some hv_3) dX2_combine_18 ?_
  refine lv_iload_n C.1 C.2.1 dX2_combine_19 rfl (lv_at hl 2 rfl) ?_
  obtain ⟨v_4, hv_4, hf⟩ := bnd hf
  refine g_cie (wf := (xw cI q)) (S := S) (rest := []) xw_adr hw (g_runV (rm := ({ frames := 0, cells := 0, slots := 0, locals := 0 } : Room)) (As := [.int v_3, .int x1]) (rest := []) C E hw F_X2_matchedAhead (ctX2_matchedAhead l (cI := cI) (D := D) (q := q) S v_3 x1 _ hv_4) km_X2_28 2 rfl rfl rfl hl.1 rfl (Nat.le_of_ble_eq_true rfl) ⟨(Nat.le_of_ble_eq_true rfl), (Nat.le_of_ble_eq_true rfl)⟩ ⟨(Nat.le_of_ble_eq_true rfl), (Nat.le_of_ble_eq_true rfl)⟩ dX2_combine_20) (fun H locs hw => ?_)
  refine lv_istore (lv' := [(4, .int v_4), (3, .int v_2), (0, .ref (q 2)), (1, .int x1), (2, .int x2)]) C.1 C.2.1 dX2_combine_23 hl (by decide) rfl (fun ls hl => ?_)
  refine lv_aload_n C.1 C.2.1 dX2_combine_25 rfl (lv_at hl 2 rfl) ?_
  refine g_get C E hw inW2 2 rfl rfl 0 (by decide) kf_X2_9 rfl dX2_combine_26 ?_
  refine lv_iload_n C.1 C.2.1 dX2_combine_29 rfl (lv_at hl 3 rfl) ?_
  obtain ⟨v_5, hv_5, hf⟩ := bnd hf
  refine g_ald C E hw 10 rfl (ld_some hv_5) dX2_combine_30 ?_
  refine lv_iconst (v := 1) C.1 C.2.1 dX2_combine_31 (by decide) ?_
  refine lv_icmp_ne (tgt := 48) C.1 C.2.1 dX2_combine_32 (by decide) (fun hc => ?_) (fun hc => ?_)
  · have hf := iff_ hc hf
    refine lv_aload_n C.1 C.2.1 dX2_combine_48 rfl (lv_at hl 2 rfl) ?_
    refine g_get C E hw inW2 2 rfl rfl 0 (by decide) kf_X2_9 rfl dX2_combine_49 ?_
    refine lv_iload_n C.1 C.2.1 dX2_combine_52 rfl (lv_at hl 3 rfl) ?_
    obtain ⟨v_6, hv_6, hf⟩ := bnd hf
    refine g_ald C E hw 10 rfl (ld_some hv_6) dX2_combine_53 ?_
    refine lv_iconst (v := 2) C.1 C.2.1 dX2_combine_54 (by decide) ?_
    refine lv_icmp_ne (tgt := 71) C.1 C.2.1 dX2_combine_55 (by decide) (fun hc => ?_) (fun hc => ?_)
    · have hf := iff_ hc hf
      refine lv_aload_n C.1 C.2.1 dX2_combine_71 rfl (lv_at hl 2 rfl) ?_
      refine g_get C E hw inW2 2 rfl rfl 3 (by decide) kf_X2_21 rfl dX2_combine_72 ?_
      refine lv_iload_n C.1 C.2.1 dX2_combine_75 rfl (lv_at hl 3 rfl) ?_
      refine lv_iload_n C.1 C.2.1 dX2_combine_76 rfl (lv_at hl 4 rfl) ?_
      refine lv_iload_n C.1 C.2.1 dX2_combine_77 rfl (lv_at hl 1 rfl) ?_
      refine lv_iconst (v := (-1)) C.1 C.2.1 dX2_combine_78 (by decide) ?_
      refine lv_ixor C.1 C.2.1 dX2_combine_79 ?_
      refine lv_iand C.1 C.2.1 dX2_combine_80 ?_
      obtain ⟨S_7, hS_7, hf⟩ := bnd hf
      refine g_ast C E hw 13 rfl (sto_some hS_7).1 (ws' := (xw cI q) S_7) (by rw [← (sto_some hS_7).2]; rfl) dX2_combine_81 (fun H locs hw => ?_)
      exact g_vret C hw (Nat.le_of_ble_eq_true rfl) (Nat.le_of_ble_eq_true rfl) (Option.some.inj hf) dX2_combine_82
    · have hf := ift hc hf
      refine lv_aload_n C.1 C.2.1 dX2_combine_58 rfl (lv_at hl 2 rfl) ?_
      refine g_get C E hw inW2 2 rfl rfl 3 (by decide) kf_X2_21 rfl dX2_combine_59 ?_
      refine lv_iload_n C.1 C.2.1 dX2_combine_62 rfl (lv_at hl 3 rfl) ?_
      refine lv_iload_n C.1 C.2.1 dX2_combine_63 rfl (lv_at hl 1 rfl) ?_
      refine lv_iload C.1 C.2.1 dX2_combine_64 (lv_at hl 0 rfl) ?_
      refine lv_ior C.1 C.2.1 dX2_combine_66 ?_
      obtain ⟨S_8, hS_8, hf⟩ := bnd hf
      refine g_ast C E hw 13 rfl (sto_some hS_8).1 (ws' := (xw cI q) S_8) (by rw [← (sto_some hS_8).2]; rfl) dX2_combine_67 (fun H locs hw => ?_)
      refine lv_goto (tgt := 82) C.1 C.2.1 dX2_combine_68 (by decide) ?_
      exact g_vret C hw (Nat.le_of_ble_eq_true rfl) (Nat.le_of_ble_eq_true rfl) (Option.some.inj hf) dX2_combine_82
  · have hf := ift hc hf
    refine lv_aload_n C.1 C.2.1 dX2_combine_35 rfl (lv_at hl 2 rfl) ?_
    refine g_get C E hw inW2 2 rfl rfl 3 (by decide) kf_X2_21 rfl dX2_combine_36 ?_
    refine lv_iload_n C.1 C.2.1 dX2_combine_39 rfl (lv_at hl 3 rfl) ?_
    refine lv_iload_n C.1 C.2.1 dX2_combine_40 rfl (lv_at hl 1 rfl) ?_
    refine lv_iload C.1 C.2.1 dX2_combine_41 (lv_at hl 0 rfl) ?_
    refine lv_iand C.1 C.2.1 dX2_combine_43 ?_
    obtain ⟨S_9, hS_9, hf⟩ := bnd hf
    refine g_ast C E hw 13 rfl (sto_some hS_9).1 (ws' := (xw cI q) S_9) (by rw [← (sto_some hS_9).2]; rfl) dX2_combine_44 (fun H locs hw => ?_)
    refine lv_goto (tgt := 82) C.1 C.2.1 dX2_combine_45 (by decide) ?_
    exact g_vret C hw (Nat.le_of_ble_eq_true rfl) (Nat.le_of_ble_eq_true rfl) (Option.some.inj hf) dX2_combine_82
/-! java/lang/Integer.bitCount -/
def fJ6_bitCount_0f7a4 (x0 : Int32) : Option Int32 :=
  Option.bind (some ((x0 - (((x0.toUInt32 >>> (Int32.toUInt32 1 &&& Int32.toUInt32 31)).toInt32) &&& 1431655765)))) fun x0_1 =>
  Option.bind (some (((x0_1 &&& 858993459) + (((x0_1.toUInt32 >>> (Int32.toUInt32 2 &&& Int32.toUInt32 31)).toInt32) &&& 858993459)))) fun x0_2 =>
  Option.bind (some (((x0_2 + ((x0_2.toUInt32 >>> (Int32.toUInt32 4 &&& Int32.toUInt32 31)).toInt32)) &&& 252645135))) fun x0_3 =>
  Option.bind (some ((x0_3 + ((x0_3.toUInt32 >>> (Int32.toUInt32 8 &&& Int32.toUInt32 31)).toInt32)))) fun x0_4 =>
  Option.bind (some ((x0_4 + ((x0_4.toUInt32 >>> (Int32.toUInt32 16 &&& Int32.toUInt32 31)).toInt32)))) fun x0_5 =>
  some (x0_5 &&& 63)
set_option maxHeartbeats 4000000 in
set_option maxRecDepth 100000 in
theorem ctJ6_bitCount_0f7a4 (l : Launch) (x0 : Int32) {r1 : Int32} (hf : fJ6_bitCount_0f7a4 x0 = some r1) : Met l yJ6_bitCount_0f7a4 (Cond.code yJ6_bitCount_0f7a4 cJ6_bitCount_0f7a4 1 (some .int) :: XALL) ({ frames := 0, cells := 0, slots := 0, locals := 0 } : Room) (va_Pc [.int x0] (fun _ => True)) (zQi r1) 0 0 (fun _ => False) := by
  unfold fJ6_bitCount_0f7a4 at hf
  refine Met.ofW (cc := cJ6_bitCount_0f7a4) (maxL := 1) (ret := (some .int)) (by decide) rfl ?_
  intro p e s m args below meth c s₁ B hml hv
  obtain ⟨rfl, hg⟩ := hv
  have C : Ctx p s m _ meth c cJ6_bitCount_0f7a4 1 RJ6 (some .int) := Ctx.of B hml rfl
  have hw : zS s s.heap [] := va_S.rf
  have hl := lv_entry ([.int x0]) (n := 1) (Nat.le_of_ble_eq_true rfl)
  rw [lg_entry_eq]
  generalize (lg_sl ([.int x0]) ++ List.replicate (1 - (lg_sl ([.int x0])).length) Slot.unset).toArray = ls at hl ⊢
  have hl : lv_has ls 1 [(0, .int x0)] := hl
  refine lv_iload_n C.1 C.2.1 dJ6_bitCount_0f7a4_0 rfl (lv_at hl 0 rfl) ?_
  refine lv_iload_n C.1 C.2.1 dJ6_bitCount_0f7a4_1 rfl (lv_at hl 0 rfl) ?_
  refine lv_iconst (v := 1) C.1 C.2.1 dJ6_bitCount_0f7a4_2 (by decide) ?_
  refine lv_iushr (v := (x0.toUInt32 >>> (Int32.toUInt32 1 &&& Int32.toUInt32 31)).toInt32) C.1 C.2.1 dJ6_bitCount_0f7a4_3 rfl ?_
  refine lv_ldcw C.1 C.2.1 C.2.2.2.1 (C.2.2.2.2.1 _ kk_J6_265) dJ6_bitCount_0f7a4_4 ?_
  refine lv_iand C.1 C.2.1 dJ6_bitCount_0f7a4_7 ?_
  refine lv_isub C.1 C.2.1 dJ6_bitCount_0f7a4_8 ?_
  obtain ⟨x0_1, hx0_1, hf⟩ := bnd hf
  refine topi_b hx0_1 ?_
  refine lv_istore_n (lv' := [(0, .int x0_1)]) C.1 C.2.1 dJ6_bitCount_0f7a4_9 rfl hl (by decide) rfl (fun ls hl => ?_)
  refine lv_iload_n C.1 C.2.1 dJ6_bitCount_0f7a4_10 rfl (lv_at hl 0 rfl) ?_
  refine lv_ldcw C.1 C.2.1 C.2.2.2.1 (C.2.2.2.2.1 _ kk_J6_266) dJ6_bitCount_0f7a4_11 ?_
  refine lv_iand C.1 C.2.1 dJ6_bitCount_0f7a4_14 ?_
  refine lv_iload_n C.1 C.2.1 dJ6_bitCount_0f7a4_15 rfl (lv_at hl 0 rfl) ?_
  refine lv_iconst (v := 2) C.1 C.2.1 dJ6_bitCount_0f7a4_16 (by decide) ?_
  refine lv_iushr (v := (x0_1.toUInt32 >>> (Int32.toUInt32 2 &&& Int32.toUInt32 31)).toInt32) C.1 C.2.1 dJ6_bitCount_0f7a4_17 rfl ?_
  refine lv_ldcw C.1 C.2.1 C.2.2.2.1 (C.2.2.2.2.1 _ kk_J6_266) dJ6_bitCount_0f7a4_18 ?_
  refine lv_iand C.1 C.2.1 dJ6_bitCount_0f7a4_21 ?_
  refine lv_iadd C.1 C.2.1 dJ6_bitCount_0f7a4_22 ?_
  obtain ⟨x0_2, hx0_2, hf⟩ := bnd hf
  refine topi_b hx0_2 ?_
  refine lv_istore_n (lv' := [(0, .int x0_2)]) C.1 C.2.1 dJ6_bitCount_0f7a4_23 rfl hl (by decide) rfl (fun ls hl => ?_)
  refine lv_iload_n C.1 C.2.1 dJ6_bitCount_0f7a4_24 rfl (lv_at hl 0 rfl) ?_
  refine lv_iload_n C.1 C.2.1 dJ6_bitCount_0f7a4_25 rfl (lv_at hl 0 rfl) ?_
  refine lv_iconst (v := 4) C.1 C.2.1 dJ6_bitCount_0f7a4_26 (by decide) ?_
  refine lv_iushr (v := (x0_2.toUInt32 >>> (Int32.toUInt32 4 &&& Int32.toUInt32 31)).toInt32) C.1 C.2.1 dJ6_bitCount_0f7a4_27 rfl ?_
  refine lv_iadd C.1 C.2.1 dJ6_bitCount_0f7a4_28 ?_
  refine lv_ldcw C.1 C.2.1 C.2.2.2.1 (C.2.2.2.2.1 _ kk_J6_267) dJ6_bitCount_0f7a4_29 ?_
  refine lv_iand C.1 C.2.1 dJ6_bitCount_0f7a4_32 ?_
  obtain ⟨x0_3, hx0_3, hf⟩ := bnd hf
  refine topi_b hx0_3 ?_
  refine lv_istore_n (lv' := [(0, .int x0_3)]) C.1 C.2.1 dJ6_bitCount_0f7a4_33 rfl hl (by decide) rfl (fun ls hl => ?_)
  refine lv_iload_n C.1 C.2.1 dJ6_bitCount_0f7a4_34 rfl (lv_at hl 0 rfl) ?_
  refine lv_iload_n C.1 C.2.1 dJ6_bitCount_0f7a4_35 rfl (lv_at hl 0 rfl) ?_
  refine lv_bipush (v := 8) C.1 C.2.1 dJ6_bitCount_0f7a4_36 (by decide) ?_
  refine lv_iushr (v := (x0_3.toUInt32 >>> (Int32.toUInt32 8 &&& Int32.toUInt32 31)).toInt32) C.1 C.2.1 dJ6_bitCount_0f7a4_38 rfl ?_
  refine lv_iadd C.1 C.2.1 dJ6_bitCount_0f7a4_39 ?_
  obtain ⟨x0_4, hx0_4, hf⟩ := bnd hf
  refine topi_b hx0_4 ?_
  refine lv_istore_n (lv' := [(0, .int x0_4)]) C.1 C.2.1 dJ6_bitCount_0f7a4_40 rfl hl (by decide) rfl (fun ls hl => ?_)
  refine lv_iload_n C.1 C.2.1 dJ6_bitCount_0f7a4_41 rfl (lv_at hl 0 rfl) ?_
  refine lv_iload_n C.1 C.2.1 dJ6_bitCount_0f7a4_42 rfl (lv_at hl 0 rfl) ?_
  refine lv_bipush (v := 16) C.1 C.2.1 dJ6_bitCount_0f7a4_43 (by decide) ?_
  refine lv_iushr (v := (x0_4.toUInt32 >>> (Int32.toUInt32 16 &&& Int32.toUInt32 31)).toInt32) C.1 C.2.1 dJ6_bitCount_0f7a4_45 rfl ?_
  refine lv_iadd C.1 C.2.1 dJ6_bitCount_0f7a4_46 ?_
  obtain ⟨x0_5, hx0_5, hf⟩ := bnd hf
  refine topi_b hx0_5 ?_
  refine lv_istore_n (lv' := [(0, .int x0_5)]) C.1 C.2.1 dJ6_bitCount_0f7a4_47 rfl hl (by decide) rfl (fun ls hl => ?_)
  refine lv_iload_n C.1 C.2.1 dJ6_bitCount_0f7a4_48 rfl (lv_at hl 0 rfl) ?_
  refine lv_bipush (v := 63) C.1 C.2.1 dJ6_bitCount_0f7a4_49 (by decide) ?_
  refine lv_iand C.1 C.2.1 dJ6_bitCount_0f7a4_51 ?_
  exact z_iret C hw (Nat.le_of_ble_eq_true rfl) (Nat.le_of_ble_eq_true rfl) (Option.some.inj hf) dJ6_bitCount_0f7a4_52
/-! DreamLedger.TagTree.countAbove -/
def fX1_countAbove (S : St) (x1 : Int32) : Option Int32 :=
  Option.bind (ld S 5 16 x1) fun v_1 =>
  Option.bind (fJ6_bitCount_0f7a4 v_1) fun v_2 =>
  some (v_2 - 1)
set_option maxHeartbeats 4000000 in
set_option maxRecDepth 100000 in
theorem ctX1_countAbove (l : Launch) {D : va_G} {cI : ClassId} {q : Nat → Nat} (S : St) (x1 : Int32) (sz : Nat) {r1 : Int32} (hf : fX1_countAbove S x1 = some r1) : Met l yX1_countAbove (Cond.code yX1_countAbove cX1_countAbove 2 (some .int) :: XALL) ({ frames := 1, cells := 0, slots := 0, locals := 20 } : Room) (va_Pc [.ref (q 1), .int x1] (gPre D cI ((xw cI q) S) sz)) (gQi D (xw cI q) S (fun (r : Int32) (u : St) => r = r1 ∧ u = S) sz) 0 0 (va_A ((xw cI q) S) sz) := by
  unfold fX1_countAbove at hf
  refine Met.ofW (cc := cX1_countAbove) (maxL := 2) (ret := (some .int)) (by decide) rfl ?_
  intro p e s m args below meth c s₁ B hml hv
  obtain ⟨rfl, hg⟩ := hv
  have C : Ctx p s m _ meth c cX1_countAbove 2 RX1 (some .int) := Ctx.of B hml rfl
  obtain ⟨E, hw, hsz⟩ := g_start hg
  subst hsz
  have hl := lv_entry ([.ref (q 1), .int x1]) (n := 2) (Nat.le_of_ble_eq_true rfl)
  rw [lg_entry_eq]
  generalize (lg_sl ([.ref (q 1), .int x1]) ++ List.replicate (2 - (lg_sl ([.ref (q 1), .int x1])).length) Slot.unset).toArray = ls at hl ⊢
  have hl : lv_has ls 2 [(0, .ref (q 1)), (1, .int x1)] := hl
  refine lv_aload_n C.1 C.2.1 dX1_countAbove_0 rfl (lv_at hl 0 rfl) ?_
  refine g_get C E hw inW1 1 rfl rfl 1 (by decide) kf_X1_15 rfl dX1_countAbove_1 ?_
  refine lv_iload_n C.1 C.2.1 dX1_countAbove_4 rfl (lv_at hl 1 rfl) ?_
  obtain ⟨v_1, hv_1, hf⟩ := bnd hf
  refine g_ald C E hw 9 rfl (ld_some hv_1) dX1_countAbove_5 ?_
  obtain ⟨v_2, hv_2, hf⟩ := bnd hf
  refine g_ci0e (rest := []) hw (g_run0 (rm := ({ frames := 0, cells := 0, slots := 0, locals := 0 } : Room)) (As := [.int v_1]) (rest := []) C F_J6_bitCount_0f7a4 (ctJ6_bitCount_0f7a4 l v_1 hv_2) km_X1_37 rfl hl.1 rfl (Nat.le_of_ble_eq_true rfl) ⟨(Nat.le_of_ble_eq_true rfl), (Nat.le_of_ble_eq_true rfl)⟩ ⟨(Nat.le_of_ble_eq_true rfl), (Nat.le_of_ble_eq_true rfl)⟩ dX1_countAbove_6) (fun H locs hw => ?_)
  refine lv_iconst (v := 1) C.1 C.2.1 dX1_countAbove_9 (by decide) ?_
  refine lv_isub C.1 C.2.1 dX1_countAbove_10 ?_
  exact g_iret C hw (Nat.le_of_ble_eq_true rfl) (Nat.le_of_ble_eq_true rfl) ⟨Option.some.inj hf, rfl⟩ dX1_countAbove_11
/-! DreamLedger.TermList.add -/
def fX2_add (S : St) (x1 : Int32) (x2 : Int32) (x3 : Int32) : Option (Int32 × St) :=
  Option.bind (some ((S 15 0))) fun x4_1 =>
  Option.bind (some (up S 15 0 ((S 15 0) + 1))) fun S_2 =>
  Option.bind (sto S_2 6 20 x4_1 x1) fun S_3 =>
  Option.bind (sto S_3 7 20 x4_1 x2) fun S_4 =>
  Option.bind (sto S_4 8 20 x4_1 x3) fun S_5 =>
  some (x4_1, S_5)
set_option maxHeartbeats 4000000 in
set_option maxRecDepth 100000 in
theorem ctX2_add (l : Launch) {D : va_G} {cI : ClassId} {q : Nat → Nat} (S : St) (x1 : Int32) (x2 : Int32) (x3 : Int32) (sz : Nat) {r1 : Int32} {S1 : St} (hf : fX2_add S x1 x2 x3 = some (r1, S1)) : Met l yX2_add (Cond.code yX2_add cX2_add 5 (some .int) :: XALL) ({ frames := 0, cells := 0, slots := 0, locals := 0 } : Room) (va_Pc [.ref (q 2), .int x1, .int x2, .int x3] (gPre D cI ((xw cI q) S) sz)) (gQi D (xw cI q) S (fun (r : Int32) (u : St) => r = r1 ∧ u = S1) sz) 0 0 (va_A ((xw cI q) S) sz) := by
  unfold fX2_add at hf
  refine Met.ofW (cc := cX2_add) (maxL := 5) (ret := (some .int)) (by decide) rfl ?_
  intro p e s m args below meth c s₁ B hml hv
  obtain ⟨rfl, hg⟩ := hv
  have C : Ctx p s m _ meth c cX2_add 5 RX2 (some .int) := Ctx.of B hml rfl
  obtain ⟨E, hw, hsz⟩ := g_start hg
  subst hsz
  have hl := lv_entry ([.ref (q 2), .int x1, .int x2, .int x3]) (n := 5) (Nat.le_of_ble_eq_true rfl)
  rw [lg_entry_eq]
  generalize (lg_sl ([.ref (q 2), .int x1, .int x2, .int x3]) ++ List.replicate (5 - (lg_sl ([.ref (q 2), .int x1, .int x2, .int x3])).length) Slot.unset).toArray = ls at hl ⊢
  have hl : lv_has ls 5 [(0, .ref (q 2)), (1, .int x1), (2, .int x2), (3, .int x3)] := hl
  refine lv_aload_n C.1 C.2.1 dX2_add_0 rfl (lv_at hl 0 rfl) ?_
  refine g_get C E hw inW2 2 rfl rfl 4 (by decide) kf_X2_24 rfl dX2_add_1 ?_
  obtain ⟨x4_1, hx4_1, hf⟩ := bnd hf
  refine topi_b hx4_1 ?_
  refine lv_istore (lv' := [(4, .int x4_1), (0, .ref (q 2)), (1, .int x1), (2, .int x2), (3, .int x3)]) C.1 C.2.1 dX2_add_4 hl (by decide) rfl (fun ls hl => ?_)
  refine lv_aload_n C.1 C.2.1 dX2_add_6 rfl (lv_at hl 1 rfl) ?_
  refine lv_dup C.1 C.2.1 dX2_add_7 rfl ?_
  refine g_get C E hw inW2 2 rfl rfl 4 (by decide) kf_X2_24 rfl dX2_add_8 ?_
  refine lv_iconst (v := 1) C.1 C.2.1 dX2_add_11 (by decide) ?_
  refine lv_iadd C.1 C.2.1 dX2_add_12 ?_
  obtain ⟨S_2, hS_2, hf⟩ := bnd hf
  refine g_put C E hw inW2 tyX2 tyX2_ok nmX2 2 rfl rfl 4 (by decide) kf_X2_24 rfl (by decide +kernel) (Nat.le_of_ble_eq_true rfl) (ws' := (xw cI q) S_2) (by rw [← Option.some.inj hS_2]; rfl) dX2_add_13 (fun H locs hw => ?_)
  refine lv_aload_n C.1 C.2.1 dX2_add_16 rfl (lv_at hl 1 rfl) ?_
  refine g_get C E hw inW2 2 rfl rfl 0 (by decide) kf_X2_9 rfl dX2_add_17 ?_
  refine lv_iload C.1 C.2.1 dX2_add_20 (lv_at hl 0 rfl) ?_
  refine lv_iload_n C.1 C.2.1 dX2_add_22 rfl (lv_at hl 2 rfl) ?_
  obtain ⟨S_3, hS_3, hf⟩ := bnd hf
  refine g_ast C E hw 10 rfl (sto_some hS_3).1 (ws' := (xw cI q) S_3) (by rw [← (sto_some hS_3).2]; rfl) dX2_add_23 (fun H locs hw => ?_)
  refine lv_aload_n C.1 C.2.1 dX2_add_24 rfl (lv_at hl 1 rfl) ?_
  refine g_get C E hw inW2 2 rfl rfl 1 (by decide) kf_X2_15 rfl dX2_add_25 ?_
  refine lv_iload C.1 C.2.1 dX2_add_28 (lv_at hl 0 rfl) ?_
  refine lv_iload_n C.1 C.2.1 dX2_add_30 rfl (lv_at hl 3 rfl) ?_
  obtain ⟨S_4, hS_4, hf⟩ := bnd hf
  refine g_ast C E hw 11 rfl (sto_some hS_4).1 (ws' := (xw cI q) S_4) (by rw [← (sto_some hS_4).2]; rfl) dX2_add_31 (fun H locs hw => ?_)
  refine lv_aload_n C.1 C.2.1 dX2_add_32 rfl (lv_at hl 1 rfl) ?_
  refine g_get C E hw inW2 2 rfl rfl 2 (by decide) kf_X2_18 rfl dX2_add_33 ?_
  refine lv_iload C.1 C.2.1 dX2_add_36 (lv_at hl 0 rfl) ?_
  refine lv_iload_n C.1 C.2.1 dX2_add_38 rfl (lv_at hl 4 rfl) ?_
  obtain ⟨S_5, hS_5, hf⟩ := bnd hf
  refine g_ast C E hw 12 rfl (sto_some hS_5).1 (ws' := (xw cI q) S_5) (by rw [← (sto_some hS_5).2]; rfl) dX2_add_39 (fun H locs hw => ?_)
  refine lv_iload C.1 C.2.1 dX2_add_40 (lv_at hl 0 rfl) ?_
  exact g_iret C hw (Nat.le_of_ble_eq_true rfl) (Nat.le_of_ble_eq_true rfl) ⟨congrArg Prod.fst (Option.some.inj hf), congrArg Prod.snd (Option.some.inj hf)⟩ dX2_add_42
/-! DreamLedger.TagTree.countBelow -/
def fX1_countBelow_4 (S : St) (x1 : Int32) : Nat → Int32 → Int32 → Option Int32
  | 0, _, _ => none
  | n + 1, x2, x3 =>
    if (S 14 0) ≤ x3 then
      some x2
    else
      Option.bind (fX1_standsBelow S x3 x1) fun v_1 =>
      if v_1 = 0 then
        Option.bind (some (x3 + 1)) fun x3_2 =>
        fX1_countBelow_4 S x1 n x2 x3_2
      else
        Option.bind (some (x2 + 1)) fun x2_3 =>
        Option.bind (some (x3 + 1)) fun x3_4 =>
        fX1_countBelow_4 S x1 n x2_3 x3_4
set_option maxHeartbeats 4000000 in
set_option maxRecDepth 100000 in
theorem wX1_countBelow_4 {p : Program} {l : Launch} {e : Env} {s : State} {m : MethodId} {args : Array Value} {below : List Frame} {meth : Method} {c : Code} {D : va_G} {cI : ClassId} {q : Nat → Nat} (C : Ctx p s m args meth c cX1_countBelow 4 RX1 (some .int)) (E : gE D cI s) {r1 : Int32} (S : St) (x1 : Int32) : ∀ (n : Nat) (x2 : Int32) (x3 : Int32), fX1_countBelow_4 S x1 n x2 x3 = some r1 → ∀ (H : Heap) (locs : List Loc) (ls : Array Slot), gW D ((xw cI q) S) ((xw cI q) S) s H locs → lv_has ls 4 [(0, .ref (q 1)), (1, .int x1), (2, .int x2), (3, .int x3)] → W p l e ({ frames := 2, cells := 0, slots := 0, locals := 43 } : Room) s m args below meth c H locs 0 0 (MQ below (gQi D (xw cI q) S (fun (r : Int32) (u : St) => r = r1 ∧ u = S) s.heap.size) args s 0 0 (va_A ((xw cI q) S) s.heap.size)) (F0 m 4 ls []) := by
  intro n
  induction n with
  | zero => intro x2 x3 hf; rw [fX1_countBelow_4] at hf; cases hf
  | succ n ih =>
    intro x2 x3 hf H locs ls hw hl
    rw [fX1_countBelow_4] at hf
    refine lv_iload_n C.1 C.2.1 dX1_countBelow_4 rfl (lv_at hl 3 rfl) ?_
    refine lv_aload_n C.1 C.2.1 dX1_countBelow_5 rfl (lv_at hl 0 rfl) ?_
    refine g_get C E hw inW1 1 rfl rfl 2 (by decide) kf_X1_18 rfl dX1_countBelow_6 ?_
    refine lv_icmp_ge (tgt := 30) C.1 C.2.1 dX1_countBelow_9 (by decide) (fun hc => ?_) (fun hc => ?_)
    · have hf := ift hc hf
      refine lv_iload_n C.1 C.2.1 dX1_countBelow_30 rfl (lv_at hl 2 rfl) ?_
      exact g_iret C hw (Nat.le_of_ble_eq_true rfl) (Nat.le_of_ble_eq_true rfl) ⟨Option.some.inj hf, rfl⟩ dX1_countBelow_31
    · have hf := iff_ hc hf
      refine lv_aload_n C.1 C.2.1 dX1_countBelow_12 rfl (lv_at hl 0 rfl) ?_
      refine lv_iload_n C.1 C.2.1 dX1_countBelow_13 rfl (lv_at hl 3 rfl) ?_
      refine lv_iload_n C.1 C.2.1 dX1_countBelow_14 rfl (lv_at hl 1 rfl) ?_
      obtain ⟨v_1, hv_1, hf⟩ := bnd hf
      refine g_cie (wf := (xw cI q)) (S := S) (rest := []) xw_adr hw (g_runV (rm := ({ frames := 1, cells := 0, slots := 0, locals := 21 } : Room)) (As := [.int x3, .int x1]) (rest := []) C E hw F_X1_standsBelow (ctX1_standsBelow l (cI := cI) (D := D) (q := q) S x3 x1 _ hv_1) km_X1_34 1 rfl rfl rfl hl.1 rfl (Nat.le_of_ble_eq_true rfl) ⟨(Nat.le_of_ble_eq_true rfl), (Nat.le_of_ble_eq_true rfl)⟩ ⟨(Nat.le_of_ble_eq_true rfl), (Nat.le_of_ble_eq_true rfl)⟩ dX1_countBelow_15) (fun H locs hw => ?_)
      refine lv_if_eq (tgt := 24) C.1 C.2.1 dX1_countBelow_18 (by decide) (fun hc => ?_) (fun hc => ?_)
      · have hf := ift hc hf
        obtain ⟨x3_2, hx3_2, hf⟩ := bnd hf
        refine lv_iinc (v := x3_2) (lv' := [(3, .int x3_2), (0, .ref (q 1)), (1, .int x1), (2, .int x2)]) C.1 C.2.1 dX1_countBelow_24 hl (k := 3) rfl (inc1 hx3_2) (by decide) rfl (fun ls hl => ?_)
        refine lv_goto (tgt := 4) C.1 C.2.1 dX1_countBelow_27 (by decide) ?_
        exact ih x2 x3_2 hf _ _ _ hw (lv_sub hl [1, 2, 3, 0] rfl)
      · have hf := iff_ hc hf
        obtain ⟨x2_3, hx2_3, hf⟩ := bnd hf
        refine lv_iinc (v := x2_3) (lv' := [(2, .int x2_3), (0, .ref (q 1)), (1, .int x1), (3, .int x3)]) C.1 C.2.1 dX1_countBelow_21 hl (k := 2) rfl (inc1 hx2_3) (by decide) rfl (fun ls hl => ?_)
        obtain ⟨x3_4, hx3_4, hf⟩ := bnd hf
        refine lv_iinc (v := x3_4) (lv' := [(3, .int x3_4), (2, .int x2_3), (0, .ref (q 1)), (1, .int x1)]) C.1 C.2.1 dX1_countBelow_24 hl (k := 3) rfl (inc1 hx3_4) (by decide) rfl (fun ls hl => ?_)
        refine lv_goto (tgt := 4) C.1 C.2.1 dX1_countBelow_27 (by decide) ?_
        exact ih x2_3 x3_4 hf _ _ _ hw (lv_sub hl [2, 3, 1, 0] rfl)
def fX1_countBelow (S : St) (x1 : Int32) : Option Int32 :=
  fX1_countBelow_4 S x1 100 0 0
set_option maxHeartbeats 4000000 in
set_option maxRecDepth 100000 in
theorem ctX1_countBelow (l : Launch) {D : va_G} {cI : ClassId} {q : Nat → Nat} (S : St) (x1 : Int32) (sz : Nat) {r1 : Int32} (hf : fX1_countBelow S x1 = some r1) : Met l yX1_countBelow (Cond.code yX1_countBelow cX1_countBelow 4 (some .int) :: XALL) ({ frames := 2, cells := 0, slots := 0, locals := 43 } : Room) (va_Pc [.ref (q 1), .int x1] (gPre D cI ((xw cI q) S) sz)) (gQi D (xw cI q) S (fun (r : Int32) (u : St) => r = r1 ∧ u = S) sz) 0 0 (va_A ((xw cI q) S) sz) := by
  unfold fX1_countBelow at hf
  refine Met.ofW (cc := cX1_countBelow) (maxL := 4) (ret := (some .int)) (by decide) rfl ?_
  intro p e s m args below meth c s₁ B hml hv
  obtain ⟨rfl, hg⟩ := hv
  have C : Ctx p s m _ meth c cX1_countBelow 4 RX1 (some .int) := Ctx.of B hml rfl
  obtain ⟨E, hw, hsz⟩ := g_start hg
  subst hsz
  have hl := lv_entry ([.ref (q 1), .int x1]) (n := 4) (Nat.le_of_ble_eq_true rfl)
  rw [lg_entry_eq]
  generalize (lg_sl ([.ref (q 1), .int x1]) ++ List.replicate (4 - (lg_sl ([.ref (q 1), .int x1])).length) Slot.unset).toArray = ls at hl ⊢
  have hl : lv_has ls 4 [(0, .ref (q 1)), (1, .int x1)] := hl
  refine lv_iconst (v := 0) C.1 C.2.1 dX1_countBelow_0 (by decide) ?_
  refine lv_istore_n (lv' := [(2, .int 0), (0, .ref (q 1)), (1, .int x1)]) C.1 C.2.1 dX1_countBelow_1 rfl hl (by decide) rfl (fun ls hl => ?_)
  refine lv_iconst (v := 0) C.1 C.2.1 dX1_countBelow_2 (by decide) ?_
  refine lv_istore_n (lv' := [(3, .int 0), (2, .int 0), (0, .ref (q 1)), (1, .int x1)]) C.1 C.2.1 dX1_countBelow_3 rfl hl (by decide) rfl (fun ls hl => ?_)
  exact wX1_countBelow_4 C E S x1 100 0 0 hf _ _ _ hw (lv_sub hl [2, 3, 1, 0] rfl)
/-! DreamLedger.TagTree.lowestOf -/
def fX1_lowestOf_7 (S : St) (x1 : Int32) : Nat → Int32 → Int32 → Int32 → Option Int32
  | 0, _, _, _ => none
  | n + 1, x2, x3, x4 =>
    if (S 14 0) ≤ x4 then
      some x2
    else
      Option.bind (fX3_isIn x4 x1) fun v_1 =>
      if v_1 = 0 then
        Option.bind (some (x4 + 1)) fun x4_2 =>
        fX1_lowestOf_7 S x1 n x2 x3 x4_2
      else
        Option.bind (fX1_countAbove S x4) fun v_3 =>
        if v_3 ≤ x3 then
          Option.bind (some (x4 + 1)) fun x4_4 =>
          fX1_lowestOf_7 S x1 n x2 x3 x4_4
        else
          Option.bind (fX1_countAbove S x4) fun v_5 =>
          Option.bind (some (x4 + 1)) fun x4_6 =>
          fX1_lowestOf_7 S x1 n x4 v_5 x4_6
set_option maxHeartbeats 4000000 in
set_option maxRecDepth 100000 in
theorem wX1_lowestOf_7 {p : Program} {l : Launch} {e : Env} {s : State} {m : MethodId} {args : Array Value} {below : List Frame} {meth : Method} {c : Code} {D : va_G} {cI : ClassId} {q : Nat → Nat} (C : Ctx p s m args meth c cX1_lowestOf 5 RX1 (some .int)) (E : gE D cI s) {r1 : Int32} (S : St) (x1 : Int32) : ∀ (n : Nat) (x2 : Int32) (x3 : Int32) (x4 : Int32), fX1_lowestOf_7 S x1 n x2 x3 x4 = some r1 → ∀ (H : Heap) (locs : List Loc) (ls : Array Slot), gW D ((xw cI q) S) ((xw cI q) S) s H locs → lv_has ls 5 [(0, .ref (q 1)), (1, .int x1), (2, .int x2), (3, .int x3), (4, .int x4)] → W p l e ({ frames := 2, cells := 0, slots := 0, locals := 41 } : Room) s m args below meth c H locs 0 0 (MQ below (gQi D (xw cI q) S (fun (r : Int32) (u : St) => r = r1 ∧ u = S) s.heap.size) args s 0 0 (va_A ((xw cI q) S) s.heap.size)) (F0 m 7 ls []) := by
  intro n
  induction n with
  | zero => intro x2 x3 x4 hf; rw [fX1_lowestOf_7] at hf; cases hf
  | succ n ih =>
    intro x2 x3 x4 hf H locs ls hw hl
    rw [fX1_lowestOf_7] at hf
    refine lv_iload C.1 C.2.1 dX1_lowestOf_7 (lv_at hl 4 rfl) ?_
    refine lv_aload_n C.1 C.2.1 dX1_lowestOf_9 rfl (lv_at hl 0 rfl) ?_
    refine g_get C E hw inW1 1 rfl rfl 2 (by decide) kf_X1_18 rfl dX1_lowestOf_10 ?_
    refine lv_icmp_ge (tgt := 51) C.1 C.2.1 dX1_lowestOf_13 (by decide) (fun hc => ?_) (fun hc => ?_)
    · have hf := ift hc hf
      refine lv_iload_n C.1 C.2.1 dX1_lowestOf_51 rfl (lv_at hl 2 rfl) ?_
      exact g_iret C hw (Nat.le_of_ble_eq_true rfl) (Nat.le_of_ble_eq_true rfl) ⟨Option.some.inj hf, rfl⟩ dX1_lowestOf_52
    · have hf := iff_ hc hf
      refine lv_iload C.1 C.2.1 dX1_lowestOf_16 (lv_at hl 4 rfl) ?_
      refine lv_iload_n C.1 C.2.1 dX1_lowestOf_18 rfl (lv_at hl 1 rfl) ?_
      obtain ⟨v_1, hv_1, hf⟩ := bnd hf
      refine g_ci0e (rest := []) hw (g_run0N (rm := ({ frames := 0, cells := 0, slots := 0, locals := 0 } : Room)) (As := [.int x4, .int x1]) (rest := []) C E F_X3_isIn (ctX3_isIn l x4 x1 hv_1) kmN_X1_30 rfl hl.1 rfl (Nat.le_of_ble_eq_true rfl) ⟨(Nat.le_of_ble_eq_true rfl), (Nat.le_of_ble_eq_true rfl)⟩ ⟨(Nat.le_of_ble_eq_true rfl), (Nat.le_of_ble_eq_true rfl)⟩ dX1_lowestOf_19) (fun H locs hw => ?_)
      refine lv_if_eq (tgt := 45) C.1 C.2.1 dX1_lowestOf_22 (by decide) (fun hc => ?_) (fun hc => ?_)
      · have hf := ift hc hf
        obtain ⟨x4_2, hx4_2, hf⟩ := bnd hf
        refine lv_iinc (v := x4_2) (lv' := [(4, .int x4_2), (0, .ref (q 1)), (1, .int x1), (2, .int x2), (3, .int x3)]) C.1 C.2.1 dX1_lowestOf_45 hl (k := 4) rfl (inc1 hx4_2) (by decide) rfl (fun ls hl => ?_)
        refine lv_goto (tgt := 7) C.1 C.2.1 dX1_lowestOf_48 (by decide) ?_
        exact ih x2 x3 x4_2 hf _ _ _ hw (lv_sub hl [1, 2, 3, 4, 0] rfl)
      · have hf := iff_ hc hf
        refine lv_aload_n C.1 C.2.1 dX1_lowestOf_25 rfl (lv_at hl 0 rfl) ?_
        refine lv_iload C.1 C.2.1 dX1_lowestOf_26 (lv_at hl 4 rfl) ?_
        obtain ⟨v_3, hv_3, hf⟩ := bnd hf
        refine g_cie (wf := (xw cI q)) (S := S) (rest := []) xw_adr hw (g_runV (rm := ({ frames := 1, cells := 0, slots := 0, locals := 20 } : Room)) (As := [.int x4]) (rest := []) C E hw F_X1_countAbove (ctX1_countAbove l (cI := cI) (D := D) (q := q) S x4 _ hv_3) km_X1_42 1 rfl rfl rfl hl.1 rfl (Nat.le_of_ble_eq_true rfl) ⟨(Nat.le_of_ble_eq_true rfl), (Nat.le_of_ble_eq_true rfl)⟩ ⟨(Nat.le_of_ble_eq_true rfl), (Nat.le_of_ble_eq_true rfl)⟩ dX1_lowestOf_28) (fun H locs hw => ?_)
        refine lv_iload_n C.1 C.2.1 dX1_lowestOf_31 rfl (lv_at hl 3 rfl) ?_
        refine lv_icmp_le (tgt := 45) C.1 C.2.1 dX1_lowestOf_32 (by decide) (fun hc => ?_) (fun hc => ?_)
        · have hf := ift hc hf
          obtain ⟨x4_4, hx4_4, hf⟩ := bnd hf
          refine lv_iinc (v := x4_4) (lv' := [(4, .int x4_4), (0, .ref (q 1)), (1, .int x1), (2, .int x2), (3, .int x3)]) C.1 C.2.1 dX1_lowestOf_45 hl (k := 4) rfl (inc1 hx4_4) (by decide) rfl (fun ls hl => ?_)
          refine lv_goto (tgt := 7) C.1 C.2.1 dX1_lowestOf_48 (by decide) ?_
          exact ih x2 x3 x4_4 hf _ _ _ hw (lv_sub hl [1, 2, 3, 4, 0] rfl)
        · have hf := iff_ hc hf
          refine lv_aload_n C.1 C.2.1 dX1_lowestOf_35 rfl (lv_at hl 0 rfl) ?_
          refine lv_iload C.1 C.2.1 dX1_lowestOf_36 (lv_at hl 4 rfl) ?_
          obtain ⟨v_5, hv_5, hf⟩ := bnd hf
          refine g_cie (wf := (xw cI q)) (S := S) (rest := []) xw_adr hw (g_runV (rm := ({ frames := 1, cells := 0, slots := 0, locals := 20 } : Room)) (As := [.int x4]) (rest := []) C E hw F_X1_countAbove (ctX1_countAbove l (cI := cI) (D := D) (q := q) S x4 _ hv_5) km_X1_42 1 rfl rfl rfl hl.1 rfl (Nat.le_of_ble_eq_true rfl) ⟨(Nat.le_of_ble_eq_true rfl), (Nat.le_of_ble_eq_true rfl)⟩ ⟨(Nat.le_of_ble_eq_true rfl), (Nat.le_of_ble_eq_true rfl)⟩ dX1_lowestOf_38) (fun H locs hw => ?_)
          refine lv_istore_n (lv' := [(3, .int v_5), (0, .ref (q 1)), (1, .int x1), (2, .int x2), (4, .int x4)]) C.1 C.2.1 dX1_lowestOf_41 rfl hl (by decide) rfl (fun ls hl => ?_)
          refine lv_iload C.1 C.2.1 dX1_lowestOf_42 (lv_at hl 4 rfl) ?_
          refine lv_istore_n (lv' := [(2, .int x4), (3, .int v_5), (0, .ref (q 1)), (1, .int x1), (4, .int x4)]) C.1 C.2.1 dX1_lowestOf_44 rfl hl (by decide) rfl (fun ls hl => ?_)
          obtain ⟨x4_6, hx4_6, hf⟩ := bnd hf
          refine lv_iinc (v := x4_6) (lv' := [(4, .int x4_6), (2, .int x4), (3, .int v_5), (0, .ref (q 1)), (1, .int x1)]) C.1 C.2.1 dX1_lowestOf_45 hl (k := 4) rfl (inc1 hx4_6) (by decide) rfl (fun ls hl => ?_)
          refine lv_goto (tgt := 7) C.1 C.2.1 dX1_lowestOf_48 (by decide) ?_
          exact ih x4 v_5 x4_6 hf _ _ _ hw (lv_sub hl [3, 4, 1, 2, 0] rfl)
def fX1_lowestOf (S : St) (x1 : Int32) : Option Int32 :=
  fX1_lowestOf_7 S x1 100 (-1) (-1) 0
set_option maxHeartbeats 4000000 in
set_option maxRecDepth 100000 in
theorem ctX1_lowestOf (l : Launch) {D : va_G} {cI : ClassId} {q : Nat → Nat} (S : St) (x1 : Int32) (sz : Nat) {r1 : Int32} (hf : fX1_lowestOf S x1 = some r1) : Met l yX1_lowestOf (Cond.code yX1_lowestOf cX1_lowestOf 5 (some .int) :: XALL) ({ frames := 2, cells := 0, slots := 0, locals := 41 } : Room) (va_Pc [.ref (q 1), .int x1] (gPre D cI ((xw cI q) S) sz)) (gQi D (xw cI q) S (fun (r : Int32) (u : St) => r = r1 ∧ u = S) sz) 0 0 (va_A ((xw cI q) S) sz) := by
  unfold fX1_lowestOf at hf
  refine Met.ofW (cc := cX1_lowestOf) (maxL := 5) (ret := (some .int)) (by decide) rfl ?_
  intro p e s m args below meth c s₁ B hml hv
  obtain ⟨rfl, hg⟩ := hv
  have C : Ctx p s m _ meth c cX1_lowestOf 5 RX1 (some .int) := Ctx.of B hml rfl
  obtain ⟨E, hw, hsz⟩ := g_start hg
  subst hsz
  have hl := lv_entry ([.ref (q 1), .int x1]) (n := 5) (Nat.le_of_ble_eq_true rfl)
  rw [lg_entry_eq]
  generalize (lg_sl ([.ref (q 1), .int x1]) ++ List.replicate (5 - (lg_sl ([.ref (q 1), .int x1])).length) Slot.unset).toArray = ls at hl ⊢
  have hl : lv_has ls 5 [(0, .ref (q 1)), (1, .int x1)] := hl
  refine lv_iconst (v := (-1)) C.1 C.2.1 dX1_lowestOf_0 (by decide) ?_
  refine lv_istore_n (lv' := [(2, .int (-1)), (0, .ref (q 1)), (1, .int x1)]) C.1 C.2.1 dX1_lowestOf_1 rfl hl (by decide) rfl (fun ls hl => ?_)
  refine lv_iconst (v := (-1)) C.1 C.2.1 dX1_lowestOf_2 (by decide) ?_
  refine lv_istore_n (lv' := [(3, .int (-1)), (2, .int (-1)), (0, .ref (q 1)), (1, .int x1)]) C.1 C.2.1 dX1_lowestOf_3 rfl hl (by decide) rfl (fun ls hl => ?_)
  refine lv_iconst (v := 0) C.1 C.2.1 dX1_lowestOf_4 (by decide) ?_
  refine lv_istore (lv' := [(4, .int 0), (3, .int (-1)), (2, .int (-1)), (0, .ref (q 1)), (1, .int x1)]) C.1 C.2.1 dX1_lowestOf_5 hl (by decide) rfl (fun ls hl => ?_)
  exact wX1_lowestOf_7 C E S x1 100 (-1) (-1) 0 hf _ _ _ hw (lv_sub hl [3, 4, 2, 1, 0] rfl)
/-! DreamLedger.CoverSearch.coverFrom -/
def fX0_coverFrom_81 (rec : St → Int32 → Int32 → Int32 → Option Int32) (S : St) (x2 : Int32) (x3 : Int32) (x4 : Int32) : Option Int32 :=
  Option.bind (rec S (x2 + 1) x3 x4) fun v_6 =>
  some v_6
set_option maxHeartbeats 4000000 in
set_option maxRecDepth 100000 in
theorem wX0_coverFrom_81 {p : Program} {l : Launch} {e : Env} {s : State} {m : MethodId} {args : Array Value} {below : List Frame} {meth : Method} {c : Code} {D : va_G} {cI : ClassId} {q : Nat → Nat} (C : Ctx p s m args meth c cX0_coverFrom 7 RX0 (some .int)) (E : gE D cI s) {r1 : Int32} {n0 : Nat} (rec : St → Int32 → Int32 → Int32 → Option Int32) (hrec : ∀ (S : St) (x2 : Int32) (x3 : Int32) (x4 : Int32) (sz : Nat) {r1 : Int32}, rec S x2 x3 x4 = some r1 → Met l yX0_coverFrom (Cond.code yX0_coverFrom cX0_coverFrom 7 (some .int) :: XALL) ({ frames := n0 + 0, cells := 0, slots := 0, locals := n0 * 40 + 0 } : Room) (va_Pc [.ref (q 14), .ref (q 15), .int x2, .int x3, .int x4] (gPre D cI ((xw cI q) S) sz)) (gQi D (xw cI q) S (fun (r : Int32) (u : St) => r = r1 ∧ u = S) sz) 0 0 (va_A ((xw cI q) S) sz)) (S : St) : ∀ (x2 : Int32) (x3 : Int32) (x4 : Int32), fX0_coverFrom_81 rec S x2 x3 x4 = some r1 → ∀ (H : Heap) (locs : List Loc) (ls : Array Slot), gW D ((xw cI q) S) ((xw cI q) S) s H locs → lv_has ls 7 [(0, .ref (q 14)), (1, .ref (q 15)), (2, .int x2), (3, .int x3), (4, .int x4)] → W p l e ({ frames := (n0 + 1) + 0, cells := 0, slots := 0, locals := (n0 + 1) * 40 + 0 } : Room) s m args below meth c H locs 0 0 (MQ below (gQi D (xw cI q) S (fun (r : Int32) (u : St) => r = r1 ∧ u = S) s.heap.size) args s 0 0 (va_A ((xw cI q) S) s.heap.size)) (F0 m 81 ls []) := by
  intro x2 x3 x4 hf H locs ls hw hl
  unfold fX0_coverFrom_81 at hf
  refine lv_aload_n C.1 C.2.1 dX0_coverFrom_81 rfl (lv_at hl 0 rfl) ?_
  refine lv_aload_n C.1 C.2.1 dX0_coverFrom_82 rfl (lv_at hl 1 rfl) ?_
  refine lv_iload_n C.1 C.2.1 dX0_coverFrom_83 rfl (lv_at hl 2 rfl) ?_
  refine lv_iconst (v := 1) C.1 C.2.1 dX0_coverFrom_84 (by decide) ?_
  refine lv_iadd C.1 C.2.1 dX0_coverFrom_85 ?_
  refine lv_iload_n C.1 C.2.1 dX0_coverFrom_86 rfl (lv_at hl 3 rfl) ?_
  refine lv_iload C.1 C.2.1 dX0_coverFrom_87 (lv_at hl 4 rfl) ?_
  obtain ⟨v_6, hv_6, hf⟩ := bnd hf
  refine g_cie (wf := (xw cI q)) (S := S) (rest := []) xw_adr hw (g_runS (rm := ({ frames := n0 + 0, cells := 0, slots := 0, locals := n0 * 40 + 0 } : Room)) (As := [.ref (q 14), .ref (q 15), .int (x2 + 1), .int x3, .int x4]) (rest := []) C E hw F_X0_coverFrom (hrec S (x2 + 1) x3 x4 _ hv_6) km_X0_18 rfl hl.1 rfl (Nat.le_of_ble_eq_true rfl) ⟨by (try dsimp only [headSpec]); omega, by (try dsimp only [headSpec]); omega⟩ ⟨(Nat.le_of_ble_eq_true rfl), (Nat.le_of_ble_eq_true rfl)⟩ dX0_coverFrom_89) (fun H locs hw => ?_)
  exact g_iret C hw (Nat.le_of_ble_eq_true rfl) (Nat.le_of_ble_eq_true rfl) ⟨Option.some.inj hf, rfl⟩ dX0_coverFrom_92
def fX0_coverFrom : Nat → St → Int32 → Int32 → Int32 → Option Int32
  | 0, _, _, _, _ => none
  | n + 1, S, x2, x3, x4 =>
    if x4 = 0 then
      some 0
    else
      if x3 ≤ 0 then
        some (-1)
      else
        if x2 < 0 then
          some (-1)
        else
          if 16 ≤ x2 then
            some (-1)
          else
            Option.bind (ld S 11 17 x2) fun v_1 =>
            if (x4 &&& (v_1 ^^^ (-1))) = 0 then
              Option.bind (ld S 10 16 x2) fun v_2 =>
              if (x4 &&& v_2) = 0 then
                fX0_coverFrom_81 (fX0_coverFrom n) S x2 x3 x4
              else
                Option.bind (ld S 10 16 x2) fun v_3 =>
                Option.bind (some ((x4 &&& (v_3 ^^^ (-1))))) fun x5_4 =>
                Option.bind ((fX0_coverFrom n) S (x2 + 1) (x3 - 1) x5_4) fun v_5 =>
                if v_5 = (-1) then
                  fX0_coverFrom_81 (fX0_coverFrom n) S x2 x3 x4
                else
                  some (v_5 ||| ((1 : Int32) <<< (x2 &&& 31)))
            else
              some (-1)
set_option maxHeartbeats 4000000 in
set_option maxRecDepth 100000 in
theorem ctX0_coverFrom (l : Launch) {D : va_G} {cI : ClassId} {q : Nat → Nat} : ∀ (n : Nat) (S : St) (x2 : Int32) (x3 : Int32) (x4 : Int32) (sz : Nat) {r1 : Int32}, fX0_coverFrom n S x2 x3 x4 = some r1 → Met l yX0_coverFrom (Cond.code yX0_coverFrom cX0_coverFrom 7 (some .int) :: XALL) ({ frames := n + 0, cells := 0, slots := 0, locals := n * 40 + 0 } : Room) (va_Pc [.ref (q 14), .ref (q 15), .int x2, .int x3, .int x4] (gPre D cI ((xw cI q) S) sz)) (gQi D (xw cI q) S (fun (r : Int32) (u : St) => r = r1 ∧ u = S) sz) 0 0 (va_A ((xw cI q) S) sz) := by
  intro n
  induction n with
  | zero => intro S x2 x3 x4 sz r1 hf; rw [fX0_coverFrom] at hf; cases hf
  | succ n ih =>
    intro S x2 x3 x4 sz r1 hf
    rw [fX0_coverFrom] at hf
    refine Met.ofW (cc := cX0_coverFrom) (maxL := 7) (ret := (some .int)) (by decide) rfl ?_
    intro p e s m args below meth c s₁ B hml hv
    obtain ⟨rfl, hg⟩ := hv
    have C : Ctx p s m _ meth c cX0_coverFrom 7 RX0 (some .int) := Ctx.of B hml rfl
    obtain ⟨E, hw, hsz⟩ := g_start hg
    subst hsz
    have hl := lv_entry ([.ref (q 14), .ref (q 15), .int x2, .int x3, .int x4]) (n := 7) (Nat.le_of_ble_eq_true rfl)
    rw [lg_entry_eq]
    generalize (lg_sl ([.ref (q 14), .ref (q 15), .int x2, .int x3, .int x4]) ++ List.replicate (7 - (lg_sl ([.ref (q 14), .ref (q 15), .int x2, .int x3, .int x4])).length) Slot.unset).toArray = ls at hl ⊢
    have hl : lv_has ls 7 [(0, .ref (q 14)), (1, .ref (q 15)), (2, .int x2), (3, .int x3), (4, .int x4)] := hl
    have hrec := @ih
    refine lv_iload C.1 C.2.1 dX0_coverFrom_0 (lv_at hl 4 rfl) ?_
    refine lv_if_ne (tgt := 7) C.1 C.2.1 dX0_coverFrom_2 (by decide) (fun hc => ?_) (fun hc => ?_)
    · have hf := iff_ hc hf
      refine lv_iload_n C.1 C.2.1 dX0_coverFrom_7 rfl (lv_at hl 3 rfl) ?_
      refine lv_if_le (tgt := 32) C.1 C.2.1 dX0_coverFrom_8 (by decide) (fun hc => ?_) (fun hc => ?_)
      · have hf := ift hc hf
        refine lv_iconst (v := (-1)) C.1 C.2.1 dX0_coverFrom_32 (by decide) ?_
        exact g_iret C hw (Nat.le_of_ble_eq_true rfl) (Nat.le_of_ble_eq_true rfl) ⟨Option.some.inj hf, rfl⟩ dX0_coverFrom_33
      · have hf := iff_ hc hf
        refine lv_iload_n C.1 C.2.1 dX0_coverFrom_11 rfl (lv_at hl 2 rfl) ?_
        refine lv_if_lt (tgt := 32) C.1 C.2.1 dX0_coverFrom_12 (by decide) (fun hc => ?_) (fun hc => ?_)
        · have hf := ift hc hf
          refine lv_iconst (v := (-1)) C.1 C.2.1 dX0_coverFrom_32 (by decide) ?_
          exact g_iret C hw (Nat.le_of_ble_eq_true rfl) (Nat.le_of_ble_eq_true rfl) ⟨Option.some.inj hf, rfl⟩ dX0_coverFrom_33
        · have hf := iff_ hc hf
          refine lv_iload_n C.1 C.2.1 dX0_coverFrom_15 rfl (lv_at hl 2 rfl) ?_
          refine lv_bipush (v := 16) C.1 C.2.1 dX0_coverFrom_16 (by decide) ?_
          refine lv_icmp_ge (tgt := 32) C.1 C.2.1 dX0_coverFrom_18 (by decide) (fun hc => ?_) (fun hc => ?_)
          · have hf := ift hc hf
            refine lv_iconst (v := (-1)) C.1 C.2.1 dX0_coverFrom_32 (by decide) ?_
            exact g_iret C hw (Nat.le_of_ble_eq_true rfl) (Nat.le_of_ble_eq_true rfl) ⟨Option.some.inj hf, rfl⟩ dX0_coverFrom_33
          · have hf := iff_ hc hf
            refine lv_iload C.1 C.2.1 dX0_coverFrom_21 (lv_at hl 4 rfl) ?_
            refine lv_aload_n C.1 C.2.1 dX0_coverFrom_23 rfl (lv_at hl 1 rfl) ?_
            refine lv_iload_n C.1 C.2.1 dX0_coverFrom_24 rfl (lv_at hl 2 rfl) ?_
            obtain ⟨v_1, hv_1, hf⟩ := bnd hf
            refine g_ald C E hw 15 rfl (ld_some hv_1) dX0_coverFrom_25 ?_
            refine lv_iconst (v := (-1)) C.1 C.2.1 dX0_coverFrom_26 (by decide) ?_
            refine lv_ixor C.1 C.2.1 dX0_coverFrom_27 ?_
            refine lv_iand C.1 C.2.1 dX0_coverFrom_28 ?_
            refine lv_if_eq (tgt := 34) C.1 C.2.1 dX0_coverFrom_29 (by decide) (fun hc => ?_) (fun hc => ?_)
            · have hf := ift hc hf
              refine lv_iload C.1 C.2.1 dX0_coverFrom_34 (lv_at hl 4 rfl) ?_
              refine lv_aload_n C.1 C.2.1 dX0_coverFrom_36 rfl (lv_at hl 0 rfl) ?_
              refine lv_iload_n C.1 C.2.1 dX0_coverFrom_37 rfl (lv_at hl 2 rfl) ?_
              obtain ⟨v_2, hv_2, hf⟩ := bnd hf
              refine g_ald C E hw 14 rfl (ld_some hv_2) dX0_coverFrom_38 ?_
              refine lv_iand C.1 C.2.1 dX0_coverFrom_39 ?_
              refine lv_if_eq (tgt := 81) C.1 C.2.1 dX0_coverFrom_40 (by decide) (fun hc => ?_) (fun hc => ?_)
              · have hf := ift hc hf
                exact wX0_coverFrom_81 C E (fX0_coverFrom n) hrec S x2 x3 x4 hf _ _ _ hw (lv_sub hl [0, 1, 2, 3, 4] rfl)
              · have hf := iff_ hc hf
                refine lv_iload C.1 C.2.1 dX0_coverFrom_43 (lv_at hl 4 rfl) ?_
                refine lv_aload_n C.1 C.2.1 dX0_coverFrom_45 rfl (lv_at hl 0 rfl) ?_
                refine lv_iload_n C.1 C.2.1 dX0_coverFrom_46 rfl (lv_at hl 2 rfl) ?_
                obtain ⟨v_3, hv_3, hf⟩ := bnd hf
                refine g_ald C E hw 14 rfl (ld_some hv_3) dX0_coverFrom_47 ?_
                refine lv_iconst (v := (-1)) C.1 C.2.1 dX0_coverFrom_48 (by decide) ?_
                refine lv_ixor C.1 C.2.1 dX0_coverFrom_49 ?_
                refine lv_iand C.1 C.2.1 dX0_coverFrom_50 ?_
                obtain ⟨x5_4, hx5_4, hf⟩ := bnd hf
                refine topi_b hx5_4 ?_
                refine lv_istore (lv' := [(5, .int x5_4), (0, .ref (q 14)), (1, .ref (q 15)), (2, .int x2), (3, .int x3), (4, .int x4)]) C.1 C.2.1 dX0_coverFrom_51 hl (by decide) rfl (fun ls hl => ?_)
                refine lv_aload_n C.1 C.2.1 dX0_coverFrom_53 rfl (lv_at hl 1 rfl) ?_
                refine lv_aload_n C.1 C.2.1 dX0_coverFrom_54 rfl (lv_at hl 2 rfl) ?_
                refine lv_iload_n C.1 C.2.1 dX0_coverFrom_55 rfl (lv_at hl 3 rfl) ?_
                refine lv_iconst (v := 1) C.1 C.2.1 dX0_coverFrom_56 (by decide) ?_
                refine lv_iadd C.1 C.2.1 dX0_coverFrom_57 ?_
                refine lv_iload_n C.1 C.2.1 dX0_coverFrom_58 rfl (lv_at hl 4 rfl) ?_
                refine lv_iconst (v := 1) C.1 C.2.1 dX0_coverFrom_59 (by decide) ?_
                refine lv_isub C.1 C.2.1 dX0_coverFrom_60 ?_
                refine lv_iload C.1 C.2.1 dX0_coverFrom_61 (lv_at hl 0 rfl) ?_
                obtain ⟨v_5, hv_5, hf⟩ := bnd hf
                refine g_cie (wf := (xw cI q)) (S := S) (rest := []) xw_adr hw (g_runS (rm := ({ frames := n + 0, cells := 0, slots := 0, locals := n * 40 + 0 } : Room)) (As := [.ref (q 14), .ref (q 15), .int (x2 + 1), .int (x3 - 1), .int x5_4]) (rest := []) C E hw F_X0_coverFrom (ih S (x2 + 1) (x3 - 1) x5_4 _ hv_5) km_X0_18 rfl hl.1 rfl (Nat.le_of_ble_eq_true rfl) ⟨by (try dsimp only [headSpec]); omega, by (try dsimp only [headSpec]); omega⟩ ⟨(Nat.le_of_ble_eq_true rfl), (Nat.le_of_ble_eq_true rfl)⟩ dX0_coverFrom_63) (fun H locs hw => ?_)
                refine lv_istore (lv' := [(6, .int v_5), (5, .int x5_4), (0, .ref (q 14)), (1, .ref (q 15)), (2, .int x2), (3, .int x3), (4, .int x4)]) C.1 C.2.1 dX0_coverFrom_66 hl (by decide) rfl (fun ls hl => ?_)
                refine lv_iload C.1 C.2.1 dX0_coverFrom_68 (lv_at hl 0 rfl) ?_
                refine lv_iconst (v := (-1)) C.1 C.2.1 dX0_coverFrom_70 (by decide) ?_
                refine lv_icmp_eq (tgt := 81) C.1 C.2.1 dX0_coverFrom_71 (by decide) (fun hc => ?_) (fun hc => ?_)
                · have hf := ift hc hf
                  exact wX0_coverFrom_81 C E (fX0_coverFrom n) hrec S x2 x3 x4 hf _ _ _ hw (lv_sub hl [2, 3, 4, 5, 6] rfl)
                · have hf := iff_ hc hf
                  refine lv_iload C.1 C.2.1 dX0_coverFrom_74 (lv_at hl 0 rfl) ?_
                  refine lv_iconst (v := 1) C.1 C.2.1 dX0_coverFrom_76 (by decide) ?_
                  refine lv_iload_n C.1 C.2.1 dX0_coverFrom_77 rfl (lv_at hl 4 rfl) ?_
                  refine lv_ishl C.1 C.2.1 dX0_coverFrom_78 ?_
                  refine lv_ior C.1 C.2.1 dX0_coverFrom_79 ?_
                  exact g_iret C hw (Nat.le_of_ble_eq_true rfl) (Nat.le_of_ble_eq_true rfl) ⟨Option.some.inj hf, rfl⟩ dX0_coverFrom_80
            · have hf := iff_ hc hf
              refine lv_iconst (v := (-1)) C.1 C.2.1 dX0_coverFrom_32 (by decide) ?_
              exact g_iret C hw (Nat.le_of_ble_eq_true rfl) (Nat.le_of_ble_eq_true rfl) ⟨Option.some.inj hf, rfl⟩ dX0_coverFrom_33
    · have hf := ift hc hf
      refine lv_iconst (v := 0) C.1 C.2.1 dX0_coverFrom_5 (by decide) ?_
      exact g_iret C hw (Nat.le_of_ble_eq_true rfl) (Nat.le_of_ble_eq_true rfl) ⟨Option.some.inj hf, rfl⟩ dX0_coverFrom_6
/-! DreamLedger.CoverSearch.smallestOf -/
def fX0_smallestOf_36 (x1 : Int32) : Nat → St → Int32 → Option (Int32 × St)
  | 0, _, _ => none
  | n + 1, S, x2 =>
    if 16 < x2 then
      some (0, S)
    else
      Option.bind (fX0_coverFrom 20 S 0 x2 x1) fun v_5 =>
      if v_5 = (-1) then
        Option.bind (some (x2 + 1)) fun x2_6 =>
        fX0_smallestOf_36 x1 n S x2_6
      else
        some (v_5, S)
set_option maxHeartbeats 4000000 in
set_option maxRecDepth 100000 in
theorem wX0_smallestOf_36 {p : Program} {l : Launch} {e : Env} {s : State} {m : MethodId} {args : Array Value} {below : List Frame} {meth : Method} {c : Code} {D : va_G} {cI : ClassId} {q : Nat → Nat} (C : Ctx p s m args meth c cX0_smallestOf 4 RX0 (some .int)) (E : gE D cI s) {S0 : St} {r1 : Int32} {S1 : St} (x1 : Int32) : ∀ (n : Nat) (S : St) (x2 : Int32), fX0_smallestOf_36 x1 n S x2 = some (r1, S1) → ∀ (H : Heap) (locs : List Loc) (ls : Array Slot), gW D ((xw cI q) S0) ((xw cI q) S) s H locs → lv_has ls 4 [(0, .ref (q 3)), (1, .int x1), (2, .int x2)] → W p l e ({ frames := 21, cells := 0, slots := 0, locals := 826 } : Room) s m args below meth c H locs 0 0 (MQ below (gQi D (xw cI q) S0 (fun (r : Int32) (u : St) => r = r1 ∧ u = S1) s.heap.size) args s 0 0 (va_A ((xw cI q) S0) s.heap.size)) (F0 m 36 ls []) := by
  intro n
  induction n with
  | zero => intro S x2 hf; rw [fX0_smallestOf_36] at hf; cases hf
  | succ n ih =>
    intro S x2 hf H locs ls hw hl
    rw [fX0_smallestOf_36] at hf
    refine lv_iload_n C.1 C.2.1 dX0_smallestOf_36 rfl (lv_at hl 2 rfl) ?_
    refine lv_bipush (v := 16) C.1 C.2.1 dX0_smallestOf_37 (by decide) ?_
    refine lv_icmp_gt (tgt := 70) C.1 C.2.1 dX0_smallestOf_39 (by decide) (fun hc => ?_) (fun hc => ?_)
    · have hf := ift hc hf
      refine lv_iconst (v := 0) C.1 C.2.1 dX0_smallestOf_70 (by decide) ?_
      exact g_iret C hw (Nat.le_of_ble_eq_true rfl) (Nat.le_of_ble_eq_true rfl) ⟨congrArg Prod.fst (Option.some.inj hf), congrArg Prod.snd (Option.some.inj hf)⟩ dX0_smallestOf_71
    · have hf := iff_ hc hf
      refine lv_aload_n C.1 C.2.1 dX0_smallestOf_42 rfl (lv_at hl 0 rfl) ?_
      refine g_get C E hw inW0 3 rfl rfl 0 (by decide) kf_X0_9 rfl dX0_smallestOf_43 ?_
      refine lv_aload_n C.1 C.2.1 dX0_smallestOf_46 rfl (lv_at hl 0 rfl) ?_
      refine g_get C E hw inW0 3 rfl rfl 1 (by decide) kf_X0_15 rfl dX0_smallestOf_47 ?_
      refine lv_iconst (v := 0) C.1 C.2.1 dX0_smallestOf_50 (by decide) ?_
      refine lv_iload_n C.1 C.2.1 dX0_smallestOf_51 rfl (lv_at hl 2 rfl) ?_
      refine lv_iload_n C.1 C.2.1 dX0_smallestOf_52 rfl (lv_at hl 1 rfl) ?_
      obtain ⟨v_5, hv_5, hf⟩ := bnd hf
      refine g_cie (wf := (xw cI q)) (S := S) (rest := []) xw_adr hw (g_runS (rm := ({ frames := 20 + 0, cells := 0, slots := 0, locals := 20 * 40 + 0 } : Room)) (As := [.ref (q 14), .ref (q 15), .int 0, .int x2, .int x1]) (rest := []) C E hw F_X0_coverFrom (ctX0_coverFrom l (cI := cI) (D := D) (q := q) 20 S 0 x2 x1 _ hv_5) km_X0_18 rfl hl.1 rfl (Nat.le_of_ble_eq_true rfl) ⟨(Nat.le_of_ble_eq_true rfl), (Nat.le_of_ble_eq_true rfl)⟩ ⟨(Nat.le_of_ble_eq_true rfl), (Nat.le_of_ble_eq_true rfl)⟩ dX0_smallestOf_53) (fun H locs hw => ?_)
      refine lv_istore_n (lv' := [(3, .int v_5), (0, .ref (q 3)), (1, .int x1), (2, .int x2)]) C.1 C.2.1 dX0_smallestOf_56 rfl hl (by decide) rfl (fun ls hl => ?_)
      refine lv_iload_n C.1 C.2.1 dX0_smallestOf_57 rfl (lv_at hl 0 rfl) ?_
      refine lv_iconst (v := (-1)) C.1 C.2.1 dX0_smallestOf_58 (by decide) ?_
      refine lv_icmp_eq (tgt := 64) C.1 C.2.1 dX0_smallestOf_59 (by decide) (fun hc => ?_) (fun hc => ?_)
      · have hf := ift hc hf
        obtain ⟨x2_6, hx2_6, hf⟩ := bnd hf
        refine lv_iinc (v := x2_6) (lv' := [(2, .int x2_6), (3, .int v_5), (0, .ref (q 3)), (1, .int x1)]) C.1 C.2.1 dX0_smallestOf_64 hl (k := 3) rfl (inc1 hx2_6) (by decide) rfl (fun ls hl => ?_)
        refine lv_goto (tgt := 36) C.1 C.2.1 dX0_smallestOf_67 (by decide) ?_
        exact ih S x2_6 hf _ _ _ hw (lv_sub hl [2, 3, 0] rfl)
      · have hf := iff_ hc hf
        refine lv_iload_n C.1 C.2.1 dX0_smallestOf_62 rfl (lv_at hl 0 rfl) ?_
        exact g_iret C hw (Nat.le_of_ble_eq_true rfl) (Nat.le_of_ble_eq_true rfl) ⟨congrArg Prod.fst (Option.some.inj hf), congrArg Prod.snd (Option.some.inj hf)⟩ dX0_smallestOf_63
def fX0_smallestOf_3 (x1 : Int32) : Nat → St → Int32 → Option (Int32 × St)
  | 0, _, _ => none
  | n + 1, S, x2 =>
    if x2 < 0 then
      fX0_smallestOf_36 x1 100 S 0
    else
      Option.bind (ld S 11 17 (x2 + 1)) fun v_1 =>
      Option.bind (ld S 10 16 x2) fun v_2 =>
      Option.bind (sto S 11 17 x2 (v_1 ||| v_2)) fun S_3 =>
      Option.bind (some (x2 + (-1))) fun x2_4 =>
      fX0_smallestOf_3 x1 n S_3 x2_4
set_option maxHeartbeats 4000000 in
set_option maxRecDepth 100000 in
theorem wX0_smallestOf_3 {p : Program} {l : Launch} {e : Env} {s : State} {m : MethodId} {args : Array Value} {below : List Frame} {meth : Method} {c : Code} {D : va_G} {cI : ClassId} {q : Nat → Nat} (C : Ctx p s m args meth c cX0_smallestOf 4 RX0 (some .int)) (E : gE D cI s) {S0 : St} {r1 : Int32} {S1 : St} (x1 : Int32) : ∀ (n : Nat) (S : St) (x2 : Int32), fX0_smallestOf_3 x1 n S x2 = some (r1, S1) → ∀ (H : Heap) (locs : List Loc) (ls : Array Slot), gW D ((xw cI q) S0) ((xw cI q) S) s H locs → lv_has ls 4 [(0, .ref (q 3)), (1, .int x1), (2, .int x2)] → W p l e ({ frames := 21, cells := 0, slots := 0, locals := 826 } : Room) s m args below meth c H locs 0 0 (MQ below (gQi D (xw cI q) S0 (fun (r : Int32) (u : St) => r = r1 ∧ u = S1) s.heap.size) args s 0 0 (va_A ((xw cI q) S0) s.heap.size)) (F0 m 3 ls []) := by
  intro n
  induction n with
  | zero => intro S x2 hf; rw [fX0_smallestOf_3] at hf; cases hf
  | succ n ih =>
    intro S x2 hf H locs ls hw hl
    rw [fX0_smallestOf_3] at hf
    refine lv_iload_n C.1 C.2.1 dX0_smallestOf_3 rfl (lv_at hl 2 rfl) ?_
    refine lv_if_lt (tgt := 34) C.1 C.2.1 dX0_smallestOf_4 (by decide) (fun hc => ?_) (fun hc => ?_)
    · have hf := ift hc hf
      refine lv_iconst (v := 0) C.1 C.2.1 dX0_smallestOf_34 (by decide) ?_
      refine lv_istore_n (lv' := [(2, .int 0), (0, .ref (q 3)), (1, .int x1)]) C.1 C.2.1 dX0_smallestOf_35 rfl hl (by decide) rfl (fun ls hl => ?_)
      exact wX0_smallestOf_36 C E x1 100 S 0 hf _ _ _ hw (lv_sub hl [1, 2, 0] rfl)
    · have hf := iff_ hc hf
      refine lv_aload_n C.1 C.2.1 dX0_smallestOf_7 rfl (lv_at hl 0 rfl) ?_
      refine g_get C E hw inW0 3 rfl rfl 1 (by decide) kf_X0_15 rfl dX0_smallestOf_8 ?_
      refine lv_iload_n C.1 C.2.1 dX0_smallestOf_11 rfl (lv_at hl 2 rfl) ?_
      refine lv_aload_n C.1 C.2.1 dX0_smallestOf_12 rfl (lv_at hl 0 rfl) ?_
      refine g_get C E hw inW0 3 rfl rfl 1 (by decide) kf_X0_15 rfl dX0_smallestOf_13 ?_
      refine lv_iload_n C.1 C.2.1 dX0_smallestOf_16 rfl (lv_at hl 2 rfl) ?_
      refine lv_iconst (v := 1) C.1 C.2.1 dX0_smallestOf_17 (by decide) ?_
      refine lv_iadd C.1 C.2.1 dX0_smallestOf_18 ?_
      obtain ⟨v_1, hv_1, hf⟩ := bnd hf
      refine g_ald C E hw 15 rfl (ld_some hv_1) dX0_smallestOf_19 ?_
      refine lv_aload_n C.1 C.2.1 dX0_smallestOf_20 rfl (lv_at hl 0 rfl) ?_
      refine g_get C E hw inW0 3 rfl rfl 0 (by decide) kf_X0_9 rfl dX0_smallestOf_21 ?_
      refine lv_iload_n C.1 C.2.1 dX0_smallestOf_24 rfl (lv_at hl 2 rfl) ?_
      obtain ⟨v_2, hv_2, hf⟩ := bnd hf
      refine g_ald C E hw 14 rfl (ld_some hv_2) dX0_smallestOf_25 ?_
      refine lv_ior C.1 C.2.1 dX0_smallestOf_26 ?_
      obtain ⟨S_3, hS_3, hf⟩ := bnd hf
      refine g_ast C E hw 15 rfl (sto_some hS_3).1 (ws' := (xw cI q) S_3) (by rw [← (sto_some hS_3).2]; rfl) dX0_smallestOf_27 (fun H locs hw => ?_)
      obtain ⟨x2_4, hx2_4, hf⟩ := bnd hf
      refine lv_iinc (v := x2_4) (lv' := [(2, .int x2_4), (0, .ref (q 3)), (1, .int x1)]) C.1 C.2.1 dX0_smallestOf_28 hl (k := 2) rfl (incm1 hx2_4) (by decide) rfl (fun ls hl => ?_)
      refine lv_goto (tgt := 3) C.1 C.2.1 dX0_smallestOf_31 (by decide) ?_
      exact ih S_3 x2_4 hf _ _ _ hw (lv_sub hl [1, 2, 0] rfl)
def fX0_smallestOf (S : St) (x1 : Int32) : Option (Int32 × St) :=
  fX0_smallestOf_3 x1 100 S 15
set_option maxHeartbeats 4000000 in
set_option maxRecDepth 100000 in
theorem ctX0_smallestOf (l : Launch) {D : va_G} {cI : ClassId} {q : Nat → Nat} (S : St) (x1 : Int32) (sz : Nat) {r1 : Int32} {S1 : St} (hf : fX0_smallestOf S x1 = some (r1, S1)) : Met l yX0_smallestOf (Cond.code yX0_smallestOf cX0_smallestOf 4 (some .int) :: XALL) ({ frames := 21, cells := 0, slots := 0, locals := 826 } : Room) (va_Pc [.ref (q 3), .int x1] (gPre D cI ((xw cI q) S) sz)) (gQi D (xw cI q) S (fun (r : Int32) (u : St) => r = r1 ∧ u = S1) sz) 0 0 (va_A ((xw cI q) S) sz) := by
  unfold fX0_smallestOf at hf
  refine Met.ofW (cc := cX0_smallestOf) (maxL := 4) (ret := (some .int)) (by decide) rfl ?_
  intro p e s m args below meth c s₁ B hml hv
  obtain ⟨rfl, hg⟩ := hv
  have C : Ctx p s m _ meth c cX0_smallestOf 4 RX0 (some .int) := Ctx.of B hml rfl
  obtain ⟨E, hw, hsz⟩ := g_start hg
  subst hsz
  have hl := lv_entry ([.ref (q 3), .int x1]) (n := 4) (Nat.le_of_ble_eq_true rfl)
  rw [lg_entry_eq]
  generalize (lg_sl ([.ref (q 3), .int x1]) ++ List.replicate (4 - (lg_sl ([.ref (q 3), .int x1])).length) Slot.unset).toArray = ls at hl ⊢
  have hl : lv_has ls 4 [(0, .ref (q 3)), (1, .int x1)] := hl
  refine lv_bipush (v := 15) C.1 C.2.1 dX0_smallestOf_0 (by decide) ?_
  refine lv_istore_n (lv' := [(2, .int 15), (0, .ref (q 3)), (1, .int x1)]) C.1 C.2.1 dX0_smallestOf_2 rfl hl (by decide) rfl (fun ls hl => ?_)
  exact wX0_smallestOf_3 C E x1 100 S 15 hf _ _ _ hw (lv_sub hl [1, 2, 0] rfl)
