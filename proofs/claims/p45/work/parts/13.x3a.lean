/-! DreamLedger.addTag -/
def fX3_addTag (S : St) : Option (Int32 × St) :=
  if (S 14 0) < 16 then
    Option.bind (fX1_grow S) fun u_3 => pr u_3 fun v_1 S_2 =>
    some (v_1, S_2)
  else
    none
set_option maxHeartbeats 4000000 in
set_option maxRecDepth 100000 in
theorem ctX3_addTag (l : Launch) {D : va_G} {cI : ClassId} {q : Nat → Nat} (S : St) (sz : Nat) {r1 : Int32} {S1 : St} (hf : fX3_addTag S = some (r1, S1)) : Met l yX3_addTag (Cond.code yX3_addTag cX3_addTag 1 (some .int) :: XALL) ({ frames := 3, cells := 0, slots := 0, locals := 68 } : Room) (va_Pc [.ref (q 0)] (gPre D cI ((xw cI q) S) sz)) (gQi D (xw cI q) S (fun (r : Int32) (u : St) => r = r1 ∧ u = S1) sz) 0 0 (va_A ((xw cI q) S) sz) := by
  unfold fX3_addTag at hf
  refine Met.ofW (cc := cX3_addTag) (maxL := 1) (ret := (some .int)) (by decide) rfl ?_
  intro p e s m args below meth c s₁ B hml hv
  obtain ⟨rfl, hg⟩ := hv
  have C : Ctx p s m _ meth c cX3_addTag 1 RX3 (some .int) := Ctx.of B hml rfl
  obtain ⟨E, hw, hsz⟩ := g_start hg
  subst hsz
  have hl := lv_entry ([.ref (q 0)]) (n := 1) (Nat.le_of_ble_eq_true rfl)
  rw [lg_entry_eq]
  generalize (lg_sl ([.ref (q 0)]) ++ List.replicate (1 - (lg_sl ([.ref (q 0)])).length) Slot.unset).toArray = ls at hl ⊢
  have hl : lv_has ls 1 [(0, .ref (q 0))] := hl
  refine lv_aload_n C.1 C.2.1 dX3_addTag_0 rfl (lv_at hl 0 rfl) ?_
  refine g_get C E hw inW3 0 rfl rfl 0 (by decide) kf_X3_10 rfl dX3_addTag_1 ?_
  refine g_getN C E hw inW1 1 rfl rfl 2 (by decide) kfN_X3_43 rfl dX3_addTag_4 ?_
  refine lv_bipush (v := 16) C.1 C.2.1 dX3_addTag_7 (by decide) ?_
  refine lv_icmp_lt (tgt := 22) C.1 C.2.1 dX3_addTag_9 (by decide) (fun hc => ?_) (fun hc => ?_)
  · have hf := ift hc hf
    refine lv_aload_n C.1 C.2.1 dX3_addTag_22 rfl (lv_at hl 0 rfl) ?_
    refine g_get C E hw inW3 0 rfl rfl 0 (by decide) kf_X3_10 rfl dX3_addTag_23 ?_
    obtain ⟨⟨v_1, S_2⟩, hu_3, hf⟩ := bnd hf
    have hf := pr_r hf
    refine g_cie (wf := (xw cI q)) (S := S) (rest := []) xw_adr hw (g_runVN (rm := ({ frames := 2, cells := 0, slots := 0, locals := 47 } : Room)) (As := []) (rest := []) C E hw F_X1_grow (ctX1_grow l (cI := cI) (D := D) (q := q) S  _ hu_3) kmN_X3_54 1 rfl rfl rfl hl.1 rfl (Nat.le_of_ble_eq_true rfl) ⟨(Nat.le_of_ble_eq_true rfl), (Nat.le_of_ble_eq_true rfl)⟩ ⟨(Nat.le_of_ble_eq_true rfl), (Nat.le_of_ble_eq_true rfl)⟩ dX3_addTag_26) (fun H locs hw => ?_)
    exact g_iret C hw (Nat.le_of_ble_eq_true rfl) (Nat.le_of_ble_eq_true rfl) ⟨congrArg Prod.fst (Option.some.inj hf), congrArg Prod.snd (Option.some.inj hf)⟩ dX3_addTag_29
  · have hf := iff_ hc hf
    cases hf
/-! DreamLedger.requireTag -/
def fX3_requireTag (S : St) (x1 : Int32) : Option Unit :=
  if x1 < 0 then
    none
  else
    if x1 < (S 14 0) then
      some ()
    else
      none
set_option maxHeartbeats 4000000 in
set_option maxRecDepth 100000 in
theorem ctX3_requireTag (l : Launch) {D : va_G} {cI : ClassId} {q : Nat → Nat} (S : St) (x1 : Int32) (sz : Nat) {r1 : Unit} (hf : fX3_requireTag S x1 = some r1) : Met l yX3_requireTag (Cond.code yX3_requireTag cX3_requireTag 2 none :: XALL) ({ frames := 0, cells := 0, slots := 0, locals := 0 } : Room) (va_Pc [.ref (q 0), .int x1] (gPre D cI ((xw cI q) S) sz)) (gQv D (xw cI q) S (fun (u : St) => u = S) sz) 0 0 (va_A ((xw cI q) S) sz) := by
  unfold fX3_requireTag at hf
  refine Met.ofW (cc := cX3_requireTag) (maxL := 2) (ret := none) (by decide) rfl ?_
  intro p e s m args below meth c s₁ B hml hv
  obtain ⟨rfl, hg⟩ := hv
  have C : Ctx p s m _ meth c cX3_requireTag 2 RX3 none := Ctx.of B hml rfl
  obtain ⟨E, hw, hsz⟩ := g_start hg
  subst hsz
  have hl := lv_entry ([.ref (q 0), .int x1]) (n := 2) (Nat.le_of_ble_eq_true rfl)
  rw [lg_entry_eq]
  generalize (lg_sl ([.ref (q 0), .int x1]) ++ List.replicate (2 - (lg_sl ([.ref (q 0), .int x1])).length) Slot.unset).toArray = ls at hl ⊢
  have hl : lv_has ls 2 [(0, .ref (q 0)), (1, .int x1)] := hl
  refine lv_iload_n C.1 C.2.1 dX3_requireTag_0 rfl (lv_at hl 1 rfl) ?_
  refine lv_if_lt (tgt := 15) C.1 C.2.1 dX3_requireTag_1 (by decide) (fun hc => ?_) (fun hc => ?_)
  · have hf := ift hc hf
    cases hf
  · have hf := iff_ hc hf
    refine lv_iload_n C.1 C.2.1 dX3_requireTag_4 rfl (lv_at hl 1 rfl) ?_
    refine lv_aload_n C.1 C.2.1 dX3_requireTag_5 rfl (lv_at hl 0 rfl) ?_
    refine g_get C E hw inW3 0 rfl rfl 0 (by decide) kf_X3_10 rfl dX3_requireTag_6 ?_
    refine g_getN C E hw inW1 1 rfl rfl 2 (by decide) kfN_X3_43 rfl dX3_requireTag_9 ?_
    refine lv_icmp_lt (tgt := 25) C.1 C.2.1 dX3_requireTag_12 (by decide) (fun hc => ?_) (fun hc => ?_)
    · have hf := ift hc hf
      exact g_vret C hw (Nat.le_of_ble_eq_true rfl) (Nat.le_of_ble_eq_true rfl) rfl dX3_requireTag_25
    · have hf := iff_ hc hf
      cases hf
/-! DreamLedger.requirePlaceUnder -/
def fX3_requirePlaceUnder (S : St) (x1 : Int32) (x2 : Int32) : Option Unit :=
  Option.bind (fX3_requireTag S x1) fun z_1 =>
  Option.bind (fX3_requireTag S x2) fun z_2 =>
  if x1 = x2 then
    none
  else
    Option.bind (fX1_canHang S x1 x2) fun v_3 =>
    if v_3 = 0 then
      none
    else
      some ()
set_option maxHeartbeats 4000000 in
set_option maxRecDepth 100000 in
theorem ctX3_requirePlaceUnder (l : Launch) {D : va_G} {cI : ClassId} {q : Nat → Nat} (S : St) (x1 : Int32) (x2 : Int32) (sz : Nat) {r1 : Unit} (hf : fX3_requirePlaceUnder S x1 x2 = some r1) : Met l yX3_requirePlaceUnder (Cond.code yX3_requirePlaceUnder cX3_requirePlaceUnder 3 none :: XALL) ({ frames := 3, cells := 0, slots := 0, locals := 65 } : Room) (va_Pc [.ref (q 0), .int x1, .int x2] (gPre D cI ((xw cI q) S) sz)) (gQv D (xw cI q) S (fun (u : St) => u = S) sz) 0 0 (va_A ((xw cI q) S) sz) := by
  unfold fX3_requirePlaceUnder at hf
  refine Met.ofW (cc := cX3_requirePlaceUnder) (maxL := 3) (ret := none) (by decide) rfl ?_
  intro p e s m args below meth c s₁ B hml hv
  obtain ⟨rfl, hg⟩ := hv
  have C : Ctx p s m _ meth c cX3_requirePlaceUnder 3 RX3 none := Ctx.of B hml rfl
  obtain ⟨E, hw, hsz⟩ := g_start hg
  subst hsz
  have hl := lv_entry ([.ref (q 0), .int x1, .int x2]) (n := 3) (Nat.le_of_ble_eq_true rfl)
  rw [lg_entry_eq]
  generalize (lg_sl ([.ref (q 0), .int x1, .int x2]) ++ List.replicate (3 - (lg_sl ([.ref (q 0), .int x1, .int x2])).length) Slot.unset).toArray = ls at hl ⊢
  have hl : lv_has ls 3 [(0, .ref (q 0)), (1, .int x1), (2, .int x2)] := hl
  refine lv_aload_n C.1 C.2.1 dX3_requirePlaceUnder_0 rfl (lv_at hl 0 rfl) ?_
  refine lv_iload_n C.1 C.2.1 dX3_requirePlaceUnder_1 rfl (lv_at hl 1 rfl) ?_
  obtain ⟨z_1, hz_1, hf⟩ := bnd hf
  refine g_cve (wf := (xw cI q)) (S := S) (rest := []) xw_adr hw (g_runV (rm := ({ frames := 0, cells := 0, slots := 0, locals := 0 } : Room)) (As := [.int x1]) (rest := []) C E hw F_X3_requireTag (ctX3_requireTag l (cI := cI) (D := D) (q := q) S x1 _ hz_1) km_X3_76 0 rfl rfl rfl hl.1 rfl (Nat.le_of_ble_eq_true rfl) ⟨(Nat.le_of_ble_eq_true rfl), (Nat.le_of_ble_eq_true rfl)⟩ ⟨(Nat.le_of_ble_eq_true rfl), (Nat.le_of_ble_eq_true rfl)⟩ dX3_requirePlaceUnder_2) (fun H locs hw => ?_)
  refine lv_aload_n C.1 C.2.1 dX3_requirePlaceUnder_5 rfl (lv_at hl 0 rfl) ?_
  refine lv_iload_n C.1 C.2.1 dX3_requirePlaceUnder_6 rfl (lv_at hl 2 rfl) ?_
  obtain ⟨z_2, hz_2, hf⟩ := bnd hf
  refine g_cve (wf := (xw cI q)) (S := S) (rest := []) xw_adr hw (g_runV (rm := ({ frames := 0, cells := 0, slots := 0, locals := 0 } : Room)) (As := [.int x2]) (rest := []) C E hw F_X3_requireTag (ctX3_requireTag l (cI := cI) (D := D) (q := q) S x2 _ hz_2) km_X3_76 0 rfl rfl rfl hl.1 rfl (Nat.le_of_ble_eq_true rfl) ⟨(Nat.le_of_ble_eq_true rfl), (Nat.le_of_ble_eq_true rfl)⟩ ⟨(Nat.le_of_ble_eq_true rfl), (Nat.le_of_ble_eq_true rfl)⟩ dX3_requirePlaceUnder_7) (fun H locs hw => ?_)
  refine lv_iload_n C.1 C.2.1 dX3_requirePlaceUnder_10 rfl (lv_at hl 1 rfl) ?_
  refine lv_iload_n C.1 C.2.1 dX3_requirePlaceUnder_11 rfl (lv_at hl 2 rfl) ?_
  refine lv_icmp_ne (tgt := 25) C.1 C.2.1 dX3_requirePlaceUnder_12 (by decide) (fun hc => ?_) (fun hc => ?_)
  · have hf := iff_ hc hf
    refine lv_aload_n C.1 C.2.1 dX3_requirePlaceUnder_25 rfl (lv_at hl 0 rfl) ?_
    refine g_get C E hw inW3 0 rfl rfl 0 (by decide) kf_X3_10 rfl dX3_requirePlaceUnder_26 ?_
    refine lv_iload_n C.1 C.2.1 dX3_requirePlaceUnder_29 rfl (lv_at hl 1 rfl) ?_
    refine lv_iload_n C.1 C.2.1 dX3_requirePlaceUnder_30 rfl (lv_at hl 2 rfl) ?_
    obtain ⟨v_3, hv_3, hf⟩ := bnd hf
    refine g_cie (wf := (xw cI q)) (S := S) (rest := []) xw_adr hw (g_runVN (rm := ({ frames := 2, cells := 0, slots := 0, locals := 43 } : Room)) (As := [.int x1, .int x2]) (rest := []) C E hw F_X1_canHang (ctX1_canHang l (cI := cI) (D := D) (q := q) S x1 x2 _ hv_3) kmN_X3_174 1 rfl rfl rfl hl.1 rfl (Nat.le_of_ble_eq_true rfl) ⟨(Nat.le_of_ble_eq_true rfl), (Nat.le_of_ble_eq_true rfl)⟩ ⟨(Nat.le_of_ble_eq_true rfl), (Nat.le_of_ble_eq_true rfl)⟩ dX3_requirePlaceUnder_31) (fun H locs hw => ?_)
    refine lv_if_ne (tgt := 47) C.1 C.2.1 dX3_requirePlaceUnder_34 (by decide) (fun hc => ?_) (fun hc => ?_)
    · have hf := iff_ hc hf
      exact g_vret C hw (Nat.le_of_ble_eq_true rfl) (Nat.le_of_ble_eq_true rfl) rfl dX3_requirePlaceUnder_47
    · have hf := ift hc hf
      cases hf
  · have hf := ift hc hf
    cases hf
/-! DreamLedger.dreamsHaving -/
def fX3_dreamsHaving_4 (S : St) (x1 : Int32) : Nat → Int32 → Int32 → Option Int32
  | 0, _, _ => none
  | n + 1, x2, x3 =>
    if (S 12 0) ≤ x3 then
      some x2
    else
      Option.bind (ld S 1 24 x3) fun v_1 =>
      Option.bind (fX3_isIn x1 v_1) fun v_2 =>
      if v_2 = 0 then
        Option.bind (some (x3 + 1)) fun x3_3 =>
        fX3_dreamsHaving_4 S x1 n x2 x3_3
      else
        Option.bind (some ((x2 ||| ((1 : Int32) <<< (x3 &&& 31))))) fun x2_4 =>
        Option.bind (some (x3 + 1)) fun x3_5 =>
        fX3_dreamsHaving_4 S x1 n x2_4 x3_5
set_option maxHeartbeats 4000000 in
set_option maxRecDepth 100000 in
theorem wX3_dreamsHaving_4 {p : Program} {l : Launch} {e : Env} {s : State} {m : MethodId} {args : Array Value} {below : List Frame} {meth : Method} {c : Code} {D : va_G} {cI : ClassId} {q : Nat → Nat} (C : Ctx p s m args meth c cX3_dreamsHaving 4 RX3 (some .int)) (E : gE D cI s) {r1 : Int32} (S : St) (x1 : Int32) : ∀ (n : Nat) (x2 : Int32) (x3 : Int32), fX3_dreamsHaving_4 S x1 n x2 x3 = some r1 → ∀ (H : Heap) (locs : List Loc) (ls : Array Slot), gW D ((xw cI q) S) ((xw cI q) S) s H locs → lv_has ls 4 [(0, .ref (q 0)), (1, .int x1), (2, .int x2), (3, .int x3)] → W p l e ({ frames := 1, cells := 0, slots := 0, locals := 21 } : Room) s m args below meth c H locs 0 0 (MQ below (gQi D (xw cI q) S (fun (r : Int32) (u : St) => r = r1 ∧ u = S) s.heap.size) args s 0 0 (va_A ((xw cI q) S) s.heap.size)) (F0 m 4 ls []) := by
  intro n
  induction n with
  | zero => intro x2 x3 hf; rw [fX3_dreamsHaving_4] at hf; cases hf
  | succ n ih =>
    intro x2 x3 hf H locs ls hw hl
    rw [fX3_dreamsHaving_4] at hf
    refine lv_iload_n C.1 C.2.1 dX3_dreamsHaving_4 rfl (lv_at hl 3 rfl) ?_
    refine lv_aload_n C.1 C.2.1 dX3_dreamsHaving_5 rfl (lv_at hl 0 rfl) ?_
    refine g_get C E hw inW3 0 rfl rfl 7 (by decide) kf_X3_84 rfl dX3_dreamsHaving_6 ?_
    refine lv_icmp_ge (tgt := 37) C.1 C.2.1 dX3_dreamsHaving_9 (by decide) (fun hc => ?_) (fun hc => ?_)
    · have hf := ift hc hf
      refine lv_iload_n C.1 C.2.1 dX3_dreamsHaving_37 rfl (lv_at hl 2 rfl) ?_
      exact g_iret C hw (Nat.le_of_ble_eq_true rfl) (Nat.le_of_ble_eq_true rfl) ⟨Option.some.inj hf, rfl⟩ dX3_dreamsHaving_38
    · have hf := iff_ hc hf
      refine lv_iload_n C.1 C.2.1 dX3_dreamsHaving_12 rfl (lv_at hl 1 rfl) ?_
      refine lv_aload_n C.1 C.2.1 dX3_dreamsHaving_13 rfl (lv_at hl 0 rfl) ?_
      refine g_get C E hw inW3 0 rfl rfl 4 (by decide) kf_X3_34 rfl dX3_dreamsHaving_14 ?_
      refine lv_iload_n C.1 C.2.1 dX3_dreamsHaving_17 rfl (lv_at hl 3 rfl) ?_
      obtain ⟨v_1, hv_1, hf⟩ := bnd hf
      refine g_ald C E hw 5 rfl (ld_some hv_1) dX3_dreamsHaving_18 ?_
      obtain ⟨v_2, hv_2, hf⟩ := bnd hf
      refine g_ci0e (rest := []) hw (g_run0 (rm := ({ frames := 0, cells := 0, slots := 0, locals := 0 } : Room)) (As := [.int x1, .int v_1]) (rest := []) C F_X3_isIn (ctX3_isIn l x1 v_1 hv_2) km_X3_98 rfl hl.1 rfl (Nat.le_of_ble_eq_true rfl) ⟨(Nat.le_of_ble_eq_true rfl), (Nat.le_of_ble_eq_true rfl)⟩ ⟨(Nat.le_of_ble_eq_true rfl), (Nat.le_of_ble_eq_true rfl)⟩ dX3_dreamsHaving_19) (fun H locs hw => ?_)
      refine lv_if_eq (tgt := 31) C.1 C.2.1 dX3_dreamsHaving_22 (by decide) (fun hc => ?_) (fun hc => ?_)
      · have hf := ift hc hf
        obtain ⟨x3_3, hx3_3, hf⟩ := bnd hf
        refine lv_iinc (v := x3_3) (lv' := [(3, .int x3_3), (0, .ref (q 0)), (1, .int x1), (2, .int x2)]) C.1 C.2.1 dX3_dreamsHaving_31 hl (k := 3) rfl (inc1 hx3_3) (by decide) rfl (fun ls hl => ?_)
        refine lv_goto (tgt := 4) C.1 C.2.1 dX3_dreamsHaving_34 (by decide) ?_
        exact ih x2 x3_3 hf _ _ _ hw (lv_sub hl [1, 2, 3, 0] rfl)
      · have hf := iff_ hc hf
        refine lv_iload_n C.1 C.2.1 dX3_dreamsHaving_25 rfl (lv_at hl 2 rfl) ?_
        refine lv_iconst (v := 1) C.1 C.2.1 dX3_dreamsHaving_26 (by decide) ?_
        refine lv_iload_n C.1 C.2.1 dX3_dreamsHaving_27 rfl (lv_at hl 3 rfl) ?_
        refine lv_ishl C.1 C.2.1 dX3_dreamsHaving_28 ?_
        refine lv_ior C.1 C.2.1 dX3_dreamsHaving_29 ?_
        obtain ⟨x2_4, hx2_4, hf⟩ := bnd hf
        refine topi_b hx2_4 ?_
        refine lv_istore_n (lv' := [(2, .int x2_4), (0, .ref (q 0)), (1, .int x1), (3, .int x3)]) C.1 C.2.1 dX3_dreamsHaving_30 rfl hl (by decide) rfl (fun ls hl => ?_)
        obtain ⟨x3_5, hx3_5, hf⟩ := bnd hf
        refine lv_iinc (v := x3_5) (lv' := [(3, .int x3_5), (2, .int x2_4), (0, .ref (q 0)), (1, .int x1)]) C.1 C.2.1 dX3_dreamsHaving_31 hl (k := 3) rfl (inc1 hx3_5) (by decide) rfl (fun ls hl => ?_)
        refine lv_goto (tgt := 4) C.1 C.2.1 dX3_dreamsHaving_34 (by decide) ?_
        exact ih x2_4 x3_5 hf _ _ _ hw (lv_sub hl [2, 3, 1, 0] rfl)
def fX3_dreamsHaving (S : St) (x1 : Int32) : Option Int32 :=
  fX3_dreamsHaving_4 S x1 100 0 0
set_option maxHeartbeats 4000000 in
set_option maxRecDepth 100000 in
theorem ctX3_dreamsHaving (l : Launch) {D : va_G} {cI : ClassId} {q : Nat → Nat} (S : St) (x1 : Int32) (sz : Nat) {r1 : Int32} (hf : fX3_dreamsHaving S x1 = some r1) : Met l yX3_dreamsHaving (Cond.code yX3_dreamsHaving cX3_dreamsHaving 4 (some .int) :: XALL) ({ frames := 1, cells := 0, slots := 0, locals := 21 } : Room) (va_Pc [.ref (q 0), .int x1] (gPre D cI ((xw cI q) S) sz)) (gQi D (xw cI q) S (fun (r : Int32) (u : St) => r = r1 ∧ u = S) sz) 0 0 (va_A ((xw cI q) S) sz) := by
  unfold fX3_dreamsHaving at hf
  refine Met.ofW (cc := cX3_dreamsHaving) (maxL := 4) (ret := (some .int)) (by decide) rfl ?_
  intro p e s m args below meth c s₁ B hml hv
  obtain ⟨rfl, hg⟩ := hv
  have C : Ctx p s m _ meth c cX3_dreamsHaving 4 RX3 (some .int) := Ctx.of B hml rfl
  obtain ⟨E, hw, hsz⟩ := g_start hg
  subst hsz
  have hl := lv_entry ([.ref (q 0), .int x1]) (n := 4) (Nat.le_of_ble_eq_true rfl)
  rw [lg_entry_eq]
  generalize (lg_sl ([.ref (q 0), .int x1]) ++ List.replicate (4 - (lg_sl ([.ref (q 0), .int x1])).length) Slot.unset).toArray = ls at hl ⊢
  have hl : lv_has ls 4 [(0, .ref (q 0)), (1, .int x1)] := hl
  refine lv_iconst (v := 0) C.1 C.2.1 dX3_dreamsHaving_0 (by decide) ?_
  refine lv_istore_n (lv' := [(2, .int 0), (0, .ref (q 0)), (1, .int x1)]) C.1 C.2.1 dX3_dreamsHaving_1 rfl hl (by decide) rfl (fun ls hl => ?_)
  refine lv_iconst (v := 0) C.1 C.2.1 dX3_dreamsHaving_2 (by decide) ?_
  refine lv_istore_n (lv' := [(3, .int 0), (2, .int 0), (0, .ref (q 0)), (1, .int x1)]) C.1 C.2.1 dX3_dreamsHaving_3 rfl hl (by decide) rfl (fun ls hl => ?_)
  exact wX3_dreamsHaving_4 C E S x1 100 0 0 hf _ _ _ hw (lv_sub hl [2, 3, 1, 0] rfl)
/-! DreamLedger.allDreams -/
def fX3_allDreams (S : St) : Option Int32 :=
  some (((1 : Int32) <<< ((S 12 0) &&& 31)) - 1)
set_option maxHeartbeats 4000000 in
set_option maxRecDepth 100000 in
theorem ctX3_allDreams (l : Launch) {D : va_G} {cI : ClassId} {q : Nat → Nat} (S : St) (sz : Nat) {r1 : Int32} (hf : fX3_allDreams S = some r1) : Met l yX3_allDreams (Cond.code yX3_allDreams cX3_allDreams 1 (some .int) :: XALL) ({ frames := 0, cells := 0, slots := 0, locals := 0 } : Room) (va_Pc [.ref (q 0)] (gPre D cI ((xw cI q) S) sz)) (gQi D (xw cI q) S (fun (r : Int32) (u : St) => r = r1 ∧ u = S) sz) 0 0 (va_A ((xw cI q) S) sz) := by
  unfold fX3_allDreams at hf
  refine Met.ofW (cc := cX3_allDreams) (maxL := 1) (ret := (some .int)) (by decide) rfl ?_
  intro p e s m args below meth c s₁ B hml hv
  obtain ⟨rfl, hg⟩ := hv
  have C : Ctx p s m _ meth c cX3_allDreams 1 RX3 (some .int) := Ctx.of B hml rfl
  obtain ⟨E, hw, hsz⟩ := g_start hg
  subst hsz
  have hl := lv_entry ([.ref (q 0)]) (n := 1) (Nat.le_of_ble_eq_true rfl)
  rw [lg_entry_eq]
  generalize (lg_sl ([.ref (q 0)]) ++ List.replicate (1 - (lg_sl ([.ref (q 0)])).length) Slot.unset).toArray = ls at hl ⊢
  have hl : lv_has ls 1 [(0, .ref (q 0))] := hl
  refine lv_iconst (v := 1) C.1 C.2.1 dX3_allDreams_0 (by decide) ?_
  refine lv_aload_n C.1 C.2.1 dX3_allDreams_1 rfl (lv_at hl 0 rfl) ?_
  refine g_get C E hw inW3 0 rfl rfl 7 (by decide) kf_X3_84 rfl dX3_allDreams_2 ?_
  refine lv_ishl C.1 C.2.1 dX3_allDreams_5 ?_
  refine lv_iconst (v := 1) C.1 C.2.1 dX3_allDreams_6 (by decide) ?_
  refine lv_isub C.1 C.2.1 dX3_allDreams_7 ?_
  exact g_iret C hw (Nat.le_of_ble_eq_true rfl) (Nat.le_of_ble_eq_true rfl) ⟨Option.some.inj hf, rfl⟩ dX3_allDreams_8
/-! DreamLedger.rematchTerms -/
def fX3_rematchTerms_2 : Nat → St → Int32 → Option St
  | 0, _, _ => none
  | n + 1, S, x1 =>
    if (S 15 0) ≤ x1 then
      some S
    else
      Option.bind (ld S 6 20 x1) fun v_1 =>
      if v_1 = 0 then
        Option.bind (ld S 7 20 x1) fun v_5 =>
        Option.bind (fX3_dreamsHaving S v_5) fun v_6 =>
        Option.bind (sto S 9 20 x1 v_6) fun S_7 =>
        Option.bind (some (x1 + 1)) fun x1_8 =>
        fX3_rematchTerms_2 n S_7 x1_8
      else
        Option.bind (fX3_allDreams S) fun v_2 =>
        Option.bind (fX2_combine S x1 v_2) fun S_3 =>
        Option.bind (some (x1 + 1)) fun x1_4 =>
        fX3_rematchTerms_2 n S_3 x1_4
set_option maxHeartbeats 4000000 in
set_option maxRecDepth 100000 in
theorem wX3_rematchTerms_2 {p : Program} {l : Launch} {e : Env} {s : State} {m : MethodId} {args : Array Value} {below : List Frame} {meth : Method} {c : Code} {D : va_G} {cI : ClassId} {q : Nat → Nat} (C : Ctx p s m args meth c cX3_rematchTerms 2 RX3 none) (E : gE D cI s) {S0 : St} {S1 : St} : ∀ (n : Nat) (S : St) (x1 : Int32), fX3_rematchTerms_2 n S x1 = some S1 → ∀ (H : Heap) (locs : List Loc) (ls : Array Slot), gW D ((xw cI q) S0) ((xw cI q) S) s H locs → lv_has ls 2 [(0, .ref (q 0)), (1, .int x1)] → W p l e ({ frames := 2, cells := 0, slots := 0, locals := 46 } : Room) s m args below meth c H locs 0 0 (MQ below (gQv D (xw cI q) S0 (fun (u : St) => u = S1) s.heap.size) args s 0 0 (va_A ((xw cI q) S0) s.heap.size)) (F0 m 2 ls []) := by
  intro n
  induction n with
  | zero => intro S x1 hf; rw [fX3_rematchTerms_2] at hf; cases hf
  | succ n ih =>
    intro S x1 hf H locs ls hw hl
    rw [fX3_rematchTerms_2] at hf
    refine lv_iload_n C.1 C.2.1 dX3_rematchTerms_2 rfl (lv_at hl 1 rfl) ?_
    refine lv_aload_n C.1 C.2.1 dX3_rematchTerms_3 rfl (lv_at hl 0 rfl) ?_
    refine g_get C E hw inW3 0 rfl rfl 1 (by decide) kf_X3_19 rfl dX3_rematchTerms_4 ?_
    refine g_getN C E hw inW2 2 rfl rfl 4 (by decide) kfN_X3_135 rfl dX3_rematchTerms_7 ?_
    refine lv_icmp_ge (tgt := 68) C.1 C.2.1 dX3_rematchTerms_10 (by decide) (fun hc => ?_) (fun hc => ?_)
    · have hf := ift hc hf
      exact g_vret C hw (Nat.le_of_ble_eq_true rfl) (Nat.le_of_ble_eq_true rfl) (Option.some.inj hf) dX3_rematchTerms_68
    · have hf := iff_ hc hf
      refine lv_aload_n C.1 C.2.1 dX3_rematchTerms_13 rfl (lv_at hl 0 rfl) ?_
      refine g_get C E hw inW3 0 rfl rfl 1 (by decide) kf_X3_19 rfl dX3_rematchTerms_14 ?_
      refine g_getN C E hw inW2 2 rfl rfl 0 (by decide) kfN_X3_221 rfl dX3_rematchTerms_17 ?_
      refine lv_iload_n C.1 C.2.1 dX3_rematchTerms_20 rfl (lv_at hl 1 rfl) ?_
      obtain ⟨v_1, hv_1, hf⟩ := bnd hf
      refine g_ald C E hw 10 rfl (ld_some hv_1) dX3_rematchTerms_21 ?_
      refine lv_if_ne (tgt := 50) C.1 C.2.1 dX3_rematchTerms_22 (by decide) (fun hc => ?_) (fun hc => ?_)
      · have hf := iff_ hc hf
        refine lv_aload_n C.1 C.2.1 dX3_rematchTerms_50 rfl (lv_at hl 0 rfl) ?_
        refine g_get C E hw inW3 0 rfl rfl 1 (by decide) kf_X3_19 rfl dX3_rematchTerms_51 ?_
        refine lv_iload_n C.1 C.2.1 dX3_rematchTerms_54 rfl (lv_at hl 1 rfl) ?_
        refine lv_aload_n C.1 C.2.1 dX3_rematchTerms_55 rfl (lv_at hl 0 rfl) ?_
        obtain ⟨v_2, hv_2, hf⟩ := bnd hf
        refine g_cie (wf := (xw cI q)) (S := S) (rest := [.int x1, .ref (q 2)]) xw_adr hw (g_runV (rm := ({ frames := 0, cells := 0, slots := 0, locals := 0 } : Room)) (As := []) (rest := [.int x1, .ref (q 2)]) C E hw F_X3_allDreams (ctX3_allDreams l (cI := cI) (D := D) (q := q) S  _ hv_2) km_X3_227 0 rfl rfl rfl hl.1 rfl (Nat.le_of_ble_eq_true rfl) ⟨(Nat.le_of_ble_eq_true rfl), (Nat.le_of_ble_eq_true rfl)⟩ ⟨(Nat.le_of_ble_eq_true rfl), (Nat.le_of_ble_eq_true rfl)⟩ dX3_rematchTerms_56) (fun H locs hw => ?_)
        obtain ⟨S_3, hS_3, hf⟩ := bnd hf
        refine g_cve (wf := (xw cI q)) (S := S) (rest := []) xw_adr hw (g_runVN (rm := ({ frames := 1, cells := 0, slots := 0, locals := 22 } : Room)) (As := [.int x1, .int v_2]) (rest := []) C E hw F_X2_combine (ctX2_combine l (cI := cI) (D := D) (q := q) S x1 v_2 _ hS_3) kmN_X3_230 2 rfl rfl rfl hl.1 rfl (Nat.le_of_ble_eq_true rfl) ⟨(Nat.le_of_ble_eq_true rfl), (Nat.le_of_ble_eq_true rfl)⟩ ⟨(Nat.le_of_ble_eq_true rfl), (Nat.le_of_ble_eq_true rfl)⟩ dX3_rematchTerms_59) (fun H locs hw => ?_)
        obtain ⟨x1_4, hx1_4, hf⟩ := bnd hf
        refine lv_iinc (v := x1_4) (lv' := [(1, .int x1_4), (0, .ref (q 0))]) C.1 C.2.1 dX3_rematchTerms_62 hl (k := 1) rfl (inc1 hx1_4) (by decide) rfl (fun ls hl => ?_)
        refine lv_goto (tgt := 2) C.1 C.2.1 dX3_rematchTerms_65 (by decide) ?_
        exact ih S_3 x1_4 hf _ _ _ hw (lv_sub hl [1, 0] rfl)
      · have hf := ift hc hf
        refine lv_aload_n C.1 C.2.1 dX3_rematchTerms_25 rfl (lv_at hl 0 rfl) ?_
        refine g_get C E hw inW3 0 rfl rfl 1 (by decide) kf_X3_19 rfl dX3_rematchTerms_26 ?_
        refine g_getN C E hw inW2 2 rfl rfl 3 (by decide) kfN_X3_151 rfl dX3_rematchTerms_29 ?_
        refine lv_iload_n C.1 C.2.1 dX3_rematchTerms_32 rfl (lv_at hl 1 rfl) ?_
        refine lv_aload_n C.1 C.2.1 dX3_rematchTerms_33 rfl (lv_at hl 0 rfl) ?_
        refine lv_aload_n C.1 C.2.1 dX3_rematchTerms_34 rfl (lv_at hl 0 rfl) ?_
        refine g_get C E hw inW3 0 rfl rfl 1 (by decide) kf_X3_19 rfl dX3_rematchTerms_35 ?_
        refine g_getN C E hw inW2 2 rfl rfl 1 (by decide) kfN_X3_224 rfl dX3_rematchTerms_38 ?_
        refine lv_iload_n C.1 C.2.1 dX3_rematchTerms_41 rfl (lv_at hl 1 rfl) ?_
        obtain ⟨v_5, hv_5, hf⟩ := bnd hf
        refine g_ald C E hw 11 rfl (ld_some hv_5) dX3_rematchTerms_42 ?_
        obtain ⟨v_6, hv_6, hf⟩ := bnd hf
        refine g_cie (wf := (xw cI q)) (S := S) (rest := [.int x1, .ref (q 13)]) xw_adr hw (g_runV (rm := ({ frames := 1, cells := 0, slots := 0, locals := 21 } : Room)) (As := [.int v_5]) (rest := [.int x1, .ref (q 13)]) C E hw F_X3_dreamsHaving (ctX3_dreamsHaving l (cI := cI) (D := D) (q := q) S v_5 _ hv_6) km_X3_148 0 rfl rfl rfl hl.1 rfl (Nat.le_of_ble_eq_true rfl) ⟨(Nat.le_of_ble_eq_true rfl), (Nat.le_of_ble_eq_true rfl)⟩ ⟨(Nat.le_of_ble_eq_true rfl), (Nat.le_of_ble_eq_true rfl)⟩ dX3_rematchTerms_43) (fun H locs hw => ?_)
        obtain ⟨S_7, hS_7, hf⟩ := bnd hf
        refine g_ast C E hw 13 rfl (sto_some hS_7).1 (ws' := (xw cI q) S_7) (by rw [← (sto_some hS_7).2]; rfl) dX3_rematchTerms_46 (fun H locs hw => ?_)
        refine lv_goto (tgt := 62) C.1 C.2.1 dX3_rematchTerms_47 (by decide) ?_
        obtain ⟨x1_8, hx1_8, hf⟩ := bnd hf
        refine lv_iinc (v := x1_8) (lv' := [(1, .int x1_8), (0, .ref (q 0))]) C.1 C.2.1 dX3_rematchTerms_62 hl (k := 1) rfl (inc1 hx1_8) (by decide) rfl (fun ls hl => ?_)
        refine lv_goto (tgt := 2) C.1 C.2.1 dX3_rematchTerms_65 (by decide) ?_
        exact ih S_7 x1_8 hf _ _ _ hw (lv_sub hl [1, 0] rfl)
def fX3_rematchTerms (S : St) : Option St :=
  fX3_rematchTerms_2 100 S 0
set_option maxHeartbeats 4000000 in
set_option maxRecDepth 100000 in
theorem ctX3_rematchTerms (l : Launch) {D : va_G} {cI : ClassId} {q : Nat → Nat} (S : St) (sz : Nat) {S1 : St} (hf : fX3_rematchTerms S = some S1) : Met l yX3_rematchTerms (Cond.code yX3_rematchTerms cX3_rematchTerms 2 none :: XALL) ({ frames := 2, cells := 0, slots := 0, locals := 46 } : Room) (va_Pc [.ref (q 0)] (gPre D cI ((xw cI q) S) sz)) (gQv D (xw cI q) S (fun (u : St) => u = S1) sz) 0 0 (va_A ((xw cI q) S) sz) := by
  unfold fX3_rematchTerms at hf
  refine Met.ofW (cc := cX3_rematchTerms) (maxL := 2) (ret := none) (by decide) rfl ?_
  intro p e s m args below meth c s₁ B hml hv
  obtain ⟨rfl, hg⟩ := hv
  have C : Ctx p s m _ meth c cX3_rematchTerms 2 RX3 none := Ctx.of B hml rfl
  obtain ⟨E, hw, hsz⟩ := g_start hg
  subst hsz
  have hl := lv_entry ([.ref (q 0)]) (n := 2) (Nat.le_of_ble_eq_true rfl)
  rw [lg_entry_eq]
  generalize (lg_sl ([.ref (q 0)]) ++ List.replicate (2 - (lg_sl ([.ref (q 0)])).length) Slot.unset).toArray = ls at hl ⊢
  have hl : lv_has ls 2 [(0, .ref (q 0))] := hl
  refine lv_iconst (v := 0) C.1 C.2.1 dX3_rematchTerms_0 (by decide) ?_
  refine lv_istore_n (lv' := [(1, .int 0), (0, .ref (q 0))]) C.1 C.2.1 dX3_rematchTerms_1 rfl hl (by decide) rfl (fun ls hl => ?_)
  exact wX3_rematchTerms_2 C E 100 S 0 hf _ _ _ hw (lv_sub hl [1, 0] rfl)
/-! DreamLedger.moveTag -/
def fX3_moveTag_11 : Nat → St → Int32 → Option St
  | 0, _, _ => none
  | n + 1, S, x3 =>
    if (S 12 0) ≤ x3 then
      Option.bind (fX3_rematchTerms S) fun S_2 =>
      some S_2
    else
      Option.bind (ld S 0 24 x3) fun v_3 =>
      Option.bind (fX1_linesOf S v_3) fun v_4 =>
      Option.bind (sto S 1 24 x3 v_4) fun S_5 =>
      Option.bind (some (x3 + 1)) fun x3_6 =>
      fX3_moveTag_11 n S_5 x3_6
set_option maxHeartbeats 4000000 in
set_option maxRecDepth 100000 in
theorem wX3_moveTag_11 {p : Program} {l : Launch} {e : Env} {s : State} {m : MethodId} {args : Array Value} {below : List Frame} {meth : Method} {c : Code} {D : va_G} {cI : ClassId} {q : Nat → Nat} (C : Ctx p s m args meth c cX3_moveTag 4 RX3 none) (E : gE D cI s) {S0 : St} {S1 : St} : ∀ (n : Nat) (S : St) (x3 : Int32), fX3_moveTag_11 n S x3 = some S1 → ∀ (H : Heap) (locs : List Loc) (ls : Array Slot), gW D ((xw cI q) S0) ((xw cI q) S) s H locs → lv_has ls 4 [(0, .ref (q 0)), (3, .int x3)] → W p l e ({ frames := 3, cells := 0, slots := 0, locals := 67 } : Room) s m args below meth c H locs 0 0 (MQ below (gQv D (xw cI q) S0 (fun (u : St) => u = S1) s.heap.size) args s 0 0 (va_A ((xw cI q) S0) s.heap.size)) (F0 m 11 ls []) := by
  intro n
  induction n with
  | zero => intro S x3 hf; rw [fX3_moveTag_11] at hf; cases hf
  | succ n ih =>
    intro S x3 hf H locs ls hw hl
    rw [fX3_moveTag_11] at hf
    refine lv_iload_n C.1 C.2.1 dX3_moveTag_11 rfl (lv_at hl 1 rfl) ?_
    refine lv_aload_n C.1 C.2.1 dX3_moveTag_12 rfl (lv_at hl 0 rfl) ?_
    refine g_get C E hw inW3 0 rfl rfl 7 (by decide) kf_X3_84 rfl dX3_moveTag_13 ?_
    refine lv_icmp_ge (tgt := 44) C.1 C.2.1 dX3_moveTag_16 (by decide) (fun hc => ?_) (fun hc => ?_)
    · have hf := ift hc hf
      refine lv_aload_n C.1 C.2.1 dX3_moveTag_44 rfl (lv_at hl 0 rfl) ?_
      obtain ⟨S_2, hS_2, hf⟩ := bnd hf
      refine g_cve (wf := (xw cI q)) (S := S) (rest := []) xw_adr hw (g_runV (rm := ({ frames := 2, cells := 0, slots := 0, locals := 46 } : Room)) (As := []) (rest := []) C E hw F_X3_rematchTerms (ctX3_rematchTerms l (cI := cI) (D := D) (q := q) S  _ hS_2) km_X3_215 0 rfl rfl rfl hl.1 rfl (Nat.le_of_ble_eq_true rfl) ⟨(Nat.le_of_ble_eq_true rfl), (Nat.le_of_ble_eq_true rfl)⟩ ⟨(Nat.le_of_ble_eq_true rfl), (Nat.le_of_ble_eq_true rfl)⟩ dX3_moveTag_45) (fun H locs hw => ?_)
      exact g_vret C hw (Nat.le_of_ble_eq_true rfl) (Nat.le_of_ble_eq_true rfl) (Option.some.inj hf) dX3_moveTag_48
    · have hf := iff_ hc hf
      refine lv_aload_n C.1 C.2.1 dX3_moveTag_19 rfl (lv_at hl 0 rfl) ?_
      refine g_get C E hw inW3 0 rfl rfl 4 (by decide) kf_X3_34 rfl dX3_moveTag_20 ?_
      refine lv_iload_n C.1 C.2.1 dX3_moveTag_23 rfl (lv_at hl 1 rfl) ?_
      refine lv_aload_n C.1 C.2.1 dX3_moveTag_24 rfl (lv_at hl 0 rfl) ?_
      refine g_get C E hw inW3 0 rfl rfl 0 (by decide) kf_X3_10 rfl dX3_moveTag_25 ?_
      refine lv_aload_n C.1 C.2.1 dX3_moveTag_28 rfl (lv_at hl 0 rfl) ?_
      refine g_get C E hw inW3 0 rfl rfl 3 (by decide) kf_X3_30 rfl dX3_moveTag_29 ?_
      refine lv_iload_n C.1 C.2.1 dX3_moveTag_32 rfl (lv_at hl 1 rfl) ?_
      obtain ⟨v_3, hv_3, hf⟩ := bnd hf
      refine g_ald C E hw 4 rfl (ld_some hv_3) dX3_moveTag_33 ?_
      obtain ⟨v_4, hv_4, hf⟩ := bnd hf
      refine g_cie (wf := (xw cI q)) (S := S) (rest := [.int x3, .ref (q 5)]) xw_adr hw (g_runVN (rm := ({ frames := 1, cells := 0, slots := 0, locals := 21 } : Room)) (As := [.int v_3]) (rest := [.int x3, .ref (q 5)]) C E hw F_X1_linesOf (ctX1_linesOf l (cI := cI) (D := D) (q := q) S v_3 _ hv_4) kmN_X3_212 1 rfl rfl rfl hl.1 rfl (Nat.le_of_ble_eq_true rfl) ⟨(Nat.le_of_ble_eq_true rfl), (Nat.le_of_ble_eq_true rfl)⟩ ⟨(Nat.le_of_ble_eq_true rfl), (Nat.le_of_ble_eq_true rfl)⟩ dX3_moveTag_34) (fun H locs hw => ?_)
      obtain ⟨S_5, hS_5, hf⟩ := bnd hf
      refine g_ast C E hw 5 rfl (sto_some hS_5).1 (ws' := (xw cI q) S_5) (by rw [← (sto_some hS_5).2]; rfl) dX3_moveTag_37 (fun H locs hw => ?_)
      obtain ⟨x3_6, hx3_6, hf⟩ := bnd hf
      refine lv_iinc (v := x3_6) (lv' := [(3, .int x3_6), (0, .ref (q 0))]) C.1 C.2.1 dX3_moveTag_38 hl (k := 1) rfl (inc1 hx3_6) (by decide) rfl (fun ls hl => ?_)
      refine lv_goto (tgt := 11) C.1 C.2.1 dX3_moveTag_41 (by decide) ?_
      exact ih S_5 x3_6 hf _ _ _ hw (lv_sub hl [1, 0] rfl)
def fX3_moveTag (S : St) (x1 : Int32) (x2 : Int32) : Option St :=
  Option.bind (fX1_hang S x1 x2) fun S_1 =>
  fX3_moveTag_11 100 S_1 0
set_option maxHeartbeats 4000000 in
set_option maxRecDepth 100000 in
theorem ctX3_moveTag (l : Launch) {D : va_G} {cI : ClassId} {q : Nat → Nat} (S : St) (x1 : Int32) (x2 : Int32) (sz : Nat) {S1 : St} (hf : fX3_moveTag S x1 x2 = some S1) : Met l yX3_moveTag (Cond.code yX3_moveTag cX3_moveTag 4 none :: XALL) ({ frames := 3, cells := 0, slots := 0, locals := 67 } : Room) (va_Pc [.ref (q 0), .int x1, .int x2] (gPre D cI ((xw cI q) S) sz)) (gQv D (xw cI q) S (fun (u : St) => u = S1) sz) 0 0 (va_A ((xw cI q) S) sz) := by
  unfold fX3_moveTag at hf
  refine Met.ofW (cc := cX3_moveTag) (maxL := 4) (ret := none) (by decide) rfl ?_
  intro p e s m args below meth c s₁ B hml hv
  obtain ⟨rfl, hg⟩ := hv
  have C : Ctx p s m _ meth c cX3_moveTag 4 RX3 none := Ctx.of B hml rfl
  obtain ⟨E, hw, hsz⟩ := g_start hg
  subst hsz
  have hl := lv_entry ([.ref (q 0), .int x1, .int x2]) (n := 4) (Nat.le_of_ble_eq_true rfl)
  rw [lg_entry_eq]
  generalize (lg_sl ([.ref (q 0), .int x1, .int x2]) ++ List.replicate (4 - (lg_sl ([.ref (q 0), .int x1, .int x2])).length) Slot.unset).toArray = ls at hl ⊢
  have hl : lv_has ls 4 [(0, .ref (q 0)), (1, .int x1), (2, .int x2)] := hl
  refine lv_aload_n C.1 C.2.1 dX3_moveTag_0 rfl (lv_at hl 0 rfl) ?_
  refine g_get C E hw inW3 0 rfl rfl 0 (by decide) kf_X3_10 rfl dX3_moveTag_1 ?_
  refine lv_iload_n C.1 C.2.1 dX3_moveTag_4 rfl (lv_at hl 1 rfl) ?_
  refine lv_iload_n C.1 C.2.1 dX3_moveTag_5 rfl (lv_at hl 2 rfl) ?_
  obtain ⟨S_1, hS_1, hf⟩ := bnd hf
  refine g_cve (wf := (xw cI q)) (S := S) (rest := []) xw_adr hw (g_runVN (rm := ({ frames := 1, cells := 0, slots := 0, locals := 24 } : Room)) (As := [.int x1, .int x2]) (rest := []) C E hw F_X1_hang (ctX1_hang l (cI := cI) (D := D) (q := q) S x1 x2 _ hS_1) kmN_X3_209 1 rfl rfl rfl hl.1 rfl (Nat.le_of_ble_eq_true rfl) ⟨(Nat.le_of_ble_eq_true rfl), (Nat.le_of_ble_eq_true rfl)⟩ ⟨(Nat.le_of_ble_eq_true rfl), (Nat.le_of_ble_eq_true rfl)⟩ dX3_moveTag_6) (fun H locs hw => ?_)
  refine lv_iconst (v := 0) C.1 C.2.1 dX3_moveTag_9 (by decide) ?_
  refine lv_istore_n (lv' := [(3, .int 0), (0, .ref (q 0)), (1, .int x1), (2, .int x2)]) C.1 C.2.1 dX3_moveTag_10 rfl hl (by decide) rfl (fun ls hl => ?_)
  exact wX3_moveTag_11 C E 100 S_1 0 hf _ _ _ hw (lv_sub hl [1, 0] rfl)
/-! DreamLedger.putUnder -/
def fX3_putUnder (S : St) (x1 : Int32) (x2 : Int32) : Option (Int32 × St) :=
  Option.bind (fX3_requirePlaceUnder S x1 x2) fun z_1 =>
  Option.bind (fX3_moveTag S x1 x2) fun S_2 =>
  Option.bind (fX1_countAbove S_2 x1) fun v_3 =>
  some (v_3, S_2)
set_option maxHeartbeats 4000000 in
set_option maxRecDepth 100000 in
theorem ctX3_putUnder (l : Launch) {D : va_G} {cI : ClassId} {q : Nat → Nat} (S : St) (x1 : Int32) (x2 : Int32) (sz : Nat) {r1 : Int32} {S1 : St} (hf : fX3_putUnder S x1 x2 = some (r1, S1)) : Met l yX3_putUnder (Cond.code yX3_putUnder cX3_putUnder 3 (some .int) :: XALL) ({ frames := 4, cells := 0, slots := 0, locals := 90 } : Room) (va_Pc [.ref (q 0), .int x1, .int x2] (gPre D cI ((xw cI q) S) sz)) (gQi D (xw cI q) S (fun (r : Int32) (u : St) => r = r1 ∧ u = S1) sz) 0 0 (va_A ((xw cI q) S) sz) := by
  unfold fX3_putUnder at hf
  refine Met.ofW (cc := cX3_putUnder) (maxL := 3) (ret := (some .int)) (by decide) rfl ?_
  intro p e s m args below meth c s₁ B hml hv
  obtain ⟨rfl, hg⟩ := hv
  have C : Ctx p s m _ meth c cX3_putUnder 3 RX3 (some .int) := Ctx.of B hml rfl
  obtain ⟨E, hw, hsz⟩ := g_start hg
  subst hsz
  have hl := lv_entry ([.ref (q 0), .int x1, .int x2]) (n := 3) (Nat.le_of_ble_eq_true rfl)
  rw [lg_entry_eq]
  generalize (lg_sl ([.ref (q 0), .int x1, .int x2]) ++ List.replicate (3 - (lg_sl ([.ref (q 0), .int x1, .int x2])).length) Slot.unset).toArray = ls at hl ⊢
  have hl : lv_has ls 3 [(0, .ref (q 0)), (1, .int x1), (2, .int x2)] := hl
  refine lv_aload_n C.1 C.2.1 dX3_putUnder_0 rfl (lv_at hl 0 rfl) ?_
  refine lv_iload_n C.1 C.2.1 dX3_putUnder_1 rfl (lv_at hl 1 rfl) ?_
  refine lv_iload_n C.1 C.2.1 dX3_putUnder_2 rfl (lv_at hl 2 rfl) ?_
  obtain ⟨z_1, hz_1, hf⟩ := bnd hf
  refine g_cve (wf := (xw cI q)) (S := S) (rest := []) xw_adr hw (g_runV (rm := ({ frames := 3, cells := 0, slots := 0, locals := 65 } : Room)) (As := [.int x1, .int x2]) (rest := []) C E hw F_X3_requirePlaceUnder (ctX3_requirePlaceUnder l (cI := cI) (D := D) (q := q) S x1 x2 _ hz_1) km_X3_58 0 rfl rfl rfl hl.1 rfl (Nat.le_of_ble_eq_true rfl) ⟨(Nat.le_of_ble_eq_true rfl), (Nat.le_of_ble_eq_true rfl)⟩ ⟨(Nat.le_of_ble_eq_true rfl), (Nat.le_of_ble_eq_true rfl)⟩ dX3_putUnder_3) (fun H locs hw => ?_)
  refine lv_aload_n C.1 C.2.1 dX3_putUnder_6 rfl (lv_at hl 0 rfl) ?_
  refine lv_iload_n C.1 C.2.1 dX3_putUnder_7 rfl (lv_at hl 1 rfl) ?_
  refine lv_iload_n C.1 C.2.1 dX3_putUnder_8 rfl (lv_at hl 2 rfl) ?_
  obtain ⟨S_2, hS_2, hf⟩ := bnd hf
  refine g_cve (wf := (xw cI q)) (S := S) (rest := []) xw_adr hw (g_runV (rm := ({ frames := 3, cells := 0, slots := 0, locals := 67 } : Room)) (As := [.int x1, .int x2]) (rest := []) C E hw F_X3_moveTag (ctX3_moveTag l (cI := cI) (D := D) (q := q) S x1 x2 _ hS_2) km_X3_62 0 rfl rfl rfl hl.1 rfl (Nat.le_of_ble_eq_true rfl) ⟨(Nat.le_of_ble_eq_true rfl), (Nat.le_of_ble_eq_true rfl)⟩ ⟨(Nat.le_of_ble_eq_true rfl), (Nat.le_of_ble_eq_true rfl)⟩ dX3_putUnder_9) (fun H locs hw => ?_)
  refine lv_aload_n C.1 C.2.1 dX3_putUnder_12 rfl (lv_at hl 0 rfl) ?_
  refine g_get C E hw inW3 0 rfl rfl 0 (by decide) kf_X3_10 rfl dX3_putUnder_13 ?_
  refine lv_iload_n C.1 C.2.1 dX3_putUnder_16 rfl (lv_at hl 1 rfl) ?_
  obtain ⟨v_3, hv_3, hf⟩ := bnd hf
  refine g_cie (wf := (xw cI q)) (S := S_2) (rest := []) xw_adr hw (g_runVN (rm := ({ frames := 1, cells := 0, slots := 0, locals := 20 } : Room)) (As := [.int x1]) (rest := []) C E hw F_X1_countAbove (ctX1_countAbove l (cI := cI) (D := D) (q := q) S_2 x1 _ hv_3) kmN_X3_65 1 rfl rfl rfl hl.1 rfl (Nat.le_of_ble_eq_true rfl) ⟨(Nat.le_of_ble_eq_true rfl), (Nat.le_of_ble_eq_true rfl)⟩ ⟨(Nat.le_of_ble_eq_true rfl), (Nat.le_of_ble_eq_true rfl)⟩ dX3_putUnder_17) (fun H locs hw => ?_)
  exact g_iret C hw (Nat.le_of_ble_eq_true rfl) (Nat.le_of_ble_eq_true rfl) ⟨congrArg Prod.fst (Option.some.inj hf), congrArg Prod.snd (Option.some.inj hf)⟩ dX3_putUnder_20
/-! DreamLedger.requireParent -/
def fX3_requireParent (S : St) (x1 : Int32) : Option Unit :=
  Option.bind (fX3_requireTag S x1) fun z_1 =>
  Option.bind (ld S 4 16 x1) fun v_2 =>
  if v_2 = (-1) then
    none
  else
    some ()
set_option maxHeartbeats 4000000 in
set_option maxRecDepth 100000 in
theorem ctX3_requireParent (l : Launch) {D : va_G} {cI : ClassId} {q : Nat → Nat} (S : St) (x1 : Int32) (sz : Nat) {r1 : Unit} (hf : fX3_requireParent S x1 = some r1) : Met l yX3_requireParent (Cond.code yX3_requireParent cX3_requireParent 2 none :: XALL) ({ frames := 1, cells := 0, slots := 0, locals := 21 } : Room) (va_Pc [.ref (q 0), .int x1] (gPre D cI ((xw cI q) S) sz)) (gQv D (xw cI q) S (fun (u : St) => u = S) sz) 0 0 (va_A ((xw cI q) S) sz) := by
  unfold fX3_requireParent at hf
  refine Met.ofW (cc := cX3_requireParent) (maxL := 2) (ret := none) (by decide) rfl ?_
  intro p e s m args below meth c s₁ B hml hv
  obtain ⟨rfl, hg⟩ := hv
  have C : Ctx p s m _ meth c cX3_requireParent 2 RX3 none := Ctx.of B hml rfl
  obtain ⟨E, hw, hsz⟩ := g_start hg
  subst hsz
  have hl := lv_entry ([.ref (q 0), .int x1]) (n := 2) (Nat.le_of_ble_eq_true rfl)
  rw [lg_entry_eq]
  generalize (lg_sl ([.ref (q 0), .int x1]) ++ List.replicate (2 - (lg_sl ([.ref (q 0), .int x1])).length) Slot.unset).toArray = ls at hl ⊢
  have hl : lv_has ls 2 [(0, .ref (q 0)), (1, .int x1)] := hl
  refine lv_aload_n C.1 C.2.1 dX3_requireParent_0 rfl (lv_at hl 0 rfl) ?_
  refine lv_iload_n C.1 C.2.1 dX3_requireParent_1 rfl (lv_at hl 1 rfl) ?_
  obtain ⟨z_1, hz_1, hf⟩ := bnd hf
  refine g_cve (wf := (xw cI q)) (S := S) (rest := []) xw_adr hw (g_runV (rm := ({ frames := 0, cells := 0, slots := 0, locals := 0 } : Room)) (As := [.int x1]) (rest := []) C E hw F_X3_requireTag (ctX3_requireTag l (cI := cI) (D := D) (q := q) S x1 _ hz_1) km_X3_76 0 rfl rfl rfl hl.1 rfl (Nat.le_of_ble_eq_true rfl) ⟨(Nat.le_of_ble_eq_true rfl), (Nat.le_of_ble_eq_true rfl)⟩ ⟨(Nat.le_of_ble_eq_true rfl), (Nat.le_of_ble_eq_true rfl)⟩ dX3_requireParent_2) (fun H locs hw => ?_)
  refine lv_aload_n C.1 C.2.1 dX3_requireParent_5 rfl (lv_at hl 0 rfl) ?_
  refine g_get C E hw inW3 0 rfl rfl 0 (by decide) kf_X3_10 rfl dX3_requireParent_6 ?_
  refine g_getN C E hw inW1 1 rfl rfl 0 (by decide) kfN_X3_73 rfl dX3_requireParent_9 ?_
  refine lv_iload_n C.1 C.2.1 dX3_requireParent_12 rfl (lv_at hl 1 rfl) ?_
  obtain ⟨v_2, hv_2, hf⟩ := bnd hf
  refine g_ald C E hw 8 rfl (ld_some hv_2) dX3_requireParent_13 ?_
  refine lv_iconst (v := (-1)) C.1 C.2.1 dX3_requireParent_14 (by decide) ?_
  refine lv_icmp_ne (tgt := 28) C.1 C.2.1 dX3_requireParent_15 (by decide) (fun hc => ?_) (fun hc => ?_)
  · have hf := iff_ hc hf
    exact g_vret C hw (Nat.le_of_ble_eq_true rfl) (Nat.le_of_ble_eq_true rfl) rfl dX3_requireParent_28
  · have hf := ift hc hf
    cases hf
/-! DreamLedger.freeTag -/
def fX3_freeTag (S : St) (x1 : Int32) : Option (Int32 × St) :=
  Option.bind (fX3_requireParent S x1) fun z_1 =>
  Option.bind (ld S 4 16 x1) fun v_2 =>
  Option.bind (fX3_moveTag S x1 (-1)) fun S_3 =>
  some (v_2, S_3)
set_option maxHeartbeats 4000000 in
set_option maxRecDepth 100000 in
theorem ctX3_freeTag (l : Launch) {D : va_G} {cI : ClassId} {q : Nat → Nat} (S : St) (x1 : Int32) (sz : Nat) {r1 : Int32} {S1 : St} (hf : fX3_freeTag S x1 = some (r1, S1)) : Met l yX3_freeTag (Cond.code yX3_freeTag cX3_freeTag 3 (some .int) :: XALL) ({ frames := 4, cells := 0, slots := 0, locals := 90 } : Room) (va_Pc [.ref (q 0), .int x1] (gPre D cI ((xw cI q) S) sz)) (gQi D (xw cI q) S (fun (r : Int32) (u : St) => r = r1 ∧ u = S1) sz) 0 0 (va_A ((xw cI q) S) sz) := by
  unfold fX3_freeTag at hf
  refine Met.ofW (cc := cX3_freeTag) (maxL := 3) (ret := (some .int)) (by decide) rfl ?_
  intro p e s m args below meth c s₁ B hml hv
  obtain ⟨rfl, hg⟩ := hv
  have C : Ctx p s m _ meth c cX3_freeTag 3 RX3 (some .int) := Ctx.of B hml rfl
  obtain ⟨E, hw, hsz⟩ := g_start hg
  subst hsz
  have hl := lv_entry ([.ref (q 0), .int x1]) (n := 3) (Nat.le_of_ble_eq_true rfl)
  rw [lg_entry_eq]
  generalize (lg_sl ([.ref (q 0), .int x1]) ++ List.replicate (3 - (lg_sl ([.ref (q 0), .int x1])).length) Slot.unset).toArray = ls at hl ⊢
  have hl : lv_has ls 3 [(0, .ref (q 0)), (1, .int x1)] := hl
  refine lv_aload_n C.1 C.2.1 dX3_freeTag_0 rfl (lv_at hl 0 rfl) ?_
  refine lv_iload_n C.1 C.2.1 dX3_freeTag_1 rfl (lv_at hl 1 rfl) ?_
  obtain ⟨z_1, hz_1, hf⟩ := bnd hf
  refine g_cve (wf := (xw cI q)) (S := S) (rest := []) xw_adr hw (g_runV (rm := ({ frames := 1, cells := 0, slots := 0, locals := 21 } : Room)) (As := [.int x1]) (rest := []) C E hw F_X3_requireParent (ctX3_requireParent l (cI := cI) (D := D) (q := q) S x1 _ hz_1) km_X3_69 0 rfl rfl rfl hl.1 rfl (Nat.le_of_ble_eq_true rfl) ⟨(Nat.le_of_ble_eq_true rfl), (Nat.le_of_ble_eq_true rfl)⟩ ⟨(Nat.le_of_ble_eq_true rfl), (Nat.le_of_ble_eq_true rfl)⟩ dX3_freeTag_2) (fun H locs hw => ?_)
  refine lv_aload_n C.1 C.2.1 dX3_freeTag_5 rfl (lv_at hl 0 rfl) ?_
  refine g_get C E hw inW3 0 rfl rfl 0 (by decide) kf_X3_10 rfl dX3_freeTag_6 ?_
  refine g_getN C E hw inW1 1 rfl rfl 0 (by decide) kfN_X3_73 rfl dX3_freeTag_9 ?_
  refine lv_iload_n C.1 C.2.1 dX3_freeTag_12 rfl (lv_at hl 1 rfl) ?_
  obtain ⟨v_2, hv_2, hf⟩ := bnd hf
  refine g_ald C E hw 8 rfl (ld_some hv_2) dX3_freeTag_13 ?_
  refine lv_istore_n (lv' := [(2, .int v_2), (0, .ref (q 0)), (1, .int x1)]) C.1 C.2.1 dX3_freeTag_14 rfl hl (by decide) rfl (fun ls hl => ?_)
  refine lv_aload_n C.1 C.2.1 dX3_freeTag_15 rfl (lv_at hl 1 rfl) ?_
  refine lv_iload_n C.1 C.2.1 dX3_freeTag_16 rfl (lv_at hl 2 rfl) ?_
  refine lv_iconst (v := (-1)) C.1 C.2.1 dX3_freeTag_17 (by decide) ?_
  obtain ⟨S_3, hS_3, hf⟩ := bnd hf
  refine g_cve (wf := (xw cI q)) (S := S) (rest := []) xw_adr hw (g_runV (rm := ({ frames := 3, cells := 0, slots := 0, locals := 67 } : Room)) (As := [.int x1, .int (-1)]) (rest := []) C E hw F_X3_moveTag (ctX3_moveTag l (cI := cI) (D := D) (q := q) S x1 (-1) _ hS_3) km_X3_62 0 rfl rfl rfl hl.1 rfl (Nat.le_of_ble_eq_true rfl) ⟨(Nat.le_of_ble_eq_true rfl), (Nat.le_of_ble_eq_true rfl)⟩ ⟨(Nat.le_of_ble_eq_true rfl), (Nat.le_of_ble_eq_true rfl)⟩ dX3_freeTag_18) (fun H locs hw => ?_)
  refine lv_iload_n C.1 C.2.1 dX3_freeTag_21 rfl (lv_at hl 0 rfl) ?_
  exact g_iret C hw (Nat.le_of_ble_eq_true rfl) (Nat.le_of_ble_eq_true rfl) ⟨congrArg Prod.fst (Option.some.inj hf), congrArg Prod.snd (Option.some.inj hf)⟩ dX3_freeTag_22
/-! DreamLedger.setOwnTags -/
def fX3_setOwnTags (S : St) (x1 : Int32) (x2 : Int32) : Option St :=
  Option.bind (sto S 0 24 x1 x2) fun S_1 =>
  Option.bind (fX1_linesOf S_1 x2) fun v_2 =>
  Option.bind (sto S_1 1 24 x1 v_2) fun S_3 =>
  Option.bind (fX3_rematchTerms S_3) fun S_4 =>
  some S_4
set_option maxHeartbeats 4000000 in
set_option maxRecDepth 100000 in
theorem ctX3_setOwnTags (l : Launch) {D : va_G} {cI : ClassId} {q : Nat → Nat} (S : St) (x1 : Int32) (x2 : Int32) (sz : Nat) {S1 : St} (hf : fX3_setOwnTags S x1 x2 = some S1) : Met l yX3_setOwnTags (Cond.code yX3_setOwnTags cX3_setOwnTags 3 none :: XALL) ({ frames := 3, cells := 0, slots := 0, locals := 67 } : Room) (va_Pc [.ref (q 0), .int x1, .int x2] (gPre D cI ((xw cI q) S) sz)) (gQv D (xw cI q) S (fun (u : St) => u = S1) sz) 0 0 (va_A ((xw cI q) S) sz) := by
  unfold fX3_setOwnTags at hf
  refine Met.ofW (cc := cX3_setOwnTags) (maxL := 3) (ret := none) (by decide) rfl ?_
  intro p e s m args below meth c s₁ B hml hv
  obtain ⟨rfl, hg⟩ := hv
  have C : Ctx p s m _ meth c cX3_setOwnTags 3 RX3 none := Ctx.of B hml rfl
  obtain ⟨E, hw, hsz⟩ := g_start hg
  subst hsz
  have hl := lv_entry ([.ref (q 0), .int x1, .int x2]) (n := 3) (Nat.le_of_ble_eq_true rfl)
  rw [lg_entry_eq]
  generalize (lg_sl ([.ref (q 0), .int x1, .int x2]) ++ List.replicate (3 - (lg_sl ([.ref (q 0), .int x1, .int x2])).length) Slot.unset).toArray = ls at hl ⊢
  have hl : lv_has ls 3 [(0, .ref (q 0)), (1, .int x1), (2, .int x2)] := hl
  refine lv_aload_n C.1 C.2.1 dX3_setOwnTags_0 rfl (lv_at hl 0 rfl) ?_
  refine g_get C E hw inW3 0 rfl rfl 3 (by decide) kf_X3_30 rfl dX3_setOwnTags_1 ?_
  refine lv_iload_n C.1 C.2.1 dX3_setOwnTags_4 rfl (lv_at hl 1 rfl) ?_
  refine lv_iload_n C.1 C.2.1 dX3_setOwnTags_5 rfl (lv_at hl 2 rfl) ?_
  obtain ⟨S_1, hS_1, hf⟩ := bnd hf
  refine g_ast C E hw 4 rfl (sto_some hS_1).1 (ws' := (xw cI q) S_1) (by rw [← (sto_some hS_1).2]; rfl) dX3_setOwnTags_6 (fun H locs hw => ?_)
  refine lv_aload_n C.1 C.2.1 dX3_setOwnTags_7 rfl (lv_at hl 0 rfl) ?_
  refine g_get C E hw inW3 0 rfl rfl 4 (by decide) kf_X3_34 rfl dX3_setOwnTags_8 ?_
  refine lv_iload_n C.1 C.2.1 dX3_setOwnTags_11 rfl (lv_at hl 1 rfl) ?_
  refine lv_aload_n C.1 C.2.1 dX3_setOwnTags_12 rfl (lv_at hl 0 rfl) ?_
  refine g_get C E hw inW3 0 rfl rfl 0 (by decide) kf_X3_10 rfl dX3_setOwnTags_13 ?_
  refine lv_iload_n C.1 C.2.1 dX3_setOwnTags_16 rfl (lv_at hl 2 rfl) ?_
  obtain ⟨v_2, hv_2, hf⟩ := bnd hf
  refine g_cie (wf := (xw cI q)) (S := S_1) (rest := [.int x1, .ref (q 5)]) xw_adr hw (g_runVN (rm := ({ frames := 1, cells := 0, slots := 0, locals := 21 } : Room)) (As := [.int x2]) (rest := [.int x1, .ref (q 5)]) C E hw F_X1_linesOf (ctX1_linesOf l (cI := cI) (D := D) (q := q) S_1 x2 _ hv_2) kmN_X3_212 1 rfl rfl rfl hl.1 rfl (Nat.le_of_ble_eq_true rfl) ⟨(Nat.le_of_ble_eq_true rfl), (Nat.le_of_ble_eq_true rfl)⟩ ⟨(Nat.le_of_ble_eq_true rfl), (Nat.le_of_ble_eq_true rfl)⟩ dX3_setOwnTags_17) (fun H locs hw => ?_)
  obtain ⟨S_3, hS_3, hf⟩ := bnd hf
  refine g_ast C E hw 5 rfl (sto_some hS_3).1 (ws' := (xw cI q) S_3) (by rw [← (sto_some hS_3).2]; rfl) dX3_setOwnTags_20 (fun H locs hw => ?_)
  refine lv_aload_n C.1 C.2.1 dX3_setOwnTags_21 rfl (lv_at hl 0 rfl) ?_
  obtain ⟨S_4, hS_4, hf⟩ := bnd hf
  refine g_cve (wf := (xw cI q)) (S := S_3) (rest := []) xw_adr hw (g_runV (rm := ({ frames := 2, cells := 0, slots := 0, locals := 46 } : Room)) (As := []) (rest := []) C E hw F_X3_rematchTerms (ctX3_rematchTerms l (cI := cI) (D := D) (q := q) S_3  _ hS_4) km_X3_215 0 rfl rfl rfl hl.1 rfl (Nat.le_of_ble_eq_true rfl) ⟨(Nat.le_of_ble_eq_true rfl), (Nat.le_of_ble_eq_true rfl)⟩ ⟨(Nat.le_of_ble_eq_true rfl), (Nat.le_of_ble_eq_true rfl)⟩ dX3_setOwnTags_22) (fun H locs hw => ?_)
  exact g_vret C hw (Nat.le_of_ble_eq_true rfl) (Nat.le_of_ble_eq_true rfl) (Option.some.inj hf) dX3_setOwnTags_25
/-! DreamLedger.addDream -/
def fX3_addDream (S : St) (x1 : Int32) (x2 : Int32) : Option (Int32 × St) :=
  Option.bind (fX3_requireTag S x1) fun z_1 =>
  if x2 < 1 then
    none
  else
    if x2 ≤ 9 then
      if (S 12 0) < 24 then
        Option.bind (some ((S 12 0))) fun x3_2 =>
        Option.bind (some (up S 12 0 ((S 12 0) + 1))) fun S_3 =>
        Option.bind (sto S_3 2 24 x3_2 x2) fun S_4 =>
        Option.bind (sto S_4 3 24 x3_2 (S_4 13 0)) fun S_5 =>
        Option.bind (fX3_setOwnTags S_5 x3_2 ((1 : Int32) <<< (x1 &&& 31))) fun S_6 =>
        some (x3_2, S_6)
      else
        none
    else
      none
set_option maxHeartbeats 4000000 in
set_option maxRecDepth 100000 in
theorem ctX3_addDream (l : Launch) {D : va_G} {cI : ClassId} {q : Nat → Nat} (S : St) (x1 : Int32) (x2 : Int32) (sz : Nat) {r1 : Int32} {S1 : St} (hf : fX3_addDream S x1 x2 = some (r1, S1)) : Met l yX3_addDream (Cond.code yX3_addDream cX3_addDream 4 (some .int) :: XALL) ({ frames := 4, cells := 0, slots := 0, locals := 89 } : Room) (va_Pc [.ref (q 0), .int x1, .int x2] (gPre D cI ((xw cI q) S) sz)) (gQi D (xw cI q) S (fun (r : Int32) (u : St) => r = r1 ∧ u = S1) sz) 0 0 (va_A ((xw cI q) S) sz) := by
  unfold fX3_addDream at hf
  refine Met.ofW (cc := cX3_addDream) (maxL := 4) (ret := (some .int)) (by decide) rfl ?_
  intro p e s m args below meth c s₁ B hml hv
  obtain ⟨rfl, hg⟩ := hv
  have C : Ctx p s m _ meth c cX3_addDream 4 RX3 (some .int) := Ctx.of B hml rfl
  obtain ⟨E, hw, hsz⟩ := g_start hg
  subst hsz
  have hl := lv_entry ([.ref (q 0), .int x1, .int x2]) (n := 4) (Nat.le_of_ble_eq_true rfl)
  rw [lg_entry_eq]
  generalize (lg_sl ([.ref (q 0), .int x1, .int x2]) ++ List.replicate (4 - (lg_sl ([.ref (q 0), .int x1, .int x2])).length) Slot.unset).toArray = ls at hl ⊢
  have hl : lv_has ls 4 [(0, .ref (q 0)), (1, .int x1), (2, .int x2)] := hl
  refine lv_aload_n C.1 C.2.1 dX3_addDream_0 rfl (lv_at hl 0 rfl) ?_
  refine lv_iload_n C.1 C.2.1 dX3_addDream_1 rfl (lv_at hl 1 rfl) ?_
  obtain ⟨z_1, hz_1, hf⟩ := bnd hf
  refine g_cve (wf := (xw cI q)) (S := S) (rest := []) xw_adr hw (g_runV (rm := ({ frames := 0, cells := 0, slots := 0, locals := 0 } : Room)) (As := [.int x1]) (rest := []) C E hw F_X3_requireTag (ctX3_requireTag l (cI := cI) (D := D) (q := q) S x1 _ hz_1) km_X3_76 0 rfl rfl rfl hl.1 rfl (Nat.le_of_ble_eq_true rfl) ⟨(Nat.le_of_ble_eq_true rfl), (Nat.le_of_ble_eq_true rfl)⟩ ⟨(Nat.le_of_ble_eq_true rfl), (Nat.le_of_ble_eq_true rfl)⟩ dX3_addDream_2) (fun H locs hw => ?_)
  refine lv_iload_n C.1 C.2.1 dX3_addDream_5 rfl (lv_at hl 2 rfl) ?_
  refine lv_iconst (v := 1) C.1 C.2.1 dX3_addDream_6 (by decide) ?_
  refine lv_icmp_lt (tgt := 16) C.1 C.2.1 dX3_addDream_7 (by decide) (fun hc => ?_) (fun hc => ?_)
  · have hf := ift hc hf
    cases hf
  · have hf := iff_ hc hf
    refine lv_iload_n C.1 C.2.1 dX3_addDream_10 rfl (lv_at hl 2 rfl) ?_
    refine lv_bipush (v := 9) C.1 C.2.1 dX3_addDream_11 (by decide) ?_
    refine lv_icmp_le (tgt := 26) C.1 C.2.1 dX3_addDream_13 (by decide) (fun hc => ?_) (fun hc => ?_)
    · have hf := ift hc hf
      refine lv_aload_n C.1 C.2.1 dX3_addDream_26 rfl (lv_at hl 0 rfl) ?_
      refine g_get C E hw inW3 0 rfl rfl 7 (by decide) kf_X3_84 rfl dX3_addDream_27 ?_
      refine lv_bipush (v := 24) C.1 C.2.1 dX3_addDream_30 (by decide) ?_
      refine lv_icmp_lt (tgt := 45) C.1 C.2.1 dX3_addDream_32 (by decide) (fun hc => ?_) (fun hc => ?_)
      · have hf := ift hc hf
        refine lv_aload_n C.1 C.2.1 dX3_addDream_45 rfl (lv_at hl 0 rfl) ?_
        refine g_get C E hw inW3 0 rfl rfl 7 (by decide) kf_X3_84 rfl dX3_addDream_46 ?_
        obtain ⟨x3_2, hx3_2, hf⟩ := bnd hf
        refine topi_b hx3_2 ?_
        refine lv_istore_n (lv' := [(3, .int x3_2), (0, .ref (q 0)), (1, .int x1), (2, .int x2)]) C.1 C.2.1 dX3_addDream_49 rfl hl (by decide) rfl (fun ls hl => ?_)
        refine lv_aload_n C.1 C.2.1 dX3_addDream_50 rfl (lv_at hl 1 rfl) ?_
        refine lv_dup C.1 C.2.1 dX3_addDream_51 rfl ?_
        refine g_get C E hw inW3 0 rfl rfl 7 (by decide) kf_X3_84 rfl dX3_addDream_52 ?_
        refine lv_iconst (v := 1) C.1 C.2.1 dX3_addDream_55 (by decide) ?_
        refine lv_iadd C.1 C.2.1 dX3_addDream_56 ?_
        obtain ⟨S_3, hS_3, hf⟩ := bnd hf
        refine g_put C E hw inW3 tyX3 tyX3_ok nmX3 0 rfl rfl 7 (by decide) kf_X3_84 rfl (by decide +kernel) (Nat.le_of_ble_eq_true rfl) (ws' := (xw cI q) S_3) (by rw [← Option.some.inj hS_3]; rfl) dX3_addDream_57 (fun H locs hw => ?_)
        refine lv_aload_n C.1 C.2.1 dX3_addDream_60 rfl (lv_at hl 1 rfl) ?_
        refine g_get C E hw inW3 0 rfl rfl 5 (by decide) kf_X3_37 rfl dX3_addDream_61 ?_
        refine lv_iload_n C.1 C.2.1 dX3_addDream_64 rfl (lv_at hl 0 rfl) ?_
        refine lv_iload_n C.1 C.2.1 dX3_addDream_65 rfl (lv_at hl 3 rfl) ?_
        obtain ⟨S_4, hS_4, hf⟩ := bnd hf
        refine g_ast C E hw 6 rfl (sto_some hS_4).1 (ws' := (xw cI q) S_4) (by rw [← (sto_some hS_4).2]; rfl) dX3_addDream_66 (fun H locs hw => ?_)
        refine lv_aload_n C.1 C.2.1 dX3_addDream_67 rfl (lv_at hl 1 rfl) ?_
        refine g_get C E hw inW3 0 rfl rfl 6 (by decide) kf_X3_40 rfl dX3_addDream_68 ?_
        refine lv_iload_n C.1 C.2.1 dX3_addDream_71 rfl (lv_at hl 0 rfl) ?_
        refine lv_aload_n C.1 C.2.1 dX3_addDream_72 rfl (lv_at hl 1 rfl) ?_
        refine g_get C E hw inW3 0 rfl rfl 8 (by decide) kf_X3_89 rfl dX3_addDream_73 ?_
        obtain ⟨S_5, hS_5, hf⟩ := bnd hf
        refine g_ast C E hw 7 rfl (sto_some hS_5).1 (ws' := (xw cI q) S_5) (by rw [← (sto_some hS_5).2]; rfl) dX3_addDream_76 (fun H locs hw => ?_)
        refine lv_aload_n C.1 C.2.1 dX3_addDream_77 rfl (lv_at hl 1 rfl) ?_
        refine lv_iload_n C.1 C.2.1 dX3_addDream_78 rfl (lv_at hl 0 rfl) ?_
        refine lv_iconst (v := 1) C.1 C.2.1 dX3_addDream_79 (by decide) ?_
        refine lv_iload_n C.1 C.2.1 dX3_addDream_80 rfl (lv_at hl 2 rfl) ?_
        refine lv_ishl C.1 C.2.1 dX3_addDream_81 ?_
        obtain ⟨S_6, hS_6, hf⟩ := bnd hf
        refine g_cve (wf := (xw cI q)) (S := S_5) (rest := []) xw_adr hw (g_runV (rm := ({ frames := 3, cells := 0, slots := 0, locals := 67 } : Room)) (As := [.int x3_2, .int ((1 : Int32) <<< (x1 &&& 31))]) (rest := []) C E hw F_X3_setOwnTags (ctX3_setOwnTags l (cI := cI) (D := D) (q := q) S_5 x3_2 ((1 : Int32) <<< (x1 &&& 31)) _ hS_6) km_X3_92 0 rfl rfl rfl hl.1 rfl (Nat.le_of_ble_eq_true rfl) ⟨(Nat.le_of_ble_eq_true rfl), (Nat.le_of_ble_eq_true rfl)⟩ ⟨(Nat.le_of_ble_eq_true rfl), (Nat.le_of_ble_eq_true rfl)⟩ dX3_addDream_82) (fun H locs hw => ?_)
        refine lv_iload_n C.1 C.2.1 dX3_addDream_85 rfl (lv_at hl 0 rfl) ?_
        exact g_iret C hw (Nat.le_of_ble_eq_true rfl) (Nat.le_of_ble_eq_true rfl) ⟨congrArg Prod.fst (Option.some.inj hf), congrArg Prod.snd (Option.some.inj hf)⟩ dX3_addDream_86
      · have hf := iff_ hc hf
        cases hf
    · have hf := iff_ hc hf
      cases hf
/-! DreamLedger.requireDream -/
def fX3_requireDream (S : St) (x1 : Int32) : Option Unit :=
  if x1 < 0 then
    none
  else
    if x1 < (S 12 0) then
      some ()
    else
      none
set_option maxHeartbeats 4000000 in
set_option maxRecDepth 100000 in
theorem ctX3_requireDream (l : Launch) {D : va_G} {cI : ClassId} {q : Nat → Nat} (S : St) (x1 : Int32) (sz : Nat) {r1 : Unit} (hf : fX3_requireDream S x1 = some r1) : Met l yX3_requireDream (Cond.code yX3_requireDream cX3_requireDream 2 none :: XALL) ({ frames := 0, cells := 0, slots := 0, locals := 0 } : Room) (va_Pc [.ref (q 0), .int x1] (gPre D cI ((xw cI q) S) sz)) (gQv D (xw cI q) S (fun (u : St) => u = S) sz) 0 0 (va_A ((xw cI q) S) sz) := by
  unfold fX3_requireDream at hf
  refine Met.ofW (cc := cX3_requireDream) (maxL := 2) (ret := none) (by decide) rfl ?_
  intro p e s m args below meth c s₁ B hml hv
  obtain ⟨rfl, hg⟩ := hv
  have C : Ctx p s m _ meth c cX3_requireDream 2 RX3 none := Ctx.of B hml rfl
  obtain ⟨E, hw, hsz⟩ := g_start hg
  subst hsz
  have hl := lv_entry ([.ref (q 0), .int x1]) (n := 2) (Nat.le_of_ble_eq_true rfl)
  rw [lg_entry_eq]
  generalize (lg_sl ([.ref (q 0), .int x1]) ++ List.replicate (2 - (lg_sl ([.ref (q 0), .int x1])).length) Slot.unset).toArray = ls at hl ⊢
  have hl : lv_has ls 2 [(0, .ref (q 0)), (1, .int x1)] := hl
  refine lv_iload_n C.1 C.2.1 dX3_requireDream_0 rfl (lv_at hl 1 rfl) ?_
  refine lv_if_lt (tgt := 12) C.1 C.2.1 dX3_requireDream_1 (by decide) (fun hc => ?_) (fun hc => ?_)
  · have hf := ift hc hf
    cases hf
  · have hf := iff_ hc hf
    refine lv_iload_n C.1 C.2.1 dX3_requireDream_4 rfl (lv_at hl 1 rfl) ?_
    refine lv_aload_n C.1 C.2.1 dX3_requireDream_5 rfl (lv_at hl 0 rfl) ?_
    refine g_get C E hw inW3 0 rfl rfl 7 (by decide) kf_X3_84 rfl dX3_requireDream_6 ?_
    refine lv_icmp_lt (tgt := 22) C.1 C.2.1 dX3_requireDream_9 (by decide) (fun hc => ?_) (fun hc => ?_)
    · have hf := ift hc hf
      exact g_vret C hw (Nat.le_of_ble_eq_true rfl) (Nat.le_of_ble_eq_true rfl) rfl dX3_requireDream_22
    · have hf := iff_ hc hf
      cases hf
/-! DreamLedger.tagDream -/
def fX3_tagDream (S : St) (x1 : Int32) (x2 : Int32) : Option (Int32 × St) :=
  Option.bind (fX3_requireDream S x1) fun z_1 =>
  Option.bind (fX3_requireTag S x2) fun z_2 =>
  Option.bind (ld S 0 24 x1) fun v_3 =>
  Option.bind (fX3_isIn x2 v_3) fun v_4 =>
  if v_4 = 0 then
    Option.bind (ld S 0 24 x1) fun v_5 =>
    Option.bind (fX3_setOwnTags S x1 (v_5 ||| ((1 : Int32) <<< (x2 &&& 31)))) fun S_6 =>
    Option.bind (ld S_6 0 24 x1) fun v_7 =>
    Option.bind (fJ6_bitCount_0f7a4 v_7) fun v_8 =>
    some (v_8, S_6)
  else
    none
set_option maxHeartbeats 4000000 in
set_option maxRecDepth 100000 in
theorem ctX3_tagDream (l : Launch) {D : va_G} {cI : ClassId} {q : Nat → Nat} (S : St) (x1 : Int32) (x2 : Int32) (sz : Nat) {r1 : Int32} {S1 : St} (hf : fX3_tagDream S x1 x2 = some (r1, S1)) : Met l yX3_tagDream (Cond.code yX3_tagDream cX3_tagDream 3 (some .int) :: XALL) ({ frames := 4, cells := 0, slots := 0, locals := 89 } : Room) (va_Pc [.ref (q 0), .int x1, .int x2] (gPre D cI ((xw cI q) S) sz)) (gQi D (xw cI q) S (fun (r : Int32) (u : St) => r = r1 ∧ u = S1) sz) 0 0 (va_A ((xw cI q) S) sz) := by
  unfold fX3_tagDream at hf
  refine Met.ofW (cc := cX3_tagDream) (maxL := 3) (ret := (some .int)) (by decide) rfl ?_
  intro p e s m args below meth c s₁ B hml hv
  obtain ⟨rfl, hg⟩ := hv
  have C : Ctx p s m _ meth c cX3_tagDream 3 RX3 (some .int) := Ctx.of B hml rfl
  obtain ⟨E, hw, hsz⟩ := g_start hg
  subst hsz
  have hl := lv_entry ([.ref (q 0), .int x1, .int x2]) (n := 3) (Nat.le_of_ble_eq_true rfl)
  rw [lg_entry_eq]
  generalize (lg_sl ([.ref (q 0), .int x1, .int x2]) ++ List.replicate (3 - (lg_sl ([.ref (q 0), .int x1, .int x2])).length) Slot.unset).toArray = ls at hl ⊢
  have hl : lv_has ls 3 [(0, .ref (q 0)), (1, .int x1), (2, .int x2)] := hl
  refine lv_aload_n C.1 C.2.1 dX3_tagDream_0 rfl (lv_at hl 0 rfl) ?_
  refine lv_iload_n C.1 C.2.1 dX3_tagDream_1 rfl (lv_at hl 1 rfl) ?_
  obtain ⟨z_1, hz_1, hf⟩ := bnd hf
  refine g_cve (wf := (xw cI q)) (S := S) (rest := []) xw_adr hw (g_runV (rm := ({ frames := 0, cells := 0, slots := 0, locals := 0 } : Room)) (As := [.int x1]) (rest := []) C E hw F_X3_requireDream (ctX3_requireDream l (cI := cI) (D := D) (q := q) S x1 _ hz_1) km_X3_95 0 rfl rfl rfl hl.1 rfl (Nat.le_of_ble_eq_true rfl) ⟨(Nat.le_of_ble_eq_true rfl), (Nat.le_of_ble_eq_true rfl)⟩ ⟨(Nat.le_of_ble_eq_true rfl), (Nat.le_of_ble_eq_true rfl)⟩ dX3_tagDream_2) (fun H locs hw => ?_)
  refine lv_aload_n C.1 C.2.1 dX3_tagDream_5 rfl (lv_at hl 0 rfl) ?_
  refine lv_iload_n C.1 C.2.1 dX3_tagDream_6 rfl (lv_at hl 2 rfl) ?_
  obtain ⟨z_2, hz_2, hf⟩ := bnd hf
  refine g_cve (wf := (xw cI q)) (S := S) (rest := []) xw_adr hw (g_runV (rm := ({ frames := 0, cells := 0, slots := 0, locals := 0 } : Room)) (As := [.int x2]) (rest := []) C E hw F_X3_requireTag (ctX3_requireTag l (cI := cI) (D := D) (q := q) S x2 _ hz_2) km_X3_76 0 rfl rfl rfl hl.1 rfl (Nat.le_of_ble_eq_true rfl) ⟨(Nat.le_of_ble_eq_true rfl), (Nat.le_of_ble_eq_true rfl)⟩ ⟨(Nat.le_of_ble_eq_true rfl), (Nat.le_of_ble_eq_true rfl)⟩ dX3_tagDream_7) (fun H locs hw => ?_)
  refine lv_iload_n C.1 C.2.1 dX3_tagDream_10 rfl (lv_at hl 2 rfl) ?_
  refine lv_aload_n C.1 C.2.1 dX3_tagDream_11 rfl (lv_at hl 0 rfl) ?_
  refine g_get C E hw inW3 0 rfl rfl 3 (by decide) kf_X3_30 rfl dX3_tagDream_12 ?_
  refine lv_iload_n C.1 C.2.1 dX3_tagDream_15 rfl (lv_at hl 1 rfl) ?_
  obtain ⟨v_3, hv_3, hf⟩ := bnd hf
  refine g_ald C E hw 4 rfl (ld_some hv_3) dX3_tagDream_16 ?_
  obtain ⟨v_4, hv_4, hf⟩ := bnd hf
  refine g_ci0e (rest := []) hw (g_run0 (rm := ({ frames := 0, cells := 0, slots := 0, locals := 0 } : Room)) (As := [.int x2, .int v_3]) (rest := []) C F_X3_isIn (ctX3_isIn l x2 v_3 hv_4) km_X3_98 rfl hl.1 rfl (Nat.le_of_ble_eq_true rfl) ⟨(Nat.le_of_ble_eq_true rfl), (Nat.le_of_ble_eq_true rfl)⟩ ⟨(Nat.le_of_ble_eq_true rfl), (Nat.le_of_ble_eq_true rfl)⟩ dX3_tagDream_17) (fun H locs hw => ?_)
  refine lv_if_eq (tgt := 33) C.1 C.2.1 dX3_tagDream_20 (by decide) (fun hc => ?_) (fun hc => ?_)
  · have hf := ift hc hf
    refine lv_aload_n C.1 C.2.1 dX3_tagDream_33 rfl (lv_at hl 0 rfl) ?_
    refine lv_iload_n C.1 C.2.1 dX3_tagDream_34 rfl (lv_at hl 1 rfl) ?_
    refine lv_aload_n C.1 C.2.1 dX3_tagDream_35 rfl (lv_at hl 0 rfl) ?_
    refine g_get C E hw inW3 0 rfl rfl 3 (by decide) kf_X3_30 rfl dX3_tagDream_36 ?_
    refine lv_iload_n C.1 C.2.1 dX3_tagDream_39 rfl (lv_at hl 1 rfl) ?_
    obtain ⟨v_5, hv_5, hf⟩ := bnd hf
    refine g_ald C E hw 4 rfl (ld_some hv_5) dX3_tagDream_40 ?_
    refine lv_iconst (v := 1) C.1 C.2.1 dX3_tagDream_41 (by decide) ?_
    refine lv_iload_n C.1 C.2.1 dX3_tagDream_42 rfl (lv_at hl 2 rfl) ?_
    refine lv_ishl C.1 C.2.1 dX3_tagDream_43 ?_
    refine lv_ior C.1 C.2.1 dX3_tagDream_44 ?_
    obtain ⟨S_6, hS_6, hf⟩ := bnd hf
    refine g_cve (wf := (xw cI q)) (S := S) (rest := []) xw_adr hw (g_runV (rm := ({ frames := 3, cells := 0, slots := 0, locals := 67 } : Room)) (As := [.int x1, .int (v_5 ||| ((1 : Int32) <<< (x2 &&& 31)))]) (rest := []) C E hw F_X3_setOwnTags (ctX3_setOwnTags l (cI := cI) (D := D) (q := q) S x1 (v_5 ||| ((1 : Int32) <<< (x2 &&& 31))) _ hS_6) km_X3_92 0 rfl rfl rfl hl.1 rfl (Nat.le_of_ble_eq_true rfl) ⟨(Nat.le_of_ble_eq_true rfl), (Nat.le_of_ble_eq_true rfl)⟩ ⟨(Nat.le_of_ble_eq_true rfl), (Nat.le_of_ble_eq_true rfl)⟩ dX3_tagDream_45) (fun H locs hw => ?_)
    refine lv_aload_n C.1 C.2.1 dX3_tagDream_48 rfl (lv_at hl 0 rfl) ?_
    refine g_get C E hw inW3 0 rfl rfl 3 (by decide) kf_X3_30 rfl dX3_tagDream_49 ?_
    refine lv_iload_n C.1 C.2.1 dX3_tagDream_52 rfl (lv_at hl 1 rfl) ?_
    obtain ⟨v_7, hv_7, hf⟩ := bnd hf
    refine g_ald C E hw 4 rfl (ld_some hv_7) dX3_tagDream_53 ?_
    obtain ⟨v_8, hv_8, hf⟩ := bnd hf
    refine g_ci0e (rest := []) hw (g_run0 (rm := ({ frames := 0, cells := 0, slots := 0, locals := 0 } : Room)) (As := [.int v_7]) (rest := []) C F_J6_bitCount_0f7a4 (ctJ6_bitCount_0f7a4 l v_7 hv_8) km_X3_104 rfl hl.1 rfl (Nat.le_of_ble_eq_true rfl) ⟨(Nat.le_of_ble_eq_true rfl), (Nat.le_of_ble_eq_true rfl)⟩ ⟨(Nat.le_of_ble_eq_true rfl), (Nat.le_of_ble_eq_true rfl)⟩ dX3_tagDream_54) (fun H locs hw => ?_)
    exact g_iret C hw (Nat.le_of_ble_eq_true rfl) (Nat.le_of_ble_eq_true rfl) ⟨congrArg Prod.fst (Option.some.inj hf), congrArg Prod.snd (Option.some.inj hf)⟩ dX3_tagDream_57
  · have hf := iff_ hc hf
    cases hf
/-! DreamLedger.untagDream -/
def fX3_untagDream (S : St) (x1 : Int32) (x2 : Int32) : Option (Int32 × St) :=
  Option.bind (fX3_requireDream S x1) fun z_1 =>
  Option.bind (fX3_requireTag S x2) fun z_2 =>
  Option.bind (ld S 0 24 x1) fun v_3 =>
  Option.bind (fX3_isIn x2 v_3) fun v_4 =>
  if v_4 = 0 then
    none
  else
    Option.bind (ld S 0 24 x1) fun v_5 =>
    if v_5 = ((1 : Int32) <<< (x2 &&& 31)) then
      none
    else
      Option.bind (ld S 0 24 x1) fun v_6 =>
      Option.bind (fX3_setOwnTags S x1 (v_6 &&& (((1 : Int32) <<< (x2 &&& 31)) ^^^ (-1)))) fun S_7 =>
      Option.bind (ld S_7 0 24 x1) fun v_8 =>
      Option.bind (fJ6_bitCount_0f7a4 v_8) fun v_9 =>
      some (v_9, S_7)
set_option maxHeartbeats 4000000 in
set_option maxRecDepth 100000 in
theorem ctX3_untagDream (l : Launch) {D : va_G} {cI : ClassId} {q : Nat → Nat} (S : St) (x1 : Int32) (x2 : Int32) (sz : Nat) {r1 : Int32} {S1 : St} (hf : fX3_untagDream S x1 x2 = some (r1, S1)) : Met l yX3_untagDream (Cond.code yX3_untagDream cX3_untagDream 3 (some .int) :: XALL) ({ frames := 4, cells := 0, slots := 0, locals := 89 } : Room) (va_Pc [.ref (q 0), .int x1, .int x2] (gPre D cI ((xw cI q) S) sz)) (gQi D (xw cI q) S (fun (r : Int32) (u : St) => r = r1 ∧ u = S1) sz) 0 0 (va_A ((xw cI q) S) sz) := by
  unfold fX3_untagDream at hf
  refine Met.ofW (cc := cX3_untagDream) (maxL := 3) (ret := (some .int)) (by decide) rfl ?_
  intro p e s m args below meth c s₁ B hml hv
  obtain ⟨rfl, hg⟩ := hv
  have C : Ctx p s m _ meth c cX3_untagDream 3 RX3 (some .int) := Ctx.of B hml rfl
  obtain ⟨E, hw, hsz⟩ := g_start hg
  subst hsz
  have hl := lv_entry ([.ref (q 0), .int x1, .int x2]) (n := 3) (Nat.le_of_ble_eq_true rfl)
  rw [lg_entry_eq]
  generalize (lg_sl ([.ref (q 0), .int x1, .int x2]) ++ List.replicate (3 - (lg_sl ([.ref (q 0), .int x1, .int x2])).length) Slot.unset).toArray = ls at hl ⊢
  have hl : lv_has ls 3 [(0, .ref (q 0)), (1, .int x1), (2, .int x2)] := hl
  refine lv_aload_n C.1 C.2.1 dX3_untagDream_0 rfl (lv_at hl 0 rfl) ?_
  refine lv_iload_n C.1 C.2.1 dX3_untagDream_1 rfl (lv_at hl 1 rfl) ?_
  obtain ⟨z_1, hz_1, hf⟩ := bnd hf
  refine g_cve (wf := (xw cI q)) (S := S) (rest := []) xw_adr hw (g_runV (rm := ({ frames := 0, cells := 0, slots := 0, locals := 0 } : Room)) (As := [.int x1]) (rest := []) C E hw F_X3_requireDream (ctX3_requireDream l (cI := cI) (D := D) (q := q) S x1 _ hz_1) km_X3_95 0 rfl rfl rfl hl.1 rfl (Nat.le_of_ble_eq_true rfl) ⟨(Nat.le_of_ble_eq_true rfl), (Nat.le_of_ble_eq_true rfl)⟩ ⟨(Nat.le_of_ble_eq_true rfl), (Nat.le_of_ble_eq_true rfl)⟩ dX3_untagDream_2) (fun H locs hw => ?_)
  refine lv_aload_n C.1 C.2.1 dX3_untagDream_5 rfl (lv_at hl 0 rfl) ?_
  refine lv_iload_n C.1 C.2.1 dX3_untagDream_6 rfl (lv_at hl 2 rfl) ?_
  obtain ⟨z_2, hz_2, hf⟩ := bnd hf
  refine g_cve (wf := (xw cI q)) (S := S) (rest := []) xw_adr hw (g_runV (rm := ({ frames := 0, cells := 0, slots := 0, locals := 0 } : Room)) (As := [.int x2]) (rest := []) C E hw F_X3_requireTag (ctX3_requireTag l (cI := cI) (D := D) (q := q) S x2 _ hz_2) km_X3_76 0 rfl rfl rfl hl.1 rfl (Nat.le_of_ble_eq_true rfl) ⟨(Nat.le_of_ble_eq_true rfl), (Nat.le_of_ble_eq_true rfl)⟩ ⟨(Nat.le_of_ble_eq_true rfl), (Nat.le_of_ble_eq_true rfl)⟩ dX3_untagDream_7) (fun H locs hw => ?_)
  refine lv_iload_n C.1 C.2.1 dX3_untagDream_10 rfl (lv_at hl 2 rfl) ?_
  refine lv_aload_n C.1 C.2.1 dX3_untagDream_11 rfl (lv_at hl 0 rfl) ?_
  refine g_get C E hw inW3 0 rfl rfl 3 (by decide) kf_X3_30 rfl dX3_untagDream_12 ?_
  refine lv_iload_n C.1 C.2.1 dX3_untagDream_15 rfl (lv_at hl 1 rfl) ?_
  obtain ⟨v_3, hv_3, hf⟩ := bnd hf
  refine g_ald C E hw 4 rfl (ld_some hv_3) dX3_untagDream_16 ?_
  obtain ⟨v_4, hv_4, hf⟩ := bnd hf
  refine g_ci0e (rest := []) hw (g_run0 (rm := ({ frames := 0, cells := 0, slots := 0, locals := 0 } : Room)) (As := [.int x2, .int v_3]) (rest := []) C F_X3_isIn (ctX3_isIn l x2 v_3 hv_4) km_X3_98 rfl hl.1 rfl (Nat.le_of_ble_eq_true rfl) ⟨(Nat.le_of_ble_eq_true rfl), (Nat.le_of_ble_eq_true rfl)⟩ ⟨(Nat.le_of_ble_eq_true rfl), (Nat.le_of_ble_eq_true rfl)⟩ dX3_untagDream_17) (fun H locs hw => ?_)
  refine lv_if_ne (tgt := 33) C.1 C.2.1 dX3_untagDream_20 (by decide) (fun hc => ?_) (fun hc => ?_)
  · have hf := iff_ hc hf
    refine lv_aload_n C.1 C.2.1 dX3_untagDream_33 rfl (lv_at hl 0 rfl) ?_
    refine g_get C E hw inW3 0 rfl rfl 3 (by decide) kf_X3_30 rfl dX3_untagDream_34 ?_
    refine lv_iload_n C.1 C.2.1 dX3_untagDream_37 rfl (lv_at hl 1 rfl) ?_
    obtain ⟨v_5, hv_5, hf⟩ := bnd hf
    refine g_ald C E hw 4 rfl (ld_some hv_5) dX3_untagDream_38 ?_
    refine lv_iconst (v := 1) C.1 C.2.1 dX3_untagDream_39 (by decide) ?_
    refine lv_iload_n C.1 C.2.1 dX3_untagDream_40 rfl (lv_at hl 2 rfl) ?_
    refine lv_ishl C.1 C.2.1 dX3_untagDream_41 ?_
    refine lv_icmp_ne (tgt := 55) C.1 C.2.1 dX3_untagDream_42 (by decide) (fun hc => ?_) (fun hc => ?_)
    · have hf := iff_ hc hf
      refine lv_aload_n C.1 C.2.1 dX3_untagDream_55 rfl (lv_at hl 0 rfl) ?_
      refine lv_iload_n C.1 C.2.1 dX3_untagDream_56 rfl (lv_at hl 1 rfl) ?_
      refine lv_aload_n C.1 C.2.1 dX3_untagDream_57 rfl (lv_at hl 0 rfl) ?_
      refine g_get C E hw inW3 0 rfl rfl 3 (by decide) kf_X3_30 rfl dX3_untagDream_58 ?_
      refine lv_iload_n C.1 C.2.1 dX3_untagDream_61 rfl (lv_at hl 1 rfl) ?_
      obtain ⟨v_6, hv_6, hf⟩ := bnd hf
      refine g_ald C E hw 4 rfl (ld_some hv_6) dX3_untagDream_62 ?_
      refine lv_iconst (v := 1) C.1 C.2.1 dX3_untagDream_63 (by decide) ?_
      refine lv_iload_n C.1 C.2.1 dX3_untagDream_64 rfl (lv_at hl 2 rfl) ?_
      refine lv_ishl C.1 C.2.1 dX3_untagDream_65 ?_
      refine lv_iconst (v := (-1)) C.1 C.2.1 dX3_untagDream_66 (by decide) ?_
      refine lv_ixor C.1 C.2.1 dX3_untagDream_67 ?_
      refine lv_iand C.1 C.2.1 dX3_untagDream_68 ?_
      obtain ⟨S_7, hS_7, hf⟩ := bnd hf
      refine g_cve (wf := (xw cI q)) (S := S) (rest := []) xw_adr hw (g_runV (rm := ({ frames := 3, cells := 0, slots := 0, locals := 67 } : Room)) (As := [.int x1, .int (v_6 &&& (((1 : Int32) <<< (x2 &&& 31)) ^^^ (-1)))]) (rest := []) C E hw F_X3_setOwnTags (ctX3_setOwnTags l (cI := cI) (D := D) (q := q) S x1 (v_6 &&& (((1 : Int32) <<< (x2 &&& 31)) ^^^ (-1))) _ hS_7) km_X3_92 0 rfl rfl rfl hl.1 rfl (Nat.le_of_ble_eq_true rfl) ⟨(Nat.le_of_ble_eq_true rfl), (Nat.le_of_ble_eq_true rfl)⟩ ⟨(Nat.le_of_ble_eq_true rfl), (Nat.le_of_ble_eq_true rfl)⟩ dX3_untagDream_69) (fun H locs hw => ?_)
      refine lv_aload_n C.1 C.2.1 dX3_untagDream_72 rfl (lv_at hl 0 rfl) ?_
      refine g_get C E hw inW3 0 rfl rfl 3 (by decide) kf_X3_30 rfl dX3_untagDream_73 ?_
      refine lv_iload_n C.1 C.2.1 dX3_untagDream_76 rfl (lv_at hl 1 rfl) ?_
      obtain ⟨v_8, hv_8, hf⟩ := bnd hf
      refine g_ald C E hw 4 rfl (ld_some hv_8) dX3_untagDream_77 ?_
      obtain ⟨v_9, hv_9, hf⟩ := bnd hf
      refine g_ci0e (rest := []) hw (g_run0 (rm := ({ frames := 0, cells := 0, slots := 0, locals := 0 } : Room)) (As := [.int v_8]) (rest := []) C F_J6_bitCount_0f7a4 (ctJ6_bitCount_0f7a4 l v_8 hv_9) km_X3_104 rfl hl.1 rfl (Nat.le_of_ble_eq_true rfl) ⟨(Nat.le_of_ble_eq_true rfl), (Nat.le_of_ble_eq_true rfl)⟩ ⟨(Nat.le_of_ble_eq_true rfl), (Nat.le_of_ble_eq_true rfl)⟩ dX3_untagDream_78) (fun H locs hw => ?_)
      exact g_iret C hw (Nat.le_of_ble_eq_true rfl) (Nat.le_of_ble_eq_true rfl) ⟨congrArg Prod.fst (Option.some.inj hf), congrArg Prod.snd (Option.some.inj hf)⟩ dX3_untagDream_81
    · have hf := ift hc hf
      cases hf
  · have hf := ift hc hf
    cases hf
/-! DreamLedger.recall -/
def fX3_recall (S : St) (x1 : Int32) (x2 : Int32) : Option (Int32 × St) :=
  Option.bind (fX3_requireDream S x1) fun z_1 =>
  if x2 < 0 then
    none
  else
    if x2 ≤ 9 then
      Option.bind (ld S 2 24 x1) fun v_2 =>
      Option.bind (sto S 2 24 x1 x2) fun S_3 =>
      some (v_2, S_3)
    else
      none
set_option maxHeartbeats 4000000 in
set_option maxRecDepth 100000 in
theorem ctX3_recall (l : Launch) {D : va_G} {cI : ClassId} {q : Nat → Nat} (S : St) (x1 : Int32) (x2 : Int32) (sz : Nat) {r1 : Int32} {S1 : St} (hf : fX3_recall S x1 x2 = some (r1, S1)) : Met l yX3_recall (Cond.code yX3_recall cX3_recall 4 (some .int) :: XALL) ({ frames := 1, cells := 0, slots := 0, locals := 21 } : Room) (va_Pc [.ref (q 0), .int x1, .int x2] (gPre D cI ((xw cI q) S) sz)) (gQi D (xw cI q) S (fun (r : Int32) (u : St) => r = r1 ∧ u = S1) sz) 0 0 (va_A ((xw cI q) S) sz) := by
  unfold fX3_recall at hf
  refine Met.ofW (cc := cX3_recall) (maxL := 4) (ret := (some .int)) (by decide) rfl ?_
  intro p e s m args below meth c s₁ B hml hv
  obtain ⟨rfl, hg⟩ := hv
  have C : Ctx p s m _ meth c cX3_recall 4 RX3 (some .int) := Ctx.of B hml rfl
  obtain ⟨E, hw, hsz⟩ := g_start hg
  subst hsz
  have hl := lv_entry ([.ref (q 0), .int x1, .int x2]) (n := 4) (Nat.le_of_ble_eq_true rfl)
  rw [lg_entry_eq]
  generalize (lg_sl ([.ref (q 0), .int x1, .int x2]) ++ List.replicate (4 - (lg_sl ([.ref (q 0), .int x1, .int x2])).length) Slot.unset).toArray = ls at hl ⊢
  have hl : lv_has ls 4 [(0, .ref (q 0)), (1, .int x1), (2, .int x2)] := hl
  refine lv_aload_n C.1 C.2.1 dX3_recall_0 rfl (lv_at hl 0 rfl) ?_
  refine lv_iload_n C.1 C.2.1 dX3_recall_1 rfl (lv_at hl 1 rfl) ?_
  obtain ⟨z_1, hz_1, hf⟩ := bnd hf
  refine g_cve (wf := (xw cI q)) (S := S) (rest := []) xw_adr hw (g_runV (rm := ({ frames := 0, cells := 0, slots := 0, locals := 0 } : Room)) (As := [.int x1]) (rest := []) C E hw F_X3_requireDream (ctX3_requireDream l (cI := cI) (D := D) (q := q) S x1 _ hz_1) km_X3_95 0 rfl rfl rfl hl.1 rfl (Nat.le_of_ble_eq_true rfl) ⟨(Nat.le_of_ble_eq_true rfl), (Nat.le_of_ble_eq_true rfl)⟩ ⟨(Nat.le_of_ble_eq_true rfl), (Nat.le_of_ble_eq_true rfl)⟩ dX3_recall_2) (fun H locs hw => ?_)
  refine lv_iload_n C.1 C.2.1 dX3_recall_5 rfl (lv_at hl 2 rfl) ?_
  refine lv_if_lt (tgt := 15) C.1 C.2.1 dX3_recall_6 (by decide) (fun hc => ?_) (fun hc => ?_)
  · have hf := ift hc hf
    cases hf
  · have hf := iff_ hc hf
    refine lv_iload_n C.1 C.2.1 dX3_recall_9 rfl (lv_at hl 2 rfl) ?_
    refine lv_bipush (v := 9) C.1 C.2.1 dX3_recall_10 (by decide) ?_
    refine lv_icmp_le (tgt := 25) C.1 C.2.1 dX3_recall_12 (by decide) (fun hc => ?_) (fun hc => ?_)
    · have hf := ift hc hf
      refine lv_aload_n C.1 C.2.1 dX3_recall_25 rfl (lv_at hl 0 rfl) ?_
      refine g_get C E hw inW3 0 rfl rfl 5 (by decide) kf_X3_37 rfl dX3_recall_26 ?_
      refine lv_iload_n C.1 C.2.1 dX3_recall_29 rfl (lv_at hl 1 rfl) ?_
      obtain ⟨v_2, hv_2, hf⟩ := bnd hf
      refine g_ald C E hw 6 rfl (ld_some hv_2) dX3_recall_30 ?_
      refine lv_istore_n (lv' := [(3, .int v_2), (0, .ref (q 0)), (1, .int x1), (2, .int x2)]) C.1 C.2.1 dX3_recall_31 rfl hl (by decide) rfl (fun ls hl => ?_)
      refine lv_aload_n C.1 C.2.1 dX3_recall_32 rfl (lv_at hl 1 rfl) ?_
      refine g_get C E hw inW3 0 rfl rfl 5 (by decide) kf_X3_37 rfl dX3_recall_33 ?_
      refine lv_iload_n C.1 C.2.1 dX3_recall_36 rfl (lv_at hl 2 rfl) ?_
      refine lv_iload_n C.1 C.2.1 dX3_recall_37 rfl (lv_at hl 3 rfl) ?_
      obtain ⟨S_3, hS_3, hf⟩ := bnd hf
      refine g_ast C E hw 6 rfl (sto_some hS_3).1 (ws' := (xw cI q) S_3) (by rw [← (sto_some hS_3).2]; rfl) dX3_recall_38 (fun H locs hw => ?_)
      refine lv_iload_n C.1 C.2.1 dX3_recall_39 rfl (lv_at hl 0 rfl) ?_
      exact g_iret C hw (Nat.le_of_ble_eq_true rfl) (Nat.le_of_ble_eq_true rfl) ⟨congrArg Prod.fst (Option.some.inj hf), congrArg Prod.snd (Option.some.inj hf)⟩ dX3_recall_40
    · have hf := iff_ hc hf
      cases hf
/-! DreamLedger.requireNights -/
def fX3_requireNights (S : St) (x1 : Int32) : Option Unit :=
  if x1 < 1 then
    none
  else
    if x1 ≤ 30 then
      some ()
    else
      none
set_option maxHeartbeats 4000000 in
set_option maxRecDepth 100000 in
theorem ctX3_requireNights (l : Launch) {D : va_G} {cI : ClassId} {q : Nat → Nat} (S : St) (x1 : Int32) (sz : Nat) {r1 : Unit} (hf : fX3_requireNights S x1 = some r1) : Met l yX3_requireNights (Cond.code yX3_requireNights cX3_requireNights 2 none :: XALL) ({ frames := 0, cells := 0, slots := 0, locals := 0 } : Room) (va_Pc [.ref (q 0), .int x1] (gPre D cI ((xw cI q) S) sz)) (gQv D (xw cI q) S (fun (u : St) => u = S) sz) 0 0 (va_A ((xw cI q) S) sz) := by
  unfold fX3_requireNights at hf
  refine Met.ofW (cc := cX3_requireNights) (maxL := 2) (ret := none) (by decide) rfl ?_
  intro p e s m args below meth c s₁ B hml hv
  obtain ⟨rfl, hg⟩ := hv
  have C : Ctx p s m _ meth c cX3_requireNights 2 RX3 none := Ctx.of B hml rfl
  obtain ⟨E, hw, hsz⟩ := g_start hg
  subst hsz
  have hl := lv_entry ([.ref (q 0), .int x1]) (n := 2) (Nat.le_of_ble_eq_true rfl)
  rw [lg_entry_eq]
  generalize (lg_sl ([.ref (q 0), .int x1]) ++ List.replicate (2 - (lg_sl ([.ref (q 0), .int x1])).length) Slot.unset).toArray = ls at hl ⊢
  have hl : lv_has ls 2 [(0, .ref (q 0)), (1, .int x1)] := hl
  refine lv_iload_n C.1 C.2.1 dX3_requireNights_0 rfl (lv_at hl 1 rfl) ?_
  refine lv_iconst (v := 1) C.1 C.2.1 dX3_requireNights_1 (by decide) ?_
  refine lv_icmp_lt (tgt := 11) C.1 C.2.1 dX3_requireNights_2 (by decide) (fun hc => ?_) (fun hc => ?_)
  · have hf := ift hc hf
    cases hf
  · have hf := iff_ hc hf
    refine lv_iload_n C.1 C.2.1 dX3_requireNights_5 rfl (lv_at hl 1 rfl) ?_
    refine lv_bipush (v := 30) C.1 C.2.1 dX3_requireNights_6 (by decide) ?_
    refine lv_icmp_le (tgt := 21) C.1 C.2.1 dX3_requireNights_8 (by decide) (fun hc => ?_) (fun hc => ?_)
    · have hf := ift hc hf
      exact g_vret C hw (Nat.le_of_ble_eq_true rfl) (Nat.le_of_ble_eq_true rfl) rfl dX3_requireNights_21
    · have hf := iff_ hc hf
      cases hf
/-! DreamLedger.ownTagsOfLatest -/
def fX3_ownTagsOfLatest (S : St) : Option Int32 :=
  if (S 12 0) = 0 then
    some 0
  else
    Option.bind (ld S 0 24 ((S 12 0) - 1)) fun v_1 =>
    some v_1
set_option maxHeartbeats 4000000 in
set_option maxRecDepth 100000 in
theorem ctX3_ownTagsOfLatest (l : Launch) {D : va_G} {cI : ClassId} {q : Nat → Nat} (S : St) (sz : Nat) {r1 : Int32} (hf : fX3_ownTagsOfLatest S = some r1) : Met l yX3_ownTagsOfLatest (Cond.code yX3_ownTagsOfLatest cX3_ownTagsOfLatest 1 (some .int) :: XALL) ({ frames := 0, cells := 0, slots := 0, locals := 0 } : Room) (va_Pc [.ref (q 0)] (gPre D cI ((xw cI q) S) sz)) (gQi D (xw cI q) S (fun (r : Int32) (u : St) => r = r1 ∧ u = S) sz) 0 0 (va_A ((xw cI q) S) sz) := by
  unfold fX3_ownTagsOfLatest at hf
  refine Met.ofW (cc := cX3_ownTagsOfLatest) (maxL := 1) (ret := (some .int)) (by decide) rfl ?_
  intro p e s m args below meth c s₁ B hml hv
  obtain ⟨rfl, hg⟩ := hv
  have C : Ctx p s m _ meth c cX3_ownTagsOfLatest 1 RX3 (some .int) := Ctx.of B hml rfl
  obtain ⟨E, hw, hsz⟩ := g_start hg
  subst hsz
  have hl := lv_entry ([.ref (q 0)]) (n := 1) (Nat.le_of_ble_eq_true rfl)
  rw [lg_entry_eq]
  generalize (lg_sl ([.ref (q 0)]) ++ List.replicate (1 - (lg_sl ([.ref (q 0)])).length) Slot.unset).toArray = ls at hl ⊢
  have hl : lv_has ls 1 [(0, .ref (q 0))] := hl
  refine lv_aload_n C.1 C.2.1 dX3_ownTagsOfLatest_0 rfl (lv_at hl 0 rfl) ?_
  refine g_get C E hw inW3 0 rfl rfl 7 (by decide) kf_X3_84 rfl dX3_ownTagsOfLatest_1 ?_
  refine lv_if_ne (tgt := 11) C.1 C.2.1 dX3_ownTagsOfLatest_4 (by decide) (fun hc => ?_) (fun hc => ?_)
  · have hf := iff_ hc hf
    refine lv_aload_n C.1 C.2.1 dX3_ownTagsOfLatest_11 rfl (lv_at hl 0 rfl) ?_
    refine g_get C E hw inW3 0 rfl rfl 3 (by decide) kf_X3_30 rfl dX3_ownTagsOfLatest_12 ?_
    refine lv_aload_n C.1 C.2.1 dX3_ownTagsOfLatest_15 rfl (lv_at hl 0 rfl) ?_
    refine g_get C E hw inW3 0 rfl rfl 7 (by decide) kf_X3_84 rfl dX3_ownTagsOfLatest_16 ?_
    refine lv_iconst (v := 1) C.1 C.2.1 dX3_ownTagsOfLatest_19 (by decide) ?_
    refine lv_isub C.1 C.2.1 dX3_ownTagsOfLatest_20 ?_
    obtain ⟨v_1, hv_1, hf⟩ := bnd hf
    refine g_ald C E hw 4 rfl (ld_some hv_1) dX3_ownTagsOfLatest_21 ?_
    exact g_iret C hw (Nat.le_of_ble_eq_true rfl) (Nat.le_of_ble_eq_true rfl) ⟨Option.some.inj hf, rfl⟩ dX3_ownTagsOfLatest_22
  · have hf := ift hc hf
    refine lv_iconst (v := 0) C.1 C.2.1 dX3_ownTagsOfLatest_7 (by decide) ?_
    refine lv_goto (tgt := 22) C.1 C.2.1 dX3_ownTagsOfLatest_8 (by decide) ?_
    exact g_iret C hw (Nat.le_of_ble_eq_true rfl) (Nat.le_of_ble_eq_true rfl) ⟨Option.some.inj hf, rfl⟩ dX3_ownTagsOfLatest_22
/-! DreamLedger.vividnessAfter -/
def fX3_vividnessAfter_19 (S : St) (x1 : Int32) (x2 : Int32) (t0 : Int32) : Option Int32 :=
  if t0 = 0 then
    Option.bind (ld S 2 24 x1) fun v_3 =>
    Option.bind (some (if 0 < (v_3 - x2) then (v_3 - x2) else 0)) fun v_4 =>
    some v_4
  else
    Option.bind (ld S 2 24 x1) fun v_5 =>
    some v_5
set_option maxHeartbeats 4000000 in
set_option maxRecDepth 100000 in
theorem wX3_vividnessAfter_19 {p : Program} {l : Launch} {e : Env} {s : State} {m : MethodId} {args : Array Value} {below : List Frame} {meth : Method} {c : Code} {D : va_G} {cI : ClassId} {q : Nat → Nat} (C : Ctx p s m args meth c cX3_vividnessAfter 4 RX3 (some .int)) (E : gE D cI s) {r1 : Int32} (S : St) : ∀ (x1 : Int32) (x2 : Int32) (t0 : Int32), fX3_vividnessAfter_19 S x1 x2 t0 = some r1 → ∀ (H : Heap) (locs : List Loc) (ls : Array Slot), gW D ((xw cI q) S) ((xw cI q) S) s H locs → lv_has ls 4 [(0, .ref (q 0)), (1, .int x1), (2, .int x2)] → W p l e ({ frames := 1, cells := 0, slots := 0, locals := 21 } : Room) s m args below meth c H locs 0 0 (MQ below (gQi D (xw cI q) S (fun (r : Int32) (u : St) => r = r1 ∧ u = S) s.heap.size) args s 0 0 (va_A ((xw cI q) S) s.heap.size)) (F0 m 19 ls [.int t0]) := by
  intro x1 x2 t0 hf H locs ls hw hl
  unfold fX3_vividnessAfter_19 at hf
  refine lv_istore_n (lv' := [(3, .int t0), (0, .ref (q 0)), (1, .int x1), (2, .int x2)]) C.1 C.2.1 dX3_vividnessAfter_19 rfl hl (by decide) rfl (fun ls hl => ?_)
  refine lv_iload_n C.1 C.2.1 dX3_vividnessAfter_20 rfl (lv_at hl 0 rfl) ?_
  refine lv_if_eq (tgt := 33) C.1 C.2.1 dX3_vividnessAfter_21 (by decide) (fun hc => ?_) (fun hc => ?_)
  · have hf := ift hc hf
    refine lv_iconst (v := 0) C.1 C.2.1 dX3_vividnessAfter_33 (by decide) ?_
    refine lv_aload_n C.1 C.2.1 dX3_vividnessAfter_34 rfl (lv_at hl 1 rfl) ?_
    refine g_get C E hw inW3 0 rfl rfl 5 (by decide) kf_X3_37 rfl dX3_vividnessAfter_35 ?_
    refine lv_iload_n C.1 C.2.1 dX3_vividnessAfter_38 rfl (lv_at hl 2 rfl) ?_
    obtain ⟨v_3, hv_3, hf⟩ := bnd hf
    refine g_ald C E hw 6 rfl (ld_some hv_3) dX3_vividnessAfter_39 ?_
    refine lv_iload_n C.1 C.2.1 dX3_vividnessAfter_40 rfl (lv_at hl 3 rfl) ?_
    refine lv_isub C.1 C.2.1 dX3_vividnessAfter_41 ?_
    obtain ⟨v_4, hv_4, hf⟩ := bnd hf
    refine va_mmax C.1 C.2.1 (C.2.2.1.trans hl.1.symm) C.2.2.2.1 (C.2.2.2.2.1 _ km_X3_236) (C.2.2.2.2.1 _ kt_yJ9_max_7cf53) (C.2.2.2.2.1 _ kz_J9) (C.2.2.2.2.1 _ kc_yJ9_max_7cf53) (Nat.le_of_ble_eq_true rfl) (Nat.le_of_ble_eq_true rfl) (Nat.le_of_ble_eq_true rfl) (Nat.le_of_ble_eq_true rfl) dX3_vividnessAfter_42 ?_
    refine topi_b hv_4 ?_
    exact g_iret C hw (Nat.le_of_ble_eq_true rfl) (Nat.le_of_ble_eq_true rfl) ⟨Option.some.inj hf, rfl⟩ dX3_vividnessAfter_45
  · have hf := iff_ hc hf
    refine lv_aload_n C.1 C.2.1 dX3_vividnessAfter_24 rfl (lv_at hl 1 rfl) ?_
    refine g_get C E hw inW3 0 rfl rfl 5 (by decide) kf_X3_37 rfl dX3_vividnessAfter_25 ?_
    refine lv_iload_n C.1 C.2.1 dX3_vividnessAfter_28 rfl (lv_at hl 2 rfl) ?_
    obtain ⟨v_5, hv_5, hf⟩ := bnd hf
    refine g_ald C E hw 6 rfl (ld_some hv_5) dX3_vividnessAfter_29 ?_
    refine lv_goto (tgt := 45) C.1 C.2.1 dX3_vividnessAfter_30 (by decide) ?_
    exact g_iret C hw (Nat.le_of_ble_eq_true rfl) (Nat.le_of_ble_eq_true rfl) ⟨Option.some.inj hf, rfl⟩ dX3_vividnessAfter_45
def fX3_vividnessAfter (S : St) (x1 : Int32) (x2 : Int32) : Option Int32 :=
  Option.bind (ld S 0 24 x1) fun v_1 =>
  Option.bind (fX3_ownTagsOfLatest S) fun v_2 =>
  if (v_1 &&& v_2) = 0 then
    fX3_vividnessAfter_19 S x1 x2 0
  else
    fX3_vividnessAfter_19 S x1 x2 1
set_option maxHeartbeats 4000000 in
set_option maxRecDepth 100000 in
theorem ctX3_vividnessAfter (l : Launch) {D : va_G} {cI : ClassId} {q : Nat → Nat} (S : St) (x1 : Int32) (x2 : Int32) (sz : Nat) {r1 : Int32} (hf : fX3_vividnessAfter S x1 x2 = some r1) : Met l yX3_vividnessAfter (Cond.code yX3_vividnessAfter cX3_vividnessAfter 4 (some .int) :: XALL) ({ frames := 1, cells := 0, slots := 0, locals := 21 } : Room) (va_Pc [.ref (q 0), .int x1, .int x2] (gPre D cI ((xw cI q) S) sz)) (gQi D (xw cI q) S (fun (r : Int32) (u : St) => r = r1 ∧ u = S) sz) 0 0 (va_A ((xw cI q) S) sz) := by
  unfold fX3_vividnessAfter at hf
  refine Met.ofW (cc := cX3_vividnessAfter) (maxL := 4) (ret := (some .int)) (by decide) rfl ?_
  intro p e s m args below meth c s₁ B hml hv
  obtain ⟨rfl, hg⟩ := hv
  have C : Ctx p s m _ meth c cX3_vividnessAfter 4 RX3 (some .int) := Ctx.of B hml rfl
  obtain ⟨E, hw, hsz⟩ := g_start hg
  subst hsz
  have hl := lv_entry ([.ref (q 0), .int x1, .int x2]) (n := 4) (Nat.le_of_ble_eq_true rfl)
  rw [lg_entry_eq]
  generalize (lg_sl ([.ref (q 0), .int x1, .int x2]) ++ List.replicate (4 - (lg_sl ([.ref (q 0), .int x1, .int x2])).length) Slot.unset).toArray = ls at hl ⊢
  have hl : lv_has ls 4 [(0, .ref (q 0)), (1, .int x1), (2, .int x2)] := hl
  refine lv_aload_n C.1 C.2.1 dX3_vividnessAfter_0 rfl (lv_at hl 0 rfl) ?_
  refine g_get C E hw inW3 0 rfl rfl 3 (by decide) kf_X3_30 rfl dX3_vividnessAfter_1 ?_
  refine lv_iload_n C.1 C.2.1 dX3_vividnessAfter_4 rfl (lv_at hl 1 rfl) ?_
  obtain ⟨v_1, hv_1, hf⟩ := bnd hf
  refine g_ald C E hw 4 rfl (ld_some hv_1) dX3_vividnessAfter_5 ?_
  refine lv_aload_n C.1 C.2.1 dX3_vividnessAfter_6 rfl (lv_at hl 0 rfl) ?_
  obtain ⟨v_2, hv_2, hf⟩ := bnd hf
  refine g_cie (wf := (xw cI q)) (S := S) (rest := [.int v_1]) xw_adr hw (g_runV (rm := ({ frames := 0, cells := 0, slots := 0, locals := 0 } : Room)) (As := []) (rest := [.int v_1]) C E hw F_X3_ownTagsOfLatest (ctX3_ownTagsOfLatest l (cI := cI) (D := D) (q := q) S  _ hv_2) km_X3_233 0 rfl rfl rfl hl.1 rfl (Nat.le_of_ble_eq_true rfl) ⟨(Nat.le_of_ble_eq_true rfl), (Nat.le_of_ble_eq_true rfl)⟩ ⟨(Nat.le_of_ble_eq_true rfl), (Nat.le_of_ble_eq_true rfl)⟩ dX3_vividnessAfter_7) (fun H locs hw => ?_)
  refine lv_iand C.1 C.2.1 dX3_vividnessAfter_10 ?_
  refine lv_if_eq (tgt := 18) C.1 C.2.1 dX3_vividnessAfter_11 (by decide) (fun hc => ?_) (fun hc => ?_)
  · have hf := ift hc hf
    refine lv_iconst (v := 0) C.1 C.2.1 dX3_vividnessAfter_18 (by decide) ?_
    exact wX3_vividnessAfter_19 C E S x1 x2 0 hf _ _ _ hw (lv_sub hl [0, 1, 2] rfl)
  · have hf := iff_ hc hf
    refine lv_iconst (v := 1) C.1 C.2.1 dX3_vividnessAfter_14 (by decide) ?_
    refine lv_goto (tgt := 19) C.1 C.2.1 dX3_vividnessAfter_15 (by decide) ?_
    exact wX3_vividnessAfter_19 C E S x1 x2 1 hf _ _ _ hw (lv_sub hl [0, 1, 2] rfl)
/-! DreamLedger.countFadedAfter -/
def fX3_countFadedAfter_4 (S : St) (x1 : Int32) : Nat → Int32 → Int32 → Option Int32
  | 0, _, _ => none
  | n + 1, x2, x3 =>
    if (S 12 0) ≤ x3 then
      some x2
    else
      Option.bind (fX3_vividnessAfter S x3 x1) fun v_1 =>
      if v_1 = 0 then
        Option.bind (some (x2 + 1)) fun x2_3 =>
        Option.bind (some (x3 + 1)) fun x3_4 =>
        fX3_countFadedAfter_4 S x1 n x2_3 x3_4
      else
        Option.bind (some (x3 + 1)) fun x3_2 =>
        fX3_countFadedAfter_4 S x1 n x2 x3_2
set_option maxHeartbeats 4000000 in
set_option maxRecDepth 100000 in
theorem wX3_countFadedAfter_4 {p : Program} {l : Launch} {e : Env} {s : State} {m : MethodId} {args : Array Value} {below : List Frame} {meth : Method} {c : Code} {D : va_G} {cI : ClassId} {q : Nat → Nat} (C : Ctx p s m args meth c cX3_countFadedAfter 4 RX3 (some .int)) (E : gE D cI s) {r1 : Int32} (S : St) (x1 : Int32) : ∀ (n : Nat) (x2 : Int32) (x3 : Int32), fX3_countFadedAfter_4 S x1 n x2 x3 = some r1 → ∀ (H : Heap) (locs : List Loc) (ls : Array Slot), gW D ((xw cI q) S) ((xw cI q) S) s H locs → lv_has ls 4 [(0, .ref (q 0)), (1, .int x1), (2, .int x2), (3, .int x3)] → W p l e ({ frames := 2, cells := 0, slots := 0, locals := 44 } : Room) s m args below meth c H locs 0 0 (MQ below (gQi D (xw cI q) S (fun (r : Int32) (u : St) => r = r1 ∧ u = S) s.heap.size) args s 0 0 (va_A ((xw cI q) S) s.heap.size)) (F0 m 4 ls []) := by
  intro n
  induction n with
  | zero => intro x2 x3 hf; rw [fX3_countFadedAfter_4] at hf; cases hf
  | succ n ih =>
    intro x2 x3 hf H locs ls hw hl
    rw [fX3_countFadedAfter_4] at hf
    refine lv_iload_n C.1 C.2.1 dX3_countFadedAfter_4 rfl (lv_at hl 3 rfl) ?_
    refine lv_aload_n C.1 C.2.1 dX3_countFadedAfter_5 rfl (lv_at hl 0 rfl) ?_
    refine g_get C E hw inW3 0 rfl rfl 7 (by decide) kf_X3_84 rfl dX3_countFadedAfter_6 ?_
    refine lv_icmp_ge (tgt := 30) C.1 C.2.1 dX3_countFadedAfter_9 (by decide) (fun hc => ?_) (fun hc => ?_)
    · have hf := ift hc hf
      refine lv_iload_n C.1 C.2.1 dX3_countFadedAfter_30 rfl (lv_at hl 2 rfl) ?_
      exact g_iret C hw (Nat.le_of_ble_eq_true rfl) (Nat.le_of_ble_eq_true rfl) ⟨Option.some.inj hf, rfl⟩ dX3_countFadedAfter_31
    · have hf := iff_ hc hf
      refine lv_aload_n C.1 C.2.1 dX3_countFadedAfter_12 rfl (lv_at hl 0 rfl) ?_
      refine lv_iload_n C.1 C.2.1 dX3_countFadedAfter_13 rfl (lv_at hl 3 rfl) ?_
      refine lv_iload_n C.1 C.2.1 dX3_countFadedAfter_14 rfl (lv_at hl 1 rfl) ?_
      obtain ⟨v_1, hv_1, hf⟩ := bnd hf
      refine g_cie (wf := (xw cI q)) (S := S) (rest := []) xw_adr hw (g_runV (rm := ({ frames := 1, cells := 0, slots := 0, locals := 21 } : Room)) (As := [.int x3, .int x1]) (rest := []) C E hw F_X3_vividnessAfter (ctX3_vividnessAfter l (cI := cI) (D := D) (q := q) S x3 x1 _ hv_1) km_X3_118 0 rfl rfl rfl hl.1 rfl (Nat.le_of_ble_eq_true rfl) ⟨(Nat.le_of_ble_eq_true rfl), (Nat.le_of_ble_eq_true rfl)⟩ ⟨(Nat.le_of_ble_eq_true rfl), (Nat.le_of_ble_eq_true rfl)⟩ dX3_countFadedAfter_15) (fun H locs hw => ?_)
      refine lv_if_ne (tgt := 24) C.1 C.2.1 dX3_countFadedAfter_18 (by decide) (fun hc => ?_) (fun hc => ?_)
      · have hf := iff_ hc hf
        obtain ⟨x3_2, hx3_2, hf⟩ := bnd hf
        refine lv_iinc (v := x3_2) (lv' := [(3, .int x3_2), (0, .ref (q 0)), (1, .int x1), (2, .int x2)]) C.1 C.2.1 dX3_countFadedAfter_24 hl (k := 3) rfl (inc1 hx3_2) (by decide) rfl (fun ls hl => ?_)
        refine lv_goto (tgt := 4) C.1 C.2.1 dX3_countFadedAfter_27 (by decide) ?_
        exact ih x2 x3_2 hf _ _ _ hw (lv_sub hl [1, 2, 3, 0] rfl)
      · have hf := ift hc hf
        obtain ⟨x2_3, hx2_3, hf⟩ := bnd hf
        refine lv_iinc (v := x2_3) (lv' := [(2, .int x2_3), (0, .ref (q 0)), (1, .int x1), (3, .int x3)]) C.1 C.2.1 dX3_countFadedAfter_21 hl (k := 2) rfl (inc1 hx2_3) (by decide) rfl (fun ls hl => ?_)
        obtain ⟨x3_4, hx3_4, hf⟩ := bnd hf
        refine lv_iinc (v := x3_4) (lv' := [(3, .int x3_4), (2, .int x2_3), (0, .ref (q 0)), (1, .int x1)]) C.1 C.2.1 dX3_countFadedAfter_24 hl (k := 3) rfl (inc1 hx3_4) (by decide) rfl (fun ls hl => ?_)
        refine lv_goto (tgt := 4) C.1 C.2.1 dX3_countFadedAfter_27 (by decide) ?_
        exact ih x2_3 x3_4 hf _ _ _ hw (lv_sub hl [2, 3, 1, 0] rfl)
def fX3_countFadedAfter (S : St) (x1 : Int32) : Option Int32 :=
  fX3_countFadedAfter_4 S x1 100 0 0
set_option maxHeartbeats 4000000 in
set_option maxRecDepth 100000 in
theorem ctX3_countFadedAfter (l : Launch) {D : va_G} {cI : ClassId} {q : Nat → Nat} (S : St) (x1 : Int32) (sz : Nat) {r1 : Int32} (hf : fX3_countFadedAfter S x1 = some r1) : Met l yX3_countFadedAfter (Cond.code yX3_countFadedAfter cX3_countFadedAfter 4 (some .int) :: XALL) ({ frames := 2, cells := 0, slots := 0, locals := 44 } : Room) (va_Pc [.ref (q 0), .int x1] (gPre D cI ((xw cI q) S) sz)) (gQi D (xw cI q) S (fun (r : Int32) (u : St) => r = r1 ∧ u = S) sz) 0 0 (va_A ((xw cI q) S) sz) := by
  unfold fX3_countFadedAfter at hf
  refine Met.ofW (cc := cX3_countFadedAfter) (maxL := 4) (ret := (some .int)) (by decide) rfl ?_
  intro p e s m args below meth c s₁ B hml hv
  obtain ⟨rfl, hg⟩ := hv
  have C : Ctx p s m _ meth c cX3_countFadedAfter 4 RX3 (some .int) := Ctx.of B hml rfl
  obtain ⟨E, hw, hsz⟩ := g_start hg
  subst hsz
  have hl := lv_entry ([.ref (q 0), .int x1]) (n := 4) (Nat.le_of_ble_eq_true rfl)
  rw [lg_entry_eq]
  generalize (lg_sl ([.ref (q 0), .int x1]) ++ List.replicate (4 - (lg_sl ([.ref (q 0), .int x1])).length) Slot.unset).toArray = ls at hl ⊢
  have hl : lv_has ls 4 [(0, .ref (q 0)), (1, .int x1)] := hl
  refine lv_iconst (v := 0) C.1 C.2.1 dX3_countFadedAfter_0 (by decide) ?_
  refine lv_istore_n (lv' := [(2, .int 0), (0, .ref (q 0)), (1, .int x1)]) C.1 C.2.1 dX3_countFadedAfter_1 rfl hl (by decide) rfl (fun ls hl => ?_)
  refine lv_iconst (v := 0) C.1 C.2.1 dX3_countFadedAfter_2 (by decide) ?_
  refine lv_istore_n (lv' := [(3, .int 0), (2, .int 0), (0, .ref (q 0)), (1, .int x1)]) C.1 C.2.1 dX3_countFadedAfter_3 rfl hl (by decide) rfl (fun ls hl => ?_)
  exact wX3_countFadedAfter_4 C E S x1 100 0 0 hf _ _ _ hw (lv_sub hl [2, 3, 1, 0] rfl)
/-! DreamLedger.passNights -/
def fX3_passNights_7 (x1 : Int32) : Nat → St → Int32 → Option (Int32 × St)
  | 0, _, _ => none
  | n + 1, S, x2 =>
    if (S 12 0) ≤ x2 then
      Option.bind (some (up S 13 0 ((S 13 0) + x1))) fun S_2 =>
      Option.bind (fX3_countFadedAfter S_2 0) fun v_3 =>
      some (v_3, S_2)
    else
      Option.bind (fX3_vividnessAfter S x2 x1) fun v_4 =>
      Option.bind (sto S 2 24 x2 v_4) fun S_5 =>
      Option.bind (some (x2 + 1)) fun x2_6 =>
      fX3_passNights_7 x1 n S_5 x2_6
set_option maxHeartbeats 4000000 in
set_option maxRecDepth 100000 in
theorem wX3_passNights_7 {p : Program} {l : Launch} {e : Env} {s : State} {m : MethodId} {args : Array Value} {below : List Frame} {meth : Method} {c : Code} {D : va_G} {cI : ClassId} {q : Nat → Nat} (C : Ctx p s m args meth c cX3_passNights 3 RX3 (some .int)) (E : gE D cI s) {S0 : St} {r1 : Int32} {S1 : St} (x1 : Int32) : ∀ (n : Nat) (S : St) (x2 : Int32), fX3_passNights_7 x1 n S x2 = some (r1, S1) → ∀ (H : Heap) (locs : List Loc) (ls : Array Slot), gW D ((xw cI q) S0) ((xw cI q) S) s H locs → lv_has ls 3 [(0, .ref (q 0)), (1, .int x1), (2, .int x2)] → W p l e ({ frames := 3, cells := 0, slots := 0, locals := 67 } : Room) s m args below meth c H locs 0 0 (MQ below (gQi D (xw cI q) S0 (fun (r : Int32) (u : St) => r = r1 ∧ u = S1) s.heap.size) args s 0 0 (va_A ((xw cI q) S0) s.heap.size)) (F0 m 7 ls []) := by
  intro n
  induction n with
  | zero => intro S x2 hf; rw [fX3_passNights_7] at hf; cases hf
  | succ n ih =>
    intro S x2 hf H locs ls hw hl
    rw [fX3_passNights_7] at hf
    refine lv_iload_n C.1 C.2.1 dX3_passNights_7 rfl (lv_at hl 2 rfl) ?_
    refine lv_aload_n C.1 C.2.1 dX3_passNights_8 rfl (lv_at hl 0 rfl) ?_
    refine g_get C E hw inW3 0 rfl rfl 7 (by decide) kf_X3_84 rfl dX3_passNights_9 ?_
    refine lv_icmp_ge (tgt := 33) C.1 C.2.1 dX3_passNights_12 (by decide) (fun hc => ?_) (fun hc => ?_)
    · have hf := ift hc hf
      refine lv_aload_n C.1 C.2.1 dX3_passNights_33 rfl (lv_at hl 0 rfl) ?_
      refine lv_dup C.1 C.2.1 dX3_passNights_34 rfl ?_
      refine g_get C E hw inW3 0 rfl rfl 8 (by decide) kf_X3_89 rfl dX3_passNights_35 ?_
      refine lv_iload_n C.1 C.2.1 dX3_passNights_38 rfl (lv_at hl 1 rfl) ?_
      refine lv_iadd C.1 C.2.1 dX3_passNights_39 ?_
      obtain ⟨S_2, hS_2, hf⟩ := bnd hf
      refine g_put C E hw inW3 tyX3 tyX3_ok nmX3 0 rfl rfl 8 (by decide) kf_X3_89 rfl (by decide +kernel) (Nat.le_of_ble_eq_true rfl) (ws' := (xw cI q) S_2) (by rw [← Option.some.inj hS_2]; rfl) dX3_passNights_40 (fun H locs hw => ?_)
      refine lv_aload_n C.1 C.2.1 dX3_passNights_43 rfl (lv_at hl 0 rfl) ?_
      refine lv_iconst (v := 0) C.1 C.2.1 dX3_passNights_44 (by decide) ?_
      obtain ⟨v_3, hv_3, hf⟩ := bnd hf
      refine g_cie (wf := (xw cI q)) (S := S_2) (rest := []) xw_adr hw (g_runV (rm := ({ frames := 2, cells := 0, slots := 0, locals := 44 } : Room)) (As := [.int 0]) (rest := []) C E hw F_X3_countFadedAfter (ctX3_countFadedAfter l (cI := cI) (D := D) (q := q) S_2 0 _ hv_3) km_X3_122 0 rfl rfl rfl hl.1 rfl (Nat.le_of_ble_eq_true rfl) ⟨(Nat.le_of_ble_eq_true rfl), (Nat.le_of_ble_eq_true rfl)⟩ ⟨(Nat.le_of_ble_eq_true rfl), (Nat.le_of_ble_eq_true rfl)⟩ dX3_passNights_45) (fun H locs hw => ?_)
      exact g_iret C hw (Nat.le_of_ble_eq_true rfl) (Nat.le_of_ble_eq_true rfl) ⟨congrArg Prod.fst (Option.some.inj hf), congrArg Prod.snd (Option.some.inj hf)⟩ dX3_passNights_48
    · have hf := iff_ hc hf
      refine lv_aload_n C.1 C.2.1 dX3_passNights_15 rfl (lv_at hl 0 rfl) ?_
      refine g_get C E hw inW3 0 rfl rfl 5 (by decide) kf_X3_37 rfl dX3_passNights_16 ?_
      refine lv_iload_n C.1 C.2.1 dX3_passNights_19 rfl (lv_at hl 2 rfl) ?_
      refine lv_aload_n C.1 C.2.1 dX3_passNights_20 rfl (lv_at hl 0 rfl) ?_
      refine lv_iload_n C.1 C.2.1 dX3_passNights_21 rfl (lv_at hl 2 rfl) ?_
      refine lv_iload_n C.1 C.2.1 dX3_passNights_22 rfl (lv_at hl 1 rfl) ?_
      obtain ⟨v_4, hv_4, hf⟩ := bnd hf
      refine g_cie (wf := (xw cI q)) (S := S) (rest := [.int x2, .ref (q 6)]) xw_adr hw (g_runV (rm := ({ frames := 1, cells := 0, slots := 0, locals := 21 } : Room)) (As := [.int x2, .int x1]) (rest := [.int x2, .ref (q 6)]) C E hw F_X3_vividnessAfter (ctX3_vividnessAfter l (cI := cI) (D := D) (q := q) S x2 x1 _ hv_4) km_X3_118 0 rfl rfl rfl hl.1 rfl (Nat.le_of_ble_eq_true rfl) ⟨(Nat.le_of_ble_eq_true rfl), (Nat.le_of_ble_eq_true rfl)⟩ ⟨(Nat.le_of_ble_eq_true rfl), (Nat.le_of_ble_eq_true rfl)⟩ dX3_passNights_23) (fun H locs hw => ?_)
      obtain ⟨S_5, hS_5, hf⟩ := bnd hf
      refine g_ast C E hw 6 rfl (sto_some hS_5).1 (ws' := (xw cI q) S_5) (by rw [← (sto_some hS_5).2]; rfl) dX3_passNights_26 (fun H locs hw => ?_)
      obtain ⟨x2_6, hx2_6, hf⟩ := bnd hf
      refine lv_iinc (v := x2_6) (lv' := [(2, .int x2_6), (0, .ref (q 0)), (1, .int x1)]) C.1 C.2.1 dX3_passNights_27 hl (k := 2) rfl (inc1 hx2_6) (by decide) rfl (fun ls hl => ?_)
      refine lv_goto (tgt := 7) C.1 C.2.1 dX3_passNights_30 (by decide) ?_
      exact ih S_5 x2_6 hf _ _ _ hw (lv_sub hl [1, 2, 0] rfl)
def fX3_passNights (S : St) (x1 : Int32) : Option (Int32 × St) :=
  Option.bind (fX3_requireNights S x1) fun z_1 =>
  fX3_passNights_7 x1 100 S 0
set_option maxHeartbeats 4000000 in
set_option maxRecDepth 100000 in
theorem ctX3_passNights (l : Launch) {D : va_G} {cI : ClassId} {q : Nat → Nat} (S : St) (x1 : Int32) (sz : Nat) {r1 : Int32} {S1 : St} (hf : fX3_passNights S x1 = some (r1, S1)) : Met l yX3_passNights (Cond.code yX3_passNights cX3_passNights 3 (some .int) :: XALL) ({ frames := 3, cells := 0, slots := 0, locals := 67 } : Room) (va_Pc [.ref (q 0), .int x1] (gPre D cI ((xw cI q) S) sz)) (gQi D (xw cI q) S (fun (r : Int32) (u : St) => r = r1 ∧ u = S1) sz) 0 0 (va_A ((xw cI q) S) sz) := by
  unfold fX3_passNights at hf
  refine Met.ofW (cc := cX3_passNights) (maxL := 3) (ret := (some .int)) (by decide) rfl ?_
  intro p e s m args below meth c s₁ B hml hv
  obtain ⟨rfl, hg⟩ := hv
  have C : Ctx p s m _ meth c cX3_passNights 3 RX3 (some .int) := Ctx.of B hml rfl
  obtain ⟨E, hw, hsz⟩ := g_start hg
  subst hsz
  have hl := lv_entry ([.ref (q 0), .int x1]) (n := 3) (Nat.le_of_ble_eq_true rfl)
  rw [lg_entry_eq]
  generalize (lg_sl ([.ref (q 0), .int x1]) ++ List.replicate (3 - (lg_sl ([.ref (q 0), .int x1])).length) Slot.unset).toArray = ls at hl ⊢
  have hl : lv_has ls 3 [(0, .ref (q 0)), (1, .int x1)] := hl
  refine lv_aload_n C.1 C.2.1 dX3_passNights_0 rfl (lv_at hl 0 rfl) ?_
  refine lv_iload_n C.1 C.2.1 dX3_passNights_1 rfl (lv_at hl 1 rfl) ?_
  obtain ⟨z_1, hz_1, hf⟩ := bnd hf
  refine g_cve (wf := (xw cI q)) (S := S) (rest := []) xw_adr hw (g_runV (rm := ({ frames := 0, cells := 0, slots := 0, locals := 0 } : Room)) (As := [.int x1]) (rest := []) C E hw F_X3_requireNights (ctX3_requireNights l (cI := cI) (D := D) (q := q) S x1 _ hz_1) km_X3_115 0 rfl rfl rfl hl.1 rfl (Nat.le_of_ble_eq_true rfl) ⟨(Nat.le_of_ble_eq_true rfl), (Nat.le_of_ble_eq_true rfl)⟩ ⟨(Nat.le_of_ble_eq_true rfl), (Nat.le_of_ble_eq_true rfl)⟩ dX3_passNights_2) (fun H locs hw => ?_)
  refine lv_iconst (v := 0) C.1 C.2.1 dX3_passNights_5 (by decide) ?_
  refine lv_istore_n (lv' := [(2, .int 0), (0, .ref (q 0)), (1, .int x1)]) C.1 C.2.1 dX3_passNights_6 rfl hl (by decide) rfl (fun ls hl => ?_)
  exact wX3_passNights_7 C E x1 100 S 0 hf _ _ _ hw (lv_sub hl [1, 2, 0] rfl)
/-! DreamLedger.requireRoomForTerm -/
def fX3_requireRoomForTerm (S : St) : Option Unit :=
  if (S 15 0) < 20 then
    some ()
  else
    none
set_option maxHeartbeats 4000000 in
set_option maxRecDepth 100000 in
theorem ctX3_requireRoomForTerm (l : Launch) {D : va_G} {cI : ClassId} {q : Nat → Nat} (S : St) (sz : Nat) {r1 : Unit} (hf : fX3_requireRoomForTerm S = some r1) : Met l yX3_requireRoomForTerm (Cond.code yX3_requireRoomForTerm cX3_requireRoomForTerm 1 none :: XALL) ({ frames := 0, cells := 0, slots := 0, locals := 0 } : Room) (va_Pc [.ref (q 0)] (gPre D cI ((xw cI q) S) sz)) (gQv D (xw cI q) S (fun (u : St) => u = S) sz) 0 0 (va_A ((xw cI q) S) sz) := by
  unfold fX3_requireRoomForTerm at hf
  refine Met.ofW (cc := cX3_requireRoomForTerm) (maxL := 1) (ret := none) (by decide) rfl ?_
  intro p e s m args below meth c s₁ B hml hv
  obtain ⟨rfl, hg⟩ := hv
  have C : Ctx p s m _ meth c cX3_requireRoomForTerm 1 RX3 none := Ctx.of B hml rfl
  obtain ⟨E, hw, hsz⟩ := g_start hg
  subst hsz
  have hl := lv_entry ([.ref (q 0)]) (n := 1) (Nat.le_of_ble_eq_true rfl)
  rw [lg_entry_eq]
  generalize (lg_sl ([.ref (q 0)]) ++ List.replicate (1 - (lg_sl ([.ref (q 0)])).length) Slot.unset).toArray = ls at hl ⊢
  have hl : lv_has ls 1 [(0, .ref (q 0))] := hl
  refine lv_aload_n C.1 C.2.1 dX3_requireRoomForTerm_0 rfl (lv_at hl 0 rfl) ?_
  refine g_get C E hw inW3 0 rfl rfl 1 (by decide) kf_X3_19 rfl dX3_requireRoomForTerm_1 ?_
  refine g_getN C E hw inW2 2 rfl rfl 4 (by decide) kfN_X3_135 rfl dX3_requireRoomForTerm_4 ?_
  refine lv_bipush (v := 20) C.1 C.2.1 dX3_requireRoomForTerm_7 (by decide) ?_
  refine lv_icmp_lt (tgt := 22) C.1 C.2.1 dX3_requireRoomForTerm_9 (by decide) (fun hc => ?_) (fun hc => ?_)
  · have hf := ift hc hf
    exact g_vret C hw (Nat.le_of_ble_eq_true rfl) (Nat.le_of_ble_eq_true rfl) rfl dX3_requireRoomForTerm_22
  · have hf := iff_ hc hf
    cases hf
/-! DreamLedger.addTerm -/
def fX3_addTerm (S : St) (x1 : Int32) (x2 : Int32) (x3 : Int32) : Option (Int32 × St) :=
  Option.bind (fX2_add S x1 x2 x3) fun u_3 => pr u_3 fun v_1 S_2 =>
  Option.bind (fX3_rematchTerms S_2) fun S_4 =>
  some (v_1, S_4)
set_option maxHeartbeats 4000000 in
set_option maxRecDepth 100000 in
theorem ctX3_addTerm (l : Launch) {D : va_G} {cI : ClassId} {q : Nat → Nat} (S : St) (x1 : Int32) (x2 : Int32) (x3 : Int32) (sz : Nat) {r1 : Int32} {S1 : St} (hf : fX3_addTerm S x1 x2 x3 = some (r1, S1)) : Met l yX3_addTerm (Cond.code yX3_addTerm cX3_addTerm 5 (some .int) :: XALL) ({ frames := 3, cells := 0, slots := 0, locals := 67 } : Room) (va_Pc [.ref (q 0), .int x1, .int x2, .int x3] (gPre D cI ((xw cI q) S) sz)) (gQi D (xw cI q) S (fun (r : Int32) (u : St) => r = r1 ∧ u = S1) sz) 0 0 (va_A ((xw cI q) S) sz) := by
  unfold fX3_addTerm at hf
  refine Met.ofW (cc := cX3_addTerm) (maxL := 5) (ret := (some .int)) (by decide) rfl ?_
  intro p e s m args below meth c s₁ B hml hv
  obtain ⟨rfl, hg⟩ := hv
  have C : Ctx p s m _ meth c cX3_addTerm 5 RX3 (some .int) := Ctx.of B hml rfl
  obtain ⟨E, hw, hsz⟩ := g_start hg
  subst hsz
  have hl := lv_entry ([.ref (q 0), .int x1, .int x2, .int x3]) (n := 5) (Nat.le_of_ble_eq_true rfl)
  rw [lg_entry_eq]
  generalize (lg_sl ([.ref (q 0), .int x1, .int x2, .int x3]) ++ List.replicate (5 - (lg_sl ([.ref (q 0), .int x1, .int x2, .int x3])).length) Slot.unset).toArray = ls at hl ⊢
  have hl : lv_has ls 5 [(0, .ref (q 0)), (1, .int x1), (2, .int x2), (3, .int x3)] := hl
  refine lv_aload_n C.1 C.2.1 dX3_addTerm_0 rfl (lv_at hl 0 rfl) ?_
  refine g_get C E hw inW3 0 rfl rfl 1 (by decide) kf_X3_19 rfl dX3_addTerm_1 ?_
  refine lv_iload_n C.1 C.2.1 dX3_addTerm_4 rfl (lv_at hl 1 rfl) ?_
  refine lv_iload_n C.1 C.2.1 dX3_addTerm_5 rfl (lv_at hl 2 rfl) ?_
  refine lv_iload_n C.1 C.2.1 dX3_addTerm_6 rfl (lv_at hl 3 rfl) ?_
  obtain ⟨⟨v_1, S_2⟩, hu_3, hf⟩ := bnd hf
  have hf := pr_r hf
  refine g_cie (wf := (xw cI q)) (S := S) (rest := []) xw_adr hw (g_runVN (rm := ({ frames := 0, cells := 0, slots := 0, locals := 0 } : Room)) (As := [.int x1, .int x2, .int x3]) (rest := []) C E hw F_X2_add (ctX2_add l (cI := cI) (D := D) (q := q) S x1 x2 x3 _ hu_3) kmN_X3_218 2 rfl rfl rfl hl.1 rfl (Nat.le_of_ble_eq_true rfl) ⟨(Nat.le_of_ble_eq_true rfl), (Nat.le_of_ble_eq_true rfl)⟩ ⟨(Nat.le_of_ble_eq_true rfl), (Nat.le_of_ble_eq_true rfl)⟩ dX3_addTerm_7) (fun H locs hw => ?_)
  refine lv_istore (lv' := [(4, .int v_1), (0, .ref (q 0)), (1, .int x1), (2, .int x2), (3, .int x3)]) C.1 C.2.1 dX3_addTerm_10 hl (by decide) rfl (fun ls hl => ?_)
  refine lv_aload_n C.1 C.2.1 dX3_addTerm_12 rfl (lv_at hl 1 rfl) ?_
  obtain ⟨S_4, hS_4, hf⟩ := bnd hf
  refine g_cve (wf := (xw cI q)) (S := S_2) (rest := []) xw_adr hw (g_runV (rm := ({ frames := 2, cells := 0, slots := 0, locals := 46 } : Room)) (As := []) (rest := []) C E hw F_X3_rematchTerms (ctX3_rematchTerms l (cI := cI) (D := D) (q := q) S_2  _ hS_4) km_X3_215 0 rfl rfl rfl hl.1 rfl (Nat.le_of_ble_eq_true rfl) ⟨(Nat.le_of_ble_eq_true rfl), (Nat.le_of_ble_eq_true rfl)⟩ ⟨(Nat.le_of_ble_eq_true rfl), (Nat.le_of_ble_eq_true rfl)⟩ dX3_addTerm_13) (fun H locs hw => ?_)
  refine lv_iload C.1 C.2.1 dX3_addTerm_16 (lv_at hl 0 rfl) ?_
  exact g_iret C hw (Nat.le_of_ble_eq_true rfl) (Nat.le_of_ble_eq_true rfl) ⟨congrArg Prod.fst (Option.some.inj hf), congrArg Prod.snd (Option.some.inj hf)⟩ dX3_addTerm_18
/-! DreamLedger.addTagTerm -/
def fX3_addTagTerm (S : St) (x1 : Int32) : Option (Int32 × St) :=
  Option.bind (fX3_requireTag S x1) fun z_1 =>
  Option.bind (fX3_requireRoomForTerm S) fun z_2 =>
  Option.bind (fX3_addTerm S 0 x1 x1) fun u_5 => pr u_5 fun v_3 S_4 =>
  some (v_3, S_4)
set_option maxHeartbeats 4000000 in
set_option maxRecDepth 100000 in
theorem ctX3_addTagTerm (l : Launch) {D : va_G} {cI : ClassId} {q : Nat → Nat} (S : St) (x1 : Int32) (sz : Nat) {r1 : Int32} {S1 : St} (hf : fX3_addTagTerm S x1 = some (r1, S1)) : Met l yX3_addTagTerm (Cond.code yX3_addTagTerm cX3_addTagTerm 2 (some .int) :: XALL) ({ frames := 4, cells := 0, slots := 0, locals := 91 } : Room) (va_Pc [.ref (q 0), .int x1] (gPre D cI ((xw cI q) S) sz)) (gQi D (xw cI q) S (fun (r : Int32) (u : St) => r = r1 ∧ u = S1) sz) 0 0 (va_A ((xw cI q) S) sz) := by
  unfold fX3_addTagTerm at hf
  refine Met.ofW (cc := cX3_addTagTerm) (maxL := 2) (ret := (some .int)) (by decide) rfl ?_
  intro p e s m args below meth c s₁ B hml hv
  obtain ⟨rfl, hg⟩ := hv
  have C : Ctx p s m _ meth c cX3_addTagTerm 2 RX3 (some .int) := Ctx.of B hml rfl
  obtain ⟨E, hw, hsz⟩ := g_start hg
  subst hsz
  have hl := lv_entry ([.ref (q 0), .int x1]) (n := 2) (Nat.le_of_ble_eq_true rfl)
  rw [lg_entry_eq]
  generalize (lg_sl ([.ref (q 0), .int x1]) ++ List.replicate (2 - (lg_sl ([.ref (q 0), .int x1])).length) Slot.unset).toArray = ls at hl ⊢
  have hl : lv_has ls 2 [(0, .ref (q 0)), (1, .int x1)] := hl
  refine lv_aload_n C.1 C.2.1 dX3_addTagTerm_0 rfl (lv_at hl 0 rfl) ?_
  refine lv_iload_n C.1 C.2.1 dX3_addTagTerm_1 rfl (lv_at hl 1 rfl) ?_
  obtain ⟨z_1, hz_1, hf⟩ := bnd hf
  refine g_cve (wf := (xw cI q)) (S := S) (rest := []) xw_adr hw (g_runV (rm := ({ frames := 0, cells := 0, slots := 0, locals := 0 } : Room)) (As := [.int x1]) (rest := []) C E hw F_X3_requireTag (ctX3_requireTag l (cI := cI) (D := D) (q := q) S x1 _ hz_1) km_X3_76 0 rfl rfl rfl hl.1 rfl (Nat.le_of_ble_eq_true rfl) ⟨(Nat.le_of_ble_eq_true rfl), (Nat.le_of_ble_eq_true rfl)⟩ ⟨(Nat.le_of_ble_eq_true rfl), (Nat.le_of_ble_eq_true rfl)⟩ dX3_addTagTerm_2) (fun H locs hw => ?_)
  refine lv_aload_n C.1 C.2.1 dX3_addTagTerm_5 rfl (lv_at hl 0 rfl) ?_
  obtain ⟨z_2, hz_2, hf⟩ := bnd hf
  refine g_cve (wf := (xw cI q)) (S := S) (rest := []) xw_adr hw (g_runV (rm := ({ frames := 0, cells := 0, slots := 0, locals := 0 } : Room)) (As := []) (rest := []) C E hw F_X3_requireRoomForTerm (ctX3_requireRoomForTerm l (cI := cI) (D := D) (q := q) S  _ hz_2) km_X3_125 0 rfl rfl rfl hl.1 rfl (Nat.le_of_ble_eq_true rfl) ⟨(Nat.le_of_ble_eq_true rfl), (Nat.le_of_ble_eq_true rfl)⟩ ⟨(Nat.le_of_ble_eq_true rfl), (Nat.le_of_ble_eq_true rfl)⟩ dX3_addTagTerm_6) (fun H locs hw => ?_)
  refine lv_aload_n C.1 C.2.1 dX3_addTagTerm_9 rfl (lv_at hl 0 rfl) ?_
  refine lv_iconst (v := 0) C.1 C.2.1 dX3_addTagTerm_10 (by decide) ?_
  refine lv_iload_n C.1 C.2.1 dX3_addTagTerm_11 rfl (lv_at hl 1 rfl) ?_
  refine lv_iload_n C.1 C.2.1 dX3_addTagTerm_12 rfl (lv_at hl 1 rfl) ?_
  obtain ⟨⟨v_3, S_4⟩, hu_5, hf⟩ := bnd hf
  have hf := pr_r hf
  refine g_cie (wf := (xw cI q)) (S := S) (rest := []) xw_adr hw (g_runV (rm := ({ frames := 3, cells := 0, slots := 0, locals := 67 } : Room)) (As := [.int 0, .int x1, .int x1]) (rest := []) C E hw F_X3_addTerm (ctX3_addTerm l (cI := cI) (D := D) (q := q) S 0 x1 x1 _ hu_5) km_X3_128 0 rfl rfl rfl hl.1 rfl (Nat.le_of_ble_eq_true rfl) ⟨(Nat.le_of_ble_eq_true rfl), (Nat.le_of_ble_eq_true rfl)⟩ ⟨(Nat.le_of_ble_eq_true rfl), (Nat.le_of_ble_eq_true rfl)⟩ dX3_addTagTerm_13) (fun H locs hw => ?_)
  exact g_iret C hw (Nat.le_of_ble_eq_true rfl) (Nat.le_of_ble_eq_true rfl) ⟨congrArg Prod.fst (Option.some.inj hf), congrArg Prod.snd (Option.some.inj hf)⟩ dX3_addTagTerm_16
/-! DreamLedger.requireTerm -/
def fX3_requireTerm (S : St) (x1 : Int32) : Option Unit :=
  if x1 < 0 then
    none
  else
    if x1 < (S 15 0) then
      some ()
    else
      none
set_option maxHeartbeats 4000000 in
set_option maxRecDepth 100000 in
theorem ctX3_requireTerm (l : Launch) {D : va_G} {cI : ClassId} {q : Nat → Nat} (S : St) (x1 : Int32) (sz : Nat) {r1 : Unit} (hf : fX3_requireTerm S x1 = some r1) : Met l yX3_requireTerm (Cond.code yX3_requireTerm cX3_requireTerm 2 none :: XALL) ({ frames := 0, cells := 0, slots := 0, locals := 0 } : Room) (va_Pc [.ref (q 0), .int x1] (gPre D cI ((xw cI q) S) sz)) (gQv D (xw cI q) S (fun (u : St) => u = S) sz) 0 0 (va_A ((xw cI q) S) sz) := by
  unfold fX3_requireTerm at hf
  refine Met.ofW (cc := cX3_requireTerm) (maxL := 2) (ret := none) (by decide) rfl ?_
  intro p e s m args below meth c s₁ B hml hv
  obtain ⟨rfl, hg⟩ := hv
  have C : Ctx p s m _ meth c cX3_requireTerm 2 RX3 none := Ctx.of B hml rfl
  obtain ⟨E, hw, hsz⟩ := g_start hg
  subst hsz
  have hl := lv_entry ([.ref (q 0), .int x1]) (n := 2) (Nat.le_of_ble_eq_true rfl)
  rw [lg_entry_eq]
  generalize (lg_sl ([.ref (q 0), .int x1]) ++ List.replicate (2 - (lg_sl ([.ref (q 0), .int x1])).length) Slot.unset).toArray = ls at hl ⊢
  have hl : lv_has ls 2 [(0, .ref (q 0)), (1, .int x1)] := hl
  refine lv_iload_n C.1 C.2.1 dX3_requireTerm_0 rfl (lv_at hl 1 rfl) ?_
  refine lv_if_lt (tgt := 15) C.1 C.2.1 dX3_requireTerm_1 (by decide) (fun hc => ?_) (fun hc => ?_)
  · have hf := ift hc hf
    cases hf
  · have hf := iff_ hc hf
    refine lv_iload_n C.1 C.2.1 dX3_requireTerm_4 rfl (lv_at hl 1 rfl) ?_
    refine lv_aload_n C.1 C.2.1 dX3_requireTerm_5 rfl (lv_at hl 0 rfl) ?_
    refine g_get C E hw inW3 0 rfl rfl 1 (by decide) kf_X3_19 rfl dX3_requireTerm_6 ?_
    refine g_getN C E hw inW2 2 rfl rfl 4 (by decide) kfN_X3_135 rfl dX3_requireTerm_9 ?_
    refine lv_icmp_lt (tgt := 25) C.1 C.2.1 dX3_requireTerm_12 (by decide) (fun hc => ?_) (fun hc => ?_)
    · have hf := ift hc hf
      exact g_vret C hw (Nat.le_of_ble_eq_true rfl) (Nat.le_of_ble_eq_true rfl) rfl dX3_requireTerm_25
    · have hf := iff_ hc hf
      cases hf
/-! DreamLedger.addBothTerm -/
def fX3_addBothTerm (S : St) (x1 : Int32) (x2 : Int32) : Option (Int32 × St) :=
  Option.bind (fX3_requireTerm S x1) fun z_1 =>
  Option.bind (fX3_requireTerm S x2) fun z_2 =>
  Option.bind (fX3_requireRoomForTerm S) fun z_3 =>
  Option.bind (fX3_addTerm S 1 x1 x2) fun u_6 => pr u_6 fun v_4 S_5 =>
  some (v_4, S_5)
set_option maxHeartbeats 4000000 in
set_option maxRecDepth 100000 in
theorem ctX3_addBothTerm (l : Launch) {D : va_G} {cI : ClassId} {q : Nat → Nat} (S : St) (x1 : Int32) (x2 : Int32) (sz : Nat) {r1 : Int32} {S1 : St} (hf : fX3_addBothTerm S x1 x2 = some (r1, S1)) : Met l yX3_addBothTerm (Cond.code yX3_addBothTerm cX3_addBothTerm 3 (some .int) :: XALL) ({ frames := 4, cells := 0, slots := 0, locals := 91 } : Room) (va_Pc [.ref (q 0), .int x1, .int x2] (gPre D cI ((xw cI q) S) sz)) (gQi D (xw cI q) S (fun (r : Int32) (u : St) => r = r1 ∧ u = S1) sz) 0 0 (va_A ((xw cI q) S) sz) := by
  unfold fX3_addBothTerm at hf
  refine Met.ofW (cc := cX3_addBothTerm) (maxL := 3) (ret := (some .int)) (by decide) rfl ?_
  intro p e s m args below meth c s₁ B hml hv
  obtain ⟨rfl, hg⟩ := hv
  have C : Ctx p s m _ meth c cX3_addBothTerm 3 RX3 (some .int) := Ctx.of B hml rfl
  obtain ⟨E, hw, hsz⟩ := g_start hg
  subst hsz
  have hl := lv_entry ([.ref (q 0), .int x1, .int x2]) (n := 3) (Nat.le_of_ble_eq_true rfl)
  rw [lg_entry_eq]
  generalize (lg_sl ([.ref (q 0), .int x1, .int x2]) ++ List.replicate (3 - (lg_sl ([.ref (q 0), .int x1, .int x2])).length) Slot.unset).toArray = ls at hl ⊢
  have hl : lv_has ls 3 [(0, .ref (q 0)), (1, .int x1), (2, .int x2)] := hl
  refine lv_aload_n C.1 C.2.1 dX3_addBothTerm_0 rfl (lv_at hl 0 rfl) ?_
  refine lv_iload_n C.1 C.2.1 dX3_addBothTerm_1 rfl (lv_at hl 1 rfl) ?_
  obtain ⟨z_1, hz_1, hf⟩ := bnd hf
  refine g_cve (wf := (xw cI q)) (S := S) (rest := []) xw_adr hw (g_runV (rm := ({ frames := 0, cells := 0, slots := 0, locals := 0 } : Room)) (As := [.int x1]) (rest := []) C E hw F_X3_requireTerm (ctX3_requireTerm l (cI := cI) (D := D) (q := q) S x1 _ hz_1) km_X3_132 0 rfl rfl rfl hl.1 rfl (Nat.le_of_ble_eq_true rfl) ⟨(Nat.le_of_ble_eq_true rfl), (Nat.le_of_ble_eq_true rfl)⟩ ⟨(Nat.le_of_ble_eq_true rfl), (Nat.le_of_ble_eq_true rfl)⟩ dX3_addBothTerm_2) (fun H locs hw => ?_)
  refine lv_aload_n C.1 C.2.1 dX3_addBothTerm_5 rfl (lv_at hl 0 rfl) ?_
  refine lv_iload_n C.1 C.2.1 dX3_addBothTerm_6 rfl (lv_at hl 2 rfl) ?_
  obtain ⟨z_2, hz_2, hf⟩ := bnd hf
  refine g_cve (wf := (xw cI q)) (S := S) (rest := []) xw_adr hw (g_runV (rm := ({ frames := 0, cells := 0, slots := 0, locals := 0 } : Room)) (As := [.int x2]) (rest := []) C E hw F_X3_requireTerm (ctX3_requireTerm l (cI := cI) (D := D) (q := q) S x2 _ hz_2) km_X3_132 0 rfl rfl rfl hl.1 rfl (Nat.le_of_ble_eq_true rfl) ⟨(Nat.le_of_ble_eq_true rfl), (Nat.le_of_ble_eq_true rfl)⟩ ⟨(Nat.le_of_ble_eq_true rfl), (Nat.le_of_ble_eq_true rfl)⟩ dX3_addBothTerm_7) (fun H locs hw => ?_)
  refine lv_aload_n C.1 C.2.1 dX3_addBothTerm_10 rfl (lv_at hl 0 rfl) ?_
  obtain ⟨z_3, hz_3, hf⟩ := bnd hf
  refine g_cve (wf := (xw cI q)) (S := S) (rest := []) xw_adr hw (g_runV (rm := ({ frames := 0, cells := 0, slots := 0, locals := 0 } : Room)) (As := []) (rest := []) C E hw F_X3_requireRoomForTerm (ctX3_requireRoomForTerm l (cI := cI) (D := D) (q := q) S  _ hz_3) km_X3_125 0 rfl rfl rfl hl.1 rfl (Nat.le_of_ble_eq_true rfl) ⟨(Nat.le_of_ble_eq_true rfl), (Nat.le_of_ble_eq_true rfl)⟩ ⟨(Nat.le_of_ble_eq_true rfl), (Nat.le_of_ble_eq_true rfl)⟩ dX3_addBothTerm_11) (fun H locs hw => ?_)
  refine lv_aload_n C.1 C.2.1 dX3_addBothTerm_14 rfl (lv_at hl 0 rfl) ?_
  refine lv_iconst (v := 1) C.1 C.2.1 dX3_addBothTerm_15 (by decide) ?_
  refine lv_iload_n C.1 C.2.1 dX3_addBothTerm_16 rfl (lv_at hl 1 rfl) ?_
  refine lv_iload_n C.1 C.2.1 dX3_addBothTerm_17 rfl (lv_at hl 2 rfl) ?_
  obtain ⟨⟨v_4, S_5⟩, hu_6, hf⟩ := bnd hf
  have hf := pr_r hf
  refine g_cie (wf := (xw cI q)) (S := S) (rest := []) xw_adr hw (g_runV (rm := ({ frames := 3, cells := 0, slots := 0, locals := 67 } : Room)) (As := [.int 1, .int x1, .int x2]) (rest := []) C E hw F_X3_addTerm (ctX3_addTerm l (cI := cI) (D := D) (q := q) S 1 x1 x2 _ hu_6) km_X3_128 0 rfl rfl rfl hl.1 rfl (Nat.le_of_ble_eq_true rfl) ⟨(Nat.le_of_ble_eq_true rfl), (Nat.le_of_ble_eq_true rfl)⟩ ⟨(Nat.le_of_ble_eq_true rfl), (Nat.le_of_ble_eq_true rfl)⟩ dX3_addBothTerm_18) (fun H locs hw => ?_)
  exact g_iret C hw (Nat.le_of_ble_eq_true rfl) (Nat.le_of_ble_eq_true rfl) ⟨congrArg Prod.fst (Option.some.inj hf), congrArg Prod.snd (Option.some.inj hf)⟩ dX3_addBothTerm_21
/-! DreamLedger.addEitherTerm -/
def fX3_addEitherTerm (S : St) (x1 : Int32) (x2 : Int32) : Option (Int32 × St) :=
  Option.bind (fX3_requireTerm S x1) fun z_1 =>
  Option.bind (fX3_requireTerm S x2) fun z_2 =>
  Option.bind (fX3_requireRoomForTerm S) fun z_3 =>
  Option.bind (fX3_addTerm S 2 x1 x2) fun u_6 => pr u_6 fun v_4 S_5 =>
  some (v_4, S_5)
set_option maxHeartbeats 4000000 in
set_option maxRecDepth 100000 in
theorem ctX3_addEitherTerm (l : Launch) {D : va_G} {cI : ClassId} {q : Nat → Nat} (S : St) (x1 : Int32) (x2 : Int32) (sz : Nat) {r1 : Int32} {S1 : St} (hf : fX3_addEitherTerm S x1 x2 = some (r1, S1)) : Met l yX3_addEitherTerm (Cond.code yX3_addEitherTerm cX3_addEitherTerm 3 (some .int) :: XALL) ({ frames := 4, cells := 0, slots := 0, locals := 91 } : Room) (va_Pc [.ref (q 0), .int x1, .int x2] (gPre D cI ((xw cI q) S) sz)) (gQi D (xw cI q) S (fun (r : Int32) (u : St) => r = r1 ∧ u = S1) sz) 0 0 (va_A ((xw cI q) S) sz) := by
  unfold fX3_addEitherTerm at hf
  refine Met.ofW (cc := cX3_addEitherTerm) (maxL := 3) (ret := (some .int)) (by decide) rfl ?_
  intro p e s m args below meth c s₁ B hml hv
  obtain ⟨rfl, hg⟩ := hv
  have C : Ctx p s m _ meth c cX3_addEitherTerm 3 RX3 (some .int) := Ctx.of B hml rfl
  obtain ⟨E, hw, hsz⟩ := g_start hg
  subst hsz
  have hl := lv_entry ([.ref (q 0), .int x1, .int x2]) (n := 3) (Nat.le_of_ble_eq_true rfl)
  rw [lg_entry_eq]
  generalize (lg_sl ([.ref (q 0), .int x1, .int x2]) ++ List.replicate (3 - (lg_sl ([.ref (q 0), .int x1, .int x2])).length) Slot.unset).toArray = ls at hl ⊢
  have hl : lv_has ls 3 [(0, .ref (q 0)), (1, .int x1), (2, .int x2)] := hl
  refine lv_aload_n C.1 C.2.1 dX3_addEitherTerm_0 rfl (lv_at hl 0 rfl) ?_
  refine lv_iload_n C.1 C.2.1 dX3_addEitherTerm_1 rfl (lv_at hl 1 rfl) ?_
  obtain ⟨z_1, hz_1, hf⟩ := bnd hf
  refine g_cve (wf := (xw cI q)) (S := S) (rest := []) xw_adr hw (g_runV (rm := ({ frames := 0, cells := 0, slots := 0, locals := 0 } : Room)) (As := [.int x1]) (rest := []) C E hw F_X3_requireTerm (ctX3_requireTerm l (cI := cI) (D := D) (q := q) S x1 _ hz_1) km_X3_132 0 rfl rfl rfl hl.1 rfl (Nat.le_of_ble_eq_true rfl) ⟨(Nat.le_of_ble_eq_true rfl), (Nat.le_of_ble_eq_true rfl)⟩ ⟨(Nat.le_of_ble_eq_true rfl), (Nat.le_of_ble_eq_true rfl)⟩ dX3_addEitherTerm_2) (fun H locs hw => ?_)
  refine lv_aload_n C.1 C.2.1 dX3_addEitherTerm_5 rfl (lv_at hl 0 rfl) ?_
  refine lv_iload_n C.1 C.2.1 dX3_addEitherTerm_6 rfl (lv_at hl 2 rfl) ?_
  obtain ⟨z_2, hz_2, hf⟩ := bnd hf
  refine g_cve (wf := (xw cI q)) (S := S) (rest := []) xw_adr hw (g_runV (rm := ({ frames := 0, cells := 0, slots := 0, locals := 0 } : Room)) (As := [.int x2]) (rest := []) C E hw F_X3_requireTerm (ctX3_requireTerm l (cI := cI) (D := D) (q := q) S x2 _ hz_2) km_X3_132 0 rfl rfl rfl hl.1 rfl (Nat.le_of_ble_eq_true rfl) ⟨(Nat.le_of_ble_eq_true rfl), (Nat.le_of_ble_eq_true rfl)⟩ ⟨(Nat.le_of_ble_eq_true rfl), (Nat.le_of_ble_eq_true rfl)⟩ dX3_addEitherTerm_7) (fun H locs hw => ?_)
  refine lv_aload_n C.1 C.2.1 dX3_addEitherTerm_10 rfl (lv_at hl 0 rfl) ?_
  obtain ⟨z_3, hz_3, hf⟩ := bnd hf
  refine g_cve (wf := (xw cI q)) (S := S) (rest := []) xw_adr hw (g_runV (rm := ({ frames := 0, cells := 0, slots := 0, locals := 0 } : Room)) (As := []) (rest := []) C E hw F_X3_requireRoomForTerm (ctX3_requireRoomForTerm l (cI := cI) (D := D) (q := q) S  _ hz_3) km_X3_125 0 rfl rfl rfl hl.1 rfl (Nat.le_of_ble_eq_true rfl) ⟨(Nat.le_of_ble_eq_true rfl), (Nat.le_of_ble_eq_true rfl)⟩ ⟨(Nat.le_of_ble_eq_true rfl), (Nat.le_of_ble_eq_true rfl)⟩ dX3_addEitherTerm_11) (fun H locs hw => ?_)
  refine lv_aload_n C.1 C.2.1 dX3_addEitherTerm_14 rfl (lv_at hl 0 rfl) ?_
  refine lv_iconst (v := 2) C.1 C.2.1 dX3_addEitherTerm_15 (by decide) ?_
  refine lv_iload_n C.1 C.2.1 dX3_addEitherTerm_16 rfl (lv_at hl 1 rfl) ?_
  refine lv_iload_n C.1 C.2.1 dX3_addEitherTerm_17 rfl (lv_at hl 2 rfl) ?_
  obtain ⟨⟨v_4, S_5⟩, hu_6, hf⟩ := bnd hf
  have hf := pr_r hf
  refine g_cie (wf := (xw cI q)) (S := S) (rest := []) xw_adr hw (g_runV (rm := ({ frames := 3, cells := 0, slots := 0, locals := 67 } : Room)) (As := [.int 2, .int x1, .int x2]) (rest := []) C E hw F_X3_addTerm (ctX3_addTerm l (cI := cI) (D := D) (q := q) S 2 x1 x2 _ hu_6) km_X3_128 0 rfl rfl rfl hl.1 rfl (Nat.le_of_ble_eq_true rfl) ⟨(Nat.le_of_ble_eq_true rfl), (Nat.le_of_ble_eq_true rfl)⟩ ⟨(Nat.le_of_ble_eq_true rfl), (Nat.le_of_ble_eq_true rfl)⟩ dX3_addEitherTerm_18) (fun H locs hw => ?_)
  exact g_iret C hw (Nat.le_of_ble_eq_true rfl) (Nat.le_of_ble_eq_true rfl) ⟨congrArg Prod.fst (Option.some.inj hf), congrArg Prod.snd (Option.some.inj hf)⟩ dX3_addEitherTerm_21
/-! DreamLedger.addWithoutTerm -/
def fX3_addWithoutTerm (S : St) (x1 : Int32) : Option (Int32 × St) :=
  Option.bind (fX3_requireTerm S x1) fun z_1 =>
  Option.bind (fX3_requireRoomForTerm S) fun z_2 =>
  Option.bind (fX3_addTerm S 3 x1 x1) fun u_5 => pr u_5 fun v_3 S_4 =>
  some (v_3, S_4)
set_option maxHeartbeats 4000000 in
set_option maxRecDepth 100000 in
theorem ctX3_addWithoutTerm (l : Launch) {D : va_G} {cI : ClassId} {q : Nat → Nat} (S : St) (x1 : Int32) (sz : Nat) {r1 : Int32} {S1 : St} (hf : fX3_addWithoutTerm S x1 = some (r1, S1)) : Met l yX3_addWithoutTerm (Cond.code yX3_addWithoutTerm cX3_addWithoutTerm 2 (some .int) :: XALL) ({ frames := 4, cells := 0, slots := 0, locals := 91 } : Room) (va_Pc [.ref (q 0), .int x1] (gPre D cI ((xw cI q) S) sz)) (gQi D (xw cI q) S (fun (r : Int32) (u : St) => r = r1 ∧ u = S1) sz) 0 0 (va_A ((xw cI q) S) sz) := by
  unfold fX3_addWithoutTerm at hf
  refine Met.ofW (cc := cX3_addWithoutTerm) (maxL := 2) (ret := (some .int)) (by decide) rfl ?_
  intro p e s m args below meth c s₁ B hml hv
  obtain ⟨rfl, hg⟩ := hv
  have C : Ctx p s m _ meth c cX3_addWithoutTerm 2 RX3 (some .int) := Ctx.of B hml rfl
  obtain ⟨E, hw, hsz⟩ := g_start hg
  subst hsz
  have hl := lv_entry ([.ref (q 0), .int x1]) (n := 2) (Nat.le_of_ble_eq_true rfl)
  rw [lg_entry_eq]
  generalize (lg_sl ([.ref (q 0), .int x1]) ++ List.replicate (2 - (lg_sl ([.ref (q 0), .int x1])).length) Slot.unset).toArray = ls at hl ⊢
  have hl : lv_has ls 2 [(0, .ref (q 0)), (1, .int x1)] := hl
  refine lv_aload_n C.1 C.2.1 dX3_addWithoutTerm_0 rfl (lv_at hl 0 rfl) ?_
  refine lv_iload_n C.1 C.2.1 dX3_addWithoutTerm_1 rfl (lv_at hl 1 rfl) ?_
  obtain ⟨z_1, hz_1, hf⟩ := bnd hf
  refine g_cve (wf := (xw cI q)) (S := S) (rest := []) xw_adr hw (g_runV (rm := ({ frames := 0, cells := 0, slots := 0, locals := 0 } : Room)) (As := [.int x1]) (rest := []) C E hw F_X3_requireTerm (ctX3_requireTerm l (cI := cI) (D := D) (q := q) S x1 _ hz_1) km_X3_132 0 rfl rfl rfl hl.1 rfl (Nat.le_of_ble_eq_true rfl) ⟨(Nat.le_of_ble_eq_true rfl), (Nat.le_of_ble_eq_true rfl)⟩ ⟨(Nat.le_of_ble_eq_true rfl), (Nat.le_of_ble_eq_true rfl)⟩ dX3_addWithoutTerm_2) (fun H locs hw => ?_)
  refine lv_aload_n C.1 C.2.1 dX3_addWithoutTerm_5 rfl (lv_at hl 0 rfl) ?_
  obtain ⟨z_2, hz_2, hf⟩ := bnd hf
  refine g_cve (wf := (xw cI q)) (S := S) (rest := []) xw_adr hw (g_runV (rm := ({ frames := 0, cells := 0, slots := 0, locals := 0 } : Room)) (As := []) (rest := []) C E hw F_X3_requireRoomForTerm (ctX3_requireRoomForTerm l (cI := cI) (D := D) (q := q) S  _ hz_2) km_X3_125 0 rfl rfl rfl hl.1 rfl (Nat.le_of_ble_eq_true rfl) ⟨(Nat.le_of_ble_eq_true rfl), (Nat.le_of_ble_eq_true rfl)⟩ ⟨(Nat.le_of_ble_eq_true rfl), (Nat.le_of_ble_eq_true rfl)⟩ dX3_addWithoutTerm_6) (fun H locs hw => ?_)
  refine lv_aload_n C.1 C.2.1 dX3_addWithoutTerm_9 rfl (lv_at hl 0 rfl) ?_
  refine lv_iconst (v := 3) C.1 C.2.1 dX3_addWithoutTerm_10 (by decide) ?_
  refine lv_iload_n C.1 C.2.1 dX3_addWithoutTerm_11 rfl (lv_at hl 1 rfl) ?_
  refine lv_iload_n C.1 C.2.1 dX3_addWithoutTerm_12 rfl (lv_at hl 1 rfl) ?_
  obtain ⟨⟨v_3, S_4⟩, hu_5, hf⟩ := bnd hf
  have hf := pr_r hf
  refine g_cie (wf := (xw cI q)) (S := S) (rest := []) xw_adr hw (g_runV (rm := ({ frames := 3, cells := 0, slots := 0, locals := 67 } : Room)) (As := [.int 3, .int x1, .int x1]) (rest := []) C E hw F_X3_addTerm (ctX3_addTerm l (cI := cI) (D := D) (q := q) S 3 x1 x1 _ hu_5) km_X3_128 0 rfl rfl rfl hl.1 rfl (Nat.le_of_ble_eq_true rfl) ⟨(Nat.le_of_ble_eq_true rfl), (Nat.le_of_ble_eq_true rfl)⟩ ⟨(Nat.le_of_ble_eq_true rfl), (Nat.le_of_ble_eq_true rfl)⟩ dX3_addWithoutTerm_13) (fun H locs hw => ?_)
  exact g_iret C hw (Nat.le_of_ble_eq_true rfl) (Nat.le_of_ble_eq_true rfl) ⟨congrArg Prod.fst (Option.some.inj hf), congrArg Prod.snd (Option.some.inj hf)⟩ dX3_addWithoutTerm_16
/-! DreamLedger.clearTerms -/
def fX3_clearTerms (S : St) : Option (Int32 × St) :=
  Option.bind (some ((S 15 0))) fun x1_1 =>
  Option.bind (some (up S 15 0 0)) fun S_2 =>
  some (x1_1, S_2)
set_option maxHeartbeats 4000000 in
set_option maxRecDepth 100000 in
theorem ctX3_clearTerms (l : Launch) {D : va_G} {cI : ClassId} {q : Nat → Nat} (S : St) (sz : Nat) {r1 : Int32} {S1 : St} (hf : fX3_clearTerms S = some (r1, S1)) : Met l yX3_clearTerms (Cond.code yX3_clearTerms cX3_clearTerms 2 (some .int) :: XALL) ({ frames := 0, cells := 0, slots := 0, locals := 0 } : Room) (va_Pc [.ref (q 0)] (gPre D cI ((xw cI q) S) sz)) (gQi D (xw cI q) S (fun (r : Int32) (u : St) => r = r1 ∧ u = S1) sz) 0 0 (va_A ((xw cI q) S) sz) := by
  unfold fX3_clearTerms at hf
  refine Met.ofW (cc := cX3_clearTerms) (maxL := 2) (ret := (some .int)) (by decide) rfl ?_
  intro p e s m args below meth c s₁ B hml hv
  obtain ⟨rfl, hg⟩ := hv
  have C : Ctx p s m _ meth c cX3_clearTerms 2 RX3 (some .int) := Ctx.of B hml rfl
  obtain ⟨E, hw, hsz⟩ := g_start hg
  subst hsz
  have hl := lv_entry ([.ref (q 0)]) (n := 2) (Nat.le_of_ble_eq_true rfl)
  rw [lg_entry_eq]
  generalize (lg_sl ([.ref (q 0)]) ++ List.replicate (2 - (lg_sl ([.ref (q 0)])).length) Slot.unset).toArray = ls at hl ⊢
  have hl : lv_has ls 2 [(0, .ref (q 0))] := hl
  refine lv_aload_n C.1 C.2.1 dX3_clearTerms_0 rfl (lv_at hl 0 rfl) ?_
  refine g_get C E hw inW3 0 rfl rfl 1 (by decide) kf_X3_19 rfl dX3_clearTerms_1 ?_
  refine g_getN C E hw inW2 2 rfl rfl 4 (by decide) kfN_X3_135 rfl dX3_clearTerms_4 ?_
  obtain ⟨x1_1, hx1_1, hf⟩ := bnd hf
  refine topi_b hx1_1 ?_
  refine lv_istore_n (lv' := [(1, .int x1_1), (0, .ref (q 0))]) C.1 C.2.1 dX3_clearTerms_7 rfl hl (by decide) rfl (fun ls hl => ?_)
  refine lv_aload_n C.1 C.2.1 dX3_clearTerms_8 rfl (lv_at hl 1 rfl) ?_
  refine g_get C E hw inW3 0 rfl rfl 1 (by decide) kf_X3_19 rfl dX3_clearTerms_9 ?_
  refine lv_iconst (v := 0) C.1 C.2.1 dX3_clearTerms_12 (by decide) ?_
  obtain ⟨S_2, hS_2, hf⟩ := bnd hf
  refine g_putN C E hw inW2 tyX2 tyX2_ok nmX2 2 rfl rfl 4 (by decide) kfN_X3_135 rfl (by decide +kernel) (Nat.le_of_ble_eq_true rfl) (ws' := (xw cI q) S_2) (by rw [← Option.some.inj hS_2]; rfl) dX3_clearTerms_13 (fun H locs hw => ?_)
  refine lv_iload_n C.1 C.2.1 dX3_clearTerms_16 rfl (lv_at hl 0 rfl) ?_
  exact g_iret C hw (Nat.le_of_ble_eq_true rfl) (Nat.le_of_ble_eq_true rfl) ⟨congrArg Prod.fst (Option.some.inj hf), congrArg Prod.snd (Option.some.inj hf)⟩ dX3_clearTerms_17
/-! DreamLedger.hasParent -/
def fX3_hasParent (S : St) (x1 : Int32) : Option Int32 :=
  Option.bind (fX3_requireTag S x1) fun z_1 =>
  Option.bind (ld S 4 16 x1) fun v_2 =>
  if v_2 = (-1) then
    some 0
  else
    some 1
set_option maxHeartbeats 4000000 in
set_option maxRecDepth 100000 in
theorem ctX3_hasParent (l : Launch) {D : va_G} {cI : ClassId} {q : Nat → Nat} (S : St) (x1 : Int32) (sz : Nat) {r1 : Int32} (hf : fX3_hasParent S x1 = some r1) : Met l yX3_hasParent (Cond.code yX3_hasParent cX3_hasParent 2 (some .boolean) :: XALL) ({ frames := 1, cells := 0, slots := 0, locals := 21 } : Room) (va_Pc [.ref (q 0), .int x1] (gPre D cI ((xw cI q) S) sz)) (gQi D (xw cI q) S (fun (r : Int32) (u : St) => r = r1 ∧ u = S) sz) 0 0 (va_A ((xw cI q) S) sz) := by
  unfold fX3_hasParent at hf
  refine Met.ofW (cc := cX3_hasParent) (maxL := 2) (ret := (some .boolean)) (by decide) rfl ?_
  intro p e s m args below meth c s₁ B hml hv
  obtain ⟨rfl, hg⟩ := hv
  have C : Ctx p s m _ meth c cX3_hasParent 2 RX3 (some .boolean) := Ctx.of B hml rfl
  obtain ⟨E, hw, hsz⟩ := g_start hg
  subst hsz
  have hl := lv_entry ([.ref (q 0), .int x1]) (n := 2) (Nat.le_of_ble_eq_true rfl)
  rw [lg_entry_eq]
  generalize (lg_sl ([.ref (q 0), .int x1]) ++ List.replicate (2 - (lg_sl ([.ref (q 0), .int x1])).length) Slot.unset).toArray = ls at hl ⊢
  have hl : lv_has ls 2 [(0, .ref (q 0)), (1, .int x1)] := hl
  refine lv_aload_n C.1 C.2.1 dX3_hasParent_0 rfl (lv_at hl 0 rfl) ?_
  refine lv_iload_n C.1 C.2.1 dX3_hasParent_1 rfl (lv_at hl 1 rfl) ?_
  obtain ⟨z_1, hz_1, hf⟩ := bnd hf
  refine g_cve (wf := (xw cI q)) (S := S) (rest := []) xw_adr hw (g_runV (rm := ({ frames := 0, cells := 0, slots := 0, locals := 0 } : Room)) (As := [.int x1]) (rest := []) C E hw F_X3_requireTag (ctX3_requireTag l (cI := cI) (D := D) (q := q) S x1 _ hz_1) km_X3_76 0 rfl rfl rfl hl.1 rfl (Nat.le_of_ble_eq_true rfl) ⟨(Nat.le_of_ble_eq_true rfl), (Nat.le_of_ble_eq_true rfl)⟩ ⟨(Nat.le_of_ble_eq_true rfl), (Nat.le_of_ble_eq_true rfl)⟩ dX3_hasParent_2) (fun H locs hw => ?_)
  refine lv_aload_n C.1 C.2.1 dX3_hasParent_5 rfl (lv_at hl 0 rfl) ?_
  refine g_get C E hw inW3 0 rfl rfl 0 (by decide) kf_X3_10 rfl dX3_hasParent_6 ?_
  refine g_getN C E hw inW1 1 rfl rfl 0 (by decide) kfN_X3_73 rfl dX3_hasParent_9 ?_
  refine lv_iload_n C.1 C.2.1 dX3_hasParent_12 rfl (lv_at hl 1 rfl) ?_
  obtain ⟨v_2, hv_2, hf⟩ := bnd hf
  refine g_ald C E hw 8 rfl (ld_some hv_2) dX3_hasParent_13 ?_
  refine lv_iconst (v := (-1)) C.1 C.2.1 dX3_hasParent_14 (by decide) ?_
  refine lv_icmp_eq (tgt := 22) C.1 C.2.1 dX3_hasParent_15 (by decide) (fun hc => ?_) (fun hc => ?_)
  · have hf := ift hc hf
    refine lv_iconst (v := 0) C.1 C.2.1 dX3_hasParent_22 (by decide) ?_
    exact g_zret C hw (Nat.le_of_ble_eq_true rfl) (Nat.le_of_ble_eq_true rfl) (Or.inl rfl) ⟨Option.some.inj hf, rfl⟩ dX3_hasParent_23
  · have hf := iff_ hc hf
    refine lv_iconst (v := 1) C.1 C.2.1 dX3_hasParent_18 (by decide) ?_
    refine lv_goto (tgt := 23) C.1 C.2.1 dX3_hasParent_19 (by decide) ?_
    exact g_zret C hw (Nat.le_of_ble_eq_true rfl) (Nat.le_of_ble_eq_true rfl) (Or.inr rfl) ⟨Option.some.inj hf, rfl⟩ dX3_hasParent_23
/-! DreamLedger.parentOf -/
def fX3_parentOf (S : St) (x1 : Int32) : Option Int32 :=
  Option.bind (fX3_requireParent S x1) fun z_1 =>
  Option.bind (ld S 4 16 x1) fun v_2 =>
  some v_2
set_option maxHeartbeats 4000000 in
set_option maxRecDepth 100000 in
theorem ctX3_parentOf (l : Launch) {D : va_G} {cI : ClassId} {q : Nat → Nat} (S : St) (x1 : Int32) (sz : Nat) {r1 : Int32} (hf : fX3_parentOf S x1 = some r1) : Met l yX3_parentOf (Cond.code yX3_parentOf cX3_parentOf 2 (some .int) :: XALL) ({ frames := 2, cells := 0, slots := 0, locals := 42 } : Room) (va_Pc [.ref (q 0), .int x1] (gPre D cI ((xw cI q) S) sz)) (gQi D (xw cI q) S (fun (r : Int32) (u : St) => r = r1 ∧ u = S) sz) 0 0 (va_A ((xw cI q) S) sz) := by
  unfold fX3_parentOf at hf
  refine Met.ofW (cc := cX3_parentOf) (maxL := 2) (ret := (some .int)) (by decide) rfl ?_
  intro p e s m args below meth c s₁ B hml hv
  obtain ⟨rfl, hg⟩ := hv
  have C : Ctx p s m _ meth c cX3_parentOf 2 RX3 (some .int) := Ctx.of B hml rfl
  obtain ⟨E, hw, hsz⟩ := g_start hg
  subst hsz
  have hl := lv_entry ([.ref (q 0), .int x1]) (n := 2) (Nat.le_of_ble_eq_true rfl)
  rw [lg_entry_eq]
  generalize (lg_sl ([.ref (q 0), .int x1]) ++ List.replicate (2 - (lg_sl ([.ref (q 0), .int x1])).length) Slot.unset).toArray = ls at hl ⊢
  have hl : lv_has ls 2 [(0, .ref (q 0)), (1, .int x1)] := hl
  refine lv_aload_n C.1 C.2.1 dX3_parentOf_0 rfl (lv_at hl 0 rfl) ?_
  refine lv_iload_n C.1 C.2.1 dX3_parentOf_1 rfl (lv_at hl 1 rfl) ?_
  obtain ⟨z_1, hz_1, hf⟩ := bnd hf
  refine g_cve (wf := (xw cI q)) (S := S) (rest := []) xw_adr hw (g_runV (rm := ({ frames := 1, cells := 0, slots := 0, locals := 21 } : Room)) (As := [.int x1]) (rest := []) C E hw F_X3_requireParent (ctX3_requireParent l (cI := cI) (D := D) (q := q) S x1 _ hz_1) km_X3_69 0 rfl rfl rfl hl.1 rfl (Nat.le_of_ble_eq_true rfl) ⟨(Nat.le_of_ble_eq_true rfl), (Nat.le_of_ble_eq_true rfl)⟩ ⟨(Nat.le_of_ble_eq_true rfl), (Nat.le_of_ble_eq_true rfl)⟩ dX3_parentOf_2) (fun H locs hw => ?_)
  refine lv_aload_n C.1 C.2.1 dX3_parentOf_5 rfl (lv_at hl 0 rfl) ?_
  refine g_get C E hw inW3 0 rfl rfl 0 (by decide) kf_X3_10 rfl dX3_parentOf_6 ?_
  refine g_getN C E hw inW1 1 rfl rfl 0 (by decide) kfN_X3_73 rfl dX3_parentOf_9 ?_
  refine lv_iload_n C.1 C.2.1 dX3_parentOf_12 rfl (lv_at hl 1 rfl) ?_
  obtain ⟨v_2, hv_2, hf⟩ := bnd hf
  refine g_ald C E hw 8 rfl (ld_some hv_2) dX3_parentOf_13 ?_
  exact g_iret C hw (Nat.le_of_ble_eq_true rfl) (Nat.le_of_ble_eq_true rfl) ⟨Option.some.inj hf, rfl⟩ dX3_parentOf_14
/-! DreamLedger.tagsAbove -/
def fX3_tagsAbove (S : St) (x1 : Int32) : Option Int32 :=
  Option.bind (fX3_requireTag S x1) fun z_1 =>
  Option.bind (fX1_countAbove S x1) fun v_2 =>
  some v_2
set_option maxHeartbeats 4000000 in
set_option maxRecDepth 100000 in
theorem ctX3_tagsAbove (l : Launch) {D : va_G} {cI : ClassId} {q : Nat → Nat} (S : St) (x1 : Int32) (sz : Nat) {r1 : Int32} (hf : fX3_tagsAbove S x1 = some r1) : Met l yX3_tagsAbove (Cond.code yX3_tagsAbove cX3_tagsAbove 2 (some .int) :: XALL) ({ frames := 2, cells := 0, slots := 0, locals := 41 } : Room) (va_Pc [.ref (q 0), .int x1] (gPre D cI ((xw cI q) S) sz)) (gQi D (xw cI q) S (fun (r : Int32) (u : St) => r = r1 ∧ u = S) sz) 0 0 (va_A ((xw cI q) S) sz) := by
  unfold fX3_tagsAbove at hf
  refine Met.ofW (cc := cX3_tagsAbove) (maxL := 2) (ret := (some .int)) (by decide) rfl ?_
  intro p e s m args below meth c s₁ B hml hv
  obtain ⟨rfl, hg⟩ := hv
  have C : Ctx p s m _ meth c cX3_tagsAbove 2 RX3 (some .int) := Ctx.of B hml rfl
  obtain ⟨E, hw, hsz⟩ := g_start hg
  subst hsz
  have hl := lv_entry ([.ref (q 0), .int x1]) (n := 2) (Nat.le_of_ble_eq_true rfl)
  rw [lg_entry_eq]
  generalize (lg_sl ([.ref (q 0), .int x1]) ++ List.replicate (2 - (lg_sl ([.ref (q 0), .int x1])).length) Slot.unset).toArray = ls at hl ⊢
  have hl : lv_has ls 2 [(0, .ref (q 0)), (1, .int x1)] := hl
  refine lv_aload_n C.1 C.2.1 dX3_tagsAbove_0 rfl (lv_at hl 0 rfl) ?_
  refine lv_iload_n C.1 C.2.1 dX3_tagsAbove_1 rfl (lv_at hl 1 rfl) ?_
  obtain ⟨z_1, hz_1, hf⟩ := bnd hf
  refine g_cve (wf := (xw cI q)) (S := S) (rest := []) xw_adr hw (g_runV (rm := ({ frames := 0, cells := 0, slots := 0, locals := 0 } : Room)) (As := [.int x1]) (rest := []) C E hw F_X3_requireTag (ctX3_requireTag l (cI := cI) (D := D) (q := q) S x1 _ hz_1) km_X3_76 0 rfl rfl rfl hl.1 rfl (Nat.le_of_ble_eq_true rfl) ⟨(Nat.le_of_ble_eq_true rfl), (Nat.le_of_ble_eq_true rfl)⟩ ⟨(Nat.le_of_ble_eq_true rfl), (Nat.le_of_ble_eq_true rfl)⟩ dX3_tagsAbove_2) (fun H locs hw => ?_)
  refine lv_aload_n C.1 C.2.1 dX3_tagsAbove_5 rfl (lv_at hl 0 rfl) ?_
  refine g_get C E hw inW3 0 rfl rfl 0 (by decide) kf_X3_10 rfl dX3_tagsAbove_6 ?_
  refine lv_iload_n C.1 C.2.1 dX3_tagsAbove_9 rfl (lv_at hl 1 rfl) ?_
  obtain ⟨v_2, hv_2, hf⟩ := bnd hf
  refine g_cie (wf := (xw cI q)) (S := S) (rest := []) xw_adr hw (g_runVN (rm := ({ frames := 1, cells := 0, slots := 0, locals := 20 } : Room)) (As := [.int x1]) (rest := []) C E hw F_X1_countAbove (ctX1_countAbove l (cI := cI) (D := D) (q := q) S x1 _ hv_2) kmN_X3_65 1 rfl rfl rfl hl.1 rfl (Nat.le_of_ble_eq_true rfl) ⟨(Nat.le_of_ble_eq_true rfl), (Nat.le_of_ble_eq_true rfl)⟩ ⟨(Nat.le_of_ble_eq_true rfl), (Nat.le_of_ble_eq_true rfl)⟩ dX3_tagsAbove_10) (fun H locs hw => ?_)
  exact g_iret C hw (Nat.le_of_ble_eq_true rfl) (Nat.le_of_ble_eq_true rfl) ⟨Option.some.inj hf, rfl⟩ dX3_tagsAbove_13
