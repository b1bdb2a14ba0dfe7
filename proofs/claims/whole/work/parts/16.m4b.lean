/-! DreamLedgerModel.hasOwnTag -/
def fX4_hasOwnTag_34 (S : St) : Option (Int32 × St) :=
  Option.bind (fX4_failed S 1) fun u_9 => pr u_9 fun v_7 S_8 =>
  Option.bind (zg v_7) fun v_10 =>
  some (v_10, S_8)
set_option maxHeartbeats 4000000 in
set_option maxRecDepth 100000 in
theorem wX4_hasOwnTag_34 {p : Program} {l : Launch} {e : Env} {s : State} {m : MethodId} {args : Array Value} {below : List Frame} {meth : Method} {c : Code} {D : va_G} {cI : ClassId} {q : Nat → Nat} (C : Ctx p s m args meth c cX4_hasOwnTag 3 RX4 (some .boolean)) (E : gE D cI s) {S0 : St} {r1 : Int32} {S1 : St} : ∀ (S : St), fX4_hasOwnTag_34 S = some (r1, S1) → ∀ (H : Heap) (locs : List Loc) (ls : Array Slot), gW D ((mw cI q) S0) ((mw cI q) S) s H locs → lv_has ls 3 [(0, .ref (q 0))] → W p l e ({ frames := 2, cells := 0, slots := 0, locals := 43 } : Room) s m args below meth c H locs 0 0 (MQ below (gQi D (mw cI q) S0 (fun (r : Int32) (u : St) => r = r1 ∧ u = S1) s.heap.size) args s 0 0 (va_A ((mw cI q) S0) s.heap.size)) (F0 m 34 ls []) := by
  intro S hf H locs ls hw hl
  unfold fX4_hasOwnTag_34 at hf
  refine lv_aload_n C.1 C.2.1 dX4_hasOwnTag_34 rfl (lv_at hl 0 rfl) ?_
  refine lv_iconst (v := 1) C.1 C.2.1 dX4_hasOwnTag_35 (by decide) ?_
  obtain ⟨⟨v_7, S_8⟩, hu_9, hf⟩ := bnd hf
  have hf := pr_r hf
  refine g_cie (wf := (mw cI q)) (S := S) (rest := []) mw_adr hw (g_runV (rm := ({ frames := 0, cells := 0, slots := 0, locals := 0 } : Room)) (As := [.int 1]) (rest := []) C E hw F_X4_failed (ctX4_failed l (cI := cI) (D := D) (q := q) S 1 _ hu_9) km_X4_109 0 rfl rfl rfl hl.1 rfl (Nat.le_of_ble_eq_true rfl) ⟨(Nat.le_of_ble_eq_true rfl), (Nat.le_of_ble_eq_true rfl)⟩ ⟨(Nat.le_of_ble_eq_true rfl), (Nat.le_of_ble_eq_true rfl)⟩ dX4_hasOwnTag_36) (fun H locs hw => ?_)
  obtain ⟨v_10, hv_10, hf⟩ := bnd hf
  rw [(zg_some hv_10).1]
  exact g_zret C hw (Nat.le_of_ble_eq_true rfl) (Nat.le_of_ble_eq_true rfl) (zg_some hv_10).2 ⟨congrArg Prod.fst (Option.some.inj hf), congrArg Prod.snd (Option.some.inj hf)⟩ dX4_hasOwnTag_39
def fX4_hasOwnTag (S : St) (x1 : Int32) (x2 : Int32) : Option (Int32 × St) :=
  Option.bind (some (up S 10 0 0)) fun S_1 =>
  Option.bind (fX4_isDream S_1 x1) fun v_2 =>
  if v_2 = 0 then
    fX4_hasOwnTag_34 S_1
  else
    Option.bind (fX4_isTag S_1 x2) fun v_3 =>
    if v_3 = 0 then
      fX4_hasOwnTag_34 S_1
    else
      Option.bind (ld S_1 1 24 x1) fun v_4 =>
      Option.bind (fX4_is v_4 x2) fun v_5 =>
      Option.bind (zg v_5) fun v_6 =>
      some (v_6, S_1)
set_option maxHeartbeats 4000000 in
set_option maxRecDepth 100000 in
theorem ctX4_hasOwnTag (l : Launch) {D : va_G} {cI : ClassId} {q : Nat → Nat} (S : St) (x1 : Int32) (x2 : Int32) (sz : Nat) {r1 : Int32} {S1 : St} (hf : fX4_hasOwnTag S x1 x2 = some (r1, S1)) : Met l yX4_hasOwnTag (Cond.code yX4_hasOwnTag cX4_hasOwnTag 3 (some .boolean) :: XALL) ({ frames := 2, cells := 0, slots := 0, locals := 43 } : Room) (va_Pc [.ref (q 0), .int x1, .int x2] (gPre D cI ((mw cI q) S) sz)) (gQi D (mw cI q) S (fun (r : Int32) (u : St) => r = r1 ∧ u = S1) sz) 0 0 (va_A ((mw cI q) S) sz) := by
  unfold fX4_hasOwnTag at hf
  refine Met.ofW (cc := cX4_hasOwnTag) (maxL := 3) (ret := (some .boolean)) (by decide) rfl ?_
  intro p e s m args below meth c s₁ B hml hv
  obtain ⟨rfl, hg⟩ := hv
  have C : Ctx p s m _ meth c cX4_hasOwnTag 3 RX4 (some .boolean) := Ctx.of B hml rfl
  obtain ⟨E, hw, hsz⟩ := g_start hg
  subst hsz
  have hl := lv_entry ([.ref (q 0), .int x1, .int x2]) (n := 3) (Nat.le_of_ble_eq_true rfl)
  rw [lg_entry_eq]
  generalize (lg_sl ([.ref (q 0), .int x1, .int x2]) ++ List.replicate (3 - (lg_sl ([.ref (q 0), .int x1, .int x2])).length) Slot.unset).toArray = ls at hl ⊢
  have hl : lv_has ls 3 [(0, .ref (q 0)), (1, .int x1), (2, .int x2)] := hl
  refine lv_aload_n C.1 C.2.1 dX4_hasOwnTag_0 rfl (lv_at hl 0 rfl) ?_
  refine lv_iconst (v := 0) C.1 C.2.1 dX4_hasOwnTag_1 (by decide) ?_
  obtain ⟨S_1, hS_1, hf⟩ := bnd hf
  refine g_put C E hw inW4 tyX4 tyX4_ok nmX4 0 rfl rfl 0 (by decide) kf_X4_40 rfl (by decide +kernel) (Nat.le_of_ble_eq_true rfl) (ws' := (mw cI q) S_1) (by rw [← Option.some.inj hS_1]; rfl) dX4_hasOwnTag_2 (fun H locs hw => ?_)
  refine lv_aload_n C.1 C.2.1 dX4_hasOwnTag_5 rfl (lv_at hl 0 rfl) ?_
  refine lv_iload_n C.1 C.2.1 dX4_hasOwnTag_6 rfl (lv_at hl 1 rfl) ?_
  obtain ⟨v_2, hv_2, hf⟩ := bnd hf
  refine g_cie (wf := (mw cI q)) (S := S_1) (rest := []) mw_adr hw (g_runV (rm := ({ frames := 1, cells := 0, slots := 0, locals := 22 } : Room)) (As := [.int x1]) (rest := []) C E hw F_X4_isDream (ctX4_isDream l (cI := cI) (D := D) (q := q) S_1 x1 _ hv_2) km_X4_84 0 rfl rfl rfl hl.1 rfl (Nat.le_of_ble_eq_true rfl) ⟨(Nat.le_of_ble_eq_true rfl), (Nat.le_of_ble_eq_true rfl)⟩ ⟨(Nat.le_of_ble_eq_true rfl), (Nat.le_of_ble_eq_true rfl)⟩ dX4_hasOwnTag_7) (fun H locs hw => ?_)
  refine lv_if_eq (tgt := 34) C.1 C.2.1 dX4_hasOwnTag_10 (by decide) (fun hc => ?_) (fun hc => ?_)
  · have hf := ift hc hf
    exact wX4_hasOwnTag_34 C E S_1 hf _ _ _ hw (lv_sub hl [0] rfl)
  · have hf := iff_ hc hf
    refine lv_aload_n C.1 C.2.1 dX4_hasOwnTag_13 rfl (lv_at hl 0 rfl) ?_
    refine lv_iload_n C.1 C.2.1 dX4_hasOwnTag_14 rfl (lv_at hl 2 rfl) ?_
    obtain ⟨v_3, hv_3, hf⟩ := bnd hf
    refine g_cie (wf := (mw cI q)) (S := S_1) (rest := []) mw_adr hw (g_runV (rm := ({ frames := 1, cells := 0, slots := 0, locals := 22 } : Room)) (As := [.int x2]) (rest := []) C E hw F_X4_isTag (ctX4_isTag l (cI := cI) (D := D) (q := q) S_1 x2 _ hv_3) km_X4_71 0 rfl rfl rfl hl.1 rfl (Nat.le_of_ble_eq_true rfl) ⟨(Nat.le_of_ble_eq_true rfl), (Nat.le_of_ble_eq_true rfl)⟩ ⟨(Nat.le_of_ble_eq_true rfl), (Nat.le_of_ble_eq_true rfl)⟩ dX4_hasOwnTag_15) (fun H locs hw => ?_)
    refine lv_if_eq (tgt := 34) C.1 C.2.1 dX4_hasOwnTag_18 (by decide) (fun hc => ?_) (fun hc => ?_)
    · have hf := ift hc hf
      exact wX4_hasOwnTag_34 C E S_1 hf _ _ _ hw (lv_sub hl [0] rfl)
    · have hf := iff_ hc hf
      refine lv_aload_n C.1 C.2.1 dX4_hasOwnTag_21 rfl (lv_at hl 0 rfl) ?_
      refine g_get C E hw inW4 0 rfl rfl 6 (by decide) kf_X4_13 rfl dX4_hasOwnTag_22 ?_
      refine lv_iload_n C.1 C.2.1 dX4_hasOwnTag_25 rfl (lv_at hl 1 rfl) ?_
      obtain ⟨v_4, hv_4, hf⟩ := bnd hf
      refine g_ald C E hw 2 rfl (ld_some hv_4) dX4_hasOwnTag_26 ?_
      refine lv_iload_n C.1 C.2.1 dX4_hasOwnTag_27 rfl (lv_at hl 2 rfl) ?_
      obtain ⟨v_5, hv_5, hf⟩ := bnd hf
      refine g_ci0e (rest := []) hw (g_run0 (rm := ({ frames := 0, cells := 0, slots := 0, locals := 0 } : Room)) (As := [.int v_4, .int x2]) (rest := []) C F_X4_is (ctX4_is l v_4 x2 hv_5) km_X4_61 rfl hl.1 rfl (Nat.le_of_ble_eq_true rfl) ⟨(Nat.le_of_ble_eq_true rfl), (Nat.le_of_ble_eq_true rfl)⟩ ⟨(Nat.le_of_ble_eq_true rfl), (Nat.le_of_ble_eq_true rfl)⟩ dX4_hasOwnTag_28) (fun H locs hw => ?_)
      refine lv_goto (tgt := 39) C.1 C.2.1 dX4_hasOwnTag_31 (by decide) ?_
      obtain ⟨v_6, hv_6, hf⟩ := bnd hf
      rw [(zg_some hv_6).1]
      exact g_zret C hw (Nat.le_of_ble_eq_true rfl) (Nat.le_of_ble_eq_true rfl) (zg_some hv_6).2 ⟨congrArg Prod.fst (Option.some.inj hf), congrArg Prod.snd (Option.some.inj hf)⟩ dX4_hasOwnTag_39
/-! DreamLedgerModel.hasTag -/
def fX4_hasTag_21 (S : St) : Option (Int32 × St) :=
  Option.bind (fX4_failed S 1) fun u_10 => pr u_10 fun v_8 S_9 =>
  Option.bind (zg v_8) fun v_11 =>
  some (v_11, S_9)
set_option maxHeartbeats 4000000 in
set_option maxRecDepth 100000 in
theorem wX4_hasTag_21 {p : Program} {l : Launch} {e : Env} {s : State} {m : MethodId} {args : Array Value} {below : List Frame} {meth : Method} {c : Code} {D : va_G} {cI : ClassId} {q : Nat → Nat} (C : Ctx p s m args meth c cX4_hasTag 3 RX4 (some .boolean)) (E : gE D cI s) {S0 : St} {r1 : Int32} {S1 : St} : ∀ (S : St), fX4_hasTag_21 S = some (r1, S1) → ∀ (H : Heap) (locs : List Loc) (ls : Array Slot), gW D ((mw cI q) S0) ((mw cI q) S) s H locs → lv_has ls 3 [(0, .ref (q 0))] → W p l e ({ frames := 2, cells := 0, slots := 0, locals := 45 } : Room) s m args below meth c H locs 0 0 (MQ below (gQi D (mw cI q) S0 (fun (r : Int32) (u : St) => r = r1 ∧ u = S1) s.heap.size) args s 0 0 (va_A ((mw cI q) S0) s.heap.size)) (F0 m 21 ls []) := by
  intro S hf H locs ls hw hl
  unfold fX4_hasTag_21 at hf
  refine lv_aload_n C.1 C.2.1 dX4_hasTag_21 rfl (lv_at hl 0 rfl) ?_
  refine lv_iconst (v := 1) C.1 C.2.1 dX4_hasTag_22 (by decide) ?_
  obtain ⟨⟨v_8, S_9⟩, hu_10, hf⟩ := bnd hf
  have hf := pr_r hf
  refine g_cie (wf := (mw cI q)) (S := S) (rest := []) mw_adr hw (g_runV (rm := ({ frames := 0, cells := 0, slots := 0, locals := 0 } : Room)) (As := [.int 1]) (rest := []) C E hw F_X4_failed (ctX4_failed l (cI := cI) (D := D) (q := q) S 1 _ hu_10) km_X4_109 0 rfl rfl rfl hl.1 rfl (Nat.le_of_ble_eq_true rfl) ⟨(Nat.le_of_ble_eq_true rfl), (Nat.le_of_ble_eq_true rfl)⟩ ⟨(Nat.le_of_ble_eq_true rfl), (Nat.le_of_ble_eq_true rfl)⟩ dX4_hasTag_23) (fun H locs hw => ?_)
  obtain ⟨v_11, hv_11, hf⟩ := bnd hf
  rw [(zg_some hv_11).1]
  exact g_zret C hw (Nat.le_of_ble_eq_true rfl) (Nat.le_of_ble_eq_true rfl) (zg_some hv_11).2 ⟨congrArg Prod.fst (Option.some.inj hf), congrArg Prod.snd (Option.some.inj hf)⟩ dX4_hasTag_26
def fX4_hasTag (S : St) (x1 : Int32) (x2 : Int32) : Option (Int32 × St) :=
  Option.bind (some (up S 10 0 0)) fun S_1 =>
  Option.bind (fX4_isDream S_1 x1) fun v_2 =>
  if v_2 = 0 then
    fX4_hasTag_21 S_1
  else
    Option.bind (fX4_isTag S_1 x2) fun v_3 =>
    if v_3 = 0 then
      fX4_hasTag_21 S_1
    else
      Option.bind (fX4_reckon S_1) fun S_4 =>
      Option.bind (ld S_4 7 24 x1) fun v_5 =>
      Option.bind (fX4_is v_5 x2) fun v_6 =>
      Option.bind (zg v_6) fun v_7 =>
      some (v_7, S_4)
set_option maxHeartbeats 4000000 in
set_option maxRecDepth 100000 in
theorem ctX4_hasTag (l : Launch) {D : va_G} {cI : ClassId} {q : Nat → Nat} (S : St) (x1 : Int32) (x2 : Int32) (sz : Nat) {r1 : Int32} {S1 : St} (hf : fX4_hasTag S x1 x2 = some (r1, S1)) : Met l yX4_hasTag (Cond.code yX4_hasTag cX4_hasTag 3 (some .boolean) :: XALL) ({ frames := 2, cells := 0, slots := 0, locals := 45 } : Room) (va_Pc [.ref (q 0), .int x1, .int x2] (gPre D cI ((mw cI q) S) sz)) (gQi D (mw cI q) S (fun (r : Int32) (u : St) => r = r1 ∧ u = S1) sz) 0 0 (va_A ((mw cI q) S) sz) := by
  unfold fX4_hasTag at hf
  refine Met.ofW (cc := cX4_hasTag) (maxL := 3) (ret := (some .boolean)) (by decide) rfl ?_
  intro p e s m args below meth c s₁ B hml hv
  obtain ⟨rfl, hg⟩ := hv
  have C : Ctx p s m _ meth c cX4_hasTag 3 RX4 (some .boolean) := Ctx.of B hml rfl
  obtain ⟨E, hw, hsz⟩ := g_start hg
  subst hsz
  have hl := lv_entry ([.ref (q 0), .int x1, .int x2]) (n := 3) (Nat.le_of_ble_eq_true rfl)
  rw [lg_entry_eq]
  generalize (lg_sl ([.ref (q 0), .int x1, .int x2]) ++ List.replicate (3 - (lg_sl ([.ref (q 0), .int x1, .int x2])).length) Slot.unset).toArray = ls at hl ⊢
  have hl : lv_has ls 3 [(0, .ref (q 0)), (1, .int x1), (2, .int x2)] := hl
  refine lv_aload_n C.1 C.2.1 dX4_hasTag_0 rfl (lv_at hl 0 rfl) ?_
  refine lv_iconst (v := 0) C.1 C.2.1 dX4_hasTag_1 (by decide) ?_
  obtain ⟨S_1, hS_1, hf⟩ := bnd hf
  refine g_put C E hw inW4 tyX4 tyX4_ok nmX4 0 rfl rfl 0 (by decide) kf_X4_40 rfl (by decide +kernel) (Nat.le_of_ble_eq_true rfl) (ws' := (mw cI q) S_1) (by rw [← Option.some.inj hS_1]; rfl) dX4_hasTag_2 (fun H locs hw => ?_)
  refine lv_aload_n C.1 C.2.1 dX4_hasTag_5 rfl (lv_at hl 0 rfl) ?_
  refine lv_iload_n C.1 C.2.1 dX4_hasTag_6 rfl (lv_at hl 1 rfl) ?_
  obtain ⟨v_2, hv_2, hf⟩ := bnd hf
  refine g_cie (wf := (mw cI q)) (S := S_1) (rest := []) mw_adr hw (g_runV (rm := ({ frames := 1, cells := 0, slots := 0, locals := 22 } : Room)) (As := [.int x1]) (rest := []) C E hw F_X4_isDream (ctX4_isDream l (cI := cI) (D := D) (q := q) S_1 x1 _ hv_2) km_X4_84 0 rfl rfl rfl hl.1 rfl (Nat.le_of_ble_eq_true rfl) ⟨(Nat.le_of_ble_eq_true rfl), (Nat.le_of_ble_eq_true rfl)⟩ ⟨(Nat.le_of_ble_eq_true rfl), (Nat.le_of_ble_eq_true rfl)⟩ dX4_hasTag_7) (fun H locs hw => ?_)
  refine lv_if_eq (tgt := 21) C.1 C.2.1 dX4_hasTag_10 (by decide) (fun hc => ?_) (fun hc => ?_)
  · have hf := ift hc hf
    exact wX4_hasTag_21 C E S_1 hf _ _ _ hw (lv_sub hl [0] rfl)
  · have hf := iff_ hc hf
    refine lv_aload_n C.1 C.2.1 dX4_hasTag_13 rfl (lv_at hl 0 rfl) ?_
    refine lv_iload_n C.1 C.2.1 dX4_hasTag_14 rfl (lv_at hl 2 rfl) ?_
    obtain ⟨v_3, hv_3, hf⟩ := bnd hf
    refine g_cie (wf := (mw cI q)) (S := S_1) (rest := []) mw_adr hw (g_runV (rm := ({ frames := 1, cells := 0, slots := 0, locals := 22 } : Room)) (As := [.int x2]) (rest := []) C E hw F_X4_isTag (ctX4_isTag l (cI := cI) (D := D) (q := q) S_1 x2 _ hv_3) km_X4_71 0 rfl rfl rfl hl.1 rfl (Nat.le_of_ble_eq_true rfl) ⟨(Nat.le_of_ble_eq_true rfl), (Nat.le_of_ble_eq_true rfl)⟩ ⟨(Nat.le_of_ble_eq_true rfl), (Nat.le_of_ble_eq_true rfl)⟩ dX4_hasTag_15) (fun H locs hw => ?_)
    refine lv_if_ne (tgt := 27) C.1 C.2.1 dX4_hasTag_18 (by decide) (fun hc => ?_) (fun hc => ?_)
    · have hf := iff_ hc hf
      refine lv_aload_n C.1 C.2.1 dX4_hasTag_27 rfl (lv_at hl 0 rfl) ?_
      obtain ⟨S_4, hS_4, hf⟩ := bnd hf
      refine g_cve (wf := (mw cI q)) (S := S_1) (rest := []) mw_adr hw (g_runV (rm := ({ frames := 1, cells := 0, slots := 0, locals := 23 } : Room)) (As := []) (rest := []) C E hw F_X4_reckon (ctX4_reckon l (cI := cI) (D := D) (q := q) S_1  _ hS_4) km_X4_115 0 rfl rfl rfl hl.1 rfl (Nat.le_of_ble_eq_true rfl) ⟨(Nat.le_of_ble_eq_true rfl), (Nat.le_of_ble_eq_true rfl)⟩ ⟨(Nat.le_of_ble_eq_true rfl), (Nat.le_of_ble_eq_true rfl)⟩ dX4_hasTag_28) (fun H locs hw => ?_)
      refine lv_aload_n C.1 C.2.1 dX4_hasTag_31 rfl (lv_at hl 0 rfl) ?_
      refine g_get C E hw inW4 0 rfl rfl 12 (by decide) kf_X4_31 rfl dX4_hasTag_32 ?_
      refine lv_iload_n C.1 C.2.1 dX4_hasTag_35 rfl (lv_at hl 1 rfl) ?_
      obtain ⟨v_5, hv_5, hf⟩ := bnd hf
      refine g_ald C E hw 8 rfl (ld_some hv_5) dX4_hasTag_36 ?_
      refine lv_iload_n C.1 C.2.1 dX4_hasTag_37 rfl (lv_at hl 2 rfl) ?_
      obtain ⟨v_6, hv_6, hf⟩ := bnd hf
      refine g_ci0e (rest := []) hw (g_run0 (rm := ({ frames := 0, cells := 0, slots := 0, locals := 0 } : Room)) (As := [.int v_5, .int x2]) (rest := []) C F_X4_is (ctX4_is l v_5 x2 hv_6) km_X4_61 rfl hl.1 rfl (Nat.le_of_ble_eq_true rfl) ⟨(Nat.le_of_ble_eq_true rfl), (Nat.le_of_ble_eq_true rfl)⟩ ⟨(Nat.le_of_ble_eq_true rfl), (Nat.le_of_ble_eq_true rfl)⟩ dX4_hasTag_38) (fun H locs hw => ?_)
      obtain ⟨v_7, hv_7, hf⟩ := bnd hf
      rw [(zg_some hv_7).1]
      exact g_zret C hw (Nat.le_of_ble_eq_true rfl) (Nat.le_of_ble_eq_true rfl) (zg_some hv_7).2 ⟨congrArg Prod.fst (Option.some.inj hf), congrArg Prod.snd (Option.some.inj hf)⟩ dX4_hasTag_41
    · have hf := ift hc hf
      exact wX4_hasTag_21 C E S_1 hf _ _ _ hw (lv_sub hl [0] rfl)
/-! DreamLedgerModel.tagsOf -/
def fX4_tagsOf (S : St) (x1 : Int32) : Option (Int32 × St) :=
  Option.bind (some (up S 10 0 0)) fun S_1 =>
  Option.bind (fX4_isDream S_1 x1) fun v_2 =>
  if v_2 = 0 then
    Option.bind (fX4_fail S_1 1) fun u_8 => pr u_8 fun v_6 S_7 =>
    some (v_6, S_7)
  else
    Option.bind (fX4_reckon S_1) fun S_3 =>
    Option.bind (ld S_3 7 24 x1) fun v_4 =>
    Option.bind (fX4_many v_4) fun v_5 =>
    some (v_5, S_3)
set_option maxHeartbeats 4000000 in
set_option maxRecDepth 100000 in
theorem ctX4_tagsOf (l : Launch) {D : va_G} {cI : ClassId} {q : Nat → Nat} (S : St) (x1 : Int32) (sz : Nat) {r1 : Int32} {S1 : St} (hf : fX4_tagsOf S x1 = some (r1, S1)) : Met l yX4_tagsOf (Cond.code yX4_tagsOf cX4_tagsOf 2 (some .int) :: XALL) ({ frames := 2, cells := 0, slots := 0, locals := 45 } : Room) (va_Pc [.ref (q 0), .int x1] (gPre D cI ((mw cI q) S) sz)) (gQi D (mw cI q) S (fun (r : Int32) (u : St) => r = r1 ∧ u = S1) sz) 0 0 (va_A ((mw cI q) S) sz) := by
  unfold fX4_tagsOf at hf
  refine Met.ofW (cc := cX4_tagsOf) (maxL := 2) (ret := (some .int)) (by decide) rfl ?_
  intro p e s m args below meth c s₁ B hml hv
  obtain ⟨rfl, hg⟩ := hv
  have C : Ctx p s m _ meth c cX4_tagsOf 2 RX4 (some .int) := Ctx.of B hml rfl
  obtain ⟨E, hw, hsz⟩ := g_start hg
  subst hsz
  have hl := lv_entry ([.ref (q 0), .int x1]) (n := 2) (Nat.le_of_ble_eq_true rfl)
  rw [lg_entry_eq]
  generalize (lg_sl ([.ref (q 0), .int x1]) ++ List.replicate (2 - (lg_sl ([.ref (q 0), .int x1])).length) Slot.unset).toArray = ls at hl ⊢
  have hl : lv_has ls 2 [(0, .ref (q 0)), (1, .int x1)] := hl
  refine lv_aload_n C.1 C.2.1 dX4_tagsOf_0 rfl (lv_at hl 0 rfl) ?_
  refine lv_iconst (v := 0) C.1 C.2.1 dX4_tagsOf_1 (by decide) ?_
  obtain ⟨S_1, hS_1, hf⟩ := bnd hf
  refine g_put C E hw inW4 tyX4 tyX4_ok nmX4 0 rfl rfl 0 (by decide) kf_X4_40 rfl (by decide +kernel) (Nat.le_of_ble_eq_true rfl) (ws' := (mw cI q) S_1) (by rw [← Option.some.inj hS_1]; rfl) dX4_tagsOf_2 (fun H locs hw => ?_)
  refine lv_aload_n C.1 C.2.1 dX4_tagsOf_5 rfl (lv_at hl 0 rfl) ?_
  refine lv_iload_n C.1 C.2.1 dX4_tagsOf_6 rfl (lv_at hl 1 rfl) ?_
  obtain ⟨v_2, hv_2, hf⟩ := bnd hf
  refine g_cie (wf := (mw cI q)) (S := S_1) (rest := []) mw_adr hw (g_runV (rm := ({ frames := 1, cells := 0, slots := 0, locals := 22 } : Room)) (As := [.int x1]) (rest := []) C E hw F_X4_isDream (ctX4_isDream l (cI := cI) (D := D) (q := q) S_1 x1 _ hv_2) km_X4_84 0 rfl rfl rfl hl.1 rfl (Nat.le_of_ble_eq_true rfl) ⟨(Nat.le_of_ble_eq_true rfl), (Nat.le_of_ble_eq_true rfl)⟩ ⟨(Nat.le_of_ble_eq_true rfl), (Nat.le_of_ble_eq_true rfl)⟩ dX4_tagsOf_7) (fun H locs hw => ?_)
  refine lv_if_ne (tgt := 19) C.1 C.2.1 dX4_tagsOf_10 (by decide) (fun hc => ?_) (fun hc => ?_)
  · have hf := iff_ hc hf
    refine lv_aload_n C.1 C.2.1 dX4_tagsOf_19 rfl (lv_at hl 0 rfl) ?_
    obtain ⟨S_3, hS_3, hf⟩ := bnd hf
    refine g_cve (wf := (mw cI q)) (S := S_1) (rest := []) mw_adr hw (g_runV (rm := ({ frames := 1, cells := 0, slots := 0, locals := 23 } : Room)) (As := []) (rest := []) C E hw F_X4_reckon (ctX4_reckon l (cI := cI) (D := D) (q := q) S_1  _ hS_3) km_X4_115 0 rfl rfl rfl hl.1 rfl (Nat.le_of_ble_eq_true rfl) ⟨(Nat.le_of_ble_eq_true rfl), (Nat.le_of_ble_eq_true rfl)⟩ ⟨(Nat.le_of_ble_eq_true rfl), (Nat.le_of_ble_eq_true rfl)⟩ dX4_tagsOf_20) (fun H locs hw => ?_)
    refine lv_aload_n C.1 C.2.1 dX4_tagsOf_23 rfl (lv_at hl 0 rfl) ?_
    refine g_get C E hw inW4 0 rfl rfl 12 (by decide) kf_X4_31 rfl dX4_tagsOf_24 ?_
    refine lv_iload_n C.1 C.2.1 dX4_tagsOf_27 rfl (lv_at hl 1 rfl) ?_
    obtain ⟨v_4, hv_4, hf⟩ := bnd hf
    refine g_ald C E hw 8 rfl (ld_some hv_4) dX4_tagsOf_28 ?_
    obtain ⟨v_5, hv_5, hf⟩ := bnd hf
    refine g_ci0e (rest := []) hw (g_run0 (rm := ({ frames := 0, cells := 0, slots := 0, locals := 0 } : Room)) (As := [.int v_4]) (rest := []) C F_X4_many (ctX4_many l v_4 hv_5) km_X4_78 rfl hl.1 rfl (Nat.le_of_ble_eq_true rfl) ⟨(Nat.le_of_ble_eq_true rfl), (Nat.le_of_ble_eq_true rfl)⟩ ⟨(Nat.le_of_ble_eq_true rfl), (Nat.le_of_ble_eq_true rfl)⟩ dX4_tagsOf_29) (fun H locs hw => ?_)
    exact g_iret C hw (Nat.le_of_ble_eq_true rfl) (Nat.le_of_ble_eq_true rfl) ⟨congrArg Prod.fst (Option.some.inj hf), congrArg Prod.snd (Option.some.inj hf)⟩ dX4_tagsOf_32
  · have hf := ift hc hf
    refine lv_aload_n C.1 C.2.1 dX4_tagsOf_13 rfl (lv_at hl 0 rfl) ?_
    refine lv_iconst (v := 1) C.1 C.2.1 dX4_tagsOf_14 (by decide) ?_
    obtain ⟨⟨v_6, S_7⟩, hu_8, hf⟩ := bnd hf
    have hf := pr_r hf
    refine g_cie (wf := (mw cI q)) (S := S_1) (rest := []) mw_adr hw (g_runV (rm := ({ frames := 0, cells := 0, slots := 0, locals := 0 } : Room)) (As := [.int 1]) (rest := []) C E hw F_X4_fail (ctX4_fail l (cI := cI) (D := D) (q := q) S_1 1 _ hu_8) km_X4_68 0 rfl rfl rfl hl.1 rfl (Nat.le_of_ble_eq_true rfl) ⟨(Nat.le_of_ble_eq_true rfl), (Nat.le_of_ble_eq_true rfl)⟩ ⟨(Nat.le_of_ble_eq_true rfl), (Nat.le_of_ble_eq_true rfl)⟩ dX4_tagsOf_15) (fun H locs hw => ?_)
    exact g_iret C hw (Nat.le_of_ble_eq_true rfl) (Nat.le_of_ble_eq_true rfl) ⟨congrArg Prod.fst (Option.some.inj hf), congrArg Prod.snd (Option.some.inj hf)⟩ dX4_tagsOf_18
/-! DreamLedgerModel.vividnessOf -/
def fX4_vividnessOf (S : St) (x1 : Int32) : Option (Int32 × St) :=
  Option.bind (some (up S 10 0 0)) fun S_1 =>
  Option.bind (fX4_isDream S_1 x1) fun v_2 =>
  if v_2 = 0 then
    Option.bind (fX4_fail S_1 1) fun u_5 => pr u_5 fun v_3 S_4 =>
    some (v_3, S_4)
  else
    Option.bind (ld S_1 2 24 x1) fun v_6 =>
    some (v_6, S_1)
set_option maxHeartbeats 4000000 in
set_option maxRecDepth 100000 in
theorem ctX4_vividnessOf (l : Launch) {D : va_G} {cI : ClassId} {q : Nat → Nat} (S : St) (x1 : Int32) (sz : Nat) {r1 : Int32} {S1 : St} (hf : fX4_vividnessOf S x1 = some (r1, S1)) : Met l yX4_vividnessOf (Cond.code yX4_vividnessOf cX4_vividnessOf 2 (some .int) :: XALL) ({ frames := 2, cells := 0, slots := 0, locals := 43 } : Room) (va_Pc [.ref (q 0), .int x1] (gPre D cI ((mw cI q) S) sz)) (gQi D (mw cI q) S (fun (r : Int32) (u : St) => r = r1 ∧ u = S1) sz) 0 0 (va_A ((mw cI q) S) sz) := by
  unfold fX4_vividnessOf at hf
  refine Met.ofW (cc := cX4_vividnessOf) (maxL := 2) (ret := (some .int)) (by decide) rfl ?_
  intro p e s m args below meth c s₁ B hml hv
  obtain ⟨rfl, hg⟩ := hv
  have C : Ctx p s m _ meth c cX4_vividnessOf 2 RX4 (some .int) := Ctx.of B hml rfl
  obtain ⟨E, hw, hsz⟩ := g_start hg
  subst hsz
  have hl := lv_entry ([.ref (q 0), .int x1]) (n := 2) (Nat.le_of_ble_eq_true rfl)
  rw [lg_entry_eq]
  generalize (lg_sl ([.ref (q 0), .int x1]) ++ List.replicate (2 - (lg_sl ([.ref (q 0), .int x1])).length) Slot.unset).toArray = ls at hl ⊢
  have hl : lv_has ls 2 [(0, .ref (q 0)), (1, .int x1)] := hl
  refine lv_aload_n C.1 C.2.1 dX4_vividnessOf_0 rfl (lv_at hl 0 rfl) ?_
  refine lv_iconst (v := 0) C.1 C.2.1 dX4_vividnessOf_1 (by decide) ?_
  obtain ⟨S_1, hS_1, hf⟩ := bnd hf
  refine g_put C E hw inW4 tyX4 tyX4_ok nmX4 0 rfl rfl 0 (by decide) kf_X4_40 rfl (by decide +kernel) (Nat.le_of_ble_eq_true rfl) (ws' := (mw cI q) S_1) (by rw [← Option.some.inj hS_1]; rfl) dX4_vividnessOf_2 (fun H locs hw => ?_)
  refine lv_aload_n C.1 C.2.1 dX4_vividnessOf_5 rfl (lv_at hl 0 rfl) ?_
  refine lv_iload_n C.1 C.2.1 dX4_vividnessOf_6 rfl (lv_at hl 1 rfl) ?_
  obtain ⟨v_2, hv_2, hf⟩ := bnd hf
  refine g_cie (wf := (mw cI q)) (S := S_1) (rest := []) mw_adr hw (g_runV (rm := ({ frames := 1, cells := 0, slots := 0, locals := 22 } : Room)) (As := [.int x1]) (rest := []) C E hw F_X4_isDream (ctX4_isDream l (cI := cI) (D := D) (q := q) S_1 x1 _ hv_2) km_X4_84 0 rfl rfl rfl hl.1 rfl (Nat.le_of_ble_eq_true rfl) ⟨(Nat.le_of_ble_eq_true rfl), (Nat.le_of_ble_eq_true rfl)⟩ ⟨(Nat.le_of_ble_eq_true rfl), (Nat.le_of_ble_eq_true rfl)⟩ dX4_vividnessOf_7) (fun H locs hw => ?_)
  refine lv_if_eq (tgt := 22) C.1 C.2.1 dX4_vividnessOf_10 (by decide) (fun hc => ?_) (fun hc => ?_)
  · have hf := ift hc hf
    refine lv_aload_n C.1 C.2.1 dX4_vividnessOf_22 rfl (lv_at hl 0 rfl) ?_
    refine lv_iconst (v := 1) C.1 C.2.1 dX4_vividnessOf_23 (by decide) ?_
    obtain ⟨⟨v_3, S_4⟩, hu_5, hf⟩ := bnd hf
    have hf := pr_r hf
    refine g_cie (wf := (mw cI q)) (S := S_1) (rest := []) mw_adr hw (g_runV (rm := ({ frames := 0, cells := 0, slots := 0, locals := 0 } : Room)) (As := [.int 1]) (rest := []) C E hw F_X4_fail (ctX4_fail l (cI := cI) (D := D) (q := q) S_1 1 _ hu_5) km_X4_68 0 rfl rfl rfl hl.1 rfl (Nat.le_of_ble_eq_true rfl) ⟨(Nat.le_of_ble_eq_true rfl), (Nat.le_of_ble_eq_true rfl)⟩ ⟨(Nat.le_of_ble_eq_true rfl), (Nat.le_of_ble_eq_true rfl)⟩ dX4_vividnessOf_24) (fun H locs hw => ?_)
    exact g_iret C hw (Nat.le_of_ble_eq_true rfl) (Nat.le_of_ble_eq_true rfl) ⟨congrArg Prod.fst (Option.some.inj hf), congrArg Prod.snd (Option.some.inj hf)⟩ dX4_vividnessOf_27
  · have hf := iff_ hc hf
    refine lv_aload_n C.1 C.2.1 dX4_vividnessOf_13 rfl (lv_at hl 0 rfl) ?_
    refine g_get C E hw inW4 0 rfl rfl 7 (by decide) kf_X4_16 rfl dX4_vividnessOf_14 ?_
    refine lv_iload_n C.1 C.2.1 dX4_vividnessOf_17 rfl (lv_at hl 1 rfl) ?_
    obtain ⟨v_6, hv_6, hf⟩ := bnd hf
    refine g_ald C E hw 3 rfl (ld_some hv_6) dX4_vividnessOf_18 ?_
    refine lv_goto (tgt := 27) C.1 C.2.1 dX4_vividnessOf_19 (by decide) ?_
    exact g_iret C hw (Nat.le_of_ble_eq_true rfl) (Nat.le_of_ble_eq_true rfl) ⟨congrArg Prod.fst (Option.some.inj hf), congrArg Prod.snd (Option.some.inj hf)⟩ dX4_vividnessOf_27
/-! DreamLedgerModel.nightOf -/
def fX4_nightOf (S : St) (x1 : Int32) : Option (Int32 × St) :=
  Option.bind (some (up S 10 0 0)) fun S_1 =>
  Option.bind (fX4_isDream S_1 x1) fun v_2 =>
  if v_2 = 0 then
    Option.bind (fX4_fail S_1 1) fun u_5 => pr u_5 fun v_3 S_4 =>
    some (v_3, S_4)
  else
    Option.bind (ld S_1 3 24 x1) fun v_6 =>
    some (v_6, S_1)
set_option maxHeartbeats 4000000 in
set_option maxRecDepth 100000 in
theorem ctX4_nightOf (l : Launch) {D : va_G} {cI : ClassId} {q : Nat → Nat} (S : St) (x1 : Int32) (sz : Nat) {r1 : Int32} {S1 : St} (hf : fX4_nightOf S x1 = some (r1, S1)) : Met l yX4_nightOf (Cond.code yX4_nightOf cX4_nightOf 2 (some .int) :: XALL) ({ frames := 2, cells := 0, slots := 0, locals := 43 } : Room) (va_Pc [.ref (q 0), .int x1] (gPre D cI ((mw cI q) S) sz)) (gQi D (mw cI q) S (fun (r : Int32) (u : St) => r = r1 ∧ u = S1) sz) 0 0 (va_A ((mw cI q) S) sz) := by
  unfold fX4_nightOf at hf
  refine Met.ofW (cc := cX4_nightOf) (maxL := 2) (ret := (some .int)) (by decide) rfl ?_
  intro p e s m args below meth c s₁ B hml hv
  obtain ⟨rfl, hg⟩ := hv
  have C : Ctx p s m _ meth c cX4_nightOf 2 RX4 (some .int) := Ctx.of B hml rfl
  obtain ⟨E, hw, hsz⟩ := g_start hg
  subst hsz
  have hl := lv_entry ([.ref (q 0), .int x1]) (n := 2) (Nat.le_of_ble_eq_true rfl)
  rw [lg_entry_eq]
  generalize (lg_sl ([.ref (q 0), .int x1]) ++ List.replicate (2 - (lg_sl ([.ref (q 0), .int x1])).length) Slot.unset).toArray = ls at hl ⊢
  have hl : lv_has ls 2 [(0, .ref (q 0)), (1, .int x1)] := hl
  refine lv_aload_n C.1 C.2.1 dX4_nightOf_0 rfl (lv_at hl 0 rfl) ?_
  refine lv_iconst (v := 0) C.1 C.2.1 dX4_nightOf_1 (by decide) ?_
  obtain ⟨S_1, hS_1, hf⟩ := bnd hf
  refine g_put C E hw inW4 tyX4 tyX4_ok nmX4 0 rfl rfl 0 (by decide) kf_X4_40 rfl (by decide +kernel) (Nat.le_of_ble_eq_true rfl) (ws' := (mw cI q) S_1) (by rw [← Option.some.inj hS_1]; rfl) dX4_nightOf_2 (fun H locs hw => ?_)
  refine lv_aload_n C.1 C.2.1 dX4_nightOf_5 rfl (lv_at hl 0 rfl) ?_
  refine lv_iload_n C.1 C.2.1 dX4_nightOf_6 rfl (lv_at hl 1 rfl) ?_
  obtain ⟨v_2, hv_2, hf⟩ := bnd hf
  refine g_cie (wf := (mw cI q)) (S := S_1) (rest := []) mw_adr hw (g_runV (rm := ({ frames := 1, cells := 0, slots := 0, locals := 22 } : Room)) (As := [.int x1]) (rest := []) C E hw F_X4_isDream (ctX4_isDream l (cI := cI) (D := D) (q := q) S_1 x1 _ hv_2) km_X4_84 0 rfl rfl rfl hl.1 rfl (Nat.le_of_ble_eq_true rfl) ⟨(Nat.le_of_ble_eq_true rfl), (Nat.le_of_ble_eq_true rfl)⟩ ⟨(Nat.le_of_ble_eq_true rfl), (Nat.le_of_ble_eq_true rfl)⟩ dX4_nightOf_7) (fun H locs hw => ?_)
  refine lv_if_eq (tgt := 22) C.1 C.2.1 dX4_nightOf_10 (by decide) (fun hc => ?_) (fun hc => ?_)
  · have hf := ift hc hf
    refine lv_aload_n C.1 C.2.1 dX4_nightOf_22 rfl (lv_at hl 0 rfl) ?_
    refine lv_iconst (v := 1) C.1 C.2.1 dX4_nightOf_23 (by decide) ?_
    obtain ⟨⟨v_3, S_4⟩, hu_5, hf⟩ := bnd hf
    have hf := pr_r hf
    refine g_cie (wf := (mw cI q)) (S := S_1) (rest := []) mw_adr hw (g_runV (rm := ({ frames := 0, cells := 0, slots := 0, locals := 0 } : Room)) (As := [.int 1]) (rest := []) C E hw F_X4_fail (ctX4_fail l (cI := cI) (D := D) (q := q) S_1 1 _ hu_5) km_X4_68 0 rfl rfl rfl hl.1 rfl (Nat.le_of_ble_eq_true rfl) ⟨(Nat.le_of_ble_eq_true rfl), (Nat.le_of_ble_eq_true rfl)⟩ ⟨(Nat.le_of_ble_eq_true rfl), (Nat.le_of_ble_eq_true rfl)⟩ dX4_nightOf_24) (fun H locs hw => ?_)
    exact g_iret C hw (Nat.le_of_ble_eq_true rfl) (Nat.le_of_ble_eq_true rfl) ⟨congrArg Prod.fst (Option.some.inj hf), congrArg Prod.snd (Option.some.inj hf)⟩ dX4_nightOf_27
  · have hf := iff_ hc hf
    refine lv_aload_n C.1 C.2.1 dX4_nightOf_13 rfl (lv_at hl 0 rfl) ?_
    refine g_get C E hw inW4 0 rfl rfl 8 (by decide) kf_X4_19 rfl dX4_nightOf_14 ?_
    refine lv_iload_n C.1 C.2.1 dX4_nightOf_17 rfl (lv_at hl 1 rfl) ?_
    obtain ⟨v_6, hv_6, hf⟩ := bnd hf
    refine g_ald C E hw 4 rfl (ld_some hv_6) dX4_nightOf_18 ?_
    refine lv_goto (tgt := 27) C.1 C.2.1 dX4_nightOf_19 (by decide) ?_
    exact g_iret C hw (Nat.le_of_ble_eq_true rfl) (Nat.le_of_ble_eq_true rfl) ⟨congrArg Prod.fst (Option.some.inj hf), congrArg Prod.snd (Option.some.inj hf)⟩ dX4_nightOf_27
/-! DreamLedgerModel.matches -/
def fX4_matches_21 (S : St) : Option (Int32 × St) :=
  Option.bind (fX4_failed S 1) fun u_10 => pr u_10 fun v_8 S_9 =>
  Option.bind (zg v_8) fun v_11 =>
  some (v_11, S_9)
set_option maxHeartbeats 4000000 in
set_option maxRecDepth 100000 in
theorem wX4_matches_21 {p : Program} {l : Launch} {e : Env} {s : State} {m : MethodId} {args : Array Value} {below : List Frame} {meth : Method} {c : Code} {D : va_G} {cI : ClassId} {q : Nat → Nat} (C : Ctx p s m args meth c cX4_matches 3 RX4 (some .boolean)) (E : gE D cI s) {S0 : St} {r1 : Int32} {S1 : St} : ∀ (S : St), fX4_matches_21 S = some (r1, S1) → ∀ (H : Heap) (locs : List Loc) (ls : Array Slot), gW D ((mw cI q) S0) ((mw cI q) S) s H locs → lv_has ls 3 [(0, .ref (q 0))] → W p l e ({ frames := 2, cells := 0, slots := 0, locals := 45 } : Room) s m args below meth c H locs 0 0 (MQ below (gQi D (mw cI q) S0 (fun (r : Int32) (u : St) => r = r1 ∧ u = S1) s.heap.size) args s 0 0 (va_A ((mw cI q) S0) s.heap.size)) (F0 m 21 ls []) := by
  intro S hf H locs ls hw hl
  unfold fX4_matches_21 at hf
  refine lv_aload_n C.1 C.2.1 dX4_matches_21 rfl (lv_at hl 0 rfl) ?_
  refine lv_iconst (v := 1) C.1 C.2.1 dX4_matches_22 (by decide) ?_
  obtain ⟨⟨v_8, S_9⟩, hu_10, hf⟩ := bnd hf
  have hf := pr_r hf
  refine g_cie (wf := (mw cI q)) (S := S) (rest := []) mw_adr hw (g_runV (rm := ({ frames := 0, cells := 0, slots := 0, locals := 0 } : Room)) (As := [.int 1]) (rest := []) C E hw F_X4_failed (ctX4_failed l (cI := cI) (D := D) (q := q) S 1 _ hu_10) km_X4_109 0 rfl rfl rfl hl.1 rfl (Nat.le_of_ble_eq_true rfl) ⟨(Nat.le_of_ble_eq_true rfl), (Nat.le_of_ble_eq_true rfl)⟩ ⟨(Nat.le_of_ble_eq_true rfl), (Nat.le_of_ble_eq_true rfl)⟩ dX4_matches_23) (fun H locs hw => ?_)
  obtain ⟨v_11, hv_11, hf⟩ := bnd hf
  rw [(zg_some hv_11).1]
  exact g_zret C hw (Nat.le_of_ble_eq_true rfl) (Nat.le_of_ble_eq_true rfl) (zg_some hv_11).2 ⟨congrArg Prod.fst (Option.some.inj hf), congrArg Prod.snd (Option.some.inj hf)⟩ dX4_matches_26
def fX4_matches (S : St) (x1 : Int32) (x2 : Int32) : Option (Int32 × St) :=
  Option.bind (some (up S 10 0 0)) fun S_1 =>
  Option.bind (fX4_isTerm S_1 x1) fun v_2 =>
  if v_2 = 0 then
    fX4_matches_21 S_1
  else
    Option.bind (fX4_isDream S_1 x2) fun v_3 =>
    if v_3 = 0 then
      fX4_matches_21 S_1
    else
      Option.bind (fX4_reckon S_1) fun S_4 =>
      Option.bind (ld S_4 9 20 x1) fun v_5 =>
      Option.bind (fX4_is v_5 x2) fun v_6 =>
      Option.bind (zg v_6) fun v_7 =>
      some (v_7, S_4)
set_option maxHeartbeats 4000000 in
set_option maxRecDepth 100000 in
theorem ctX4_matches (l : Launch) {D : va_G} {cI : ClassId} {q : Nat → Nat} (S : St) (x1 : Int32) (x2 : Int32) (sz : Nat) {r1 : Int32} {S1 : St} (hf : fX4_matches S x1 x2 = some (r1, S1)) : Met l yX4_matches (Cond.code yX4_matches cX4_matches 3 (some .boolean) :: XALL) ({ frames := 2, cells := 0, slots := 0, locals := 45 } : Room) (va_Pc [.ref (q 0), .int x1, .int x2] (gPre D cI ((mw cI q) S) sz)) (gQi D (mw cI q) S (fun (r : Int32) (u : St) => r = r1 ∧ u = S1) sz) 0 0 (va_A ((mw cI q) S) sz) := by
  unfold fX4_matches at hf
  refine Met.ofW (cc := cX4_matches) (maxL := 3) (ret := (some .boolean)) (by decide) rfl ?_
  intro p e s m args below meth c s₁ B hml hv
  obtain ⟨rfl, hg⟩ := hv
  have C : Ctx p s m _ meth c cX4_matches 3 RX4 (some .boolean) := Ctx.of B hml rfl
  obtain ⟨E, hw, hsz⟩ := g_start hg
  subst hsz
  have hl := lv_entry ([.ref (q 0), .int x1, .int x2]) (n := 3) (Nat.le_of_ble_eq_true rfl)
  rw [lg_entry_eq]
  generalize (lg_sl ([.ref (q 0), .int x1, .int x2]) ++ List.replicate (3 - (lg_sl ([.ref (q 0), .int x1, .int x2])).length) Slot.unset).toArray = ls at hl ⊢
  have hl : lv_has ls 3 [(0, .ref (q 0)), (1, .int x1), (2, .int x2)] := hl
  refine lv_aload_n C.1 C.2.1 dX4_matches_0 rfl (lv_at hl 0 rfl) ?_
  refine lv_iconst (v := 0) C.1 C.2.1 dX4_matches_1 (by decide) ?_
  obtain ⟨S_1, hS_1, hf⟩ := bnd hf
  refine g_put C E hw inW4 tyX4 tyX4_ok nmX4 0 rfl rfl 0 (by decide) kf_X4_40 rfl (by decide +kernel) (Nat.le_of_ble_eq_true rfl) (ws' := (mw cI q) S_1) (by rw [← Option.some.inj hS_1]; rfl) dX4_matches_2 (fun H locs hw => ?_)
  refine lv_aload_n C.1 C.2.1 dX4_matches_5 rfl (lv_at hl 0 rfl) ?_
  refine lv_iload_n C.1 C.2.1 dX4_matches_6 rfl (lv_at hl 1 rfl) ?_
  obtain ⟨v_2, hv_2, hf⟩ := bnd hf
  refine g_cie (wf := (mw cI q)) (S := S_1) (rest := []) mw_adr hw (g_runV (rm := ({ frames := 1, cells := 0, slots := 0, locals := 22 } : Room)) (As := [.int x1]) (rest := []) C E hw F_X4_isTerm (ctX4_isTerm l (cI := cI) (D := D) (q := q) S_1 x1 _ hv_2) km_X4_106 0 rfl rfl rfl hl.1 rfl (Nat.le_of_ble_eq_true rfl) ⟨(Nat.le_of_ble_eq_true rfl), (Nat.le_of_ble_eq_true rfl)⟩ ⟨(Nat.le_of_ble_eq_true rfl), (Nat.le_of_ble_eq_true rfl)⟩ dX4_matches_7) (fun H locs hw => ?_)
  refine lv_if_eq (tgt := 21) C.1 C.2.1 dX4_matches_10 (by decide) (fun hc => ?_) (fun hc => ?_)
  · have hf := ift hc hf
    exact wX4_matches_21 C E S_1 hf _ _ _ hw (lv_sub hl [0] rfl)
  · have hf := iff_ hc hf
    refine lv_aload_n C.1 C.2.1 dX4_matches_13 rfl (lv_at hl 0 rfl) ?_
    refine lv_iload_n C.1 C.2.1 dX4_matches_14 rfl (lv_at hl 2 rfl) ?_
    obtain ⟨v_3, hv_3, hf⟩ := bnd hf
    refine g_cie (wf := (mw cI q)) (S := S_1) (rest := []) mw_adr hw (g_runV (rm := ({ frames := 1, cells := 0, slots := 0, locals := 22 } : Room)) (As := [.int x2]) (rest := []) C E hw F_X4_isDream (ctX4_isDream l (cI := cI) (D := D) (q := q) S_1 x2 _ hv_3) km_X4_84 0 rfl rfl rfl hl.1 rfl (Nat.le_of_ble_eq_true rfl) ⟨(Nat.le_of_ble_eq_true rfl), (Nat.le_of_ble_eq_true rfl)⟩ ⟨(Nat.le_of_ble_eq_true rfl), (Nat.le_of_ble_eq_true rfl)⟩ dX4_matches_15) (fun H locs hw => ?_)
    refine lv_if_ne (tgt := 27) C.1 C.2.1 dX4_matches_18 (by decide) (fun hc => ?_) (fun hc => ?_)
    · have hf := iff_ hc hf
      refine lv_aload_n C.1 C.2.1 dX4_matches_27 rfl (lv_at hl 0 rfl) ?_
      obtain ⟨S_4, hS_4, hf⟩ := bnd hf
      refine g_cve (wf := (mw cI q)) (S := S_1) (rest := []) mw_adr hw (g_runV (rm := ({ frames := 1, cells := 0, slots := 0, locals := 23 } : Room)) (As := []) (rest := []) C E hw F_X4_reckon (ctX4_reckon l (cI := cI) (D := D) (q := q) S_1  _ hS_4) km_X4_115 0 rfl rfl rfl hl.1 rfl (Nat.le_of_ble_eq_true rfl) ⟨(Nat.le_of_ble_eq_true rfl), (Nat.le_of_ble_eq_true rfl)⟩ ⟨(Nat.le_of_ble_eq_true rfl), (Nat.le_of_ble_eq_true rfl)⟩ dX4_matches_28) (fun H locs hw => ?_)
      refine lv_aload_n C.1 C.2.1 dX4_matches_31 rfl (lv_at hl 0 rfl) ?_
      refine g_get C E hw inW4 0 rfl rfl 14 (by decide) kf_X4_37 rfl dX4_matches_32 ?_
      refine lv_iload_n C.1 C.2.1 dX4_matches_35 rfl (lv_at hl 1 rfl) ?_
      obtain ⟨v_5, hv_5, hf⟩ := bnd hf
      refine g_ald C E hw 10 rfl (ld_some hv_5) dX4_matches_36 ?_
      refine lv_iload_n C.1 C.2.1 dX4_matches_37 rfl (lv_at hl 2 rfl) ?_
      obtain ⟨v_6, hv_6, hf⟩ := bnd hf
      refine g_ci0e (rest := []) hw (g_run0 (rm := ({ frames := 0, cells := 0, slots := 0, locals := 0 } : Room)) (As := [.int v_5, .int x2]) (rest := []) C F_X4_is (ctX4_is l v_5 x2 hv_6) km_X4_61 rfl hl.1 rfl (Nat.le_of_ble_eq_true rfl) ⟨(Nat.le_of_ble_eq_true rfl), (Nat.le_of_ble_eq_true rfl)⟩ ⟨(Nat.le_of_ble_eq_true rfl), (Nat.le_of_ble_eq_true rfl)⟩ dX4_matches_38) (fun H locs hw => ?_)
      obtain ⟨v_7, hv_7, hf⟩ := bnd hf
      rw [(zg_some hv_7).1]
      exact g_zret C hw (Nat.le_of_ble_eq_true rfl) (Nat.le_of_ble_eq_true rfl) (zg_some hv_7).2 ⟨congrArg Prod.fst (Option.some.inj hf), congrArg Prod.snd (Option.some.inj hf)⟩ dX4_matches_41
    · have hf := ift hc hf
      exact wX4_matches_21 C E S_1 hf _ _ _ hw (lv_sub hl [0] rfl)
/-! DreamLedgerModel.matchesOf -/
def fX4_matchesOf (S : St) (x1 : Int32) : Option (Int32 × St) :=
  Option.bind (some (up S 10 0 0)) fun S_1 =>
  Option.bind (fX4_isTerm S_1 x1) fun v_2 =>
  if v_2 = 0 then
    Option.bind (fX4_fail S_1 1) fun u_8 => pr u_8 fun v_6 S_7 =>
    some (v_6, S_7)
  else
    Option.bind (fX4_reckon S_1) fun S_3 =>
    Option.bind (ld S_3 9 20 x1) fun v_4 =>
    Option.bind (fX4_many v_4) fun v_5 =>
    some (v_5, S_3)
set_option maxHeartbeats 4000000 in
set_option maxRecDepth 100000 in
theorem ctX4_matchesOf (l : Launch) {D : va_G} {cI : ClassId} {q : Nat → Nat} (S : St) (x1 : Int32) (sz : Nat) {r1 : Int32} {S1 : St} (hf : fX4_matchesOf S x1 = some (r1, S1)) : Met l yX4_matchesOf (Cond.code yX4_matchesOf cX4_matchesOf 2 (some .int) :: XALL) ({ frames := 2, cells := 0, slots := 0, locals := 45 } : Room) (va_Pc [.ref (q 0), .int x1] (gPre D cI ((mw cI q) S) sz)) (gQi D (mw cI q) S (fun (r : Int32) (u : St) => r = r1 ∧ u = S1) sz) 0 0 (va_A ((mw cI q) S) sz) := by
  unfold fX4_matchesOf at hf
  refine Met.ofW (cc := cX4_matchesOf) (maxL := 2) (ret := (some .int)) (by decide) rfl ?_
  intro p e s m args below meth c s₁ B hml hv
  obtain ⟨rfl, hg⟩ := hv
  have C : Ctx p s m _ meth c cX4_matchesOf 2 RX4 (some .int) := Ctx.of B hml rfl
  obtain ⟨E, hw, hsz⟩ := g_start hg
  subst hsz
  have hl := lv_entry ([.ref (q 0), .int x1]) (n := 2) (Nat.le_of_ble_eq_true rfl)
  rw [lg_entry_eq]
  generalize (lg_sl ([.ref (q 0), .int x1]) ++ List.replicate (2 - (lg_sl ([.ref (q 0), .int x1])).length) Slot.unset).toArray = ls at hl ⊢
  have hl : lv_has ls 2 [(0, .ref (q 0)), (1, .int x1)] := hl
  refine lv_aload_n C.1 C.2.1 dX4_matchesOf_0 rfl (lv_at hl 0 rfl) ?_
  refine lv_iconst (v := 0) C.1 C.2.1 dX4_matchesOf_1 (by decide) ?_
  obtain ⟨S_1, hS_1, hf⟩ := bnd hf
  refine g_put C E hw inW4 tyX4 tyX4_ok nmX4 0 rfl rfl 0 (by decide) kf_X4_40 rfl (by decide +kernel) (Nat.le_of_ble_eq_true rfl) (ws' := (mw cI q) S_1) (by rw [← Option.some.inj hS_1]; rfl) dX4_matchesOf_2 (fun H locs hw => ?_)
  refine lv_aload_n C.1 C.2.1 dX4_matchesOf_5 rfl (lv_at hl 0 rfl) ?_
  refine lv_iload_n C.1 C.2.1 dX4_matchesOf_6 rfl (lv_at hl 1 rfl) ?_
  obtain ⟨v_2, hv_2, hf⟩ := bnd hf
  refine g_cie (wf := (mw cI q)) (S := S_1) (rest := []) mw_adr hw (g_runV (rm := ({ frames := 1, cells := 0, slots := 0, locals := 22 } : Room)) (As := [.int x1]) (rest := []) C E hw F_X4_isTerm (ctX4_isTerm l (cI := cI) (D := D) (q := q) S_1 x1 _ hv_2) km_X4_106 0 rfl rfl rfl hl.1 rfl (Nat.le_of_ble_eq_true rfl) ⟨(Nat.le_of_ble_eq_true rfl), (Nat.le_of_ble_eq_true rfl)⟩ ⟨(Nat.le_of_ble_eq_true rfl), (Nat.le_of_ble_eq_true rfl)⟩ dX4_matchesOf_7) (fun H locs hw => ?_)
  refine lv_if_ne (tgt := 19) C.1 C.2.1 dX4_matchesOf_10 (by decide) (fun hc => ?_) (fun hc => ?_)
  · have hf := iff_ hc hf
    refine lv_aload_n C.1 C.2.1 dX4_matchesOf_19 rfl (lv_at hl 0 rfl) ?_
    obtain ⟨S_3, hS_3, hf⟩ := bnd hf
    refine g_cve (wf := (mw cI q)) (S := S_1) (rest := []) mw_adr hw (g_runV (rm := ({ frames := 1, cells := 0, slots := 0, locals := 23 } : Room)) (As := []) (rest := []) C E hw F_X4_reckon (ctX4_reckon l (cI := cI) (D := D) (q := q) S_1  _ hS_3) km_X4_115 0 rfl rfl rfl hl.1 rfl (Nat.le_of_ble_eq_true rfl) ⟨(Nat.le_of_ble_eq_true rfl), (Nat.le_of_ble_eq_true rfl)⟩ ⟨(Nat.le_of_ble_eq_true rfl), (Nat.le_of_ble_eq_true rfl)⟩ dX4_matchesOf_20) (fun H locs hw => ?_)
    refine lv_aload_n C.1 C.2.1 dX4_matchesOf_23 rfl (lv_at hl 0 rfl) ?_
    refine g_get C E hw inW4 0 rfl rfl 14 (by decide) kf_X4_37 rfl dX4_matchesOf_24 ?_
    refine lv_iload_n C.1 C.2.1 dX4_matchesOf_27 rfl (lv_at hl 1 rfl) ?_
    obtain ⟨v_4, hv_4, hf⟩ := bnd hf
    refine g_ald C E hw 10 rfl (ld_some hv_4) dX4_matchesOf_28 ?_
    obtain ⟨v_5, hv_5, hf⟩ := bnd hf
    refine g_ci0e (rest := []) hw (g_run0 (rm := ({ frames := 0, cells := 0, slots := 0, locals := 0 } : Room)) (As := [.int v_4]) (rest := []) C F_X4_many (ctX4_many l v_4 hv_5) km_X4_78 rfl hl.1 rfl (Nat.le_of_ble_eq_true rfl) ⟨(Nat.le_of_ble_eq_true rfl), (Nat.le_of_ble_eq_true rfl)⟩ ⟨(Nat.le_of_ble_eq_true rfl), (Nat.le_of_ble_eq_true rfl)⟩ dX4_matchesOf_29) (fun H locs hw => ?_)
    exact g_iret C hw (Nat.le_of_ble_eq_true rfl) (Nat.le_of_ble_eq_true rfl) ⟨congrArg Prod.fst (Option.some.inj hf), congrArg Prod.snd (Option.some.inj hf)⟩ dX4_matchesOf_32
  · have hf := ift hc hf
    refine lv_aload_n C.1 C.2.1 dX4_matchesOf_13 rfl (lv_at hl 0 rfl) ?_
    refine lv_iconst (v := 1) C.1 C.2.1 dX4_matchesOf_14 (by decide) ?_
    obtain ⟨⟨v_6, S_7⟩, hu_8, hf⟩ := bnd hf
    have hf := pr_r hf
    refine g_cie (wf := (mw cI q)) (S := S_1) (rest := []) mw_adr hw (g_runV (rm := ({ frames := 0, cells := 0, slots := 0, locals := 0 } : Room)) (As := [.int 1]) (rest := []) C E hw F_X4_fail (ctX4_fail l (cI := cI) (D := D) (q := q) S_1 1 _ hu_8) km_X4_68 0 rfl rfl rfl hl.1 rfl (Nat.le_of_ble_eq_true rfl) ⟨(Nat.le_of_ble_eq_true rfl), (Nat.le_of_ble_eq_true rfl)⟩ ⟨(Nat.le_of_ble_eq_true rfl), (Nat.le_of_ble_eq_true rfl)⟩ dX4_matchesOf_15) (fun H locs hw => ?_)
    exact g_iret C hw (Nat.le_of_ble_eq_true rfl) (Nat.le_of_ble_eq_true rfl) ⟨congrArg Prod.fst (Option.some.inj hf), congrArg Prod.snd (Option.some.inj hf)⟩ dX4_matchesOf_18
/-! DreamLedgerModel.brightest -/
def fX4_brightest_40 (S : St) (x1 : Int32) (k4 : Int32 → Int32 → Option Int32) (x3 : Int32) : Option Int32 :=
  Option.bind (some (x3 + 1)) fun x3_6 =>
  k4 x3 x3_6
set_option maxHeartbeats 4000000 in
set_option maxRecDepth 100000 in
theorem wX4_brightest_40 {p : Program} {l : Launch} {e : Env} {s : State} {m : MethodId} {args : Array Value} {below : List Frame} {meth : Method} {c : Code} {D : va_G} {cI : ClassId} {q : Nat → Nat} (C : Ctx p s m args meth c cX4_brightest 4 RX4 (some .int)) (E : gE D cI s) {r1 : Int32} (S : St) (x1 : Int32) (k4 : Int32 → Int32 → Option Int32) (hk4 : ∀ (x2 : Int32) (x3 : Int32), k4 x2 x3 = some r1 → ∀ (H : Heap) (locs : List Loc) (ls : Array Slot), gW D ((mw cI q) S) ((mw cI q) S) s H locs → lv_has ls 4 [(0, .ref (q 0)), (1, .int x1), (2, .int x2), (3, .int x3)] → W p l e ({ frames := 1, cells := 0, slots := 0, locals := 21 } : Room) s m args below meth c H locs 0 0 (MQ below (gQi D (mw cI q) S (fun (r : Int32) (u : St) => r = r1 ∧ u = S) s.heap.size) args s 0 0 (va_A ((mw cI q) S) s.heap.size)) (F0 m 4 ls [])) : ∀ (x3 : Int32), fX4_brightest_40 S x1 k4 x3 = some r1 → ∀ (H : Heap) (locs : List Loc) (ls : Array Slot), gW D ((mw cI q) S) ((mw cI q) S) s H locs → lv_has ls 4 [(0, .ref (q 0)), (1, .int x1), (3, .int x3)] → W p l e ({ frames := 1, cells := 0, slots := 0, locals := 21 } : Room) s m args below meth c H locs 0 0 (MQ below (gQi D (mw cI q) S (fun (r : Int32) (u : St) => r = r1 ∧ u = S) s.heap.size) args s 0 0 (va_A ((mw cI q) S) s.heap.size)) (F0 m 40 ls []) := by
  intro x3 hf H locs ls hw hl
  unfold fX4_brightest_40 at hf
  refine lv_iload_n C.1 C.2.1 dX4_brightest_40 rfl (lv_at hl 2 rfl) ?_
  refine lv_istore_n (lv' := [(2, .int x3), (0, .ref (q 0)), (1, .int x1), (3, .int x3)]) C.1 C.2.1 dX4_brightest_41 rfl hl (by decide) rfl (fun ls hl => ?_)
  obtain ⟨x3_6, hx3_6, hf⟩ := bnd hf
  refine lv_iinc (v := x3_6) (lv' := [(3, .int x3_6), (2, .int x3), (0, .ref (q 0)), (1, .int x1)]) C.1 C.2.1 dX4_brightest_42 hl (k := 3) rfl (inc1 hx3_6) (by decide) rfl (fun ls hl => ?_)
  refine lv_goto (tgt := 4) C.1 C.2.1 dX4_brightest_45 (by decide) ?_
  exact hk4 x3 x3_6 hf _ _ _ hw (lv_sub hl [2, 3, 1, 0] rfl)
def fX4_brightest_4 (S : St) (x1 : Int32) : Nat → Int32 → Int32 → Option Int32
  | 0, _, _ => none
  | n + 1, x2, x3 =>
    if (S 12 0) ≤ x3 then
      some x2
    else
      Option.bind (fX4_is x1 x3) fun v_1 =>
      if v_1 = 0 then
        Option.bind (some (x3 + 1)) fun x3_2 =>
        fX4_brightest_4 S x1 n x2 x3_2
      else
        if x2 = (-1) then
          fX4_brightest_40 S x1 (fX4_brightest_4 S x1 n) x3
        else
          Option.bind (ld S 2 24 x3) fun v_3 =>
          Option.bind (ld S 2 24 x2) fun v_4 =>
          if v_3 ≤ v_4 then
            Option.bind (some (x3 + 1)) fun x3_5 =>
            fX4_brightest_4 S x1 n x2 x3_5
          else
            fX4_brightest_40 S x1 (fX4_brightest_4 S x1 n) x3
set_option maxHeartbeats 4000000 in
set_option maxRecDepth 100000 in
theorem wX4_brightest_4 {p : Program} {l : Launch} {e : Env} {s : State} {m : MethodId} {args : Array Value} {below : List Frame} {meth : Method} {c : Code} {D : va_G} {cI : ClassId} {q : Nat → Nat} (C : Ctx p s m args meth c cX4_brightest 4 RX4 (some .int)) (E : gE D cI s) {r1 : Int32} (S : St) (x1 : Int32) : ∀ (n : Nat) (x2 : Int32) (x3 : Int32), fX4_brightest_4 S x1 n x2 x3 = some r1 → ∀ (H : Heap) (locs : List Loc) (ls : Array Slot), gW D ((mw cI q) S) ((mw cI q) S) s H locs → lv_has ls 4 [(0, .ref (q 0)), (1, .int x1), (2, .int x2), (3, .int x3)] → W p l e ({ frames := 1, cells := 0, slots := 0, locals := 21 } : Room) s m args below meth c H locs 0 0 (MQ below (gQi D (mw cI q) S (fun (r : Int32) (u : St) => r = r1 ∧ u = S) s.heap.size) args s 0 0 (va_A ((mw cI q) S) s.heap.size)) (F0 m 4 ls []) := by
  intro n
  induction n with
  | zero => intro x2 x3 hf; rw [fX4_brightest_4] at hf; cases hf
  | succ n ih =>
    intro x2 x3 hf H locs ls hw hl
    rw [fX4_brightest_4] at hf
    refine lv_iload_n C.1 C.2.1 dX4_brightest_4 rfl (lv_at hl 3 rfl) ?_
    refine lv_aload_n C.1 C.2.1 dX4_brightest_5 rfl (lv_at hl 0 rfl) ?_
    refine g_get C E hw inW4 0 rfl rfl 2 (by decide) kf_X4_51 rfl dX4_brightest_6 ?_
    refine lv_icmp_ge (tgt := 48) C.1 C.2.1 dX4_brightest_9 (by decide) (fun hc => ?_) (fun hc => ?_)
    · have hf := ift hc hf
      refine lv_iload_n C.1 C.2.1 dX4_brightest_48 rfl (lv_at hl 2 rfl) ?_
      exact g_iret C hw (Nat.le_of_ble_eq_true rfl) (Nat.le_of_ble_eq_true rfl) ⟨Option.some.inj hf, rfl⟩ dX4_brightest_49
    · have hf := iff_ hc hf
      refine lv_iload_n C.1 C.2.1 dX4_brightest_12 rfl (lv_at hl 1 rfl) ?_
      refine lv_iload_n C.1 C.2.1 dX4_brightest_13 rfl (lv_at hl 3 rfl) ?_
      obtain ⟨v_1, hv_1, hf⟩ := bnd hf
      refine g_ci0e (rest := []) hw (g_run0 (rm := ({ frames := 0, cells := 0, slots := 0, locals := 0 } : Room)) (As := [.int x1, .int x3]) (rest := []) C F_X4_is (ctX4_is l x1 x3 hv_1) km_X4_61 rfl hl.1 rfl (Nat.le_of_ble_eq_true rfl) ⟨(Nat.le_of_ble_eq_true rfl), (Nat.le_of_ble_eq_true rfl)⟩ ⟨(Nat.le_of_ble_eq_true rfl), (Nat.le_of_ble_eq_true rfl)⟩ dX4_brightest_14) (fun H locs hw => ?_)
      refine lv_if_eq (tgt := 42) C.1 C.2.1 dX4_brightest_17 (by decide) (fun hc => ?_) (fun hc => ?_)
      · have hf := ift hc hf
        obtain ⟨x3_2, hx3_2, hf⟩ := bnd hf
        refine lv_iinc (v := x3_2) (lv' := [(3, .int x3_2), (0, .ref (q 0)), (1, .int x1), (2, .int x2)]) C.1 C.2.1 dX4_brightest_42 hl (k := 3) rfl (inc1 hx3_2) (by decide) rfl (fun ls hl => ?_)
        refine lv_goto (tgt := 4) C.1 C.2.1 dX4_brightest_45 (by decide) ?_
        exact ih x2 x3_2 hf _ _ _ hw (lv_sub hl [1, 2, 3, 0] rfl)
      · have hf := iff_ hc hf
        refine lv_iload_n C.1 C.2.1 dX4_brightest_20 rfl (lv_at hl 2 rfl) ?_
        refine lv_iconst (v := (-1)) C.1 C.2.1 dX4_brightest_21 (by decide) ?_
        refine lv_icmp_eq (tgt := 40) C.1 C.2.1 dX4_brightest_22 (by decide) (fun hc => ?_) (fun hc => ?_)
        · have hf := ift hc hf
          exact wX4_brightest_40 C E S x1 (fX4_brightest_4 S x1 n) ih x3 hf _ _ _ hw (lv_sub hl [0, 1, 3] rfl)
        · have hf := iff_ hc hf
          refine lv_aload_n C.1 C.2.1 dX4_brightest_25 rfl (lv_at hl 0 rfl) ?_
          refine g_get C E hw inW4 0 rfl rfl 7 (by decide) kf_X4_16 rfl dX4_brightest_26 ?_
          refine lv_iload_n C.1 C.2.1 dX4_brightest_29 rfl (lv_at hl 3 rfl) ?_
          obtain ⟨v_3, hv_3, hf⟩ := bnd hf
          refine g_ald C E hw 3 rfl (ld_some hv_3) dX4_brightest_30 ?_
          refine lv_aload_n C.1 C.2.1 dX4_brightest_31 rfl (lv_at hl 0 rfl) ?_
          refine g_get C E hw inW4 0 rfl rfl 7 (by decide) kf_X4_16 rfl dX4_brightest_32 ?_
          refine lv_iload_n C.1 C.2.1 dX4_brightest_35 rfl (lv_at hl 2 rfl) ?_
          obtain ⟨v_4, hv_4, hf⟩ := bnd hf
          refine g_ald C E hw 3 rfl (ld_some hv_4) dX4_brightest_36 ?_
          refine lv_icmp_le (tgt := 42) C.1 C.2.1 dX4_brightest_37 (by decide) (fun hc => ?_) (fun hc => ?_)
          · have hf := ift hc hf
            obtain ⟨x3_5, hx3_5, hf⟩ := bnd hf
            refine lv_iinc (v := x3_5) (lv' := [(3, .int x3_5), (0, .ref (q 0)), (1, .int x1), (2, .int x2)]) C.1 C.2.1 dX4_brightest_42 hl (k := 3) rfl (inc1 hx3_5) (by decide) rfl (fun ls hl => ?_)
            refine lv_goto (tgt := 4) C.1 C.2.1 dX4_brightest_45 (by decide) ?_
            exact ih x2 x3_5 hf _ _ _ hw (lv_sub hl [1, 2, 3, 0] rfl)
          · have hf := iff_ hc hf
            exact wX4_brightest_40 C E S x1 (fX4_brightest_4 S x1 n) ih x3 hf _ _ _ hw (lv_sub hl [0, 1, 3] rfl)
def fX4_brightest (S : St) (x1 : Int32) : Option Int32 :=
  fX4_brightest_4 S x1 100 (-1) 0
set_option maxHeartbeats 4000000 in
set_option maxRecDepth 100000 in
theorem ctX4_brightest (l : Launch) {D : va_G} {cI : ClassId} {q : Nat → Nat} (S : St) (x1 : Int32) (sz : Nat) {r1 : Int32} (hf : fX4_brightest S x1 = some r1) : Met l yX4_brightest (Cond.code yX4_brightest cX4_brightest 4 (some .int) :: XALL) ({ frames := 1, cells := 0, slots := 0, locals := 21 } : Room) (va_Pc [.ref (q 0), .int x1] (gPre D cI ((mw cI q) S) sz)) (gQi D (mw cI q) S (fun (r : Int32) (u : St) => r = r1 ∧ u = S) sz) 0 0 (va_A ((mw cI q) S) sz) := by
  unfold fX4_brightest at hf
  refine Met.ofW (cc := cX4_brightest) (maxL := 4) (ret := (some .int)) (by decide) rfl ?_
  intro p e s m args below meth c s₁ B hml hv
  obtain ⟨rfl, hg⟩ := hv
  have C : Ctx p s m _ meth c cX4_brightest 4 RX4 (some .int) := Ctx.of B hml rfl
  obtain ⟨E, hw, hsz⟩ := g_start hg
  subst hsz
  have hl := lv_entry ([.ref (q 0), .int x1]) (n := 4) (Nat.le_of_ble_eq_true rfl)
  rw [lg_entry_eq]
  generalize (lg_sl ([.ref (q 0), .int x1]) ++ List.replicate (4 - (lg_sl ([.ref (q 0), .int x1])).length) Slot.unset).toArray = ls at hl ⊢
  have hl : lv_has ls 4 [(0, .ref (q 0)), (1, .int x1)] := hl
  refine lv_iconst (v := (-1)) C.1 C.2.1 dX4_brightest_0 (by decide) ?_
  refine lv_istore_n (lv' := [(2, .int (-1)), (0, .ref (q 0)), (1, .int x1)]) C.1 C.2.1 dX4_brightest_1 rfl hl (by decide) rfl (fun ls hl => ?_)
  refine lv_iconst (v := 0) C.1 C.2.1 dX4_brightest_2 (by decide) ?_
  refine lv_istore_n (lv' := [(3, .int 0), (2, .int (-1)), (0, .ref (q 0)), (1, .int x1)]) C.1 C.2.1 dX4_brightest_3 rfl hl (by decide) rfl (fun ls hl => ?_)
  exact wX4_brightest_4 C E S x1 100 (-1) 0 hf _ _ _ hw (lv_sub hl [2, 3, 1, 0] rfl)
/-! DreamLedgerModel.mostVivid -/
def fX4_mostVivid (S : St) (x1 : Int32) : Option (Int32 × St) :=
  Option.bind (some (up S 10 0 0)) fun S_1 =>
  Option.bind (fX4_isTerm S_1 x1) fun v_2 =>
  if v_2 = 0 then
    Option.bind (fX4_fail S_1 1) fun u_8 => pr u_8 fun v_6 S_7 =>
    some (v_6, S_7)
  else
    Option.bind (fX4_reckon S_1) fun S_3 =>
    Option.bind (ld S_3 9 20 x1) fun v_4 =>
    Option.bind (fX4_brightest S_3 v_4) fun v_5 =>
    some (v_5, S_3)
set_option maxHeartbeats 4000000 in
set_option maxRecDepth 100000 in
theorem ctX4_mostVivid (l : Launch) {D : va_G} {cI : ClassId} {q : Nat → Nat} (S : St) (x1 : Int32) (sz : Nat) {r1 : Int32} {S1 : St} (hf : fX4_mostVivid S x1 = some (r1, S1)) : Met l yX4_mostVivid (Cond.code yX4_mostVivid cX4_mostVivid 2 (some .int) :: XALL) ({ frames := 2, cells := 0, slots := 0, locals := 45 } : Room) (va_Pc [.ref (q 0), .int x1] (gPre D cI ((mw cI q) S) sz)) (gQi D (mw cI q) S (fun (r : Int32) (u : St) => r = r1 ∧ u = S1) sz) 0 0 (va_A ((mw cI q) S) sz) := by
  unfold fX4_mostVivid at hf
  refine Met.ofW (cc := cX4_mostVivid) (maxL := 2) (ret := (some .int)) (by decide) rfl ?_
  intro p e s m args below meth c s₁ B hml hv
  obtain ⟨rfl, hg⟩ := hv
  have C : Ctx p s m _ meth c cX4_mostVivid 2 RX4 (some .int) := Ctx.of B hml rfl
  obtain ⟨E, hw, hsz⟩ := g_start hg
  subst hsz
  have hl := lv_entry ([.ref (q 0), .int x1]) (n := 2) (Nat.le_of_ble_eq_true rfl)
  rw [lg_entry_eq]
  generalize (lg_sl ([.ref (q 0), .int x1]) ++ List.replicate (2 - (lg_sl ([.ref (q 0), .int x1])).length) Slot.unset).toArray = ls at hl ⊢
  have hl : lv_has ls 2 [(0, .ref (q 0)), (1, .int x1)] := hl
  refine lv_aload_n C.1 C.2.1 dX4_mostVivid_0 rfl (lv_at hl 0 rfl) ?_
  refine lv_iconst (v := 0) C.1 C.2.1 dX4_mostVivid_1 (by decide) ?_
  obtain ⟨S_1, hS_1, hf⟩ := bnd hf
  refine g_put C E hw inW4 tyX4 tyX4_ok nmX4 0 rfl rfl 0 (by decide) kf_X4_40 rfl (by decide +kernel) (Nat.le_of_ble_eq_true rfl) (ws' := (mw cI q) S_1) (by rw [← Option.some.inj hS_1]; rfl) dX4_mostVivid_2 (fun H locs hw => ?_)
  refine lv_aload_n C.1 C.2.1 dX4_mostVivid_5 rfl (lv_at hl 0 rfl) ?_
  refine lv_iload_n C.1 C.2.1 dX4_mostVivid_6 rfl (lv_at hl 1 rfl) ?_
  obtain ⟨v_2, hv_2, hf⟩ := bnd hf
  refine g_cie (wf := (mw cI q)) (S := S_1) (rest := []) mw_adr hw (g_runV (rm := ({ frames := 1, cells := 0, slots := 0, locals := 22 } : Room)) (As := [.int x1]) (rest := []) C E hw F_X4_isTerm (ctX4_isTerm l (cI := cI) (D := D) (q := q) S_1 x1 _ hv_2) km_X4_106 0 rfl rfl rfl hl.1 rfl (Nat.le_of_ble_eq_true rfl) ⟨(Nat.le_of_ble_eq_true rfl), (Nat.le_of_ble_eq_true rfl)⟩ ⟨(Nat.le_of_ble_eq_true rfl), (Nat.le_of_ble_eq_true rfl)⟩ dX4_mostVivid_7) (fun H locs hw => ?_)
  refine lv_if_ne (tgt := 19) C.1 C.2.1 dX4_mostVivid_10 (by decide) (fun hc => ?_) (fun hc => ?_)
  · have hf := iff_ hc hf
    refine lv_aload_n C.1 C.2.1 dX4_mostVivid_19 rfl (lv_at hl 0 rfl) ?_
    obtain ⟨S_3, hS_3, hf⟩ := bnd hf
    refine g_cve (wf := (mw cI q)) (S := S_1) (rest := []) mw_adr hw (g_runV (rm := ({ frames := 1, cells := 0, slots := 0, locals := 23 } : Room)) (As := []) (rest := []) C E hw F_X4_reckon (ctX4_reckon l (cI := cI) (D := D) (q := q) S_1  _ hS_3) km_X4_115 0 rfl rfl rfl hl.1 rfl (Nat.le_of_ble_eq_true rfl) ⟨(Nat.le_of_ble_eq_true rfl), (Nat.le_of_ble_eq_true rfl)⟩ ⟨(Nat.le_of_ble_eq_true rfl), (Nat.le_of_ble_eq_true rfl)⟩ dX4_mostVivid_20) (fun H locs hw => ?_)
    refine lv_aload_n C.1 C.2.1 dX4_mostVivid_23 rfl (lv_at hl 0 rfl) ?_
    refine lv_aload_n C.1 C.2.1 dX4_mostVivid_24 rfl (lv_at hl 0 rfl) ?_
    refine g_get C E hw inW4 0 rfl rfl 14 (by decide) kf_X4_37 rfl dX4_mostVivid_25 ?_
    refine lv_iload_n C.1 C.2.1 dX4_mostVivid_28 rfl (lv_at hl 1 rfl) ?_
    obtain ⟨v_4, hv_4, hf⟩ := bnd hf
    refine g_ald C E hw 10 rfl (ld_some hv_4) dX4_mostVivid_29 ?_
    obtain ⟨v_5, hv_5, hf⟩ := bnd hf
    refine g_cie (wf := (mw cI q)) (S := S_3) (rest := []) mw_adr hw (g_runV (rm := ({ frames := 1, cells := 0, slots := 0, locals := 21 } : Room)) (As := [.int v_4]) (rest := []) C E hw F_X4_brightest (ctX4_brightest l (cI := cI) (D := D) (q := q) S_3 v_4 _ hv_5) km_X4_118 0 rfl rfl rfl hl.1 rfl (Nat.le_of_ble_eq_true rfl) ⟨(Nat.le_of_ble_eq_true rfl), (Nat.le_of_ble_eq_true rfl)⟩ ⟨(Nat.le_of_ble_eq_true rfl), (Nat.le_of_ble_eq_true rfl)⟩ dX4_mostVivid_30) (fun H locs hw => ?_)
    exact g_iret C hw (Nat.le_of_ble_eq_true rfl) (Nat.le_of_ble_eq_true rfl) ⟨congrArg Prod.fst (Option.some.inj hf), congrArg Prod.snd (Option.some.inj hf)⟩ dX4_mostVivid_33
  · have hf := ift hc hf
    refine lv_aload_n C.1 C.2.1 dX4_mostVivid_13 rfl (lv_at hl 0 rfl) ?_
    refine lv_iconst (v := 1) C.1 C.2.1 dX4_mostVivid_14 (by decide) ?_
    obtain ⟨⟨v_6, S_7⟩, hu_8, hf⟩ := bnd hf
    have hf := pr_r hf
    refine g_cie (wf := (mw cI q)) (S := S_1) (rest := []) mw_adr hw (g_runV (rm := ({ frames := 0, cells := 0, slots := 0, locals := 0 } : Room)) (As := [.int 1]) (rest := []) C E hw F_X4_fail (ctX4_fail l (cI := cI) (D := D) (q := q) S_1 1 _ hu_8) km_X4_68 0 rfl rfl rfl hl.1 rfl (Nat.le_of_ble_eq_true rfl) ⟨(Nat.le_of_ble_eq_true rfl), (Nat.le_of_ble_eq_true rfl)⟩ ⟨(Nat.le_of_ble_eq_true rfl), (Nat.le_of_ble_eq_true rfl)⟩ dX4_mostVivid_15) (fun H locs hw => ?_)
    exact g_iret C hw (Nat.le_of_ble_eq_true rfl) (Nat.le_of_ble_eq_true rfl) ⟨congrArg Prod.fst (Option.some.inj hf), congrArg Prod.snd (Option.some.inj hf)⟩ dX4_mostVivid_18
/-! DreamLedgerModel.common -/
def fX4_common_19 (S : St) (x1 : Int32) : Nat → Int32 → Int32 → Option Int32
  | 0, _, _ => none
  | n + 1, x2, x3 =>
    if (S 12 0) ≤ x3 then
      Option.bind (fX4_many x2) fun v_2 =>
      some v_2
    else
      Option.bind (fX4_is x1 x3) fun v_3 =>
      if v_3 = 0 then
        Option.bind (some (x3 + 1)) fun x3_4 =>
        fX4_common_19 S x1 n x2 x3_4
      else
        Option.bind (ld S 7 24 x3) fun v_5 =>
        Option.bind (some ((x2 &&& v_5))) fun x2_6 =>
        Option.bind (some (x3 + 1)) fun x3_7 =>
        fX4_common_19 S x1 n x2_6 x3_7
set_option maxHeartbeats 4000000 in
set_option maxRecDepth 100000 in
theorem wX4_common_19 {p : Program} {l : Launch} {e : Env} {s : State} {m : MethodId} {args : Array Value} {below : List Frame} {meth : Method} {c : Code} {D : va_G} {cI : ClassId} {q : Nat → Nat} (C : Ctx p s m args meth c cX4_common 4 RX4 (some .int)) (E : gE D cI s) {r1 : Int32} (S : St) (x1 : Int32) : ∀ (n : Nat) (x2 : Int32) (x3 : Int32), fX4_common_19 S x1 n x2 x3 = some r1 → ∀ (H : Heap) (locs : List Loc) (ls : Array Slot), gW D ((mw cI q) S) ((mw cI q) S) s H locs → lv_has ls 4 [(0, .ref (q 0)), (1, .int x1), (2, .int x2), (3, .int x3)] → W p l e ({ frames := 1, cells := 0, slots := 0, locals := 22 } : Room) s m args below meth c H locs 0 0 (MQ below (gQi D (mw cI q) S (fun (r : Int32) (u : St) => r = r1 ∧ u = S) s.heap.size) args s 0 0 (va_A ((mw cI q) S) s.heap.size)) (F0 m 19 ls []) := by
  intro n
  induction n with
  | zero => intro x2 x3 hf; rw [fX4_common_19] at hf; cases hf
  | succ n ih =>
    intro x2 x3 hf H locs ls hw hl
    rw [fX4_common_19] at hf
    refine lv_iload_n C.1 C.2.1 dX4_common_19 rfl (lv_at hl 3 rfl) ?_
    refine lv_aload_n C.1 C.2.1 dX4_common_20 rfl (lv_at hl 0 rfl) ?_
    refine g_get C E hw inW4 0 rfl rfl 2 (by decide) kf_X4_51 rfl dX4_common_21 ?_
    refine lv_icmp_ge (tgt := 50) C.1 C.2.1 dX4_common_24 (by decide) (fun hc => ?_) (fun hc => ?_)
    · have hf := ift hc hf
      refine lv_iload_n C.1 C.2.1 dX4_common_50 rfl (lv_at hl 2 rfl) ?_
      obtain ⟨v_2, hv_2, hf⟩ := bnd hf
      refine g_ci0e (rest := []) hw (g_run0 (rm := ({ frames := 0, cells := 0, slots := 0, locals := 0 } : Room)) (As := [.int x2]) (rest := []) C F_X4_many (ctX4_many l x2 hv_2) km_X4_78 rfl hl.1 rfl (Nat.le_of_ble_eq_true rfl) ⟨(Nat.le_of_ble_eq_true rfl), (Nat.le_of_ble_eq_true rfl)⟩ ⟨(Nat.le_of_ble_eq_true rfl), (Nat.le_of_ble_eq_true rfl)⟩ dX4_common_51) (fun H locs hw => ?_)
      exact g_iret C hw (Nat.le_of_ble_eq_true rfl) (Nat.le_of_ble_eq_true rfl) ⟨Option.some.inj hf, rfl⟩ dX4_common_54
    · have hf := iff_ hc hf
      refine lv_iload_n C.1 C.2.1 dX4_common_27 rfl (lv_at hl 1 rfl) ?_
      refine lv_iload_n C.1 C.2.1 dX4_common_28 rfl (lv_at hl 3 rfl) ?_
      obtain ⟨v_3, hv_3, hf⟩ := bnd hf
      refine g_ci0e (rest := []) hw (g_run0 (rm := ({ frames := 0, cells := 0, slots := 0, locals := 0 } : Room)) (As := [.int x1, .int x3]) (rest := []) C F_X4_is (ctX4_is l x1 x3 hv_3) km_X4_61 rfl hl.1 rfl (Nat.le_of_ble_eq_true rfl) ⟨(Nat.le_of_ble_eq_true rfl), (Nat.le_of_ble_eq_true rfl)⟩ ⟨(Nat.le_of_ble_eq_true rfl), (Nat.le_of_ble_eq_true rfl)⟩ dX4_common_29) (fun H locs hw => ?_)
      refine lv_if_eq (tgt := 44) C.1 C.2.1 dX4_common_32 (by decide) (fun hc => ?_) (fun hc => ?_)
      · have hf := ift hc hf
        obtain ⟨x3_4, hx3_4, hf⟩ := bnd hf
        refine lv_iinc (v := x3_4) (lv' := [(3, .int x3_4), (0, .ref (q 0)), (1, .int x1), (2, .int x2)]) C.1 C.2.1 dX4_common_44 hl (k := 3) rfl (inc1 hx3_4) (by decide) rfl (fun ls hl => ?_)
        refine lv_goto (tgt := 19) C.1 C.2.1 dX4_common_47 (by decide) ?_
        exact ih x2 x3_4 hf _ _ _ hw (lv_sub hl [1, 2, 3, 0] rfl)
      · have hf := iff_ hc hf
        refine lv_iload_n C.1 C.2.1 dX4_common_35 rfl (lv_at hl 2 rfl) ?_
        refine lv_aload_n C.1 C.2.1 dX4_common_36 rfl (lv_at hl 0 rfl) ?_
        refine g_get C E hw inW4 0 rfl rfl 12 (by decide) kf_X4_31 rfl dX4_common_37 ?_
        refine lv_iload_n C.1 C.2.1 dX4_common_40 rfl (lv_at hl 3 rfl) ?_
        obtain ⟨v_5, hv_5, hf⟩ := bnd hf
        refine g_ald C E hw 8 rfl (ld_some hv_5) dX4_common_41 ?_
        refine lv_iand C.1 C.2.1 dX4_common_42 ?_
        obtain ⟨x2_6, hx2_6, hf⟩ := bnd hf
        refine topi_b hx2_6 ?_
        refine lv_istore_n (lv' := [(2, .int x2_6), (0, .ref (q 0)), (1, .int x1), (3, .int x3)]) C.1 C.2.1 dX4_common_43 rfl hl (by decide) rfl (fun ls hl => ?_)
        obtain ⟨x3_7, hx3_7, hf⟩ := bnd hf
        refine lv_iinc (v := x3_7) (lv' := [(3, .int x3_7), (2, .int x2_6), (0, .ref (q 0)), (1, .int x1)]) C.1 C.2.1 dX4_common_44 hl (k := 3) rfl (inc1 hx3_7) (by decide) rfl (fun ls hl => ?_)
        refine lv_goto (tgt := 19) C.1 C.2.1 dX4_common_47 (by decide) ?_
        exact ih x2_6 x3_7 hf _ _ _ hw (lv_sub hl [2, 3, 1, 0] rfl)
def fX4_common (S : St) (x1 : Int32) : Option Int32 :=
  if x1 = 0 then
    fX4_common_19 S x1 100 0 0
  else
    Option.bind (some ((((1 : Int32) <<< ((S 11 0) &&& 31)) - 1))) fun x2_1 =>
    fX4_common_19 S x1 100 x2_1 0
set_option maxHeartbeats 4000000 in
set_option maxRecDepth 100000 in
theorem ctX4_common (l : Launch) {D : va_G} {cI : ClassId} {q : Nat → Nat} (S : St) (x1 : Int32) (sz : Nat) {r1 : Int32} (hf : fX4_common S x1 = some r1) : Met l yX4_common (Cond.code yX4_common cX4_common 4 (some .int) :: XALL) ({ frames := 1, cells := 0, slots := 0, locals := 22 } : Room) (va_Pc [.ref (q 0), .int x1] (gPre D cI ((mw cI q) S) sz)) (gQi D (mw cI q) S (fun (r : Int32) (u : St) => r = r1 ∧ u = S) sz) 0 0 (va_A ((mw cI q) S) sz) := by
  unfold fX4_common at hf
  refine Met.ofW (cc := cX4_common) (maxL := 4) (ret := (some .int)) (by decide) rfl ?_
  intro p e s m args below meth c s₁ B hml hv
  obtain ⟨rfl, hg⟩ := hv
  have C : Ctx p s m _ meth c cX4_common 4 RX4 (some .int) := Ctx.of B hml rfl
  obtain ⟨E, hw, hsz⟩ := g_start hg
  subst hsz
  have hl := lv_entry ([.ref (q 0), .int x1]) (n := 4) (Nat.le_of_ble_eq_true rfl)
  rw [lg_entry_eq]
  generalize (lg_sl ([.ref (q 0), .int x1]) ++ List.replicate (4 - (lg_sl ([.ref (q 0), .int x1])).length) Slot.unset).toArray = ls at hl ⊢
  have hl : lv_has ls 4 [(0, .ref (q 0)), (1, .int x1)] := hl
  refine lv_iload_n C.1 C.2.1 dX4_common_0 rfl (lv_at hl 1 rfl) ?_
  refine lv_if_ne (tgt := 8) C.1 C.2.1 dX4_common_1 (by decide) (fun hc => ?_) (fun hc => ?_)
  · have hf := iff_ hc hf
    refine lv_iconst (v := 1) C.1 C.2.1 dX4_common_8 (by decide) ?_
    refine lv_aload_n C.1 C.2.1 dX4_common_9 rfl (lv_at hl 0 rfl) ?_
    refine g_get C E hw inW4 0 rfl rfl 1 (by decide) kf_X4_44 rfl dX4_common_10 ?_
    refine lv_ishl C.1 C.2.1 dX4_common_13 ?_
    refine lv_iconst (v := 1) C.1 C.2.1 dX4_common_14 (by decide) ?_
    refine lv_isub C.1 C.2.1 dX4_common_15 ?_
    obtain ⟨x2_1, hx2_1, hf⟩ := bnd hf
    refine topi_b hx2_1 ?_
    refine lv_istore_n (lv' := [(2, .int x2_1), (0, .ref (q 0)), (1, .int x1)]) C.1 C.2.1 dX4_common_16 rfl hl (by decide) rfl (fun ls hl => ?_)
    refine lv_iconst (v := 0) C.1 C.2.1 dX4_common_17 (by decide) ?_
    refine lv_istore_n (lv' := [(3, .int 0), (2, .int x2_1), (0, .ref (q 0)), (1, .int x1)]) C.1 C.2.1 dX4_common_18 rfl hl (by decide) rfl (fun ls hl => ?_)
    exact wX4_common_19 C E S x1 100 x2_1 0 hf _ _ _ hw (lv_sub hl [2, 3, 1, 0] rfl)
  · have hf := ift hc hf
    refine lv_iconst (v := 0) C.1 C.2.1 dX4_common_4 (by decide) ?_
    refine lv_goto (tgt := 16) C.1 C.2.1 dX4_common_5 (by decide) ?_
    refine lv_istore_n (lv' := [(2, .int 0), (0, .ref (q 0)), (1, .int x1)]) C.1 C.2.1 dX4_common_16 rfl hl (by decide) rfl (fun ls hl => ?_)
    refine lv_iconst (v := 0) C.1 C.2.1 dX4_common_17 (by decide) ?_
    refine lv_istore_n (lv' := [(3, .int 0), (2, .int 0), (0, .ref (q 0)), (1, .int x1)]) C.1 C.2.1 dX4_common_18 rfl hl (by decide) rfl (fun ls hl => ?_)
    exact wX4_common_19 C E S x1 100 0 0 hf _ _ _ hw (lv_sub hl [2, 3, 1, 0] rfl)
/-! DreamLedgerModel.commonTags -/
def fX4_commonTags (S : St) (x1 : Int32) : Option (Int32 × St) :=
  Option.bind (some (up S 10 0 0)) fun S_1 =>
  Option.bind (fX4_isTerm S_1 x1) fun v_2 =>
  if v_2 = 0 then
    Option.bind (fX4_fail S_1 1) fun u_8 => pr u_8 fun v_6 S_7 =>
    some (v_6, S_7)
  else
    Option.bind (fX4_reckon S_1) fun S_3 =>
    Option.bind (ld S_3 9 20 x1) fun v_4 =>
    Option.bind (fX4_common S_3 v_4) fun v_5 =>
    some (v_5, S_3)
set_option maxHeartbeats 4000000 in
set_option maxRecDepth 100000 in
theorem ctX4_commonTags (l : Launch) {D : va_G} {cI : ClassId} {q : Nat → Nat} (S : St) (x1 : Int32) (sz : Nat) {r1 : Int32} {S1 : St} (hf : fX4_commonTags S x1 = some (r1, S1)) : Met l yX4_commonTags (Cond.code yX4_commonTags cX4_commonTags 2 (some .int) :: XALL) ({ frames := 2, cells := 0, slots := 0, locals := 45 } : Room) (va_Pc [.ref (q 0), .int x1] (gPre D cI ((mw cI q) S) sz)) (gQi D (mw cI q) S (fun (r : Int32) (u : St) => r = r1 ∧ u = S1) sz) 0 0 (va_A ((mw cI q) S) sz) := by
  unfold fX4_commonTags at hf
  refine Met.ofW (cc := cX4_commonTags) (maxL := 2) (ret := (some .int)) (by decide) rfl ?_
  intro p e s m args below meth c s₁ B hml hv
  obtain ⟨rfl, hg⟩ := hv
  have C : Ctx p s m _ meth c cX4_commonTags 2 RX4 (some .int) := Ctx.of B hml rfl
  obtain ⟨E, hw, hsz⟩ := g_start hg
  subst hsz
  have hl := lv_entry ([.ref (q 0), .int x1]) (n := 2) (Nat.le_of_ble_eq_true rfl)
  rw [lg_entry_eq]
  generalize (lg_sl ([.ref (q 0), .int x1]) ++ List.replicate (2 - (lg_sl ([.ref (q 0), .int x1])).length) Slot.unset).toArray = ls at hl ⊢
  have hl : lv_has ls 2 [(0, .ref (q 0)), (1, .int x1)] := hl
  refine lv_aload_n C.1 C.2.1 dX4_commonTags_0 rfl (lv_at hl 0 rfl) ?_
  refine lv_iconst (v := 0) C.1 C.2.1 dX4_commonTags_1 (by decide) ?_
  obtain ⟨S_1, hS_1, hf⟩ := bnd hf
  refine g_put C E hw inW4 tyX4 tyX4_ok nmX4 0 rfl rfl 0 (by decide) kf_X4_40 rfl (by decide +kernel) (Nat.le_of_ble_eq_true rfl) (ws' := (mw cI q) S_1) (by rw [← Option.some.inj hS_1]; rfl) dX4_commonTags_2 (fun H locs hw => ?_)
  refine lv_aload_n C.1 C.2.1 dX4_commonTags_5 rfl (lv_at hl 0 rfl) ?_
  refine lv_iload_n C.1 C.2.1 dX4_commonTags_6 rfl (lv_at hl 1 rfl) ?_
  obtain ⟨v_2, hv_2, hf⟩ := bnd hf
  refine g_cie (wf := (mw cI q)) (S := S_1) (rest := []) mw_adr hw (g_runV (rm := ({ frames := 1, cells := 0, slots := 0, locals := 22 } : Room)) (As := [.int x1]) (rest := []) C E hw F_X4_isTerm (ctX4_isTerm l (cI := cI) (D := D) (q := q) S_1 x1 _ hv_2) km_X4_106 0 rfl rfl rfl hl.1 rfl (Nat.le_of_ble_eq_true rfl) ⟨(Nat.le_of_ble_eq_true rfl), (Nat.le_of_ble_eq_true rfl)⟩ ⟨(Nat.le_of_ble_eq_true rfl), (Nat.le_of_ble_eq_true rfl)⟩ dX4_commonTags_7) (fun H locs hw => ?_)
  refine lv_if_ne (tgt := 19) C.1 C.2.1 dX4_commonTags_10 (by decide) (fun hc => ?_) (fun hc => ?_)
  · have hf := iff_ hc hf
    refine lv_aload_n C.1 C.2.1 dX4_commonTags_19 rfl (lv_at hl 0 rfl) ?_
    obtain ⟨S_3, hS_3, hf⟩ := bnd hf
    refine g_cve (wf := (mw cI q)) (S := S_1) (rest := []) mw_adr hw (g_runV (rm := ({ frames := 1, cells := 0, slots := 0, locals := 23 } : Room)) (As := []) (rest := []) C E hw F_X4_reckon (ctX4_reckon l (cI := cI) (D := D) (q := q) S_1  _ hS_3) km_X4_115 0 rfl rfl rfl hl.1 rfl (Nat.le_of_ble_eq_true rfl) ⟨(Nat.le_of_ble_eq_true rfl), (Nat.le_of_ble_eq_true rfl)⟩ ⟨(Nat.le_of_ble_eq_true rfl), (Nat.le_of_ble_eq_true rfl)⟩ dX4_commonTags_20) (fun H locs hw => ?_)
    refine lv_aload_n C.1 C.2.1 dX4_commonTags_23 rfl (lv_at hl 0 rfl) ?_
    refine lv_aload_n C.1 C.2.1 dX4_commonTags_24 rfl (lv_at hl 0 rfl) ?_
    refine g_get C E hw inW4 0 rfl rfl 14 (by decide) kf_X4_37 rfl dX4_commonTags_25 ?_
    refine lv_iload_n C.1 C.2.1 dX4_commonTags_28 rfl (lv_at hl 1 rfl) ?_
    obtain ⟨v_4, hv_4, hf⟩ := bnd hf
    refine g_ald C E hw 10 rfl (ld_some hv_4) dX4_commonTags_29 ?_
    obtain ⟨v_5, hv_5, hf⟩ := bnd hf
    refine g_cie (wf := (mw cI q)) (S := S_3) (rest := []) mw_adr hw (g_runV (rm := ({ frames := 1, cells := 0, slots := 0, locals := 22 } : Room)) (As := [.int v_4]) (rest := []) C E hw F_X4_common (ctX4_common l (cI := cI) (D := D) (q := q) S_3 v_4 _ hv_5) km_X4_121 0 rfl rfl rfl hl.1 rfl (Nat.le_of_ble_eq_true rfl) ⟨(Nat.le_of_ble_eq_true rfl), (Nat.le_of_ble_eq_true rfl)⟩ ⟨(Nat.le_of_ble_eq_true rfl), (Nat.le_of_ble_eq_true rfl)⟩ dX4_commonTags_30) (fun H locs hw => ?_)
    exact g_iret C hw (Nat.le_of_ble_eq_true rfl) (Nat.le_of_ble_eq_true rfl) ⟨congrArg Prod.fst (Option.some.inj hf), congrArg Prod.snd (Option.some.inj hf)⟩ dX4_commonTags_33
  · have hf := ift hc hf
    refine lv_aload_n C.1 C.2.1 dX4_commonTags_13 rfl (lv_at hl 0 rfl) ?_
    refine lv_iconst (v := 1) C.1 C.2.1 dX4_commonTags_14 (by decide) ?_
    obtain ⟨⟨v_6, S_7⟩, hu_8, hf⟩ := bnd hf
    have hf := pr_r hf
    refine g_cie (wf := (mw cI q)) (S := S_1) (rest := []) mw_adr hw (g_runV (rm := ({ frames := 0, cells := 0, slots := 0, locals := 0 } : Room)) (As := [.int 1]) (rest := []) C E hw F_X4_fail (ctX4_fail l (cI := cI) (D := D) (q := q) S_1 1 _ hu_8) km_X4_68 0 rfl rfl rfl hl.1 rfl (Nat.le_of_ble_eq_true rfl) ⟨(Nat.le_of_ble_eq_true rfl), (Nat.le_of_ble_eq_true rfl)⟩ ⟨(Nat.le_of_ble_eq_true rfl), (Nat.le_of_ble_eq_true rfl)⟩ dX4_commonTags_15) (fun H locs hw => ?_)
    exact g_iret C hw (Nat.le_of_ble_eq_true rfl) (Nat.le_of_ble_eq_true rfl) ⟨congrArg Prod.fst (Option.some.inj hf), congrArg Prod.snd (Option.some.inj hf)⟩ dX4_commonTags_18
/-! DreamLedgerModel.matchSame -/
def fX4_matchSame_21 (S : St) : Option (Int32 × St) :=
  Option.bind (fX4_failed S 1) fun u_9 => pr u_9 fun v_7 S_8 =>
  Option.bind (zg v_7) fun v_10 =>
  some (v_10, S_8)
set_option maxHeartbeats 4000000 in
set_option maxRecDepth 100000 in
theorem wX4_matchSame_21 {p : Program} {l : Launch} {e : Env} {s : State} {m : MethodId} {args : Array Value} {below : List Frame} {meth : Method} {c : Code} {D : va_G} {cI : ClassId} {q : Nat → Nat} (C : Ctx p s m args meth c cX4_matchSame 3 RX4 (some .boolean)) (E : gE D cI s) {S0 : St} {r1 : Int32} {S1 : St} : ∀ (S : St), fX4_matchSame_21 S = some (r1, S1) → ∀ (H : Heap) (locs : List Loc) (ls : Array Slot), gW D ((mw cI q) S0) ((mw cI q) S) s H locs → lv_has ls 3 [(0, .ref (q 0))] → W p l e ({ frames := 2, cells := 0, slots := 0, locals := 45 } : Room) s m args below meth c H locs 0 0 (MQ below (gQi D (mw cI q) S0 (fun (r : Int32) (u : St) => r = r1 ∧ u = S1) s.heap.size) args s 0 0 (va_A ((mw cI q) S0) s.heap.size)) (F0 m 21 ls []) := by
  intro S hf H locs ls hw hl
  unfold fX4_matchSame_21 at hf
  refine lv_aload_n C.1 C.2.1 dX4_matchSame_21 rfl (lv_at hl 0 rfl) ?_
  refine lv_iconst (v := 1) C.1 C.2.1 dX4_matchSame_22 (by decide) ?_
  obtain ⟨⟨v_7, S_8⟩, hu_9, hf⟩ := bnd hf
  have hf := pr_r hf
  refine g_cie (wf := (mw cI q)) (S := S) (rest := []) mw_adr hw (g_runV (rm := ({ frames := 0, cells := 0, slots := 0, locals := 0 } : Room)) (As := [.int 1]) (rest := []) C E hw F_X4_failed (ctX4_failed l (cI := cI) (D := D) (q := q) S 1 _ hu_9) km_X4_109 0 rfl rfl rfl hl.1 rfl (Nat.le_of_ble_eq_true rfl) ⟨(Nat.le_of_ble_eq_true rfl), (Nat.le_of_ble_eq_true rfl)⟩ ⟨(Nat.le_of_ble_eq_true rfl), (Nat.le_of_ble_eq_true rfl)⟩ dX4_matchSame_23) (fun H locs hw => ?_)
  obtain ⟨v_10, hv_10, hf⟩ := bnd hf
  rw [(zg_some hv_10).1]
  exact g_zret C hw (Nat.le_of_ble_eq_true rfl) (Nat.le_of_ble_eq_true rfl) (zg_some hv_10).2 ⟨congrArg Prod.fst (Option.some.inj hf), congrArg Prod.snd (Option.some.inj hf)⟩ dX4_matchSame_26
def fX4_matchSame (S : St) (x1 : Int32) (x2 : Int32) : Option (Int32 × St) :=
  Option.bind (some (up S 10 0 0)) fun S_1 =>
  Option.bind (fX4_isTerm S_1 x1) fun v_2 =>
  if v_2 = 0 then
    fX4_matchSame_21 S_1
  else
    Option.bind (fX4_isTerm S_1 x2) fun v_3 =>
    if v_3 = 0 then
      fX4_matchSame_21 S_1
    else
      Option.bind (fX4_reckon S_1) fun S_4 =>
      Option.bind (ld S_4 9 20 x1) fun v_5 =>
      Option.bind (ld S_4 9 20 x2) fun v_6 =>
      if v_5 = v_6 then
        some (1, S_4)
      else
        some (0, S_4)
set_option maxHeartbeats 4000000 in
set_option maxRecDepth 100000 in
theorem ctX4_matchSame (l : Launch) {D : va_G} {cI : ClassId} {q : Nat → Nat} (S : St) (x1 : Int32) (x2 : Int32) (sz : Nat) {r1 : Int32} {S1 : St} (hf : fX4_matchSame S x1 x2 = some (r1, S1)) : Met l yX4_matchSame (Cond.code yX4_matchSame cX4_matchSame 3 (some .boolean) :: XALL) ({ frames := 2, cells := 0, slots := 0, locals := 45 } : Room) (va_Pc [.ref (q 0), .int x1, .int x2] (gPre D cI ((mw cI q) S) sz)) (gQi D (mw cI q) S (fun (r : Int32) (u : St) => r = r1 ∧ u = S1) sz) 0 0 (va_A ((mw cI q) S) sz) := by
  unfold fX4_matchSame at hf
  refine Met.ofW (cc := cX4_matchSame) (maxL := 3) (ret := (some .boolean)) (by decide) rfl ?_
  intro p e s m args below meth c s₁ B hml hv
  obtain ⟨rfl, hg⟩ := hv
  have C : Ctx p s m _ meth c cX4_matchSame 3 RX4 (some .boolean) := Ctx.of B hml rfl
  obtain ⟨E, hw, hsz⟩ := g_start hg
  subst hsz
  have hl := lv_entry ([.ref (q 0), .int x1, .int x2]) (n := 3) (Nat.le_of_ble_eq_true rfl)
  rw [lg_entry_eq]
  generalize (lg_sl ([.ref (q 0), .int x1, .int x2]) ++ List.replicate (3 - (lg_sl ([.ref (q 0), .int x1, .int x2])).length) Slot.unset).toArray = ls at hl ⊢
  have hl : lv_has ls 3 [(0, .ref (q 0)), (1, .int x1), (2, .int x2)] := hl
  refine lv_aload_n C.1 C.2.1 dX4_matchSame_0 rfl (lv_at hl 0 rfl) ?_
  refine lv_iconst (v := 0) C.1 C.2.1 dX4_matchSame_1 (by decide) ?_
  obtain ⟨S_1, hS_1, hf⟩ := bnd hf
  refine g_put C E hw inW4 tyX4 tyX4_ok nmX4 0 rfl rfl 0 (by decide) kf_X4_40 rfl (by decide +kernel) (Nat.le_of_ble_eq_true rfl) (ws' := (mw cI q) S_1) (by rw [← Option.some.inj hS_1]; rfl) dX4_matchSame_2 (fun H locs hw => ?_)
  refine lv_aload_n C.1 C.2.1 dX4_matchSame_5 rfl (lv_at hl 0 rfl) ?_
  refine lv_iload_n C.1 C.2.1 dX4_matchSame_6 rfl (lv_at hl 1 rfl) ?_
  obtain ⟨v_2, hv_2, hf⟩ := bnd hf
  refine g_cie (wf := (mw cI q)) (S := S_1) (rest := []) mw_adr hw (g_runV (rm := ({ frames := 1, cells := 0, slots := 0, locals := 22 } : Room)) (As := [.int x1]) (rest := []) C E hw F_X4_isTerm (ctX4_isTerm l (cI := cI) (D := D) (q := q) S_1 x1 _ hv_2) km_X4_106 0 rfl rfl rfl hl.1 rfl (Nat.le_of_ble_eq_true rfl) ⟨(Nat.le_of_ble_eq_true rfl), (Nat.le_of_ble_eq_true rfl)⟩ ⟨(Nat.le_of_ble_eq_true rfl), (Nat.le_of_ble_eq_true rfl)⟩ dX4_matchSame_7) (fun H locs hw => ?_)
  refine lv_if_eq (tgt := 21) C.1 C.2.1 dX4_matchSame_10 (by decide) (fun hc => ?_) (fun hc => ?_)
  · have hf := ift hc hf
    exact wX4_matchSame_21 C E S_1 hf _ _ _ hw (lv_sub hl [0] rfl)
  · have hf := iff_ hc hf
    refine lv_aload_n C.1 C.2.1 dX4_matchSame_13 rfl (lv_at hl 0 rfl) ?_
    refine lv_iload_n C.1 C.2.1 dX4_matchSame_14 rfl (lv_at hl 2 rfl) ?_
    obtain ⟨v_3, hv_3, hf⟩ := bnd hf
    refine g_cie (wf := (mw cI q)) (S := S_1) (rest := []) mw_adr hw (g_runV (rm := ({ frames := 1, cells := 0, slots := 0, locals := 22 } : Room)) (As := [.int x2]) (rest := []) C E hw F_X4_isTerm (ctX4_isTerm l (cI := cI) (D := D) (q := q) S_1 x2 _ hv_3) km_X4_106 0 rfl rfl rfl hl.1 rfl (Nat.le_of_ble_eq_true rfl) ⟨(Nat.le_of_ble_eq_true rfl), (Nat.le_of_ble_eq_true rfl)⟩ ⟨(Nat.le_of_ble_eq_true rfl), (Nat.le_of_ble_eq_true rfl)⟩ dX4_matchSame_15) (fun H locs hw => ?_)
    refine lv_if_ne (tgt := 27) C.1 C.2.1 dX4_matchSame_18 (by decide) (fun hc => ?_) (fun hc => ?_)
    · have hf := iff_ hc hf
      refine lv_aload_n C.1 C.2.1 dX4_matchSame_27 rfl (lv_at hl 0 rfl) ?_
      obtain ⟨S_4, hS_4, hf⟩ := bnd hf
      refine g_cve (wf := (mw cI q)) (S := S_1) (rest := []) mw_adr hw (g_runV (rm := ({ frames := 1, cells := 0, slots := 0, locals := 23 } : Room)) (As := []) (rest := []) C E hw F_X4_reckon (ctX4_reckon l (cI := cI) (D := D) (q := q) S_1  _ hS_4) km_X4_115 0 rfl rfl rfl hl.1 rfl (Nat.le_of_ble_eq_true rfl) ⟨(Nat.le_of_ble_eq_true rfl), (Nat.le_of_ble_eq_true rfl)⟩ ⟨(Nat.le_of_ble_eq_true rfl), (Nat.le_of_ble_eq_true rfl)⟩ dX4_matchSame_28) (fun H locs hw => ?_)
      refine lv_aload_n C.1 C.2.1 dX4_matchSame_31 rfl (lv_at hl 0 rfl) ?_
      refine g_get C E hw inW4 0 rfl rfl 14 (by decide) kf_X4_37 rfl dX4_matchSame_32 ?_
      refine lv_iload_n C.1 C.2.1 dX4_matchSame_35 rfl (lv_at hl 1 rfl) ?_
      obtain ⟨v_5, hv_5, hf⟩ := bnd hf
      refine g_ald C E hw 10 rfl (ld_some hv_5) dX4_matchSame_36 ?_
      refine lv_aload_n C.1 C.2.1 dX4_matchSame_37 rfl (lv_at hl 0 rfl) ?_
      refine g_get C E hw inW4 0 rfl rfl 14 (by decide) kf_X4_37 rfl dX4_matchSame_38 ?_
      refine lv_iload_n C.1 C.2.1 dX4_matchSame_41 rfl (lv_at hl 2 rfl) ?_
      obtain ⟨v_6, hv_6, hf⟩ := bnd hf
      refine g_ald C E hw 10 rfl (ld_some hv_6) dX4_matchSame_42 ?_
      refine lv_icmp_ne (tgt := 50) C.1 C.2.1 dX4_matchSame_43 (by decide) (fun hc => ?_) (fun hc => ?_)
      · have hf := iff_ hc hf
        refine lv_iconst (v := 0) C.1 C.2.1 dX4_matchSame_50 (by decide) ?_
        exact g_zret C hw (Nat.le_of_ble_eq_true rfl) (Nat.le_of_ble_eq_true rfl) (Or.inl rfl) ⟨congrArg Prod.fst (Option.some.inj hf), congrArg Prod.snd (Option.some.inj hf)⟩ dX4_matchSame_51
      · have hf := ift hc hf
        refine lv_iconst (v := 1) C.1 C.2.1 dX4_matchSame_46 (by decide) ?_
        refine lv_goto (tgt := 51) C.1 C.2.1 dX4_matchSame_47 (by decide) ?_
        exact g_zret C hw (Nat.le_of_ble_eq_true rfl) (Nat.le_of_ble_eq_true rfl) (Or.inr rfl) ⟨congrArg Prod.fst (Option.some.inj hf), congrArg Prod.snd (Option.some.inj hf)⟩ dX4_matchSame_51
    · have hf := ift hc hf
      exact wX4_matchSame_21 C E S_1 hf _ _ _ hw (lv_sub hl [0] rfl)
/-! DreamLedgerModel.apart -/
def fX4_apart_7 (S : St) (x1 : Int32) : Nat → Int32 → Int32 → Int32 → Option Int32
  | 0, _, _, _ => none
  | n + 1, x2, x3, x4 =>
    if (S 12 0) ≤ x4 then
      some x3
    else
      Option.bind (fX4_is x1 x4) fun v_1 =>
      if v_1 = 0 then
        Option.bind (some (x4 + 1)) fun x4_2 =>
        fX4_apart_7 S x1 n x2 x3 x4_2
      else
        Option.bind (ld S 7 24 x4) fun v_3 =>
        if (v_3 &&& x2) = 0 then
          Option.bind (ld S 7 24 x4) fun v_4 =>
          Option.bind (some ((x2 ||| v_4))) fun x2_5 =>
          Option.bind (some (x3 + 1)) fun x3_6 =>
          Option.bind (some (x4 + 1)) fun x4_7 =>
          fX4_apart_7 S x1 n x2_5 x3_6 x4_7
        else
          Option.bind (some (x4 + 1)) fun x4_8 =>
          fX4_apart_7 S x1 n x2 x3 x4_8
set_option maxHeartbeats 4000000 in
set_option maxRecDepth 100000 in
theorem wX4_apart_7 {p : Program} {l : Launch} {e : Env} {s : State} {m : MethodId} {args : Array Value} {below : List Frame} {meth : Method} {c : Code} {D : va_G} {cI : ClassId} {q : Nat → Nat} (C : Ctx p s m args meth c cX4_apart 5 RX4 (some .int)) (E : gE D cI s) {r1 : Int32} (S : St) (x1 : Int32) : ∀ (n : Nat) (x2 : Int32) (x3 : Int32) (x4 : Int32), fX4_apart_7 S x1 n x2 x3 x4 = some r1 → ∀ (H : Heap) (locs : List Loc) (ls : Array Slot), gW D ((mw cI q) S) ((mw cI q) S) s H locs → lv_has ls 5 [(0, .ref (q 0)), (1, .int x1), (2, .int x2), (3, .int x3), (4, .int x4)] → W p l e ({ frames := 1, cells := 0, slots := 0, locals := 21 } : Room) s m args below meth c H locs 0 0 (MQ below (gQi D (mw cI q) S (fun (r : Int32) (u : St) => r = r1 ∧ u = S) s.heap.size) args s 0 0 (va_A ((mw cI q) S) s.heap.size)) (F0 m 7 ls []) := by
  intro n
  induction n with
  | zero => intro x2 x3 x4 hf; rw [fX4_apart_7] at hf; cases hf
  | succ n ih =>
    intro x2 x3 x4 hf H locs ls hw hl
    rw [fX4_apart_7] at hf
    refine lv_iload C.1 C.2.1 dX4_apart_7 (lv_at hl 4 rfl) ?_
    refine lv_aload_n C.1 C.2.1 dX4_apart_9 rfl (lv_at hl 0 rfl) ?_
    refine g_get C E hw inW4 0 rfl rfl 2 (by decide) kf_X4_51 rfl dX4_apart_10 ?_
    refine lv_icmp_ge (tgt := 59) C.1 C.2.1 dX4_apart_13 (by decide) (fun hc => ?_) (fun hc => ?_)
    · have hf := ift hc hf
      refine lv_iload_n C.1 C.2.1 dX4_apart_59 rfl (lv_at hl 3 rfl) ?_
      exact g_iret C hw (Nat.le_of_ble_eq_true rfl) (Nat.le_of_ble_eq_true rfl) ⟨Option.some.inj hf, rfl⟩ dX4_apart_60
    · have hf := iff_ hc hf
      refine lv_iload_n C.1 C.2.1 dX4_apart_16 rfl (lv_at hl 1 rfl) ?_
      refine lv_iload C.1 C.2.1 dX4_apart_17 (lv_at hl 4 rfl) ?_
      obtain ⟨v_1, hv_1, hf⟩ := bnd hf
      refine g_ci0e (rest := []) hw (g_run0 (rm := ({ frames := 0, cells := 0, slots := 0, locals := 0 } : Room)) (As := [.int x1, .int x4]) (rest := []) C F_X4_is (ctX4_is l x1 x4 hv_1) km_X4_61 rfl hl.1 rfl (Nat.le_of_ble_eq_true rfl) ⟨(Nat.le_of_ble_eq_true rfl), (Nat.le_of_ble_eq_true rfl)⟩ ⟨(Nat.le_of_ble_eq_true rfl), (Nat.le_of_ble_eq_true rfl)⟩ dX4_apart_19) (fun H locs hw => ?_)
      refine lv_if_eq (tgt := 53) C.1 C.2.1 dX4_apart_22 (by decide) (fun hc => ?_) (fun hc => ?_)
      · have hf := ift hc hf
        obtain ⟨x4_2, hx4_2, hf⟩ := bnd hf
        refine lv_iinc (v := x4_2) (lv' := [(4, .int x4_2), (0, .ref (q 0)), (1, .int x1), (2, .int x2), (3, .int x3)]) C.1 C.2.1 dX4_apart_53 hl (k := 4) rfl (inc1 hx4_2) (by decide) rfl (fun ls hl => ?_)
        refine lv_goto (tgt := 7) C.1 C.2.1 dX4_apart_56 (by decide) ?_
        exact ih x2 x3 x4_2 hf _ _ _ hw (lv_sub hl [1, 2, 3, 4, 0] rfl)
      · have hf := iff_ hc hf
        refine lv_aload_n C.1 C.2.1 dX4_apart_25 rfl (lv_at hl 0 rfl) ?_
        refine g_get C E hw inW4 0 rfl rfl 12 (by decide) kf_X4_31 rfl dX4_apart_26 ?_
        refine lv_iload C.1 C.2.1 dX4_apart_29 (lv_at hl 4 rfl) ?_
        obtain ⟨v_3, hv_3, hf⟩ := bnd hf
        refine g_ald C E hw 8 rfl (ld_some hv_3) dX4_apart_31 ?_
        refine lv_iload_n C.1 C.2.1 dX4_apart_32 rfl (lv_at hl 2 rfl) ?_
        refine lv_iand C.1 C.2.1 dX4_apart_33 ?_
        refine lv_if_eq (tgt := 40) C.1 C.2.1 dX4_apart_34 (by decide) (fun hc => ?_) (fun hc => ?_)
        · have hf := ift hc hf
          refine lv_iload_n C.1 C.2.1 dX4_apart_40 rfl (lv_at hl 2 rfl) ?_
          refine lv_aload_n C.1 C.2.1 dX4_apart_41 rfl (lv_at hl 0 rfl) ?_
          refine g_get C E hw inW4 0 rfl rfl 12 (by decide) kf_X4_31 rfl dX4_apart_42 ?_
          refine lv_iload C.1 C.2.1 dX4_apart_45 (lv_at hl 4 rfl) ?_
          obtain ⟨v_4, hv_4, hf⟩ := bnd hf
          refine g_ald C E hw 8 rfl (ld_some hv_4) dX4_apart_47 ?_
          refine lv_ior C.1 C.2.1 dX4_apart_48 ?_
          obtain ⟨x2_5, hx2_5, hf⟩ := bnd hf
          refine topi_b hx2_5 ?_
          refine lv_istore_n (lv' := [(2, .int x2_5), (0, .ref (q 0)), (1, .int x1), (3, .int x3), (4, .int x4)]) C.1 C.2.1 dX4_apart_49 rfl hl (by decide) rfl (fun ls hl => ?_)
          obtain ⟨x3_6, hx3_6, hf⟩ := bnd hf
          refine lv_iinc (v := x3_6) (lv' := [(3, .int x3_6), (2, .int x2_5), (0, .ref (q 0)), (1, .int x1), (4, .int x4)]) C.1 C.2.1 dX4_apart_50 hl (k := 3) rfl (inc1 hx3_6) (by decide) rfl (fun ls hl => ?_)
          obtain ⟨x4_7, hx4_7, hf⟩ := bnd hf
          refine lv_iinc (v := x4_7) (lv' := [(4, .int x4_7), (3, .int x3_6), (2, .int x2_5), (0, .ref (q 0)), (1, .int x1)]) C.1 C.2.1 dX4_apart_53 hl (k := 4) rfl (inc1 hx4_7) (by decide) rfl (fun ls hl => ?_)
          refine lv_goto (tgt := 7) C.1 C.2.1 dX4_apart_56 (by decide) ?_
          exact ih x2_5 x3_6 x4_7 hf _ _ _ hw (lv_sub hl [3, 4, 2, 1, 0] rfl)
        · have hf := iff_ hc hf
          refine lv_goto (tgt := 53) C.1 C.2.1 dX4_apart_37 (by decide) ?_
          obtain ⟨x4_8, hx4_8, hf⟩ := bnd hf
          refine lv_iinc (v := x4_8) (lv' := [(4, .int x4_8), (0, .ref (q 0)), (1, .int x1), (2, .int x2), (3, .int x3)]) C.1 C.2.1 dX4_apart_53 hl (k := 4) rfl (inc1 hx4_8) (by decide) rfl (fun ls hl => ?_)
          refine lv_goto (tgt := 7) C.1 C.2.1 dX4_apart_56 (by decide) ?_
          exact ih x2 x3 x4_8 hf _ _ _ hw (lv_sub hl [1, 2, 3, 4, 0] rfl)
def fX4_apart (S : St) (x1 : Int32) : Option Int32 :=
  fX4_apart_7 S x1 100 0 0 0
set_option maxHeartbeats 4000000 in
set_option maxRecDepth 100000 in
theorem ctX4_apart (l : Launch) {D : va_G} {cI : ClassId} {q : Nat → Nat} (S : St) (x1 : Int32) (sz : Nat) {r1 : Int32} (hf : fX4_apart S x1 = some r1) : Met l yX4_apart (Cond.code yX4_apart cX4_apart 5 (some .int) :: XALL) ({ frames := 1, cells := 0, slots := 0, locals := 21 } : Room) (va_Pc [.ref (q 0), .int x1] (gPre D cI ((mw cI q) S) sz)) (gQi D (mw cI q) S (fun (r : Int32) (u : St) => r = r1 ∧ u = S) sz) 0 0 (va_A ((mw cI q) S) sz) := by
  unfold fX4_apart at hf
  refine Met.ofW (cc := cX4_apart) (maxL := 5) (ret := (some .int)) (by decide) rfl ?_
  intro p e s m args below meth c s₁ B hml hv
  obtain ⟨rfl, hg⟩ := hv
  have C : Ctx p s m _ meth c cX4_apart 5 RX4 (some .int) := Ctx.of B hml rfl
  obtain ⟨E, hw, hsz⟩ := g_start hg
  subst hsz
  have hl := lv_entry ([.ref (q 0), .int x1]) (n := 5) (Nat.le_of_ble_eq_true rfl)
  rw [lg_entry_eq]
  generalize (lg_sl ([.ref (q 0), .int x1]) ++ List.replicate (5 - (lg_sl ([.ref (q 0), .int x1])).length) Slot.unset).toArray = ls at hl ⊢
  have hl : lv_has ls 5 [(0, .ref (q 0)), (1, .int x1)] := hl
  refine lv_iconst (v := 0) C.1 C.2.1 dX4_apart_0 (by decide) ?_
  refine lv_istore_n (lv' := [(2, .int 0), (0, .ref (q 0)), (1, .int x1)]) C.1 C.2.1 dX4_apart_1 rfl hl (by decide) rfl (fun ls hl => ?_)
  refine lv_iconst (v := 0) C.1 C.2.1 dX4_apart_2 (by decide) ?_
  refine lv_istore_n (lv' := [(3, .int 0), (2, .int 0), (0, .ref (q 0)), (1, .int x1)]) C.1 C.2.1 dX4_apart_3 rfl hl (by decide) rfl (fun ls hl => ?_)
  refine lv_iconst (v := 0) C.1 C.2.1 dX4_apart_4 (by decide) ?_
  refine lv_istore (lv' := [(4, .int 0), (3, .int 0), (2, .int 0), (0, .ref (q 0)), (1, .int x1)]) C.1 C.2.1 dX4_apart_5 hl (by decide) rfl (fun ls hl => ?_)
  exact wX4_apart_7 C E S x1 100 0 0 0 hf _ _ _ hw (lv_sub hl [3, 4, 2, 1, 0] rfl)
/-! DreamLedgerModel.covers -/
def fX4_covers_20 (rec : St → Int32 → Int32 → Int32 → Option (Int32 × St)) (x2 : Int32) (x3 : Int32) : Nat → St → Int32 → Option (Int32 × St)
  | 0, _, _ => none
  | n + 1, S, x4 =>
    if (S 11 0) ≤ x4 then
      some (0, S)
    else
      Option.bind (ld S 8 16 x4) fun v_2 =>
      if (x3 &&& v_2) = 0 then
        Option.bind (some (x4 + 1)) fun x4_10 =>
        fX4_covers_20 rec x2 x3 n S x4_10
      else
        Option.bind (some (up S 15 0 ((S 15 0) ||| ((1 : Int32) <<< (x4 &&& 31))))) fun S_3 =>
        Option.bind (ld S_3 8 16 x4) fun v_4 =>
        Option.bind (rec S_3 (x4 + 1) (x2 - 1) (x3 &&& (v_4 ^^^ (-1)))) fun u_7 => pr u_7 fun v_5 S_6 =>
        if v_5 = 0 then
          Option.bind (some (up S_6 15 0 ((S_6 15 0) &&& (((1 : Int32) <<< (x4 &&& 31)) ^^^ (-1))))) fun S_8 =>
          Option.bind (some (x4 + 1)) fun x4_9 =>
          fX4_covers_20 rec x2 x3 n S_8 x4_9
        else
          some (1, S_6)
set_option maxHeartbeats 4000000 in
set_option maxRecDepth 100000 in
theorem wX4_covers_20 {p : Program} {l : Launch} {e : Env} {s : State} {m : MethodId} {args : Array Value} {below : List Frame} {meth : Method} {c : Code} {D : va_G} {cI : ClassId} {q : Nat → Nat} (C : Ctx p s m args meth c cX4_covers 5 RX4 (some .boolean)) (E : gE D cI s) {S0 : St} {r1 : Int32} {S1 : St} {n0 : Nat} (rec : St → Int32 → Int32 → Int32 → Option (Int32 × St)) (hrec : ∀ (S : St) (x1 : Int32) (x2 : Int32) (x3 : Int32) (sz : Nat) {r1 : Int32} {S1 : St}, rec S x1 x2 x3 = some (r1, S1) → Met l yX4_covers (Cond.code yX4_covers cX4_covers 5 (some .boolean) :: XALL) ({ frames := n0 + 2, cells := 0, slots := 0, locals := n0 * 40 + 45 } : Room) (va_Pc [.ref (q 0), .int x1, .int x2, .int x3] (gPre D cI ((mw cI q) S) sz)) (gQi D (mw cI q) S (fun (r : Int32) (u : St) => r = r1 ∧ u = S1) sz) 0 0 (va_A ((mw cI q) S) sz)) (x2 : Int32) (x3 : Int32) : ∀ (n : Nat) (S : St) (x4 : Int32), fX4_covers_20 rec x2 x3 n S x4 = some (r1, S1) → ∀ (H : Heap) (locs : List Loc) (ls : Array Slot), gW D ((mw cI q) S0) ((mw cI q) S) s H locs → lv_has ls 5 [(0, .ref (q 0)), (2, .int x2), (3, .int x3), (4, .int x4)] → W p l e ({ frames := (n0 + 1) + 2, cells := 0, slots := 0, locals := (n0 + 1) * 40 + 45 } : Room) s m args below meth c H locs 0 0 (MQ below (gQi D (mw cI q) S0 (fun (r : Int32) (u : St) => r = r1 ∧ u = S1) s.heap.size) args s 0 0 (va_A ((mw cI q) S0) s.heap.size)) (F0 m 20 ls []) := by
  intro n
  induction n with
  | zero => intro S x4 hf; rw [fX4_covers_20] at hf; cases hf
  | succ n ih =>
    intro S x4 hf H locs ls hw hl
    rw [fX4_covers_20] at hf
    refine lv_iload C.1 C.2.1 dX4_covers_20 (lv_at hl 3 rfl) ?_
    refine lv_aload_n C.1 C.2.1 dX4_covers_22 rfl (lv_at hl 0 rfl) ?_
    refine g_get C E hw inW4 0 rfl rfl 1 (by decide) kf_X4_44 rfl dX4_covers_23 ?_
    refine lv_icmp_ge (tgt := 105) C.1 C.2.1 dX4_covers_26 (by decide) (fun hc => ?_) (fun hc => ?_)
    · have hf := ift hc hf
      refine lv_iconst (v := 0) C.1 C.2.1 dX4_covers_105 (by decide) ?_
      exact g_zret C hw (Nat.le_of_ble_eq_true rfl) (Nat.le_of_ble_eq_true rfl) (Or.inl rfl) ⟨congrArg Prod.fst (Option.some.inj hf), congrArg Prod.snd (Option.some.inj hf)⟩ dX4_covers_106
    · have hf := iff_ hc hf
      refine lv_iload_n C.1 C.2.1 dX4_covers_29 rfl (lv_at hl 2 rfl) ?_
      refine lv_aload_n C.1 C.2.1 dX4_covers_30 rfl (lv_at hl 0 rfl) ?_
      refine g_get C E hw inW4 0 rfl rfl 13 (by decide) kf_X4_34 rfl dX4_covers_31 ?_
      refine lv_iload C.1 C.2.1 dX4_covers_34 (lv_at hl 3 rfl) ?_
      obtain ⟨v_2, hv_2, hf⟩ := bnd hf
      refine g_ald C E hw 9 rfl (ld_some hv_2) dX4_covers_36 ?_
      refine lv_iand C.1 C.2.1 dX4_covers_37 ?_
      refine lv_if_ne (tgt := 44) C.1 C.2.1 dX4_covers_38 (by decide) (fun hc => ?_) (fun hc => ?_)
      · have hf := iff_ hc hf
        refine lv_aload_n C.1 C.2.1 dX4_covers_44 rfl (lv_at hl 0 rfl) ?_
        refine lv_dup C.1 C.2.1 dX4_covers_45 rfl ?_
        refine g_get C E hw inW4 0 rfl rfl 15 (by decide) kf_X4_127 rfl dX4_covers_46 ?_
        refine lv_iconst (v := 1) C.1 C.2.1 dX4_covers_49 (by decide) ?_
        refine lv_iload C.1 C.2.1 dX4_covers_50 (lv_at hl 3 rfl) ?_
        refine lv_ishl C.1 C.2.1 dX4_covers_52 ?_
        refine lv_ior C.1 C.2.1 dX4_covers_53 ?_
        obtain ⟨S_3, hS_3, hf⟩ := bnd hf
        refine g_put C E hw inW4 tyX4 tyX4_ok nmX4 0 rfl rfl 15 (by decide) kf_X4_127 rfl (by decide +kernel) (Nat.le_of_ble_eq_true rfl) (ws' := (mw cI q) S_3) (by rw [← Option.some.inj hS_3]; rfl) dX4_covers_54 (fun H locs hw => ?_)
        refine lv_aload_n C.1 C.2.1 dX4_covers_57 rfl (lv_at hl 0 rfl) ?_
        refine lv_iload C.1 C.2.1 dX4_covers_58 (lv_at hl 3 rfl) ?_
        refine lv_iconst (v := 1) C.1 C.2.1 dX4_covers_60 (by decide) ?_
        refine lv_iadd C.1 C.2.1 dX4_covers_61 ?_
        refine lv_iload_n C.1 C.2.1 dX4_covers_62 rfl (lv_at hl 1 rfl) ?_
        refine lv_iconst (v := 1) C.1 C.2.1 dX4_covers_63 (by decide) ?_
        refine lv_isub C.1 C.2.1 dX4_covers_64 ?_
        refine lv_iload_n C.1 C.2.1 dX4_covers_65 rfl (lv_at hl 2 rfl) ?_
        refine lv_aload_n C.1 C.2.1 dX4_covers_66 rfl (lv_at hl 0 rfl) ?_
        refine g_get C E hw inW4 0 rfl rfl 13 (by decide) kf_X4_34 rfl dX4_covers_67 ?_
        refine lv_iload C.1 C.2.1 dX4_covers_70 (lv_at hl 3 rfl) ?_
        obtain ⟨v_4, hv_4, hf⟩ := bnd hf
        refine g_ald C E hw 9 rfl (ld_some hv_4) dX4_covers_72 ?_
        refine lv_iconst (v := (-1)) C.1 C.2.1 dX4_covers_73 (by decide) ?_
        refine lv_ixor C.1 C.2.1 dX4_covers_74 ?_
        refine lv_iand C.1 C.2.1 dX4_covers_75 ?_
        obtain ⟨⟨v_5, S_6⟩, hu_7, hf⟩ := bnd hf
        have hf := pr_r hf
        refine g_cie (wf := (mw cI q)) (S := S_3) (rest := []) mw_adr hw (g_runV (rm := ({ frames := n0 + 2, cells := 0, slots := 0, locals := n0 * 40 + 45 } : Room)) (As := [.int (x4 + 1), .int (x2 - 1), .int (x3 &&& (v_4 ^^^ (-1)))]) (rest := []) C E hw F_X4_covers (hrec S_3 (x4 + 1) (x2 - 1) (x3 &&& (v_4 ^^^ (-1))) _ hu_7) km_X4_130 0 rfl rfl rfl hl.1 rfl (Nat.le_of_ble_eq_true rfl) ⟨by (try dsimp only [headSpec]); omega, by (try dsimp only [headSpec]); omega⟩ ⟨(Nat.le_of_ble_eq_true rfl), (Nat.le_of_ble_eq_true rfl)⟩ dX4_covers_76) (fun H locs hw => ?_)
        refine lv_if_eq (tgt := 84) C.1 C.2.1 dX4_covers_79 (by decide) (fun hc => ?_) (fun hc => ?_)
        · have hf := ift hc hf
          refine lv_aload_n C.1 C.2.1 dX4_covers_84 rfl (lv_at hl 0 rfl) ?_
          refine lv_dup C.1 C.2.1 dX4_covers_85 rfl ?_
          refine g_get C E hw inW4 0 rfl rfl 15 (by decide) kf_X4_127 rfl dX4_covers_86 ?_
          refine lv_iconst (v := 1) C.1 C.2.1 dX4_covers_89 (by decide) ?_
          refine lv_iload C.1 C.2.1 dX4_covers_90 (lv_at hl 3 rfl) ?_
          refine lv_ishl C.1 C.2.1 dX4_covers_92 ?_
          refine lv_iconst (v := (-1)) C.1 C.2.1 dX4_covers_93 (by decide) ?_
          refine lv_ixor C.1 C.2.1 dX4_covers_94 ?_
          refine lv_iand C.1 C.2.1 dX4_covers_95 ?_
          obtain ⟨S_8, hS_8, hf⟩ := bnd hf
          refine g_put C E hw inW4 tyX4 tyX4_ok nmX4 0 rfl rfl 15 (by decide) kf_X4_127 rfl (by decide +kernel) (Nat.le_of_ble_eq_true rfl) (ws' := (mw cI q) S_8) (by rw [← Option.some.inj hS_8]; rfl) dX4_covers_96 (fun H locs hw => ?_)
          obtain ⟨x4_9, hx4_9, hf⟩ := bnd hf
          refine lv_iinc (v := x4_9) (lv' := [(4, .int x4_9), (0, .ref (q 0)), (2, .int x2), (3, .int x3)]) C.1 C.2.1 dX4_covers_99 hl (k := 3) rfl (inc1 hx4_9) (by decide) rfl (fun ls hl => ?_)
          refine lv_goto (tgt := 20) C.1 C.2.1 dX4_covers_102 (by decide) ?_
          exact ih S_8 x4_9 hf _ _ _ hw (lv_sub hl [1, 2, 3, 0] rfl)
        · have hf := iff_ hc hf
          refine lv_iconst (v := 1) C.1 C.2.1 dX4_covers_82 (by decide) ?_
          exact g_zret C hw (Nat.le_of_ble_eq_true rfl) (Nat.le_of_ble_eq_true rfl) (Or.inr rfl) ⟨congrArg Prod.fst (Option.some.inj hf), congrArg Prod.snd (Option.some.inj hf)⟩ dX4_covers_83
      · have hf := ift hc hf
        refine lv_goto (tgt := 99) C.1 C.2.1 dX4_covers_41 (by decide) ?_
        obtain ⟨x4_10, hx4_10, hf⟩ := bnd hf
        refine lv_iinc (v := x4_10) (lv' := [(4, .int x4_10), (0, .ref (q 0)), (2, .int x2), (3, .int x3)]) C.1 C.2.1 dX4_covers_99 hl (k := 3) rfl (inc1 hx4_10) (by decide) rfl (fun ls hl => ?_)
        refine lv_goto (tgt := 20) C.1 C.2.1 dX4_covers_102 (by decide) ?_
        exact ih S x4_10 hf _ _ _ hw (lv_sub hl [1, 2, 3, 0] rfl)
def fX4_covers : Nat → St → Int32 → Int32 → Int32 → Option (Int32 × St)
  | 0, _, _, _, _ => none
  | n + 1, S, x1, x2, x3 =>
    if x3 = 0 then
      some (1, S)
    else
      Option.bind (fX4_apart S x3) fun v_1 =>
      if v_1 ≤ x2 then
        fX4_covers_20 (fX4_covers n) x2 x3 100 S x1
      else
        some (0, S)
set_option maxHeartbeats 4000000 in
set_option maxRecDepth 100000 in
theorem ctX4_covers (l : Launch) {D : va_G} {cI : ClassId} {q : Nat → Nat} : ∀ (n : Nat) (S : St) (x1 : Int32) (x2 : Int32) (x3 : Int32) (sz : Nat) {r1 : Int32} {S1 : St}, fX4_covers n S x1 x2 x3 = some (r1, S1) → Met l yX4_covers (Cond.code yX4_covers cX4_covers 5 (some .boolean) :: XALL) ({ frames := n + 2, cells := 0, slots := 0, locals := n * 40 + 45 } : Room) (va_Pc [.ref (q 0), .int x1, .int x2, .int x3] (gPre D cI ((mw cI q) S) sz)) (gQi D (mw cI q) S (fun (r : Int32) (u : St) => r = r1 ∧ u = S1) sz) 0 0 (va_A ((mw cI q) S) sz) := by
  intro n
  induction n with
  | zero => intro S x1 x2 x3 sz r1 S1 hf; rw [fX4_covers] at hf; cases hf
  | succ n ih =>
    intro S x1 x2 x3 sz r1 S1 hf
    rw [fX4_covers] at hf
    refine Met.ofW (cc := cX4_covers) (maxL := 5) (ret := (some .boolean)) (by decide) rfl ?_
    intro p e s m args below meth c s₁ B hml hv
    obtain ⟨rfl, hg⟩ := hv
    have C : Ctx p s m _ meth c cX4_covers 5 RX4 (some .boolean) := Ctx.of B hml rfl
    obtain ⟨E, hw, hsz⟩ := g_start hg
    subst hsz
    have hl := lv_entry ([.ref (q 0), .int x1, .int x2, .int x3]) (n := 5) (Nat.le_of_ble_eq_true rfl)
    rw [lg_entry_eq]
    generalize (lg_sl ([.ref (q 0), .int x1, .int x2, .int x3]) ++ List.replicate (5 - (lg_sl ([.ref (q 0), .int x1, .int x2, .int x3])).length) Slot.unset).toArray = ls at hl ⊢
    have hl : lv_has ls 5 [(0, .ref (q 0)), (1, .int x1), (2, .int x2), (3, .int x3)] := hl
    have hrec := @ih
    refine lv_iload_n C.1 C.2.1 dX4_covers_0 rfl (lv_at hl 3 rfl) ?_
    refine lv_if_ne (tgt := 6) C.1 C.2.1 dX4_covers_1 (by decide) (fun hc => ?_) (fun hc => ?_)
    · have hf := iff_ hc hf
      refine lv_aload_n C.1 C.2.1 dX4_covers_6 rfl (lv_at hl 0 rfl) ?_
      refine lv_iload_n C.1 C.2.1 dX4_covers_7 rfl (lv_at hl 3 rfl) ?_
      obtain ⟨v_1, hv_1, hf⟩ := bnd hf
      refine g_cie (wf := (mw cI q)) (S := S) (rest := []) mw_adr hw (g_runV (rm := ({ frames := 1, cells := 0, slots := 0, locals := 21 } : Room)) (As := [.int x3]) (rest := []) C E hw F_X4_apart (ctX4_apart l (cI := cI) (D := D) (q := q) S x3 _ hv_1) km_X4_124 0 rfl rfl rfl hl.1 rfl (Nat.le_of_ble_eq_true rfl) ⟨by (try dsimp only [headSpec]); omega, by (try dsimp only [headSpec]); omega⟩ ⟨(Nat.le_of_ble_eq_true rfl), (Nat.le_of_ble_eq_true rfl)⟩ dX4_covers_8) (fun H locs hw => ?_)
      refine lv_iload_n C.1 C.2.1 dX4_covers_11 rfl (lv_at hl 2 rfl) ?_
      refine lv_icmp_le (tgt := 17) C.1 C.2.1 dX4_covers_12 (by decide) (fun hc => ?_) (fun hc => ?_)
      · have hf := ift hc hf
        refine lv_iload_n C.1 C.2.1 dX4_covers_17 rfl (lv_at hl 1 rfl) ?_
        refine lv_istore (lv' := [(4, .int x1), (0, .ref (q 0)), (1, .int x1), (2, .int x2), (3, .int x3)]) C.1 C.2.1 dX4_covers_18 hl (by decide) rfl (fun ls hl => ?_)
        exact wX4_covers_20 C E (fX4_covers n) hrec x2 x3 100 S x1 hf _ _ _ hw (lv_sub hl [1, 3, 4, 0] rfl)
      · have hf := iff_ hc hf
        refine lv_iconst (v := 0) C.1 C.2.1 dX4_covers_15 (by decide) ?_
        exact g_zret C hw (Nat.le_of_ble_eq_true rfl) (Nat.le_of_ble_eq_true rfl) (Or.inl rfl) ⟨congrArg Prod.fst (Option.some.inj hf), congrArg Prod.snd (Option.some.inj hf)⟩ dX4_covers_16
    · have hf := ift hc hf
      refine lv_iconst (v := 1) C.1 C.2.1 dX4_covers_4 (by decide) ?_
      exact g_zret C hw (Nat.le_of_ble_eq_true rfl) (Nat.le_of_ble_eq_true rfl) (Or.inr rfl) ⟨congrArg Prod.fst (Option.some.inj hf), congrArg Prod.snd (Option.some.inj hf)⟩ dX4_covers_5
/-! DreamLedgerModel.cover -/
def fX4_cover_7 (x1 : Int32) : Nat → St → Int32 → Option (Int32 × St)
  | 0, _, _ => none
  | n + 1, S, x2 =>
    Option.bind (fX4_covers 20 S 0 x2 x1) fun u_4 => pr u_4 fun v_2 S_3 =>
    if v_2 = 0 then
      Option.bind (some (x2 + 1)) fun x2_5 =>
      fX4_cover_7 x1 n S_3 x2_5
    else
      some ((S_3 15 0), S_3)
set_option maxHeartbeats 4000000 in
set_option maxRecDepth 100000 in
theorem wX4_cover_7 {p : Program} {l : Launch} {e : Env} {s : State} {m : MethodId} {args : Array Value} {below : List Frame} {meth : Method} {c : Code} {D : va_G} {cI : ClassId} {q : Nat → Nat} (C : Ctx p s m args meth c cX4_cover 3 RX4 (some .int)) (E : gE D cI s) {S0 : St} {r1 : Int32} {S1 : St} (x1 : Int32) : ∀ (n : Nat) (S : St) (x2 : Int32), fX4_cover_7 x1 n S x2 = some (r1, S1) → ∀ (H : Heap) (locs : List Loc) (ls : Array Slot), gW D ((mw cI q) S0) ((mw cI q) S) s H locs → lv_has ls 3 [(0, .ref (q 0)), (1, .int x1), (2, .int x2)] → W p l e ({ frames := 23, cells := 0, slots := 0, locals := 869 } : Room) s m args below meth c H locs 0 0 (MQ below (gQi D (mw cI q) S0 (fun (r : Int32) (u : St) => r = r1 ∧ u = S1) s.heap.size) args s 0 0 (va_A ((mw cI q) S0) s.heap.size)) (F0 m 7 ls []) := by
  intro n
  induction n with
  | zero => intro S x2 hf; rw [fX4_cover_7] at hf; cases hf
  | succ n ih =>
    intro S x2 hf H locs ls hw hl
    rw [fX4_cover_7] at hf
    refine lv_aload_n C.1 C.2.1 dX4_cover_7 rfl (lv_at hl 0 rfl) ?_
    refine lv_iconst (v := 0) C.1 C.2.1 dX4_cover_8 (by decide) ?_
    refine lv_iload_n C.1 C.2.1 dX4_cover_9 rfl (lv_at hl 2 rfl) ?_
    refine lv_iload_n C.1 C.2.1 dX4_cover_10 rfl (lv_at hl 1 rfl) ?_
    obtain ⟨⟨v_2, S_3⟩, hu_4, hf⟩ := bnd hf
    have hf := pr_r hf
    refine g_cie (wf := (mw cI q)) (S := S) (rest := []) mw_adr hw (g_runV (rm := ({ frames := 20 + 2, cells := 0, slots := 0, locals := 20 * 40 + 45 } : Room)) (As := [.int 0, .int x2, .int x1]) (rest := []) C E hw F_X4_covers (ctX4_covers l (cI := cI) (D := D) (q := q) 20 S 0 x2 x1 _ hu_4) km_X4_130 0 rfl rfl rfl hl.1 rfl (Nat.le_of_ble_eq_true rfl) ⟨(Nat.le_of_ble_eq_true rfl), (Nat.le_of_ble_eq_true rfl)⟩ ⟨(Nat.le_of_ble_eq_true rfl), (Nat.le_of_ble_eq_true rfl)⟩ dX4_cover_11) (fun H locs hw => ?_)
    refine lv_if_ne (tgt := 23) C.1 C.2.1 dX4_cover_14 (by decide) (fun hc => ?_) (fun hc => ?_)
    · have hf := iff_ hc hf
      refine lv_aload_n C.1 C.2.1 dX4_cover_23 rfl (lv_at hl 0 rfl) ?_
      refine g_get C E hw inW4 0 rfl rfl 15 (by decide) kf_X4_127 rfl dX4_cover_24 ?_
      exact g_iret C hw (Nat.le_of_ble_eq_true rfl) (Nat.le_of_ble_eq_true rfl) ⟨congrArg Prod.fst (Option.some.inj hf), congrArg Prod.snd (Option.some.inj hf)⟩ dX4_cover_27
    · have hf := ift hc hf
      obtain ⟨x2_5, hx2_5, hf⟩ := bnd hf
      refine lv_iinc (v := x2_5) (lv' := [(2, .int x2_5), (0, .ref (q 0)), (1, .int x1)]) C.1 C.2.1 dX4_cover_17 hl (k := 2) rfl (inc1 hx2_5) (by decide) rfl (fun ls hl => ?_)
      refine lv_goto (tgt := 7) C.1 C.2.1 dX4_cover_20 (by decide) ?_
      exact ih S_3 x2_5 hf _ _ _ hw (lv_sub hl [1, 2, 0] rfl)
def fX4_cover (S : St) (x1 : Int32) : Option (Int32 × St) :=
  Option.bind (some (up S 15 0 0)) fun S_1 =>
  fX4_cover_7 x1 100 S_1 0
set_option maxHeartbeats 4000000 in
set_option maxRecDepth 100000 in
theorem ctX4_cover (l : Launch) {D : va_G} {cI : ClassId} {q : Nat → Nat} (S : St) (x1 : Int32) (sz : Nat) {r1 : Int32} {S1 : St} (hf : fX4_cover S x1 = some (r1, S1)) : Met l yX4_cover (Cond.code yX4_cover cX4_cover 3 (some .int) :: XALL) ({ frames := 23, cells := 0, slots := 0, locals := 869 } : Room) (va_Pc [.ref (q 0), .int x1] (gPre D cI ((mw cI q) S) sz)) (gQi D (mw cI q) S (fun (r : Int32) (u : St) => r = r1 ∧ u = S1) sz) 0 0 (va_A ((mw cI q) S) sz) := by
  unfold fX4_cover at hf
  refine Met.ofW (cc := cX4_cover) (maxL := 3) (ret := (some .int)) (by decide) rfl ?_
  intro p e s m args below meth c s₁ B hml hv
  obtain ⟨rfl, hg⟩ := hv
  have C : Ctx p s m _ meth c cX4_cover 3 RX4 (some .int) := Ctx.of B hml rfl
  obtain ⟨E, hw, hsz⟩ := g_start hg
  subst hsz
  have hl := lv_entry ([.ref (q 0), .int x1]) (n := 3) (Nat.le_of_ble_eq_true rfl)
  rw [lg_entry_eq]
  generalize (lg_sl ([.ref (q 0), .int x1]) ++ List.replicate (3 - (lg_sl ([.ref (q 0), .int x1])).length) Slot.unset).toArray = ls at hl ⊢
  have hl : lv_has ls 3 [(0, .ref (q 0)), (1, .int x1)] := hl
  refine lv_iconst (v := 0) C.1 C.2.1 dX4_cover_0 (by decide) ?_
  refine lv_istore_n (lv' := [(2, .int 0), (0, .ref (q 0)), (1, .int x1)]) C.1 C.2.1 dX4_cover_1 rfl hl (by decide) rfl (fun ls hl => ?_)
  refine lv_aload_n C.1 C.2.1 dX4_cover_2 rfl (lv_at hl 1 rfl) ?_
  refine lv_iconst (v := 0) C.1 C.2.1 dX4_cover_3 (by decide) ?_
  obtain ⟨S_1, hS_1, hf⟩ := bnd hf
  refine g_put C E hw inW4 tyX4 tyX4_ok nmX4 0 rfl rfl 15 (by decide) kf_X4_127 rfl (by decide +kernel) (Nat.le_of_ble_eq_true rfl) (ws' := (mw cI q) S_1) (by rw [← Option.some.inj hS_1]; rfl) dX4_cover_4 (fun H locs hw => ?_)
  exact wX4_cover_7 C E x1 100 S_1 0 hf _ _ _ hw (lv_sub hl [1, 2, 0] rfl)
/-! DreamLedgerModel.coverSize -/
def fX4_coverSize (S : St) (x1 : Int32) : Option (Int32 × St) :=
  Option.bind (some (up S 10 0 0)) fun S_1 =>
  Option.bind (fX4_isTerm S_1 x1) fun v_2 =>
  if v_2 = 0 then
    Option.bind (fX4_fail S_1 1) fun u_11 => pr u_11 fun v_9 S_10 =>
    some (v_9, S_10)
  else
    Option.bind (fX4_reckon S_1) fun S_3 =>
    Option.bind (ld S_3 9 20 x1) fun v_4 =>
    Option.bind (fX4_cover S_3 v_4) fun u_7 => pr u_7 fun v_5 S_6 =>
    Option.bind (fX4_many v_5) fun v_8 =>
    some (v_8, S_6)
set_option maxHeartbeats 4000000 in
set_option maxRecDepth 100000 in
theorem ctX4_coverSize (l : Launch) {D : va_G} {cI : ClassId} {q : Nat → Nat} (S : St) (x1 : Int32) (sz : Nat) {r1 : Int32} {S1 : St} (hf : fX4_coverSize S x1 = some (r1, S1)) : Met l yX4_coverSize (Cond.code yX4_coverSize cX4_coverSize 2 (some .int) :: XALL) ({ frames := 24, cells := 0, slots := 0, locals := 891 } : Room) (va_Pc [.ref (q 0), .int x1] (gPre D cI ((mw cI q) S) sz)) (gQi D (mw cI q) S (fun (r : Int32) (u : St) => r = r1 ∧ u = S1) sz) 0 0 (va_A ((mw cI q) S) sz) := by
  unfold fX4_coverSize at hf
  refine Met.ofW (cc := cX4_coverSize) (maxL := 2) (ret := (some .int)) (by decide) rfl ?_
  intro p e s m args below meth c s₁ B hml hv
  obtain ⟨rfl, hg⟩ := hv
  have C : Ctx p s m _ meth c cX4_coverSize 2 RX4 (some .int) := Ctx.of B hml rfl
  obtain ⟨E, hw, hsz⟩ := g_start hg
  subst hsz
  have hl := lv_entry ([.ref (q 0), .int x1]) (n := 2) (Nat.le_of_ble_eq_true rfl)
  rw [lg_entry_eq]
  generalize (lg_sl ([.ref (q 0), .int x1]) ++ List.replicate (2 - (lg_sl ([.ref (q 0), .int x1])).length) Slot.unset).toArray = ls at hl ⊢
  have hl : lv_has ls 2 [(0, .ref (q 0)), (1, .int x1)] := hl
  refine lv_aload_n C.1 C.2.1 dX4_coverSize_0 rfl (lv_at hl 0 rfl) ?_
  refine lv_iconst (v := 0) C.1 C.2.1 dX4_coverSize_1 (by decide) ?_
  obtain ⟨S_1, hS_1, hf⟩ := bnd hf
  refine g_put C E hw inW4 tyX4 tyX4_ok nmX4 0 rfl rfl 0 (by decide) kf_X4_40 rfl (by decide +kernel) (Nat.le_of_ble_eq_true rfl) (ws' := (mw cI q) S_1) (by rw [← Option.some.inj hS_1]; rfl) dX4_coverSize_2 (fun H locs hw => ?_)
  refine lv_aload_n C.1 C.2.1 dX4_coverSize_5 rfl (lv_at hl 0 rfl) ?_
  refine lv_iload_n C.1 C.2.1 dX4_coverSize_6 rfl (lv_at hl 1 rfl) ?_
  obtain ⟨v_2, hv_2, hf⟩ := bnd hf
  refine g_cie (wf := (mw cI q)) (S := S_1) (rest := []) mw_adr hw (g_runV (rm := ({ frames := 1, cells := 0, slots := 0, locals := 22 } : Room)) (As := [.int x1]) (rest := []) C E hw F_X4_isTerm (ctX4_isTerm l (cI := cI) (D := D) (q := q) S_1 x1 _ hv_2) km_X4_106 0 rfl rfl rfl hl.1 rfl (Nat.le_of_ble_eq_true rfl) ⟨(Nat.le_of_ble_eq_true rfl), (Nat.le_of_ble_eq_true rfl)⟩ ⟨(Nat.le_of_ble_eq_true rfl), (Nat.le_of_ble_eq_true rfl)⟩ dX4_coverSize_7) (fun H locs hw => ?_)
  refine lv_if_ne (tgt := 19) C.1 C.2.1 dX4_coverSize_10 (by decide) (fun hc => ?_) (fun hc => ?_)
  · have hf := iff_ hc hf
    refine lv_aload_n C.1 C.2.1 dX4_coverSize_19 rfl (lv_at hl 0 rfl) ?_
    obtain ⟨S_3, hS_3, hf⟩ := bnd hf
    refine g_cve (wf := (mw cI q)) (S := S_1) (rest := []) mw_adr hw (g_runV (rm := ({ frames := 1, cells := 0, slots := 0, locals := 23 } : Room)) (As := []) (rest := []) C E hw F_X4_reckon (ctX4_reckon l (cI := cI) (D := D) (q := q) S_1  _ hS_3) km_X4_115 0 rfl rfl rfl hl.1 rfl (Nat.le_of_ble_eq_true rfl) ⟨(Nat.le_of_ble_eq_true rfl), (Nat.le_of_ble_eq_true rfl)⟩ ⟨(Nat.le_of_ble_eq_true rfl), (Nat.le_of_ble_eq_true rfl)⟩ dX4_coverSize_20) (fun H locs hw => ?_)
    refine lv_aload_n C.1 C.2.1 dX4_coverSize_23 rfl (lv_at hl 0 rfl) ?_
    refine lv_aload_n C.1 C.2.1 dX4_coverSize_24 rfl (lv_at hl 0 rfl) ?_
    refine g_get C E hw inW4 0 rfl rfl 14 (by decide) kf_X4_37 rfl dX4_coverSize_25 ?_
    refine lv_iload_n C.1 C.2.1 dX4_coverSize_28 rfl (lv_at hl 1 rfl) ?_
    obtain ⟨v_4, hv_4, hf⟩ := bnd hf
    refine g_ald C E hw 10 rfl (ld_some hv_4) dX4_coverSize_29 ?_
    obtain ⟨⟨v_5, S_6⟩, hu_7, hf⟩ := bnd hf
    have hf := pr_r hf
    refine g_cie (wf := (mw cI q)) (S := S_3) (rest := []) mw_adr hw (g_runV (rm := ({ frames := 23, cells := 0, slots := 0, locals := 869 } : Room)) (As := [.int v_4]) (rest := []) C E hw F_X4_cover (ctX4_cover l (cI := cI) (D := D) (q := q) S_3 v_4 _ hu_7) km_X4_133 0 rfl rfl rfl hl.1 rfl (Nat.le_of_ble_eq_true rfl) ⟨(Nat.le_of_ble_eq_true rfl), (Nat.le_of_ble_eq_true rfl)⟩ ⟨(Nat.le_of_ble_eq_true rfl), (Nat.le_of_ble_eq_true rfl)⟩ dX4_coverSize_30) (fun H locs hw => ?_)
    obtain ⟨v_8, hv_8, hf⟩ := bnd hf
    refine g_ci0e (rest := []) hw (g_run0 (rm := ({ frames := 0, cells := 0, slots := 0, locals := 0 } : Room)) (As := [.int v_5]) (rest := []) C F_X4_many (ctX4_many l v_5 hv_8) km_X4_78 rfl hl.1 rfl (Nat.le_of_ble_eq_true rfl) ⟨(Nat.le_of_ble_eq_true rfl), (Nat.le_of_ble_eq_true rfl)⟩ ⟨(Nat.le_of_ble_eq_true rfl), (Nat.le_of_ble_eq_true rfl)⟩ dX4_coverSize_33) (fun H locs hw => ?_)
    exact g_iret C hw (Nat.le_of_ble_eq_true rfl) (Nat.le_of_ble_eq_true rfl) ⟨congrArg Prod.fst (Option.some.inj hf), congrArg Prod.snd (Option.some.inj hf)⟩ dX4_coverSize_36
  · have hf := ift hc hf
    refine lv_aload_n C.1 C.2.1 dX4_coverSize_13 rfl (lv_at hl 0 rfl) ?_
    refine lv_iconst (v := 1) C.1 C.2.1 dX4_coverSize_14 (by decide) ?_
    obtain ⟨⟨v_9, S_10⟩, hu_11, hf⟩ := bnd hf
    have hf := pr_r hf
    refine g_cie (wf := (mw cI q)) (S := S_1) (rest := []) mw_adr hw (g_runV (rm := ({ frames := 0, cells := 0, slots := 0, locals := 0 } : Room)) (As := [.int 1]) (rest := []) C E hw F_X4_fail (ctX4_fail l (cI := cI) (D := D) (q := q) S_1 1 _ hu_11) km_X4_68 0 rfl rfl rfl hl.1 rfl (Nat.le_of_ble_eq_true rfl) ⟨(Nat.le_of_ble_eq_true rfl), (Nat.le_of_ble_eq_true rfl)⟩ ⟨(Nat.le_of_ble_eq_true rfl), (Nat.le_of_ble_eq_true rfl)⟩ dX4_coverSize_15) (fun H locs hw => ?_)
    exact g_iret C hw (Nat.le_of_ble_eq_true rfl) (Nat.le_of_ble_eq_true rfl) ⟨congrArg Prod.fst (Option.some.inj hf), congrArg Prod.snd (Option.some.inj hf)⟩ dX4_coverSize_18
/-! DreamLedgerModel.coverTag -/
def fX4_coverTag_78 (x3 : Int32) : Nat → St → Int32 → Option (Int32 × St)
  | 0, _, _ => none
  | n + 1, S, x4 =>
    Option.bind (fX4_is x3 x4) fun v_18 =>
    if v_18 = 0 then
      Option.bind (some (x4 + 1)) fun x4_19 =>
      fX4_coverTag_78 x3 n S x4_19
    else
      some (x4, S)
set_option maxHeartbeats 4000000 in
set_option maxRecDepth 100000 in
theorem wX4_coverTag_78 {p : Program} {l : Launch} {e : Env} {s : State} {m : MethodId} {args : Array Value} {below : List Frame} {meth : Method} {c : Code} {D : va_G} {cI : ClassId} {q : Nat → Nat} (C : Ctx p s m args meth c cX4_coverTag 5 RX4 (some .int)) (E : gE D cI s) {S0 : St} {r1 : Int32} {S1 : St} (x3 : Int32) : ∀ (n : Nat) (S : St) (x4 : Int32), fX4_coverTag_78 x3 n S x4 = some (r1, S1) → ∀ (H : Heap) (locs : List Loc) (ls : Array Slot), gW D ((mw cI q) S0) ((mw cI q) S) s H locs → lv_has ls 5 [(3, .int x3), (4, .int x4)] → W p l e ({ frames := 24, cells := 0, slots := 0, locals := 891 } : Room) s m args below meth c H locs 0 0 (MQ below (gQi D (mw cI q) S0 (fun (r : Int32) (u : St) => r = r1 ∧ u = S1) s.heap.size) args s 0 0 (va_A ((mw cI q) S0) s.heap.size)) (F0 m 78 ls []) := by
  intro n
  induction n with
  | zero => intro S x4 hf; rw [fX4_coverTag_78] at hf; cases hf
  | succ n ih =>
    intro S x4 hf H locs ls hw hl
    rw [fX4_coverTag_78] at hf
    refine lv_iload_n C.1 C.2.1 dX4_coverTag_78 rfl (lv_at hl 0 rfl) ?_
    refine lv_iload C.1 C.2.1 dX4_coverTag_79 (lv_at hl 1 rfl) ?_
    obtain ⟨v_18, hv_18, hf⟩ := bnd hf
    refine g_ci0e (rest := []) hw (g_run0 (rm := ({ frames := 0, cells := 0, slots := 0, locals := 0 } : Room)) (As := [.int x3, .int x4]) (rest := []) C F_X4_is (ctX4_is l x3 x4 hv_18) km_X4_61 rfl hl.1 rfl (Nat.le_of_ble_eq_true rfl) ⟨(Nat.le_of_ble_eq_true rfl), (Nat.le_of_ble_eq_true rfl)⟩ ⟨(Nat.le_of_ble_eq_true rfl), (Nat.le_of_ble_eq_true rfl)⟩ dX4_coverTag_81) (fun H locs hw => ?_)
    refine lv_if_ne (tgt := 93) C.1 C.2.1 dX4_coverTag_84 (by decide) (fun hc => ?_) (fun hc => ?_)
    · have hf := iff_ hc hf
      refine lv_iload C.1 C.2.1 dX4_coverTag_93 (lv_at hl 1 rfl) ?_
      exact g_iret C hw (Nat.le_of_ble_eq_true rfl) (Nat.le_of_ble_eq_true rfl) ⟨congrArg Prod.fst (Option.some.inj hf), congrArg Prod.snd (Option.some.inj hf)⟩ dX4_coverTag_95
    · have hf := ift hc hf
      obtain ⟨x4_19, hx4_19, hf⟩ := bnd hf
      refine lv_iinc (v := x4_19) (lv' := [(4, .int x4_19), (3, .int x3)]) C.1 C.2.1 dX4_coverTag_87 hl (k := 1) rfl (inc1 hx4_19) (by decide) rfl (fun ls hl => ?_)
      refine lv_goto (tgt := 78) C.1 C.2.1 dX4_coverTag_90 (by decide) ?_
      exact ih S x4_19 hf _ _ _ hw (lv_sub hl [1, 0] rfl)
def fX4_coverTag_57 (x2 : Int32) : Nat → St → Int32 → Int32 → Option (Int32 × St)
  | 0, _, _, _ => none
  | n + 1, S, x3, x4 =>
    if x2 ≤ x4 then
      fX4_coverTag_78 x3 100 S 0
    else
      Option.bind (some ((x3 &&& (x3 - 1)))) fun x3_16 =>
      Option.bind (some (x4 + 1)) fun x4_17 =>
      fX4_coverTag_57 x2 n S x3_16 x4_17
set_option maxHeartbeats 4000000 in
set_option maxRecDepth 100000 in
theorem wX4_coverTag_57 {p : Program} {l : Launch} {e : Env} {s : State} {m : MethodId} {args : Array Value} {below : List Frame} {meth : Method} {c : Code} {D : va_G} {cI : ClassId} {q : Nat → Nat} (C : Ctx p s m args meth c cX4_coverTag 5 RX4 (some .int)) (E : gE D cI s) {S0 : St} {r1 : Int32} {S1 : St} (x2 : Int32) : ∀ (n : Nat) (S : St) (x3 : Int32) (x4 : Int32), fX4_coverTag_57 x2 n S x3 x4 = some (r1, S1) → ∀ (H : Heap) (locs : List Loc) (ls : Array Slot), gW D ((mw cI q) S0) ((mw cI q) S) s H locs → lv_has ls 5 [(2, .int x2), (3, .int x3), (4, .int x4)] → W p l e ({ frames := 24, cells := 0, slots := 0, locals := 891 } : Room) s m args below meth c H locs 0 0 (MQ below (gQi D (mw cI q) S0 (fun (r : Int32) (u : St) => r = r1 ∧ u = S1) s.heap.size) args s 0 0 (va_A ((mw cI q) S0) s.heap.size)) (F0 m 57 ls []) := by
  intro n
  induction n with
  | zero => intro S x3 x4 hf; rw [fX4_coverTag_57] at hf; cases hf
  | succ n ih =>
    intro S x3 x4 hf H locs ls hw hl
    rw [fX4_coverTag_57] at hf
    refine lv_iload C.1 C.2.1 dX4_coverTag_57 (lv_at hl 2 rfl) ?_
    refine lv_iload_n C.1 C.2.1 dX4_coverTag_59 rfl (lv_at hl 0 rfl) ?_
    refine lv_icmp_ge (tgt := 75) C.1 C.2.1 dX4_coverTag_60 (by decide) (fun hc => ?_) (fun hc => ?_)
    · have hf := ift hc hf
      refine lv_iconst (v := 0) C.1 C.2.1 dX4_coverTag_75 (by decide) ?_
      refine lv_istore (lv' := [(4, .int 0), (2, .int x2), (3, .int x3)]) C.1 C.2.1 dX4_coverTag_76 hl (by decide) rfl (fun ls hl => ?_)
      exact wX4_coverTag_78 C E x3 100 S 0 hf _ _ _ hw (lv_sub hl [2, 0] rfl)
    · have hf := iff_ hc hf
      refine lv_iload_n C.1 C.2.1 dX4_coverTag_63 rfl (lv_at hl 1 rfl) ?_
      refine lv_iload_n C.1 C.2.1 dX4_coverTag_64 rfl (lv_at hl 1 rfl) ?_
      refine lv_iconst (v := 1) C.1 C.2.1 dX4_coverTag_65 (by decide) ?_
      refine lv_isub C.1 C.2.1 dX4_coverTag_66 ?_
      refine lv_iand C.1 C.2.1 dX4_coverTag_67 ?_
      obtain ⟨x3_16, hx3_16, hf⟩ := bnd hf
      refine topi_b hx3_16 ?_
      refine lv_istore_n (lv' := [(3, .int x3_16), (2, .int x2), (4, .int x4)]) C.1 C.2.1 dX4_coverTag_68 rfl hl (by decide) rfl (fun ls hl => ?_)
      obtain ⟨x4_17, hx4_17, hf⟩ := bnd hf
      refine lv_iinc (v := x4_17) (lv' := [(4, .int x4_17), (3, .int x3_16), (2, .int x2)]) C.1 C.2.1 dX4_coverTag_69 hl (k := 2) rfl (inc1 hx4_17) (by decide) rfl (fun ls hl => ?_)
      refine lv_goto (tgt := 57) C.1 C.2.1 dX4_coverTag_72 (by decide) ?_
      exact ih S x3_16 x4_17 hf _ _ _ hw (lv_sub hl [2, 1, 0] rfl)
def fX4_coverTag (S : St) (x1 : Int32) (x2 : Int32) : Option (Int32 × St) :=
  Option.bind (some (up S 10 0 0)) fun S_1 =>
  Option.bind (fX4_isTerm S_1 x1) fun v_2 =>
  if v_2 = 0 then
    Option.bind (fX4_fail S_1 1) fun u_15 => pr u_15 fun v_13 S_14 =>
    some (v_13, S_14)
  else
    Option.bind (fX4_reckon S_1) fun S_3 =>
    Option.bind (ld S_3 9 20 x1) fun v_4 =>
    Option.bind (fX4_cover S_3 v_4) fun u_7 => pr u_7 fun v_5 S_6 =>
    Option.bind (fX4_many v_5) fun v_8 =>
    Option.bind (fX4_isIn x2 0 (v_8 - 1)) fun v_9 =>
    if v_9 = 0 then
      Option.bind (fX4_fail S_6 1) fun u_12 => pr u_12 fun v_10 S_11 =>
      some (v_10, S_11)
    else
      fX4_coverTag_57 x2 100 S_6 v_5 0
set_option maxHeartbeats 4000000 in
set_option maxRecDepth 100000 in
theorem ctX4_coverTag (l : Launch) {D : va_G} {cI : ClassId} {q : Nat → Nat} (S : St) (x1 : Int32) (x2 : Int32) (sz : Nat) {r1 : Int32} {S1 : St} (hf : fX4_coverTag S x1 x2 = some (r1, S1)) : Met l yX4_coverTag (Cond.code yX4_coverTag cX4_coverTag 5 (some .int) :: XALL) ({ frames := 24, cells := 0, slots := 0, locals := 891 } : Room) (va_Pc [.ref (q 0), .int x1, .int x2] (gPre D cI ((mw cI q) S) sz)) (gQi D (mw cI q) S (fun (r : Int32) (u : St) => r = r1 ∧ u = S1) sz) 0 0 (va_A ((mw cI q) S) sz) := by
  unfold fX4_coverTag at hf
  refine Met.ofW (cc := cX4_coverTag) (maxL := 5) (ret := (some .int)) (by decide) rfl ?_
  intro p e s m args below meth c s₁ B hml hv
  obtain ⟨rfl, hg⟩ := hv
  have C : Ctx p s m _ meth c cX4_coverTag 5 RX4 (some .int) := Ctx.of B hml rfl
  obtain ⟨E, hw, hsz⟩ := g_start hg
  subst hsz
  have hl := lv_entry ([.ref (q 0), .int x1, .int x2]) (n := 5) (Nat.le_of_ble_eq_true rfl)
  rw [lg_entry_eq]
  generalize (lg_sl ([.ref (q 0), .int x1, .int x2]) ++ List.replicate (5 - (lg_sl ([.ref (q 0), .int x1, .int x2])).length) Slot.unset).toArray = ls at hl ⊢
  have hl : lv_has ls 5 [(0, .ref (q 0)), (1, .int x1), (2, .int x2)] := hl
  refine lv_aload_n C.1 C.2.1 dX4_coverTag_0 rfl (lv_at hl 0 rfl) ?_
  refine lv_iconst (v := 0) C.1 C.2.1 dX4_coverTag_1 (by decide) ?_
  obtain ⟨S_1, hS_1, hf⟩ := bnd hf
  refine g_put C E hw inW4 tyX4 tyX4_ok nmX4 0 rfl rfl 0 (by decide) kf_X4_40 rfl (by decide +kernel) (Nat.le_of_ble_eq_true rfl) (ws' := (mw cI q) S_1) (by rw [← Option.some.inj hS_1]; rfl) dX4_coverTag_2 (fun H locs hw => ?_)
  refine lv_aload_n C.1 C.2.1 dX4_coverTag_5 rfl (lv_at hl 0 rfl) ?_
  refine lv_iload_n C.1 C.2.1 dX4_coverTag_6 rfl (lv_at hl 1 rfl) ?_
  obtain ⟨v_2, hv_2, hf⟩ := bnd hf
  refine g_cie (wf := (mw cI q)) (S := S_1) (rest := []) mw_adr hw (g_runV (rm := ({ frames := 1, cells := 0, slots := 0, locals := 22 } : Room)) (As := [.int x1]) (rest := []) C E hw F_X4_isTerm (ctX4_isTerm l (cI := cI) (D := D) (q := q) S_1 x1 _ hv_2) km_X4_106 0 rfl rfl rfl hl.1 rfl (Nat.le_of_ble_eq_true rfl) ⟨(Nat.le_of_ble_eq_true rfl), (Nat.le_of_ble_eq_true rfl)⟩ ⟨(Nat.le_of_ble_eq_true rfl), (Nat.le_of_ble_eq_true rfl)⟩ dX4_coverTag_7) (fun H locs hw => ?_)
  refine lv_if_ne (tgt := 19) C.1 C.2.1 dX4_coverTag_10 (by decide) (fun hc => ?_) (fun hc => ?_)
  · have hf := iff_ hc hf
    refine lv_aload_n C.1 C.2.1 dX4_coverTag_19 rfl (lv_at hl 0 rfl) ?_
    obtain ⟨S_3, hS_3, hf⟩ := bnd hf
    refine g_cve (wf := (mw cI q)) (S := S_1) (rest := []) mw_adr hw (g_runV (rm := ({ frames := 1, cells := 0, slots := 0, locals := 23 } : Room)) (As := []) (rest := []) C E hw F_X4_reckon (ctX4_reckon l (cI := cI) (D := D) (q := q) S_1  _ hS_3) km_X4_115 0 rfl rfl rfl hl.1 rfl (Nat.le_of_ble_eq_true rfl) ⟨(Nat.le_of_ble_eq_true rfl), (Nat.le_of_ble_eq_true rfl)⟩ ⟨(Nat.le_of_ble_eq_true rfl), (Nat.le_of_ble_eq_true rfl)⟩ dX4_coverTag_20) (fun H locs hw => ?_)
    refine lv_aload_n C.1 C.2.1 dX4_coverTag_23 rfl (lv_at hl 0 rfl) ?_
    refine lv_aload_n C.1 C.2.1 dX4_coverTag_24 rfl (lv_at hl 0 rfl) ?_
    refine g_get C E hw inW4 0 rfl rfl 14 (by decide) kf_X4_37 rfl dX4_coverTag_25 ?_
    refine lv_iload_n C.1 C.2.1 dX4_coverTag_28 rfl (lv_at hl 1 rfl) ?_
    obtain ⟨v_4, hv_4, hf⟩ := bnd hf
    refine g_ald C E hw 10 rfl (ld_some hv_4) dX4_coverTag_29 ?_
    obtain ⟨⟨v_5, S_6⟩, hu_7, hf⟩ := bnd hf
    have hf := pr_r hf
    refine g_cie (wf := (mw cI q)) (S := S_3) (rest := []) mw_adr hw (g_runV (rm := ({ frames := 23, cells := 0, slots := 0, locals := 869 } : Room)) (As := [.int v_4]) (rest := []) C E hw F_X4_cover (ctX4_cover l (cI := cI) (D := D) (q := q) S_3 v_4 _ hu_7) km_X4_133 0 rfl rfl rfl hl.1 rfl (Nat.le_of_ble_eq_true rfl) ⟨(Nat.le_of_ble_eq_true rfl), (Nat.le_of_ble_eq_true rfl)⟩ ⟨(Nat.le_of_ble_eq_true rfl), (Nat.le_of_ble_eq_true rfl)⟩ dX4_coverTag_30) (fun H locs hw => ?_)
    refine lv_istore_n (lv' := [(3, .int v_5), (0, .ref (q 0)), (1, .int x1), (2, .int x2)]) C.1 C.2.1 dX4_coverTag_33 rfl hl (by decide) rfl (fun ls hl => ?_)
    refine lv_iload_n C.1 C.2.1 dX4_coverTag_34 rfl (lv_at hl 3 rfl) ?_
    refine lv_iconst (v := 0) C.1 C.2.1 dX4_coverTag_35 (by decide) ?_
    refine lv_iload_n C.1 C.2.1 dX4_coverTag_36 rfl (lv_at hl 0 rfl) ?_
    obtain ⟨v_8, hv_8, hf⟩ := bnd hf
    refine g_ci0e (rest := [.int 0, .int x2]) hw (g_run0 (rm := ({ frames := 0, cells := 0, slots := 0, locals := 0 } : Room)) (As := [.int v_5]) (rest := [.int 0, .int x2]) C F_X4_many (ctX4_many l v_5 hv_8) km_X4_78 rfl hl.1 rfl (Nat.le_of_ble_eq_true rfl) ⟨(Nat.le_of_ble_eq_true rfl), (Nat.le_of_ble_eq_true rfl)⟩ ⟨(Nat.le_of_ble_eq_true rfl), (Nat.le_of_ble_eq_true rfl)⟩ dX4_coverTag_37) (fun H locs hw => ?_)
    refine lv_iconst (v := 1) C.1 C.2.1 dX4_coverTag_40 (by decide) ?_
    refine lv_isub C.1 C.2.1 dX4_coverTag_41 ?_
    obtain ⟨v_9, hv_9, hf⟩ := bnd hf
    refine g_ci0e (rest := []) hw (g_run0 (rm := ({ frames := 0, cells := 0, slots := 0, locals := 0 } : Room)) (As := [.int x2, .int 0, .int (v_8 - 1)]) (rest := []) C F_X4_isIn (ctX4_isIn l x2 0 (v_8 - 1) hv_9) km_X4_47 rfl hl.1 rfl (Nat.le_of_ble_eq_true rfl) ⟨(Nat.le_of_ble_eq_true rfl), (Nat.le_of_ble_eq_true rfl)⟩ ⟨(Nat.le_of_ble_eq_true rfl), (Nat.le_of_ble_eq_true rfl)⟩ dX4_coverTag_42) (fun H locs hw => ?_)
    refine lv_if_ne (tgt := 54) C.1 C.2.1 dX4_coverTag_45 (by decide) (fun hc => ?_) (fun hc => ?_)
    · have hf := iff_ hc hf
      refine lv_iconst (v := 0) C.1 C.2.1 dX4_coverTag_54 (by decide) ?_
      refine lv_istore (lv' := [(4, .int 0), (3, .int v_5), (0, .ref (q 0)), (1, .int x1), (2, .int x2)]) C.1 C.2.1 dX4_coverTag_55 hl (by decide) rfl (fun ls hl => ?_)
      exact wX4_coverTag_57 C E x2 100 S_6 v_5 0 hf _ _ _ hw (lv_sub hl [4, 1, 0] rfl)
    · have hf := ift hc hf
      refine lv_aload_n C.1 C.2.1 dX4_coverTag_48 rfl (lv_at hl 1 rfl) ?_
      refine lv_iconst (v := 1) C.1 C.2.1 dX4_coverTag_49 (by decide) ?_
      obtain ⟨⟨v_10, S_11⟩, hu_12, hf⟩ := bnd hf
      have hf := pr_r hf
      refine g_cie (wf := (mw cI q)) (S := S_6) (rest := []) mw_adr hw (g_runV (rm := ({ frames := 0, cells := 0, slots := 0, locals := 0 } : Room)) (As := [.int 1]) (rest := []) C E hw F_X4_fail (ctX4_fail l (cI := cI) (D := D) (q := q) S_6 1 _ hu_12) km_X4_68 0 rfl rfl rfl hl.1 rfl (Nat.le_of_ble_eq_true rfl) ⟨(Nat.le_of_ble_eq_true rfl), (Nat.le_of_ble_eq_true rfl)⟩ ⟨(Nat.le_of_ble_eq_true rfl), (Nat.le_of_ble_eq_true rfl)⟩ dX4_coverTag_50) (fun H locs hw => ?_)
      exact g_iret C hw (Nat.le_of_ble_eq_true rfl) (Nat.le_of_ble_eq_true rfl) ⟨congrArg Prod.fst (Option.some.inj hf), congrArg Prod.snd (Option.some.inj hf)⟩ dX4_coverTag_53
  · have hf := ift hc hf
    refine lv_aload_n C.1 C.2.1 dX4_coverTag_13 rfl (lv_at hl 0 rfl) ?_
    refine lv_iconst (v := 1) C.1 C.2.1 dX4_coverTag_14 (by decide) ?_
    obtain ⟨⟨v_13, S_14⟩, hu_15, hf⟩ := bnd hf
    have hf := pr_r hf
    refine g_cie (wf := (mw cI q)) (S := S_1) (rest := []) mw_adr hw (g_runV (rm := ({ frames := 0, cells := 0, slots := 0, locals := 0 } : Room)) (As := [.int 1]) (rest := []) C E hw F_X4_fail (ctX4_fail l (cI := cI) (D := D) (q := q) S_1 1 _ hu_15) km_X4_68 0 rfl rfl rfl hl.1 rfl (Nat.le_of_ble_eq_true rfl) ⟨(Nat.le_of_ble_eq_true rfl), (Nat.le_of_ble_eq_true rfl)⟩ ⟨(Nat.le_of_ble_eq_true rfl), (Nat.le_of_ble_eq_true rfl)⟩ dX4_coverTag_15) (fun H locs hw => ?_)
    exact g_iret C hw (Nat.le_of_ble_eq_true rfl) (Nat.le_of_ble_eq_true rfl) ⟨congrArg Prod.fst (Option.some.inj hf), congrArg Prod.snd (Option.some.inj hf)⟩ dX4_coverTag_18
/-! DreamLedgerModel.tags -/
def fX4_tags (S : St) : Option (Int32 × St) :=
  Option.bind (some (up S 10 0 0)) fun S_1 =>
  some ((S_1 11 0), S_1)
set_option maxHeartbeats 4000000 in
set_option maxRecDepth 100000 in
theorem ctX4_tags (l : Launch) {D : va_G} {cI : ClassId} {q : Nat → Nat} (S : St) (sz : Nat) {r1 : Int32} {S1 : St} (hf : fX4_tags S = some (r1, S1)) : Met l yX4_tags (Cond.code yX4_tags cX4_tags 1 (some .int) :: XALL) ({ frames := 0, cells := 0, slots := 0, locals := 0 } : Room) (va_Pc [.ref (q 0)] (gPre D cI ((mw cI q) S) sz)) (gQi D (mw cI q) S (fun (r : Int32) (u : St) => r = r1 ∧ u = S1) sz) 0 0 (va_A ((mw cI q) S) sz) := by
  unfold fX4_tags at hf
  refine Met.ofW (cc := cX4_tags) (maxL := 1) (ret := (some .int)) (by decide) rfl ?_
  intro p e s m args below meth c s₁ B hml hv
  obtain ⟨rfl, hg⟩ := hv
  have C : Ctx p s m _ meth c cX4_tags 1 RX4 (some .int) := Ctx.of B hml rfl
  obtain ⟨E, hw, hsz⟩ := g_start hg
  subst hsz
  have hl := lv_entry ([.ref (q 0)]) (n := 1) (Nat.le_of_ble_eq_true rfl)
  rw [lg_entry_eq]
  generalize (lg_sl ([.ref (q 0)]) ++ List.replicate (1 - (lg_sl ([.ref (q 0)])).length) Slot.unset).toArray = ls at hl ⊢
  have hl : lv_has ls 1 [(0, .ref (q 0))] := hl
  refine lv_aload_n C.1 C.2.1 dX4_tags_0 rfl (lv_at hl 0 rfl) ?_
  refine lv_iconst (v := 0) C.1 C.2.1 dX4_tags_1 (by decide) ?_
  obtain ⟨S_1, hS_1, hf⟩ := bnd hf
  refine g_put C E hw inW4 tyX4 tyX4_ok nmX4 0 rfl rfl 0 (by decide) kf_X4_40 rfl (by decide +kernel) (Nat.le_of_ble_eq_true rfl) (ws' := (mw cI q) S_1) (by rw [← Option.some.inj hS_1]; rfl) dX4_tags_2 (fun H locs hw => ?_)
  refine lv_aload_n C.1 C.2.1 dX4_tags_5 rfl (lv_at hl 0 rfl) ?_
  refine g_get C E hw inW4 0 rfl rfl 1 (by decide) kf_X4_44 rfl dX4_tags_6 ?_
  exact g_iret C hw (Nat.le_of_ble_eq_true rfl) (Nat.le_of_ble_eq_true rfl) ⟨congrArg Prod.fst (Option.some.inj hf), congrArg Prod.snd (Option.some.inj hf)⟩ dX4_tags_9
/-! DreamLedgerModel.dreams -/
def fX4_dreams (S : St) : Option (Int32 × St) :=
  Option.bind (some (up S 10 0 0)) fun S_1 =>
  some ((S_1 12 0), S_1)
set_option maxHeartbeats 4000000 in
set_option maxRecDepth 100000 in
theorem ctX4_dreams (l : Launch) {D : va_G} {cI : ClassId} {q : Nat → Nat} (S : St) (sz : Nat) {r1 : Int32} {S1 : St} (hf : fX4_dreams S = some (r1, S1)) : Met l yX4_dreams (Cond.code yX4_dreams cX4_dreams 1 (some .int) :: XALL) ({ frames := 0, cells := 0, slots := 0, locals := 0 } : Room) (va_Pc [.ref (q 0)] (gPre D cI ((mw cI q) S) sz)) (gQi D (mw cI q) S (fun (r : Int32) (u : St) => r = r1 ∧ u = S1) sz) 0 0 (va_A ((mw cI q) S) sz) := by
  unfold fX4_dreams at hf
  refine Met.ofW (cc := cX4_dreams) (maxL := 1) (ret := (some .int)) (by decide) rfl ?_
  intro p e s m args below meth c s₁ B hml hv
  obtain ⟨rfl, hg⟩ := hv
  have C : Ctx p s m _ meth c cX4_dreams 1 RX4 (some .int) := Ctx.of B hml rfl
  obtain ⟨E, hw, hsz⟩ := g_start hg
  subst hsz
  have hl := lv_entry ([.ref (q 0)]) (n := 1) (Nat.le_of_ble_eq_true rfl)
  rw [lg_entry_eq]
  generalize (lg_sl ([.ref (q 0)]) ++ List.replicate (1 - (lg_sl ([.ref (q 0)])).length) Slot.unset).toArray = ls at hl ⊢
  have hl : lv_has ls 1 [(0, .ref (q 0))] := hl
  refine lv_aload_n C.1 C.2.1 dX4_dreams_0 rfl (lv_at hl 0 rfl) ?_
  refine lv_iconst (v := 0) C.1 C.2.1 dX4_dreams_1 (by decide) ?_
  obtain ⟨S_1, hS_1, hf⟩ := bnd hf
  refine g_put C E hw inW4 tyX4 tyX4_ok nmX4 0 rfl rfl 0 (by decide) kf_X4_40 rfl (by decide +kernel) (Nat.le_of_ble_eq_true rfl) (ws' := (mw cI q) S_1) (by rw [← Option.some.inj hS_1]; rfl) dX4_dreams_2 (fun H locs hw => ?_)
  refine lv_aload_n C.1 C.2.1 dX4_dreams_5 rfl (lv_at hl 0 rfl) ?_
  refine g_get C E hw inW4 0 rfl rfl 2 (by decide) kf_X4_51 rfl dX4_dreams_6 ?_
  exact g_iret C hw (Nat.le_of_ble_eq_true rfl) (Nat.le_of_ble_eq_true rfl) ⟨congrArg Prod.fst (Option.some.inj hf), congrArg Prod.snd (Option.some.inj hf)⟩ dX4_dreams_9
/-! DreamLedgerModel.terms -/
def fX4_terms (S : St) : Option (Int32 × St) :=
  Option.bind (some (up S 10 0 0)) fun S_1 =>
  some ((S_1 13 0), S_1)
set_option maxHeartbeats 4000000 in
set_option maxRecDepth 100000 in
theorem ctX4_terms (l : Launch) {D : va_G} {cI : ClassId} {q : Nat → Nat} (S : St) (sz : Nat) {r1 : Int32} {S1 : St} (hf : fX4_terms S = some (r1, S1)) : Met l yX4_terms (Cond.code yX4_terms cX4_terms 1 (some .int) :: XALL) ({ frames := 0, cells := 0, slots := 0, locals := 0 } : Room) (va_Pc [.ref (q 0)] (gPre D cI ((mw cI q) S) sz)) (gQi D (mw cI q) S (fun (r : Int32) (u : St) => r = r1 ∧ u = S1) sz) 0 0 (va_A ((mw cI q) S) sz) := by
  unfold fX4_terms at hf
  refine Met.ofW (cc := cX4_terms) (maxL := 1) (ret := (some .int)) (by decide) rfl ?_
  intro p e s m args below meth c s₁ B hml hv
  obtain ⟨rfl, hg⟩ := hv
  have C : Ctx p s m _ meth c cX4_terms 1 RX4 (some .int) := Ctx.of B hml rfl
  obtain ⟨E, hw, hsz⟩ := g_start hg
  subst hsz
  have hl := lv_entry ([.ref (q 0)]) (n := 1) (Nat.le_of_ble_eq_true rfl)
  rw [lg_entry_eq]
  generalize (lg_sl ([.ref (q 0)]) ++ List.replicate (1 - (lg_sl ([.ref (q 0)])).length) Slot.unset).toArray = ls at hl ⊢
  have hl : lv_has ls 1 [(0, .ref (q 0))] := hl
  refine lv_aload_n C.1 C.2.1 dX4_terms_0 rfl (lv_at hl 0 rfl) ?_
  refine lv_iconst (v := 0) C.1 C.2.1 dX4_terms_1 (by decide) ?_
  obtain ⟨S_1, hS_1, hf⟩ := bnd hf
  refine g_put C E hw inW4 tyX4 tyX4_ok nmX4 0 rfl rfl 0 (by decide) kf_X4_40 rfl (by decide +kernel) (Nat.le_of_ble_eq_true rfl) (ws' := (mw cI q) S_1) (by rw [← Option.some.inj hS_1]; rfl) dX4_terms_2 (fun H locs hw => ?_)
  refine lv_aload_n C.1 C.2.1 dX4_terms_5 rfl (lv_at hl 0 rfl) ?_
  refine g_get C E hw inW4 0 rfl rfl 3 (by decide) kf_X4_54 rfl dX4_terms_6 ?_
  exact g_iret C hw (Nat.le_of_ble_eq_true rfl) (Nat.le_of_ble_eq_true rfl) ⟨congrArg Prod.fst (Option.some.inj hf), congrArg Prod.snd (Option.some.inj hf)⟩ dX4_terms_9
/-! DreamLedgerModel.nights -/
def fX4_nights (S : St) : Option (Int32 × St) :=
  Option.bind (some (up S 10 0 0)) fun S_1 =>
  some ((S_1 14 0), S_1)
set_option maxHeartbeats 4000000 in
set_option maxRecDepth 100000 in
theorem ctX4_nights (l : Launch) {D : va_G} {cI : ClassId} {q : Nat → Nat} (S : St) (sz : Nat) {r1 : Int32} {S1 : St} (hf : fX4_nights S = some (r1, S1)) : Met l yX4_nights (Cond.code yX4_nights cX4_nights 1 (some .int) :: XALL) ({ frames := 0, cells := 0, slots := 0, locals := 0 } : Room) (va_Pc [.ref (q 0)] (gPre D cI ((mw cI q) S) sz)) (gQi D (mw cI q) S (fun (r : Int32) (u : St) => r = r1 ∧ u = S1) sz) 0 0 (va_A ((mw cI q) S) sz) := by
  unfold fX4_nights at hf
  refine Met.ofW (cc := cX4_nights) (maxL := 1) (ret := (some .int)) (by decide) rfl ?_
  intro p e s m args below meth c s₁ B hml hv
  obtain ⟨rfl, hg⟩ := hv
  have C : Ctx p s m _ meth c cX4_nights 1 RX4 (some .int) := Ctx.of B hml rfl
  obtain ⟨E, hw, hsz⟩ := g_start hg
  subst hsz
  have hl := lv_entry ([.ref (q 0)]) (n := 1) (Nat.le_of_ble_eq_true rfl)
  rw [lg_entry_eq]
  generalize (lg_sl ([.ref (q 0)]) ++ List.replicate (1 - (lg_sl ([.ref (q 0)])).length) Slot.unset).toArray = ls at hl ⊢
  have hl : lv_has ls 1 [(0, .ref (q 0))] := hl
  refine lv_aload_n C.1 C.2.1 dX4_nights_0 rfl (lv_at hl 0 rfl) ?_
  refine lv_iconst (v := 0) C.1 C.2.1 dX4_nights_1 (by decide) ?_
  obtain ⟨S_1, hS_1, hf⟩ := bnd hf
  refine g_put C E hw inW4 tyX4 tyX4_ok nmX4 0 rfl rfl 0 (by decide) kf_X4_40 rfl (by decide +kernel) (Nat.le_of_ble_eq_true rfl) (ws' := (mw cI q) S_1) (by rw [← Option.some.inj hS_1]; rfl) dX4_nights_2 (fun H locs hw => ?_)
  refine lv_aload_n C.1 C.2.1 dX4_nights_5 rfl (lv_at hl 0 rfl) ?_
  refine g_get C E hw inW4 0 rfl rfl 4 (by decide) kf_X4_81 rfl dX4_nights_6 ?_
  exact g_iret C hw (Nat.le_of_ble_eq_true rfl) (Nat.le_of_ble_eq_true rfl) ⟨congrArg Prod.fst (Option.some.inj hf), congrArg Prod.snd (Option.some.inj hf)⟩ dX4_nights_9
/-! DreamLedgerModel.fadedDreams -/
def fX4_fadedDreams (S : St) : Option (Int32 × St) :=
  Option.bind (some (up S 10 0 0)) fun S_1 =>
  Option.bind (fX4_faded S_1 0) fun v_2 =>
  some (v_2, S_1)
set_option maxHeartbeats 4000000 in
set_option maxRecDepth 100000 in
theorem ctX4_fadedDreams (l : Launch) {D : va_G} {cI : ClassId} {q : Nat → Nat} (S : St) (sz : Nat) {r1 : Int32} {S1 : St} (hf : fX4_fadedDreams S = some (r1, S1)) : Met l yX4_fadedDreams (Cond.code yX4_fadedDreams cX4_fadedDreams 1 (some .int) :: XALL) ({ frames := 3, cells := 0, slots := 0, locals := 67 } : Room) (va_Pc [.ref (q 0)] (gPre D cI ((mw cI q) S) sz)) (gQi D (mw cI q) S (fun (r : Int32) (u : St) => r = r1 ∧ u = S1) sz) 0 0 (va_A ((mw cI q) S) sz) := by
  unfold fX4_fadedDreams at hf
  refine Met.ofW (cc := cX4_fadedDreams) (maxL := 1) (ret := (some .int)) (by decide) rfl ?_
  intro p e s m args below meth c s₁ B hml hv
  obtain ⟨rfl, hg⟩ := hv
  have C : Ctx p s m _ meth c cX4_fadedDreams 1 RX4 (some .int) := Ctx.of B hml rfl
  obtain ⟨E, hw, hsz⟩ := g_start hg
  subst hsz
  have hl := lv_entry ([.ref (q 0)]) (n := 1) (Nat.le_of_ble_eq_true rfl)
  rw [lg_entry_eq]
  generalize (lg_sl ([.ref (q 0)]) ++ List.replicate (1 - (lg_sl ([.ref (q 0)])).length) Slot.unset).toArray = ls at hl ⊢
  have hl : lv_has ls 1 [(0, .ref (q 0))] := hl
  refine lv_aload_n C.1 C.2.1 dX4_fadedDreams_0 rfl (lv_at hl 0 rfl) ?_
  refine lv_iconst (v := 0) C.1 C.2.1 dX4_fadedDreams_1 (by decide) ?_
  obtain ⟨S_1, hS_1, hf⟩ := bnd hf
  refine g_put C E hw inW4 tyX4 tyX4_ok nmX4 0 rfl rfl 0 (by decide) kf_X4_40 rfl (by decide +kernel) (Nat.le_of_ble_eq_true rfl) (ws' := (mw cI q) S_1) (by rw [← Option.some.inj hS_1]; rfl) dX4_fadedDreams_2 (fun H locs hw => ?_)
  refine lv_aload_n C.1 C.2.1 dX4_fadedDreams_5 rfl (lv_at hl 0 rfl) ?_
  refine lv_iconst (v := 0) C.1 C.2.1 dX4_fadedDreams_6 (by decide) ?_
  obtain ⟨v_2, hv_2, hf⟩ := bnd hf
  refine g_cie (wf := (mw cI q)) (S := S_1) (rest := []) mw_adr hw (g_runV (rm := ({ frames := 2, cells := 0, slots := 0, locals := 44 } : Room)) (As := [.int 0]) (rest := []) C E hw F_X4_faded (ctX4_faded l (cI := cI) (D := D) (q := q) S_1 0 _ hv_2) km_X4_99 0 rfl rfl rfl hl.1 rfl (Nat.le_of_ble_eq_true rfl) ⟨(Nat.le_of_ble_eq_true rfl), (Nat.le_of_ble_eq_true rfl)⟩ ⟨(Nat.le_of_ble_eq_true rfl), (Nat.le_of_ble_eq_true rfl)⟩ dX4_fadedDreams_7) (fun H locs hw => ?_)
  exact g_iret C hw (Nat.le_of_ble_eq_true rfl) (Nat.le_of_ble_eq_true rfl) ⟨congrArg Prod.fst (Option.some.inj hf), congrArg Prod.snd (Option.some.inj hf)⟩ dX4_fadedDreams_10
/-! DreamLedgerModel.fadedAfter -/
def fX4_fadedAfter (S : St) (x1 : Int32) : Option (Int32 × St) :=
  Option.bind (some (up S 10 0 0)) fun S_1 =>
  Option.bind (fX4_isIn x1 1 30) fun v_2 =>
  if v_2 = 0 then
    Option.bind (fX4_fail S_1 1) fun u_5 => pr u_5 fun v_3 S_4 =>
    some (v_3, S_4)
  else
    Option.bind (fX4_faded S_1 x1) fun v_6 =>
    some (v_6, S_1)
set_option maxHeartbeats 4000000 in
set_option maxRecDepth 100000 in
theorem ctX4_fadedAfter (l : Launch) {D : va_G} {cI : ClassId} {q : Nat → Nat} (S : St) (x1 : Int32) (sz : Nat) {r1 : Int32} {S1 : St} (hf : fX4_fadedAfter S x1 = some (r1, S1)) : Met l yX4_fadedAfter (Cond.code yX4_fadedAfter cX4_fadedAfter 2 (some .int) :: XALL) ({ frames := 3, cells := 0, slots := 0, locals := 67 } : Room) (va_Pc [.ref (q 0), .int x1] (gPre D cI ((mw cI q) S) sz)) (gQi D (mw cI q) S (fun (r : Int32) (u : St) => r = r1 ∧ u = S1) sz) 0 0 (va_A ((mw cI q) S) sz) := by
  unfold fX4_fadedAfter at hf
  refine Met.ofW (cc := cX4_fadedAfter) (maxL := 2) (ret := (some .int)) (by decide) rfl ?_
  intro p e s m args below meth c s₁ B hml hv
  obtain ⟨rfl, hg⟩ := hv
  have C : Ctx p s m _ meth c cX4_fadedAfter 2 RX4 (some .int) := Ctx.of B hml rfl
  obtain ⟨E, hw, hsz⟩ := g_start hg
  subst hsz
  have hl := lv_entry ([.ref (q 0), .int x1]) (n := 2) (Nat.le_of_ble_eq_true rfl)
  rw [lg_entry_eq]
  generalize (lg_sl ([.ref (q 0), .int x1]) ++ List.replicate (2 - (lg_sl ([.ref (q 0), .int x1])).length) Slot.unset).toArray = ls at hl ⊢
  have hl : lv_has ls 2 [(0, .ref (q 0)), (1, .int x1)] := hl
  refine lv_aload_n C.1 C.2.1 dX4_fadedAfter_0 rfl (lv_at hl 0 rfl) ?_
  refine lv_iconst (v := 0) C.1 C.2.1 dX4_fadedAfter_1 (by decide) ?_
  obtain ⟨S_1, hS_1, hf⟩ := bnd hf
  refine g_put C E hw inW4 tyX4 tyX4_ok nmX4 0 rfl rfl 0 (by decide) kf_X4_40 rfl (by decide +kernel) (Nat.le_of_ble_eq_true rfl) (ws' := (mw cI q) S_1) (by rw [← Option.some.inj hS_1]; rfl) dX4_fadedAfter_2 (fun H locs hw => ?_)
  refine lv_iload_n C.1 C.2.1 dX4_fadedAfter_5 rfl (lv_at hl 1 rfl) ?_
  refine lv_iconst (v := 1) C.1 C.2.1 dX4_fadedAfter_6 (by decide) ?_
  refine lv_bipush (v := 30) C.1 C.2.1 dX4_fadedAfter_7 (by decide) ?_
  obtain ⟨v_2, hv_2, hf⟩ := bnd hf
  refine g_ci0e (rest := []) hw (g_run0 (rm := ({ frames := 0, cells := 0, slots := 0, locals := 0 } : Room)) (As := [.int x1, .int 1, .int 30]) (rest := []) C F_X4_isIn (ctX4_isIn l x1 1 30 hv_2) km_X4_47 rfl hl.1 rfl (Nat.le_of_ble_eq_true rfl) ⟨(Nat.le_of_ble_eq_true rfl), (Nat.le_of_ble_eq_true rfl)⟩ ⟨(Nat.le_of_ble_eq_true rfl), (Nat.le_of_ble_eq_true rfl)⟩ dX4_fadedAfter_9) (fun H locs hw => ?_)
  refine lv_if_eq (tgt := 23) C.1 C.2.1 dX4_fadedAfter_12 (by decide) (fun hc => ?_) (fun hc => ?_)
  · have hf := ift hc hf
    refine lv_aload_n C.1 C.2.1 dX4_fadedAfter_23 rfl (lv_at hl 0 rfl) ?_
    refine lv_iconst (v := 1) C.1 C.2.1 dX4_fadedAfter_24 (by decide) ?_
    obtain ⟨⟨v_3, S_4⟩, hu_5, hf⟩ := bnd hf
    have hf := pr_r hf
    refine g_cie (wf := (mw cI q)) (S := S_1) (rest := []) mw_adr hw (g_runV (rm := ({ frames := 0, cells := 0, slots := 0, locals := 0 } : Room)) (As := [.int 1]) (rest := []) C E hw F_X4_fail (ctX4_fail l (cI := cI) (D := D) (q := q) S_1 1 _ hu_5) km_X4_68 0 rfl rfl rfl hl.1 rfl (Nat.le_of_ble_eq_true rfl) ⟨(Nat.le_of_ble_eq_true rfl), (Nat.le_of_ble_eq_true rfl)⟩ ⟨(Nat.le_of_ble_eq_true rfl), (Nat.le_of_ble_eq_true rfl)⟩ dX4_fadedAfter_25) (fun H locs hw => ?_)
    exact g_iret C hw (Nat.le_of_ble_eq_true rfl) (Nat.le_of_ble_eq_true rfl) ⟨congrArg Prod.fst (Option.some.inj hf), congrArg Prod.snd (Option.some.inj hf)⟩ dX4_fadedAfter_28
  · have hf := iff_ hc hf
    refine lv_aload_n C.1 C.2.1 dX4_fadedAfter_15 rfl (lv_at hl 0 rfl) ?_
    refine lv_iload_n C.1 C.2.1 dX4_fadedAfter_16 rfl (lv_at hl 1 rfl) ?_
    obtain ⟨v_6, hv_6, hf⟩ := bnd hf
    refine g_cie (wf := (mw cI q)) (S := S_1) (rest := []) mw_adr hw (g_runV (rm := ({ frames := 2, cells := 0, slots := 0, locals := 44 } : Room)) (As := [.int x1]) (rest := []) C E hw F_X4_faded (ctX4_faded l (cI := cI) (D := D) (q := q) S_1 x1 _ hv_6) km_X4_99 0 rfl rfl rfl hl.1 rfl (Nat.le_of_ble_eq_true rfl) ⟨(Nat.le_of_ble_eq_true rfl), (Nat.le_of_ble_eq_true rfl)⟩ ⟨(Nat.le_of_ble_eq_true rfl), (Nat.le_of_ble_eq_true rfl)⟩ dX4_fadedAfter_17) (fun H locs hw => ?_)
    refine lv_goto (tgt := 28) C.1 C.2.1 dX4_fadedAfter_20 (by decide) ?_
    exact g_iret C hw (Nat.le_of_ble_eq_true rfl) (Nat.le_of_ble_eq_true rfl) ⟨congrArg Prod.fst (Option.some.inj hf), congrArg Prod.snd (Option.some.inj hf)⟩ dX4_fadedAfter_28
/-! DreamLedgerModel.matchesWith -/
def fX4_matchesWith (S : St) (x1 : Int32) (x2 : Int32) (x3 : Int32) : Option (Int32 × St) :=
  Option.bind (ld S 0 16 x2) fun v_1 =>
  Option.bind (sto S 0 16 x2 x3) fun S_2 =>
  Option.bind (fX4_reckon S_2) fun S_3 =>
  Option.bind (sto S_3 0 16 x2 v_1) fun S_4 =>
  Option.bind (ld S_4 9 20 x1) fun v_5 =>
  Option.bind (fX4_many v_5) fun v_6 =>
  some (v_6, S_4)
set_option maxHeartbeats 4000000 in
set_option maxRecDepth 100000 in
theorem ctX4_matchesWith (l : Launch) {D : va_G} {cI : ClassId} {q : Nat → Nat} (S : St) (x1 : Int32) (x2 : Int32) (x3 : Int32) (sz : Nat) {r1 : Int32} {S1 : St} (hf : fX4_matchesWith S x1 x2 x3 = some (r1, S1)) : Met l yX4_matchesWith (Cond.code yX4_matchesWith cX4_matchesWith 5 (some .int) :: XALL) ({ frames := 2, cells := 0, slots := 0, locals := 45 } : Room) (va_Pc [.ref (q 0), .int x1, .int x2, .int x3] (gPre D cI ((mw cI q) S) sz)) (gQi D (mw cI q) S (fun (r : Int32) (u : St) => r = r1 ∧ u = S1) sz) 0 0 (va_A ((mw cI q) S) sz) := by
  unfold fX4_matchesWith at hf
  refine Met.ofW (cc := cX4_matchesWith) (maxL := 5) (ret := (some .int)) (by decide) rfl ?_
  intro p e s m args below meth c s₁ B hml hv
  obtain ⟨rfl, hg⟩ := hv
  have C : Ctx p s m _ meth c cX4_matchesWith 5 RX4 (some .int) := Ctx.of B hml rfl
  obtain ⟨E, hw, hsz⟩ := g_start hg
  subst hsz
  have hl := lv_entry ([.ref (q 0), .int x1, .int x2, .int x3]) (n := 5) (Nat.le_of_ble_eq_true rfl)
  rw [lg_entry_eq]
  generalize (lg_sl ([.ref (q 0), .int x1, .int x2, .int x3]) ++ List.replicate (5 - (lg_sl ([.ref (q 0), .int x1, .int x2, .int x3])).length) Slot.unset).toArray = ls at hl ⊢
  have hl : lv_has ls 5 [(0, .ref (q 0)), (1, .int x1), (2, .int x2), (3, .int x3)] := hl
  refine lv_aload_n C.1 C.2.1 dX4_matchesWith_0 rfl (lv_at hl 0 rfl) ?_
  refine g_get C E hw inW4 0 rfl rfl 5 (by decide) kf_X4_9 rfl dX4_matchesWith_1 ?_
  refine lv_iload_n C.1 C.2.1 dX4_matchesWith_4 rfl (lv_at hl 2 rfl) ?_
  obtain ⟨v_1, hv_1, hf⟩ := bnd hf
  refine g_ald C E hw 1 rfl (ld_some hv_1) dX4_matchesWith_5 ?_
  refine lv_istore (lv' := [(4, .int v_1), (0, .ref (q 0)), (1, .int x1), (2, .int x2), (3, .int x3)]) C.1 C.2.1 dX4_matchesWith_6 hl (by decide) rfl (fun ls hl => ?_)
  refine lv_aload_n C.1 C.2.1 dX4_matchesWith_8 rfl (lv_at hl 1 rfl) ?_
  refine g_get C E hw inW4 0 rfl rfl 5 (by decide) kf_X4_9 rfl dX4_matchesWith_9 ?_
  refine lv_iload_n C.1 C.2.1 dX4_matchesWith_12 rfl (lv_at hl 3 rfl) ?_
  refine lv_iload_n C.1 C.2.1 dX4_matchesWith_13 rfl (lv_at hl 4 rfl) ?_
  obtain ⟨S_2, hS_2, hf⟩ := bnd hf
  refine g_ast C E hw 1 rfl (sto_some hS_2).1 (ws' := (mw cI q) S_2) (by rw [← (sto_some hS_2).2]; rfl) dX4_matchesWith_14 (fun H locs hw => ?_)
  refine lv_aload_n C.1 C.2.1 dX4_matchesWith_15 rfl (lv_at hl 1 rfl) ?_
  obtain ⟨S_3, hS_3, hf⟩ := bnd hf
  refine g_cve (wf := (mw cI q)) (S := S_2) (rest := []) mw_adr hw (g_runV (rm := ({ frames := 1, cells := 0, slots := 0, locals := 23 } : Room)) (As := []) (rest := []) C E hw F_X4_reckon (ctX4_reckon l (cI := cI) (D := D) (q := q) S_2  _ hS_3) km_X4_115 0 rfl rfl rfl hl.1 rfl (Nat.le_of_ble_eq_true rfl) ⟨(Nat.le_of_ble_eq_true rfl), (Nat.le_of_ble_eq_true rfl)⟩ ⟨(Nat.le_of_ble_eq_true rfl), (Nat.le_of_ble_eq_true rfl)⟩ dX4_matchesWith_16) (fun H locs hw => ?_)
  refine lv_aload_n C.1 C.2.1 dX4_matchesWith_19 rfl (lv_at hl 1 rfl) ?_
  refine g_get C E hw inW4 0 rfl rfl 5 (by decide) kf_X4_9 rfl dX4_matchesWith_20 ?_
  refine lv_iload_n C.1 C.2.1 dX4_matchesWith_23 rfl (lv_at hl 3 rfl) ?_
  refine lv_iload C.1 C.2.1 dX4_matchesWith_24 (lv_at hl 0 rfl) ?_
  obtain ⟨S_4, hS_4, hf⟩ := bnd hf
  refine g_ast C E hw 1 rfl (sto_some hS_4).1 (ws' := (mw cI q) S_4) (by rw [← (sto_some hS_4).2]; rfl) dX4_matchesWith_26 (fun H locs hw => ?_)
  refine lv_aload_n C.1 C.2.1 dX4_matchesWith_27 rfl (lv_at hl 1 rfl) ?_
  refine g_get C E hw inW4 0 rfl rfl 14 (by decide) kf_X4_37 rfl dX4_matchesWith_28 ?_
  refine lv_iload_n C.1 C.2.1 dX4_matchesWith_31 rfl (lv_at hl 2 rfl) ?_
  obtain ⟨v_5, hv_5, hf⟩ := bnd hf
  refine g_ald C E hw 10 rfl (ld_some hv_5) dX4_matchesWith_32 ?_
  obtain ⟨v_6, hv_6, hf⟩ := bnd hf
  refine g_ci0e (rest := []) hw (g_run0 (rm := ({ frames := 0, cells := 0, slots := 0, locals := 0 } : Room)) (As := [.int v_5]) (rest := []) C F_X4_many (ctX4_many l v_5 hv_6) km_X4_78 rfl hl.1 rfl (Nat.le_of_ble_eq_true rfl) ⟨(Nat.le_of_ble_eq_true rfl), (Nat.le_of_ble_eq_true rfl)⟩ ⟨(Nat.le_of_ble_eq_true rfl), (Nat.le_of_ble_eq_true rfl)⟩ dX4_matchesWith_33) (fun H locs hw => ?_)
  exact g_iret C hw (Nat.le_of_ble_eq_true rfl) (Nat.le_of_ble_eq_true rfl) ⟨congrArg Prod.fst (Option.some.inj hf), congrArg Prod.snd (Option.some.inj hf)⟩ dX4_matchesWith_36
/-! DreamLedgerModel.matchesIfUnder -/
def fX4_matchesIfUnder (S : St) (x1 : Int32) (x2 : Int32) (x3 : Int32) : Option (Int32 × St) :=
  Option.bind (some (up S 10 0 0)) fun S_1 =>
  Option.bind (fX4_isTerm S_1 x1) fun v_2 =>
  if v_2 = 0 then
    Option.bind (fX4_fail S_1 1) fun u_11 => pr u_11 fun v_9 S_10 =>
    some (v_9, S_10)
  else
    Option.bind (fX4_canPut S_1 x2 x3) fun u_5 => pr u_5 fun v_3 S_4 =>
    if v_3 = 0 then
      some (0, S_4)
    else
      Option.bind (fX4_matchesWith S_4 x1 x2 x3) fun u_8 => pr u_8 fun v_6 S_7 =>
      some (v_6, S_7)
set_option maxHeartbeats 4000000 in
set_option maxRecDepth 100000 in
theorem ctX4_matchesIfUnder (l : Launch) {D : va_G} {cI : ClassId} {q : Nat → Nat} (S : St) (x1 : Int32) (x2 : Int32) (x3 : Int32) (sz : Nat) {r1 : Int32} {S1 : St} (hf : fX4_matchesIfUnder S x1 x2 x3 = some (r1, S1)) : Met l yX4_matchesIfUnder (Cond.code yX4_matchesIfUnder cX4_matchesIfUnder 4 (some .int) :: XALL) ({ frames := 3, cells := 0, slots := 0, locals := 69 } : Room) (va_Pc [.ref (q 0), .int x1, .int x2, .int x3] (gPre D cI ((mw cI q) S) sz)) (gQi D (mw cI q) S (fun (r : Int32) (u : St) => r = r1 ∧ u = S1) sz) 0 0 (va_A ((mw cI q) S) sz) := by
  unfold fX4_matchesIfUnder at hf
  refine Met.ofW (cc := cX4_matchesIfUnder) (maxL := 4) (ret := (some .int)) (by decide) rfl ?_
  intro p e s m args below meth c s₁ B hml hv
  obtain ⟨rfl, hg⟩ := hv
  have C : Ctx p s m _ meth c cX4_matchesIfUnder 4 RX4 (some .int) := Ctx.of B hml rfl
  obtain ⟨E, hw, hsz⟩ := g_start hg
  subst hsz
  have hl := lv_entry ([.ref (q 0), .int x1, .int x2, .int x3]) (n := 4) (Nat.le_of_ble_eq_true rfl)
  rw [lg_entry_eq]
  generalize (lg_sl ([.ref (q 0), .int x1, .int x2, .int x3]) ++ List.replicate (4 - (lg_sl ([.ref (q 0), .int x1, .int x2, .int x3])).length) Slot.unset).toArray = ls at hl ⊢
  have hl : lv_has ls 4 [(0, .ref (q 0)), (1, .int x1), (2, .int x2), (3, .int x3)] := hl
  refine lv_aload_n C.1 C.2.1 dX4_matchesIfUnder_0 rfl (lv_at hl 0 rfl) ?_
  refine lv_iconst (v := 0) C.1 C.2.1 dX4_matchesIfUnder_1 (by decide) ?_
  obtain ⟨S_1, hS_1, hf⟩ := bnd hf
  refine g_put C E hw inW4 tyX4 tyX4_ok nmX4 0 rfl rfl 0 (by decide) kf_X4_40 rfl (by decide +kernel) (Nat.le_of_ble_eq_true rfl) (ws' := (mw cI q) S_1) (by rw [← Option.some.inj hS_1]; rfl) dX4_matchesIfUnder_2 (fun H locs hw => ?_)
  refine lv_aload_n C.1 C.2.1 dX4_matchesIfUnder_5 rfl (lv_at hl 0 rfl) ?_
  refine lv_iload_n C.1 C.2.1 dX4_matchesIfUnder_6 rfl (lv_at hl 1 rfl) ?_
  obtain ⟨v_2, hv_2, hf⟩ := bnd hf
  refine g_cie (wf := (mw cI q)) (S := S_1) (rest := []) mw_adr hw (g_runV (rm := ({ frames := 1, cells := 0, slots := 0, locals := 22 } : Room)) (As := [.int x1]) (rest := []) C E hw F_X4_isTerm (ctX4_isTerm l (cI := cI) (D := D) (q := q) S_1 x1 _ hv_2) km_X4_106 0 rfl rfl rfl hl.1 rfl (Nat.le_of_ble_eq_true rfl) ⟨(Nat.le_of_ble_eq_true rfl), (Nat.le_of_ble_eq_true rfl)⟩ ⟨(Nat.le_of_ble_eq_true rfl), (Nat.le_of_ble_eq_true rfl)⟩ dX4_matchesIfUnder_7) (fun H locs hw => ?_)
  refine lv_if_ne (tgt := 19) C.1 C.2.1 dX4_matchesIfUnder_10 (by decide) (fun hc => ?_) (fun hc => ?_)
  · have hf := iff_ hc hf
    refine lv_aload_n C.1 C.2.1 dX4_matchesIfUnder_19 rfl (lv_at hl 0 rfl) ?_
    refine lv_iload_n C.1 C.2.1 dX4_matchesIfUnder_20 rfl (lv_at hl 2 rfl) ?_
    refine lv_iload_n C.1 C.2.1 dX4_matchesIfUnder_21 rfl (lv_at hl 3 rfl) ?_
    obtain ⟨⟨v_3, S_4⟩, hu_5, hf⟩ := bnd hf
    have hf := pr_r hf
    refine g_cie (wf := (mw cI q)) (S := S_1) (rest := []) mw_adr hw (g_runV (rm := ({ frames := 2, cells := 0, slots := 0, locals := 45 } : Room)) (As := [.int x2, .int x3]) (rest := []) C E hw F_X4_canPut (ctX4_canPut l (cI := cI) (D := D) (q := q) S_1 x2 x3 _ hu_5) km_X4_75 0 rfl rfl rfl hl.1 rfl (Nat.le_of_ble_eq_true rfl) ⟨(Nat.le_of_ble_eq_true rfl), (Nat.le_of_ble_eq_true rfl)⟩ ⟨(Nat.le_of_ble_eq_true rfl), (Nat.le_of_ble_eq_true rfl)⟩ dX4_matchesIfUnder_22) (fun H locs hw => ?_)
    refine lv_if_eq (tgt := 38) C.1 C.2.1 dX4_matchesIfUnder_25 (by decide) (fun hc => ?_) (fun hc => ?_)
    · have hf := ift hc hf
      refine lv_iconst (v := 0) C.1 C.2.1 dX4_matchesIfUnder_38 (by decide) ?_
      exact g_iret C hw (Nat.le_of_ble_eq_true rfl) (Nat.le_of_ble_eq_true rfl) ⟨congrArg Prod.fst (Option.some.inj hf), congrArg Prod.snd (Option.some.inj hf)⟩ dX4_matchesIfUnder_39
    · have hf := iff_ hc hf
      refine lv_aload_n C.1 C.2.1 dX4_matchesIfUnder_28 rfl (lv_at hl 0 rfl) ?_
      refine lv_iload_n C.1 C.2.1 dX4_matchesIfUnder_29 rfl (lv_at hl 1 rfl) ?_
      refine lv_iload_n C.1 C.2.1 dX4_matchesIfUnder_30 rfl (lv_at hl 2 rfl) ?_
      refine lv_iload_n C.1 C.2.1 dX4_matchesIfUnder_31 rfl (lv_at hl 3 rfl) ?_
      obtain ⟨⟨v_6, S_7⟩, hu_8, hf⟩ := bnd hf
      have hf := pr_r hf
      refine g_cie (wf := (mw cI q)) (S := S_4) (rest := []) mw_adr hw (g_runV (rm := ({ frames := 2, cells := 0, slots := 0, locals := 45 } : Room)) (As := [.int x1, .int x2, .int x3]) (rest := []) C E hw F_X4_matchesWith (ctX4_matchesWith l (cI := cI) (D := D) (q := q) S_4 x1 x2 x3 _ hu_8) km_X4_136 0 rfl rfl rfl hl.1 rfl (Nat.le_of_ble_eq_true rfl) ⟨(Nat.le_of_ble_eq_true rfl), (Nat.le_of_ble_eq_true rfl)⟩ ⟨(Nat.le_of_ble_eq_true rfl), (Nat.le_of_ble_eq_true rfl)⟩ dX4_matchesIfUnder_32) (fun H locs hw => ?_)
      refine lv_goto (tgt := 39) C.1 C.2.1 dX4_matchesIfUnder_35 (by decide) ?_
      exact g_iret C hw (Nat.le_of_ble_eq_true rfl) (Nat.le_of_ble_eq_true rfl) ⟨congrArg Prod.fst (Option.some.inj hf), congrArg Prod.snd (Option.some.inj hf)⟩ dX4_matchesIfUnder_39
  · have hf := ift hc hf
    refine lv_aload_n C.1 C.2.1 dX4_matchesIfUnder_13 rfl (lv_at hl 0 rfl) ?_
    refine lv_iconst (v := 1) C.1 C.2.1 dX4_matchesIfUnder_14 (by decide) ?_
    obtain ⟨⟨v_9, S_10⟩, hu_11, hf⟩ := bnd hf
    have hf := pr_r hf
    refine g_cie (wf := (mw cI q)) (S := S_1) (rest := []) mw_adr hw (g_runV (rm := ({ frames := 0, cells := 0, slots := 0, locals := 0 } : Room)) (As := [.int 1]) (rest := []) C E hw F_X4_fail (ctX4_fail l (cI := cI) (D := D) (q := q) S_1 1 _ hu_11) km_X4_68 0 rfl rfl rfl hl.1 rfl (Nat.le_of_ble_eq_true rfl) ⟨(Nat.le_of_ble_eq_true rfl), (Nat.le_of_ble_eq_true rfl)⟩ ⟨(Nat.le_of_ble_eq_true rfl), (Nat.le_of_ble_eq_true rfl)⟩ dX4_matchesIfUnder_15) (fun H locs hw => ?_)
    exact g_iret C hw (Nat.le_of_ble_eq_true rfl) (Nat.le_of_ble_eq_true rfl) ⟨congrArg Prod.fst (Option.some.inj hf), congrArg Prod.snd (Option.some.inj hf)⟩ dX4_matchesIfUnder_18
/-! DreamLedgerModel.bestParent -/
def fX4_bestParent_21 (S : St) : Option (Int32 × St) :=
  Option.bind (fX4_fail S 1) fun u_10 => pr u_10 fun v_8 S_9 =>
  some (v_8, S_9)
set_option maxHeartbeats 4000000 in
set_option maxRecDepth 100000 in
theorem wX4_bestParent_21 {p : Program} {l : Launch} {e : Env} {s : State} {m : MethodId} {args : Array Value} {below : List Frame} {meth : Method} {c : Code} {D : va_G} {cI : ClassId} {q : Nat → Nat} (C : Ctx p s m args meth c cX4_bestParent 7 RX4 (some .int)) (E : gE D cI s) {S0 : St} {r1 : Int32} {S1 : St} : ∀ (S : St), fX4_bestParent_21 S = some (r1, S1) → ∀ (H : Heap) (locs : List Loc) (ls : Array Slot), gW D ((mw cI q) S0) ((mw cI q) S) s H locs → lv_has ls 7 [(0, .ref (q 0))] → W p l e ({ frames := 3, cells := 0, slots := 0, locals := 69 } : Room) s m args below meth c H locs 0 0 (MQ below (gQi D (mw cI q) S0 (fun (r : Int32) (u : St) => r = r1 ∧ u = S1) s.heap.size) args s 0 0 (va_A ((mw cI q) S0) s.heap.size)) (F0 m 21 ls []) := by
  intro S hf H locs ls hw hl
  unfold fX4_bestParent_21 at hf
  refine lv_aload_n C.1 C.2.1 dX4_bestParent_21 rfl (lv_at hl 0 rfl) ?_
  refine lv_iconst (v := 1) C.1 C.2.1 dX4_bestParent_22 (by decide) ?_
  obtain ⟨⟨v_8, S_9⟩, hu_10, hf⟩ := bnd hf
  have hf := pr_r hf
  refine g_cie (wf := (mw cI q)) (S := S) (rest := []) mw_adr hw (g_runV (rm := ({ frames := 0, cells := 0, slots := 0, locals := 0 } : Room)) (As := [.int 1]) (rest := []) C E hw F_X4_fail (ctX4_fail l (cI := cI) (D := D) (q := q) S 1 _ hu_10) km_X4_68 0 rfl rfl rfl hl.1 rfl (Nat.le_of_ble_eq_true rfl) ⟨(Nat.le_of_ble_eq_true rfl), (Nat.le_of_ble_eq_true rfl)⟩ ⟨(Nat.le_of_ble_eq_true rfl), (Nat.le_of_ble_eq_true rfl)⟩ dX4_bestParent_23) (fun H locs hw => ?_)
  exact g_iret C hw (Nat.le_of_ble_eq_true rfl) (Nat.le_of_ble_eq_true rfl) ⟨congrArg Prod.fst (Option.some.inj hf), congrArg Prod.snd (Option.some.inj hf)⟩ dX4_bestParent_26
def fX4_bestParent_46 (x1 : Int32) (x2 : Int32) : Nat → St → Int32 → Int32 → Int32 → Option (Int32 × St)
  | 0, _, _, _, _ => none
  | n + 1, S, x3, x4, x5 =>
    if (S 11 0) ≤ x5 then
      some (x3, S)
    else
      if x5 = x2 then
        Option.bind (some (x5 + 1)) fun x5_11 =>
        fX4_bestParent_46 x1 x2 n S x3 x4 x5_11
      else
        Option.bind (fX4_below S x5 x2) fun v_12 =>
        if v_12 = 0 then
          Option.bind (fX4_matchesWith S x1 x2 x5) fun u_15 => pr u_15 fun v_13 S_14 =>
          if x4 < v_13 then
            Option.bind (some (x5 + 1)) fun x5_16 =>
            fX4_bestParent_46 x1 x2 n S_14 x5 v_13 x5_16
          else
            Option.bind (some (x5 + 1)) fun x5_17 =>
            fX4_bestParent_46 x1 x2 n S_14 x3 x4 x5_17
        else
          Option.bind (some (x5 + 1)) fun x5_18 =>
          fX4_bestParent_46 x1 x2 n S x3 x4 x5_18
set_option maxHeartbeats 4000000 in
set_option maxRecDepth 100000 in
theorem wX4_bestParent_46 {p : Program} {l : Launch} {e : Env} {s : State} {m : MethodId} {args : Array Value} {below : List Frame} {meth : Method} {c : Code} {D : va_G} {cI : ClassId} {q : Nat → Nat} (C : Ctx p s m args meth c cX4_bestParent 7 RX4 (some .int)) (E : gE D cI s) {S0 : St} {r1 : Int32} {S1 : St} (x1 : Int32) (x2 : Int32) : ∀ (n : Nat) (S : St) (x3 : Int32) (x4 : Int32) (x5 : Int32), fX4_bestParent_46 x1 x2 n S x3 x4 x5 = some (r1, S1) → ∀ (H : Heap) (locs : List Loc) (ls : Array Slot), gW D ((mw cI q) S0) ((mw cI q) S) s H locs → lv_has ls 7 [(0, .ref (q 0)), (1, .int x1), (2, .int x2), (3, .int x3), (4, .int x4), (5, .int x5)] → W p l e ({ frames := 3, cells := 0, slots := 0, locals := 69 } : Room) s m args below meth c H locs 0 0 (MQ below (gQi D (mw cI q) S0 (fun (r : Int32) (u : St) => r = r1 ∧ u = S1) s.heap.size) args s 0 0 (va_A ((mw cI q) S0) s.heap.size)) (F0 m 46 ls []) := by
  intro n
  induction n with
  | zero => intro S x3 x4 x5 hf; rw [fX4_bestParent_46] at hf; cases hf
  | succ n ih =>
    intro S x3 x4 x5 hf H locs ls hw hl
    rw [fX4_bestParent_46] at hf
    refine lv_iload C.1 C.2.1 dX4_bestParent_46 (lv_at hl 5 rfl) ?_
    refine lv_aload_n C.1 C.2.1 dX4_bestParent_48 rfl (lv_at hl 0 rfl) ?_
    refine g_get C E hw inW4 0 rfl rfl 1 (by decide) kf_X4_44 rfl dX4_bestParent_49 ?_
    refine lv_icmp_ge (tgt := 107) C.1 C.2.1 dX4_bestParent_52 (by decide) (fun hc => ?_) (fun hc => ?_)
    · have hf := ift hc hf
      refine lv_iload_n C.1 C.2.1 dX4_bestParent_107 rfl (lv_at hl 3 rfl) ?_
      exact g_iret C hw (Nat.le_of_ble_eq_true rfl) (Nat.le_of_ble_eq_true rfl) ⟨congrArg Prod.fst (Option.some.inj hf), congrArg Prod.snd (Option.some.inj hf)⟩ dX4_bestParent_108
    · have hf := iff_ hc hf
      refine lv_iload C.1 C.2.1 dX4_bestParent_55 (lv_at hl 5 rfl) ?_
      refine lv_iload_n C.1 C.2.1 dX4_bestParent_57 rfl (lv_at hl 2 rfl) ?_
      refine lv_icmp_eq (tgt := 101) C.1 C.2.1 dX4_bestParent_58 (by decide) (fun hc => ?_) (fun hc => ?_)
      · have hf := ift hc hf
        obtain ⟨x5_11, hx5_11, hf⟩ := bnd hf
        refine lv_iinc (v := x5_11) (lv' := [(5, .int x5_11), (0, .ref (q 0)), (1, .int x1), (2, .int x2), (3, .int x3), (4, .int x4)]) C.1 C.2.1 dX4_bestParent_101 hl (k := 5) rfl (inc1 hx5_11) (by decide) rfl (fun ls hl => ?_)
        refine lv_goto (tgt := 46) C.1 C.2.1 dX4_bestParent_104 (by decide) ?_
        exact ih S x3 x4 x5_11 hf _ _ _ hw (lv_sub hl [1, 2, 3, 4, 5, 0] rfl)
      · have hf := iff_ hc hf
        refine lv_aload_n C.1 C.2.1 dX4_bestParent_61 rfl (lv_at hl 0 rfl) ?_
        refine lv_iload C.1 C.2.1 dX4_bestParent_62 (lv_at hl 5 rfl) ?_
        refine lv_iload_n C.1 C.2.1 dX4_bestParent_64 rfl (lv_at hl 2 rfl) ?_
        obtain ⟨v_12, hv_12, hf⟩ := bnd hf
        refine g_cie (wf := (mw cI q)) (S := S) (rest := []) mw_adr hw (g_runV (rm := ({ frames := 1, cells := 0, slots := 0, locals := 23 } : Room)) (As := [.int x5, .int x2]) (rest := []) C E hw F_X4_below (ctX4_below l (cI := cI) (D := D) (q := q) S x5 x2 _ hv_12) km_X4_65 0 rfl rfl rfl hl.1 rfl (Nat.le_of_ble_eq_true rfl) ⟨(Nat.le_of_ble_eq_true rfl), (Nat.le_of_ble_eq_true rfl)⟩ ⟨(Nat.le_of_ble_eq_true rfl), (Nat.le_of_ble_eq_true rfl)⟩ dX4_bestParent_65) (fun H locs hw => ?_)
        refine lv_if_eq (tgt := 74) C.1 C.2.1 dX4_bestParent_68 (by decide) (fun hc => ?_) (fun hc => ?_)
        · have hf := ift hc hf
          refine lv_aload_n C.1 C.2.1 dX4_bestParent_74 rfl (lv_at hl 0 rfl) ?_
          refine lv_iload_n C.1 C.2.1 dX4_bestParent_75 rfl (lv_at hl 1 rfl) ?_
          refine lv_iload_n C.1 C.2.1 dX4_bestParent_76 rfl (lv_at hl 2 rfl) ?_
          refine lv_iload C.1 C.2.1 dX4_bestParent_77 (lv_at hl 5 rfl) ?_
          obtain ⟨⟨v_13, S_14⟩, hu_15, hf⟩ := bnd hf
          have hf := pr_r hf
          refine g_cie (wf := (mw cI q)) (S := S) (rest := []) mw_adr hw (g_runV (rm := ({ frames := 2, cells := 0, slots := 0, locals := 45 } : Room)) (As := [.int x1, .int x2, .int x5]) (rest := []) C E hw F_X4_matchesWith (ctX4_matchesWith l (cI := cI) (D := D) (q := q) S x1 x2 x5 _ hu_15) km_X4_136 0 rfl rfl rfl hl.1 rfl (Nat.le_of_ble_eq_true rfl) ⟨(Nat.le_of_ble_eq_true rfl), (Nat.le_of_ble_eq_true rfl)⟩ ⟨(Nat.le_of_ble_eq_true rfl), (Nat.le_of_ble_eq_true rfl)⟩ dX4_bestParent_79) (fun H locs hw => ?_)
          refine lv_istore (lv' := [(6, .int v_13), (0, .ref (q 0)), (1, .int x1), (2, .int x2), (3, .int x3), (4, .int x4), (5, .int x5)]) C.1 C.2.1 dX4_bestParent_82 hl (by decide) rfl (fun ls hl => ?_)
          refine lv_iload C.1 C.2.1 dX4_bestParent_84 (lv_at hl 0 rfl) ?_
          refine lv_iload C.1 C.2.1 dX4_bestParent_86 (lv_at hl 5 rfl) ?_
          refine lv_icmp_gt (tgt := 94) C.1 C.2.1 dX4_bestParent_88 (by decide) (fun hc => ?_) (fun hc => ?_)
          · have hf := ift hc hf
            refine lv_iload C.1 C.2.1 dX4_bestParent_94 (lv_at hl 6 rfl) ?_
            refine lv_istore_n (lv' := [(3, .int x5), (6, .int v_13), (0, .ref (q 0)), (1, .int x1), (2, .int x2), (4, .int x4), (5, .int x5)]) C.1 C.2.1 dX4_bestParent_96 rfl hl (by decide) rfl (fun ls hl => ?_)
            refine lv_iload C.1 C.2.1 dX4_bestParent_97 (lv_at hl 1 rfl) ?_
            refine lv_istore (lv' := [(4, .int v_13), (3, .int x5), (6, .int v_13), (0, .ref (q 0)), (1, .int x1), (2, .int x2), (5, .int x5)]) C.1 C.2.1 dX4_bestParent_99 hl (by decide) rfl (fun ls hl => ?_)
            obtain ⟨x5_16, hx5_16, hf⟩ := bnd hf
            refine lv_iinc (v := x5_16) (lv' := [(5, .int x5_16), (4, .int v_13), (3, .int x5), (6, .int v_13), (0, .ref (q 0)), (1, .int x1), (2, .int x2)]) C.1 C.2.1 dX4_bestParent_101 hl (k := 6) rfl (inc1 hx5_16) (by decide) rfl (fun ls hl => ?_)
            refine lv_goto (tgt := 46) C.1 C.2.1 dX4_bestParent_104 (by decide) ?_
            exact ih S_14 x5 v_13 x5_16 hf _ _ _ hw (lv_sub hl [4, 5, 6, 2, 1, 0] rfl)
          · have hf := iff_ hc hf
            refine lv_goto (tgt := 101) C.1 C.2.1 dX4_bestParent_91 (by decide) ?_
            obtain ⟨x5_17, hx5_17, hf⟩ := bnd hf
            refine lv_iinc (v := x5_17) (lv' := [(5, .int x5_17), (6, .int v_13), (0, .ref (q 0)), (1, .int x1), (2, .int x2), (3, .int x3), (4, .int x4)]) C.1 C.2.1 dX4_bestParent_101 hl (k := 6) rfl (inc1 hx5_17) (by decide) rfl (fun ls hl => ?_)
            refine lv_goto (tgt := 46) C.1 C.2.1 dX4_bestParent_104 (by decide) ?_
            exact ih S_14 x3 x4 x5_17 hf _ _ _ hw (lv_sub hl [2, 3, 4, 5, 6, 0] rfl)
        · have hf := iff_ hc hf
          refine lv_goto (tgt := 101) C.1 C.2.1 dX4_bestParent_71 (by decide) ?_
          obtain ⟨x5_18, hx5_18, hf⟩ := bnd hf
          refine lv_iinc (v := x5_18) (lv' := [(5, .int x5_18), (0, .ref (q 0)), (1, .int x1), (2, .int x2), (3, .int x3), (4, .int x4)]) C.1 C.2.1 dX4_bestParent_101 hl (k := 5) rfl (inc1 hx5_18) (by decide) rfl (fun ls hl => ?_)
          refine lv_goto (tgt := 46) C.1 C.2.1 dX4_bestParent_104 (by decide) ?_
          exact ih S x3 x4 x5_18 hf _ _ _ hw (lv_sub hl [1, 2, 3, 4, 5, 0] rfl)
def fX4_bestParent (S : St) (x1 : Int32) (x2 : Int32) : Option (Int32 × St) :=
  Option.bind (some (up S 10 0 0)) fun S_1 =>
  Option.bind (fX4_isTerm S_1 x1) fun v_2 =>
  if v_2 = 0 then
    fX4_bestParent_21 S_1
  else
    Option.bind (fX4_isTag S_1 x2) fun v_3 =>
    if v_3 = 0 then
      fX4_bestParent_21 S_1
    else
      Option.bind (ld S_1 0 16 x2) fun v_4 =>
      Option.bind (fX4_matchesWith S_1 x1 x2 v_4) fun u_7 => pr u_7 fun v_5 S_6 =>
      fX4_bestParent_46 x1 x2 100 S_6 (-1) v_5 0
set_option maxHeartbeats 4000000 in
set_option maxRecDepth 100000 in
theorem ctX4_bestParent (l : Launch) {D : va_G} {cI : ClassId} {q : Nat → Nat} (S : St) (x1 : Int32) (x2 : Int32) (sz : Nat) {r1 : Int32} {S1 : St} (hf : fX4_bestParent S x1 x2 = some (r1, S1)) : Met l yX4_bestParent (Cond.code yX4_bestParent cX4_bestParent 7 (some .int) :: XALL) ({ frames := 3, cells := 0, slots := 0, locals := 69 } : Room) (va_Pc [.ref (q 0), .int x1, .int x2] (gPre D cI ((mw cI q) S) sz)) (gQi D (mw cI q) S (fun (r : Int32) (u : St) => r = r1 ∧ u = S1) sz) 0 0 (va_A ((mw cI q) S) sz) := by
  unfold fX4_bestParent at hf
  refine Met.ofW (cc := cX4_bestParent) (maxL := 7) (ret := (some .int)) (by decide) rfl ?_
  intro p e s m args below meth c s₁ B hml hv
  obtain ⟨rfl, hg⟩ := hv
  have C : Ctx p s m _ meth c cX4_bestParent 7 RX4 (some .int) := Ctx.of B hml rfl
  obtain ⟨E, hw, hsz⟩ := g_start hg
  subst hsz
  have hl := lv_entry ([.ref (q 0), .int x1, .int x2]) (n := 7) (Nat.le_of_ble_eq_true rfl)
  rw [lg_entry_eq]
  generalize (lg_sl ([.ref (q 0), .int x1, .int x2]) ++ List.replicate (7 - (lg_sl ([.ref (q 0), .int x1, .int x2])).length) Slot.unset).toArray = ls at hl ⊢
  have hl : lv_has ls 7 [(0, .ref (q 0)), (1, .int x1), (2, .int x2)] := hl
  refine lv_aload_n C.1 C.2.1 dX4_bestParent_0 rfl (lv_at hl 0 rfl) ?_
  refine lv_iconst (v := 0) C.1 C.2.1 dX4_bestParent_1 (by decide) ?_
  obtain ⟨S_1, hS_1, hf⟩ := bnd hf
  refine g_put C E hw inW4 tyX4 tyX4_ok nmX4 0 rfl rfl 0 (by decide) kf_X4_40 rfl (by decide +kernel) (Nat.le_of_ble_eq_true rfl) (ws' := (mw cI q) S_1) (by rw [← Option.some.inj hS_1]; rfl) dX4_bestParent_2 (fun H locs hw => ?_)
  refine lv_aload_n C.1 C.2.1 dX4_bestParent_5 rfl (lv_at hl 0 rfl) ?_
  refine lv_iload_n C.1 C.2.1 dX4_bestParent_6 rfl (lv_at hl 1 rfl) ?_
  obtain ⟨v_2, hv_2, hf⟩ := bnd hf
  refine g_cie (wf := (mw cI q)) (S := S_1) (rest := []) mw_adr hw (g_runV (rm := ({ frames := 1, cells := 0, slots := 0, locals := 22 } : Room)) (As := [.int x1]) (rest := []) C E hw F_X4_isTerm (ctX4_isTerm l (cI := cI) (D := D) (q := q) S_1 x1 _ hv_2) km_X4_106 0 rfl rfl rfl hl.1 rfl (Nat.le_of_ble_eq_true rfl) ⟨(Nat.le_of_ble_eq_true rfl), (Nat.le_of_ble_eq_true rfl)⟩ ⟨(Nat.le_of_ble_eq_true rfl), (Nat.le_of_ble_eq_true rfl)⟩ dX4_bestParent_7) (fun H locs hw => ?_)
  refine lv_if_eq (tgt := 21) C.1 C.2.1 dX4_bestParent_10 (by decide) (fun hc => ?_) (fun hc => ?_)
  · have hf := ift hc hf
    exact wX4_bestParent_21 C E S_1 hf _ _ _ hw (lv_sub hl [0] rfl)
  · have hf := iff_ hc hf
    refine lv_aload_n C.1 C.2.1 dX4_bestParent_13 rfl (lv_at hl 0 rfl) ?_
    refine lv_iload_n C.1 C.2.1 dX4_bestParent_14 rfl (lv_at hl 2 rfl) ?_
    obtain ⟨v_3, hv_3, hf⟩ := bnd hf
    refine g_cie (wf := (mw cI q)) (S := S_1) (rest := []) mw_adr hw (g_runV (rm := ({ frames := 1, cells := 0, slots := 0, locals := 22 } : Room)) (As := [.int x2]) (rest := []) C E hw F_X4_isTag (ctX4_isTag l (cI := cI) (D := D) (q := q) S_1 x2 _ hv_3) km_X4_71 0 rfl rfl rfl hl.1 rfl (Nat.le_of_ble_eq_true rfl) ⟨(Nat.le_of_ble_eq_true rfl), (Nat.le_of_ble_eq_true rfl)⟩ ⟨(Nat.le_of_ble_eq_true rfl), (Nat.le_of_ble_eq_true rfl)⟩ dX4_bestParent_15) (fun H locs hw => ?_)
    refine lv_if_ne (tgt := 27) C.1 C.2.1 dX4_bestParent_18 (by decide) (fun hc => ?_) (fun hc => ?_)
    · have hf := iff_ hc hf
      refine lv_iconst (v := (-1)) C.1 C.2.1 dX4_bestParent_27 (by decide) ?_
      refine lv_istore_n (lv' := [(3, .int (-1)), (0, .ref (q 0)), (1, .int x1), (2, .int x2)]) C.1 C.2.1 dX4_bestParent_28 rfl hl (by decide) rfl (fun ls hl => ?_)
      refine lv_aload_n C.1 C.2.1 dX4_bestParent_29 rfl (lv_at hl 1 rfl) ?_
      refine lv_iload_n C.1 C.2.1 dX4_bestParent_30 rfl (lv_at hl 2 rfl) ?_
      refine lv_iload_n C.1 C.2.1 dX4_bestParent_31 rfl (lv_at hl 3 rfl) ?_
      refine lv_aload_n C.1 C.2.1 dX4_bestParent_32 rfl (lv_at hl 1 rfl) ?_
      refine g_get C E hw inW4 0 rfl rfl 5 (by decide) kf_X4_9 rfl dX4_bestParent_33 ?_
      refine lv_iload_n C.1 C.2.1 dX4_bestParent_36 rfl (lv_at hl 3 rfl) ?_
      obtain ⟨v_4, hv_4, hf⟩ := bnd hf
      refine g_ald C E hw 1 rfl (ld_some hv_4) dX4_bestParent_37 ?_
      obtain ⟨⟨v_5, S_6⟩, hu_7, hf⟩ := bnd hf
      have hf := pr_r hf
      refine g_cie (wf := (mw cI q)) (S := S_1) (rest := []) mw_adr hw (g_runV (rm := ({ frames := 2, cells := 0, slots := 0, locals := 45 } : Room)) (As := [.int x1, .int x2, .int v_4]) (rest := []) C E hw F_X4_matchesWith (ctX4_matchesWith l (cI := cI) (D := D) (q := q) S_1 x1 x2 v_4 _ hu_7) km_X4_136 0 rfl rfl rfl hl.1 rfl (Nat.le_of_ble_eq_true rfl) ⟨(Nat.le_of_ble_eq_true rfl), (Nat.le_of_ble_eq_true rfl)⟩ ⟨(Nat.le_of_ble_eq_true rfl), (Nat.le_of_ble_eq_true rfl)⟩ dX4_bestParent_38) (fun H locs hw => ?_)
      refine lv_istore (lv' := [(4, .int v_5), (3, .int (-1)), (0, .ref (q 0)), (1, .int x1), (2, .int x2)]) C.1 C.2.1 dX4_bestParent_41 hl (by decide) rfl (fun ls hl => ?_)
      refine lv_iconst (v := 0) C.1 C.2.1 dX4_bestParent_43 (by decide) ?_
      refine lv_istore (lv' := [(5, .int 0), (4, .int v_5), (3, .int (-1)), (0, .ref (q 0)), (1, .int x1), (2, .int x2)]) C.1 C.2.1 dX4_bestParent_44 hl (by decide) rfl (fun ls hl => ?_)
      exact wX4_bestParent_46 C E x1 x2 100 S_6 (-1) v_5 0 hf _ _ _ hw (lv_sub hl [3, 4, 5, 2, 1, 0] rfl)
    · have hf := ift hc hf
      exact wX4_bestParent_21 C E S_1 hf _ _ _ hw (lv_sub hl [0] rfl)
/-! DreamLedgerModel.meanVividness -/
def fX4_meanVividness_9 : Nat → St → Int32 → Int32 → Option (UInt64 × St)
  | 0, _, _, _ => none
  | n + 1, S, x1, x2 =>
    if (S 12 0) ≤ x2 then
      if (S 12 0) = 0 then
        some (0, S)
      else
        Option.bind (dv (FP.i2d x1) (FP.i2d (S 12 0))) fun v_2 =>
        some (v_2, S)
    else
      Option.bind (ld S 2 24 x2) fun v_3 =>
      Option.bind (some ((x1 + v_3))) fun x1_4 =>
      Option.bind (some (x2 + 1)) fun x2_5 =>
      fX4_meanVividness_9 n S x1_4 x2_5
set_option maxHeartbeats 4000000 in
set_option maxRecDepth 100000 in
theorem wX4_meanVividness_9 {p : Program} {l : Launch} {e : Env} {s : State} {m : MethodId} {args : Array Value} {below : List Frame} {meth : Method} {c : Code} {D : va_G} {cI : ClassId} {q : Nat → Nat} (C : Ctx p s m args meth c cX4_meanVividness 3 RX4 (some .double)) (E : gE D cI s) {S0 : St} {r1 : UInt64} {S1 : St} : ∀ (n : Nat) (S : St) (x1 : Int32) (x2 : Int32), fX4_meanVividness_9 n S x1 x2 = some (r1, S1) → ∀ (H : Heap) (locs : List Loc) (ls : Array Slot), gW D ((mw cI q) S0) ((mw cI q) S) s H locs → lv_has ls 3 [(0, .ref (q 0)), (1, .int x1), (2, .int x2)] → W p l e ({ frames := 0, cells := 0, slots := 0, locals := 0 } : Room) s m args below meth c H locs 0 0 (MQ below (gQd D (mw cI q) S0 (fun (r : UInt64) (u : St) => r = r1 ∧ u = S1) s.heap.size) args s 0 0 (va_A ((mw cI q) S0) s.heap.size)) (F0 m 9 ls []) := by
  intro n
  induction n with
  | zero => intro S x1 x2 hf; rw [fX4_meanVividness_9] at hf; cases hf
  | succ n ih =>
    intro S x1 x2 hf H locs ls hw hl
    rw [fX4_meanVividness_9] at hf
    refine lv_iload_n C.1 C.2.1 dX4_meanVividness_9 rfl (lv_at hl 2 rfl) ?_
    refine lv_aload_n C.1 C.2.1 dX4_meanVividness_10 rfl (lv_at hl 0 rfl) ?_
    refine g_get C E hw inW4 0 rfl rfl 2 (by decide) kf_X4_51 rfl dX4_meanVividness_11 ?_
    refine lv_icmp_ge (tgt := 32) C.1 C.2.1 dX4_meanVividness_14 (by decide) (fun hc => ?_) (fun hc => ?_)
    · have hf := ift hc hf
      refine lv_aload_n C.1 C.2.1 dX4_meanVividness_32 rfl (lv_at hl 0 rfl) ?_
      refine g_get C E hw inW4 0 rfl rfl 2 (by decide) kf_X4_51 rfl dX4_meanVividness_33 ?_
      refine lv_if_ne (tgt := 43) C.1 C.2.1 dX4_meanVividness_36 (by decide) (fun hc => ?_) (fun hc => ?_)
      · have hf := iff_ hc hf
        refine lv_iload_n C.1 C.2.1 dX4_meanVividness_43 rfl (lv_at hl 1 rfl) ?_
        refine lv_i2d C.1 C.2.1 dX4_meanVividness_44 ?_
        refine lv_aload_n C.1 C.2.1 dX4_meanVividness_45 rfl (lv_at hl 0 rfl) ?_
        refine g_get C E hw inW4 0 rfl rfl 2 (by decide) kf_X4_51 rfl dX4_meanVividness_46 ?_
        refine lv_i2d C.1 C.2.1 dX4_meanVividness_49 ?_
        obtain ⟨v_2, hv_2, hf⟩ := bnd hf
        refine g_ddiv C hv_2 dX4_meanVividness_50 ?_
        exact g_dret C hw (Nat.le_of_ble_eq_true rfl) (Nat.le_of_ble_eq_true rfl) ⟨congrArg Prod.fst (Option.some.inj hf), congrArg Prod.snd (Option.some.inj hf)⟩ dX4_meanVividness_51
      · have hf := ift hc hf
        refine g_dconst0 C dX4_meanVividness_39 ?_
        refine lv_goto (tgt := 51) C.1 C.2.1 dX4_meanVividness_40 (by decide) ?_
        exact g_dret C hw (Nat.le_of_ble_eq_true rfl) (Nat.le_of_ble_eq_true rfl) ⟨congrArg Prod.fst (Option.some.inj hf), congrArg Prod.snd (Option.some.inj hf)⟩ dX4_meanVividness_51
    · have hf := iff_ hc hf
      refine lv_iload_n C.1 C.2.1 dX4_meanVividness_17 rfl (lv_at hl 1 rfl) ?_
      refine lv_aload_n C.1 C.2.1 dX4_meanVividness_18 rfl (lv_at hl 0 rfl) ?_
      refine g_get C E hw inW4 0 rfl rfl 7 (by decide) kf_X4_16 rfl dX4_meanVividness_19 ?_
      refine lv_iload_n C.1 C.2.1 dX4_meanVividness_22 rfl (lv_at hl 2 rfl) ?_
      obtain ⟨v_3, hv_3, hf⟩ := bnd hf
      refine g_ald C E hw 3 rfl (ld_some hv_3) dX4_meanVividness_23 ?_
      refine lv_iadd C.1 C.2.1 dX4_meanVividness_24 ?_
      obtain ⟨x1_4, hx1_4, hf⟩ := bnd hf
      refine topi_b hx1_4 ?_
      refine lv_istore_n (lv' := [(1, .int x1_4), (0, .ref (q 0)), (2, .int x2)]) C.1 C.2.1 dX4_meanVividness_25 rfl hl (by decide) rfl (fun ls hl => ?_)
      obtain ⟨x2_5, hx2_5, hf⟩ := bnd hf
      refine lv_iinc (v := x2_5) (lv' := [(2, .int x2_5), (1, .int x1_4), (0, .ref (q 0))]) C.1 C.2.1 dX4_meanVividness_26 hl (k := 2) rfl (inc1 hx2_5) (by decide) rfl (fun ls hl => ?_)
      refine lv_goto (tgt := 9) C.1 C.2.1 dX4_meanVividness_29 (by decide) ?_
      exact ih S x1_4 x2_5 hf _ _ _ hw (lv_sub hl [2, 1, 0] rfl)
def fX4_meanVividness (S : St) : Option (UInt64 × St) :=
  Option.bind (some (up S 10 0 0)) fun S_1 =>
  fX4_meanVividness_9 100 S_1 0 0
set_option maxHeartbeats 4000000 in
set_option maxRecDepth 100000 in
theorem ctX4_meanVividness (l : Launch) {D : va_G} {cI : ClassId} {q : Nat → Nat} (S : St) (sz : Nat) {r1 : UInt64} {S1 : St} (hf : fX4_meanVividness S = some (r1, S1)) : Met l yX4_meanVividness (Cond.code yX4_meanVividness cX4_meanVividness 3 (some .double) :: XALL) ({ frames := 0, cells := 0, slots := 0, locals := 0 } : Room) (va_Pc [.ref (q 0)] (gPre D cI ((mw cI q) S) sz)) (gQd D (mw cI q) S (fun (r : UInt64) (u : St) => r = r1 ∧ u = S1) sz) 0 0 (va_A ((mw cI q) S) sz) := by
  unfold fX4_meanVividness at hf
  refine Met.ofW (cc := cX4_meanVividness) (maxL := 3) (ret := (some .double)) (by decide) rfl ?_
  intro p e s m args below meth c s₁ B hml hv
  obtain ⟨rfl, hg⟩ := hv
  have C : Ctx p s m _ meth c cX4_meanVividness 3 RX4 (some .double) := Ctx.of B hml rfl
  obtain ⟨E, hw, hsz⟩ := g_start hg
  subst hsz
  have hl := lv_entry ([.ref (q 0)]) (n := 3) (Nat.le_of_ble_eq_true rfl)
  rw [lg_entry_eq]
  generalize (lg_sl ([.ref (q 0)]) ++ List.replicate (3 - (lg_sl ([.ref (q 0)])).length) Slot.unset).toArray = ls at hl ⊢
  have hl : lv_has ls 3 [(0, .ref (q 0))] := hl
  refine lv_aload_n C.1 C.2.1 dX4_meanVividness_0 rfl (lv_at hl 0 rfl) ?_
  refine lv_iconst (v := 0) C.1 C.2.1 dX4_meanVividness_1 (by decide) ?_
  obtain ⟨S_1, hS_1, hf⟩ := bnd hf
  refine g_put C E hw inW4 tyX4 tyX4_ok nmX4 0 rfl rfl 0 (by decide) kf_X4_40 rfl (by decide +kernel) (Nat.le_of_ble_eq_true rfl) (ws' := (mw cI q) S_1) (by rw [← Option.some.inj hS_1]; rfl) dX4_meanVividness_2 (fun H locs hw => ?_)
  refine lv_iconst (v := 0) C.1 C.2.1 dX4_meanVividness_5 (by decide) ?_
  refine lv_istore_n (lv' := [(1, .int 0), (0, .ref (q 0))]) C.1 C.2.1 dX4_meanVividness_6 rfl hl (by decide) rfl (fun ls hl => ?_)
  refine lv_iconst (v := 0) C.1 C.2.1 dX4_meanVividness_7 (by decide) ?_
  refine lv_istore_n (lv' := [(2, .int 0), (1, .int 0), (0, .ref (q 0))]) C.1 C.2.1 dX4_meanVividness_8 rfl hl (by decide) rfl (fun ls hl => ?_)
  exact wX4_meanVividness_9 C E 100 S_1 0 0 hf _ _ _ hw (lv_sub hl [2, 1, 0] rfl)
/-! DreamLedgerModel.digest -/
def fX4_digest_404 (x4 : Int32) (x5 : Int32) (k283 : St → Int64 → Int32 → Option (Int64 × St)) : Nat → St → Int64 → Int32 → Option (Int64 × St)
  | 0, _, _, _ => none
  | n + 1, S, x2, x7 =>
    if (S 12 0) ≤ x7 then
      Option.bind (some (x4 + 1)) fun x4_51 =>
      k283 S x2 x4_51
    else
      Option.bind (some (((x2 * 31) + (Int32.toInt64 ((x5 >>> (x7 &&& 31)) &&& 1))))) fun x2_52 =>
      Option.bind (some (x7 + 1)) fun x7_53 =>
      fX4_digest_404 x4 x5 k283 n S x2_52 x7_53
set_option maxHeartbeats 4000000 in
set_option maxRecDepth 100000 in
theorem wX4_digest_404 {p : Program} {l : Launch} {e : Env} {s : State} {m : MethodId} {args : Array Value} {below : List Frame} {meth : Method} {c : Code} {D : va_G} {cI : ClassId} {q : Nat → Nat} (C : Ctx p s m args meth c cX4_digest 8 RX4 (some .long)) (E : gE D cI s) {S0 : St} {r1 : Int64} {S1 : St} (x4 : Int32) (x5 : Int32) (k283 : St → Int64 → Int32 → Option (Int64 × St)) (hk283 : ∀ (S : St) (x2 : Int64) (x4 : Int32), k283 S x2 x4 = some (r1, S1) → ∀ (H : Heap) (locs : List Loc) (ls : Array Slot), gW D ((mw cI q) S0) ((mw cI q) S) s H locs → lv_has ls 8 [(0, .ref (q 0)), (2, .long x2), (4, .int x4)] → W p l e ({ frames := 24, cells := 1, slots := 5, locals := 891 } : Room) s m args below meth c H locs 1 5 (MQ below (gQl D (mw cI q) S0 (fun (r : Int64) (u : St) => r = r1 ∧ u = S1) s.heap.size) args s 1 5 (va_A ((mw cI q) S0) s.heap.size)) (F0 m 283 ls [])) : ∀ (n : Nat) (S : St) (x2 : Int64) (x7 : Int32), fX4_digest_404 x4 x5 k283 n S x2 x7 = some (r1, S1) → ∀ (H : Heap) (locs : List Loc) (ls : Array Slot), gW D ((mw cI q) S0) ((mw cI q) S) s H locs → lv_has ls 8 [(0, .ref (q 0)), (2, .long x2), (4, .int x4), (5, .int x5), (7, .int x7)] → W p l e ({ frames := 24, cells := 1, slots := 5, locals := 891 } : Room) s m args below meth c H locs 1 5 (MQ below (gQl D (mw cI q) S0 (fun (r : Int64) (u : St) => r = r1 ∧ u = S1) s.heap.size) args s 1 5 (va_A ((mw cI q) S0) s.heap.size)) (F0 m 404 ls []) := by
  intro n
  induction n with
  | zero => intro S x2 x7 hf; rw [fX4_digest_404] at hf; cases hf
  | succ n ih =>
    intro S x2 x7 hf H locs ls hw hl
    rw [fX4_digest_404] at hf
    refine lv_iload C.1 C.2.1 dX4_digest_404 (lv_at hl 4 rfl) ?_
    refine lv_aload_n C.1 C.2.1 dX4_digest_406 rfl (lv_at hl 0 rfl) ?_
    refine g_get C E hw inW4 0 rfl rfl 2 (by decide) kf_X4_51 rfl dX4_digest_407 ?_
    refine lv_icmp_ge (tgt := 434) C.1 C.2.1 dX4_digest_410 (by decide) (fun hc => ?_) (fun hc => ?_)
    · have hf := ift hc hf
      obtain ⟨x4_51, hx4_51, hf⟩ := bnd hf
      refine lv_iinc (v := x4_51) (lv' := [(4, .int x4_51), (0, .ref (q 0)), (2, .long x2), (5, .int x5), (7, .int x7)]) C.1 C.2.1 dX4_digest_434 hl (k := 2) rfl (inc1 hx4_51) (by decide) rfl (fun ls hl => ?_)
      refine lv_goto (tgt := 283) C.1 C.2.1 dX4_digest_437 (by decide) ?_
      exact hk283 S x2 x4_51 hf _ _ _ hw (lv_sub hl [1, 2, 0] rfl)
    · have hf := iff_ hc hf
      refine lv_lload_n C.1 C.2.1 dX4_digest_413 rfl (lv_at hl 1 rfl) ?_
      refine lv_ldc2 C.1 C.2.1 C.2.2.2.1 (C.2.2.2.2.1 _ kk_X4_141) dX4_digest_414 ?_
      refine lv_lmul C.1 C.2.1 dX4_digest_417 ?_
      refine lv_iload C.1 C.2.1 dX4_digest_418 (lv_at hl 3 rfl) ?_
      refine lv_iload C.1 C.2.1 dX4_digest_420 (lv_at hl 4 rfl) ?_
      refine lv_ishr C.1 C.2.1 dX4_digest_422 ?_
      refine lv_iconst (v := 1) C.1 C.2.1 dX4_digest_423 (by decide) ?_
      refine lv_iand C.1 C.2.1 dX4_digest_424 ?_
      refine lv_i2l (v := (Int32.toInt64 ((x5 >>> (x7 &&& 31)) &&& 1))) C.1 C.2.1 dX4_digest_425 rfl ?_
      refine lv_ladd C.1 C.2.1 dX4_digest_426 ?_
      obtain ⟨x2_52, hx2_52, hf⟩ := bnd hf
      refine topl_b hx2_52 ?_
      refine lv_lstore_n (lv' := [(2, .long x2_52), (0, .ref (q 0)), (4, .int x4), (5, .int x5), (7, .int x7)]) C.1 C.2.1 dX4_digest_427 rfl hl (by decide) rfl (fun ls hl => ?_)
      obtain ⟨x7_53, hx7_53, hf⟩ := bnd hf
      refine lv_iinc (v := x7_53) (lv' := [(7, .int x7_53), (2, .long x2_52), (0, .ref (q 0)), (4, .int x4), (5, .int x5)]) C.1 C.2.1 dX4_digest_428 hl (k := 4) rfl (inc1 hx7_53) (by decide) rfl (fun ls hl => ?_)
      refine lv_goto (tgt := 404) C.1 C.2.1 dX4_digest_431 (by decide) ?_
      exact ih S x2_52 x7_53 hf _ _ _ hw (lv_sub hl [2, 1, 3, 4, 0] rfl)
def fX4_digest_366 (x4 : Int32) (x5 : Int32) (x6 : Int32) (k283 : St → Int64 → Int32 → Option (Int64 × St)) : Nat → St → Int64 → Int32 → Option (Int64 × St)
  | 0, _, _, _ => none
  | n + 1, S, x2, x7 =>
    if (S 11 0) ≤ x7 then
      fX4_digest_404 x4 x5 k283 100 S x2 0
    else
      Option.bind (fX4_is x6 x7) fun v_47 =>
      if v_47 = 0 then
        Option.bind (some (x7 + 1)) fun x7_48 =>
        fX4_digest_366 x4 x5 x6 k283 n S x2 x7_48
      else
        Option.bind (some (((x2 * 31) + (Int32.toInt64 x7)))) fun x2_49 =>
        Option.bind (some (x7 + 1)) fun x7_50 =>
        fX4_digest_366 x4 x5 x6 k283 n S x2_49 x7_50
set_option maxHeartbeats 4000000 in
set_option maxRecDepth 100000 in
theorem wX4_digest_366 {p : Program} {l : Launch} {e : Env} {s : State} {m : MethodId} {args : Array Value} {below : List Frame} {meth : Method} {c : Code} {D : va_G} {cI : ClassId} {q : Nat → Nat} (C : Ctx p s m args meth c cX4_digest 8 RX4 (some .long)) (E : gE D cI s) {S0 : St} {r1 : Int64} {S1 : St} (x4 : Int32) (x5 : Int32) (x6 : Int32) (k283 : St → Int64 → Int32 → Option (Int64 × St)) (hk283 : ∀ (S : St) (x2 : Int64) (x4 : Int32), k283 S x2 x4 = some (r1, S1) → ∀ (H : Heap) (locs : List Loc) (ls : Array Slot), gW D ((mw cI q) S0) ((mw cI q) S) s H locs → lv_has ls 8 [(0, .ref (q 0)), (2, .long x2), (4, .int x4)] → W p l e ({ frames := 24, cells := 1, slots := 5, locals := 891 } : Room) s m args below meth c H locs 1 5 (MQ below (gQl D (mw cI q) S0 (fun (r : Int64) (u : St) => r = r1 ∧ u = S1) s.heap.size) args s 1 5 (va_A ((mw cI q) S0) s.heap.size)) (F0 m 283 ls [])) : ∀ (n : Nat) (S : St) (x2 : Int64) (x7 : Int32), fX4_digest_366 x4 x5 x6 k283 n S x2 x7 = some (r1, S1) → ∀ (H : Heap) (locs : List Loc) (ls : Array Slot), gW D ((mw cI q) S0) ((mw cI q) S) s H locs → lv_has ls 8 [(0, .ref (q 0)), (2, .long x2), (4, .int x4), (5, .int x5), (6, .int x6), (7, .int x7)] → W p l e ({ frames := 24, cells := 1, slots := 5, locals := 891 } : Room) s m args below meth c H locs 1 5 (MQ below (gQl D (mw cI q) S0 (fun (r : Int64) (u : St) => r = r1 ∧ u = S1) s.heap.size) args s 1 5 (va_A ((mw cI q) S0) s.heap.size)) (F0 m 366 ls []) := by
  intro n
  induction n with
  | zero => intro S x2 x7 hf; rw [fX4_digest_366] at hf; cases hf
  | succ n ih =>
    intro S x2 x7 hf H locs ls hw hl
    rw [fX4_digest_366] at hf
    refine lv_iload C.1 C.2.1 dX4_digest_366 (lv_at hl 5 rfl) ?_
    refine lv_aload_n C.1 C.2.1 dX4_digest_368 rfl (lv_at hl 0 rfl) ?_
    refine g_get C E hw inW4 0 rfl rfl 1 (by decide) kf_X4_44 rfl dX4_digest_369 ?_
    refine lv_icmp_ge (tgt := 401) C.1 C.2.1 dX4_digest_372 (by decide) (fun hc => ?_) (fun hc => ?_)
    · have hf := ift hc hf
      refine lv_iconst (v := 0) C.1 C.2.1 dX4_digest_401 (by decide) ?_
      refine lv_istore (lv' := [(7, .int 0), (0, .ref (q 0)), (2, .long x2), (4, .int x4), (5, .int x5), (6, .int x6)]) C.1 C.2.1 dX4_digest_402 hl (by decide) rfl (fun ls hl => ?_)
      exact wX4_digest_404 C E x4 x5 k283 hk283 100 S x2 0 hf _ _ _ hw (lv_sub hl [1, 2, 3, 4, 0] rfl)
    · have hf := iff_ hc hf
      refine lv_iload C.1 C.2.1 dX4_digest_375 (lv_at hl 4 rfl) ?_
      refine lv_iload C.1 C.2.1 dX4_digest_377 (lv_at hl 5 rfl) ?_
      obtain ⟨v_47, hv_47, hf⟩ := bnd hf
      refine g_ci0e (rest := []) hw (g_run0 (rm := ({ frames := 0, cells := 0, slots := 0, locals := 0 } : Room)) (As := [.int x6, .int x7]) (rest := []) C F_X4_is (ctX4_is l x6 x7 hv_47) km_X4_61 rfl hl.1 rfl (Nat.le_of_ble_eq_true rfl) ⟨(Nat.le_of_ble_eq_true rfl), (Nat.le_of_ble_eq_true rfl)⟩ ⟨(Nat.le_of_ble_eq_true rfl), (Nat.le_of_ble_eq_true rfl)⟩ dX4_digest_379) (fun H locs hw => ?_)
      refine lv_if_eq (tgt := 395) C.1 C.2.1 dX4_digest_382 (by decide) (fun hc => ?_) (fun hc => ?_)
      · have hf := ift hc hf
        obtain ⟨x7_48, hx7_48, hf⟩ := bnd hf
        refine lv_iinc (v := x7_48) (lv' := [(7, .int x7_48), (0, .ref (q 0)), (2, .long x2), (4, .int x4), (5, .int x5), (6, .int x6)]) C.1 C.2.1 dX4_digest_395 hl (k := 5) rfl (inc1 hx7_48) (by decide) rfl (fun ls hl => ?_)
        refine lv_goto (tgt := 366) C.1 C.2.1 dX4_digest_398 (by decide) ?_
        exact ih S x2 x7_48 hf _ _ _ hw (lv_sub hl [1, 2, 3, 4, 5, 0] rfl)
      · have hf := iff_ hc hf
        refine lv_lload_n C.1 C.2.1 dX4_digest_385 rfl (lv_at hl 1 rfl) ?_
        refine lv_ldc2 C.1 C.2.1 C.2.2.2.1 (C.2.2.2.2.1 _ kk_X4_141) dX4_digest_386 ?_
        refine lv_lmul C.1 C.2.1 dX4_digest_389 ?_
        refine lv_iload C.1 C.2.1 dX4_digest_390 (lv_at hl 5 rfl) ?_
        refine lv_i2l (v := (Int32.toInt64 x7)) C.1 C.2.1 dX4_digest_392 rfl ?_
        refine lv_ladd C.1 C.2.1 dX4_digest_393 ?_
        obtain ⟨x2_49, hx2_49, hf⟩ := bnd hf
        refine topl_b hx2_49 ?_
        refine lv_lstore_n (lv' := [(2, .long x2_49), (0, .ref (q 0)), (4, .int x4), (5, .int x5), (6, .int x6), (7, .int x7)]) C.1 C.2.1 dX4_digest_394 rfl hl (by decide) rfl (fun ls hl => ?_)
        obtain ⟨x7_50, hx7_50, hf⟩ := bnd hf
        refine lv_iinc (v := x7_50) (lv' := [(7, .int x7_50), (2, .long x2_49), (0, .ref (q 0)), (4, .int x4), (5, .int x5), (6, .int x6)]) C.1 C.2.1 dX4_digest_395 hl (k := 5) rfl (inc1 hx7_50) (by decide) rfl (fun ls hl => ?_)
        refine lv_goto (tgt := 366) C.1 C.2.1 dX4_digest_398 (by decide) ?_
        exact ih S x2_49 x7_50 hf _ _ _ hw (lv_sub hl [2, 1, 3, 4, 5, 0] rfl)
def fX4_digest_283 : Nat → St → Int64 → Int32 → Option (Int64 × St)
  | 0, _, _, _ => none
  | n + 1, S, x2, x4 =>
    if (S 13 0) ≤ x4 then
      some (x2, S)
    else
      Option.bind (ld S 9 20 x4) fun v_31 =>
      Option.bind (fX4_cover S v_31) fun u_34 => pr u_34 fun v_32 S_33 =>
      Option.bind (fX4_many v_31) fun v_35 =>
      Option.bind (some (((x2 * 31) + (Int32.toInt64 v_35)))) fun x2_36 =>
      Option.bind (fX4_brightest S_33 v_31) fun v_37 =>
      Option.bind (some (((x2_36 * 31) + (Int32.toInt64 v_37)))) fun x2_38 =>
      Option.bind (fX4_common S_33 v_31) fun v_39 =>
      Option.bind (some (((x2_38 * 31) + (Int32.toInt64 v_39)))) fun x2_40 =>
      Option.bind (fX4_many v_32) fun v_41 =>
      Option.bind (some (((x2_40 * 31) + (Int32.toInt64 v_41)))) fun x2_42 =>
      fX4_digest_366 x4 v_31 v_32 (fX4_digest_283 n) 100 S_33 x2_42 0
set_option maxHeartbeats 4000000 in
set_option maxRecDepth 100000 in
theorem wX4_digest_283 {p : Program} {l : Launch} {e : Env} {s : State} {m : MethodId} {args : Array Value} {below : List Frame} {meth : Method} {c : Code} {D : va_G} {cI : ClassId} {q : Nat → Nat} (C : Ctx p s m args meth c cX4_digest 8 RX4 (some .long)) (E : gE D cI s) {S0 : St} {r1 : Int64} {S1 : St} : ∀ (n : Nat) (S : St) (x2 : Int64) (x4 : Int32), fX4_digest_283 n S x2 x4 = some (r1, S1) → ∀ (H : Heap) (locs : List Loc) (ls : Array Slot), gW D ((mw cI q) S0) ((mw cI q) S) s H locs → lv_has ls 8 [(0, .ref (q 0)), (2, .long x2), (4, .int x4)] → W p l e ({ frames := 24, cells := 1, slots := 5, locals := 891 } : Room) s m args below meth c H locs 1 5 (MQ below (gQl D (mw cI q) S0 (fun (r : Int64) (u : St) => r = r1 ∧ u = S1) s.heap.size) args s 1 5 (va_A ((mw cI q) S0) s.heap.size)) (F0 m 283 ls []) := by
  intro n
  induction n with
  | zero => intro S x2 x4 hf; rw [fX4_digest_283] at hf; cases hf
  | succ n ih =>
    intro S x2 x4 hf H locs ls hw hl
    rw [fX4_digest_283] at hf
    refine lv_iload C.1 C.2.1 dX4_digest_283 (lv_at hl 2 rfl) ?_
    refine lv_aload_n C.1 C.2.1 dX4_digest_285 rfl (lv_at hl 0 rfl) ?_
    refine g_get C E hw inW4 0 rfl rfl 3 (by decide) kf_X4_54 rfl dX4_digest_286 ?_
    refine lv_icmp_ge (tgt := 440) C.1 C.2.1 dX4_digest_289 (by decide) (fun hc => ?_) (fun hc => ?_)
    · have hf := ift hc hf
      refine lv_lload_n C.1 C.2.1 dX4_digest_440 rfl (lv_at hl 1 rfl) ?_
      exact g_lret C hw (Nat.le_of_ble_eq_true rfl) (Nat.le_of_ble_eq_true rfl) ⟨congrArg Prod.fst (Option.some.inj hf), congrArg Prod.snd (Option.some.inj hf)⟩ dX4_digest_441
    · have hf := iff_ hc hf
      refine lv_aload_n C.1 C.2.1 dX4_digest_292 rfl (lv_at hl 0 rfl) ?_
      refine g_get C E hw inW4 0 rfl rfl 14 (by decide) kf_X4_37 rfl dX4_digest_293 ?_
      refine lv_iload C.1 C.2.1 dX4_digest_296 (lv_at hl 2 rfl) ?_
      obtain ⟨v_31, hv_31, hf⟩ := bnd hf
      refine g_ald C E hw 10 rfl (ld_some hv_31) dX4_digest_298 ?_
      refine lv_istore (lv' := [(5, .int v_31), (0, .ref (q 0)), (2, .long x2), (4, .int x4)]) C.1 C.2.1 dX4_digest_299 hl (by decide) rfl (fun ls hl => ?_)
      refine lv_aload_n C.1 C.2.1 dX4_digest_301 rfl (lv_at hl 1 rfl) ?_
      refine lv_iload C.1 C.2.1 dX4_digest_302 (lv_at hl 0 rfl) ?_
      obtain ⟨⟨v_32, S_33⟩, hu_34, hf⟩ := bnd hf
      have hf := pr_r hf
      refine g_cie (wf := (mw cI q)) (S := S) (rest := []) mw_adr hw (g_runV (rm := ({ frames := 23, cells := 0, slots := 0, locals := 869 } : Room)) (As := [.int v_31]) (rest := []) C E hw F_X4_cover (ctX4_cover l (cI := cI) (D := D) (q := q) S v_31 _ hu_34) km_X4_133 0 rfl rfl rfl hl.1 rfl (Nat.le_of_ble_eq_true rfl) ⟨(Nat.le_of_ble_eq_true rfl), (Nat.le_of_ble_eq_true rfl)⟩ ⟨(Nat.le_of_ble_eq_true rfl), (Nat.le_of_ble_eq_true rfl)⟩ dX4_digest_304) (fun H locs hw => ?_)
      refine lv_istore (lv' := [(6, .int v_32), (5, .int v_31), (0, .ref (q 0)), (2, .long x2), (4, .int x4)]) C.1 C.2.1 dX4_digest_307 hl (by decide) rfl (fun ls hl => ?_)
      refine lv_lload_n C.1 C.2.1 dX4_digest_309 rfl (lv_at hl 3 rfl) ?_
      refine lv_ldc2 C.1 C.2.1 C.2.2.2.1 (C.2.2.2.2.1 _ kk_X4_141) dX4_digest_310 ?_
      refine lv_lmul C.1 C.2.1 dX4_digest_313 ?_
      refine lv_iload C.1 C.2.1 dX4_digest_314 (lv_at hl 1 rfl) ?_
      obtain ⟨v_35, hv_35, hf⟩ := bnd hf
      refine g_ci0e (rest := [.long (x2 * 31)]) hw (g_run0 (rm := ({ frames := 0, cells := 0, slots := 0, locals := 0 } : Room)) (As := [.int v_31]) (rest := [.long (x2 * 31)]) C F_X4_many (ctX4_many l v_31 hv_35) km_X4_78 rfl hl.1 rfl (Nat.le_of_ble_eq_true rfl) ⟨(Nat.le_of_ble_eq_true rfl), (Nat.le_of_ble_eq_true rfl)⟩ ⟨(Nat.le_of_ble_eq_true rfl), (Nat.le_of_ble_eq_true rfl)⟩ dX4_digest_316) (fun H locs hw => ?_)
      refine lv_i2l (v := (Int32.toInt64 v_35)) C.1 C.2.1 dX4_digest_319 rfl ?_
      refine lv_ladd C.1 C.2.1 dX4_digest_320 ?_
      obtain ⟨x2_36, hx2_36, hf⟩ := bnd hf
      refine topl_b hx2_36 ?_
      refine lv_lstore_n (lv' := [(2, .long x2_36), (6, .int v_32), (5, .int v_31), (0, .ref (q 0)), (4, .int x4)]) C.1 C.2.1 dX4_digest_321 rfl hl (by decide) rfl (fun ls hl => ?_)
      refine lv_lload_n C.1 C.2.1 dX4_digest_322 rfl (lv_at hl 0 rfl) ?_
      refine lv_ldc2 C.1 C.2.1 C.2.2.2.1 (C.2.2.2.2.1 _ kk_X4_141) dX4_digest_323 ?_
      refine lv_lmul C.1 C.2.1 dX4_digest_326 ?_
      refine lv_aload_n C.1 C.2.1 dX4_digest_327 rfl (lv_at hl 3 rfl) ?_
      refine lv_iload C.1 C.2.1 dX4_digest_328 (lv_at hl 2 rfl) ?_
      obtain ⟨v_37, hv_37, hf⟩ := bnd hf
      refine g_cie (wf := (mw cI q)) (S := S_33) (rest := [.long (x2_36 * 31)]) mw_adr hw (g_runV (rm := ({ frames := 1, cells := 0, slots := 0, locals := 21 } : Room)) (As := [.int v_31]) (rest := [.long (x2_36 * 31)]) C E hw F_X4_brightest (ctX4_brightest l (cI := cI) (D := D) (q := q) S_33 v_31 _ hv_37) km_X4_118 0 rfl rfl rfl hl.1 rfl (Nat.le_of_ble_eq_true rfl) ⟨(Nat.le_of_ble_eq_true rfl), (Nat.le_of_ble_eq_true rfl)⟩ ⟨(Nat.le_of_ble_eq_true rfl), (Nat.le_of_ble_eq_true rfl)⟩ dX4_digest_330) (fun H locs hw => ?_)
      refine lv_i2l (v := (Int32.toInt64 v_37)) C.1 C.2.1 dX4_digest_333 rfl ?_
      refine lv_ladd C.1 C.2.1 dX4_digest_334 ?_
      obtain ⟨x2_38, hx2_38, hf⟩ := bnd hf
      refine topl_b hx2_38 ?_
      refine lv_lstore_n (lv' := [(2, .long x2_38), (6, .int v_32), (5, .int v_31), (0, .ref (q 0)), (4, .int x4)]) C.1 C.2.1 dX4_digest_335 rfl hl (by decide) rfl (fun ls hl => ?_)
      refine lv_lload_n C.1 C.2.1 dX4_digest_336 rfl (lv_at hl 0 rfl) ?_
      refine lv_ldc2 C.1 C.2.1 C.2.2.2.1 (C.2.2.2.2.1 _ kk_X4_141) dX4_digest_337 ?_
      refine lv_lmul C.1 C.2.1 dX4_digest_340 ?_
      refine lv_aload_n C.1 C.2.1 dX4_digest_341 rfl (lv_at hl 3 rfl) ?_
      refine lv_iload C.1 C.2.1 dX4_digest_342 (lv_at hl 2 rfl) ?_
      obtain ⟨v_39, hv_39, hf⟩ := bnd hf
      refine g_cie (wf := (mw cI q)) (S := S_33) (rest := [.long (x2_38 * 31)]) mw_adr hw (g_runV (rm := ({ frames := 1, cells := 0, slots := 0, locals := 22 } : Room)) (As := [.int v_31]) (rest := [.long (x2_38 * 31)]) C E hw F_X4_common (ctX4_common l (cI := cI) (D := D) (q := q) S_33 v_31 _ hv_39) km_X4_121 0 rfl rfl rfl hl.1 rfl (Nat.le_of_ble_eq_true rfl) ⟨(Nat.le_of_ble_eq_true rfl), (Nat.le_of_ble_eq_true rfl)⟩ ⟨(Nat.le_of_ble_eq_true rfl), (Nat.le_of_ble_eq_true rfl)⟩ dX4_digest_344) (fun H locs hw => ?_)
      refine lv_i2l (v := (Int32.toInt64 v_39)) C.1 C.2.1 dX4_digest_347 rfl ?_
      refine lv_ladd C.1 C.2.1 dX4_digest_348 ?_
      obtain ⟨x2_40, hx2_40, hf⟩ := bnd hf
      refine topl_b hx2_40 ?_
      refine lv_lstore_n (lv' := [(2, .long x2_40), (6, .int v_32), (5, .int v_31), (0, .ref (q 0)), (4, .int x4)]) C.1 C.2.1 dX4_digest_349 rfl hl (by decide) rfl (fun ls hl => ?_)
      refine lv_lload_n C.1 C.2.1 dX4_digest_350 rfl (lv_at hl 0 rfl) ?_
      refine lv_ldc2 C.1 C.2.1 C.2.2.2.1 (C.2.2.2.2.1 _ kk_X4_141) dX4_digest_351 ?_
      refine lv_lmul C.1 C.2.1 dX4_digest_354 ?_
      refine lv_iload C.1 C.2.1 dX4_digest_355 (lv_at hl 1 rfl) ?_
      obtain ⟨v_41, hv_41, hf⟩ := bnd hf
      refine g_ci0e (rest := [.long (x2_40 * 31)]) hw (g_run0 (rm := ({ frames := 0, cells := 0, slots := 0, locals := 0 } : Room)) (As := [.int v_32]) (rest := [.long (x2_40 * 31)]) C F_X4_many (ctX4_many l v_32 hv_41) km_X4_78 rfl hl.1 rfl (Nat.le_of_ble_eq_true rfl) ⟨(Nat.le_of_ble_eq_true rfl), (Nat.le_of_ble_eq_true rfl)⟩ ⟨(Nat.le_of_ble_eq_true rfl), (Nat.le_of_ble_eq_true rfl)⟩ dX4_digest_357) (fun H locs hw => ?_)
      refine lv_i2l (v := (Int32.toInt64 v_41)) C.1 C.2.1 dX4_digest_360 rfl ?_
      refine lv_ladd C.1 C.2.1 dX4_digest_361 ?_
      obtain ⟨x2_42, hx2_42, hf⟩ := bnd hf
      refine topl_b hx2_42 ?_
      refine lv_lstore_n (lv' := [(2, .long x2_42), (6, .int v_32), (5, .int v_31), (0, .ref (q 0)), (4, .int x4)]) C.1 C.2.1 dX4_digest_362 rfl hl (by decide) rfl (fun ls hl => ?_)
      refine lv_iconst (v := 0) C.1 C.2.1 dX4_digest_363 (by decide) ?_
      refine lv_istore (lv' := [(7, .int 0), (2, .long x2_42), (6, .int v_32), (5, .int v_31), (0, .ref (q 0)), (4, .int x4)]) C.1 C.2.1 dX4_digest_364 hl (by decide) rfl (fun ls hl => ?_)
      exact wX4_digest_366 C E x4 v_31 v_32 (fX4_digest_283 n) ih 100 S_33 x2_42 0 hf _ _ _ hw (lv_sub hl [4, 1, 5, 3, 2, 0] rfl)
def fX4_digest_239 (x4 : Int32) (k179 : St → Int64 → Int32 → Option (Int64 × St)) : Nat → St → Int64 → Int32 → Option (Int64 × St)
  | 0, _, _, _ => none
  | n + 1, S, x2, x5 =>
    if (S 11 0) ≤ x5 then
      Option.bind (some (x4 + 1)) fun x4_43 =>
      k179 S x2 x4_43
    else
      Option.bind (ld S 1 24 x4) fun v_44 =>
      Option.bind (some (((x2 * 31) + (Int32.toInt64 ((v_44 >>> (x5 &&& 31)) &&& 1))))) fun x2_45 =>
      Option.bind (some (x5 + 1)) fun x5_46 =>
      fX4_digest_239 x4 k179 n S x2_45 x5_46
set_option maxHeartbeats 4000000 in
set_option maxRecDepth 100000 in
theorem wX4_digest_239 {p : Program} {l : Launch} {e : Env} {s : State} {m : MethodId} {args : Array Value} {below : List Frame} {meth : Method} {c : Code} {D : va_G} {cI : ClassId} {q : Nat → Nat} (C : Ctx p s m args meth c cX4_digest 8 RX4 (some .long)) (E : gE D cI s) {S0 : St} {r1 : Int64} {S1 : St} (x4 : Int32) (k179 : St → Int64 → Int32 → Option (Int64 × St)) (hk179 : ∀ (S : St) (x2 : Int64) (x4 : Int32), k179 S x2 x4 = some (r1, S1) → ∀ (H : Heap) (locs : List Loc) (ls : Array Slot), gW D ((mw cI q) S0) ((mw cI q) S) s H locs → lv_has ls 8 [(0, .ref (q 0)), (2, .long x2), (4, .int x4)] → W p l e ({ frames := 24, cells := 1, slots := 5, locals := 891 } : Room) s m args below meth c H locs 1 5 (MQ below (gQl D (mw cI q) S0 (fun (r : Int64) (u : St) => r = r1 ∧ u = S1) s.heap.size) args s 1 5 (va_A ((mw cI q) S0) s.heap.size)) (F0 m 179 ls [])) : ∀ (n : Nat) (S : St) (x2 : Int64) (x5 : Int32), fX4_digest_239 x4 k179 n S x2 x5 = some (r1, S1) → ∀ (H : Heap) (locs : List Loc) (ls : Array Slot), gW D ((mw cI q) S0) ((mw cI q) S) s H locs → lv_has ls 8 [(0, .ref (q 0)), (2, .long x2), (4, .int x4), (5, .int x5)] → W p l e ({ frames := 24, cells := 1, slots := 5, locals := 891 } : Room) s m args below meth c H locs 1 5 (MQ below (gQl D (mw cI q) S0 (fun (r : Int64) (u : St) => r = r1 ∧ u = S1) s.heap.size) args s 1 5 (va_A ((mw cI q) S0) s.heap.size)) (F0 m 239 ls []) := by
  intro n
  induction n with
  | zero => intro S x2 x5 hf; rw [fX4_digest_239] at hf; cases hf
  | succ n ih =>
    intro S x2 x5 hf H locs ls hw hl
    rw [fX4_digest_239] at hf
    refine lv_iload C.1 C.2.1 dX4_digest_239 (lv_at hl 3 rfl) ?_
    refine lv_aload_n C.1 C.2.1 dX4_digest_241 rfl (lv_at hl 0 rfl) ?_
    refine g_get C E hw inW4 0 rfl rfl 1 (by decide) kf_X4_44 rfl dX4_digest_242 ?_
    refine lv_icmp_ge (tgt := 274) C.1 C.2.1 dX4_digest_245 (by decide) (fun hc => ?_) (fun hc => ?_)
    · have hf := ift hc hf
      obtain ⟨x4_43, hx4_43, hf⟩ := bnd hf
      refine lv_iinc (v := x4_43) (lv' := [(4, .int x4_43), (0, .ref (q 0)), (2, .long x2), (5, .int x5)]) C.1 C.2.1 dX4_digest_274 hl (k := 2) rfl (inc1 hx4_43) (by decide) rfl (fun ls hl => ?_)
      refine lv_goto (tgt := 179) C.1 C.2.1 dX4_digest_277 (by decide) ?_
      exact hk179 S x2 x4_43 hf _ _ _ hw (lv_sub hl [1, 2, 0] rfl)
    · have hf := iff_ hc hf
      refine lv_lload_n C.1 C.2.1 dX4_digest_248 rfl (lv_at hl 1 rfl) ?_
      refine lv_ldc2 C.1 C.2.1 C.2.2.2.1 (C.2.2.2.2.1 _ kk_X4_141) dX4_digest_249 ?_
      refine lv_lmul C.1 C.2.1 dX4_digest_252 ?_
      refine lv_aload_n C.1 C.2.1 dX4_digest_253 rfl (lv_at hl 0 rfl) ?_
      refine g_get C E hw inW4 0 rfl rfl 6 (by decide) kf_X4_13 rfl dX4_digest_254 ?_
      refine lv_iload C.1 C.2.1 dX4_digest_257 (lv_at hl 2 rfl) ?_
      obtain ⟨v_44, hv_44, hf⟩ := bnd hf
      refine g_ald C E hw 2 rfl (ld_some hv_44) dX4_digest_259 ?_
      refine lv_iload C.1 C.2.1 dX4_digest_260 (lv_at hl 3 rfl) ?_
      refine lv_ishr C.1 C.2.1 dX4_digest_262 ?_
      refine lv_iconst (v := 1) C.1 C.2.1 dX4_digest_263 (by decide) ?_
      refine lv_iand C.1 C.2.1 dX4_digest_264 ?_
      refine lv_i2l (v := (Int32.toInt64 ((v_44 >>> (x5 &&& 31)) &&& 1))) C.1 C.2.1 dX4_digest_265 rfl ?_
      refine lv_ladd C.1 C.2.1 dX4_digest_266 ?_
      obtain ⟨x2_45, hx2_45, hf⟩ := bnd hf
      refine topl_b hx2_45 ?_
      refine lv_lstore_n (lv' := [(2, .long x2_45), (0, .ref (q 0)), (4, .int x4), (5, .int x5)]) C.1 C.2.1 dX4_digest_267 rfl hl (by decide) rfl (fun ls hl => ?_)
      obtain ⟨x5_46, hx5_46, hf⟩ := bnd hf
      refine lv_iinc (v := x5_46) (lv' := [(5, .int x5_46), (2, .long x2_45), (0, .ref (q 0)), (4, .int x4)]) C.1 C.2.1 dX4_digest_268 hl (k := 3) rfl (inc1 hx5_46) (by decide) rfl (fun ls hl => ?_)
      refine lv_goto (tgt := 239) C.1 C.2.1 dX4_digest_271 (by decide) ?_
      exact ih S x2_45 x5_46 hf _ _ _ hw (lv_sub hl [2, 1, 3, 0] rfl)
def fX4_digest_179 : Nat → St → Int64 → Int32 → Option (Int64 × St)
  | 0, _, _, _ => none
  | n + 1, S, x2, x4 =>
    if (S 12 0) ≤ x4 then
      fX4_digest_283 100 S x2 0
    else
      Option.bind (ld S 7 24 x4) fun v_24 =>
      Option.bind (fX4_many v_24) fun v_25 =>
      Option.bind (some (((x2 * 31) + (Int32.toInt64 v_25)))) fun x2_26 =>
      Option.bind (ld S 2 24 x4) fun v_27 =>
      Option.bind (some (((x2_26 * 31) + (Int32.toInt64 v_27)))) fun x2_28 =>
      Option.bind (ld S 3 24 x4) fun v_29 =>
      Option.bind (some (((x2_28 * 31) + (Int32.toInt64 v_29)))) fun x2_30 =>
      fX4_digest_239 x4 (fX4_digest_179 n) 100 S x2_30 0
set_option maxHeartbeats 4000000 in
set_option maxRecDepth 100000 in
theorem wX4_digest_179 {p : Program} {l : Launch} {e : Env} {s : State} {m : MethodId} {args : Array Value} {below : List Frame} {meth : Method} {c : Code} {D : va_G} {cI : ClassId} {q : Nat → Nat} (C : Ctx p s m args meth c cX4_digest 8 RX4 (some .long)) (E : gE D cI s) {S0 : St} {r1 : Int64} {S1 : St} : ∀ (n : Nat) (S : St) (x2 : Int64) (x4 : Int32), fX4_digest_179 n S x2 x4 = some (r1, S1) → ∀ (H : Heap) (locs : List Loc) (ls : Array Slot), gW D ((mw cI q) S0) ((mw cI q) S) s H locs → lv_has ls 8 [(0, .ref (q 0)), (2, .long x2), (4, .int x4)] → W p l e ({ frames := 24, cells := 1, slots := 5, locals := 891 } : Room) s m args below meth c H locs 1 5 (MQ below (gQl D (mw cI q) S0 (fun (r : Int64) (u : St) => r = r1 ∧ u = S1) s.heap.size) args s 1 5 (va_A ((mw cI q) S0) s.heap.size)) (F0 m 179 ls []) := by
  intro n
  induction n with
  | zero => intro S x2 x4 hf; rw [fX4_digest_179] at hf; cases hf
  | succ n ih =>
    intro S x2 x4 hf H locs ls hw hl
    rw [fX4_digest_179] at hf
    refine lv_iload C.1 C.2.1 dX4_digest_179 (lv_at hl 2 rfl) ?_
    refine lv_aload_n C.1 C.2.1 dX4_digest_181 rfl (lv_at hl 0 rfl) ?_
    refine g_get C E hw inW4 0 rfl rfl 2 (by decide) kf_X4_51 rfl dX4_digest_182 ?_
    refine lv_icmp_ge (tgt := 280) C.1 C.2.1 dX4_digest_185 (by decide) (fun hc => ?_) (fun hc => ?_)
    · have hf := ift hc hf
      refine lv_iconst (v := 0) C.1 C.2.1 dX4_digest_280 (by decide) ?_
      refine lv_istore (lv' := [(4, .int 0), (0, .ref (q 0)), (2, .long x2)]) C.1 C.2.1 dX4_digest_281 hl (by decide) rfl (fun ls hl => ?_)
      exact wX4_digest_283 C E 100 S x2 0 hf _ _ _ hw (lv_sub hl [1, 2, 0] rfl)
    · have hf := iff_ hc hf
      refine lv_lload_n C.1 C.2.1 dX4_digest_188 rfl (lv_at hl 1 rfl) ?_
      refine lv_ldc2 C.1 C.2.1 C.2.2.2.1 (C.2.2.2.2.1 _ kk_X4_141) dX4_digest_189 ?_
      refine lv_lmul C.1 C.2.1 dX4_digest_192 ?_
      refine lv_aload_n C.1 C.2.1 dX4_digest_193 rfl (lv_at hl 0 rfl) ?_
      refine g_get C E hw inW4 0 rfl rfl 12 (by decide) kf_X4_31 rfl dX4_digest_194 ?_
      refine lv_iload C.1 C.2.1 dX4_digest_197 (lv_at hl 2 rfl) ?_
      obtain ⟨v_24, hv_24, hf⟩ := bnd hf
      refine g_ald C E hw 8 rfl (ld_some hv_24) dX4_digest_199 ?_
      obtain ⟨v_25, hv_25, hf⟩ := bnd hf
      refine g_ci0e (rest := [.long (x2 * 31)]) hw (g_run0 (rm := ({ frames := 0, cells := 0, slots := 0, locals := 0 } : Room)) (As := [.int v_24]) (rest := [.long (x2 * 31)]) C F_X4_many (ctX4_many l v_24 hv_25) km_X4_78 rfl hl.1 rfl (Nat.le_of_ble_eq_true rfl) ⟨(Nat.le_of_ble_eq_true rfl), (Nat.le_of_ble_eq_true rfl)⟩ ⟨(Nat.le_of_ble_eq_true rfl), (Nat.le_of_ble_eq_true rfl)⟩ dX4_digest_200) (fun H locs hw => ?_)
      refine lv_i2l (v := (Int32.toInt64 v_25)) C.1 C.2.1 dX4_digest_203 rfl ?_
      refine lv_ladd C.1 C.2.1 dX4_digest_204 ?_
      obtain ⟨x2_26, hx2_26, hf⟩ := bnd hf
      refine topl_b hx2_26 ?_
      refine lv_lstore_n (lv' := [(2, .long x2_26), (0, .ref (q 0)), (4, .int x4)]) C.1 C.2.1 dX4_digest_205 rfl hl (by decide) rfl (fun ls hl => ?_)
      refine lv_lload_n C.1 C.2.1 dX4_digest_206 rfl (lv_at hl 0 rfl) ?_
      refine lv_ldc2 C.1 C.2.1 C.2.2.2.1 (C.2.2.2.2.1 _ kk_X4_141) dX4_digest_207 ?_
      refine lv_lmul C.1 C.2.1 dX4_digest_210 ?_
      refine lv_aload_n C.1 C.2.1 dX4_digest_211 rfl (lv_at hl 1 rfl) ?_
      refine g_get C E hw inW4 0 rfl rfl 7 (by decide) kf_X4_16 rfl dX4_digest_212 ?_
      refine lv_iload C.1 C.2.1 dX4_digest_215 (lv_at hl 2 rfl) ?_
      obtain ⟨v_27, hv_27, hf⟩ := bnd hf
      refine g_ald C E hw 3 rfl (ld_some hv_27) dX4_digest_217 ?_
      refine lv_i2l (v := (Int32.toInt64 v_27)) C.1 C.2.1 dX4_digest_218 rfl ?_
      refine lv_ladd C.1 C.2.1 dX4_digest_219 ?_
      obtain ⟨x2_28, hx2_28, hf⟩ := bnd hf
      refine topl_b hx2_28 ?_
      refine lv_lstore_n (lv' := [(2, .long x2_28), (0, .ref (q 0)), (4, .int x4)]) C.1 C.2.1 dX4_digest_220 rfl hl (by decide) rfl (fun ls hl => ?_)
      refine lv_lload_n C.1 C.2.1 dX4_digest_221 rfl (lv_at hl 0 rfl) ?_
      refine lv_ldc2 C.1 C.2.1 C.2.2.2.1 (C.2.2.2.2.1 _ kk_X4_141) dX4_digest_222 ?_
      refine lv_lmul C.1 C.2.1 dX4_digest_225 ?_
      refine lv_aload_n C.1 C.2.1 dX4_digest_226 rfl (lv_at hl 1 rfl) ?_
      refine g_get C E hw inW4 0 rfl rfl 8 (by decide) kf_X4_19 rfl dX4_digest_227 ?_
      refine lv_iload C.1 C.2.1 dX4_digest_230 (lv_at hl 2 rfl) ?_
      obtain ⟨v_29, hv_29, hf⟩ := bnd hf
      refine g_ald C E hw 4 rfl (ld_some hv_29) dX4_digest_232 ?_
      refine lv_i2l (v := (Int32.toInt64 v_29)) C.1 C.2.1 dX4_digest_233 rfl ?_
      refine lv_ladd C.1 C.2.1 dX4_digest_234 ?_
      obtain ⟨x2_30, hx2_30, hf⟩ := bnd hf
      refine topl_b hx2_30 ?_
      refine lv_lstore_n (lv' := [(2, .long x2_30), (0, .ref (q 0)), (4, .int x4)]) C.1 C.2.1 dX4_digest_235 rfl hl (by decide) rfl (fun ls hl => ?_)
      refine lv_iconst (v := 0) C.1 C.2.1 dX4_digest_236 (by decide) ?_
      refine lv_istore (lv' := [(5, .int 0), (2, .long x2_30), (0, .ref (q 0)), (4, .int x4)]) C.1 C.2.1 dX4_digest_237 hl (by decide) rfl (fun ls hl => ?_)
      exact wX4_digest_239 C E x4 (fX4_digest_179 n) ih 100 S x2_30 0 hf _ _ _ hw (lv_sub hl [2, 1, 3, 0] rfl)
def fX4_digest_97 : Nat → St → Int64 → Int32 → Option (Int64 × St)
  | 0, _, _, _ => none
  | n + 1, S, x2, x4 =>
    if (S 11 0) ≤ x4 then
      fX4_digest_179 100 S x2 0
    else
      Option.bind (ld S 0 16 x4) fun v_13 =>
      Option.bind (some (((x2 * 31) + (Int32.toInt64 v_13)))) fun x2_14 =>
      Option.bind (fX4_above S x4) fun v_15 =>
      Option.bind (fX4_many v_15) fun v_16 =>
      Option.bind (some (((x2_14 * 31) + (Int32.toInt64 v_16)))) fun x2_17 =>
      Option.bind (fX4_tagsUnder S x4) fun v_18 =>
      Option.bind (some (((x2_17 * 31) + (Int32.toInt64 v_18)))) fun x2_19 =>
      Option.bind (ld S 8 16 x4) fun v_20 =>
      Option.bind (fX4_many v_20) fun v_21 =>
      Option.bind (some (((x2_19 * 31) + (Int32.toInt64 v_21)))) fun x2_22 =>
      Option.bind (some (x4 + 1)) fun x4_23 =>
      fX4_digest_97 n S x2_22 x4_23
set_option maxHeartbeats 4000000 in
set_option maxRecDepth 100000 in
theorem wX4_digest_97 {p : Program} {l : Launch} {e : Env} {s : State} {m : MethodId} {args : Array Value} {below : List Frame} {meth : Method} {c : Code} {D : va_G} {cI : ClassId} {q : Nat → Nat} (C : Ctx p s m args meth c cX4_digest 8 RX4 (some .long)) (E : gE D cI s) {S0 : St} {r1 : Int64} {S1 : St} : ∀ (n : Nat) (S : St) (x2 : Int64) (x4 : Int32), fX4_digest_97 n S x2 x4 = some (r1, S1) → ∀ (H : Heap) (locs : List Loc) (ls : Array Slot), gW D ((mw cI q) S0) ((mw cI q) S) s H locs → lv_has ls 8 [(0, .ref (q 0)), (2, .long x2), (4, .int x4)] → W p l e ({ frames := 24, cells := 1, slots := 5, locals := 891 } : Room) s m args below meth c H locs 1 5 (MQ below (gQl D (mw cI q) S0 (fun (r : Int64) (u : St) => r = r1 ∧ u = S1) s.heap.size) args s 1 5 (va_A ((mw cI q) S0) s.heap.size)) (F0 m 97 ls []) := by
  intro n
  induction n with
  | zero => intro S x2 x4 hf; rw [fX4_digest_97] at hf; cases hf
  | succ n ih =>
    intro S x2 x4 hf H locs ls hw hl
    rw [fX4_digest_97] at hf
    refine lv_iload C.1 C.2.1 dX4_digest_97 (lv_at hl 2 rfl) ?_
    refine lv_aload_n C.1 C.2.1 dX4_digest_99 rfl (lv_at hl 0 rfl) ?_
    refine g_get C E hw inW4 0 rfl rfl 1 (by decide) kf_X4_44 rfl dX4_digest_100 ?_
    refine lv_icmp_ge (tgt := 176) C.1 C.2.1 dX4_digest_103 (by decide) (fun hc => ?_) (fun hc => ?_)
    · have hf := ift hc hf
      refine lv_iconst (v := 0) C.1 C.2.1 dX4_digest_176 (by decide) ?_
      refine lv_istore (lv' := [(4, .int 0), (0, .ref (q 0)), (2, .long x2)]) C.1 C.2.1 dX4_digest_177 hl (by decide) rfl (fun ls hl => ?_)
      exact wX4_digest_179 C E 100 S x2 0 hf _ _ _ hw (lv_sub hl [1, 2, 0] rfl)
    · have hf := iff_ hc hf
      refine lv_lload_n C.1 C.2.1 dX4_digest_106 rfl (lv_at hl 1 rfl) ?_
      refine lv_ldc2 C.1 C.2.1 C.2.2.2.1 (C.2.2.2.2.1 _ kk_X4_141) dX4_digest_107 ?_
      refine lv_lmul C.1 C.2.1 dX4_digest_110 ?_
      refine lv_aload_n C.1 C.2.1 dX4_digest_111 rfl (lv_at hl 0 rfl) ?_
      refine g_get C E hw inW4 0 rfl rfl 5 (by decide) kf_X4_9 rfl dX4_digest_112 ?_
      refine lv_iload C.1 C.2.1 dX4_digest_115 (lv_at hl 2 rfl) ?_
      obtain ⟨v_13, hv_13, hf⟩ := bnd hf
      refine g_ald C E hw 1 rfl (ld_some hv_13) dX4_digest_117 ?_
      refine lv_i2l (v := (Int32.toInt64 v_13)) C.1 C.2.1 dX4_digest_118 rfl ?_
      refine lv_ladd C.1 C.2.1 dX4_digest_119 ?_
      obtain ⟨x2_14, hx2_14, hf⟩ := bnd hf
      refine topl_b hx2_14 ?_
      refine lv_lstore_n (lv' := [(2, .long x2_14), (0, .ref (q 0)), (4, .int x4)]) C.1 C.2.1 dX4_digest_120 rfl hl (by decide) rfl (fun ls hl => ?_)
      refine lv_lload_n C.1 C.2.1 dX4_digest_121 rfl (lv_at hl 0 rfl) ?_
      refine lv_ldc2 C.1 C.2.1 C.2.2.2.1 (C.2.2.2.2.1 _ kk_X4_141) dX4_digest_122 ?_
      refine lv_lmul C.1 C.2.1 dX4_digest_125 ?_
      refine lv_aload_n C.1 C.2.1 dX4_digest_126 rfl (lv_at hl 1 rfl) ?_
      refine lv_iload C.1 C.2.1 dX4_digest_127 (lv_at hl 2 rfl) ?_
      obtain ⟨v_15, hv_15, hf⟩ := bnd hf
      refine g_cie (wf := (mw cI q)) (S := S) (rest := [.long (x2_14 * 31)]) mw_adr hw (g_runV (rm := ({ frames := 0, cells := 0, slots := 0, locals := 0 } : Room)) (As := [.int x4]) (rest := [.long (x2_14 * 31)]) C E hw F_X4_above (ctX4_above l (cI := cI) (D := D) (q := q) S x4 _ hv_15) km_X4_57 0 rfl rfl rfl hl.1 rfl (Nat.le_of_ble_eq_true rfl) ⟨(Nat.le_of_ble_eq_true rfl), (Nat.le_of_ble_eq_true rfl)⟩ ⟨(Nat.le_of_ble_eq_true rfl), (Nat.le_of_ble_eq_true rfl)⟩ dX4_digest_129) (fun H locs hw => ?_)
      obtain ⟨v_16, hv_16, hf⟩ := bnd hf
      refine g_ci0e (rest := [.long (x2_14 * 31)]) hw (g_run0 (rm := ({ frames := 0, cells := 0, slots := 0, locals := 0 } : Room)) (As := [.int v_15]) (rest := [.long (x2_14 * 31)]) C F_X4_many (ctX4_many l v_15 hv_16) km_X4_78 rfl hl.1 rfl (Nat.le_of_ble_eq_true rfl) ⟨(Nat.le_of_ble_eq_true rfl), (Nat.le_of_ble_eq_true rfl)⟩ ⟨(Nat.le_of_ble_eq_true rfl), (Nat.le_of_ble_eq_true rfl)⟩ dX4_digest_132) (fun H locs hw => ?_)
      refine lv_i2l (v := (Int32.toInt64 v_16)) C.1 C.2.1 dX4_digest_135 rfl ?_
      refine lv_ladd C.1 C.2.1 dX4_digest_136 ?_
      obtain ⟨x2_17, hx2_17, hf⟩ := bnd hf
      refine topl_b hx2_17 ?_
      refine lv_lstore_n (lv' := [(2, .long x2_17), (0, .ref (q 0)), (4, .int x4)]) C.1 C.2.1 dX4_digest_137 rfl hl (by decide) rfl (fun ls hl => ?_)
      refine lv_lload_n C.1 C.2.1 dX4_digest_138 rfl (lv_at hl 0 rfl) ?_
      refine lv_ldc2 C.1 C.2.1 C.2.2.2.1 (C.2.2.2.2.1 _ kk_X4_141) dX4_digest_139 ?_
      refine lv_lmul C.1 C.2.1 dX4_digest_142 ?_
      refine lv_aload_n C.1 C.2.1 dX4_digest_143 rfl (lv_at hl 1 rfl) ?_
      refine lv_iload C.1 C.2.1 dX4_digest_144 (lv_at hl 2 rfl) ?_
      obtain ⟨v_18, hv_18, hf⟩ := bnd hf
      refine g_cie (wf := (mw cI q)) (S := S) (rest := [.long (x2_17 * 31)]) mw_adr hw (g_runV (rm := ({ frames := 2, cells := 0, slots := 0, locals := 45 } : Room)) (As := [.int x4]) (rest := [.long (x2_17 * 31)]) C E hw F_X4_tagsUnder (ctX4_tagsUnder l (cI := cI) (D := D) (q := q) S x4 _ hv_18) km_X4_112 0 rfl rfl rfl hl.1 rfl (Nat.le_of_ble_eq_true rfl) ⟨(Nat.le_of_ble_eq_true rfl), (Nat.le_of_ble_eq_true rfl)⟩ ⟨(Nat.le_of_ble_eq_true rfl), (Nat.le_of_ble_eq_true rfl)⟩ dX4_digest_146) (fun H locs hw => ?_)
      refine lv_i2l (v := (Int32.toInt64 v_18)) C.1 C.2.1 dX4_digest_149 rfl ?_
      refine lv_ladd C.1 C.2.1 dX4_digest_150 ?_
      obtain ⟨x2_19, hx2_19, hf⟩ := bnd hf
      refine topl_b hx2_19 ?_
      refine lv_lstore_n (lv' := [(2, .long x2_19), (0, .ref (q 0)), (4, .int x4)]) C.1 C.2.1 dX4_digest_151 rfl hl (by decide) rfl (fun ls hl => ?_)
      refine lv_lload_n C.1 C.2.1 dX4_digest_152 rfl (lv_at hl 0 rfl) ?_
      refine lv_ldc2 C.1 C.2.1 C.2.2.2.1 (C.2.2.2.2.1 _ kk_X4_141) dX4_digest_153 ?_
      refine lv_lmul C.1 C.2.1 dX4_digest_156 ?_
      refine lv_aload_n C.1 C.2.1 dX4_digest_157 rfl (lv_at hl 1 rfl) ?_
      refine g_get C E hw inW4 0 rfl rfl 13 (by decide) kf_X4_34 rfl dX4_digest_158 ?_
      refine lv_iload C.1 C.2.1 dX4_digest_161 (lv_at hl 2 rfl) ?_
      obtain ⟨v_20, hv_20, hf⟩ := bnd hf
      refine g_ald C E hw 9 rfl (ld_some hv_20) dX4_digest_163 ?_
      obtain ⟨v_21, hv_21, hf⟩ := bnd hf
      refine g_ci0e (rest := [.long (x2_19 * 31)]) hw (g_run0 (rm := ({ frames := 0, cells := 0, slots := 0, locals := 0 } : Room)) (As := [.int v_20]) (rest := [.long (x2_19 * 31)]) C F_X4_many (ctX4_many l v_20 hv_21) km_X4_78 rfl hl.1 rfl (Nat.le_of_ble_eq_true rfl) ⟨(Nat.le_of_ble_eq_true rfl), (Nat.le_of_ble_eq_true rfl)⟩ ⟨(Nat.le_of_ble_eq_true rfl), (Nat.le_of_ble_eq_true rfl)⟩ dX4_digest_164) (fun H locs hw => ?_)
      refine lv_i2l (v := (Int32.toInt64 v_21)) C.1 C.2.1 dX4_digest_167 rfl ?_
      refine lv_ladd C.1 C.2.1 dX4_digest_168 ?_
      obtain ⟨x2_22, hx2_22, hf⟩ := bnd hf
      refine topl_b hx2_22 ?_
      refine lv_lstore_n (lv' := [(2, .long x2_22), (0, .ref (q 0)), (4, .int x4)]) C.1 C.2.1 dX4_digest_169 rfl hl (by decide) rfl (fun ls hl => ?_)
      obtain ⟨x4_23, hx4_23, hf⟩ := bnd hf
      refine lv_iinc (v := x4_23) (lv' := [(4, .int x4_23), (2, .long x2_22), (0, .ref (q 0))]) C.1 C.2.1 dX4_digest_170 hl (k := 2) rfl (inc1 hx4_23) (by decide) rfl (fun ls hl => ?_)
      refine lv_goto (tgt := 97) C.1 C.2.1 dX4_digest_173 (by decide) ?_
      exact ih S x2_22 x4_23 hf _ _ _ hw (lv_sub hl [2, 1, 0] rfl)
def fX4_digest_64 (x5 : Int32) : Nat → St → Int64 → Int32 → Option (Int64 × St)
  | 0, _, _, _ => none
  | n + 1, S, x2, x6 =>
    if x5 ≤ x6 then
      fX4_digest_97 100 S x2 0
    else
      Option.bind (ld S 16 5 x6) fun v_10 =>
      Option.bind (some (((x2 * 31) + (Int32.toInt64 v_10)))) fun x2_11 =>
      Option.bind (some (x6 + 1)) fun x6_12 =>
      fX4_digest_64 x5 n S x2_11 x6_12
set_option maxHeartbeats 4000000 in
set_option maxRecDepth 100000 in
theorem wX4_digest_64 {p : Program} {l : Launch} {e : Env} {s : State} {m : MethodId} {args : Array Value} {below : List Frame} {meth : Method} {c : Code} {D : va_G} {cI : ClassId} {q : Nat → Nat} {qn : Nat} (C : Ctx p s m args meth c cX4_digest 8 RX4 (some .long)) (E : gE D cI s) {S0 : St} {r1 : Int64} {S1 : St} (x5 : Int32) : ∀ (n : Nat) (S : St) (x2 : Int64) (x6 : Int32), fX4_digest_64 x5 n S x2 x6 = some (r1, S1) → ∀ (H : Heap) (locs : List Loc) (ls : Array Slot), gW D ((mw cI q) S0) (mw5 cI (q5 q qn) S) s H locs → lv_has ls 8 [(0, .ref (q 0)), (2, .long x2), (4, .ref (q5 q qn 11)), (5, .int x5), (6, .int x6)] → W p l e ({ frames := 24, cells := 1, slots := 5, locals := 891 } : Room) s m args below meth c H locs 1 5 (MQ below (gQl D (mw cI q) S0 (fun (r : Int64) (u : St) => r = r1 ∧ u = S1) s.heap.size) args s 1 5 (va_A ((mw cI q) S0) s.heap.size)) (F0 m 64 ls []) := by
  intro n
  induction n with
  | zero => intro S x2 x6 hf; rw [fX4_digest_64] at hf; cases hf
  | succ n ih =>
    intro S x2 x6 hf H locs ls hw hl
    rw [fX4_digest_64] at hf
    refine lv_iload C.1 C.2.1 dX4_digest_64 (lv_at hl 4 rfl) ?_
    refine lv_iload C.1 C.2.1 dX4_digest_66 (lv_at hl 3 rfl) ?_
    refine lv_icmp_ge (tgt := 94) C.1 C.2.1 dX4_digest_68 (by decide) (fun hc => ?_) (fun hc => ?_)
    · have hf := ift hc hf
      have hw := g_drop5 hw
      refine lv_iconst (v := 0) C.1 C.2.1 dX4_digest_94 (by decide) ?_
      refine lv_istore (lv' := [(4, .int 0), (0, .ref (q 0)), (2, .long x2), (5, .int x5), (6, .int x6)]) C.1 C.2.1 dX4_digest_95 hl (by decide) rfl (fun ls hl => ?_)
      exact wX4_digest_97 C E 100 S x2 0 hf _ _ _ hw (lv_sub hl [1, 2, 0] rfl)
    · have hf := iff_ hc hf
      refine lv_aload C.1 C.2.1 dX4_digest_71 (lv_at hl 2 rfl) ?_
      refine lv_iload C.1 C.2.1 dX4_digest_73 (lv_at hl 4 rfl) ?_
      obtain ⟨v_10, hv_10, hf⟩ := bnd hf
      refine g_ald C E hw 11 rfl (ld_some hv_10) dX4_digest_75 ?_
      refine lv_istore (lv' := [(7, .int v_10), (0, .ref (q 0)), (2, .long x2), (4, .ref (q5 q qn 11)), (5, .int x5), (6, .int x6)]) C.1 C.2.1 dX4_digest_76 hl (by decide) rfl (fun ls hl => ?_)
      refine lv_lload_n C.1 C.2.1 dX4_digest_78 rfl (lv_at hl 2 rfl) ?_
      refine lv_ldc2 C.1 C.2.1 C.2.2.2.1 (C.2.2.2.2.1 _ kk_X4_141) dX4_digest_79 ?_
      refine lv_lmul C.1 C.2.1 dX4_digest_82 ?_
      refine lv_iload C.1 C.2.1 dX4_digest_83 (lv_at hl 0 rfl) ?_
      refine lv_i2l (v := (Int32.toInt64 v_10)) C.1 C.2.1 dX4_digest_85 rfl ?_
      refine lv_ladd C.1 C.2.1 dX4_digest_86 ?_
      obtain ⟨x2_11, hx2_11, hf⟩ := bnd hf
      refine topl_b hx2_11 ?_
      refine lv_lstore_n (lv' := [(2, .long x2_11), (7, .int v_10), (0, .ref (q 0)), (4, .ref (q5 q qn 11)), (5, .int x5), (6, .int x6)]) C.1 C.2.1 dX4_digest_87 rfl hl (by decide) rfl (fun ls hl => ?_)
      obtain ⟨x6_12, hx6_12, hf⟩ := bnd hf
      refine lv_iinc (v := x6_12) (lv' := [(6, .int x6_12), (2, .long x2_11), (7, .int v_10), (0, .ref (q 0)), (4, .ref (q5 q qn 11)), (5, .int x5)]) C.1 C.2.1 dX4_digest_88 hl (k := 5) rfl (inc1 hx6_12) (by decide) rfl (fun ls hl => ?_)
      refine lv_goto (tgt := 64) C.1 C.2.1 dX4_digest_91 (by decide) ?_
      exact ih S x2_11 x6_12 hf _ _ _ hw (lv_sub hl [3, 1, 4, 5, 0] rfl)
def fX4_digest (S : St) : Option (Int64 × St) :=
  Option.bind (some (up S 10 0 0)) fun S_1 =>
  Option.bind (fX4_reckon S_1) fun S_2 =>
  Option.bind (some (z5 S_2)) fun S_3 =>
  Option.bind (sto S_3 16 5 0 (S_3 11 0)) fun S_4 =>
  Option.bind (sto S_4 16 5 1 (S_4 12 0)) fun S_5 =>
  Option.bind (sto S_5 16 5 2 (S_5 13 0)) fun S_6 =>
  Option.bind (sto S_6 16 5 3 (S_6 14 0)) fun S_7 =>
  Option.bind (fX4_faded S_7 0) fun v_8 =>
  Option.bind (sto S_7 16 5 4 v_8) fun S_9 =>
  fX4_digest_64 5 100 S_9 1867 0
set_option maxHeartbeats 4000000 in
set_option maxRecDepth 100000 in
theorem ctX4_digest (l : Launch) {D : va_G} {cI : ClassId} {q : Nat → Nat} (S : St) (sz : Nat) {r1 : Int64} {S1 : St} (hf : fX4_digest S = some (r1, S1)) : Met l yX4_digest (Cond.code yX4_digest cX4_digest 8 (some .long) :: XALL) ({ frames := 24, cells := 1, slots := 5, locals := 891 } : Room) (va_Pc [.ref (q 0)] (gPre D cI ((mw cI q) S) sz)) (gQl D (mw cI q) S (fun (r : Int64) (u : St) => r = r1 ∧ u = S1) sz) 1 5 (va_A ((mw cI q) S) sz) := by
  unfold fX4_digest at hf
  refine Met.ofW (cc := cX4_digest) (maxL := 8) (ret := (some .long)) (by decide) rfl ?_
  intro p e s m args below meth c s₁ B hml hv
  obtain ⟨rfl, hg⟩ := hv
  have C : Ctx p s m _ meth c cX4_digest 8 RX4 (some .long) := Ctx.of B hml rfl
  obtain ⟨E, hw, hsz⟩ := g_start hg
  subst hsz
  have hl := lv_entry ([.ref (q 0)]) (n := 8) (Nat.le_of_ble_eq_true rfl)
  rw [lg_entry_eq]
  generalize (lg_sl ([.ref (q 0)]) ++ List.replicate (8 - (lg_sl ([.ref (q 0)])).length) Slot.unset).toArray = ls at hl ⊢
  have hl : lv_has ls 8 [(0, .ref (q 0))] := hl
  refine lv_aload_n C.1 C.2.1 dX4_digest_0 rfl (lv_at hl 0 rfl) ?_
  refine lv_iconst (v := 0) C.1 C.2.1 dX4_digest_1 (by decide) ?_
  obtain ⟨S_1, hS_1, hf⟩ := bnd hf
  refine g_put C E hw inW4 tyX4 tyX4_ok nmX4 0 rfl rfl 0 (by decide) kf_X4_40 rfl (by decide +kernel) (Nat.le_of_ble_eq_true rfl) (ws' := (mw cI q) S_1) (by rw [← Option.some.inj hS_1]; rfl) dX4_digest_2 (fun H locs hw => ?_)
  refine lv_aload_n C.1 C.2.1 dX4_digest_5 rfl (lv_at hl 0 rfl) ?_
  obtain ⟨S_2, hS_2, hf⟩ := bnd hf
  refine g_cve (wf := (mw cI q)) (S := S_1) (rest := []) mw_adr hw (g_runV (rm := ({ frames := 1, cells := 0, slots := 0, locals := 23 } : Room)) (As := []) (rest := []) C E hw F_X4_reckon (ctX4_reckon l (cI := cI) (D := D) (q := q) S_1  _ hS_2) km_X4_115 0 rfl rfl rfl hl.1 rfl (Nat.le_of_ble_eq_true rfl) ⟨(Nat.le_of_ble_eq_true rfl), (Nat.le_of_ble_eq_true rfl)⟩ ⟨(Nat.le_of_ble_eq_true rfl), (Nat.le_of_ble_eq_true rfl)⟩ dX4_digest_6) (fun H locs hw => ?_)
  refine lv_iconst (v := 5) C.1 C.2.1 dX4_digest_9 (by decide) ?_
  obtain ⟨S_3, hS_3, hf⟩ := bnd hf
  refine g_new5 C E hw hS_3 (Nat.le_of_ble_eq_true rfl) (Nat.le_of_ble_eq_true rfl) dX4_digest_10 (fun qn H locs hw => ?_)
  refine lv_dup C.1 C.2.1 dX4_digest_12 rfl ?_
  refine lv_iconst (v := 0) C.1 C.2.1 dX4_digest_13 (by decide) ?_
  refine lv_aload_n C.1 C.2.1 dX4_digest_14 rfl (lv_at hl 0 rfl) ?_
  refine g_get C E hw inW4 0 rfl rfl 1 (by decide) kf_X4_44 rfl dX4_digest_15 ?_
  obtain ⟨S_4, hS_4, hf⟩ := bnd hf
  refine g_ast C E hw 11 rfl (sto_some hS_4).1 (ws' := (mw5 cI (q5 q qn)) S_4) (by rw [← (sto_some hS_4).2]; rfl) dX4_digest_18 (fun H locs hw => ?_)
  refine lv_dup C.1 C.2.1 dX4_digest_19 rfl ?_
  refine lv_iconst (v := 1) C.1 C.2.1 dX4_digest_20 (by decide) ?_
  refine lv_aload_n C.1 C.2.1 dX4_digest_21 rfl (lv_at hl 0 rfl) ?_
  refine g_get C E hw inW4 0 rfl rfl 2 (by decide) kf_X4_51 rfl dX4_digest_22 ?_
  obtain ⟨S_5, hS_5, hf⟩ := bnd hf
  refine g_ast C E hw 11 rfl (sto_some hS_5).1 (ws' := (mw5 cI (q5 q qn)) S_5) (by rw [← (sto_some hS_5).2]; rfl) dX4_digest_25 (fun H locs hw => ?_)
  refine lv_dup C.1 C.2.1 dX4_digest_26 rfl ?_
  refine lv_iconst (v := 2) C.1 C.2.1 dX4_digest_27 (by decide) ?_
  refine lv_aload_n C.1 C.2.1 dX4_digest_28 rfl (lv_at hl 0 rfl) ?_
  refine g_get C E hw inW4 0 rfl rfl 3 (by decide) kf_X4_54 rfl dX4_digest_29 ?_
  obtain ⟨S_6, hS_6, hf⟩ := bnd hf
  refine g_ast C E hw 11 rfl (sto_some hS_6).1 (ws' := (mw5 cI (q5 q qn)) S_6) (by rw [← (sto_some hS_6).2]; rfl) dX4_digest_32 (fun H locs hw => ?_)
  refine lv_dup C.1 C.2.1 dX4_digest_33 rfl ?_
  refine lv_iconst (v := 3) C.1 C.2.1 dX4_digest_34 (by decide) ?_
  refine lv_aload_n C.1 C.2.1 dX4_digest_35 rfl (lv_at hl 0 rfl) ?_
  refine g_get C E hw inW4 0 rfl rfl 4 (by decide) kf_X4_81 rfl dX4_digest_36 ?_
  obtain ⟨S_7, hS_7, hf⟩ := bnd hf
  refine g_ast C E hw 11 rfl (sto_some hS_7).1 (ws' := (mw5 cI (q5 q qn)) S_7) (by rw [← (sto_some hS_7).2]; rfl) dX4_digest_39 (fun H locs hw => ?_)
  refine lv_dup C.1 C.2.1 dX4_digest_40 rfl ?_
  refine lv_iconst (v := 4) C.1 C.2.1 dX4_digest_41 (by decide) ?_
  refine lv_aload_n C.1 C.2.1 dX4_digest_42 rfl (lv_at hl 0 rfl) ?_
  refine lv_iconst (v := 0) C.1 C.2.1 dX4_digest_43 (by decide) ?_
  obtain ⟨v_8, hv_8, hf⟩ := bnd hf
  refine g_c5ie (rest := [.int 4, .ref (q5 q qn 11), .ref (q5 q qn 11)]) hw (g_runV (rm := ({ frames := 2, cells := 0, slots := 0, locals := 44 } : Room)) (As := [.int 0]) (rest := [.int 4, .ref (q5 q qn 11), .ref (q5 q qn 11)]) C E (g_sub5 hw) F_X4_faded (ctX4_faded l (cI := cI) (D := D) (q := (q5 q qn)) S_7 0 _ hv_8) km_X4_99 0 rfl rfl rfl hl.1 rfl (Nat.le_of_ble_eq_true rfl) ⟨(Nat.le_of_ble_eq_true rfl), (Nat.le_of_ble_eq_true rfl)⟩ ⟨(Nat.le_of_ble_eq_true rfl), (Nat.le_of_ble_eq_true rfl)⟩ dX4_digest_44) (fun H locs hw => ?_)
  obtain ⟨S_9, hS_9, hf⟩ := bnd hf
  refine g_ast C E hw 11 rfl (sto_some hS_9).1 (ws' := (mw5 cI (q5 q qn)) S_9) (by rw [← (sto_some hS_9).2]; rfl) dX4_digest_47 (fun H locs hw => ?_)
  refine lv_astore_n (lv' := [(1, .ref (q5 q qn 11)), (0, .ref (q 0))]) C.1 C.2.1 dX4_digest_48 rfl hl (by decide) rfl (fun ls hl => ?_)
  refine lv_ldc2 C.1 C.2.1 C.2.2.2.1 (C.2.2.2.2.1 _ kk_X4_139) dX4_digest_49 ?_
  refine lv_lstore_n (lv' := [(2, .long 1867), (1, .ref (q5 q qn 11)), (0, .ref (q 0))]) C.1 C.2.1 dX4_digest_52 rfl hl (by decide) rfl (fun ls hl => ?_)
  refine lv_aload_n C.1 C.2.1 dX4_digest_53 rfl (lv_at hl 1 rfl) ?_
  refine lv_astore (lv' := [(4, .ref (q5 q qn 11)), (2, .long 1867), (1, .ref (q5 q qn 11)), (0, .ref (q 0))]) C.1 C.2.1 dX4_digest_54 hl (by decide) rfl (fun ls hl => ?_)
  refine lv_aload C.1 C.2.1 dX4_digest_56 (lv_at hl 0 rfl) ?_
  refine va_alen C.1 C.2.1 E.1 hw.1 11 0 rfl rfl (v := 5) rfl dX4_digest_58 ?_
  refine lv_istore (lv' := [(5, .int 5), (4, .ref (q5 q qn 11)), (2, .long 1867), (1, .ref (q5 q qn 11)), (0, .ref (q 0))]) C.1 C.2.1 dX4_digest_59 hl (by decide) rfl (fun ls hl => ?_)
  refine lv_iconst (v := 0) C.1 C.2.1 dX4_digest_61 (by decide) ?_
  refine lv_istore (lv' := [(6, .int 0), (5, .int 5), (4, .ref (q5 q qn 11)), (2, .long 1867), (1, .ref (q5 q qn 11)), (0, .ref (q 0))]) C.1 C.2.1 dX4_digest_62 hl (by decide) rfl (fun ls hl => ?_)
  exact wX4_digest_64 C E 5 100 S_9 1867 0 hf _ _ _ hw (lv_sub hl [5, 3, 2, 1, 0] rfl)
