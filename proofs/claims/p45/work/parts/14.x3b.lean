/-! DreamLedger.tagsBelow -/
def fX3_tagsBelow (S : St) (x1 : Int32) : Option Int32 :=
  Option.bind (fX3_requireTag S x1) fun z_1 =>
  Option.bind (fX1_countBelow S x1) fun v_2 =>
  some v_2
set_option maxHeartbeats 4000000 in
set_option maxRecDepth 100000 in
theorem ctX3_tagsBelow (l : Launch) {D : va_G} {cI : ClassId} {q : Nat → Nat} (S : St) (x1 : Int32) (sz : Nat) {r1 : Int32} (hf : fX3_tagsBelow S x1 = some r1) : Met l yX3_tagsBelow (Cond.code yX3_tagsBelow cX3_tagsBelow 2 (some .int) :: XALL) ({ frames := 3, cells := 0, slots := 0, locals := 66 } : Room) (va_Pc [.ref (q 0), .int x1] (gPre D cI ((xw cI q) S) sz)) (gQi D (xw cI q) S (fun (r : Int32) (u : St) => r = r1 ∧ u = S) sz) 0 0 (va_A ((xw cI q) S) sz) := by
  unfold fX3_tagsBelow at hf
  refine Met.ofW (cc := cX3_tagsBelow) (maxL := 2) (ret := (some .int)) (by decide) rfl ?_
  intro p e s m args below meth c s₁ B hml hv
  obtain ⟨rfl, hg⟩ := hv
  have C : Ctx p s m _ meth c cX3_tagsBelow 2 RX3 (some .int) := Ctx.of B hml rfl
  obtain ⟨E, hw, hsz⟩ := g_start hg
  subst hsz
  have hl := lv_entry ([.ref (q 0), .int x1]) (n := 2) (Nat.le_of_ble_eq_true rfl)
  rw [lg_entry_eq]
  generalize (lg_sl ([.ref (q 0), .int x1]) ++ List.replicate (2 - (lg_sl ([.ref (q 0), .int x1])).length) Slot.unset).toArray = ls at hl ⊢
  have hl : lv_has ls 2 [(0, .ref (q 0)), (1, .int x1)] := hl
  refine lv_aload_n C.1 C.2.1 dX3_tagsBelow_0 rfl (lv_at hl 0 rfl) ?_
  refine lv_iload_n C.1 C.2.1 dX3_tagsBelow_1 rfl (lv_at hl 1 rfl) ?_
  obtain ⟨z_1, hz_1, hf⟩ := bnd hf
  refine g_cve (wf := (xw cI q)) (S := S) (rest := []) xw_adr hw (g_runV (rm := ({ frames := 0, cells := 0, slots := 0, locals := 0 } : Room)) (As := [.int x1]) (rest := []) C E hw F_X3_requireTag (ctX3_requireTag l (cI := cI) (D := D) (q := q) S x1 _ hz_1) km_X3_76 0 rfl rfl rfl hl.1 rfl (Nat.le_of_ble_eq_true rfl) ⟨(Nat.le_of_ble_eq_true rfl), (Nat.le_of_ble_eq_true rfl)⟩ ⟨(Nat.le_of_ble_eq_true rfl), (Nat.le_of_ble_eq_true rfl)⟩ dX3_tagsBelow_2) (fun H locs hw => ?_)
  refine lv_aload_n C.1 C.2.1 dX3_tagsBelow_5 rfl (lv_at hl 0 rfl) ?_
  refine g_get C E hw inW3 0 rfl rfl 0 (by decide) kf_X3_10 rfl dX3_tagsBelow_6 ?_
  refine lv_iload_n C.1 C.2.1 dX3_tagsBelow_9 rfl (lv_at hl 1 rfl) ?_
  obtain ⟨v_2, hv_2, hf⟩ := bnd hf
  refine g_cie (wf := (xw cI q)) (S := S) (rest := []) xw_adr hw (g_runVN (rm := ({ frames := 2, cells := 0, slots := 0, locals := 43 } : Room)) (As := [.int x1]) (rest := []) C E hw F_X1_countBelow (ctX1_countBelow l (cI := cI) (D := D) (q := q) S x1 _ hv_2) kmN_X3_136 1 rfl rfl rfl hl.1 rfl (Nat.le_of_ble_eq_true rfl) ⟨(Nat.le_of_ble_eq_true rfl), (Nat.le_of_ble_eq_true rfl)⟩ ⟨(Nat.le_of_ble_eq_true rfl), (Nat.le_of_ble_eq_true rfl)⟩ dX3_tagsBelow_10) (fun H locs hw => ?_)
  exact g_iret C hw (Nat.le_of_ble_eq_true rfl) (Nat.le_of_ble_eq_true rfl) ⟨Option.some.inj hf, rfl⟩ dX3_tagsBelow_13
/-! DreamLedger.isBelow -/
def fX3_isBelow (S : St) (x1 : Int32) (x2 : Int32) : Option Int32 :=
  Option.bind (fX3_requireTag S x1) fun z_1 =>
  Option.bind (fX3_requireTag S x2) fun z_2 =>
  Option.bind (fX1_standsBelow S x1 x2) fun v_3 =>
  Option.bind (zg v_3) fun v_4 =>
  some v_4
set_option maxHeartbeats 4000000 in
set_option maxRecDepth 100000 in
theorem ctX3_isBelow (l : Launch) {D : va_G} {cI : ClassId} {q : Nat → Nat} (S : St) (x1 : Int32) (x2 : Int32) (sz : Nat) {r1 : Int32} (hf : fX3_isBelow S x1 x2 = some r1) : Met l yX3_isBelow (Cond.code yX3_isBelow cX3_isBelow 3 (some .boolean) :: XALL) ({ frames := 2, cells := 0, slots := 0, locals := 43 } : Room) (va_Pc [.ref (q 0), .int x1, .int x2] (gPre D cI ((xw cI q) S) sz)) (gQi D (xw cI q) S (fun (r : Int32) (u : St) => r = r1 ∧ u = S) sz) 0 0 (va_A ((xw cI q) S) sz) := by
  unfold fX3_isBelow at hf
  refine Met.ofW (cc := cX3_isBelow) (maxL := 3) (ret := (some .boolean)) (by decide) rfl ?_
  intro p e s m args below meth c s₁ B hml hv
  obtain ⟨rfl, hg⟩ := hv
  have C : Ctx p s m _ meth c cX3_isBelow 3 RX3 (some .boolean) := Ctx.of B hml rfl
  obtain ⟨E, hw, hsz⟩ := g_start hg
  subst hsz
  have hl := lv_entry ([.ref (q 0), .int x1, .int x2]) (n := 3) (Nat.le_of_ble_eq_true rfl)
  rw [lg_entry_eq]
  generalize (lg_sl ([.ref (q 0), .int x1, .int x2]) ++ List.replicate (3 - (lg_sl ([.ref (q 0), .int x1, .int x2])).length) Slot.unset).toArray = ls at hl ⊢
  have hl : lv_has ls 3 [(0, .ref (q 0)), (1, .int x1), (2, .int x2)] := hl
  refine lv_aload_n C.1 C.2.1 dX3_isBelow_0 rfl (lv_at hl 0 rfl) ?_
  refine lv_iload_n C.1 C.2.1 dX3_isBelow_1 rfl (lv_at hl 1 rfl) ?_
  obtain ⟨z_1, hz_1, hf⟩ := bnd hf
  refine g_cve (wf := (xw cI q)) (S := S) (rest := []) xw_adr hw (g_runV (rm := ({ frames := 0, cells := 0, slots := 0, locals := 0 } : Room)) (As := [.int x1]) (rest := []) C E hw F_X3_requireTag (ctX3_requireTag l (cI := cI) (D := D) (q := q) S x1 _ hz_1) km_X3_76 0 rfl rfl rfl hl.1 rfl (Nat.le_of_ble_eq_true rfl) ⟨(Nat.le_of_ble_eq_true rfl), (Nat.le_of_ble_eq_true rfl)⟩ ⟨(Nat.le_of_ble_eq_true rfl), (Nat.le_of_ble_eq_true rfl)⟩ dX3_isBelow_2) (fun H locs hw => ?_)
  refine lv_aload_n C.1 C.2.1 dX3_isBelow_5 rfl (lv_at hl 0 rfl) ?_
  refine lv_iload_n C.1 C.2.1 dX3_isBelow_6 rfl (lv_at hl 2 rfl) ?_
  obtain ⟨z_2, hz_2, hf⟩ := bnd hf
  refine g_cve (wf := (xw cI q)) (S := S) (rest := []) xw_adr hw (g_runV (rm := ({ frames := 0, cells := 0, slots := 0, locals := 0 } : Room)) (As := [.int x2]) (rest := []) C E hw F_X3_requireTag (ctX3_requireTag l (cI := cI) (D := D) (q := q) S x2 _ hz_2) km_X3_76 0 rfl rfl rfl hl.1 rfl (Nat.le_of_ble_eq_true rfl) ⟨(Nat.le_of_ble_eq_true rfl), (Nat.le_of_ble_eq_true rfl)⟩ ⟨(Nat.le_of_ble_eq_true rfl), (Nat.le_of_ble_eq_true rfl)⟩ dX3_isBelow_7) (fun H locs hw => ?_)
  refine lv_aload_n C.1 C.2.1 dX3_isBelow_10 rfl (lv_at hl 0 rfl) ?_
  refine g_get C E hw inW3 0 rfl rfl 0 (by decide) kf_X3_10 rfl dX3_isBelow_11 ?_
  refine lv_iload_n C.1 C.2.1 dX3_isBelow_14 rfl (lv_at hl 1 rfl) ?_
  refine lv_iload_n C.1 C.2.1 dX3_isBelow_15 rfl (lv_at hl 2 rfl) ?_
  obtain ⟨v_3, hv_3, hf⟩ := bnd hf
  refine g_cie (wf := (xw cI q)) (S := S) (rest := []) xw_adr hw (g_runVN (rm := ({ frames := 1, cells := 0, slots := 0, locals := 21 } : Room)) (As := [.int x1, .int x2]) (rest := []) C E hw F_X1_standsBelow (ctX1_standsBelow l (cI := cI) (D := D) (q := q) S x1 x2 _ hv_3) kmN_X3_139 1 rfl rfl rfl hl.1 rfl (Nat.le_of_ble_eq_true rfl) ⟨(Nat.le_of_ble_eq_true rfl), (Nat.le_of_ble_eq_true rfl)⟩ ⟨(Nat.le_of_ble_eq_true rfl), (Nat.le_of_ble_eq_true rfl)⟩ dX3_isBelow_16) (fun H locs hw => ?_)
  obtain ⟨v_4, hv_4, hf⟩ := bnd hf
  rw [(zg_some hv_4).1]
  exact g_zret C hw (Nat.le_of_ble_eq_true rfl) (Nat.le_of_ble_eq_true rfl) (zg_some hv_4).2 ⟨Option.some.inj hf, rfl⟩ dX3_isBelow_19
/-! DreamLedger.nearestAbove -/
def fX3_nearestAbove (S : St) (x1 : Int32) (x2 : Int32) : Option Int32 :=
  Option.bind (fX3_requireTag S x1) fun z_1 =>
  Option.bind (fX3_requireTag S x2) fun z_2 =>
  Option.bind (ld S 5 16 x1) fun v_3 =>
  Option.bind (ld S 5 16 x2) fun v_4 =>
  Option.bind (fX1_lowestOf S (v_3 &&& v_4)) fun v_5 =>
  some v_5
set_option maxHeartbeats 4000000 in
set_option maxRecDepth 100000 in
theorem ctX3_nearestAbove (l : Launch) {D : va_G} {cI : ClassId} {q : Nat → Nat} (S : St) (x1 : Int32) (x2 : Int32) (sz : Nat) {r1 : Int32} (hf : fX3_nearestAbove S x1 x2 = some r1) : Met l yX3_nearestAbove (Cond.code yX3_nearestAbove cX3_nearestAbove 3 (some .int) :: XALL) ({ frames := 3, cells := 0, slots := 0, locals := 65 } : Room) (va_Pc [.ref (q 0), .int x1, .int x2] (gPre D cI ((xw cI q) S) sz)) (gQi D (xw cI q) S (fun (r : Int32) (u : St) => r = r1 ∧ u = S) sz) 0 0 (va_A ((xw cI q) S) sz) := by
  unfold fX3_nearestAbove at hf
  refine Met.ofW (cc := cX3_nearestAbove) (maxL := 3) (ret := (some .int)) (by decide) rfl ?_
  intro p e s m args below meth c s₁ B hml hv
  obtain ⟨rfl, hg⟩ := hv
  have C : Ctx p s m _ meth c cX3_nearestAbove 3 RX3 (some .int) := Ctx.of B hml rfl
  obtain ⟨E, hw, hsz⟩ := g_start hg
  subst hsz
  have hl := lv_entry ([.ref (q 0), .int x1, .int x2]) (n := 3) (Nat.le_of_ble_eq_true rfl)
  rw [lg_entry_eq]
  generalize (lg_sl ([.ref (q 0), .int x1, .int x2]) ++ List.replicate (3 - (lg_sl ([.ref (q 0), .int x1, .int x2])).length) Slot.unset).toArray = ls at hl ⊢
  have hl : lv_has ls 3 [(0, .ref (q 0)), (1, .int x1), (2, .int x2)] := hl
  refine lv_aload_n C.1 C.2.1 dX3_nearestAbove_0 rfl (lv_at hl 0 rfl) ?_
  refine lv_iload_n C.1 C.2.1 dX3_nearestAbove_1 rfl (lv_at hl 1 rfl) ?_
  obtain ⟨z_1, hz_1, hf⟩ := bnd hf
  refine g_cve (wf := (xw cI q)) (S := S) (rest := []) xw_adr hw (g_runV (rm := ({ frames := 0, cells := 0, slots := 0, locals := 0 } : Room)) (As := [.int x1]) (rest := []) C E hw F_X3_requireTag (ctX3_requireTag l (cI := cI) (D := D) (q := q) S x1 _ hz_1) km_X3_76 0 rfl rfl rfl hl.1 rfl (Nat.le_of_ble_eq_true rfl) ⟨(Nat.le_of_ble_eq_true rfl), (Nat.le_of_ble_eq_true rfl)⟩ ⟨(Nat.le_of_ble_eq_true rfl), (Nat.le_of_ble_eq_true rfl)⟩ dX3_nearestAbove_2) (fun H locs hw => ?_)
  refine lv_aload_n C.1 C.2.1 dX3_nearestAbove_5 rfl (lv_at hl 0 rfl) ?_
  refine lv_iload_n C.1 C.2.1 dX3_nearestAbove_6 rfl (lv_at hl 2 rfl) ?_
  obtain ⟨z_2, hz_2, hf⟩ := bnd hf
  refine g_cve (wf := (xw cI q)) (S := S) (rest := []) xw_adr hw (g_runV (rm := ({ frames := 0, cells := 0, slots := 0, locals := 0 } : Room)) (As := [.int x2]) (rest := []) C E hw F_X3_requireTag (ctX3_requireTag l (cI := cI) (D := D) (q := q) S x2 _ hz_2) km_X3_76 0 rfl rfl rfl hl.1 rfl (Nat.le_of_ble_eq_true rfl) ⟨(Nat.le_of_ble_eq_true rfl), (Nat.le_of_ble_eq_true rfl)⟩ ⟨(Nat.le_of_ble_eq_true rfl), (Nat.le_of_ble_eq_true rfl)⟩ dX3_nearestAbove_7) (fun H locs hw => ?_)
  refine lv_aload_n C.1 C.2.1 dX3_nearestAbove_10 rfl (lv_at hl 0 rfl) ?_
  refine g_get C E hw inW3 0 rfl rfl 0 (by decide) kf_X3_10 rfl dX3_nearestAbove_11 ?_
  refine lv_aload_n C.1 C.2.1 dX3_nearestAbove_14 rfl (lv_at hl 0 rfl) ?_
  refine g_get C E hw inW3 0 rfl rfl 0 (by decide) kf_X3_10 rfl dX3_nearestAbove_15 ?_
  refine g_getN C E hw inW1 1 rfl rfl 1 (by decide) kfN_X3_142 rfl dX3_nearestAbove_18 ?_
  refine lv_iload_n C.1 C.2.1 dX3_nearestAbove_21 rfl (lv_at hl 1 rfl) ?_
  obtain ⟨v_3, hv_3, hf⟩ := bnd hf
  refine g_ald C E hw 9 rfl (ld_some hv_3) dX3_nearestAbove_22 ?_
  refine lv_aload_n C.1 C.2.1 dX3_nearestAbove_23 rfl (lv_at hl 0 rfl) ?_
  refine g_get C E hw inW3 0 rfl rfl 0 (by decide) kf_X3_10 rfl dX3_nearestAbove_24 ?_
  refine g_getN C E hw inW1 1 rfl rfl 1 (by decide) kfN_X3_142 rfl dX3_nearestAbove_27 ?_
  refine lv_iload_n C.1 C.2.1 dX3_nearestAbove_30 rfl (lv_at hl 2 rfl) ?_
  obtain ⟨v_4, hv_4, hf⟩ := bnd hf
  refine g_ald C E hw 9 rfl (ld_some hv_4) dX3_nearestAbove_31 ?_
  refine lv_iand C.1 C.2.1 dX3_nearestAbove_32 ?_
  obtain ⟨v_5, hv_5, hf⟩ := bnd hf
  refine g_cie (wf := (xw cI q)) (S := S) (rest := []) xw_adr hw (g_runVN (rm := ({ frames := 2, cells := 0, slots := 0, locals := 41 } : Room)) (As := [.int (v_3 &&& v_4)]) (rest := []) C E hw F_X1_lowestOf (ctX1_lowestOf l (cI := cI) (D := D) (q := q) S (v_3 &&& v_4) _ hv_5) kmN_X3_145 1 rfl rfl rfl hl.1 rfl (Nat.le_of_ble_eq_true rfl) ⟨(Nat.le_of_ble_eq_true rfl), (Nat.le_of_ble_eq_true rfl)⟩ ⟨(Nat.le_of_ble_eq_true rfl), (Nat.le_of_ble_eq_true rfl)⟩ dX3_nearestAbove_33) (fun H locs hw => ?_)
  exact g_iret C hw (Nat.le_of_ble_eq_true rfl) (Nat.le_of_ble_eq_true rfl) ⟨Option.some.inj hf, rfl⟩ dX3_nearestAbove_36
/-! DreamLedger.dreamsWith -/
def fX3_dreamsWith (S : St) (x1 : Int32) : Option Int32 :=
  Option.bind (fX3_requireTag S x1) fun z_1 =>
  Option.bind (fX3_dreamsHaving S x1) fun v_2 =>
  Option.bind (fJ6_bitCount_0f7a4 v_2) fun v_3 =>
  some v_3
set_option maxHeartbeats 4000000 in
set_option maxRecDepth 100000 in
theorem ctX3_dreamsWith (l : Launch) {D : va_G} {cI : ClassId} {q : Nat → Nat} (S : St) (x1 : Int32) (sz : Nat) {r1 : Int32} (hf : fX3_dreamsWith S x1 = some r1) : Met l yX3_dreamsWith (Cond.code yX3_dreamsWith cX3_dreamsWith 2 (some .int) :: XALL) ({ frames := 2, cells := 0, slots := 0, locals := 44 } : Room) (va_Pc [.ref (q 0), .int x1] (gPre D cI ((xw cI q) S) sz)) (gQi D (xw cI q) S (fun (r : Int32) (u : St) => r = r1 ∧ u = S) sz) 0 0 (va_A ((xw cI q) S) sz) := by
  unfold fX3_dreamsWith at hf
  refine Met.ofW (cc := cX3_dreamsWith) (maxL := 2) (ret := (some .int)) (by decide) rfl ?_
  intro p e s m args below meth c s₁ B hml hv
  obtain ⟨rfl, hg⟩ := hv
  have C : Ctx p s m _ meth c cX3_dreamsWith 2 RX3 (some .int) := Ctx.of B hml rfl
  obtain ⟨E, hw, hsz⟩ := g_start hg
  subst hsz
  have hl := lv_entry ([.ref (q 0), .int x1]) (n := 2) (Nat.le_of_ble_eq_true rfl)
  rw [lg_entry_eq]
  generalize (lg_sl ([.ref (q 0), .int x1]) ++ List.replicate (2 - (lg_sl ([.ref (q 0), .int x1])).length) Slot.unset).toArray = ls at hl ⊢
  have hl : lv_has ls 2 [(0, .ref (q 0)), (1, .int x1)] := hl
  refine lv_aload_n C.1 C.2.1 dX3_dreamsWith_0 rfl (lv_at hl 0 rfl) ?_
  refine lv_iload_n C.1 C.2.1 dX3_dreamsWith_1 rfl (lv_at hl 1 rfl) ?_
  obtain ⟨z_1, hz_1, hf⟩ := bnd hf
  refine g_cve (wf := (xw cI q)) (S := S) (rest := []) xw_adr hw (g_runV (rm := ({ frames := 0, cells := 0, slots := 0, locals := 0 } : Room)) (As := [.int x1]) (rest := []) C E hw F_X3_requireTag (ctX3_requireTag l (cI := cI) (D := D) (q := q) S x1 _ hz_1) km_X3_76 0 rfl rfl rfl hl.1 rfl (Nat.le_of_ble_eq_true rfl) ⟨(Nat.le_of_ble_eq_true rfl), (Nat.le_of_ble_eq_true rfl)⟩ ⟨(Nat.le_of_ble_eq_true rfl), (Nat.le_of_ble_eq_true rfl)⟩ dX3_dreamsWith_2) (fun H locs hw => ?_)
  refine lv_aload_n C.1 C.2.1 dX3_dreamsWith_5 rfl (lv_at hl 0 rfl) ?_
  refine lv_iload_n C.1 C.2.1 dX3_dreamsWith_6 rfl (lv_at hl 1 rfl) ?_
  obtain ⟨v_2, hv_2, hf⟩ := bnd hf
  refine g_cie (wf := (xw cI q)) (S := S) (rest := []) xw_adr hw (g_runV (rm := ({ frames := 1, cells := 0, slots := 0, locals := 21 } : Room)) (As := [.int x1]) (rest := []) C E hw F_X3_dreamsHaving (ctX3_dreamsHaving l (cI := cI) (D := D) (q := q) S x1 _ hv_2) km_X3_148 0 rfl rfl rfl hl.1 rfl (Nat.le_of_ble_eq_true rfl) ⟨(Nat.le_of_ble_eq_true rfl), (Nat.le_of_ble_eq_true rfl)⟩ ⟨(Nat.le_of_ble_eq_true rfl), (Nat.le_of_ble_eq_true rfl)⟩ dX3_dreamsWith_7) (fun H locs hw => ?_)
  obtain ⟨v_3, hv_3, hf⟩ := bnd hf
  refine g_ci0e (rest := []) hw (g_run0 (rm := ({ frames := 0, cells := 0, slots := 0, locals := 0 } : Room)) (As := [.int v_2]) (rest := []) C F_J6_bitCount_0f7a4 (ctJ6_bitCount_0f7a4 l v_2 hv_3) km_X3_104 rfl hl.1 rfl (Nat.le_of_ble_eq_true rfl) ⟨(Nat.le_of_ble_eq_true rfl), (Nat.le_of_ble_eq_true rfl)⟩ ⟨(Nat.le_of_ble_eq_true rfl), (Nat.le_of_ble_eq_true rfl)⟩ dX3_dreamsWith_10) (fun H locs hw => ?_)
  exact g_iret C hw (Nat.le_of_ble_eq_true rfl) (Nat.le_of_ble_eq_true rfl) ⟨Option.some.inj hf, rfl⟩ dX3_dreamsWith_13
/-! DreamLedger.hasOwnTag -/
def fX3_hasOwnTag (S : St) (x1 : Int32) (x2 : Int32) : Option Int32 :=
  Option.bind (fX3_requireDream S x1) fun z_1 =>
  Option.bind (fX3_requireTag S x2) fun z_2 =>
  Option.bind (ld S 0 24 x1) fun v_3 =>
  Option.bind (fX3_isIn x2 v_3) fun v_4 =>
  Option.bind (zg v_4) fun v_5 =>
  some v_5
set_option maxHeartbeats 4000000 in
set_option maxRecDepth 100000 in
theorem ctX3_hasOwnTag (l : Launch) {D : va_G} {cI : ClassId} {q : Nat → Nat} (S : St) (x1 : Int32) (x2 : Int32) (sz : Nat) {r1 : Int32} (hf : fX3_hasOwnTag S x1 x2 = some r1) : Met l yX3_hasOwnTag (Cond.code yX3_hasOwnTag cX3_hasOwnTag 3 (some .boolean) :: XALL) ({ frames := 1, cells := 0, slots := 0, locals := 21 } : Room) (va_Pc [.ref (q 0), .int x1, .int x2] (gPre D cI ((xw cI q) S) sz)) (gQi D (xw cI q) S (fun (r : Int32) (u : St) => r = r1 ∧ u = S) sz) 0 0 (va_A ((xw cI q) S) sz) := by
  unfold fX3_hasOwnTag at hf
  refine Met.ofW (cc := cX3_hasOwnTag) (maxL := 3) (ret := (some .boolean)) (by decide) rfl ?_
  intro p e s m args below meth c s₁ B hml hv
  obtain ⟨rfl, hg⟩ := hv
  have C : Ctx p s m _ meth c cX3_hasOwnTag 3 RX3 (some .boolean) := Ctx.of B hml rfl
  obtain ⟨E, hw, hsz⟩ := g_start hg
  subst hsz
  have hl := lv_entry ([.ref (q 0), .int x1, .int x2]) (n := 3) (Nat.le_of_ble_eq_true rfl)
  rw [lg_entry_eq]
  generalize (lg_sl ([.ref (q 0), .int x1, .int x2]) ++ List.replicate (3 - (lg_sl ([.ref (q 0), .int x1, .int x2])).length) Slot.unset).toArray = ls at hl ⊢
  have hl : lv_has ls 3 [(0, .ref (q 0)), (1, .int x1), (2, .int x2)] := hl
  refine lv_aload_n C.1 C.2.1 dX3_hasOwnTag_0 rfl (lv_at hl 0 rfl) ?_
  refine lv_iload_n C.1 C.2.1 dX3_hasOwnTag_1 rfl (lv_at hl 1 rfl) ?_
  obtain ⟨z_1, hz_1, hf⟩ := bnd hf
  refine g_cve (wf := (xw cI q)) (S := S) (rest := []) xw_adr hw (g_runV (rm := ({ frames := 0, cells := 0, slots := 0, locals := 0 } : Room)) (As := [.int x1]) (rest := []) C E hw F_X3_requireDream (ctX3_requireDream l (cI := cI) (D := D) (q := q) S x1 _ hz_1) km_X3_95 0 rfl rfl rfl hl.1 rfl (Nat.le_of_ble_eq_true rfl) ⟨(Nat.le_of_ble_eq_true rfl), (Nat.le_of_ble_eq_true rfl)⟩ ⟨(Nat.le_of_ble_eq_true rfl), (Nat.le_of_ble_eq_true rfl)⟩ dX3_hasOwnTag_2) (fun H locs hw => ?_)
  refine lv_aload_n C.1 C.2.1 dX3_hasOwnTag_5 rfl (lv_at hl 0 rfl) ?_
  refine lv_iload_n C.1 C.2.1 dX3_hasOwnTag_6 rfl (lv_at hl 2 rfl) ?_
  obtain ⟨z_2, hz_2, hf⟩ := bnd hf
  refine g_cve (wf := (xw cI q)) (S := S) (rest := []) xw_adr hw (g_runV (rm := ({ frames := 0, cells := 0, slots := 0, locals := 0 } : Room)) (As := [.int x2]) (rest := []) C E hw F_X3_requireTag (ctX3_requireTag l (cI := cI) (D := D) (q := q) S x2 _ hz_2) km_X3_76 0 rfl rfl rfl hl.1 rfl (Nat.le_of_ble_eq_true rfl) ⟨(Nat.le_of_ble_eq_true rfl), (Nat.le_of_ble_eq_true rfl)⟩ ⟨(Nat.le_of_ble_eq_true rfl), (Nat.le_of_ble_eq_true rfl)⟩ dX3_hasOwnTag_7) (fun H locs hw => ?_)
  refine lv_iload_n C.1 C.2.1 dX3_hasOwnTag_10 rfl (lv_at hl 2 rfl) ?_
  refine lv_aload_n C.1 C.2.1 dX3_hasOwnTag_11 rfl (lv_at hl 0 rfl) ?_
  refine g_get C E hw inW3 0 rfl rfl 3 (by decide) kf_X3_30 rfl dX3_hasOwnTag_12 ?_
  refine lv_iload_n C.1 C.2.1 dX3_hasOwnTag_15 rfl (lv_at hl 1 rfl) ?_
  obtain ⟨v_3, hv_3, hf⟩ := bnd hf
  refine g_ald C E hw 4 rfl (ld_some hv_3) dX3_hasOwnTag_16 ?_
  obtain ⟨v_4, hv_4, hf⟩ := bnd hf
  refine g_ci0e (rest := []) hw (g_run0 (rm := ({ frames := 0, cells := 0, slots := 0, locals := 0 } : Room)) (As := [.int x2, .int v_3]) (rest := []) C F_X3_isIn (ctX3_isIn l x2 v_3 hv_4) km_X3_98 rfl hl.1 rfl (Nat.le_of_ble_eq_true rfl) ⟨(Nat.le_of_ble_eq_true rfl), (Nat.le_of_ble_eq_true rfl)⟩ ⟨(Nat.le_of_ble_eq_true rfl), (Nat.le_of_ble_eq_true rfl)⟩ dX3_hasOwnTag_17) (fun H locs hw => ?_)
  obtain ⟨v_5, hv_5, hf⟩ := bnd hf
  rw [(zg_some hv_5).1]
  exact g_zret C hw (Nat.le_of_ble_eq_true rfl) (Nat.le_of_ble_eq_true rfl) (zg_some hv_5).2 ⟨Option.some.inj hf, rfl⟩ dX3_hasOwnTag_20
/-! DreamLedger.hasTag -/
def fX3_hasTag (S : St) (x1 : Int32) (x2 : Int32) : Option Int32 :=
  Option.bind (fX3_requireDream S x1) fun z_1 =>
  Option.bind (fX3_requireTag S x2) fun z_2 =>
  Option.bind (ld S 1 24 x1) fun v_3 =>
  Option.bind (fX3_isIn x2 v_3) fun v_4 =>
  Option.bind (zg v_4) fun v_5 =>
  some v_5
set_option maxHeartbeats 4000000 in
set_option maxRecDepth 100000 in
theorem ctX3_hasTag (l : Launch) {D : va_G} {cI : ClassId} {q : Nat → Nat} (S : St) (x1 : Int32) (x2 : Int32) (sz : Nat) {r1 : Int32} (hf : fX3_hasTag S x1 x2 = some r1) : Met l yX3_hasTag (Cond.code yX3_hasTag cX3_hasTag 3 (some .boolean) :: XALL) ({ frames := 1, cells := 0, slots := 0, locals := 21 } : Room) (va_Pc [.ref (q 0), .int x1, .int x2] (gPre D cI ((xw cI q) S) sz)) (gQi D (xw cI q) S (fun (r : Int32) (u : St) => r = r1 ∧ u = S) sz) 0 0 (va_A ((xw cI q) S) sz) := by
  unfold fX3_hasTag at hf
  refine Met.ofW (cc := cX3_hasTag) (maxL := 3) (ret := (some .boolean)) (by decide) rfl ?_
  intro p e s m args below meth c s₁ B hml hv
  obtain ⟨rfl, hg⟩ := hv
  have C : Ctx p s m _ meth c cX3_hasTag 3 RX3 (some .boolean) := Ctx.of B hml rfl
  obtain ⟨E, hw, hsz⟩ := g_start hg
  subst hsz
  have hl := lv_entry ([.ref (q 0), .int x1, .int x2]) (n := 3) (Nat.le_of_ble_eq_true rfl)
  rw [lg_entry_eq]
  generalize (lg_sl ([.ref (q 0), .int x1, .int x2]) ++ List.replicate (3 - (lg_sl ([.ref (q 0), .int x1, .int x2])).length) Slot.unset).toArray = ls at hl ⊢
  have hl : lv_has ls 3 [(0, .ref (q 0)), (1, .int x1), (2, .int x2)] := hl
  refine lv_aload_n C.1 C.2.1 dX3_hasTag_0 rfl (lv_at hl 0 rfl) ?_
  refine lv_iload_n C.1 C.2.1 dX3_hasTag_1 rfl (lv_at hl 1 rfl) ?_
  obtain ⟨z_1, hz_1, hf⟩ := bnd hf
  refine g_cve (wf := (xw cI q)) (S := S) (rest := []) xw_adr hw (g_runV (rm := ({ frames := 0, cells := 0, slots := 0, locals := 0 } : Room)) (As := [.int x1]) (rest := []) C E hw F_X3_requireDream (ctX3_requireDream l (cI := cI) (D := D) (q := q) S x1 _ hz_1) km_X3_95 0 rfl rfl rfl hl.1 rfl (Nat.le_of_ble_eq_true rfl) ⟨(Nat.le_of_ble_eq_true rfl), (Nat.le_of_ble_eq_true rfl)⟩ ⟨(Nat.le_of_ble_eq_true rfl), (Nat.le_of_ble_eq_true rfl)⟩ dX3_hasTag_2) (fun H locs hw => ?_)
  refine lv_aload_n C.1 C.2.1 dX3_hasTag_5 rfl (lv_at hl 0 rfl) ?_
  refine lv_iload_n C.1 C.2.1 dX3_hasTag_6 rfl (lv_at hl 2 rfl) ?_
  obtain ⟨z_2, hz_2, hf⟩ := bnd hf
  refine g_cve (wf := (xw cI q)) (S := S) (rest := []) xw_adr hw (g_runV (rm := ({ frames := 0, cells := 0, slots := 0, locals := 0 } : Room)) (As := [.int x2]) (rest := []) C E hw F_X3_requireTag (ctX3_requireTag l (cI := cI) (D := D) (q := q) S x2 _ hz_2) km_X3_76 0 rfl rfl rfl hl.1 rfl (Nat.le_of_ble_eq_true rfl) ⟨(Nat.le_of_ble_eq_true rfl), (Nat.le_of_ble_eq_true rfl)⟩ ⟨(Nat.le_of_ble_eq_true rfl), (Nat.le_of_ble_eq_true rfl)⟩ dX3_hasTag_7) (fun H locs hw => ?_)
  refine lv_iload_n C.1 C.2.1 dX3_hasTag_10 rfl (lv_at hl 2 rfl) ?_
  refine lv_aload_n C.1 C.2.1 dX3_hasTag_11 rfl (lv_at hl 0 rfl) ?_
  refine g_get C E hw inW3 0 rfl rfl 4 (by decide) kf_X3_34 rfl dX3_hasTag_12 ?_
  refine lv_iload_n C.1 C.2.1 dX3_hasTag_15 rfl (lv_at hl 1 rfl) ?_
  obtain ⟨v_3, hv_3, hf⟩ := bnd hf
  refine g_ald C E hw 5 rfl (ld_some hv_3) dX3_hasTag_16 ?_
  obtain ⟨v_4, hv_4, hf⟩ := bnd hf
  refine g_ci0e (rest := []) hw (g_run0 (rm := ({ frames := 0, cells := 0, slots := 0, locals := 0 } : Room)) (As := [.int x2, .int v_3]) (rest := []) C F_X3_isIn (ctX3_isIn l x2 v_3 hv_4) km_X3_98 rfl hl.1 rfl (Nat.le_of_ble_eq_true rfl) ⟨(Nat.le_of_ble_eq_true rfl), (Nat.le_of_ble_eq_true rfl)⟩ ⟨(Nat.le_of_ble_eq_true rfl), (Nat.le_of_ble_eq_true rfl)⟩ dX3_hasTag_17) (fun H locs hw => ?_)
  obtain ⟨v_5, hv_5, hf⟩ := bnd hf
  rw [(zg_some hv_5).1]
  exact g_zret C hw (Nat.le_of_ble_eq_true rfl) (Nat.le_of_ble_eq_true rfl) (zg_some hv_5).2 ⟨Option.some.inj hf, rfl⟩ dX3_hasTag_20
/-! DreamLedger.tagsOf -/
def fX3_tagsOf (S : St) (x1 : Int32) : Option Int32 :=
  Option.bind (fX3_requireDream S x1) fun z_1 =>
  Option.bind (ld S 1 24 x1) fun v_2 =>
  Option.bind (fJ6_bitCount_0f7a4 v_2) fun v_3 =>
  some v_3
set_option maxHeartbeats 4000000 in
set_option maxRecDepth 100000 in
theorem ctX3_tagsOf (l : Launch) {D : va_G} {cI : ClassId} {q : Nat → Nat} (S : St) (x1 : Int32) (sz : Nat) {r1 : Int32} (hf : fX3_tagsOf S x1 = some r1) : Met l yX3_tagsOf (Cond.code yX3_tagsOf cX3_tagsOf 2 (some .int) :: XALL) ({ frames := 1, cells := 0, slots := 0, locals := 21 } : Room) (va_Pc [.ref (q 0), .int x1] (gPre D cI ((xw cI q) S) sz)) (gQi D (xw cI q) S (fun (r : Int32) (u : St) => r = r1 ∧ u = S) sz) 0 0 (va_A ((xw cI q) S) sz) := by
  unfold fX3_tagsOf at hf
  refine Met.ofW (cc := cX3_tagsOf) (maxL := 2) (ret := (some .int)) (by decide) rfl ?_
  intro p e s m args below meth c s₁ B hml hv
  obtain ⟨rfl, hg⟩ := hv
  have C : Ctx p s m _ meth c cX3_tagsOf 2 RX3 (some .int) := Ctx.of B hml rfl
  obtain ⟨E, hw, hsz⟩ := g_start hg
  subst hsz
  have hl := lv_entry ([.ref (q 0), .int x1]) (n := 2) (Nat.le_of_ble_eq_true rfl)
  rw [lg_entry_eq]
  generalize (lg_sl ([.ref (q 0), .int x1]) ++ List.replicate (2 - (lg_sl ([.ref (q 0), .int x1])).length) Slot.unset).toArray = ls at hl ⊢
  have hl : lv_has ls 2 [(0, .ref (q 0)), (1, .int x1)] := hl
  refine lv_aload_n C.1 C.2.1 dX3_tagsOf_0 rfl (lv_at hl 0 rfl) ?_
  refine lv_iload_n C.1 C.2.1 dX3_tagsOf_1 rfl (lv_at hl 1 rfl) ?_
  obtain ⟨z_1, hz_1, hf⟩ := bnd hf
  refine g_cve (wf := (xw cI q)) (S := S) (rest := []) xw_adr hw (g_runV (rm := ({ frames := 0, cells := 0, slots := 0, locals := 0 } : Room)) (As := [.int x1]) (rest := []) C E hw F_X3_requireDream (ctX3_requireDream l (cI := cI) (D := D) (q := q) S x1 _ hz_1) km_X3_95 0 rfl rfl rfl hl.1 rfl (Nat.le_of_ble_eq_true rfl) ⟨(Nat.le_of_ble_eq_true rfl), (Nat.le_of_ble_eq_true rfl)⟩ ⟨(Nat.le_of_ble_eq_true rfl), (Nat.le_of_ble_eq_true rfl)⟩ dX3_tagsOf_2) (fun H locs hw => ?_)
  refine lv_aload_n C.1 C.2.1 dX3_tagsOf_5 rfl (lv_at hl 0 rfl) ?_
  refine g_get C E hw inW3 0 rfl rfl 4 (by decide) kf_X3_34 rfl dX3_tagsOf_6 ?_
  refine lv_iload_n C.1 C.2.1 dX3_tagsOf_9 rfl (lv_at hl 1 rfl) ?_
  obtain ⟨v_2, hv_2, hf⟩ := bnd hf
  refine g_ald C E hw 5 rfl (ld_some hv_2) dX3_tagsOf_10 ?_
  obtain ⟨v_3, hv_3, hf⟩ := bnd hf
  refine g_ci0e (rest := []) hw (g_run0 (rm := ({ frames := 0, cells := 0, slots := 0, locals := 0 } : Room)) (As := [.int v_2]) (rest := []) C F_J6_bitCount_0f7a4 (ctJ6_bitCount_0f7a4 l v_2 hv_3) km_X3_104 rfl hl.1 rfl (Nat.le_of_ble_eq_true rfl) ⟨(Nat.le_of_ble_eq_true rfl), (Nat.le_of_ble_eq_true rfl)⟩ ⟨(Nat.le_of_ble_eq_true rfl), (Nat.le_of_ble_eq_true rfl)⟩ dX3_tagsOf_11) (fun H locs hw => ?_)
  exact g_iret C hw (Nat.le_of_ble_eq_true rfl) (Nat.le_of_ble_eq_true rfl) ⟨Option.some.inj hf, rfl⟩ dX3_tagsOf_14
/-! DreamLedger.vividnessOf -/
def fX3_vividnessOf (S : St) (x1 : Int32) : Option Int32 :=
  Option.bind (fX3_requireDream S x1) fun z_1 =>
  Option.bind (ld S 2 24 x1) fun v_2 =>
  some v_2
set_option maxHeartbeats 4000000 in
set_option maxRecDepth 100000 in
theorem ctX3_vividnessOf (l : Launch) {D : va_G} {cI : ClassId} {q : Nat → Nat} (S : St) (x1 : Int32) (sz : Nat) {r1 : Int32} (hf : fX3_vividnessOf S x1 = some r1) : Met l yX3_vividnessOf (Cond.code yX3_vividnessOf cX3_vividnessOf 2 (some .int) :: XALL) ({ frames := 1, cells := 0, slots := 0, locals := 21 } : Room) (va_Pc [.ref (q 0), .int x1] (gPre D cI ((xw cI q) S) sz)) (gQi D (xw cI q) S (fun (r : Int32) (u : St) => r = r1 ∧ u = S) sz) 0 0 (va_A ((xw cI q) S) sz) := by
  unfold fX3_vividnessOf at hf
  refine Met.ofW (cc := cX3_vividnessOf) (maxL := 2) (ret := (some .int)) (by decide) rfl ?_
  intro p e s m args below meth c s₁ B hml hv
  obtain ⟨rfl, hg⟩ := hv
  have C : Ctx p s m _ meth c cX3_vividnessOf 2 RX3 (some .int) := Ctx.of B hml rfl
  obtain ⟨E, hw, hsz⟩ := g_start hg
  subst hsz
  have hl := lv_entry ([.ref (q 0), .int x1]) (n := 2) (Nat.le_of_ble_eq_true rfl)
  rw [lg_entry_eq]
  generalize (lg_sl ([.ref (q 0), .int x1]) ++ List.replicate (2 - (lg_sl ([.ref (q 0), .int x1])).length) Slot.unset).toArray = ls at hl ⊢
  have hl : lv_has ls 2 [(0, .ref (q 0)), (1, .int x1)] := hl
  refine lv_aload_n C.1 C.2.1 dX3_vividnessOf_0 rfl (lv_at hl 0 rfl) ?_
  refine lv_iload_n C.1 C.2.1 dX3_vividnessOf_1 rfl (lv_at hl 1 rfl) ?_
  obtain ⟨z_1, hz_1, hf⟩ := bnd hf
  refine g_cve (wf := (xw cI q)) (S := S) (rest := []) xw_adr hw (g_runV (rm := ({ frames := 0, cells := 0, slots := 0, locals := 0 } : Room)) (As := [.int x1]) (rest := []) C E hw F_X3_requireDream (ctX3_requireDream l (cI := cI) (D := D) (q := q) S x1 _ hz_1) km_X3_95 0 rfl rfl rfl hl.1 rfl (Nat.le_of_ble_eq_true rfl) ⟨(Nat.le_of_ble_eq_true rfl), (Nat.le_of_ble_eq_true rfl)⟩ ⟨(Nat.le_of_ble_eq_true rfl), (Nat.le_of_ble_eq_true rfl)⟩ dX3_vividnessOf_2) (fun H locs hw => ?_)
  refine lv_aload_n C.1 C.2.1 dX3_vividnessOf_5 rfl (lv_at hl 0 rfl) ?_
  refine g_get C E hw inW3 0 rfl rfl 5 (by decide) kf_X3_37 rfl dX3_vividnessOf_6 ?_
  refine lv_iload_n C.1 C.2.1 dX3_vividnessOf_9 rfl (lv_at hl 1 rfl) ?_
  obtain ⟨v_2, hv_2, hf⟩ := bnd hf
  refine g_ald C E hw 6 rfl (ld_some hv_2) dX3_vividnessOf_10 ?_
  exact g_iret C hw (Nat.le_of_ble_eq_true rfl) (Nat.le_of_ble_eq_true rfl) ⟨Option.some.inj hf, rfl⟩ dX3_vividnessOf_11
/-! DreamLedger.nightOf -/
def fX3_nightOf (S : St) (x1 : Int32) : Option Int32 :=
  Option.bind (fX3_requireDream S x1) fun z_1 =>
  Option.bind (ld S 3 24 x1) fun v_2 =>
  some v_2
set_option maxHeartbeats 4000000 in
set_option maxRecDepth 100000 in
theorem ctX3_nightOf (l : Launch) {D : va_G} {cI : ClassId} {q : Nat → Nat} (S : St) (x1 : Int32) (sz : Nat) {r1 : Int32} (hf : fX3_nightOf S x1 = some r1) : Met l yX3_nightOf (Cond.code yX3_nightOf cX3_nightOf 2 (some .int) :: XALL) ({ frames := 1, cells := 0, slots := 0, locals := 21 } : Room) (va_Pc [.ref (q 0), .int x1] (gPre D cI ((xw cI q) S) sz)) (gQi D (xw cI q) S (fun (r : Int32) (u : St) => r = r1 ∧ u = S) sz) 0 0 (va_A ((xw cI q) S) sz) := by
  unfold fX3_nightOf at hf
  refine Met.ofW (cc := cX3_nightOf) (maxL := 2) (ret := (some .int)) (by decide) rfl ?_
  intro p e s m args below meth c s₁ B hml hv
  obtain ⟨rfl, hg⟩ := hv
  have C : Ctx p s m _ meth c cX3_nightOf 2 RX3 (some .int) := Ctx.of B hml rfl
  obtain ⟨E, hw, hsz⟩ := g_start hg
  subst hsz
  have hl := lv_entry ([.ref (q 0), .int x1]) (n := 2) (Nat.le_of_ble_eq_true rfl)
  rw [lg_entry_eq]
  generalize (lg_sl ([.ref (q 0), .int x1]) ++ List.replicate (2 - (lg_sl ([.ref (q 0), .int x1])).length) Slot.unset).toArray = ls at hl ⊢
  have hl : lv_has ls 2 [(0, .ref (q 0)), (1, .int x1)] := hl
  refine lv_aload_n C.1 C.2.1 dX3_nightOf_0 rfl (lv_at hl 0 rfl) ?_
  refine lv_iload_n C.1 C.2.1 dX3_nightOf_1 rfl (lv_at hl 1 rfl) ?_
  obtain ⟨z_1, hz_1, hf⟩ := bnd hf
  refine g_cve (wf := (xw cI q)) (S := S) (rest := []) xw_adr hw (g_runV (rm := ({ frames := 0, cells := 0, slots := 0, locals := 0 } : Room)) (As := [.int x1]) (rest := []) C E hw F_X3_requireDream (ctX3_requireDream l (cI := cI) (D := D) (q := q) S x1 _ hz_1) km_X3_95 0 rfl rfl rfl hl.1 rfl (Nat.le_of_ble_eq_true rfl) ⟨(Nat.le_of_ble_eq_true rfl), (Nat.le_of_ble_eq_true rfl)⟩ ⟨(Nat.le_of_ble_eq_true rfl), (Nat.le_of_ble_eq_true rfl)⟩ dX3_nightOf_2) (fun H locs hw => ?_)
  refine lv_aload_n C.1 C.2.1 dX3_nightOf_5 rfl (lv_at hl 0 rfl) ?_
  refine g_get C E hw inW3 0 rfl rfl 6 (by decide) kf_X3_40 rfl dX3_nightOf_6 ?_
  refine lv_iload_n C.1 C.2.1 dX3_nightOf_9 rfl (lv_at hl 1 rfl) ?_
  obtain ⟨v_2, hv_2, hf⟩ := bnd hf
  refine g_ald C E hw 7 rfl (ld_some hv_2) dX3_nightOf_10 ?_
  exact g_iret C hw (Nat.le_of_ble_eq_true rfl) (Nat.le_of_ble_eq_true rfl) ⟨Option.some.inj hf, rfl⟩ dX3_nightOf_11
/-! DreamLedger.matches -/
def fX3_matches (S : St) (x1 : Int32) (x2 : Int32) : Option Int32 :=
  Option.bind (fX3_requireTerm S x1) fun z_1 =>
  Option.bind (fX3_requireDream S x2) fun z_2 =>
  Option.bind (ld S 9 20 x1) fun v_3 =>
  Option.bind (fX3_isIn x2 v_3) fun v_4 =>
  Option.bind (zg v_4) fun v_5 =>
  some v_5
set_option maxHeartbeats 4000000 in
set_option maxRecDepth 100000 in
theorem ctX3_matches (l : Launch) {D : va_G} {cI : ClassId} {q : Nat → Nat} (S : St) (x1 : Int32) (x2 : Int32) (sz : Nat) {r1 : Int32} (hf : fX3_matches S x1 x2 = some r1) : Met l yX3_matches (Cond.code yX3_matches cX3_matches 3 (some .boolean) :: XALL) ({ frames := 1, cells := 0, slots := 0, locals := 21 } : Room) (va_Pc [.ref (q 0), .int x1, .int x2] (gPre D cI ((xw cI q) S) sz)) (gQi D (xw cI q) S (fun (r : Int32) (u : St) => r = r1 ∧ u = S) sz) 0 0 (va_A ((xw cI q) S) sz) := by
  unfold fX3_matches at hf
  refine Met.ofW (cc := cX3_matches) (maxL := 3) (ret := (some .boolean)) (by decide) rfl ?_
  intro p e s m args below meth c s₁ B hml hv
  obtain ⟨rfl, hg⟩ := hv
  have C : Ctx p s m _ meth c cX3_matches 3 RX3 (some .boolean) := Ctx.of B hml rfl
  obtain ⟨E, hw, hsz⟩ := g_start hg
  subst hsz
  have hl := lv_entry ([.ref (q 0), .int x1, .int x2]) (n := 3) (Nat.le_of_ble_eq_true rfl)
  rw [lg_entry_eq]
  generalize (lg_sl ([.ref (q 0), .int x1, .int x2]) ++ List.replicate (3 - (lg_sl ([.ref (q 0), .int x1, .int x2])).length) Slot.unset).toArray = ls at hl ⊢
  have hl : lv_has ls 3 [(0, .ref (q 0)), (1, .int x1), (2, .int x2)] := hl
  refine lv_aload_n C.1 C.2.1 dX3_matches_0 rfl (lv_at hl 0 rfl) ?_
  refine lv_iload_n C.1 C.2.1 dX3_matches_1 rfl (lv_at hl 1 rfl) ?_
  obtain ⟨z_1, hz_1, hf⟩ := bnd hf
  refine g_cve (wf := (xw cI q)) (S := S) (rest := []) xw_adr hw (g_runV (rm := ({ frames := 0, cells := 0, slots := 0, locals := 0 } : Room)) (As := [.int x1]) (rest := []) C E hw F_X3_requireTerm (ctX3_requireTerm l (cI := cI) (D := D) (q := q) S x1 _ hz_1) km_X3_132 0 rfl rfl rfl hl.1 rfl (Nat.le_of_ble_eq_true rfl) ⟨(Nat.le_of_ble_eq_true rfl), (Nat.le_of_ble_eq_true rfl)⟩ ⟨(Nat.le_of_ble_eq_true rfl), (Nat.le_of_ble_eq_true rfl)⟩ dX3_matches_2) (fun H locs hw => ?_)
  refine lv_aload_n C.1 C.2.1 dX3_matches_5 rfl (lv_at hl 0 rfl) ?_
  refine lv_iload_n C.1 C.2.1 dX3_matches_6 rfl (lv_at hl 2 rfl) ?_
  obtain ⟨z_2, hz_2, hf⟩ := bnd hf
  refine g_cve (wf := (xw cI q)) (S := S) (rest := []) xw_adr hw (g_runV (rm := ({ frames := 0, cells := 0, slots := 0, locals := 0 } : Room)) (As := [.int x2]) (rest := []) C E hw F_X3_requireDream (ctX3_requireDream l (cI := cI) (D := D) (q := q) S x2 _ hz_2) km_X3_95 0 rfl rfl rfl hl.1 rfl (Nat.le_of_ble_eq_true rfl) ⟨(Nat.le_of_ble_eq_true rfl), (Nat.le_of_ble_eq_true rfl)⟩ ⟨(Nat.le_of_ble_eq_true rfl), (Nat.le_of_ble_eq_true rfl)⟩ dX3_matches_7) (fun H locs hw => ?_)
  refine lv_iload_n C.1 C.2.1 dX3_matches_10 rfl (lv_at hl 2 rfl) ?_
  refine lv_aload_n C.1 C.2.1 dX3_matches_11 rfl (lv_at hl 0 rfl) ?_
  refine g_get C E hw inW3 0 rfl rfl 1 (by decide) kf_X3_19 rfl dX3_matches_12 ?_
  refine g_getN C E hw inW2 2 rfl rfl 3 (by decide) kfN_X3_151 rfl dX3_matches_15 ?_
  refine lv_iload_n C.1 C.2.1 dX3_matches_18 rfl (lv_at hl 1 rfl) ?_
  obtain ⟨v_3, hv_3, hf⟩ := bnd hf
  refine g_ald C E hw 13 rfl (ld_some hv_3) dX3_matches_19 ?_
  obtain ⟨v_4, hv_4, hf⟩ := bnd hf
  refine g_ci0e (rest := []) hw (g_run0 (rm := ({ frames := 0, cells := 0, slots := 0, locals := 0 } : Room)) (As := [.int x2, .int v_3]) (rest := []) C F_X3_isIn (ctX3_isIn l x2 v_3 hv_4) km_X3_98 rfl hl.1 rfl (Nat.le_of_ble_eq_true rfl) ⟨(Nat.le_of_ble_eq_true rfl), (Nat.le_of_ble_eq_true rfl)⟩ ⟨(Nat.le_of_ble_eq_true rfl), (Nat.le_of_ble_eq_true rfl)⟩ dX3_matches_20) (fun H locs hw => ?_)
  obtain ⟨v_5, hv_5, hf⟩ := bnd hf
  rw [(zg_some hv_5).1]
  exact g_zret C hw (Nat.le_of_ble_eq_true rfl) (Nat.le_of_ble_eq_true rfl) (zg_some hv_5).2 ⟨Option.some.inj hf, rfl⟩ dX3_matches_23
/-! DreamLedger.matchesOf -/
def fX3_matchesOf (S : St) (x1 : Int32) : Option Int32 :=
  Option.bind (fX3_requireTerm S x1) fun z_1 =>
  Option.bind (ld S 9 20 x1) fun v_2 =>
  Option.bind (fJ6_bitCount_0f7a4 v_2) fun v_3 =>
  some v_3
set_option maxHeartbeats 4000000 in
set_option maxRecDepth 100000 in
theorem ctX3_matchesOf (l : Launch) {D : va_G} {cI : ClassId} {q : Nat → Nat} (S : St) (x1 : Int32) (sz : Nat) {r1 : Int32} (hf : fX3_matchesOf S x1 = some r1) : Met l yX3_matchesOf (Cond.code yX3_matchesOf cX3_matchesOf 2 (some .int) :: XALL) ({ frames := 1, cells := 0, slots := 0, locals := 21 } : Room) (va_Pc [.ref (q 0), .int x1] (gPre D cI ((xw cI q) S) sz)) (gQi D (xw cI q) S (fun (r : Int32) (u : St) => r = r1 ∧ u = S) sz) 0 0 (va_A ((xw cI q) S) sz) := by
  unfold fX3_matchesOf at hf
  refine Met.ofW (cc := cX3_matchesOf) (maxL := 2) (ret := (some .int)) (by decide) rfl ?_
  intro p e s m args below meth c s₁ B hml hv
  obtain ⟨rfl, hg⟩ := hv
  have C : Ctx p s m _ meth c cX3_matchesOf 2 RX3 (some .int) := Ctx.of B hml rfl
  obtain ⟨E, hw, hsz⟩ := g_start hg
  subst hsz
  have hl := lv_entry ([.ref (q 0), .int x1]) (n := 2) (Nat.le_of_ble_eq_true rfl)
  rw [lg_entry_eq]
  generalize (lg_sl ([.ref (q 0), .int x1]) ++ List.replicate (2 - (lg_sl ([.ref (q 0), .int x1])).length) Slot.unset).toArray = ls at hl ⊢
  have hl : lv_has ls 2 [(0, .ref (q 0)), (1, .int x1)] := hl
  refine lv_aload_n C.1 C.2.1 dX3_matchesOf_0 rfl (lv_at hl 0 rfl) ?_
  refine lv_iload_n C.1 C.2.1 dX3_matchesOf_1 rfl (lv_at hl 1 rfl) ?_
  obtain ⟨z_1, hz_1, hf⟩ := bnd hf
  refine g_cve (wf := (xw cI q)) (S := S) (rest := []) xw_adr hw (g_runV (rm := ({ frames := 0, cells := 0, slots := 0, locals := 0 } : Room)) (As := [.int x1]) (rest := []) C E hw F_X3_requireTerm (ctX3_requireTerm l (cI := cI) (D := D) (q := q) S x1 _ hz_1) km_X3_132 0 rfl rfl rfl hl.1 rfl (Nat.le_of_ble_eq_true rfl) ⟨(Nat.le_of_ble_eq_true rfl), (Nat.le_of_ble_eq_true rfl)⟩ ⟨(Nat.le_of_ble_eq_true rfl), (Nat.le_of_ble_eq_true rfl)⟩ dX3_matchesOf_2) (fun H locs hw => ?_)
  refine lv_aload_n C.1 C.2.1 dX3_matchesOf_5 rfl (lv_at hl 0 rfl) ?_
  refine g_get C E hw inW3 0 rfl rfl 1 (by decide) kf_X3_19 rfl dX3_matchesOf_6 ?_
  refine g_getN C E hw inW2 2 rfl rfl 3 (by decide) kfN_X3_151 rfl dX3_matchesOf_9 ?_
  refine lv_iload_n C.1 C.2.1 dX3_matchesOf_12 rfl (lv_at hl 1 rfl) ?_
  obtain ⟨v_2, hv_2, hf⟩ := bnd hf
  refine g_ald C E hw 13 rfl (ld_some hv_2) dX3_matchesOf_13 ?_
  obtain ⟨v_3, hv_3, hf⟩ := bnd hf
  refine g_ci0e (rest := []) hw (g_run0 (rm := ({ frames := 0, cells := 0, slots := 0, locals := 0 } : Room)) (As := [.int v_2]) (rest := []) C F_J6_bitCount_0f7a4 (ctJ6_bitCount_0f7a4 l v_2 hv_3) km_X3_104 rfl hl.1 rfl (Nat.le_of_ble_eq_true rfl) ⟨(Nat.le_of_ble_eq_true rfl), (Nat.le_of_ble_eq_true rfl)⟩ ⟨(Nat.le_of_ble_eq_true rfl), (Nat.le_of_ble_eq_true rfl)⟩ dX3_matchesOf_14) (fun H locs hw => ?_)
  exact g_iret C hw (Nat.le_of_ble_eq_true rfl) (Nat.le_of_ble_eq_true rfl) ⟨Option.some.inj hf, rfl⟩ dX3_matchesOf_17
/-! DreamLedger.tagsSharedBy -/
def fX3_tagsSharedBy_13 (S : St) (x1 : Int32) : Nat → Int32 → Int32 → Option Int32
  | 0, _, _ => none
  | n + 1, x2, x3 =>
    if (S 12 0) ≤ x3 then
      some x2
    else
      Option.bind (fX3_isIn x3 x1) fun v_1 =>
      if v_1 = 0 then
        Option.bind (some (x3 + 1)) fun x3_2 =>
        fX3_tagsSharedBy_13 S x1 n x2 x3_2
      else
        Option.bind (ld S 1 24 x3) fun v_3 =>
        Option.bind (some ((x2 &&& v_3))) fun x2_4 =>
        Option.bind (some (x3 + 1)) fun x3_5 =>
        fX3_tagsSharedBy_13 S x1 n x2_4 x3_5
set_option maxHeartbeats 4000000 in
set_option maxRecDepth 100000 in
theorem wX3_tagsSharedBy_13 {p : Program} {l : Launch} {e : Env} {s : State} {m : MethodId} {args : Array Value} {below : List Frame} {meth : Method} {c : Code} {D : va_G} {cI : ClassId} {q : Nat → Nat} (C : Ctx p s m args meth c cX3_tagsSharedBy 4 RX3 (some .int)) (E : gE D cI s) {r1 : Int32} (S : St) (x1 : Int32) : ∀ (n : Nat) (x2 : Int32) (x3 : Int32), fX3_tagsSharedBy_13 S x1 n x2 x3 = some r1 → ∀ (H : Heap) (locs : List Loc) (ls : Array Slot), gW D ((xw cI q) S) ((xw cI q) S) s H locs → lv_has ls 4 [(0, .ref (q 0)), (1, .int x1), (2, .int x2), (3, .int x3)] → W p l e ({ frames := 1, cells := 0, slots := 0, locals := 21 } : Room) s m args below meth c H locs 0 0 (MQ below (gQi D (xw cI q) S (fun (r : Int32) (u : St) => r = r1 ∧ u = S) s.heap.size) args s 0 0 (va_A ((xw cI q) S) s.heap.size)) (F0 m 13 ls []) := by
  intro n
  induction n with
  | zero => intro x2 x3 hf; rw [fX3_tagsSharedBy_13] at hf; cases hf
  | succ n ih =>
    intro x2 x3 hf H locs ls hw hl
    rw [fX3_tagsSharedBy_13] at hf
    refine lv_iload_n C.1 C.2.1 dX3_tagsSharedBy_13 rfl (lv_at hl 3 rfl) ?_
    refine lv_aload_n C.1 C.2.1 dX3_tagsSharedBy_14 rfl (lv_at hl 0 rfl) ?_
    refine g_get C E hw inW3 0 rfl rfl 7 (by decide) kf_X3_84 rfl dX3_tagsSharedBy_15 ?_
    refine lv_icmp_ge (tgt := 44) C.1 C.2.1 dX3_tagsSharedBy_18 (by decide) (fun hc => ?_) (fun hc => ?_)
    · have hf := ift hc hf
      refine lv_iload_n C.1 C.2.1 dX3_tagsSharedBy_44 rfl (lv_at hl 2 rfl) ?_
      exact g_iret C hw (Nat.le_of_ble_eq_true rfl) (Nat.le_of_ble_eq_true rfl) ⟨Option.some.inj hf, rfl⟩ dX3_tagsSharedBy_45
    · have hf := iff_ hc hf
      refine lv_iload_n C.1 C.2.1 dX3_tagsSharedBy_21 rfl (lv_at hl 3 rfl) ?_
      refine lv_iload_n C.1 C.2.1 dX3_tagsSharedBy_22 rfl (lv_at hl 1 rfl) ?_
      obtain ⟨v_1, hv_1, hf⟩ := bnd hf
      refine g_ci0e (rest := []) hw (g_run0 (rm := ({ frames := 0, cells := 0, slots := 0, locals := 0 } : Room)) (As := [.int x3, .int x1]) (rest := []) C F_X3_isIn (ctX3_isIn l x3 x1 hv_1) km_X3_98 rfl hl.1 rfl (Nat.le_of_ble_eq_true rfl) ⟨(Nat.le_of_ble_eq_true rfl), (Nat.le_of_ble_eq_true rfl)⟩ ⟨(Nat.le_of_ble_eq_true rfl), (Nat.le_of_ble_eq_true rfl)⟩ dX3_tagsSharedBy_23) (fun H locs hw => ?_)
      refine lv_if_eq (tgt := 38) C.1 C.2.1 dX3_tagsSharedBy_26 (by decide) (fun hc => ?_) (fun hc => ?_)
      · have hf := ift hc hf
        obtain ⟨x3_2, hx3_2, hf⟩ := bnd hf
        refine lv_iinc (v := x3_2) (lv' := [(3, .int x3_2), (0, .ref (q 0)), (1, .int x1), (2, .int x2)]) C.1 C.2.1 dX3_tagsSharedBy_38 hl (k := 3) rfl (inc1 hx3_2) (by decide) rfl (fun ls hl => ?_)
        refine lv_goto (tgt := 13) C.1 C.2.1 dX3_tagsSharedBy_41 (by decide) ?_
        exact ih x2 x3_2 hf _ _ _ hw (lv_sub hl [1, 2, 3, 0] rfl)
      · have hf := iff_ hc hf
        refine lv_iload_n C.1 C.2.1 dX3_tagsSharedBy_29 rfl (lv_at hl 2 rfl) ?_
        refine lv_aload_n C.1 C.2.1 dX3_tagsSharedBy_30 rfl (lv_at hl 0 rfl) ?_
        refine g_get C E hw inW3 0 rfl rfl 4 (by decide) kf_X3_34 rfl dX3_tagsSharedBy_31 ?_
        refine lv_iload_n C.1 C.2.1 dX3_tagsSharedBy_34 rfl (lv_at hl 3 rfl) ?_
        obtain ⟨v_3, hv_3, hf⟩ := bnd hf
        refine g_ald C E hw 5 rfl (ld_some hv_3) dX3_tagsSharedBy_35 ?_
        refine lv_iand C.1 C.2.1 dX3_tagsSharedBy_36 ?_
        obtain ⟨x2_4, hx2_4, hf⟩ := bnd hf
        refine topi_b hx2_4 ?_
        refine lv_istore_n (lv' := [(2, .int x2_4), (0, .ref (q 0)), (1, .int x1), (3, .int x3)]) C.1 C.2.1 dX3_tagsSharedBy_37 rfl hl (by decide) rfl (fun ls hl => ?_)
        obtain ⟨x3_5, hx3_5, hf⟩ := bnd hf
        refine lv_iinc (v := x3_5) (lv' := [(3, .int x3_5), (2, .int x2_4), (0, .ref (q 0)), (1, .int x1)]) C.1 C.2.1 dX3_tagsSharedBy_38 hl (k := 3) rfl (inc1 hx3_5) (by decide) rfl (fun ls hl => ?_)
        refine lv_goto (tgt := 13) C.1 C.2.1 dX3_tagsSharedBy_41 (by decide) ?_
        exact ih x2_4 x3_5 hf _ _ _ hw (lv_sub hl [2, 3, 1, 0] rfl)
def fX3_tagsSharedBy (S : St) (x1 : Int32) : Option Int32 :=
  if x1 = 0 then
    fX3_tagsSharedBy_13 S x1 100 0 0
  else
    fX3_tagsSharedBy_13 S x1 100 65535 0
set_option maxHeartbeats 4000000 in
set_option maxRecDepth 100000 in
theorem ctX3_tagsSharedBy (l : Launch) {D : va_G} {cI : ClassId} {q : Nat → Nat} (S : St) (x1 : Int32) (sz : Nat) {r1 : Int32} (hf : fX3_tagsSharedBy S x1 = some r1) : Met l yX3_tagsSharedBy (Cond.code yX3_tagsSharedBy cX3_tagsSharedBy 4 (some .int) :: XALL) ({ frames := 1, cells := 0, slots := 0, locals := 21 } : Room) (va_Pc [.ref (q 0), .int x1] (gPre D cI ((xw cI q) S) sz)) (gQi D (xw cI q) S (fun (r : Int32) (u : St) => r = r1 ∧ u = S) sz) 0 0 (va_A ((xw cI q) S) sz) := by
  unfold fX3_tagsSharedBy at hf
  refine Met.ofW (cc := cX3_tagsSharedBy) (maxL := 4) (ret := (some .int)) (by decide) rfl ?_
  intro p e s m args below meth c s₁ B hml hv
  obtain ⟨rfl, hg⟩ := hv
  have C : Ctx p s m _ meth c cX3_tagsSharedBy 4 RX3 (some .int) := Ctx.of B hml rfl
  obtain ⟨E, hw, hsz⟩ := g_start hg
  subst hsz
  have hl := lv_entry ([.ref (q 0), .int x1]) (n := 4) (Nat.le_of_ble_eq_true rfl)
  rw [lg_entry_eq]
  generalize (lg_sl ([.ref (q 0), .int x1]) ++ List.replicate (4 - (lg_sl ([.ref (q 0), .int x1])).length) Slot.unset).toArray = ls at hl ⊢
  have hl : lv_has ls 4 [(0, .ref (q 0)), (1, .int x1)] := hl
  refine lv_iload_n C.1 C.2.1 dX3_tagsSharedBy_0 rfl (lv_at hl 1 rfl) ?_
  refine lv_if_ne (tgt := 8) C.1 C.2.1 dX3_tagsSharedBy_1 (by decide) (fun hc => ?_) (fun hc => ?_)
  · have hf := iff_ hc hf
    refine lv_ldc C.1 C.2.1 C.2.2.2.1 (C.2.2.2.2.1 _ kk_X3_241) dX3_tagsSharedBy_8 ?_
    refine lv_istore_n (lv' := [(2, .int 65535), (0, .ref (q 0)), (1, .int x1)]) C.1 C.2.1 dX3_tagsSharedBy_10 rfl hl (by decide) rfl (fun ls hl => ?_)
    refine lv_iconst (v := 0) C.1 C.2.1 dX3_tagsSharedBy_11 (by decide) ?_
    refine lv_istore_n (lv' := [(3, .int 0), (2, .int 65535), (0, .ref (q 0)), (1, .int x1)]) C.1 C.2.1 dX3_tagsSharedBy_12 rfl hl (by decide) rfl (fun ls hl => ?_)
    exact wX3_tagsSharedBy_13 C E S x1 100 65535 0 hf _ _ _ hw (lv_sub hl [2, 3, 1, 0] rfl)
  · have hf := ift hc hf
    refine lv_iconst (v := 0) C.1 C.2.1 dX3_tagsSharedBy_4 (by decide) ?_
    refine lv_goto (tgt := 10) C.1 C.2.1 dX3_tagsSharedBy_5 (by decide) ?_
    refine lv_istore_n (lv' := [(2, .int 0), (0, .ref (q 0)), (1, .int x1)]) C.1 C.2.1 dX3_tagsSharedBy_10 rfl hl (by decide) rfl (fun ls hl => ?_)
    refine lv_iconst (v := 0) C.1 C.2.1 dX3_tagsSharedBy_11 (by decide) ?_
    refine lv_istore_n (lv' := [(3, .int 0), (2, .int 0), (0, .ref (q 0)), (1, .int x1)]) C.1 C.2.1 dX3_tagsSharedBy_12 rfl hl (by decide) rfl (fun ls hl => ?_)
    exact wX3_tagsSharedBy_13 C E S x1 100 0 0 hf _ _ _ hw (lv_sub hl [2, 3, 1, 0] rfl)
/-! DreamLedger.commonTags -/
def fX3_commonTags (S : St) (x1 : Int32) : Option Int32 :=
  Option.bind (fX3_requireTerm S x1) fun z_1 =>
  Option.bind (ld S 9 20 x1) fun v_2 =>
  Option.bind (fX3_tagsSharedBy S v_2) fun v_3 =>
  Option.bind (fJ6_bitCount_0f7a4 v_3) fun v_4 =>
  some v_4
set_option maxHeartbeats 4000000 in
set_option maxRecDepth 100000 in
theorem ctX3_commonTags (l : Launch) {D : va_G} {cI : ClassId} {q : Nat → Nat} (S : St) (x1 : Int32) (sz : Nat) {r1 : Int32} (hf : fX3_commonTags S x1 = some r1) : Met l yX3_commonTags (Cond.code yX3_commonTags cX3_commonTags 2 (some .int) :: XALL) ({ frames := 2, cells := 0, slots := 0, locals := 44 } : Room) (va_Pc [.ref (q 0), .int x1] (gPre D cI ((xw cI q) S) sz)) (gQi D (xw cI q) S (fun (r : Int32) (u : St) => r = r1 ∧ u = S) sz) 0 0 (va_A ((xw cI q) S) sz) := by
  unfold fX3_commonTags at hf
  refine Met.ofW (cc := cX3_commonTags) (maxL := 2) (ret := (some .int)) (by decide) rfl ?_
  intro p e s m args below meth c s₁ B hml hv
  obtain ⟨rfl, hg⟩ := hv
  have C : Ctx p s m _ meth c cX3_commonTags 2 RX3 (some .int) := Ctx.of B hml rfl
  obtain ⟨E, hw, hsz⟩ := g_start hg
  subst hsz
  have hl := lv_entry ([.ref (q 0), .int x1]) (n := 2) (Nat.le_of_ble_eq_true rfl)
  rw [lg_entry_eq]
  generalize (lg_sl ([.ref (q 0), .int x1]) ++ List.replicate (2 - (lg_sl ([.ref (q 0), .int x1])).length) Slot.unset).toArray = ls at hl ⊢
  have hl : lv_has ls 2 [(0, .ref (q 0)), (1, .int x1)] := hl
  refine lv_aload_n C.1 C.2.1 dX3_commonTags_0 rfl (lv_at hl 0 rfl) ?_
  refine lv_iload_n C.1 C.2.1 dX3_commonTags_1 rfl (lv_at hl 1 rfl) ?_
  obtain ⟨z_1, hz_1, hf⟩ := bnd hf
  refine g_cve (wf := (xw cI q)) (S := S) (rest := []) xw_adr hw (g_runV (rm := ({ frames := 0, cells := 0, slots := 0, locals := 0 } : Room)) (As := [.int x1]) (rest := []) C E hw F_X3_requireTerm (ctX3_requireTerm l (cI := cI) (D := D) (q := q) S x1 _ hz_1) km_X3_132 0 rfl rfl rfl hl.1 rfl (Nat.le_of_ble_eq_true rfl) ⟨(Nat.le_of_ble_eq_true rfl), (Nat.le_of_ble_eq_true rfl)⟩ ⟨(Nat.le_of_ble_eq_true rfl), (Nat.le_of_ble_eq_true rfl)⟩ dX3_commonTags_2) (fun H locs hw => ?_)
  refine lv_aload_n C.1 C.2.1 dX3_commonTags_5 rfl (lv_at hl 0 rfl) ?_
  refine lv_aload_n C.1 C.2.1 dX3_commonTags_6 rfl (lv_at hl 0 rfl) ?_
  refine g_get C E hw inW3 0 rfl rfl 1 (by decide) kf_X3_19 rfl dX3_commonTags_7 ?_
  refine g_getN C E hw inW2 2 rfl rfl 3 (by decide) kfN_X3_151 rfl dX3_commonTags_10 ?_
  refine lv_iload_n C.1 C.2.1 dX3_commonTags_13 rfl (lv_at hl 1 rfl) ?_
  obtain ⟨v_2, hv_2, hf⟩ := bnd hf
  refine g_ald C E hw 13 rfl (ld_some hv_2) dX3_commonTags_14 ?_
  obtain ⟨v_3, hv_3, hf⟩ := bnd hf
  refine g_cie (wf := (xw cI q)) (S := S) (rest := []) xw_adr hw (g_runV (rm := ({ frames := 1, cells := 0, slots := 0, locals := 21 } : Room)) (As := [.int v_2]) (rest := []) C E hw F_X3_tagsSharedBy (ctX3_tagsSharedBy l (cI := cI) (D := D) (q := q) S v_2 _ hv_3) km_X3_157 0 rfl rfl rfl hl.1 rfl (Nat.le_of_ble_eq_true rfl) ⟨(Nat.le_of_ble_eq_true rfl), (Nat.le_of_ble_eq_true rfl)⟩ ⟨(Nat.le_of_ble_eq_true rfl), (Nat.le_of_ble_eq_true rfl)⟩ dX3_commonTags_15) (fun H locs hw => ?_)
  obtain ⟨v_4, hv_4, hf⟩ := bnd hf
  refine g_ci0e (rest := []) hw (g_run0 (rm := ({ frames := 0, cells := 0, slots := 0, locals := 0 } : Room)) (As := [.int v_3]) (rest := []) C F_J6_bitCount_0f7a4 (ctJ6_bitCount_0f7a4 l v_3 hv_4) km_X3_104 rfl hl.1 rfl (Nat.le_of_ble_eq_true rfl) ⟨(Nat.le_of_ble_eq_true rfl), (Nat.le_of_ble_eq_true rfl)⟩ ⟨(Nat.le_of_ble_eq_true rfl), (Nat.le_of_ble_eq_true rfl)⟩ dX3_commonTags_18) (fun H locs hw => ?_)
  exact g_iret C hw (Nat.le_of_ble_eq_true rfl) (Nat.le_of_ble_eq_true rfl) ⟨Option.some.inj hf, rfl⟩ dX3_commonTags_21
/-! DreamLedger.matchSame -/
def fX3_matchSame (S : St) (x1 : Int32) (x2 : Int32) : Option Int32 :=
  Option.bind (fX3_requireTerm S x1) fun z_1 =>
  Option.bind (fX3_requireTerm S x2) fun z_2 =>
  Option.bind (ld S 9 20 x1) fun v_3 =>
  Option.bind (ld S 9 20 x2) fun v_4 =>
  if v_3 = v_4 then
    some 1
  else
    some 0
set_option maxHeartbeats 4000000 in
set_option maxRecDepth 100000 in
theorem ctX3_matchSame (l : Launch) {D : va_G} {cI : ClassId} {q : Nat → Nat} (S : St) (x1 : Int32) (x2 : Int32) (sz : Nat) {r1 : Int32} (hf : fX3_matchSame S x1 x2 = some r1) : Met l yX3_matchSame (Cond.code yX3_matchSame cX3_matchSame 3 (some .boolean) :: XALL) ({ frames := 1, cells := 0, slots := 0, locals := 21 } : Room) (va_Pc [.ref (q 0), .int x1, .int x2] (gPre D cI ((xw cI q) S) sz)) (gQi D (xw cI q) S (fun (r : Int32) (u : St) => r = r1 ∧ u = S) sz) 0 0 (va_A ((xw cI q) S) sz) := by
  unfold fX3_matchSame at hf
  refine Met.ofW (cc := cX3_matchSame) (maxL := 3) (ret := (some .boolean)) (by decide) rfl ?_
  intro p e s m args below meth c s₁ B hml hv
  obtain ⟨rfl, hg⟩ := hv
  have C : Ctx p s m _ meth c cX3_matchSame 3 RX3 (some .boolean) := Ctx.of B hml rfl
  obtain ⟨E, hw, hsz⟩ := g_start hg
  subst hsz
  have hl := lv_entry ([.ref (q 0), .int x1, .int x2]) (n := 3) (Nat.le_of_ble_eq_true rfl)
  rw [lg_entry_eq]
  generalize (lg_sl ([.ref (q 0), .int x1, .int x2]) ++ List.replicate (3 - (lg_sl ([.ref (q 0), .int x1, .int x2])).length) Slot.unset).toArray = ls at hl ⊢
  have hl : lv_has ls 3 [(0, .ref (q 0)), (1, .int x1), (2, .int x2)] := hl
  refine lv_aload_n C.1 C.2.1 dX3_matchSame_0 rfl (lv_at hl 0 rfl) ?_
  refine lv_iload_n C.1 C.2.1 dX3_matchSame_1 rfl (lv_at hl 1 rfl) ?_
  obtain ⟨z_1, hz_1, hf⟩ := bnd hf
  refine g_cve (wf := (xw cI q)) (S := S) (rest := []) xw_adr hw (g_runV (rm := ({ frames := 0, cells := 0, slots := 0, locals := 0 } : Room)) (As := [.int x1]) (rest := []) C E hw F_X3_requireTerm (ctX3_requireTerm l (cI := cI) (D := D) (q := q) S x1 _ hz_1) km_X3_132 0 rfl rfl rfl hl.1 rfl (Nat.le_of_ble_eq_true rfl) ⟨(Nat.le_of_ble_eq_true rfl), (Nat.le_of_ble_eq_true rfl)⟩ ⟨(Nat.le_of_ble_eq_true rfl), (Nat.le_of_ble_eq_true rfl)⟩ dX3_matchSame_2) (fun H locs hw => ?_)
  refine lv_aload_n C.1 C.2.1 dX3_matchSame_5 rfl (lv_at hl 0 rfl) ?_
  refine lv_iload_n C.1 C.2.1 dX3_matchSame_6 rfl (lv_at hl 2 rfl) ?_
  obtain ⟨z_2, hz_2, hf⟩ := bnd hf
  refine g_cve (wf := (xw cI q)) (S := S) (rest := []) xw_adr hw (g_runV (rm := ({ frames := 0, cells := 0, slots := 0, locals := 0 } : Room)) (As := [.int x2]) (rest := []) C E hw F_X3_requireTerm (ctX3_requireTerm l (cI := cI) (D := D) (q := q) S x2 _ hz_2) km_X3_132 0 rfl rfl rfl hl.1 rfl (Nat.le_of_ble_eq_true rfl) ⟨(Nat.le_of_ble_eq_true rfl), (Nat.le_of_ble_eq_true rfl)⟩ ⟨(Nat.le_of_ble_eq_true rfl), (Nat.le_of_ble_eq_true rfl)⟩ dX3_matchSame_7) (fun H locs hw => ?_)
  refine lv_aload_n C.1 C.2.1 dX3_matchSame_10 rfl (lv_at hl 0 rfl) ?_
  refine g_get C E hw inW3 0 rfl rfl 1 (by decide) kf_X3_19 rfl dX3_matchSame_11 ?_
  refine g_getN C E hw inW2 2 rfl rfl 3 (by decide) kfN_X3_151 rfl dX3_matchSame_14 ?_
  refine lv_iload_n C.1 C.2.1 dX3_matchSame_17 rfl (lv_at hl 1 rfl) ?_
  obtain ⟨v_3, hv_3, hf⟩ := bnd hf
  refine g_ald C E hw 13 rfl (ld_some hv_3) dX3_matchSame_18 ?_
  refine lv_aload_n C.1 C.2.1 dX3_matchSame_19 rfl (lv_at hl 0 rfl) ?_
  refine g_get C E hw inW3 0 rfl rfl 1 (by decide) kf_X3_19 rfl dX3_matchSame_20 ?_
  refine g_getN C E hw inW2 2 rfl rfl 3 (by decide) kfN_X3_151 rfl dX3_matchSame_23 ?_
  refine lv_iload_n C.1 C.2.1 dX3_matchSame_26 rfl (lv_at hl 2 rfl) ?_
  obtain ⟨v_4, hv_4, hf⟩ := bnd hf
  refine g_ald C E hw 13 rfl (ld_some hv_4) dX3_matchSame_27 ?_
  refine lv_icmp_ne (tgt := 35) C.1 C.2.1 dX3_matchSame_28 (by decide) (fun hc => ?_) (fun hc => ?_)
  · have hf := iff_ hc hf
    refine lv_iconst (v := 0) C.1 C.2.1 dX3_matchSame_35 (by decide) ?_
    exact g_zret C hw (Nat.le_of_ble_eq_true rfl) (Nat.le_of_ble_eq_true rfl) (Or.inl rfl) ⟨Option.some.inj hf, rfl⟩ dX3_matchSame_36
  · have hf := ift hc hf
    refine lv_iconst (v := 1) C.1 C.2.1 dX3_matchSame_31 (by decide) ?_
    refine lv_goto (tgt := 36) C.1 C.2.1 dX3_matchSame_32 (by decide) ?_
    exact g_zret C hw (Nat.le_of_ble_eq_true rfl) (Nat.le_of_ble_eq_true rfl) (Or.inr rfl) ⟨Option.some.inj hf, rfl⟩ dX3_matchSame_36
/-! DreamLedger.smallestCover -/
def fX3_smallestCover_12 (x2 : Int32) : Nat → St → Int32 → Option (Int32 × St)
  | 0, _, _ => none
  | n + 1, S, x3 =>
    if 16 ≤ x3 then
      Option.bind (fX0_smallestOf S x2) fun u_4 => pr u_4 fun v_2 S_3 =>
      some (v_2, S_3)
    else
      Option.bind (fX3_dreamsHaving S x3) fun v_5 =>
      Option.bind (sto S 10 16 x3 (v_5 &&& x2)) fun S_6 =>
      Option.bind (some (x3 + 1)) fun x3_7 =>
      fX3_smallestCover_12 x2 n S_6 x3_7
set_option maxHeartbeats 4000000 in
set_option maxRecDepth 100000 in
theorem wX3_smallestCover_12 {p : Program} {l : Launch} {e : Env} {s : State} {m : MethodId} {args : Array Value} {below : List Frame} {meth : Method} {c : Code} {D : va_G} {cI : ClassId} {q : Nat → Nat} (C : Ctx p s m args meth c cX3_smallestCover 4 RX3 (some .int)) (E : gE D cI s) {S0 : St} {r1 : Int32} {S1 : St} (x2 : Int32) : ∀ (n : Nat) (S : St) (x3 : Int32), fX3_smallestCover_12 x2 n S x3 = some (r1, S1) → ∀ (H : Heap) (locs : List Loc) (ls : Array Slot), gW D ((xw cI q) S0) ((xw cI q) S) s H locs → lv_has ls 4 [(0, .ref (q 0)), (2, .int x2), (3, .int x3)] → W p l e ({ frames := 22, cells := 0, slots := 0, locals := 849 } : Room) s m args below meth c H locs 0 0 (MQ below (gQi D (xw cI q) S0 (fun (r : Int32) (u : St) => r = r1 ∧ u = S1) s.heap.size) args s 0 0 (va_A ((xw cI q) S0) s.heap.size)) (F0 m 12 ls []) := by
  intro n
  induction n with
  | zero => intro S x3 hf; rw [fX3_smallestCover_12] at hf; cases hf
  | succ n ih =>
    intro S x3 hf H locs ls hw hl
    rw [fX3_smallestCover_12] at hf
    refine lv_iload_n C.1 C.2.1 dX3_smallestCover_12 rfl (lv_at hl 2 rfl) ?_
    refine lv_bipush (v := 16) C.1 C.2.1 dX3_smallestCover_13 (by decide) ?_
    refine lv_icmp_ge (tgt := 40) C.1 C.2.1 dX3_smallestCover_15 (by decide) (fun hc => ?_) (fun hc => ?_)
    · have hf := ift hc hf
      refine lv_aload_n C.1 C.2.1 dX3_smallestCover_40 rfl (lv_at hl 0 rfl) ?_
      refine g_get C E hw inW3 0 rfl rfl 2 (by decide) kf_X3_26 rfl dX3_smallestCover_41 ?_
      refine lv_iload_n C.1 C.2.1 dX3_smallestCover_44 rfl (lv_at hl 1 rfl) ?_
      obtain ⟨⟨v_2, S_3⟩, hu_4, hf⟩ := bnd hf
      have hf := pr_r hf
      refine g_cie (wf := (xw cI q)) (S := S) (rest := []) xw_adr hw (g_runVN (rm := ({ frames := 21, cells := 0, slots := 0, locals := 826 } : Room)) (As := [.int x2]) (rest := []) C E hw F_X0_smallestOf (ctX0_smallestOf l (cI := cI) (D := D) (q := q) S x2 _ hu_4) kmN_X3_245 3 rfl rfl rfl hl.1 rfl (Nat.le_of_ble_eq_true rfl) ⟨(Nat.le_of_ble_eq_true rfl), (Nat.le_of_ble_eq_true rfl)⟩ ⟨(Nat.le_of_ble_eq_true rfl), (Nat.le_of_ble_eq_true rfl)⟩ dX3_smallestCover_45) (fun H locs hw => ?_)
      exact g_iret C hw (Nat.le_of_ble_eq_true rfl) (Nat.le_of_ble_eq_true rfl) ⟨congrArg Prod.fst (Option.some.inj hf), congrArg Prod.snd (Option.some.inj hf)⟩ dX3_smallestCover_48
    · have hf := iff_ hc hf
      refine lv_aload_n C.1 C.2.1 dX3_smallestCover_18 rfl (lv_at hl 0 rfl) ?_
      refine g_get C E hw inW3 0 rfl rfl 2 (by decide) kf_X3_26 rfl dX3_smallestCover_19 ?_
      refine g_getN C E hw inW0 3 rfl rfl 0 (by decide) kfN_X3_242 rfl dX3_smallestCover_22 ?_
      refine lv_iload_n C.1 C.2.1 dX3_smallestCover_25 rfl (lv_at hl 2 rfl) ?_
      refine lv_aload_n C.1 C.2.1 dX3_smallestCover_26 rfl (lv_at hl 0 rfl) ?_
      refine lv_iload_n C.1 C.2.1 dX3_smallestCover_27 rfl (lv_at hl 2 rfl) ?_
      obtain ⟨v_5, hv_5, hf⟩ := bnd hf
      refine g_cie (wf := (xw cI q)) (S := S) (rest := [.int x3, .ref (q 14)]) xw_adr hw (g_runV (rm := ({ frames := 1, cells := 0, slots := 0, locals := 21 } : Room)) (As := [.int x3]) (rest := [.int x3, .ref (q 14)]) C E hw F_X3_dreamsHaving (ctX3_dreamsHaving l (cI := cI) (D := D) (q := q) S x3 _ hv_5) km_X3_148 0 rfl rfl rfl hl.1 rfl (Nat.le_of_ble_eq_true rfl) ⟨(Nat.le_of_ble_eq_true rfl), (Nat.le_of_ble_eq_true rfl)⟩ ⟨(Nat.le_of_ble_eq_true rfl), (Nat.le_of_ble_eq_true rfl)⟩ dX3_smallestCover_28) (fun H locs hw => ?_)
      refine lv_iload_n C.1 C.2.1 dX3_smallestCover_31 rfl (lv_at hl 1 rfl) ?_
      refine lv_iand C.1 C.2.1 dX3_smallestCover_32 ?_
      obtain ⟨S_6, hS_6, hf⟩ := bnd hf
      refine g_ast C E hw 14 rfl (sto_some hS_6).1 (ws' := (xw cI q) S_6) (by rw [← (sto_some hS_6).2]; rfl) dX3_smallestCover_33 (fun H locs hw => ?_)
      obtain ⟨x3_7, hx3_7, hf⟩ := bnd hf
      refine lv_iinc (v := x3_7) (lv' := [(3, .int x3_7), (0, .ref (q 0)), (2, .int x2)]) C.1 C.2.1 dX3_smallestCover_34 hl (k := 2) rfl (inc1 hx3_7) (by decide) rfl (fun ls hl => ?_)
      refine lv_goto (tgt := 12) C.1 C.2.1 dX3_smallestCover_37 (by decide) ?_
      exact ih S_6 x3_7 hf _ _ _ hw (lv_sub hl [1, 2, 0] rfl)
def fX3_smallestCover (S : St) (x1 : Int32) : Option (Int32 × St) :=
  Option.bind (ld S 9 20 x1) fun v_1 =>
  fX3_smallestCover_12 v_1 100 S 0
set_option maxHeartbeats 4000000 in
set_option maxRecDepth 100000 in
theorem ctX3_smallestCover (l : Launch) {D : va_G} {cI : ClassId} {q : Nat → Nat} (S : St) (x1 : Int32) (sz : Nat) {r1 : Int32} {S1 : St} (hf : fX3_smallestCover S x1 = some (r1, S1)) : Met l yX3_smallestCover (Cond.code yX3_smallestCover cX3_smallestCover 4 (some .int) :: XALL) ({ frames := 22, cells := 0, slots := 0, locals := 849 } : Room) (va_Pc [.ref (q 0), .int x1] (gPre D cI ((xw cI q) S) sz)) (gQi D (xw cI q) S (fun (r : Int32) (u : St) => r = r1 ∧ u = S1) sz) 0 0 (va_A ((xw cI q) S) sz) := by
  unfold fX3_smallestCover at hf
  refine Met.ofW (cc := cX3_smallestCover) (maxL := 4) (ret := (some .int)) (by decide) rfl ?_
  intro p e s m args below meth c s₁ B hml hv
  obtain ⟨rfl, hg⟩ := hv
  have C : Ctx p s m _ meth c cX3_smallestCover 4 RX3 (some .int) := Ctx.of B hml rfl
  obtain ⟨E, hw, hsz⟩ := g_start hg
  subst hsz
  have hl := lv_entry ([.ref (q 0), .int x1]) (n := 4) (Nat.le_of_ble_eq_true rfl)
  rw [lg_entry_eq]
  generalize (lg_sl ([.ref (q 0), .int x1]) ++ List.replicate (4 - (lg_sl ([.ref (q 0), .int x1])).length) Slot.unset).toArray = ls at hl ⊢
  have hl : lv_has ls 4 [(0, .ref (q 0)), (1, .int x1)] := hl
  refine lv_aload_n C.1 C.2.1 dX3_smallestCover_0 rfl (lv_at hl 0 rfl) ?_
  refine g_get C E hw inW3 0 rfl rfl 1 (by decide) kf_X3_19 rfl dX3_smallestCover_1 ?_
  refine g_getN C E hw inW2 2 rfl rfl 3 (by decide) kfN_X3_151 rfl dX3_smallestCover_4 ?_
  refine lv_iload_n C.1 C.2.1 dX3_smallestCover_7 rfl (lv_at hl 1 rfl) ?_
  obtain ⟨v_1, hv_1, hf⟩ := bnd hf
  refine g_ald C E hw 13 rfl (ld_some hv_1) dX3_smallestCover_8 ?_
  refine lv_istore_n (lv' := [(2, .int v_1), (0, .ref (q 0)), (1, .int x1)]) C.1 C.2.1 dX3_smallestCover_9 rfl hl (by decide) rfl (fun ls hl => ?_)
  refine lv_iconst (v := 0) C.1 C.2.1 dX3_smallestCover_10 (by decide) ?_
  refine lv_istore_n (lv' := [(3, .int 0), (2, .int v_1), (0, .ref (q 0)), (1, .int x1)]) C.1 C.2.1 dX3_smallestCover_11 rfl hl (by decide) rfl (fun ls hl => ?_)
  exact wX3_smallestCover_12 C E v_1 100 S 0 hf _ _ _ hw (lv_sub hl [2, 1, 0] rfl)
/-! DreamLedger.coverSize -/
def fX3_coverSize (S : St) (x1 : Int32) : Option (Int32 × St) :=
  Option.bind (fX3_requireTerm S x1) fun z_1 =>
  Option.bind (fX3_smallestCover S x1) fun u_4 => pr u_4 fun v_2 S_3 =>
  Option.bind (fJ6_bitCount_0f7a4 v_2) fun v_5 =>
  some (v_5, S_3)
set_option maxHeartbeats 4000000 in
set_option maxRecDepth 100000 in
theorem ctX3_coverSize (l : Launch) {D : va_G} {cI : ClassId} {q : Nat → Nat} (S : St) (x1 : Int32) (sz : Nat) {r1 : Int32} {S1 : St} (hf : fX3_coverSize S x1 = some (r1, S1)) : Met l yX3_coverSize (Cond.code yX3_coverSize cX3_coverSize 2 (some .int) :: XALL) ({ frames := 23, cells := 0, slots := 0, locals := 872 } : Room) (va_Pc [.ref (q 0), .int x1] (gPre D cI ((xw cI q) S) sz)) (gQi D (xw cI q) S (fun (r : Int32) (u : St) => r = r1 ∧ u = S1) sz) 0 0 (va_A ((xw cI q) S) sz) := by
  unfold fX3_coverSize at hf
  refine Met.ofW (cc := cX3_coverSize) (maxL := 2) (ret := (some .int)) (by decide) rfl ?_
  intro p e s m args below meth c s₁ B hml hv
  obtain ⟨rfl, hg⟩ := hv
  have C : Ctx p s m _ meth c cX3_coverSize 2 RX3 (some .int) := Ctx.of B hml rfl
  obtain ⟨E, hw, hsz⟩ := g_start hg
  subst hsz
  have hl := lv_entry ([.ref (q 0), .int x1]) (n := 2) (Nat.le_of_ble_eq_true rfl)
  rw [lg_entry_eq]
  generalize (lg_sl ([.ref (q 0), .int x1]) ++ List.replicate (2 - (lg_sl ([.ref (q 0), .int x1])).length) Slot.unset).toArray = ls at hl ⊢
  have hl : lv_has ls 2 [(0, .ref (q 0)), (1, .int x1)] := hl
  refine lv_aload_n C.1 C.2.1 dX3_coverSize_0 rfl (lv_at hl 0 rfl) ?_
  refine lv_iload_n C.1 C.2.1 dX3_coverSize_1 rfl (lv_at hl 1 rfl) ?_
  obtain ⟨z_1, hz_1, hf⟩ := bnd hf
  refine g_cve (wf := (xw cI q)) (S := S) (rest := []) xw_adr hw (g_runV (rm := ({ frames := 0, cells := 0, slots := 0, locals := 0 } : Room)) (As := [.int x1]) (rest := []) C E hw F_X3_requireTerm (ctX3_requireTerm l (cI := cI) (D := D) (q := q) S x1 _ hz_1) km_X3_132 0 rfl rfl rfl hl.1 rfl (Nat.le_of_ble_eq_true rfl) ⟨(Nat.le_of_ble_eq_true rfl), (Nat.le_of_ble_eq_true rfl)⟩ ⟨(Nat.le_of_ble_eq_true rfl), (Nat.le_of_ble_eq_true rfl)⟩ dX3_coverSize_2) (fun H locs hw => ?_)
  refine lv_aload_n C.1 C.2.1 dX3_coverSize_5 rfl (lv_at hl 0 rfl) ?_
  refine lv_iload_n C.1 C.2.1 dX3_coverSize_6 rfl (lv_at hl 1 rfl) ?_
  obtain ⟨⟨v_2, S_3⟩, hu_4, hf⟩ := bnd hf
  have hf := pr_r hf
  refine g_cie (wf := (xw cI q)) (S := S) (rest := []) xw_adr hw (g_runV (rm := ({ frames := 22, cells := 0, slots := 0, locals := 849 } : Room)) (As := [.int x1]) (rest := []) C E hw F_X3_smallestCover (ctX3_smallestCover l (cI := cI) (D := D) (q := q) S x1 _ hu_4) km_X3_160 0 rfl rfl rfl hl.1 rfl (Nat.le_of_ble_eq_true rfl) ⟨(Nat.le_of_ble_eq_true rfl), (Nat.le_of_ble_eq_true rfl)⟩ ⟨(Nat.le_of_ble_eq_true rfl), (Nat.le_of_ble_eq_true rfl)⟩ dX3_coverSize_7) (fun H locs hw => ?_)
  obtain ⟨v_5, hv_5, hf⟩ := bnd hf
  refine g_ci0e (rest := []) hw (g_run0 (rm := ({ frames := 0, cells := 0, slots := 0, locals := 0 } : Room)) (As := [.int v_2]) (rest := []) C F_J6_bitCount_0f7a4 (ctJ6_bitCount_0f7a4 l v_2 hv_5) km_X3_104 rfl hl.1 rfl (Nat.le_of_ble_eq_true rfl) ⟨(Nat.le_of_ble_eq_true rfl), (Nat.le_of_ble_eq_true rfl)⟩ ⟨(Nat.le_of_ble_eq_true rfl), (Nat.le_of_ble_eq_true rfl)⟩ dX3_coverSize_10) (fun H locs hw => ?_)
  exact g_iret C hw (Nat.le_of_ble_eq_true rfl) (Nat.le_of_ble_eq_true rfl) ⟨congrArg Prod.fst (Option.some.inj hf), congrArg Prod.snd (Option.some.inj hf)⟩ dX3_coverSize_13
/-! DreamLedger.tags -/
def fX3_tags (S : St) : Option Int32 :=
  some (S 14 0)
set_option maxHeartbeats 4000000 in
set_option maxRecDepth 100000 in
theorem ctX3_tags (l : Launch) {D : va_G} {cI : ClassId} {q : Nat → Nat} (S : St) (sz : Nat) {r1 : Int32} (hf : fX3_tags S = some r1) : Met l yX3_tags (Cond.code yX3_tags cX3_tags 1 (some .int) :: XALL) ({ frames := 0, cells := 0, slots := 0, locals := 0 } : Room) (va_Pc [.ref (q 0)] (gPre D cI ((xw cI q) S) sz)) (gQi D (xw cI q) S (fun (r : Int32) (u : St) => r = r1 ∧ u = S) sz) 0 0 (va_A ((xw cI q) S) sz) := by
  unfold fX3_tags at hf
  refine Met.ofW (cc := cX3_tags) (maxL := 1) (ret := (some .int)) (by decide) rfl ?_
  intro p e s m args below meth c s₁ B hml hv
  obtain ⟨rfl, hg⟩ := hv
  have C : Ctx p s m _ meth c cX3_tags 1 RX3 (some .int) := Ctx.of B hml rfl
  obtain ⟨E, hw, hsz⟩ := g_start hg
  subst hsz
  have hl := lv_entry ([.ref (q 0)]) (n := 1) (Nat.le_of_ble_eq_true rfl)
  rw [lg_entry_eq]
  generalize (lg_sl ([.ref (q 0)]) ++ List.replicate (1 - (lg_sl ([.ref (q 0)])).length) Slot.unset).toArray = ls at hl ⊢
  have hl : lv_has ls 1 [(0, .ref (q 0))] := hl
  refine lv_aload_n C.1 C.2.1 dX3_tags_0 rfl (lv_at hl 0 rfl) ?_
  refine g_get C E hw inW3 0 rfl rfl 0 (by decide) kf_X3_10 rfl dX3_tags_1 ?_
  refine g_getN C E hw inW1 1 rfl rfl 2 (by decide) kfN_X3_43 rfl dX3_tags_4 ?_
  exact g_iret C hw (Nat.le_of_ble_eq_true rfl) (Nat.le_of_ble_eq_true rfl) ⟨Option.some.inj hf, rfl⟩ dX3_tags_7
/-! DreamLedger.dreams -/
def fX3_dreams (S : St) : Option Int32 :=
  some (S 12 0)
set_option maxHeartbeats 4000000 in
set_option maxRecDepth 100000 in
theorem ctX3_dreams (l : Launch) {D : va_G} {cI : ClassId} {q : Nat → Nat} (S : St) (sz : Nat) {r1 : Int32} (hf : fX3_dreams S = some r1) : Met l yX3_dreams (Cond.code yX3_dreams cX3_dreams 1 (some .int) :: XALL) ({ frames := 0, cells := 0, slots := 0, locals := 0 } : Room) (va_Pc [.ref (q 0)] (gPre D cI ((xw cI q) S) sz)) (gQi D (xw cI q) S (fun (r : Int32) (u : St) => r = r1 ∧ u = S) sz) 0 0 (va_A ((xw cI q) S) sz) := by
  unfold fX3_dreams at hf
  refine Met.ofW (cc := cX3_dreams) (maxL := 1) (ret := (some .int)) (by decide) rfl ?_
  intro p e s m args below meth c s₁ B hml hv
  obtain ⟨rfl, hg⟩ := hv
  have C : Ctx p s m _ meth c cX3_dreams 1 RX3 (some .int) := Ctx.of B hml rfl
  obtain ⟨E, hw, hsz⟩ := g_start hg
  subst hsz
  have hl := lv_entry ([.ref (q 0)]) (n := 1) (Nat.le_of_ble_eq_true rfl)
  rw [lg_entry_eq]
  generalize (lg_sl ([.ref (q 0)]) ++ List.replicate (1 - (lg_sl ([.ref (q 0)])).length) Slot.unset).toArray = ls at hl ⊢
  have hl : lv_has ls 1 [(0, .ref (q 0))] := hl
  refine lv_aload_n C.1 C.2.1 dX3_dreams_0 rfl (lv_at hl 0 rfl) ?_
  refine g_get C E hw inW3 0 rfl rfl 7 (by decide) kf_X3_84 rfl dX3_dreams_1 ?_
  exact g_iret C hw (Nat.le_of_ble_eq_true rfl) (Nat.le_of_ble_eq_true rfl) ⟨Option.some.inj hf, rfl⟩ dX3_dreams_4
/-! DreamLedger.terms -/
def fX3_terms (S : St) : Option Int32 :=
  some (S 15 0)
set_option maxHeartbeats 4000000 in
set_option maxRecDepth 100000 in
theorem ctX3_terms (l : Launch) {D : va_G} {cI : ClassId} {q : Nat → Nat} (S : St) (sz : Nat) {r1 : Int32} (hf : fX3_terms S = some r1) : Met l yX3_terms (Cond.code yX3_terms cX3_terms 1 (some .int) :: XALL) ({ frames := 0, cells := 0, slots := 0, locals := 0 } : Room) (va_Pc [.ref (q 0)] (gPre D cI ((xw cI q) S) sz)) (gQi D (xw cI q) S (fun (r : Int32) (u : St) => r = r1 ∧ u = S) sz) 0 0 (va_A ((xw cI q) S) sz) := by
  unfold fX3_terms at hf
  refine Met.ofW (cc := cX3_terms) (maxL := 1) (ret := (some .int)) (by decide) rfl ?_
  intro p e s m args below meth c s₁ B hml hv
  obtain ⟨rfl, hg⟩ := hv
  have C : Ctx p s m _ meth c cX3_terms 1 RX3 (some .int) := Ctx.of B hml rfl
  obtain ⟨E, hw, hsz⟩ := g_start hg
  subst hsz
  have hl := lv_entry ([.ref (q 0)]) (n := 1) (Nat.le_of_ble_eq_true rfl)
  rw [lg_entry_eq]
  generalize (lg_sl ([.ref (q 0)]) ++ List.replicate (1 - (lg_sl ([.ref (q 0)])).length) Slot.unset).toArray = ls at hl ⊢
  have hl : lv_has ls 1 [(0, .ref (q 0))] := hl
  refine lv_aload_n C.1 C.2.1 dX3_terms_0 rfl (lv_at hl 0 rfl) ?_
  refine g_get C E hw inW3 0 rfl rfl 1 (by decide) kf_X3_19 rfl dX3_terms_1 ?_
  refine g_getN C E hw inW2 2 rfl rfl 4 (by decide) kfN_X3_135 rfl dX3_terms_4 ?_
  exact g_iret C hw (Nat.le_of_ble_eq_true rfl) (Nat.le_of_ble_eq_true rfl) ⟨Option.some.inj hf, rfl⟩ dX3_terms_7
/-! DreamLedger.nights -/
def fX3_nights (S : St) : Option Int32 :=
  some (S 13 0)
set_option maxHeartbeats 4000000 in
set_option maxRecDepth 100000 in
theorem ctX3_nights (l : Launch) {D : va_G} {cI : ClassId} {q : Nat → Nat} (S : St) (sz : Nat) {r1 : Int32} (hf : fX3_nights S = some r1) : Met l yX3_nights (Cond.code yX3_nights cX3_nights 1 (some .int) :: XALL) ({ frames := 0, cells := 0, slots := 0, locals := 0 } : Room) (va_Pc [.ref (q 0)] (gPre D cI ((xw cI q) S) sz)) (gQi D (xw cI q) S (fun (r : Int32) (u : St) => r = r1 ∧ u = S) sz) 0 0 (va_A ((xw cI q) S) sz) := by
  unfold fX3_nights at hf
  refine Met.ofW (cc := cX3_nights) (maxL := 1) (ret := (some .int)) (by decide) rfl ?_
  intro p e s m args below meth c s₁ B hml hv
  obtain ⟨rfl, hg⟩ := hv
  have C : Ctx p s m _ meth c cX3_nights 1 RX3 (some .int) := Ctx.of B hml rfl
  obtain ⟨E, hw, hsz⟩ := g_start hg
  subst hsz
  have hl := lv_entry ([.ref (q 0)]) (n := 1) (Nat.le_of_ble_eq_true rfl)
  rw [lg_entry_eq]
  generalize (lg_sl ([.ref (q 0)]) ++ List.replicate (1 - (lg_sl ([.ref (q 0)])).length) Slot.unset).toArray = ls at hl ⊢
  have hl : lv_has ls 1 [(0, .ref (q 0))] := hl
  refine lv_aload_n C.1 C.2.1 dX3_nights_0 rfl (lv_at hl 0 rfl) ?_
  refine g_get C E hw inW3 0 rfl rfl 8 (by decide) kf_X3_89 rfl dX3_nights_1 ?_
  exact g_iret C hw (Nat.le_of_ble_eq_true rfl) (Nat.le_of_ble_eq_true rfl) ⟨Option.some.inj hf, rfl⟩ dX3_nights_4
/-! DreamLedger.fadedDreams -/
def fX3_fadedDreams (S : St) : Option Int32 :=
  Option.bind (fX3_countFadedAfter S 0) fun v_1 =>
  some v_1
set_option maxHeartbeats 4000000 in
set_option maxRecDepth 100000 in
theorem ctX3_fadedDreams (l : Launch) {D : va_G} {cI : ClassId} {q : Nat → Nat} (S : St) (sz : Nat) {r1 : Int32} (hf : fX3_fadedDreams S = some r1) : Met l yX3_fadedDreams (Cond.code yX3_fadedDreams cX3_fadedDreams 1 (some .int) :: XALL) ({ frames := 3, cells := 0, slots := 0, locals := 67 } : Room) (va_Pc [.ref (q 0)] (gPre D cI ((xw cI q) S) sz)) (gQi D (xw cI q) S (fun (r : Int32) (u : St) => r = r1 ∧ u = S) sz) 0 0 (va_A ((xw cI q) S) sz) := by
  unfold fX3_fadedDreams at hf
  refine Met.ofW (cc := cX3_fadedDreams) (maxL := 1) (ret := (some .int)) (by decide) rfl ?_
  intro p e s m args below meth c s₁ B hml hv
  obtain ⟨rfl, hg⟩ := hv
  have C : Ctx p s m _ meth c cX3_fadedDreams 1 RX3 (some .int) := Ctx.of B hml rfl
  obtain ⟨E, hw, hsz⟩ := g_start hg
  subst hsz
  have hl := lv_entry ([.ref (q 0)]) (n := 1) (Nat.le_of_ble_eq_true rfl)
  rw [lg_entry_eq]
  generalize (lg_sl ([.ref (q 0)]) ++ List.replicate (1 - (lg_sl ([.ref (q 0)])).length) Slot.unset).toArray = ls at hl ⊢
  have hl : lv_has ls 1 [(0, .ref (q 0))] := hl
  refine lv_aload_n C.1 C.2.1 dX3_fadedDreams_0 rfl (lv_at hl 0 rfl) ?_
  refine lv_iconst (v := 0) C.1 C.2.1 dX3_fadedDreams_1 (by decide) ?_
  obtain ⟨v_1, hv_1, hf⟩ := bnd hf
  refine g_cie (wf := (xw cI q)) (S := S) (rest := []) xw_adr hw (g_runV (rm := ({ frames := 2, cells := 0, slots := 0, locals := 44 } : Room)) (As := [.int 0]) (rest := []) C E hw F_X3_countFadedAfter (ctX3_countFadedAfter l (cI := cI) (D := D) (q := q) S 0 _ hv_1) km_X3_122 0 rfl rfl rfl hl.1 rfl (Nat.le_of_ble_eq_true rfl) ⟨(Nat.le_of_ble_eq_true rfl), (Nat.le_of_ble_eq_true rfl)⟩ ⟨(Nat.le_of_ble_eq_true rfl), (Nat.le_of_ble_eq_true rfl)⟩ dX3_fadedDreams_2) (fun H locs hw => ?_)
  exact g_iret C hw (Nat.le_of_ble_eq_true rfl) (Nat.le_of_ble_eq_true rfl) ⟨Option.some.inj hf, rfl⟩ dX3_fadedDreams_5
/-! DreamLedger.meanVividness -/
def fX3_meanVividness_13 (S : St) : Nat → Int32 → Int32 → Option UInt64
  | 0, _, _ => none
  | n + 1, x1, x2 =>
    if (S 12 0) ≤ x2 then
      Option.bind (dv (FP.i2d x1) (FP.i2d (S 12 0))) fun v_1 =>
      some v_1
    else
      Option.bind (ld S 2 24 x2) fun v_2 =>
      Option.bind (some ((x1 + v_2))) fun x1_3 =>
      Option.bind (some (x2 + 1)) fun x2_4 =>
      fX3_meanVividness_13 S n x1_3 x2_4
set_option maxHeartbeats 4000000 in
set_option maxRecDepth 100000 in
theorem wX3_meanVividness_13 {p : Program} {l : Launch} {e : Env} {s : State} {m : MethodId} {args : Array Value} {below : List Frame} {meth : Method} {c : Code} {D : va_G} {cI : ClassId} {q : Nat → Nat} (C : Ctx p s m args meth c cX3_meanVividness 3 RX3 (some .double)) (E : gE D cI s) {r1 : UInt64} (S : St) : ∀ (n : Nat) (x1 : Int32) (x2 : Int32), fX3_meanVividness_13 S n x1 x2 = some r1 → ∀ (H : Heap) (locs : List Loc) (ls : Array Slot), gW D ((xw cI q) S) ((xw cI q) S) s H locs → lv_has ls 3 [(0, .ref (q 0)), (1, .int x1), (2, .int x2)] → W p l e ({ frames := 0, cells := 0, slots := 0, locals := 0 } : Room) s m args below meth c H locs 0 0 (MQ below (gQd D (xw cI q) S (fun (r : UInt64) (u : St) => r = r1 ∧ u = S) s.heap.size) args s 0 0 (va_A ((xw cI q) S) s.heap.size)) (F0 m 13 ls []) := by
  intro n
  induction n with
  | zero => intro x1 x2 hf; rw [fX3_meanVividness_13] at hf; cases hf
  | succ n ih =>
    intro x1 x2 hf H locs ls hw hl
    rw [fX3_meanVividness_13] at hf
    refine lv_iload_n C.1 C.2.1 dX3_meanVividness_13 rfl (lv_at hl 2 rfl) ?_
    refine lv_aload_n C.1 C.2.1 dX3_meanVividness_14 rfl (lv_at hl 0 rfl) ?_
    refine g_get C E hw inW3 0 rfl rfl 7 (by decide) kf_X3_84 rfl dX3_meanVividness_15 ?_
    refine lv_icmp_ge (tgt := 36) C.1 C.2.1 dX3_meanVividness_18 (by decide) (fun hc => ?_) (fun hc => ?_)
    · have hf := ift hc hf
      refine lv_iload_n C.1 C.2.1 dX3_meanVividness_36 rfl (lv_at hl 1 rfl) ?_
      refine lv_i2d C.1 C.2.1 dX3_meanVividness_37 ?_
      refine lv_aload_n C.1 C.2.1 dX3_meanVividness_38 rfl (lv_at hl 0 rfl) ?_
      refine g_get C E hw inW3 0 rfl rfl 7 (by decide) kf_X3_84 rfl dX3_meanVividness_39 ?_
      refine lv_i2d C.1 C.2.1 dX3_meanVividness_42 ?_
      obtain ⟨v_1, hv_1, hf⟩ := bnd hf
      refine g_ddiv C hv_1 dX3_meanVividness_43 ?_
      exact g_dret C hw (Nat.le_of_ble_eq_true rfl) (Nat.le_of_ble_eq_true rfl) ⟨Option.some.inj hf, rfl⟩ dX3_meanVividness_44
    · have hf := iff_ hc hf
      refine lv_iload_n C.1 C.2.1 dX3_meanVividness_21 rfl (lv_at hl 1 rfl) ?_
      refine lv_aload_n C.1 C.2.1 dX3_meanVividness_22 rfl (lv_at hl 0 rfl) ?_
      refine g_get C E hw inW3 0 rfl rfl 5 (by decide) kf_X3_37 rfl dX3_meanVividness_23 ?_
      refine lv_iload_n C.1 C.2.1 dX3_meanVividness_26 rfl (lv_at hl 2 rfl) ?_
      obtain ⟨v_2, hv_2, hf⟩ := bnd hf
      refine g_ald C E hw 6 rfl (ld_some hv_2) dX3_meanVividness_27 ?_
      refine lv_iadd C.1 C.2.1 dX3_meanVividness_28 ?_
      obtain ⟨x1_3, hx1_3, hf⟩ := bnd hf
      refine topi_b hx1_3 ?_
      refine lv_istore_n (lv' := [(1, .int x1_3), (0, .ref (q 0)), (2, .int x2)]) C.1 C.2.1 dX3_meanVividness_29 rfl hl (by decide) rfl (fun ls hl => ?_)
      obtain ⟨x2_4, hx2_4, hf⟩ := bnd hf
      refine lv_iinc (v := x2_4) (lv' := [(2, .int x2_4), (1, .int x1_3), (0, .ref (q 0))]) C.1 C.2.1 dX3_meanVividness_30 hl (k := 2) rfl (inc1 hx2_4) (by decide) rfl (fun ls hl => ?_)
      refine lv_goto (tgt := 13) C.1 C.2.1 dX3_meanVividness_33 (by decide) ?_
      exact ih x1_3 x2_4 hf _ _ _ hw (lv_sub hl [2, 1, 0] rfl)
def fX3_meanVividness (S : St) : Option UInt64 :=
  if (S 12 0) = 0 then
    some 0
  else
    fX3_meanVividness_13 S 100 0 0
set_option maxHeartbeats 4000000 in
set_option maxRecDepth 100000 in
theorem ctX3_meanVividness (l : Launch) {D : va_G} {cI : ClassId} {q : Nat → Nat} (S : St) (sz : Nat) {r1 : UInt64} (hf : fX3_meanVividness S = some r1) : Met l yX3_meanVividness (Cond.code yX3_meanVividness cX3_meanVividness 3 (some .double) :: XALL) ({ frames := 0, cells := 0, slots := 0, locals := 0 } : Room) (va_Pc [.ref (q 0)] (gPre D cI ((xw cI q) S) sz)) (gQd D (xw cI q) S (fun (r : UInt64) (u : St) => r = r1 ∧ u = S) sz) 0 0 (va_A ((xw cI q) S) sz) := by
  unfold fX3_meanVividness at hf
  refine Met.ofW (cc := cX3_meanVividness) (maxL := 3) (ret := (some .double)) (by decide) rfl ?_
  intro p e s m args below meth c s₁ B hml hv
  obtain ⟨rfl, hg⟩ := hv
  have C : Ctx p s m _ meth c cX3_meanVividness 3 RX3 (some .double) := Ctx.of B hml rfl
  obtain ⟨E, hw, hsz⟩ := g_start hg
  subst hsz
  have hl := lv_entry ([.ref (q 0)]) (n := 3) (Nat.le_of_ble_eq_true rfl)
  rw [lg_entry_eq]
  generalize (lg_sl ([.ref (q 0)]) ++ List.replicate (3 - (lg_sl ([.ref (q 0)])).length) Slot.unset).toArray = ls at hl ⊢
  have hl : lv_has ls 3 [(0, .ref (q 0))] := hl
  refine lv_aload_n C.1 C.2.1 dX3_meanVividness_0 rfl (lv_at hl 0 rfl) ?_
  refine g_get C E hw inW3 0 rfl rfl 7 (by decide) kf_X3_84 rfl dX3_meanVividness_1 ?_
  refine lv_if_ne (tgt := 9) C.1 C.2.1 dX3_meanVividness_4 (by decide) (fun hc => ?_) (fun hc => ?_)
  · have hf := iff_ hc hf
    refine lv_iconst (v := 0) C.1 C.2.1 dX3_meanVividness_9 (by decide) ?_
    refine lv_istore_n (lv' := [(1, .int 0), (0, .ref (q 0))]) C.1 C.2.1 dX3_meanVividness_10 rfl hl (by decide) rfl (fun ls hl => ?_)
    refine lv_iconst (v := 0) C.1 C.2.1 dX3_meanVividness_11 (by decide) ?_
    refine lv_istore_n (lv' := [(2, .int 0), (1, .int 0), (0, .ref (q 0))]) C.1 C.2.1 dX3_meanVividness_12 rfl hl (by decide) rfl (fun ls hl => ?_)
    exact wX3_meanVividness_13 C E S 100 0 0 hf _ _ _ hw (lv_sub hl [2, 1, 0] rfl)
  · have hf := ift hc hf
    refine g_dconst0 C dX3_meanVividness_7 ?_
    exact g_dret C hw (Nat.le_of_ble_eq_true rfl) (Nat.le_of_ble_eq_true rfl) ⟨Option.some.inj hf, rfl⟩ dX3_meanVividness_8
