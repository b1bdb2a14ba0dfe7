def wi_X1 (cI : ClassId) (h0 : Nat) (u : Nat → Nat) : va_W := [(h0, .inr (1, [.ref (u 0), .ref (u 1), .int 0])), (u 0, .inl (cI, 16, .inl (fun _ => 0))), (u 1, .inl (cI, 16, .inl (fun _ => 0)))]
theorem Fi_X1 : Fct yX1_init cX1_init 1 none 0 := ⟨kc_yX1_init, kz_X1, by decide +kernel, by decide +kernel, by decide +kernel⟩
set_option maxHeartbeats 4000000 in
set_option maxRecDepth 100000 in
theorem cti_X1 (l : Launch) {D : va_G} {cI : ClassId} (h0 sz : Nat) : Met l yX1_init (Cond.code yX1_init cX1_init 1 none :: XALL) ({ frames := 1, cells := 2, slots := 32, locals := 20 } : Room) (va_Pc [.ref h0] (gPre D cI [(h0, .inr (1, [.null, .null, .int 0]))] sz)) (gQn D (wi_X1 cI h0) [(h0, .inr (1, [.null, .null, .int 0]))] sz) 2 32 (va_A [(h0, .inr (1, [.null, .null, .int 0]))] sz) := by
  refine Met.ofW (cc := cX1_init) (maxL := 1) (ret := none) (by decide) rfl ?_
  intro p e s m args below meth c s₁ B hml hv
  obtain ⟨rfl, hg⟩ := hv
  have C : Ctx p s m _ meth c cX1_init 1 RX1 none := Ctx.of B hml rfl
  have hmi : meth.name = "<init>" := (name_of_methodNamed B.named B.method).1
  obtain ⟨E, hw, hsz⟩ := g_start hg
  subst hsz
  have hl := lv_entry ([.ref h0]) (n := 1) (Nat.le_of_ble_eq_true rfl)
  rw [lg_entry_eq]
  generalize (lg_sl ([.ref h0]) ++ List.replicate (1 - (lg_sl ([.ref h0])).length) Slot.unset).toArray = ls at hl ⊢
  have hl : lv_has ls 1 [(0, .ref h0)] := hl
  refine lv_aload_n C.1 C.2.1 dX1_init_0 rfl (lv_at hl 0 rfl) ?_
  refine W.objInit C.1 C.2.1 C.2.2.2.1 (C.2.2.2.2.1 _ km_X1_3) (C.2.2.2.2.1 _ ki_objectInit) (C.2.2.2.2.1 _ kc_objectInit) rfl (by rw [C.2.2.1]; exact hl.1) rfl dX1_init_1 (Nat.le_of_ble_eq_true rfl) (Nat.le_of_ble_eq_true rfl) ?_
  refine W.eq (g2 := F0 m 4 ls []) rfl ?_
  refine lv_aload_n C.1 C.2.1 dX1_init_4 rfl (lv_at hl 0 rfl) ?_
  refine lv_bipush (v := 16) C.1 C.2.1 dX1_init_5 (by decide) ?_
  refine g_newa C E hw 16 (by decide) (by decide) (by decide) (Nat.le_of_ble_eq_true rfl) (Nat.le_of_ble_eq_true rfl) dX1_init_7 (fun a7 H locs hw => ?_)
  have hw : gW D [(h0, .inr (1, [.null, .null, .int 0]))] [(h0, .inr (1, [.null, .null, .int 0])), (a7, .inl (cI, 16, .inl (fun _ => 0)))] s H locs := hw
  refine g_putF (ty := .array .int) C E hmi hw inW1 tyX1 tyX1_ok nmX1 0 rfl rfl 0 (by decide) kf_X1_9 rfl rfl (by decide +kernel) rfl rfl (Nat.le_of_ble_eq_true rfl) (ws' := [(h0, .inr (1, [.ref a7, .null, .int 0])), (a7, .inl (cI, 16, .inl (fun _ => 0)))]) rfl dX1_init_9 (fun H locs hw => ?_)
  refine lv_aload_n C.1 C.2.1 dX1_init_12 rfl (lv_at hl 0 rfl) ?_
  refine lv_bipush (v := 16) C.1 C.2.1 dX1_init_13 (by decide) ?_
  refine g_newa C E hw 16 (by decide) (by decide) (by decide) (Nat.le_of_ble_eq_true rfl) (Nat.le_of_ble_eq_true rfl) dX1_init_15 (fun a15 H locs hw => ?_)
  have hw : gW D [(h0, .inr (1, [.null, .null, .int 0]))] [(h0, .inr (1, [.ref a7, .null, .int 0])), (a7, .inl (cI, 16, .inl (fun _ => 0))), (a15, .inl (cI, 16, .inl (fun _ => 0)))] s H locs := hw
  refine g_putF (ty := .array .int) C E hmi hw inW1 tyX1 tyX1_ok nmX1 0 rfl rfl 1 (by decide) kf_X1_15 rfl rfl (by decide +kernel) rfl rfl (Nat.le_of_ble_eq_true rfl) (ws' := [(h0, .inr (1, [.ref a7, .ref a15, .int 0])), (a7, .inl (cI, 16, .inl (fun _ => 0))), (a15, .inl (cI, 16, .inl (fun _ => 0)))]) rfl dX1_init_17 (fun H locs hw => ?_)
  exact g_nret (w1 := wi_X1 cI h0) C (fun i => [a7, a15].getD i 0) hw (Nat.le_of_ble_eq_true rfl) (Nat.le_of_ble_eq_true rfl) dX1_init_20
def wi_X2 (cI : ClassId) (h0 : Nat) (u : Nat → Nat) : va_W := [(h0, .inr (2, [.ref (u 0), .ref (u 1), .ref (u 2), .ref (u 3), .int 0])), (u 0, .inl (cI, 20, .inl (fun _ => 0))), (u 1, .inl (cI, 20, .inl (fun _ => 0))), (u 2, .inl (cI, 20, .inl (fun _ => 0))), (u 3, .inl (cI, 20, .inl (fun _ => 0)))]
theorem Fi_X2 : Fct yX2_init cX2_init 1 none 0 := ⟨kc_yX2_init, kz_X2, by decide +kernel, by decide +kernel, by decide +kernel⟩
set_option maxHeartbeats 4000000 in
set_option maxRecDepth 100000 in
theorem cti_X2 (l : Launch) {D : va_G} {cI : ClassId} (h0 sz : Nat) : Met l yX2_init (Cond.code yX2_init cX2_init 1 none :: XALL) ({ frames := 1, cells := 4, slots := 80, locals := 20 } : Room) (va_Pc [.ref h0] (gPre D cI [(h0, .inr (2, [.null, .null, .null, .null, .int 0]))] sz)) (gQn D (wi_X2 cI h0) [(h0, .inr (2, [.null, .null, .null, .null, .int 0]))] sz) 4 80 (va_A [(h0, .inr (2, [.null, .null, .null, .null, .int 0]))] sz) := by
  refine Met.ofW (cc := cX2_init) (maxL := 1) (ret := none) (by decide) rfl ?_
  intro p e s m args below meth c s₁ B hml hv
  obtain ⟨rfl, hg⟩ := hv
  have C : Ctx p s m _ meth c cX2_init 1 RX2 none := Ctx.of B hml rfl
  have hmi : meth.name = "<init>" := (name_of_methodNamed B.named B.method).1
  obtain ⟨E, hw, hsz⟩ := g_start hg
  subst hsz
  have hl := lv_entry ([.ref h0]) (n := 1) (Nat.le_of_ble_eq_true rfl)
  rw [lg_entry_eq]
  generalize (lg_sl ([.ref h0]) ++ List.replicate (1 - (lg_sl ([.ref h0])).length) Slot.unset).toArray = ls at hl ⊢
  have hl : lv_has ls 1 [(0, .ref h0)] := hl
  refine lv_aload_n C.1 C.2.1 dX2_init_0 rfl (lv_at hl 0 rfl) ?_
  refine W.objInit C.1 C.2.1 C.2.2.2.1 (C.2.2.2.2.1 _ km_X2_3) (C.2.2.2.2.1 _ ki_objectInit) (C.2.2.2.2.1 _ kc_objectInit) rfl (by rw [C.2.2.1]; exact hl.1) rfl dX2_init_1 (Nat.le_of_ble_eq_true rfl) (Nat.le_of_ble_eq_true rfl) ?_
  refine W.eq (g2 := F0 m 4 ls []) rfl ?_
  refine lv_aload_n C.1 C.2.1 dX2_init_4 rfl (lv_at hl 0 rfl) ?_
  refine lv_bipush (v := 20) C.1 C.2.1 dX2_init_5 (by decide) ?_
  refine g_newa C E hw 20 (by decide) (by decide) (by decide) (Nat.le_of_ble_eq_true rfl) (Nat.le_of_ble_eq_true rfl) dX2_init_7 (fun a7 H locs hw => ?_)
  have hw : gW D [(h0, .inr (2, [.null, .null, .null, .null, .int 0]))] [(h0, .inr (2, [.null, .null, .null, .null, .int 0])), (a7, .inl (cI, 20, .inl (fun _ => 0)))] s H locs := hw
  refine g_putF (ty := .array .int) C E hmi hw inW2 tyX2 tyX2_ok nmX2 0 rfl rfl 0 (by decide) kf_X2_9 rfl rfl (by decide +kernel) rfl rfl (Nat.le_of_ble_eq_true rfl) (ws' := [(h0, .inr (2, [.ref a7, .null, .null, .null, .int 0])), (a7, .inl (cI, 20, .inl (fun _ => 0)))]) rfl dX2_init_9 (fun H locs hw => ?_)
  refine lv_aload_n C.1 C.2.1 dX2_init_12 rfl (lv_at hl 0 rfl) ?_
  refine lv_bipush (v := 20) C.1 C.2.1 dX2_init_13 (by decide) ?_
  refine g_newa C E hw 20 (by decide) (by decide) (by decide) (Nat.le_of_ble_eq_true rfl) (Nat.le_of_ble_eq_true rfl) dX2_init_15 (fun a15 H locs hw => ?_)
  have hw : gW D [(h0, .inr (2, [.null, .null, .null, .null, .int 0]))] [(h0, .inr (2, [.ref a7, .null, .null, .null, .int 0])), (a7, .inl (cI, 20, .inl (fun _ => 0))), (a15, .inl (cI, 20, .inl (fun _ => 0)))] s H locs := hw
  refine g_putF (ty := .array .int) C E hmi hw inW2 tyX2 tyX2_ok nmX2 0 rfl rfl 1 (by decide) kf_X2_15 rfl rfl (by decide +kernel) rfl rfl (Nat.le_of_ble_eq_true rfl) (ws' := [(h0, .inr (2, [.ref a7, .ref a15, .null, .null, .int 0])), (a7, .inl (cI, 20, .inl (fun _ => 0))), (a15, .inl (cI, 20, .inl (fun _ => 0)))]) rfl dX2_init_17 (fun H locs hw => ?_)
  refine lv_aload_n C.1 C.2.1 dX2_init_20 rfl (lv_at hl 0 rfl) ?_
  refine lv_bipush (v := 20) C.1 C.2.1 dX2_init_21 (by decide) ?_
  refine g_newa C E hw 20 (by decide) (by decide) (by decide) (Nat.le_of_ble_eq_true rfl) (Nat.le_of_ble_eq_true rfl) dX2_init_23 (fun a23 H locs hw => ?_)
  have hw : gW D [(h0, .inr (2, [.null, .null, .null, .null, .int 0]))] [(h0, .inr (2, [.ref a7, .ref a15, .null, .null, .int 0])), (a7, .inl (cI, 20, .inl (fun _ => 0))), (a15, .inl (cI, 20, .inl (fun _ => 0))), (a23, .inl (cI, 20, .inl (fun _ => 0)))] s H locs := hw
  refine g_putF (ty := .array .int) C E hmi hw inW2 tyX2 tyX2_ok nmX2 0 rfl rfl 2 (by decide) kf_X2_18 rfl rfl (by decide +kernel) rfl rfl (Nat.le_of_ble_eq_true rfl) (ws' := [(h0, .inr (2, [.ref a7, .ref a15, .ref a23, .null, .int 0])), (a7, .inl (cI, 20, .inl (fun _ => 0))), (a15, .inl (cI, 20, .inl (fun _ => 0))), (a23, .inl (cI, 20, .inl (fun _ => 0)))]) rfl dX2_init_25 (fun H locs hw => ?_)
  refine lv_aload_n C.1 C.2.1 dX2_init_28 rfl (lv_at hl 0 rfl) ?_
  refine lv_bipush (v := 20) C.1 C.2.1 dX2_init_29 (by decide) ?_
  refine g_newa C E hw 20 (by decide) (by decide) (by decide) (Nat.le_of_ble_eq_true rfl) (Nat.le_of_ble_eq_true rfl) dX2_init_31 (fun a31 H locs hw => ?_)
  have hw : gW D [(h0, .inr (2, [.null, .null, .null, .null, .int 0]))] [(h0, .inr (2, [.ref a7, .ref a15, .ref a23, .null, .int 0])), (a7, .inl (cI, 20, .inl (fun _ => 0))), (a15, .inl (cI, 20, .inl (fun _ => 0))), (a23, .inl (cI, 20, .inl (fun _ => 0))), (a31, .inl (cI, 20, .inl (fun _ => 0)))] s H locs := hw
  refine g_putF (ty := .array .int) C E hmi hw inW2 tyX2 tyX2_ok nmX2 0 rfl rfl 3 (by decide) kf_X2_21 rfl rfl (by decide +kernel) rfl rfl (Nat.le_of_ble_eq_true rfl) (ws' := [(h0, .inr (2, [.ref a7, .ref a15, .ref a23, .ref a31, .int 0])), (a7, .inl (cI, 20, .inl (fun _ => 0))), (a15, .inl (cI, 20, .inl (fun _ => 0))), (a23, .inl (cI, 20, .inl (fun _ => 0))), (a31, .inl (cI, 20, .inl (fun _ => 0)))]) rfl dX2_init_33 (fun H locs hw => ?_)
  exact g_nret (w1 := wi_X2 cI h0) C (fun i => [a7, a15, a23, a31].getD i 0) hw (Nat.le_of_ble_eq_true rfl) (Nat.le_of_ble_eq_true rfl) dX2_init_36
def wi_X0 (cI : ClassId) (h0 : Nat) (u : Nat → Nat) : va_W := [(h0, .inr (0, [.ref (u 0), .ref (u 1)])), (u 0, .inl (cI, 16, .inl (fun _ => 0))), (u 1, .inl (cI, 17, .inl (fun _ => 0)))]
theorem Fi_X0 : Fct yX0_init cX0_init 1 none 0 := ⟨kc_yX0_init, kz_X0, by decide +kernel, by decide +kernel, by decide +kernel⟩
set_option maxHeartbeats 4000000 in
set_option maxRecDepth 100000 in
theorem cti_X0 (l : Launch) {D : va_G} {cI : ClassId} (h0 sz : Nat) : Met l yX0_init (Cond.code yX0_init cX0_init 1 none :: XALL) ({ frames := 1, cells := 2, slots := 33, locals := 20 } : Room) (va_Pc [.ref h0] (gPre D cI [(h0, .inr (0, [.null, .null]))] sz)) (gQn D (wi_X0 cI h0) [(h0, .inr (0, [.null, .null]))] sz) 2 33 (va_A [(h0, .inr (0, [.null, .null]))] sz) := by
  refine Met.ofW (cc := cX0_init) (maxL := 1) (ret := none) (by decide) rfl ?_
  intro p e s m args below meth c s₁ B hml hv
  obtain ⟨rfl, hg⟩ := hv
  have C : Ctx p s m _ meth c cX0_init 1 RX0 none := Ctx.of B hml rfl
  have hmi : meth.name = "<init>" := (name_of_methodNamed B.named B.method).1
  obtain ⟨E, hw, hsz⟩ := g_start hg
  subst hsz
  have hl := lv_entry ([.ref h0]) (n := 1) (Nat.le_of_ble_eq_true rfl)
  rw [lg_entry_eq]
  generalize (lg_sl ([.ref h0]) ++ List.replicate (1 - (lg_sl ([.ref h0])).length) Slot.unset).toArray = ls at hl ⊢
  have hl : lv_has ls 1 [(0, .ref h0)] := hl
  refine lv_aload_n C.1 C.2.1 dX0_init_0 rfl (lv_at hl 0 rfl) ?_
  refine W.objInit C.1 C.2.1 C.2.2.2.1 (C.2.2.2.2.1 _ km_X0_3) (C.2.2.2.2.1 _ ki_objectInit) (C.2.2.2.2.1 _ kc_objectInit) rfl (by rw [C.2.2.1]; exact hl.1) rfl dX0_init_1 (Nat.le_of_ble_eq_true rfl) (Nat.le_of_ble_eq_true rfl) ?_
  refine W.eq (g2 := F0 m 4 ls []) rfl ?_
  refine lv_aload_n C.1 C.2.1 dX0_init_4 rfl (lv_at hl 0 rfl) ?_
  refine lv_bipush (v := 16) C.1 C.2.1 dX0_init_5 (by decide) ?_
  refine g_newa C E hw 16 (by decide) (by decide) (by decide) (Nat.le_of_ble_eq_true rfl) (Nat.le_of_ble_eq_true rfl) dX0_init_7 (fun a7 H locs hw => ?_)
  have hw : gW D [(h0, .inr (0, [.null, .null]))] [(h0, .inr (0, [.null, .null])), (a7, .inl (cI, 16, .inl (fun _ => 0)))] s H locs := hw
  refine g_putF (ty := .array .int) C E hmi hw inW0 tyX0 tyX0_ok nmX0 0 rfl rfl 0 (by decide) kf_X0_9 rfl rfl (by decide +kernel) rfl rfl (Nat.le_of_ble_eq_true rfl) (ws' := [(h0, .inr (0, [.ref a7, .null])), (a7, .inl (cI, 16, .inl (fun _ => 0)))]) rfl dX0_init_9 (fun H locs hw => ?_)
  refine lv_aload_n C.1 C.2.1 dX0_init_12 rfl (lv_at hl 0 rfl) ?_
  refine lv_bipush (v := 17) C.1 C.2.1 dX0_init_13 (by decide) ?_
  refine g_newa C E hw 17 (by decide) (by decide) (by decide) (Nat.le_of_ble_eq_true rfl) (Nat.le_of_ble_eq_true rfl) dX0_init_15 (fun a15 H locs hw => ?_)
  have hw : gW D [(h0, .inr (0, [.null, .null]))] [(h0, .inr (0, [.ref a7, .null])), (a7, .inl (cI, 16, .inl (fun _ => 0))), (a15, .inl (cI, 17, .inl (fun _ => 0)))] s H locs := hw
  refine g_putF (ty := .array .int) C E hmi hw inW0 tyX0 tyX0_ok nmX0 0 rfl rfl 1 (by decide) kf_X0_15 rfl rfl (by decide +kernel) rfl rfl (Nat.le_of_ble_eq_true rfl) (ws' := [(h0, .inr (0, [.ref a7, .ref a15])), (a7, .inl (cI, 16, .inl (fun _ => 0))), (a15, .inl (cI, 17, .inl (fun _ => 0)))]) rfl dX0_init_17 (fun H locs hw => ?_)
  exact g_nret (w1 := wi_X0 cI h0) C (fun i => [a7, a15].getD i 0) hw (Nat.le_of_ble_eq_true rfl) (Nat.le_of_ble_eq_true rfl) dX0_init_20
def wi_X3 (cI : ClassId) (h0 : Nat) (u : Nat → Nat) : va_W := xw cI (fun i => if i = 0 then h0 else u i) (fun _ _ => 0)
theorem Fi_X3 : Fct yX3_init cX3_init 1 none 0 := ⟨kc_yX3_init, kz_X3, by decide +kernel, by decide +kernel, by decide +kernel⟩
set_option maxHeartbeats 4000000 in
set_option maxRecDepth 100000 in
theorem cti_X3 (l : Launch) {D : va_G} {cI : ClassId} (h0 sz : Nat) : Met l yX3_init (Cond.code yX3_init cX3_init 1 none :: XALL) ({ frames := 2, cells := 15, slots := 251, locals := 40 } : Room) (va_Pc [.ref h0] (gPre D cI [(h0, .inr (3, [.null, .null, .null, .null, .null, .null, .null, .int 0, .int 0]))] sz)) (gQn D (wi_X3 cI h0) [(h0, .inr (3, [.null, .null, .null, .null, .null, .null, .null, .int 0, .int 0]))] sz) 15 251 (va_A [(h0, .inr (3, [.null, .null, .null, .null, .null, .null, .null, .int 0, .int 0]))] sz) := by
  refine Met.ofW (cc := cX3_init) (maxL := 1) (ret := none) (by decide) rfl ?_
  intro p e s m args below meth c s₁ B hml hv
  obtain ⟨rfl, hg⟩ := hv
  have C : Ctx p s m _ meth c cX3_init 1 RX3 none := Ctx.of B hml rfl
  have hmi : meth.name = "<init>" := (name_of_methodNamed B.named B.method).1
  obtain ⟨E, hw, hsz⟩ := g_start hg
  subst hsz
  have hl := lv_entry ([.ref h0]) (n := 1) (Nat.le_of_ble_eq_true rfl)
  rw [lg_entry_eq]
  generalize (lg_sl ([.ref h0]) ++ List.replicate (1 - (lg_sl ([.ref h0])).length) Slot.unset).toArray = ls at hl ⊢
  have hl : lv_has ls 1 [(0, .ref h0)] := hl
  refine lv_aload_n C.1 C.2.1 dX3_init_0 rfl (lv_at hl 0 rfl) ?_
  refine W.objInit C.1 C.2.1 C.2.2.2.1 (C.2.2.2.2.1 _ km_X3_1) (C.2.2.2.2.1 _ ki_objectInit) (C.2.2.2.2.1 _ kc_objectInit) rfl (by rw [C.2.2.1]; exact hl.1) rfl dX3_init_1 (Nat.le_of_ble_eq_true rfl) (Nat.le_of_ble_eq_true rfl) ?_
  refine W.eq (g2 := F0 m 4 ls []) rfl ?_
  refine lv_aload_n C.1 C.2.1 dX3_init_4 rfl (lv_at hl 0 rfl) ?_
  refine g_newo (ci := 1) (fs := [.null, .null, .int 0]) C E hw inW1 tyX1 tyX1_ok kl_X3_7 kq_X1 kz_X1 rfl (fun j hj => by rcases (show j = 0 ∨ j = 1 ∨ j = 2 by omega) with rfl | rfl | rfl <;> rfl) (Nat.le_of_ble_eq_true rfl) (Nat.le_of_ble_eq_true rfl) dX3_init_5 (fun o5 H locs hw => ?_)
  have hw : gW D [(h0, .inr (3, [.null, .null, .null, .null, .null, .null, .null, .int 0, .int 0]))] [(h0, .inr (3, [.null, .null, .null, .null, .null, .null, .null, .int 0, .int 0])), (o5, .inr (1, [.null, .null, .int 0]))] s H locs := hw
  refine lv_dup C.1 C.2.1 dX3_init_8 rfl ?_
  refine g_init9 (w1 := wi_X1 cI o5) (wr := [(h0, .inr (3, [.null, .null, .null, .null, .null, .null, .null, .int 0, .int 0]))]) (rest := [.ref o5, .ref h0]) hw (g_runIN (rm := ({ frames := 1, cells := 2, slots := 32, locals := 20 } : Room)) (wc := [(o5, .inr (1, [.null, .null, .int 0]))]) C E hw [1] rfl (by decide) Fi_X1 rfl ki_yX1_init (cti_X1 l o5 _) kmN_X3_9 hl.1 (Nat.le_of_ble_eq_true rfl) ⟨(Nat.le_of_ble_eq_true rfl), (Nat.le_of_ble_eq_true rfl)⟩ ⟨(Nat.le_of_ble_eq_true rfl), (Nat.le_of_ble_eq_true rfl)⟩ dX3_init_9) [1] [0] rfl rfl (by decide) (by decide) (fun u9 H locs hw => ?_)
  have hw : gW D [(h0, .inr (3, [.null, .null, .null, .null, .null, .null, .null, .int 0, .int 0]))] [(h0, .inr (3, [.null, .null, .null, .null, .null, .null, .null, .int 0, .int 0])), (o5, .inr (1, [.ref (u9 0), .ref (u9 1), .int 0])), ((u9 0), .inl (cI, 16, .inl (fun _ => 0))), ((u9 1), .inl (cI, 16, .inl (fun _ => 0)))] s H locs := hw
  refine g_putF (ty := .object "DreamLedger$TagTree") C E hmi hw inW3 tyX3 tyX3_ok nmX3 0 rfl rfl 0 (by decide) kf_X3_10 rfl rfl (by decide +kernel) rfl rfl (Nat.le_of_ble_eq_true rfl) (ws' := [(h0, .inr (3, [.ref o5, .null, .null, .null, .null, .null, .null, .int 0, .int 0])), (o5, .inr (1, [.ref (u9 0), .ref (u9 1), .int 0])), ((u9 0), .inl (cI, 16, .inl (fun _ => 0))), ((u9 1), .inl (cI, 16, .inl (fun _ => 0)))]) rfl dX3_init_12 (fun H locs hw => ?_)
  refine lv_aload_n C.1 C.2.1 dX3_init_15 rfl (lv_at hl 0 rfl) ?_
  refine g_newo (ci := 2) (fs := [.null, .null, .null, .null, .int 0]) C E hw inW2 tyX2 tyX2_ok kl_X3_16 kq_X2 kz_X2 rfl (fun j hj => by rcases (show j = 0 ∨ j = 1 ∨ j = 2 ∨ j = 3 ∨ j = 4 by omega) with rfl | rfl | rfl | rfl | rfl <;> rfl) (Nat.le_of_ble_eq_true rfl) (Nat.le_of_ble_eq_true rfl) dX3_init_16 (fun o16 H locs hw => ?_)
  have hw : gW D [(h0, .inr (3, [.null, .null, .null, .null, .null, .null, .null, .int 0, .int 0]))] [(h0, .inr (3, [.ref o5, .null, .null, .null, .null, .null, .null, .int 0, .int 0])), (o5, .inr (1, [.ref (u9 0), .ref (u9 1), .int 0])), ((u9 0), .inl (cI, 16, .inl (fun _ => 0))), ((u9 1), .inl (cI, 16, .inl (fun _ => 0))), (o16, .inr (2, [.null, .null, .null, .null, .int 0]))] s H locs := hw
  refine lv_dup C.1 C.2.1 dX3_init_19 rfl ?_
  refine g_init9 (w1 := wi_X2 cI o16) (wr := [(h0, .inr (3, [.ref o5, .null, .null, .null, .null, .null, .null, .int 0, .int 0])), (o5, .inr (1, [.ref (u9 0), .ref (u9 1), .int 0])), ((u9 0), .inl (cI, 16, .inl (fun _ => 0))), ((u9 1), .inl (cI, 16, .inl (fun _ => 0)))]) (rest := [.ref o16, .ref h0]) hw (g_runIN (rm := ({ frames := 1, cells := 4, slots := 80, locals := 20 } : Room)) (wc := [(o16, .inr (2, [.null, .null, .null, .null, .int 0]))]) C E hw [4] rfl (by decide) Fi_X2 rfl ki_yX2_init (cti_X2 l o16 _) kmN_X3_18 hl.1 (Nat.le_of_ble_eq_true rfl) ⟨(Nat.le_of_ble_eq_true rfl), (Nat.le_of_ble_eq_true rfl)⟩ ⟨(Nat.le_of_ble_eq_true rfl), (Nat.le_of_ble_eq_true rfl)⟩ dX3_init_20) [4] [0, 1, 2, 3] rfl rfl (by decide) (by decide) (fun u20 H locs hw => ?_)
  have hw : gW D [(h0, .inr (3, [.null, .null, .null, .null, .null, .null, .null, .int 0, .int 0]))] [(h0, .inr (3, [.ref o5, .null, .null, .null, .null, .null, .null, .int 0, .int 0])), (o5, .inr (1, [.ref (u9 0), .ref (u9 1), .int 0])), ((u9 0), .inl (cI, 16, .inl (fun _ => 0))), ((u9 1), .inl (cI, 16, .inl (fun _ => 0))), (o16, .inr (2, [.ref (u20 0), .ref (u20 1), .ref (u20 2), .ref (u20 3), .int 0])), ((u20 0), .inl (cI, 20, .inl (fun _ => 0))), ((u20 1), .inl (cI, 20, .inl (fun _ => 0))), ((u20 2), .inl (cI, 20, .inl (fun _ => 0))), ((u20 3), .inl (cI, 20, .inl (fun _ => 0)))] s H locs := hw
  refine g_putF (ty := .object "DreamLedger$TermList") C E hmi hw inW3 tyX3 tyX3_ok nmX3 0 rfl rfl 1 (by decide) kf_X3_19 rfl rfl (by decide +kernel) rfl rfl (Nat.le_of_ble_eq_true rfl) (ws' := [(h0, .inr (3, [.ref o5, .ref o16, .null, .null, .null, .null, .null, .int 0, .int 0])), (o5, .inr (1, [.ref (u9 0), .ref (u9 1), .int 0])), ((u9 0), .inl (cI, 16, .inl (fun _ => 0))), ((u9 1), .inl (cI, 16, .inl (fun _ => 0))), (o16, .inr (2, [.ref (u20 0), .ref (u20 1), .ref (u20 2), .ref (u20 3), .int 0])), ((u20 0), .inl (cI, 20, .inl (fun _ => 0))), ((u20 1), .inl (cI, 20, .inl (fun _ => 0))), ((u20 2), .inl (cI, 20, .inl (fun _ => 0))), ((u20 3), .inl (cI, 20, .inl (fun _ => 0)))]) rfl dX3_init_23 (fun H locs hw => ?_)
  refine lv_aload_n C.1 C.2.1 dX3_init_26 rfl (lv_at hl 0 rfl) ?_
  refine g_newo (ci := 0) (fs := [.null, .null]) C E hw inW0 tyX0 tyX0_ok kl_X3_23 kq_X0 kz_X0 rfl (fun j hj => by rcases (show j = 0 ∨ j = 1 by omega) with rfl | rfl <;> rfl) (Nat.le_of_ble_eq_true rfl) (Nat.le_of_ble_eq_true rfl) dX3_init_27 (fun o27 H locs hw => ?_)
  have hw : gW D [(h0, .inr (3, [.null, .null, .null, .null, .null, .null, .null, .int 0, .int 0]))] [(h0, .inr (3, [.ref o5, .ref o16, .null, .null, .null, .null, .null, .int 0, .int 0])), (o5, .inr (1, [.ref (u9 0), .ref (u9 1), .int 0])), ((u9 0), .inl (cI, 16, .inl (fun _ => 0))), ((u9 1), .inl (cI, 16, .inl (fun _ => 0))), (o16, .inr (2, [.ref (u20 0), .ref (u20 1), .ref (u20 2), .ref (u20 3), .int 0])), ((u20 0), .inl (cI, 20, .inl (fun _ => 0))), ((u20 1), .inl (cI, 20, .inl (fun _ => 0))), ((u20 2), .inl (cI, 20, .inl (fun _ => 0))), ((u20 3), .inl (cI, 20, .inl (fun _ => 0))), (o27, .inr (0, [.null, .null]))] s H locs := hw
  refine lv_dup C.1 C.2.1 dX3_init_30 rfl ?_
  refine g_init9 (w1 := wi_X0 cI o27) (wr := [(h0, .inr (3, [.ref o5, .ref o16, .null, .null, .null, .null, .null, .int 0, .int 0])), (o5, .inr (1, [.ref (u9 0), .ref (u9 1), .int 0])), ((u9 0), .inl (cI, 16, .inl (fun _ => 0))), ((u9 1), .inl (cI, 16, .inl (fun _ => 0))), (o16, .inr (2, [.ref (u20 0), .ref (u20 1), .ref (u20 2), .ref (u20 3), .int 0])), ((u20 0), .inl (cI, 20, .inl (fun _ => 0))), ((u20 1), .inl (cI, 20, .inl (fun _ => 0))), ((u20 2), .inl (cI, 20, .inl (fun _ => 0))), ((u20 3), .inl (cI, 20, .inl (fun _ => 0)))]) (rest := [.ref o27, .ref h0]) hw (g_runIN (rm := ({ frames := 1, cells := 2, slots := 33, locals := 20 } : Room)) (wc := [(o27, .inr (0, [.null, .null]))]) C E hw [9] rfl (by decide) Fi_X0 rfl ki_yX0_init (cti_X0 l o27 _) kmN_X3_25 hl.1 (Nat.le_of_ble_eq_true rfl) ⟨(Nat.le_of_ble_eq_true rfl), (Nat.le_of_ble_eq_true rfl)⟩ ⟨(Nat.le_of_ble_eq_true rfl), (Nat.le_of_ble_eq_true rfl)⟩ dX3_init_31) [9] [0, 1, 2, 3, 4, 5, 6, 7, 8] rfl rfl (by decide) (by decide) (fun u31 H locs hw => ?_)
  have hw : gW D [(h0, .inr (3, [.null, .null, .null, .null, .null, .null, .null, .int 0, .int 0]))] [(h0, .inr (3, [.ref o5, .ref o16, .null, .null, .null, .null, .null, .int 0, .int 0])), (o5, .inr (1, [.ref (u9 0), .ref (u9 1), .int 0])), ((u9 0), .inl (cI, 16, .inl (fun _ => 0))), ((u9 1), .inl (cI, 16, .inl (fun _ => 0))), (o16, .inr (2, [.ref (u20 0), .ref (u20 1), .ref (u20 2), .ref (u20 3), .int 0])), ((u20 0), .inl (cI, 20, .inl (fun _ => 0))), ((u20 1), .inl (cI, 20, .inl (fun _ => 0))), ((u20 2), .inl (cI, 20, .inl (fun _ => 0))), ((u20 3), .inl (cI, 20, .inl (fun _ => 0))), (o27, .inr (0, [.ref (u31 0), .ref (u31 1)])), ((u31 0), .inl (cI, 16, .inl (fun _ => 0))), ((u31 1), .inl (cI, 17, .inl (fun _ => 0)))] s H locs := hw
  refine g_putF (ty := .object "DreamLedger$CoverSearch") C E hmi hw inW3 tyX3 tyX3_ok nmX3 0 rfl rfl 2 (by decide) kf_X3_26 rfl rfl (by decide +kernel) rfl rfl (Nat.le_of_ble_eq_true rfl) (ws' := [(h0, .inr (3, [.ref o5, .ref o16, .ref o27, .null, .null, .null, .null, .int 0, .int 0])), (o5, .inr (1, [.ref (u9 0), .ref (u9 1), .int 0])), ((u9 0), .inl (cI, 16, .inl (fun _ => 0))), ((u9 1), .inl (cI, 16, .inl (fun _ => 0))), (o16, .inr (2, [.ref (u20 0), .ref (u20 1), .ref (u20 2), .ref (u20 3), .int 0])), ((u20 0), .inl (cI, 20, .inl (fun _ => 0))), ((u20 1), .inl (cI, 20, .inl (fun _ => 0))), ((u20 2), .inl (cI, 20, .inl (fun _ => 0))), ((u20 3), .inl (cI, 20, .inl (fun _ => 0))), (o27, .inr (0, [.ref (u31 0), .ref (u31 1)])), ((u31 0), .inl (cI, 16, .inl (fun _ => 0))), ((u31 1), .inl (cI, 17, .inl (fun _ => 0)))]) rfl dX3_init_34 (fun H locs hw => ?_)
  refine lv_aload_n C.1 C.2.1 dX3_init_37 rfl (lv_at hl 0 rfl) ?_
  refine lv_bipush (v := 24) C.1 C.2.1 dX3_init_38 (by decide) ?_
  refine g_newa C E hw 24 (by decide) (by decide) (by decide) (Nat.le_of_ble_eq_true rfl) (Nat.le_of_ble_eq_true rfl) dX3_init_40 (fun a40 H locs hw => ?_)
  have hw : gW D [(h0, .inr (3, [.null, .null, .null, .null, .null, .null, .null, .int 0, .int 0]))] [(h0, .inr (3, [.ref o5, .ref o16, .ref o27, .null, .null, .null, .null, .int 0, .int 0])), (o5, .inr (1, [.ref (u9 0), .ref (u9 1), .int 0])), ((u9 0), .inl (cI, 16, .inl (fun _ => 0))), ((u9 1), .inl (cI, 16, .inl (fun _ => 0))), (o16, .inr (2, [.ref (u20 0), .ref (u20 1), .ref (u20 2), .ref (u20 3), .int 0])), ((u20 0), .inl (cI, 20, .inl (fun _ => 0))), ((u20 1), .inl (cI, 20, .inl (fun _ => 0))), ((u20 2), .inl (cI, 20, .inl (fun _ => 0))), ((u20 3), .inl (cI, 20, .inl (fun _ => 0))), (o27, .inr (0, [.ref (u31 0), .ref (u31 1)])), ((u31 0), .inl (cI, 16, .inl (fun _ => 0))), ((u31 1), .inl (cI, 17, .inl (fun _ => 0))), (a40, .inl (cI, 24, .inl (fun _ => 0)))] s H locs := hw
  refine g_putF (ty := .array .int) C E hmi hw inW3 tyX3 tyX3_ok nmX3 0 rfl rfl 3 (by decide) kf_X3_30 rfl rfl (by decide +kernel) rfl rfl (Nat.le_of_ble_eq_true rfl) (ws' := [(h0, .inr (3, [.ref o5, .ref o16, .ref o27, .ref a40, .null, .null, .null, .int 0, .int 0])), (o5, .inr (1, [.ref (u9 0), .ref (u9 1), .int 0])), ((u9 0), .inl (cI, 16, .inl (fun _ => 0))), ((u9 1), .inl (cI, 16, .inl (fun _ => 0))), (o16, .inr (2, [.ref (u20 0), .ref (u20 1), .ref (u20 2), .ref (u20 3), .int 0])), ((u20 0), .inl (cI, 20, .inl (fun _ => 0))), ((u20 1), .inl (cI, 20, .inl (fun _ => 0))), ((u20 2), .inl (cI, 20, .inl (fun _ => 0))), ((u20 3), .inl (cI, 20, .inl (fun _ => 0))), (o27, .inr (0, [.ref (u31 0), .ref (u31 1)])), ((u31 0), .inl (cI, 16, .inl (fun _ => 0))), ((u31 1), .inl (cI, 17, .inl (fun _ => 0))), (a40, .inl (cI, 24, .inl (fun _ => 0)))]) rfl dX3_init_42 (fun H locs hw => ?_)
  refine lv_aload_n C.1 C.2.1 dX3_init_45 rfl (lv_at hl 0 rfl) ?_
  refine lv_bipush (v := 24) C.1 C.2.1 dX3_init_46 (by decide) ?_
  refine g_newa C E hw 24 (by decide) (by decide) (by decide) (Nat.le_of_ble_eq_true rfl) (Nat.le_of_ble_eq_true rfl) dX3_init_48 (fun a48 H locs hw => ?_)
  have hw : gW D [(h0, .inr (3, [.null, .null, .null, .null, .null, .null, .null, .int 0, .int 0]))] [(h0, .inr (3, [.ref o5, .ref o16, .ref o27, .ref a40, .null, .null, .null, .int 0, .int 0])), (o5, .inr (1, [.ref (u9 0), .ref (u9 1), .int 0])), ((u9 0), .inl (cI, 16, .inl (fun _ => 0))), ((u9 1), .inl (cI, 16, .inl (fun _ => 0))), (o16, .inr (2, [.ref (u20 0), .ref (u20 1), .ref (u20 2), .ref (u20 3), .int 0])), ((u20 0), .inl (cI, 20, .inl (fun _ => 0))), ((u20 1), .inl (cI, 20, .inl (fun _ => 0))), ((u20 2), .inl (cI, 20, .inl (fun _ => 0))), ((u20 3), .inl (cI, 20, .inl (fun _ => 0))), (o27, .inr (0, [.ref (u31 0), .ref (u31 1)])), ((u31 0), .inl (cI, 16, .inl (fun _ => 0))), ((u31 1), .inl (cI, 17, .inl (fun _ => 0))), (a40, .inl (cI, 24, .inl (fun _ => 0))), (a48, .inl (cI, 24, .inl (fun _ => 0)))] s H locs := hw
  refine g_putF (ty := .array .int) C E hmi hw inW3 tyX3 tyX3_ok nmX3 0 rfl rfl 4 (by decide) kf_X3_34 rfl rfl (by decide +kernel) rfl rfl (Nat.le_of_ble_eq_true rfl) (ws' := [(h0, .inr (3, [.ref o5, .ref o16, .ref o27, .ref a40, .ref a48, .null, .null, .int 0, .int 0])), (o5, .inr (1, [.ref (u9 0), .ref (u9 1), .int 0])), ((u9 0), .inl (cI, 16, .inl (fun _ => 0))), ((u9 1), .inl (cI, 16, .inl (fun _ => 0))), (o16, .inr (2, [.ref (u20 0), .ref (u20 1), .ref (u20 2), .ref (u20 3), .int 0])), ((u20 0), .inl (cI, 20, .inl (fun _ => 0))), ((u20 1), .inl (cI, 20, .inl (fun _ => 0))), ((u20 2), .inl (cI, 20, .inl (fun _ => 0))), ((u20 3), .inl (cI, 20, .inl (fun _ => 0))), (o27, .inr (0, [.ref (u31 0), .ref (u31 1)])), ((u31 0), .inl (cI, 16, .inl (fun _ => 0))), ((u31 1), .inl (cI, 17, .inl (fun _ => 0))), (a40, .inl (cI, 24, .inl (fun _ => 0))), (a48, .inl (cI, 24, .inl (fun _ => 0)))]) rfl dX3_init_50 (fun H locs hw => ?_)
  refine lv_aload_n C.1 C.2.1 dX3_init_53 rfl (lv_at hl 0 rfl) ?_
  refine lv_bipush (v := 24) C.1 C.2.1 dX3_init_54 (by decide) ?_
  refine g_newa C E hw 24 (by decide) (by decide) (by decide) (Nat.le_of_ble_eq_true rfl) (Nat.le_of_ble_eq_true rfl) dX3_init_56 (fun a56 H locs hw => ?_)
  have hw : gW D [(h0, .inr (3, [.null, .null, .null, .null, .null, .null, .null, .int 0, .int 0]))] [(h0, .inr (3, [.ref o5, .ref o16, .ref o27, .ref a40, .ref a48, .null, .null, .int 0, .int 0])), (o5, .inr (1, [.ref (u9 0), .ref (u9 1), .int 0])), ((u9 0), .inl (cI, 16, .inl (fun _ => 0))), ((u9 1), .inl (cI, 16, .inl (fun _ => 0))), (o16, .inr (2, [.ref (u20 0), .ref (u20 1), .ref (u20 2), .ref (u20 3), .int 0])), ((u20 0), .inl (cI, 20, .inl (fun _ => 0))), ((u20 1), .inl (cI, 20, .inl (fun _ => 0))), ((u20 2), .inl (cI, 20, .inl (fun _ => 0))), ((u20 3), .inl (cI, 20, .inl (fun _ => 0))), (o27, .inr (0, [.ref (u31 0), .ref (u31 1)])), ((u31 0), .inl (cI, 16, .inl (fun _ => 0))), ((u31 1), .inl (cI, 17, .inl (fun _ => 0))), (a40, .inl (cI, 24, .inl (fun _ => 0))), (a48, .inl (cI, 24, .inl (fun _ => 0))), (a56, .inl (cI, 24, .inl (fun _ => 0)))] s H locs := hw
  refine g_putF (ty := .array .int) C E hmi hw inW3 tyX3 tyX3_ok nmX3 0 rfl rfl 5 (by decide) kf_X3_37 rfl rfl (by decide +kernel) rfl rfl (Nat.le_of_ble_eq_true rfl) (ws' := [(h0, .inr (3, [.ref o5, .ref o16, .ref o27, .ref a40, .ref a48, .ref a56, .null, .int 0, .int 0])), (o5, .inr (1, [.ref (u9 0), .ref (u9 1), .int 0])), ((u9 0), .inl (cI, 16, .inl (fun _ => 0))), ((u9 1), .inl (cI, 16, .inl (fun _ => 0))), (o16, .inr (2, [.ref (u20 0), .ref (u20 1), .ref (u20 2), .ref (u20 3), .int 0])), ((u20 0), .inl (cI, 20, .inl (fun _ => 0))), ((u20 1), .inl (cI, 20, .inl (fun _ => 0))), ((u20 2), .inl (cI, 20, .inl (fun _ => 0))), ((u20 3), .inl (cI, 20, .inl (fun _ => 0))), (o27, .inr (0, [.ref (u31 0), .ref (u31 1)])), ((u31 0), .inl (cI, 16, .inl (fun _ => 0))), ((u31 1), .inl (cI, 17, .inl (fun _ => 0))), (a40, .inl (cI, 24, .inl (fun _ => 0))), (a48, .inl (cI, 24, .inl (fun _ => 0))), (a56, .inl (cI, 24, .inl (fun _ => 0)))]) rfl dX3_init_58 (fun H locs hw => ?_)
  refine lv_aload_n C.1 C.2.1 dX3_init_61 rfl (lv_at hl 0 rfl) ?_
  refine lv_bipush (v := 24) C.1 C.2.1 dX3_init_62 (by decide) ?_
  refine g_newa C E hw 24 (by decide) (by decide) (by decide) (Nat.le_of_ble_eq_true rfl) (Nat.le_of_ble_eq_true rfl) dX3_init_64 (fun a64 H locs hw => ?_)
  have hw : gW D [(h0, .inr (3, [.null, .null, .null, .null, .null, .null, .null, .int 0, .int 0]))] [(h0, .inr (3, [.ref o5, .ref o16, .ref o27, .ref a40, .ref a48, .ref a56, .null, .int 0, .int 0])), (o5, .inr (1, [.ref (u9 0), .ref (u9 1), .int 0])), ((u9 0), .inl (cI, 16, .inl (fun _ => 0))), ((u9 1), .inl (cI, 16, .inl (fun _ => 0))), (o16, .inr (2, [.ref (u20 0), .ref (u20 1), .ref (u20 2), .ref (u20 3), .int 0])), ((u20 0), .inl (cI, 20, .inl (fun _ => 0))), ((u20 1), .inl (cI, 20, .inl (fun _ => 0))), ((u20 2), .inl (cI, 20, .inl (fun _ => 0))), ((u20 3), .inl (cI, 20, .inl (fun _ => 0))), (o27, .inr (0, [.ref (u31 0), .ref (u31 1)])), ((u31 0), .inl (cI, 16, .inl (fun _ => 0))), ((u31 1), .inl (cI, 17, .inl (fun _ => 0))), (a40, .inl (cI, 24, .inl (fun _ => 0))), (a48, .inl (cI, 24, .inl (fun _ => 0))), (a56, .inl (cI, 24, .inl (fun _ => 0))), (a64, .inl (cI, 24, .inl (fun _ => 0)))] s H locs := hw
  refine g_putF (ty := .array .int) C E hmi hw inW3 tyX3 tyX3_ok nmX3 0 rfl rfl 6 (by decide) kf_X3_40 rfl rfl (by decide +kernel) rfl rfl (Nat.le_of_ble_eq_true rfl) (ws' := [(h0, .inr (3, [.ref o5, .ref o16, .ref o27, .ref a40, .ref a48, .ref a56, .ref a64, .int 0, .int 0])), (o5, .inr (1, [.ref (u9 0), .ref (u9 1), .int 0])), ((u9 0), .inl (cI, 16, .inl (fun _ => 0))), ((u9 1), .inl (cI, 16, .inl (fun _ => 0))), (o16, .inr (2, [.ref (u20 0), .ref (u20 1), .ref (u20 2), .ref (u20 3), .int 0])), ((u20 0), .inl (cI, 20, .inl (fun _ => 0))), ((u20 1), .inl (cI, 20, .inl (fun _ => 0))), ((u20 2), .inl (cI, 20, .inl (fun _ => 0))), ((u20 3), .inl (cI, 20, .inl (fun _ => 0))), (o27, .inr (0, [.ref (u31 0), .ref (u31 1)])), ((u31 0), .inl (cI, 16, .inl (fun _ => 0))), ((u31 1), .inl (cI, 17, .inl (fun _ => 0))), (a40, .inl (cI, 24, .inl (fun _ => 0))), (a48, .inl (cI, 24, .inl (fun _ => 0))), (a56, .inl (cI, 24, .inl (fun _ => 0))), (a64, .inl (cI, 24, .inl (fun _ => 0)))]) rfl dX3_init_66 (fun H locs hw => ?_)
  have hw : gW D [(h0, .inr (3, [.null, .null, .null, .null, .null, .null, .null, .int 0, .int 0]))] (wi_X3 cI h0 (fun i => [h0, o5, o16, o27, a40, a48, a56, a64, (u9 0), (u9 1), (u20 0), (u20 1), (u20 2), (u20 3), (u31 0), (u31 1)].getD i 0)) s H locs := ⟨hw.1.sub [0, 1, 4, 9, 12, 13, 14, 15, 2, 3, 5, 6, 7, 8, 10, 11] rfl, hw.2.1.sub [0, 1, 4, 9, 12, 13, 14, 15, 2, 3, 5, 6, 7, 8, 10, 11] (by decide) rfl, hw.2.2⟩
  exact g_nret (w1 := wi_X3 cI h0) C _ hw (Nat.le_of_ble_eq_true rfl) (Nat.le_of_ble_eq_true rfl) dX3_init_69
