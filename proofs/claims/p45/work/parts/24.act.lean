theorem F_L_act : FctS yL_act cL_act 15 (some .boolean) 3 := ⟨⟨kc_yL_act, kz_L, by decide +kernel, by decide +kernel, by decide +kernel⟩, kt_yL_act⟩
def fL_act_22 (S : St) (T : St) : Option (St × St) :=
  if (T 34 0) = 16 then
    some (S, T)
  else
    Option.bind (sto T 1 16 (T 34 0) (-1)) fun T_64 =>
    Option.bind (some (up T_64 34 0 ((T_64 34 0) + 1))) fun T_65 =>
    Option.bind (fX3_addTag S) fun u_68 => pr u_68 fun v_66 S_67 =>
    if v_66 = ((T_65 34 0) - 1) then
      some (S_67, T_65)
    else
      none
set_option maxHeartbeats 4000000 in
set_option maxRecDepth 100000 in
theorem wL_act_22 {p : Program} {l : Launch} {e : Env} {s : State} {m : MethodId} {args : Array Value} {below : List Frame} {meth : Method} {c : Code} {D : va_G} {k : Nat → ClassId} {qx r : Nat → Nat} {ws0 : va_W} (C : Ctx p s m args meth c cL_act 15 RL (some .boolean)) (E : gEL D k s) {S1 T1 : St} : ∀ (S : St) (T : St), fL_act_22 S T = some (S1, T1) → ∀ (H : Heap) (locs : List Loc) (ls : Array Slot), gS D ws0 k qx r S T [] s H locs → lv_has ls 15 [(0, .ref (qx 0)), (1, .ref (r 0))] → W p l e ({ frames := 5, cells := 1, slots := 24, locals := 113 } : Room) s m args below meth c H locs 0 0 (MQ below (gQA D k qx r 1 S1 T1 ws0 s.heap.size) args s 1 24 (va_A ws0 s.heap.size)) (F0 m 22 ls []) := by
  intro S T hf H locs ls hw hl
  unfold fL_act_22 at hf
  refine lv_aload_n C.1 C.2.1 dL_act_22 rfl (lv_at hl 1 rfl) ?_
  refine l_get C E hw 0 (by decide) kf_L_15 rfl dL_act_23 ?_
  refine lv_bipush (v := 16) C.1 C.2.1 dL_act_26 (by decide) ?_
  refine lv_icmp_ne (tgt := 33) C.1 C.2.1 dL_act_28 (by decide) (fun hc => ?_) (fun hc => ?_)
  · have hf := iff_ hc hf
    refine lv_aload_n C.1 C.2.1 dL_act_33 rfl (lv_at hl 1 rfl) ?_
    refine l_get C E hw 4 (by decide) kf_L_21 rfl dL_act_34 ?_
    refine lv_aload_n C.1 C.2.1 dL_act_37 rfl (lv_at hl 1 rfl) ?_
    refine l_get C E hw 0 (by decide) kf_L_15 rfl dL_act_38 ?_
    refine lv_iconst (v := (-1)) C.1 C.2.1 dL_act_41 (by decide) ?_
    obtain ⟨T_64, hT_64, hf⟩ := bnd hf
    refine l_ast C E hw 1 (by decide) (by decide) (fun _ _ _ => rfl) hT_64 dL_act_42 (fun H locs hw => ?_)
    refine lv_aload_n C.1 C.2.1 dL_act_43 rfl (lv_at hl 1 rfl) ?_
    refine lv_dup C.1 C.2.1 dL_act_44 rfl ?_
    refine l_get C E hw 0 (by decide) kf_L_15 rfl dL_act_45 ?_
    refine lv_iconst (v := 1) C.1 C.2.1 dL_act_48 (by decide) ?_
    refine lv_iadd C.1 C.2.1 dL_act_49 ?_
    obtain ⟨T_65, hT_65, hf⟩ := bnd hf
    refine l_put C E hw 0 (by decide) kf_L_15 (fun q => absurd q (by decide)) hT_65 dL_act_50 (fun H locs hw => ?_)
    refine lv_aload_n C.1 C.2.1 dL_act_53 rfl (lv_at hl 0 rfl) ?_
    obtain ⟨⟨v_66, S_67⟩, hu_68, hf⟩ := bnd hf
    have hf := pr_r hf
    refine l_xi (rm := ({ frames := 3, cells := 0, slots := 0, locals := 68 } : Room)) (As := []) (rest := []) C E hw F_X3_addTag rfl (fun _ => ctX3_addTag l (cI := k 0) (D := D) (q := qx) S _ hu_68) km_L_25 rfl hl.1 rfl (Nat.le_of_ble_eq_true rfl) ⟨(Nat.le_of_ble_eq_true rfl), (Nat.le_of_ble_eq_true rfl)⟩ ⟨(Nat.le_of_ble_eq_true rfl), (Nat.le_of_ble_eq_true rfl)⟩ dL_act_54 (fun H locs hw => ?_)
    refine lv_aload_n C.1 C.2.1 dL_act_57 rfl (lv_at hl 1 rfl) ?_
    refine l_get C E hw 0 (by decide) kf_L_15 rfl dL_act_58 ?_
    refine lv_iconst (v := 1) C.1 C.2.1 dL_act_61 (by decide) ?_
    refine lv_isub C.1 C.2.1 dL_act_62 ?_
    refine lv_icmp_ne (tgt := 70) C.1 C.2.1 dL_act_63 (by decide) (fun hc => ?_) (fun hc => ?_)
    · have hf := iff_ hc hf
      refine lv_iconst (v := 0) C.1 C.2.1 dL_act_70 (by decide) ?_
      cases hf
    · have hf := ift hc hf
      refine lv_iconst (v := 1) C.1 C.2.1 dL_act_66 (by decide) ?_
      refine lv_goto (tgt := 71) C.1 C.2.1 dL_act_67 (by decide) ?_
      obtain ⟨e1, e2⟩ := Prod.mk.inj (Option.some.inj hf)
      subst e1
      subst e2
      exact l_aret C hw (Nat.le_of_ble_eq_true rfl) (Nat.le_of_ble_eq_true rfl) (Or.inr rfl) rfl dL_act_71
  · have hf := ift hc hf
    refine lv_iconst (v := 1) C.1 C.2.1 dL_act_31 (by decide) ?_
    obtain ⟨e1, e2⟩ := Prod.mk.inj (Option.some.inj hf)
    subst e1
    subst e2
    exact l_aret C hw (Nat.le_of_ble_eq_true rfl) (Nat.le_of_ble_eq_true rfl) (Or.inr rfl) rfl dL_act_32
def fL_act_257 (S : St) (T : St) (x2 : Int32) (x4 : Int32) : Option (St × St) :=
  if (T 35 0) = 24 then
    some (S, T)
  else
    Option.bind (ix 24 (T 35 0)) fun j_69 =>
    Option.bind (stoO T j_69 x4 1) fun T_70 =>
    Option.bind (fL_below (x2 >>> ((4 : Int32) &&& 31)) 9) fun v_71 =>
    Option.bind (sto T_70 3 24 (T_70 35 0) (1 + v_71)) fun T_72 =>
    Option.bind (sto T_72 4 24 (T_72 35 0) (T_72 37 0)) fun T_73 =>
    Option.bind (some (up T_73 35 0 ((T_73 35 0) + 1))) fun T_74 =>
    Option.bind (ld T_74 3 24 ((T_74 35 0) - 1)) fun v_75 =>
    Option.bind (fX3_addDream S x4 v_75) fun u_78 => pr u_78 fun v_76 S_77 =>
    if v_76 = ((T_74 35 0) - 1) then
      some (S_77, T_74)
    else
      none
set_option maxHeartbeats 4000000 in
set_option maxRecDepth 100000 in
theorem wL_act_257 {p : Program} {l : Launch} {e : Env} {s : State} {m : MethodId} {args : Array Value} {below : List Frame} {meth : Method} {c : Code} {D : va_G} {k : Nat → ClassId} {qx r : Nat → Nat} {ws0 : va_W} (C : Ctx p s m args meth c cL_act 15 RL (some .boolean)) (E : gEL D k s) {S1 T1 : St} : ∀ (S : St) (T : St) (x2 : Int32) (x4 : Int32), fL_act_257 S T x2 x4 = some (S1, T1) → ∀ (H : Heap) (locs : List Loc) (ls : Array Slot), gS D ws0 k qx r S T [] s H locs → lv_has ls 15 [(0, .ref (qx 0)), (1, .ref (r 0)), (2, .int x2), (4, .int x4)] → W p l e ({ frames := 5, cells := 1, slots := 24, locals := 113 } : Room) s m args below meth c H locs 0 0 (MQ below (gQA D k qx r 1 S1 T1 ws0 s.heap.size) args s 1 24 (va_A ws0 s.heap.size)) (F0 m 257 ls []) := by
  intro S T x2 x4 hf H locs ls hw hl
  unfold fL_act_257 at hf
  refine lv_aload_n C.1 C.2.1 dL_act_257 rfl (lv_at hl 1 rfl) ?_
  refine l_get C E hw 1 (by decide) kf_L_42 rfl dL_act_258 ?_
  refine lv_bipush (v := 24) C.1 C.2.1 dL_act_261 (by decide) ?_
  refine lv_icmp_ne (tgt := 268) C.1 C.2.1 dL_act_263 (by decide) (fun hc => ?_) (fun hc => ?_)
  · have hf := iff_ hc hf
    refine lv_aload_n C.1 C.2.1 dL_act_268 rfl (lv_at hl 1 rfl) ?_
    refine l_get C E hw 5 (by decide) kf_L_45 rfl dL_act_269 ?_
    refine lv_aload_n C.1 C.2.1 dL_act_272 rfl (lv_at hl 1 rfl) ?_
    refine l_get C E hw 1 (by decide) kf_L_42 rfl dL_act_273 ?_
    obtain ⟨j_69, hj_69, hf⟩ := bnd hf
    refine l_aaO C E hw hj_69 dL_act_276 ?_
    refine lv_iload C.1 C.2.1 dL_act_277 (lv_at hl 3 rfl) ?_
    refine lv_iconst (v := 1) C.1 C.2.1 dL_act_279 (by decide) ?_
    obtain ⟨T_70, hT_70, hf⟩ := bnd hf
    refine l_zast C E hw (by decide) hT_70 dL_act_280 (fun H locs hw => ?_)
    refine lv_aload_n C.1 C.2.1 dL_act_281 rfl (lv_at hl 1 rfl) ?_
    refine l_get C E hw 6 (by decide) kf_L_49 rfl dL_act_282 ?_
    refine lv_aload_n C.1 C.2.1 dL_act_285 rfl (lv_at hl 1 rfl) ?_
    refine l_get C E hw 1 (by decide) kf_L_42 rfl dL_act_286 ?_
    refine lv_iconst (v := 1) C.1 C.2.1 dL_act_289 (by decide) ?_
    refine lv_iload_n C.1 C.2.1 dL_act_290 rfl (lv_at hl 2 rfl) ?_
    refine lv_iconst (v := 4) C.1 C.2.1 dL_act_291 (by decide) ?_
    refine lv_ishr C.1 C.2.1 dL_act_292 ?_
    refine lv_bipush (v := 9) C.1 C.2.1 dL_act_293 (by decide) ?_
    obtain ⟨v_71, hv_71, hf⟩ := bnd hf
    refine l_0i (rm := ({ frames := 0, cells := 0, slots := 0, locals := 0 } : Room)) (As := [.int (x2 >>> ((4 : Int32) &&& 31)), .int 9]) (rest := [.int 1, .int (T_70 35 0), .ref (r 3)]) C hw F_L_below (ctL_below l (x2 >>> ((4 : Int32) &&& 31)) 9 hv_71) km_L_9 rfl hl.1 rfl (Nat.le_of_ble_eq_true rfl) ⟨(Nat.le_of_ble_eq_true rfl), (Nat.le_of_ble_eq_true rfl)⟩ ⟨(Nat.le_of_ble_eq_true rfl), (Nat.le_of_ble_eq_true rfl)⟩ dL_act_295 (fun H locs hw => ?_)
    refine lv_iadd C.1 C.2.1 dL_act_298 ?_
    obtain ⟨T_72, hT_72, hf⟩ := bnd hf
    refine l_ast C E hw 3 (by decide) (by decide) (fun _ _ _ => rfl) hT_72 dL_act_299 (fun H locs hw => ?_)
    refine lv_aload_n C.1 C.2.1 dL_act_300 rfl (lv_at hl 1 rfl) ?_
    refine l_get C E hw 7 (by decide) kf_L_52 rfl dL_act_301 ?_
    refine lv_aload_n C.1 C.2.1 dL_act_304 rfl (lv_at hl 1 rfl) ?_
    refine l_get C E hw 1 (by decide) kf_L_42 rfl dL_act_305 ?_
    refine lv_aload_n C.1 C.2.1 dL_act_308 rfl (lv_at hl 1 rfl) ?_
    refine l_get C E hw 3 (by decide) kf_L_55 rfl dL_act_309 ?_
    obtain ⟨T_73, hT_73, hf⟩ := bnd hf
    refine l_ast C E hw 4 (by decide) (by decide) (fun _ _ _ => rfl) hT_73 dL_act_312 (fun H locs hw => ?_)
    refine lv_aload_n C.1 C.2.1 dL_act_313 rfl (lv_at hl 1 rfl) ?_
    refine lv_dup C.1 C.2.1 dL_act_314 rfl ?_
    refine l_get C E hw 1 (by decide) kf_L_42 rfl dL_act_315 ?_
    refine lv_iconst (v := 1) C.1 C.2.1 dL_act_318 (by decide) ?_
    refine lv_iadd C.1 C.2.1 dL_act_319 ?_
    obtain ⟨T_74, hT_74, hf⟩ := bnd hf
    refine l_put C E hw 1 (by decide) kf_L_42 (fun q => absurd q (by decide)) hT_74 dL_act_320 (fun H locs hw => ?_)
    refine lv_aload_n C.1 C.2.1 dL_act_323 rfl (lv_at hl 0 rfl) ?_
    refine lv_iload C.1 C.2.1 dL_act_324 (lv_at hl 3 rfl) ?_
    refine lv_aload_n C.1 C.2.1 dL_act_326 rfl (lv_at hl 1 rfl) ?_
    refine l_get C E hw 6 (by decide) kf_L_49 rfl dL_act_327 ?_
    refine lv_aload_n C.1 C.2.1 dL_act_330 rfl (lv_at hl 1 rfl) ?_
    refine l_get C E hw 1 (by decide) kf_L_42 rfl dL_act_331 ?_
    refine lv_iconst (v := 1) C.1 C.2.1 dL_act_334 (by decide) ?_
    refine lv_isub C.1 C.2.1 dL_act_335 ?_
    obtain ⟨v_75, hv_75, hf⟩ := bnd hf
    refine l_ald C E hw 3 (by decide) (fun _ _ => rfl) hv_75 dL_act_336 ?_
    obtain ⟨⟨v_76, S_77⟩, hu_78, hf⟩ := bnd hf
    have hf := pr_r hf
    refine l_xi (rm := ({ frames := 4, cells := 0, slots := 0, locals := 89 } : Room)) (As := [.int x4, .int v_75]) (rest := []) C E hw F_X3_addDream rfl (fun _ => ctX3_addDream l (cI := k 0) (D := D) (q := qx) S x4 v_75 _ hu_78) km_L_58 rfl hl.1 rfl (Nat.le_of_ble_eq_true rfl) ⟨(Nat.le_of_ble_eq_true rfl), (Nat.le_of_ble_eq_true rfl)⟩ ⟨(Nat.le_of_ble_eq_true rfl), (Nat.le_of_ble_eq_true rfl)⟩ dL_act_337 (fun H locs hw => ?_)
    refine lv_aload_n C.1 C.2.1 dL_act_340 rfl (lv_at hl 1 rfl) ?_
    refine l_get C E hw 1 (by decide) kf_L_42 rfl dL_act_341 ?_
    refine lv_iconst (v := 1) C.1 C.2.1 dL_act_344 (by decide) ?_
    refine lv_isub C.1 C.2.1 dL_act_345 ?_
    refine lv_icmp_ne (tgt := 353) C.1 C.2.1 dL_act_346 (by decide) (fun hc => ?_) (fun hc => ?_)
    · have hf := iff_ hc hf
      refine lv_iconst (v := 0) C.1 C.2.1 dL_act_353 (by decide) ?_
      cases hf
    · have hf := ift hc hf
      refine lv_iconst (v := 1) C.1 C.2.1 dL_act_349 (by decide) ?_
      refine lv_goto (tgt := 354) C.1 C.2.1 dL_act_350 (by decide) ?_
      obtain ⟨e1, e2⟩ := Prod.mk.inj (Option.some.inj hf)
      subst e1
      subst e2
      exact l_aret C hw (Nat.le_of_ble_eq_true rfl) (Nat.le_of_ble_eq_true rfl) (Or.inr rfl) rfl dL_act_354
  · have hf := ift hc hf
    refine lv_iconst (v := 1) C.1 C.2.1 dL_act_266 (by decide) ?_
    obtain ⟨e1, e2⟩ := Prod.mk.inj (Option.some.inj hf)
    subst e1
    subst e2
    exact l_aret C hw (Nat.le_of_ble_eq_true rfl) (Nat.le_of_ble_eq_true rfl) (Or.inr rfl) rfl dL_act_267
def fL_act_885 (S : St) (T : St) (x11 : Int32) (t0 : Int32) : Option (St × St) :=
  if t0 = x11 then
    some (S, T)
  else
    none
set_option maxHeartbeats 4000000 in
set_option maxRecDepth 100000 in
theorem wL_act_885 {p : Program} {l : Launch} {e : Env} {s : State} {m : MethodId} {args : Array Value} {below : List Frame} {meth : Method} {c : Code} {D : va_G} {k : Nat → ClassId} {qx r : Nat → Nat} {ws0 : va_W} (C : Ctx p s m args meth c cL_act 15 RL (some .boolean)) (E : gEL D k s) {S1 T1 : St} : ∀ (S : St) (T : St) (x11 : Int32) (t0 : Int32), fL_act_885 S T x11 t0 = some (S1, T1) → ∀ (H : Heap) (locs : List Loc) (ls : Array Slot), gS D ws0 k qx r S T [] s H locs → lv_has ls 15 [(11, .int x11)] → W p l e ({ frames := 5, cells := 1, slots := 24, locals := 113 } : Room) s m args below meth c H locs 1 3 (MQ below (gQA D k qx r 1 S1 T1 ws0 s.heap.size) args s 1 24 (va_A ws0 s.heap.size)) (F0 m 885 ls [.int t0]) := by
  intro S T x11 t0 hf H locs ls hw hl
  unfold fL_act_885 at hf
  refine lv_iload C.1 C.2.1 dL_act_885 (lv_at hl 0 rfl) ?_
  refine lv_icmp_ne (tgt := 894) C.1 C.2.1 dL_act_887 (by decide) (fun hc => ?_) (fun hc => ?_)
  · have hf := iff_ hc hf
    refine lv_iconst (v := 0) C.1 C.2.1 dL_act_894 (by decide) ?_
    cases hf
  · have hf := ift hc hf
    refine lv_iconst (v := 1) C.1 C.2.1 dL_act_890 (by decide) ?_
    refine lv_goto (tgt := 895) C.1 C.2.1 dL_act_891 (by decide) ?_
    obtain ⟨e1, e2⟩ := Prod.mk.inj (Option.some.inj hf)
    subst e1
    subst e2
    exact l_aret C hw (Nat.le_of_ble_eq_true rfl) (Nat.le_of_ble_eq_true rfl) (Or.inr rfl) rfl dL_act_895
def fL_act_794 (S : St) (T : St) (x11 : Int32) (x12 : Int32) (x13 : Int32) (t0 : Int32) : Option (St × St) :=
  Option.bind (nterm T x11 x12 x13 t0) fun T_98 =>
  if x12 = 0 then
    Option.bind (fX3_addTagTerm S x13) fun u_110 => pr u_110 fun v_108 S_109 =>
    fL_act_885 S_109 T_98 x11 v_108
  else
    if x12 = 1 then
      Option.bind (fX3_addBothTerm S x13 t0) fun u_107 => pr u_107 fun v_105 S_106 =>
      fL_act_885 S_106 T_98 x11 v_105
    else
      if x12 = 2 then
        Option.bind (fX3_addEitherTerm S x13 t0) fun u_104 => pr u_104 fun v_102 S_103 =>
        fL_act_885 S_103 T_98 x11 v_102
      else
        Option.bind (fX3_addWithoutTerm S x13) fun u_101 => pr u_101 fun v_99 S_100 =>
        fL_act_885 S_100 T_98 x11 v_99
set_option maxHeartbeats 4000000 in
set_option maxRecDepth 100000 in
theorem wL_act_794 {p : Program} {l : Launch} {e : Env} {s : State} {m : MethodId} {args : Array Value} {below : List Frame} {meth : Method} {c : Code} {D : va_G} {k : Nat → ClassId} {qx r : Nat → Nat} {ws0 : va_W} (C : Ctx p s m args meth c cL_act 15 RL (some .boolean)) (E : gEL D k s) {S1 T1 : St} : ∀ (S : St) (T : St) (x11 : Int32) (x12 : Int32) (x13 : Int32) (t0 : Int32), fL_act_794 S T x11 x12 x13 t0 = some (S1, T1) → ∀ (H : Heap) (locs : List Loc) (ls : Array Slot), gS D ws0 k qx r S T [] s H locs → lv_has ls 15 [(0, .ref (qx 0)), (1, .ref (r 0)), (11, .int x11), (12, .int x12), (13, .int x13)] → W p l e ({ frames := 5, cells := 1, slots := 24, locals := 113 } : Room) s m args below meth c H locs 0 0 (MQ below (gQA D k qx r 1 S1 T1 ws0 s.heap.size) args s 1 24 (va_A ws0 s.heap.size)) (F0 m 794 ls [.int t0]) := by
  intro S T x11 x12 x13 t0 hf H locs ls hw hl
  unfold fL_act_794 at hf
  refine lv_istore (lv' := [(14, .int t0), (0, .ref (qx 0)), (1, .ref (r 0)), (11, .int x11), (12, .int x12), (13, .int x13)]) C.1 C.2.1 dL_act_794 hl (by decide) rfl (fun ls hl => ?_)
  obtain ⟨T_98, hT_98, hf⟩ := bnd hf
  refine l_nterm C E hw hT_98 (lv_sub hl [2, 3, 4, 5, 0] rfl) (Nat.le_of_ble_eq_true rfl) (Nat.le_of_ble_eq_true rfl) (fun H locs hw => ?_)
  refine lv_iload C.1 C.2.1 dL_act_831 (lv_at hl 4 rfl) ?_
  refine lv_if_ne (tgt := 845) C.1 C.2.1 dL_act_833 (by decide) (fun hc => ?_) (fun hc => ?_)
  · have hf := iff_ hc hf
    refine lv_iload C.1 C.2.1 dL_act_845 (lv_at hl 4 rfl) ?_
    refine lv_iconst (v := 1) C.1 C.2.1 dL_act_847 (by decide) ?_
    refine lv_icmp_ne (tgt := 862) C.1 C.2.1 dL_act_848 (by decide) (fun hc => ?_) (fun hc => ?_)
    · have hf := iff_ hc hf
      refine lv_iload C.1 C.2.1 dL_act_862 (lv_at hl 4 rfl) ?_
      refine lv_iconst (v := 2) C.1 C.2.1 dL_act_864 (by decide) ?_
      refine lv_icmp_ne (tgt := 879) C.1 C.2.1 dL_act_865 (by decide) (fun hc => ?_) (fun hc => ?_)
      · have hf := iff_ hc hf
        refine lv_aload_n C.1 C.2.1 dL_act_879 rfl (lv_at hl 1 rfl) ?_
        refine lv_iload C.1 C.2.1 dL_act_880 (lv_at hl 5 rfl) ?_
        obtain ⟨⟨v_99, S_100⟩, hu_101, hf⟩ := bnd hf
        have hf := pr_r hf
        refine l_xi (rm := ({ frames := 4, cells := 0, slots := 0, locals := 91 } : Room)) (As := [.int x13]) (rest := []) C E hw F_X3_addWithoutTerm rfl (fun _ => ctX3_addWithoutTerm l (cI := k 0) (D := D) (q := qx) S x13 _ hu_101) km_L_101 rfl hl.1 rfl (Nat.le_of_ble_eq_true rfl) ⟨(Nat.le_of_ble_eq_true rfl), (Nat.le_of_ble_eq_true rfl)⟩ ⟨(Nat.le_of_ble_eq_true rfl), (Nat.le_of_ble_eq_true rfl)⟩ dL_act_882 (fun H locs hw => ?_)
        exact wL_act_885 C E S_100 T_98 x11 v_99 hf _ _ _ hw (lv_sub hl [3] rfl)
      · have hf := ift hc hf
        refine lv_aload_n C.1 C.2.1 dL_act_868 rfl (lv_at hl 1 rfl) ?_
        refine lv_iload C.1 C.2.1 dL_act_869 (lv_at hl 5 rfl) ?_
        refine lv_iload C.1 C.2.1 dL_act_871 (lv_at hl 0 rfl) ?_
        obtain ⟨⟨v_102, S_103⟩, hu_104, hf⟩ := bnd hf
        have hf := pr_r hf
        refine l_xi (rm := ({ frames := 4, cells := 0, slots := 0, locals := 91 } : Room)) (As := [.int x13, .int t0]) (rest := []) C E hw F_X3_addEitherTerm rfl (fun _ => ctX3_addEitherTerm l (cI := k 0) (D := D) (q := qx) S x13 t0 _ hu_104) km_L_98 rfl hl.1 rfl (Nat.le_of_ble_eq_true rfl) ⟨(Nat.le_of_ble_eq_true rfl), (Nat.le_of_ble_eq_true rfl)⟩ ⟨(Nat.le_of_ble_eq_true rfl), (Nat.le_of_ble_eq_true rfl)⟩ dL_act_873 (fun H locs hw => ?_)
        refine lv_goto (tgt := 885) C.1 C.2.1 dL_act_876 (by decide) ?_
        exact wL_act_885 C E S_103 T_98 x11 v_102 hf _ _ _ hw (lv_sub hl [3] rfl)
    · have hf := ift hc hf
      refine lv_aload_n C.1 C.2.1 dL_act_851 rfl (lv_at hl 1 rfl) ?_
      refine lv_iload C.1 C.2.1 dL_act_852 (lv_at hl 5 rfl) ?_
      refine lv_iload C.1 C.2.1 dL_act_854 (lv_at hl 0 rfl) ?_
      obtain ⟨⟨v_105, S_106⟩, hu_107, hf⟩ := bnd hf
      have hf := pr_r hf
      refine l_xi (rm := ({ frames := 4, cells := 0, slots := 0, locals := 91 } : Room)) (As := [.int x13, .int t0]) (rest := []) C E hw F_X3_addBothTerm rfl (fun _ => ctX3_addBothTerm l (cI := k 0) (D := D) (q := qx) S x13 t0 _ hu_107) km_L_95 rfl hl.1 rfl (Nat.le_of_ble_eq_true rfl) ⟨(Nat.le_of_ble_eq_true rfl), (Nat.le_of_ble_eq_true rfl)⟩ ⟨(Nat.le_of_ble_eq_true rfl), (Nat.le_of_ble_eq_true rfl)⟩ dL_act_856 (fun H locs hw => ?_)
      refine lv_goto (tgt := 885) C.1 C.2.1 dL_act_859 (by decide) ?_
      exact wL_act_885 C E S_106 T_98 x11 v_105 hf _ _ _ hw (lv_sub hl [3] rfl)
  · have hf := ift hc hf
    refine lv_aload_n C.1 C.2.1 dL_act_836 rfl (lv_at hl 1 rfl) ?_
    refine lv_iload C.1 C.2.1 dL_act_837 (lv_at hl 5 rfl) ?_
    obtain ⟨⟨v_108, S_109⟩, hu_110, hf⟩ := bnd hf
    have hf := pr_r hf
    refine l_xi (rm := ({ frames := 4, cells := 0, slots := 0, locals := 91 } : Room)) (As := [.int x13]) (rest := []) C E hw F_X3_addTagTerm rfl (fun _ => ctX3_addTagTerm l (cI := k 0) (D := D) (q := qx) S x13 _ hu_110) km_L_92 rfl hl.1 rfl (Nat.le_of_ble_eq_true rfl) ⟨(Nat.le_of_ble_eq_true rfl), (Nat.le_of_ble_eq_true rfl)⟩ ⟨(Nat.le_of_ble_eq_true rfl), (Nat.le_of_ble_eq_true rfl)⟩ dL_act_839 (fun H locs hw => ?_)
    refine lv_goto (tgt := 885) C.1 C.2.1 dL_act_842 (by decide) ?_
    exact wL_act_885 C E S_109 T_98 x11 v_108 hf _ _ _ hw (lv_sub hl [3] rfl)
def fL_act_775 (S : St) (T : St) (x2 : Int32) (x11 : Int32) (x12 : Int32) (t0 : Int32) : Option (St × St) :=
  if x12 = 0 then
    fL_act_794 S T x11 x12 t0 0
  else
    Option.bind (fL_below (x2 >>> ((5 : Int32) &&& 31)) x11) fun v_87 =>
    fL_act_794 S T x11 x12 t0 v_87
set_option maxHeartbeats 4000000 in
set_option maxRecDepth 100000 in
theorem wL_act_775 {p : Program} {l : Launch} {e : Env} {s : State} {m : MethodId} {args : Array Value} {below : List Frame} {meth : Method} {c : Code} {D : va_G} {k : Nat → ClassId} {qx r : Nat → Nat} {ws0 : va_W} (C : Ctx p s m args meth c cL_act 15 RL (some .boolean)) (E : gEL D k s) {S1 T1 : St} : ∀ (S : St) (T : St) (x2 : Int32) (x11 : Int32) (x12 : Int32) (t0 : Int32), fL_act_775 S T x2 x11 x12 t0 = some (S1, T1) → ∀ (H : Heap) (locs : List Loc) (ls : Array Slot), gS D ws0 k qx r S T [] s H locs → lv_has ls 15 [(0, .ref (qx 0)), (1, .ref (r 0)), (2, .int x2), (11, .int x11), (12, .int x12)] → W p l e ({ frames := 5, cells := 1, slots := 24, locals := 113 } : Room) s m args below meth c H locs 0 0 (MQ below (gQA D k qx r 1 S1 T1 ws0 s.heap.size) args s 1 24 (va_A ws0 s.heap.size)) (F0 m 775 ls [.int t0]) := by
  intro S T x2 x11 x12 t0 hf H locs ls hw hl
  unfold fL_act_775 at hf
  refine lv_istore (lv' := [(13, .int t0), (0, .ref (qx 0)), (1, .ref (r 0)), (2, .int x2), (11, .int x11), (12, .int x12)]) C.1 C.2.1 dL_act_775 hl (by decide) rfl (fun ls hl => ?_)
  refine lv_iload C.1 C.2.1 dL_act_777 (lv_at hl 5 rfl) ?_
  refine lv_if_ne (tgt := 786) C.1 C.2.1 dL_act_779 (by decide) (fun hc => ?_) (fun hc => ?_)
  · have hf := iff_ hc hf
    refine lv_iload_n C.1 C.2.1 dL_act_786 rfl (lv_at hl 3 rfl) ?_
    refine lv_iconst (v := 5) C.1 C.2.1 dL_act_787 (by decide) ?_
    refine lv_ishr C.1 C.2.1 dL_act_788 ?_
    refine lv_iload C.1 C.2.1 dL_act_789 (lv_at hl 4 rfl) ?_
    obtain ⟨v_87, hv_87, hf⟩ := bnd hf
    refine l_0i (rm := ({ frames := 0, cells := 0, slots := 0, locals := 0 } : Room)) (As := [.int (x2 >>> ((5 : Int32) &&& 31)), .int x11]) (rest := []) C hw F_L_below (ctL_below l (x2 >>> ((5 : Int32) &&& 31)) x11 hv_87) km_L_9 rfl hl.1 rfl (Nat.le_of_ble_eq_true rfl) ⟨(Nat.le_of_ble_eq_true rfl), (Nat.le_of_ble_eq_true rfl)⟩ ⟨(Nat.le_of_ble_eq_true rfl), (Nat.le_of_ble_eq_true rfl)⟩ dL_act_791 (fun H locs hw => ?_)
    exact wL_act_794 C E S T x11 x12 t0 v_87 hf _ _ _ hw (lv_sub hl [1, 2, 4, 5, 0] rfl)
  · have hf := ift hc hf
    refine lv_iconst (v := 0) C.1 C.2.1 dL_act_782 (by decide) ?_
    refine lv_goto (tgt := 794) C.1 C.2.1 dL_act_783 (by decide) ?_
    exact wL_act_794 C E S T x11 x12 t0 0 hf _ _ _ hw (lv_sub hl [1, 2, 4, 5, 0] rfl)
def fL_act_755 (S : St) (T : St) (x2 : Int32) (x4 : Int32) (x11 : Int32) (t0 : Int32) : Option (St × St) :=
  if t0 = 0 then
    fL_act_775 S T x2 x11 t0 x4
  else
    Option.bind (fL_below (x2 >>> ((2 : Int32) &&& 31)) x11) fun v_79 =>
    fL_act_775 S T x2 x11 t0 v_79
set_option maxHeartbeats 4000000 in
set_option maxRecDepth 100000 in
theorem wL_act_755 {p : Program} {l : Launch} {e : Env} {s : State} {m : MethodId} {args : Array Value} {below : List Frame} {meth : Method} {c : Code} {D : va_G} {k : Nat → ClassId} {qx r : Nat → Nat} {ws0 : va_W} (C : Ctx p s m args meth c cL_act 15 RL (some .boolean)) (E : gEL D k s) {S1 T1 : St} : ∀ (S : St) (T : St) (x2 : Int32) (x4 : Int32) (x11 : Int32) (t0 : Int32), fL_act_755 S T x2 x4 x11 t0 = some (S1, T1) → ∀ (H : Heap) (locs : List Loc) (ls : Array Slot), gS D ws0 k qx r S T [] s H locs → lv_has ls 15 [(0, .ref (qx 0)), (1, .ref (r 0)), (2, .int x2), (4, .int x4), (11, .int x11)] → W p l e ({ frames := 5, cells := 1, slots := 24, locals := 113 } : Room) s m args below meth c H locs 0 0 (MQ below (gQA D k qx r 1 S1 T1 ws0 s.heap.size) args s 1 24 (va_A ws0 s.heap.size)) (F0 m 755 ls [.int t0]) := by
  intro S T x2 x4 x11 t0 hf H locs ls hw hl
  unfold fL_act_755 at hf
  refine lv_istore (lv' := [(12, .int t0), (0, .ref (qx 0)), (1, .ref (r 0)), (2, .int x2), (4, .int x4), (11, .int x11)]) C.1 C.2.1 dL_act_755 hl (by decide) rfl (fun ls hl => ?_)
  refine lv_iload C.1 C.2.1 dL_act_757 (lv_at hl 0 rfl) ?_
  refine lv_if_ne (tgt := 767) C.1 C.2.1 dL_act_759 (by decide) (fun hc => ?_) (fun hc => ?_)
  · have hf := iff_ hc hf
    refine lv_iload_n C.1 C.2.1 dL_act_767 rfl (lv_at hl 3 rfl) ?_
    refine lv_iconst (v := 2) C.1 C.2.1 dL_act_768 (by decide) ?_
    refine lv_ishr C.1 C.2.1 dL_act_769 ?_
    refine lv_iload C.1 C.2.1 dL_act_770 (lv_at hl 5 rfl) ?_
    obtain ⟨v_79, hv_79, hf⟩ := bnd hf
    refine l_0i (rm := ({ frames := 0, cells := 0, slots := 0, locals := 0 } : Room)) (As := [.int (x2 >>> ((2 : Int32) &&& 31)), .int x11]) (rest := []) C hw F_L_below (ctL_below l (x2 >>> ((2 : Int32) &&& 31)) x11 hv_79) km_L_9 rfl hl.1 rfl (Nat.le_of_ble_eq_true rfl) ⟨(Nat.le_of_ble_eq_true rfl), (Nat.le_of_ble_eq_true rfl)⟩ ⟨(Nat.le_of_ble_eq_true rfl), (Nat.le_of_ble_eq_true rfl)⟩ dL_act_772 (fun H locs hw => ?_)
    exact wL_act_775 C E S T x2 x11 t0 v_79 hf _ _ _ hw (lv_sub hl [1, 2, 3, 5, 0] rfl)
  · have hf := ift hc hf
    refine lv_iload C.1 C.2.1 dL_act_762 (lv_at hl 4 rfl) ?_
    refine lv_goto (tgt := 775) C.1 C.2.1 dL_act_764 (by decide) ?_
    exact wL_act_775 C E S T x2 x11 t0 x4 hf _ _ _ hw (lv_sub hl [1, 2, 3, 5, 0] rfl)
def fL_act_742 (S : St) (T : St) (x2 : Int32) (x4 : Int32) (x11 : Int32) : Option (St × St) :=
  fL_act_755 S T x2 x4 x11 0
set_option maxHeartbeats 4000000 in
set_option maxRecDepth 100000 in
theorem wL_act_742 {p : Program} {l : Launch} {e : Env} {s : State} {m : MethodId} {args : Array Value} {below : List Frame} {meth : Method} {c : Code} {D : va_G} {k : Nat → ClassId} {qx r : Nat → Nat} {ws0 : va_W} (C : Ctx p s m args meth c cL_act 15 RL (some .boolean)) (E : gEL D k s) {S1 T1 : St} : ∀ (S : St) (T : St) (x2 : Int32) (x4 : Int32) (x11 : Int32), fL_act_742 S T x2 x4 x11 = some (S1, T1) → ∀ (H : Heap) (locs : List Loc) (ls : Array Slot), gS D ws0 k qx r S T [] s H locs → lv_has ls 15 [(0, .ref (qx 0)), (1, .ref (r 0)), (2, .int x2), (4, .int x4), (11, .int x11)] → W p l e ({ frames := 5, cells := 1, slots := 24, locals := 113 } : Room) s m args below meth c H locs 0 0 (MQ below (gQA D k qx r 1 S1 T1 ws0 s.heap.size) args s 1 24 (va_A ws0 s.heap.size)) (F0 m 742 ls []) := by
  intro S T x2 x4 x11 hf H locs ls hw hl
  unfold fL_act_742 at hf
  refine lv_iconst (v := 0) C.1 C.2.1 dL_act_742 (by decide) ?_
  refine lv_goto (tgt := 755) C.1 C.2.1 dL_act_743 (by decide) ?_
  exact wL_act_755 C E S T x2 x4 x11 0 hf _ _ _ hw (lv_sub hl [0, 1, 2, 3, 4] rfl)
def fL_act_619 (x8 : Int32) : Nat → St → St → (Nat → Int32) → Int32 → Option (St × St)
  | 0, _, _, _, _ => none
  | n + 1, S, T, A, x10 =>
    if (T 35 0) ≤ x10 then
      Option.bind (some (up T 37 0 ((T 37 0) + x8))) fun T_88 =>
      Option.bind (fX3_passNights S x8) fun u_91 => pr u_91 fun v_89 S_90 =>
      Option.bind (fX4_faded T_88 0) fun v_92 =>
      if v_89 = v_92 then
        some (S_90, T_88)
      else
        none
    else
      Option.bind (ldA A 24 x10) fun v_93 =>
      Option.bind (sto T 3 24 x10 v_93) fun T_94 =>
      Option.bind (some (x10 + 1)) fun x10_95 =>
      fL_act_619 x8 n S T_94 A x10_95
set_option maxHeartbeats 4000000 in
set_option maxRecDepth 100000 in
theorem wL_act_619 {p : Program} {l : Launch} {e : Env} {s : State} {m : MethodId} {args : Array Value} {below : List Frame} {meth : Method} {c : Code} {D : va_G} {k : Nat → ClassId} {qx r : Nat → Nat} {ws0 : va_W} (C : Ctx p s m args meth c cL_act 15 RL (some .boolean)) (E : gEL D k s) {S1 T1 : St} (x8 : Int32) : ∀ (n : Nat) (S : St) (T : St) (A : (Nat → Int32)) (x10 : Int32), fL_act_619 x8 n S T A x10 = some (S1, T1) → ∀ (qa : Nat) (H : Heap) (locs : List Loc) (ls : Array Slot), gS D ws0 k qx r S T [(qa, .inl (k 0, 24, .inl A))] s H locs → lv_has ls 15 [(0, .ref (qx 0)), (1, .ref (r 0)), (8, .int x8), (9, .ref (qa)), (10, .int x10)] → W p l e ({ frames := 5, cells := 1, slots := 24, locals := 113 } : Room) s m args below meth c H locs 1 24 (MQ below (gQA D k qx r 1 S1 T1 ws0 s.heap.size) args s 1 24 (va_A ws0 s.heap.size)) (F0 m 619 ls []) := by
  intro n
  induction n with
  | zero => intro S T A x10 hf; rw [fL_act_619] at hf; cases hf
  | succ n ih =>
    intro S T A x10 hf qa H locs ls hw hl
    rw [fL_act_619] at hf
    refine lv_iload C.1 C.2.1 dL_act_619 (lv_at hl 4 rfl) ?_
    refine lv_aload_n C.1 C.2.1 dL_act_621 rfl (lv_at hl 1 rfl) ?_
    refine l_get C E hw 1 (by decide) kf_L_42 rfl dL_act_622 ?_
    refine lv_icmp_ge (tgt := 646) C.1 C.2.1 dL_act_625 (by decide) (fun hc => ?_) (fun hc => ?_)
    · have hf := ift hc hf
      refine lv_aload_n C.1 C.2.1 dL_act_646 rfl (lv_at hl 1 rfl) ?_
      refine lv_dup C.1 C.2.1 dL_act_647 rfl ?_
      refine l_get C E hw 3 (by decide) kf_L_55 rfl dL_act_648 ?_
      refine lv_iload C.1 C.2.1 dL_act_651 (lv_at hl 2 rfl) ?_
      refine lv_iadd C.1 C.2.1 dL_act_653 ?_
      obtain ⟨T_88, hT_88, hf⟩ := bnd hf
      refine l_put C E hw 3 (by decide) kf_L_55 (fun q => absurd q (by decide)) hT_88 dL_act_654 (fun H locs hw => ?_)
      refine lv_aload_n C.1 C.2.1 dL_act_657 rfl (lv_at hl 0 rfl) ?_
      refine lv_iload C.1 C.2.1 dL_act_658 (lv_at hl 2 rfl) ?_
      obtain ⟨⟨v_89, S_90⟩, hu_91, hf⟩ := bnd hf
      have hf := pr_r hf
      refine l_xi (rm := ({ frames := 3, cells := 0, slots := 0, locals := 67 } : Room)) (As := [.int x8]) (rest := []) C E hw F_X3_passNights rfl (fun _ => ctX3_passNights l (cI := k 0) (D := D) (q := qx) S x8 _ hu_91) km_L_76 rfl hl.1 rfl (Nat.le_of_ble_eq_true rfl) ⟨(Nat.le_of_ble_eq_true rfl), (Nat.le_of_ble_eq_true rfl)⟩ ⟨(Nat.le_of_ble_eq_true rfl), (Nat.le_of_ble_eq_true rfl)⟩ dL_act_660 (fun H locs hw => ?_)
      refine lv_aload_n C.1 C.2.1 dL_act_663 rfl (lv_at hl 1 rfl) ?_
      refine lv_iconst (v := 0) C.1 C.2.1 dL_act_664 (by decide) ?_
      obtain ⟨v_92, hv_92, hf⟩ := bnd hf
      refine l_si (rm := ({ frames := 1, cells := 0, slots := 0, locals := 23 } : Room)) (As := [.int 0]) (rest := [.int v_89]) C E hw F_X4_faded rfl (fun tf tq nt _ => ctX4_faded l (k := k) (D := D) (r := r) (tf := tf) (tq := tq) (nt := nt) T_88 0 _ hv_92) km_L_79 rfl hl.1 rfl (Nat.le_of_ble_eq_true rfl) ⟨(Nat.le_of_ble_eq_true rfl), (Nat.le_of_ble_eq_true rfl)⟩ ⟨(Nat.le_of_ble_eq_true rfl), (Nat.le_of_ble_eq_true rfl)⟩ dL_act_665 (fun H locs hw => ?_)
      refine lv_icmp_ne (tgt := 675) C.1 C.2.1 dL_act_668 (by decide) (fun hc => ?_) (fun hc => ?_)
      · have hf := iff_ hc hf
        refine lv_iconst (v := 0) C.1 C.2.1 dL_act_675 (by decide) ?_
        cases hf
      · have hf := ift hc hf
        refine lv_iconst (v := 1) C.1 C.2.1 dL_act_671 (by decide) ?_
        refine lv_goto (tgt := 676) C.1 C.2.1 dL_act_672 (by decide) ?_
        obtain ⟨e1, e2⟩ := Prod.mk.inj (Option.some.inj hf)
        subst e1
        subst e2
        exact l_aret C hw (Nat.le_of_ble_eq_true rfl) (Nat.le_of_ble_eq_true rfl) (Or.inr rfl) rfl dL_act_676
    · have hf := iff_ hc hf
      refine lv_aload_n C.1 C.2.1 dL_act_628 rfl (lv_at hl 1 rfl) ?_
      refine l_get C E hw 6 (by decide) kf_L_49 rfl dL_act_629 ?_
      refine lv_iload C.1 C.2.1 dL_act_632 (lv_at hl 4 rfl) ?_
      refine lv_aload C.1 C.2.1 dL_act_634 (lv_at hl 3 rfl) ?_
      refine lv_iload C.1 C.2.1 dL_act_636 (lv_at hl 4 rfl) ?_
      obtain ⟨v_93, hv_93, hf⟩ := bnd hf
      refine l_xld C E hw (ldA_some hv_93) dL_act_638 ?_
      obtain ⟨T_94, hT_94, hf⟩ := bnd hf
      refine l_ast C E hw 3 (by decide) (by decide) (fun _ _ _ => rfl) hT_94 dL_act_639 (fun H locs hw => ?_)
      obtain ⟨x10_95, hx10_95, hf⟩ := bnd hf
      refine lv_iinc (v := x10_95) (lv' := [(10, .int x10_95), (0, .ref (qx 0)), (1, .ref (r 0)), (8, .int x8), (9, .ref (qa))]) C.1 C.2.1 dL_act_640 hl (k := 4) rfl (inc1 hx10_95) (by decide) rfl (fun ls hl => ?_)
      refine lv_goto (tgt := 619) C.1 C.2.1 dL_act_643 (by decide) ?_
      exact ih S T_94 A x10_95 hf _ _ _ _ hw (lv_sub hl [1, 2, 3, 4, 0] rfl)
def fL_act_588 (x8 : Int32) : Nat → St → St → (Nat → Int32) → Int32 → Option (St × St)
  | 0, _, _, _, _ => none
  | n + 1, S, T, A, x10 =>
    if (T 35 0) ≤ x10 then
      fL_act_619 x8 100 S T A 0
    else
      Option.bind (fX4_later T x10 x8) fun v_80 =>
      Option.bind (stA A 24 x10 v_80) fun A_81 =>
      Option.bind (some (x10 + 1)) fun x10_82 =>
      fL_act_588 x8 n S T A_81 x10_82
set_option maxHeartbeats 4000000 in
set_option maxRecDepth 100000 in
theorem wL_act_588 {p : Program} {l : Launch} {e : Env} {s : State} {m : MethodId} {args : Array Value} {below : List Frame} {meth : Method} {c : Code} {D : va_G} {k : Nat → ClassId} {qx r : Nat → Nat} {ws0 : va_W} (C : Ctx p s m args meth c cL_act 15 RL (some .boolean)) (E : gEL D k s) {S1 T1 : St} (x8 : Int32) : ∀ (n : Nat) (S : St) (T : St) (A : (Nat → Int32)) (x10 : Int32), fL_act_588 x8 n S T A x10 = some (S1, T1) → ∀ (qa : Nat) (H : Heap) (locs : List Loc) (ls : Array Slot), gS D ws0 k qx r S T [(qa, .inl (k 0, 24, .inl A))] s H locs → lv_has ls 15 [(0, .ref (qx 0)), (1, .ref (r 0)), (8, .int x8), (9, .ref (qa)), (10, .int x10)] → W p l e ({ frames := 5, cells := 1, slots := 24, locals := 113 } : Room) s m args below meth c H locs 1 24 (MQ below (gQA D k qx r 1 S1 T1 ws0 s.heap.size) args s 1 24 (va_A ws0 s.heap.size)) (F0 m 588 ls []) := by
  intro n
  induction n with
  | zero => intro S T A x10 hf; rw [fL_act_588] at hf; cases hf
  | succ n ih =>
    intro S T A x10 hf qa H locs ls hw hl
    rw [fL_act_588] at hf
    refine lv_iload C.1 C.2.1 dL_act_588 (lv_at hl 4 rfl) ?_
    refine lv_aload_n C.1 C.2.1 dL_act_590 rfl (lv_at hl 1 rfl) ?_
    refine l_get C E hw 1 (by decide) kf_L_42 rfl dL_act_591 ?_
    refine lv_icmp_ge (tgt := 616) C.1 C.2.1 dL_act_594 (by decide) (fun hc => ?_) (fun hc => ?_)
    · have hf := ift hc hf
      refine lv_iconst (v := 0) C.1 C.2.1 dL_act_616 (by decide) ?_
      refine lv_istore (lv' := [(10, .int 0), (0, .ref (qx 0)), (1, .ref (r 0)), (8, .int x8), (9, .ref (qa))]) C.1 C.2.1 dL_act_617 hl (by decide) rfl (fun ls hl => ?_)
      exact wL_act_619 C E x8 100 S T A 0 hf _ _ _ _ hw (lv_sub hl [1, 2, 3, 4, 0] rfl)
    · have hf := iff_ hc hf
      refine lv_aload C.1 C.2.1 dL_act_597 (lv_at hl 3 rfl) ?_
      refine lv_iload C.1 C.2.1 dL_act_599 (lv_at hl 4 rfl) ?_
      refine lv_aload_n C.1 C.2.1 dL_act_601 rfl (lv_at hl 1 rfl) ?_
      refine lv_iload C.1 C.2.1 dL_act_602 (lv_at hl 4 rfl) ?_
      refine lv_iload C.1 C.2.1 dL_act_604 (lv_at hl 2 rfl) ?_
      obtain ⟨v_80, hv_80, hf⟩ := bnd hf
      refine l_si (rm := ({ frames := 0, cells := 0, slots := 0, locals := 0 } : Room)) (As := [.int x10, .int x8]) (rest := [.int x10, .ref (qa)]) C E hw F_X4_later rfl (fun tf tq nt _ => ctX4_later l (k := k) (D := D) (r := r) (tf := tf) (tq := tq) (nt := nt) T x10 x8 _ hv_80) km_L_73 rfl hl.1 rfl (Nat.le_of_ble_eq_true rfl) ⟨(Nat.le_of_ble_eq_true rfl), (Nat.le_of_ble_eq_true rfl)⟩ ⟨(Nat.le_of_ble_eq_true rfl), (Nat.le_of_ble_eq_true rfl)⟩ dL_act_606 (fun H locs hw => ?_)
      obtain ⟨A_81, hA_81, hf⟩ := bnd hf
      refine l_xst C E hw (stA_some hA_81).1 dL_act_609 (fun H locs hw => ?_)
      rw [(stA_some hA_81).2] at hw
      obtain ⟨x10_82, hx10_82, hf⟩ := bnd hf
      refine lv_iinc (v := x10_82) (lv' := [(10, .int x10_82), (0, .ref (qx 0)), (1, .ref (r 0)), (8, .int x8), (9, .ref (qa))]) C.1 C.2.1 dL_act_610 hl (k := 4) rfl (inc1 hx10_82) (by decide) rfl (fun ls hl => ?_)
      refine lv_goto (tgt := 588) C.1 C.2.1 dL_act_613 (by decide) ?_
      exact ih S T A_81 x10_82 hf _ _ _ _ hw (lv_sub hl [1, 2, 3, 4, 0] rfl)
def fL_act_164 (x4 : Int32) (x5 : Int32) (k137 : St → St → Int32 → Int32 → Option (St × St)) (S : St) (T : St) (x7 : Int32) (t0 : Int32) (t1 : Int32) : Option (St × St) :=
  Option.bind (some ((t0 + t1))) fun x6_96 =>
  Option.bind (some (x7 + 1)) fun x7_97 =>
  k137 S T x6_96 x7_97
set_option maxHeartbeats 4000000 in
set_option maxRecDepth 100000 in
theorem wL_act_164 {p : Program} {l : Launch} {e : Env} {s : State} {m : MethodId} {args : Array Value} {below : List Frame} {meth : Method} {c : Code} {D : va_G} {k : Nat → ClassId} {qx r : Nat → Nat} {ws0 : va_W} (C : Ctx p s m args meth c cL_act 15 RL (some .boolean)) (E : gEL D k s) {S1 T1 : St} (x4 : Int32) (x5 : Int32) (k137 : St → St → Int32 → Int32 → Option (St × St)) (hk137 : ∀ (S : St) (T : St) (x6 : Int32) (x7 : Int32), k137 S T x6 x7 = some (S1, T1) → ∀ (H : Heap) (locs : List Loc) (ls : Array Slot), gS D ws0 k qx r S T [] s H locs → lv_has ls 15 [(0, .ref (qx 0)), (1, .ref (r 0)), (4, .int x4), (5, .int x5), (6, .int x6), (7, .int x7)] → W p l e ({ frames := 5, cells := 1, slots := 24, locals := 113 } : Room) s m args below meth c H locs 0 0 (MQ below (gQA D k qx r 1 S1 T1 ws0 s.heap.size) args s 1 24 (va_A ws0 s.heap.size)) (F0 m 137 ls [])) : ∀ (S : St) (T : St) (x7 : Int32) (t0 : Int32) (t1 : Int32), fL_act_164 x4 x5 k137 S T x7 t0 t1 = some (S1, T1) → ∀ (H : Heap) (locs : List Loc) (ls : Array Slot), gS D ws0 k qx r S T [] s H locs → lv_has ls 15 [(0, .ref (qx 0)), (1, .ref (r 0)), (4, .int x4), (5, .int x5), (7, .int x7)] → W p l e ({ frames := 5, cells := 1, slots := 24, locals := 113 } : Room) s m args below meth c H locs 0 0 (MQ below (gQA D k qx r 1 S1 T1 ws0 s.heap.size) args s 1 24 (va_A ws0 s.heap.size)) (F0 m 164 ls [.int t1, .int t0]) := by
  intro S T x7 t0 t1 hf H locs ls hw hl
  unfold fL_act_164 at hf
  refine lv_iadd C.1 C.2.1 dL_act_164 ?_
  obtain ⟨x6_96, hx6_96, hf⟩ := bnd hf
  refine topi_b hx6_96 ?_
  refine lv_istore (lv' := [(6, .int x6_96), (0, .ref (qx 0)), (1, .ref (r 0)), (4, .int x4), (5, .int x5), (7, .int x7)]) C.1 C.2.1 dL_act_165 hl (by decide) rfl (fun ls hl => ?_)
  obtain ⟨x7_97, hx7_97, hf⟩ := bnd hf
  refine lv_iinc (v := x7_97) (lv' := [(7, .int x7_97), (6, .int x6_96), (0, .ref (qx 0)), (1, .ref (r 0)), (4, .int x4), (5, .int x5)]) C.1 C.2.1 dL_act_167 hl (k := 5) rfl (inc1 hx7_97) (by decide) rfl (fun ls hl => ?_)
  refine lv_goto (tgt := 137) C.1 C.2.1 dL_act_170 (by decide) ?_
  exact hk137 S T x6_96 x7_97 hf _ _ _ hw (lv_sub hl [2, 3, 4, 5, 1, 0] rfl)
def fL_act_137 (x4 : Int32) (x5 : Int32) : Nat → St → St → Int32 → Int32 → Option (St × St)
  | 0, _, _, _, _ => none
  | n + 1, S, T, x6, x7 =>
    if (T 34 0) ≤ x7 then
      Option.bind (fX3_putUnder S x4 x5) fun u_85 => pr u_85 fun v_83 S_84 =>
      if v_83 = x6 then
        some (S_84, T)
      else
        none
    else
      Option.bind (fX4_isBelow T x4 x7) fun v_86 =>
      if v_86 = 0 then
        fL_act_164 x4 x5 (fL_act_137 x4 x5 n) S T x7 x6 0
      else
        fL_act_164 x4 x5 (fL_act_137 x4 x5 n) S T x7 x6 1
set_option maxHeartbeats 4000000 in
set_option maxRecDepth 100000 in
theorem wL_act_137 {p : Program} {l : Launch} {e : Env} {s : State} {m : MethodId} {args : Array Value} {below : List Frame} {meth : Method} {c : Code} {D : va_G} {k : Nat → ClassId} {qx r : Nat → Nat} {ws0 : va_W} (C : Ctx p s m args meth c cL_act 15 RL (some .boolean)) (E : gEL D k s) {S1 T1 : St} (x4 : Int32) (x5 : Int32) : ∀ (n : Nat) (S : St) (T : St) (x6 : Int32) (x7 : Int32), fL_act_137 x4 x5 n S T x6 x7 = some (S1, T1) → ∀ (H : Heap) (locs : List Loc) (ls : Array Slot), gS D ws0 k qx r S T [] s H locs → lv_has ls 15 [(0, .ref (qx 0)), (1, .ref (r 0)), (4, .int x4), (5, .int x5), (6, .int x6), (7, .int x7)] → W p l e ({ frames := 5, cells := 1, slots := 24, locals := 113 } : Room) s m args below meth c H locs 0 0 (MQ below (gQA D k qx r 1 S1 T1 ws0 s.heap.size) args s 1 24 (va_A ws0 s.heap.size)) (F0 m 137 ls []) := by
  intro n
  induction n with
  | zero => intro S T x6 x7 hf; rw [fL_act_137] at hf; cases hf
  | succ n ih =>
    intro S T x6 x7 hf H locs ls hw hl
    rw [fL_act_137] at hf
    refine lv_iload C.1 C.2.1 dL_act_137 (lv_at hl 5 rfl) ?_
    refine lv_aload_n C.1 C.2.1 dL_act_139 rfl (lv_at hl 1 rfl) ?_
    refine l_get C E hw 0 (by decide) kf_L_15 rfl dL_act_140 ?_
    refine lv_icmp_ge (tgt := 173) C.1 C.2.1 dL_act_143 (by decide) (fun hc => ?_) (fun hc => ?_)
    · have hf := ift hc hf
      refine lv_aload_n C.1 C.2.1 dL_act_173 rfl (lv_at hl 0 rfl) ?_
      refine lv_iload C.1 C.2.1 dL_act_174 (lv_at hl 2 rfl) ?_
      refine lv_iload C.1 C.2.1 dL_act_176 (lv_at hl 3 rfl) ?_
      obtain ⟨⟨v_83, S_84⟩, hu_85, hf⟩ := bnd hf
      have hf := pr_r hf
      refine l_xi (rm := ({ frames := 4, cells := 0, slots := 0, locals := 90 } : Room)) (As := [.int x4, .int x5]) (rest := []) C E hw F_X3_putUnder rfl (fun _ => ctX3_putUnder l (cI := k 0) (D := D) (q := qx) S x4 x5 _ hu_85) km_L_35 rfl hl.1 rfl (Nat.le_of_ble_eq_true rfl) ⟨(Nat.le_of_ble_eq_true rfl), (Nat.le_of_ble_eq_true rfl)⟩ ⟨(Nat.le_of_ble_eq_true rfl), (Nat.le_of_ble_eq_true rfl)⟩ dL_act_178 (fun H locs hw => ?_)
      refine lv_iload C.1 C.2.1 dL_act_181 (lv_at hl 4 rfl) ?_
      refine lv_icmp_ne (tgt := 190) C.1 C.2.1 dL_act_183 (by decide) (fun hc => ?_) (fun hc => ?_)
      · have hf := iff_ hc hf
        refine lv_iconst (v := 0) C.1 C.2.1 dL_act_190 (by decide) ?_
        cases hf
      · have hf := ift hc hf
        refine lv_iconst (v := 1) C.1 C.2.1 dL_act_186 (by decide) ?_
        refine lv_goto (tgt := 191) C.1 C.2.1 dL_act_187 (by decide) ?_
        obtain ⟨e1, e2⟩ := Prod.mk.inj (Option.some.inj hf)
        subst e1
        subst e2
        exact l_aret C hw (Nat.le_of_ble_eq_true rfl) (Nat.le_of_ble_eq_true rfl) (Or.inr rfl) rfl dL_act_191
    · have hf := iff_ hc hf
      refine lv_iload C.1 C.2.1 dL_act_146 (lv_at hl 4 rfl) ?_
      refine lv_aload_n C.1 C.2.1 dL_act_148 rfl (lv_at hl 1 rfl) ?_
      refine lv_iload C.1 C.2.1 dL_act_149 (lv_at hl 2 rfl) ?_
      refine lv_iload C.1 C.2.1 dL_act_151 (lv_at hl 5 rfl) ?_
      obtain ⟨v_86, hv_86, hf⟩ := bnd hf
      refine l_si (rm := ({ frames := 0, cells := 0, slots := 0, locals := 0 } : Room)) (As := [.int x4, .int x7]) (rest := [.int x6]) C E hw F_X4_isBelow rfl (fun tf tq nt _ => ctX4_isBelow l (k := k) (D := D) (r := r) (tf := tf) (tq := tq) (nt := nt) T x4 x7 _ hv_86) km_L_31 rfl hl.1 rfl (Nat.le_of_ble_eq_true rfl) ⟨(Nat.le_of_ble_eq_true rfl), (Nat.le_of_ble_eq_true rfl)⟩ ⟨(Nat.le_of_ble_eq_true rfl), (Nat.le_of_ble_eq_true rfl)⟩ dL_act_153 (fun H locs hw => ?_)
      refine lv_if_eq (tgt := 163) C.1 C.2.1 dL_act_156 (by decide) (fun hc => ?_) (fun hc => ?_)
      · have hf := ift hc hf
        refine lv_iconst (v := 0) C.1 C.2.1 dL_act_163 (by decide) ?_
        exact wL_act_164 C E x4 x5 (fL_act_137 x4 x5 n) ih S T x7 x6 0 hf _ _ _ hw (lv_sub hl [0, 1, 2, 3, 5] rfl)
      · have hf := iff_ hc hf
        refine lv_iconst (v := 1) C.1 C.2.1 dL_act_159 (by decide) ?_
        refine lv_goto (tgt := 164) C.1 C.2.1 dL_act_160 (by decide) ?_
        exact wL_act_164 C E x4 x5 (fL_act_137 x4 x5 n) ih S T x7 x6 1 hf _ _ _ hw (lv_sub hl [0, 1, 2, 3, 5] rfl)
def fL_act (S T : St) (x2 : Int32) : Option (St × St) :=
  Option.bind (fL_below (x2 >>> ((9 : Int32) &&& 31)) 24) fun v_1 =>
  if (T 34 0) = 0 then
    fL_act_22 S T
  else
    if 3 ≤ v_1 then
      Option.bind (fL_below (x2 >>> ((1 : Int32) &&& 31)) (T 34 0)) fun v_2 =>
      Option.bind (fL_below (x2 >>> ((3 : Int32) &&& 31)) (T 34 0)) fun v_3 =>
      if 6 ≤ v_1 then
        if v_1 = 6 then
          Option.bind (ld T 1 16 v_2) fun v_56 =>
          if 0 ≤ v_56 then
            Option.bind (ld T 1 16 v_2) fun v_57 =>
            Option.bind (sto T 1 16 v_2 (-1)) fun T_58 =>
            Option.bind (fX3_freeTag S v_2) fun u_61 => pr u_61 fun v_59 S_60 =>
            if v_59 = v_57 then
              some (S_60, T_58)
            else
              none
          else
            some (S, T)
        else
          if (T 35 0) = 0 then
            fL_act_257 S T x2 v_2
          else
            if 11 ≤ v_1 then
              Option.bind (fL_below (x2 >>> ((5 : Int32) &&& 31)) (T 35 0)) fun v_4 =>
              if v_1 < 11 then
                if (T 36 0) = 20 then
                  some (S, T)
                else
                  Option.bind (some ((T 36 0))) fun x11_5 =>
                  if x11_5 = 0 then
                    fL_act_742 S T x2 v_2 x11_5
                  else
                    if 20 ≤ v_1 then
                      Option.bind (fL_below (x2 >>> ((4 : Int32) &&& 31)) 3) fun v_6 =>
                      fL_act_755 S T x2 v_2 x11_5 (1 + v_6)
                    else
                      fL_act_742 S T x2 v_2 x11_5
              else
                if 17 < v_1 then
                  if (T 36 0) = 20 then
                    some (S, T)
                  else
                    Option.bind (some ((T 36 0))) fun x11_5 =>
                    if x11_5 = 0 then
                      fL_act_742 S T x2 v_2 x11_5
                    else
                      if 20 ≤ v_1 then
                        Option.bind (fL_below (x2 >>> ((4 : Int32) &&& 31)) 3) fun v_6 =>
                        fL_act_755 S T x2 v_2 x11_5 (1 + v_6)
                      else
                        fL_act_742 S T x2 v_2 x11_5
                else
                  if v_1 = 11 then
                    Option.bind (ix 24 v_4) fun j_7 =>
                    Option.bind (ldO T j_7 v_2) fun v_8 =>
                    if v_8 = 0 then
                      Option.bind (ix 24 v_4) fun j_9 =>
                      Option.bind (stoO T j_9 v_2 1) fun T_10 =>
                      Option.bind (fX3_tagDream S v_4 v_2) fun u_13 => pr u_13 fun v_11 S_12 =>
                      Option.bind (fX4_ownTags T_10 v_4) fun v_14 =>
                      if v_11 = v_14 then
                        some (S_12, T_10)
                      else
                        none
                    else
                      some (S, T)
                  else
                    if v_1 = 12 then
                      Option.bind (ix 24 v_4) fun j_15 =>
                      Option.bind (ldO T j_15 v_2) fun v_16 =>
                      if v_16 = 0 then
                        Option.bind (ix 24 v_4) fun j_17 =>
                        Option.bind (stoO T j_17 v_2 1) fun T_18 =>
                        Option.bind (fX3_tagDream S v_4 v_2) fun u_21 => pr u_21 fun v_19 S_20 =>
                        Option.bind (fX4_ownTags T_18 v_4) fun v_22 =>
                        if v_19 = v_22 then
                          some (S_20, T_18)
                        else
                          none
                      else
                        some (S, T)
                    else
                      if v_1 = 13 then
                        Option.bind (ix 24 v_4) fun j_23 =>
                        Option.bind (ldO T j_23 v_2) fun v_24 =>
                        if v_24 = 0 then
                          Option.bind (ix 24 v_4) fun j_25 =>
                          Option.bind (stoO T j_25 v_2 1) fun T_26 =>
                          Option.bind (fX3_tagDream S v_4 v_2) fun u_29 => pr u_29 fun v_27 S_28 =>
                          Option.bind (fX4_ownTags T_26 v_4) fun v_30 =>
                          if v_27 = v_30 then
                            some (S_28, T_26)
                          else
                            none
                        else
                          some (S, T)
                      else
                        if v_1 = 14 then
                          Option.bind (ix 24 v_4) fun j_31 =>
                          Option.bind (ldO T j_31 v_2) fun v_32 =>
                          if v_32 = 0 then
                            some (S, T)
                          else
                            Option.bind (fX4_ownTags T v_4) fun v_33 =>
                            if v_33 = 1 then
                              some (S, T)
                            else
                              Option.bind (ix 24 v_4) fun j_34 =>
                              Option.bind (stoO T j_34 v_2 0) fun T_35 =>
                              Option.bind (fX3_untagDream S v_4 v_2) fun u_38 => pr u_38 fun v_36 S_37 =>
                              Option.bind (fX4_ownTags T_35 v_4) fun v_39 =>
                              if v_36 = v_39 then
                                some (S_37, T_35)
                              else
                                none
                        else
                          if v_1 = 15 then
                            Option.bind (ld T 3 24 v_4) fun v_40 =>
                            Option.bind (fL_below (x2 >>> ((3 : Int32) &&& 31)) 10) fun v_41 =>
                            Option.bind (sto T 3 24 v_4 v_41) fun T_42 =>
                            Option.bind (ld T_42 3 24 v_4) fun v_43 =>
                            Option.bind (fX3_recall S v_4 v_43) fun u_46 => pr u_46 fun v_44 S_45 =>
                            if v_44 = v_40 then
                              some (S_45, T_42)
                            else
                              none
                          else
                            if v_1 = 16 then
                              Option.bind (fL_below (x2 >>> ((2 : Int32) &&& 31)) 3) fun v_47 =>
                              Option.bind (some ((1 + v_47))) fun x8_48 =>
                              Option.bind (some (fun (_ : Nat) => (0 : Int32))) fun A_49 =>
                              fL_act_588 x8_48 100 S T A_49 0
                            else
                              if v_1 = 17 then
                                Option.bind (fL_below x2 6) fun v_50 =>
                                if v_50 ≤ 0 then
                                  Option.bind (some ((T 36 0))) fun x10_51 =>
                                  Option.bind (some (up T 36 0 0)) fun T_52 =>
                                  Option.bind (fX3_clearTerms S) fun u_55 => pr u_55 fun v_53 S_54 =>
                                  if v_53 = x10_51 then
                                    some (S_54, T_52)
                                  else
                                    none
                                else
                                  some (S, T)
                              else
                                none
            else
              fL_act_257 S T x2 v_2
      else
        if v_2 = v_3 then
          some (S, T)
        else
          Option.bind (fX4_isBelow T v_3 v_2) fun v_62 =>
          if v_62 = 0 then
            Option.bind (sto T 1 16 v_2 v_3) fun T_63 =>
            fL_act_137 v_2 v_3 100 S T_63 0 0
          else
            some (S, T)
    else
      fL_act_22 S T
set_option maxHeartbeats 4000000 in
set_option maxRecDepth 100000 in
theorem ctL_act (l : Launch) {D : va_G} {k : Nat → ClassId} {qx r : Nat → Nat} (S T : St) (x2 : Int32) {S1 T1 : St} (hf : fL_act S T x2 = some (S1, T1)) : ∀ tf tq nt sz, gok tf tq nt (T 36 0) → Met l yL_act (Cond.code yL_act cL_act 15 (some .boolean) :: XALL) ({ frames := 5, cells := 1, slots := 24, locals := 113 } : Room) (va_Pc [.ref (qx 0), .ref (r 0), .int x2] (gPreL D k (LW k qx r tf tq nt S T []) sz)) (gQA D k qx r 1 S1 T1 (LW k qx r tf tq nt S T []) sz) 1 24 (va_A (LW k qx r tf tq nt S T []) sz) := by
  intro tf tq nt sz hg0
  unfold fL_act at hf
  refine Met.ofW (cc := cL_act) (maxL := 15) (ret := (some .boolean)) (by decide) rfl ?_
  intro p e s m args below meth c s₁ B hml hv
  obtain ⟨rfl, hgv⟩ := hv
  have C : Ctx p s m _ meth c cL_act 15 RL (some .boolean) := Ctx.of B hml rfl
  obtain ⟨E, hw, hsz⟩ := gL_start hgv
  subst hsz
  have hw : gS D (LW k qx r tf tq nt S T []) k qx r S T [] s s.heap [] := ⟨tf, tq, nt, hg0, hw⟩
  have hl := lv_entry ([.ref (qx 0), .ref (r 0), .int x2]) (n := 15) (Nat.le_of_ble_eq_true rfl)
  rw [lg_entry_eq]
  generalize (lg_sl ([.ref (qx 0), .ref (r 0), .int x2]) ++ List.replicate (15 - (lg_sl ([.ref (qx 0), .ref (r 0), .int x2])).length) Slot.unset).toArray = ls at hl ⊢
  have hl : lv_has ls 15 [(0, .ref (qx 0)), (1, .ref (r 0)), (2, .int x2)] := hl
  refine lv_iload_n C.1 C.2.1 dL_act_0 rfl (lv_at hl 2 rfl) ?_
  refine lv_bipush (v := 9) C.1 C.2.1 dL_act_1 (by decide) ?_
  refine lv_ishr C.1 C.2.1 dL_act_3 ?_
  refine lv_bipush (v := 24) C.1 C.2.1 dL_act_4 (by decide) ?_
  obtain ⟨v_1, hv_1, hf⟩ := bnd hf
  refine l_0i (rm := ({ frames := 0, cells := 0, slots := 0, locals := 0 } : Room)) (As := [.int (x2 >>> ((9 : Int32) &&& 31)), .int 24]) (rest := []) C hw F_L_below (ctL_below l (x2 >>> ((9 : Int32) &&& 31)) 24 hv_1) km_L_9 rfl hl.1 rfl (Nat.le_of_ble_eq_true rfl) ⟨(Nat.le_of_ble_eq_true rfl), (Nat.le_of_ble_eq_true rfl)⟩ ⟨(Nat.le_of_ble_eq_true rfl), (Nat.le_of_ble_eq_true rfl)⟩ dL_act_6 (fun H locs hw => ?_)
  refine lv_istore_n (lv' := [(3, .int v_1), (0, .ref (qx 0)), (1, .ref (r 0)), (2, .int x2)]) C.1 C.2.1 dL_act_9 rfl hl (by decide) rfl (fun ls hl => ?_)
  refine lv_aload_n C.1 C.2.1 dL_act_10 rfl (lv_at hl 2 rfl) ?_
  refine l_get C E hw 0 (by decide) kf_L_15 rfl dL_act_11 ?_
  refine lv_if_eq (tgt := 22) C.1 C.2.1 dL_act_14 (by decide) (fun hc => ?_) (fun hc => ?_)
  · have hf := ift hc hf
    exact wL_act_22 C E S T hf _ _ _ hw (lv_sub hl [1, 2] rfl)
  · have hf := iff_ hc hf
    refine lv_iload_n C.1 C.2.1 dL_act_17 rfl (lv_at hl 0 rfl) ?_
    refine lv_iconst (v := 3) C.1 C.2.1 dL_act_18 (by decide) ?_
    refine lv_icmp_ge (tgt := 72) C.1 C.2.1 dL_act_19 (by decide) (fun hc => ?_) (fun hc => ?_)
    · have hf := ift hc hf
      refine lv_iload_n C.1 C.2.1 dL_act_72 rfl (lv_at hl 3 rfl) ?_
      refine lv_iconst (v := 1) C.1 C.2.1 dL_act_73 (by decide) ?_
      refine lv_ishr C.1 C.2.1 dL_act_74 ?_
      refine lv_aload_n C.1 C.2.1 dL_act_75 rfl (lv_at hl 2 rfl) ?_
      refine l_get C E hw 0 (by decide) kf_L_15 rfl dL_act_76 ?_
      obtain ⟨v_2, hv_2, hf⟩ := bnd hf
      refine l_0i (rm := ({ frames := 0, cells := 0, slots := 0, locals := 0 } : Room)) (As := [.int (x2 >>> ((1 : Int32) &&& 31)), .int (T 34 0)]) (rest := []) C hw F_L_below (ctL_below l (x2 >>> ((1 : Int32) &&& 31)) (T 34 0) hv_2) km_L_9 rfl hl.1 rfl (Nat.le_of_ble_eq_true rfl) ⟨(Nat.le_of_ble_eq_true rfl), (Nat.le_of_ble_eq_true rfl)⟩ ⟨(Nat.le_of_ble_eq_true rfl), (Nat.le_of_ble_eq_true rfl)⟩ dL_act_79 (fun H locs hw => ?_)
      refine lv_istore (lv' := [(4, .int v_2), (3, .int v_1), (0, .ref (qx 0)), (1, .ref (r 0)), (2, .int x2)]) C.1 C.2.1 dL_act_82 hl (by decide) rfl (fun ls hl => ?_)
      refine lv_iload_n C.1 C.2.1 dL_act_84 rfl (lv_at hl 4 rfl) ?_
      refine lv_iconst (v := 3) C.1 C.2.1 dL_act_85 (by decide) ?_
      refine lv_ishr C.1 C.2.1 dL_act_86 ?_
      refine lv_aload_n C.1 C.2.1 dL_act_87 rfl (lv_at hl 3 rfl) ?_
      refine l_get C E hw 0 (by decide) kf_L_15 rfl dL_act_88 ?_
      obtain ⟨v_3, hv_3, hf⟩ := bnd hf
      refine l_0i (rm := ({ frames := 0, cells := 0, slots := 0, locals := 0 } : Room)) (As := [.int (x2 >>> ((3 : Int32) &&& 31)), .int (T 34 0)]) (rest := []) C hw F_L_below (ctL_below l (x2 >>> ((3 : Int32) &&& 31)) (T 34 0) hv_3) km_L_9 rfl hl.1 rfl (Nat.le_of_ble_eq_true rfl) ⟨(Nat.le_of_ble_eq_true rfl), (Nat.le_of_ble_eq_true rfl)⟩ ⟨(Nat.le_of_ble_eq_true rfl), (Nat.le_of_ble_eq_true rfl)⟩ dL_act_91 (fun H locs hw => ?_)
      refine lv_istore (lv' := [(5, .int v_3), (4, .int v_2), (3, .int v_1), (0, .ref (qx 0)), (1, .ref (r 0)), (2, .int x2)]) C.1 C.2.1 dL_act_94 hl (by decide) rfl (fun ls hl => ?_)
      refine lv_iload_n C.1 C.2.1 dL_act_96 rfl (lv_at hl 2 rfl) ?_
      refine lv_bipush (v := 6) C.1 C.2.1 dL_act_97 (by decide) ?_
      refine lv_icmp_ge (tgt := 192) C.1 C.2.1 dL_act_99 (by decide) (fun hc => ?_) (fun hc => ?_)
      · have hf := ift hc hf
        refine lv_iload_n C.1 C.2.1 dL_act_192 rfl (lv_at hl 2 rfl) ?_
        refine lv_bipush (v := 6) C.1 C.2.1 dL_act_193 (by decide) ?_
        refine lv_icmp_ne (tgt := 244) C.1 C.2.1 dL_act_195 (by decide) (fun hc => ?_) (fun hc => ?_)
        · have hf := iff_ hc hf
          refine lv_aload_n C.1 C.2.1 dL_act_244 rfl (lv_at hl 4 rfl) ?_
          refine l_get C E hw 1 (by decide) kf_L_42 rfl dL_act_245 ?_
          refine lv_if_eq (tgt := 257) C.1 C.2.1 dL_act_248 (by decide) (fun hc => ?_) (fun hc => ?_)
          · have hf := ift hc hf
            exact wL_act_257 C E S T x2 v_2 hf _ _ _ hw (lv_sub hl [3, 4, 5, 1] rfl)
          · have hf := iff_ hc hf
            refine lv_iload_n C.1 C.2.1 dL_act_251 rfl (lv_at hl 2 rfl) ?_
            refine lv_bipush (v := 11) C.1 C.2.1 dL_act_252 (by decide) ?_
            refine lv_icmp_ge (tgt := 355) C.1 C.2.1 dL_act_254 (by decide) (fun hc => ?_) (fun hc => ?_)
            · have hf := ift hc hf
              refine lv_iload_n C.1 C.2.1 dL_act_355 rfl (lv_at hl 5 rfl) ?_
              refine lv_iconst (v := 5) C.1 C.2.1 dL_act_356 (by decide) ?_
              refine lv_ishr C.1 C.2.1 dL_act_357 ?_
              refine lv_aload_n C.1 C.2.1 dL_act_358 rfl (lv_at hl 4 rfl) ?_
              refine l_get C E hw 1 (by decide) kf_L_42 rfl dL_act_359 ?_
              obtain ⟨v_4, hv_4, hf⟩ := bnd hf
              refine l_0i (rm := ({ frames := 0, cells := 0, slots := 0, locals := 0 } : Room)) (As := [.int (x2 >>> ((5 : Int32) &&& 31)), .int (T 35 0)]) (rest := []) C hw F_L_below (ctL_below l (x2 >>> ((5 : Int32) &&& 31)) (T 35 0) hv_4) km_L_9 rfl hl.1 rfl (Nat.le_of_ble_eq_true rfl) ⟨(Nat.le_of_ble_eq_true rfl), (Nat.le_of_ble_eq_true rfl)⟩ ⟨(Nat.le_of_ble_eq_true rfl), (Nat.le_of_ble_eq_true rfl)⟩ dL_act_362 (fun H locs hw => ?_)
              refine lv_istore (lv' := [(6, .int v_4), (5, .int v_3), (4, .int v_2), (3, .int v_1), (0, .ref (qx 0)), (1, .ref (r 0)), (2, .int x2)]) C.1 C.2.1 dL_act_365 hl (by decide) rfl (fun ls hl => ?_)
              refine lv_iload_n C.1 C.2.1 dL_act_367 rfl (lv_at hl 3 rfl) ?_
              by_cases hc : v_1 < 11
              · have hf := ift hc hf
                refine lv_tableOut (tgt := 714) C.1 C.2.1 dL_act_368 (Or.inl (Int32.lt_iff_toInt_lt.mp hc)) (by decide) ?_
                refine lv_aload_n C.1 C.2.1 dL_act_714 rfl (lv_at hl 5 rfl) ?_
                refine l_get C E hw 2 (by decide) kf_L_82 rfl dL_act_715 ?_
                refine lv_bipush (v := 20) C.1 C.2.1 dL_act_718 (by decide) ?_
                refine lv_icmp_ne (tgt := 725) C.1 C.2.1 dL_act_720 (by decide) (fun hc => ?_) (fun hc => ?_)
                · have hf := iff_ hc hf
                  refine lv_aload_n C.1 C.2.1 dL_act_725 rfl (lv_at hl 5 rfl) ?_
                  refine l_get C E hw 2 (by decide) kf_L_82 rfl dL_act_726 ?_
                  obtain ⟨x11_5, hx11_5, hf⟩ := bnd hf
                  refine topi_b hx11_5 ?_
                  refine lv_istore (lv' := [(11, .int x11_5), (6, .int v_4), (5, .int v_3), (4, .int v_2), (3, .int v_1), (0, .ref (qx 0)), (1, .ref (r 0)), (2, .int x2)]) C.1 C.2.1 dL_act_729 hl (by decide) rfl (fun ls hl => ?_)
                  refine lv_iload C.1 C.2.1 dL_act_731 (lv_at hl 0 rfl) ?_
                  refine lv_if_eq (tgt := 742) C.1 C.2.1 dL_act_733 (by decide) (fun hc => ?_) (fun hc => ?_)
                  · have hf := ift hc hf
                    exact wL_act_742 C E S T x2 v_2 x11_5 hf _ _ _ hw (lv_sub hl [5, 6, 7, 3, 0] rfl)
                  · have hf := iff_ hc hf
                    refine lv_iload_n C.1 C.2.1 dL_act_736 rfl (lv_at hl 4 rfl) ?_
                    refine lv_bipush (v := 20) C.1 C.2.1 dL_act_737 (by decide) ?_
                    refine lv_icmp_ge (tgt := 746) C.1 C.2.1 dL_act_739 (by decide) (fun hc => ?_) (fun hc => ?_)
                    · have hf := ift hc hf
                      refine lv_iconst (v := 1) C.1 C.2.1 dL_act_746 (by decide) ?_
                      refine lv_iload_n C.1 C.2.1 dL_act_747 rfl (lv_at hl 7 rfl) ?_
                      refine lv_iconst (v := 4) C.1 C.2.1 dL_act_748 (by decide) ?_
                      refine lv_ishr C.1 C.2.1 dL_act_749 ?_
                      refine lv_iconst (v := 3) C.1 C.2.1 dL_act_750 (by decide) ?_
                      obtain ⟨v_6, hv_6, hf⟩ := bnd hf
                      refine l_0i (rm := ({ frames := 0, cells := 0, slots := 0, locals := 0 } : Room)) (As := [.int (x2 >>> ((4 : Int32) &&& 31)), .int 3]) (rest := [.int 1]) C hw F_L_below (ctL_below l (x2 >>> ((4 : Int32) &&& 31)) 3 hv_6) km_L_9 rfl hl.1 rfl (Nat.le_of_ble_eq_true rfl) ⟨(Nat.le_of_ble_eq_true rfl), (Nat.le_of_ble_eq_true rfl)⟩ ⟨(Nat.le_of_ble_eq_true rfl), (Nat.le_of_ble_eq_true rfl)⟩ dL_act_751 (fun H locs hw => ?_)
                      refine lv_iadd C.1 C.2.1 dL_act_754 ?_
                      exact wL_act_755 C E S T x2 v_2 x11_5 (1 + v_6) hf _ _ _ hw (lv_sub hl [5, 6, 7, 3, 0] rfl)
                    · have hf := iff_ hc hf
                      exact wL_act_742 C E S T x2 v_2 x11_5 hf _ _ _ hw (lv_sub hl [5, 6, 7, 3, 0] rfl)
                · have hf := ift hc hf
                  refine lv_iconst (v := 1) C.1 C.2.1 dL_act_723 (by decide) ?_
                  obtain ⟨e1, e2⟩ := Prod.mk.inj (Option.some.inj hf)
                  subst e1
                  subst e2
                  exact l_aret C hw (Nat.le_of_ble_eq_true rfl) (Nat.le_of_ble_eq_true rfl) (Or.inr rfl) rfl dL_act_724
              · have hf := iff_ hc hf
                by_cases hc : 17 < v_1
                · have hf := ift hc hf
                  refine lv_tableOut (tgt := 714) C.1 C.2.1 dL_act_368 (Or.inr (Int32.lt_iff_toInt_lt.mp hc)) (by decide) ?_
                  refine lv_aload_n C.1 C.2.1 dL_act_714 rfl (lv_at hl 5 rfl) ?_
                  refine l_get C E hw 2 (by decide) kf_L_82 rfl dL_act_715 ?_
                  refine lv_bipush (v := 20) C.1 C.2.1 dL_act_718 (by decide) ?_
                  refine lv_icmp_ne (tgt := 725) C.1 C.2.1 dL_act_720 (by decide) (fun hc => ?_) (fun hc => ?_)
                  · have hf := iff_ hc hf
                    refine lv_aload_n C.1 C.2.1 dL_act_725 rfl (lv_at hl 5 rfl) ?_
                    refine l_get C E hw 2 (by decide) kf_L_82 rfl dL_act_726 ?_
                    obtain ⟨x11_5, hx11_5, hf⟩ := bnd hf
                    refine topi_b hx11_5 ?_
                    refine lv_istore (lv' := [(11, .int x11_5), (6, .int v_4), (5, .int v_3), (4, .int v_2), (3, .int v_1), (0, .ref (qx 0)), (1, .ref (r 0)), (2, .int x2)]) C.1 C.2.1 dL_act_729 hl (by decide) rfl (fun ls hl => ?_)
                    refine lv_iload C.1 C.2.1 dL_act_731 (lv_at hl 0 rfl) ?_
                    refine lv_if_eq (tgt := 742) C.1 C.2.1 dL_act_733 (by decide) (fun hc => ?_) (fun hc => ?_)
                    · have hf := ift hc hf
                      exact wL_act_742 C E S T x2 v_2 x11_5 hf _ _ _ hw (lv_sub hl [5, 6, 7, 3, 0] rfl)
                    · have hf := iff_ hc hf
                      refine lv_iload_n C.1 C.2.1 dL_act_736 rfl (lv_at hl 4 rfl) ?_
                      refine lv_bipush (v := 20) C.1 C.2.1 dL_act_737 (by decide) ?_
                      refine lv_icmp_ge (tgt := 746) C.1 C.2.1 dL_act_739 (by decide) (fun hc => ?_) (fun hc => ?_)
                      · have hf := ift hc hf
                        refine lv_iconst (v := 1) C.1 C.2.1 dL_act_746 (by decide) ?_
                        refine lv_iload_n C.1 C.2.1 dL_act_747 rfl (lv_at hl 7 rfl) ?_
                        refine lv_iconst (v := 4) C.1 C.2.1 dL_act_748 (by decide) ?_
                        refine lv_ishr C.1 C.2.1 dL_act_749 ?_
                        refine lv_iconst (v := 3) C.1 C.2.1 dL_act_750 (by decide) ?_
                        obtain ⟨v_6, hv_6, hf⟩ := bnd hf
                        refine l_0i (rm := ({ frames := 0, cells := 0, slots := 0, locals := 0 } : Room)) (As := [.int (x2 >>> ((4 : Int32) &&& 31)), .int 3]) (rest := [.int 1]) C hw F_L_below (ctL_below l (x2 >>> ((4 : Int32) &&& 31)) 3 hv_6) km_L_9 rfl hl.1 rfl (Nat.le_of_ble_eq_true rfl) ⟨(Nat.le_of_ble_eq_true rfl), (Nat.le_of_ble_eq_true rfl)⟩ ⟨(Nat.le_of_ble_eq_true rfl), (Nat.le_of_ble_eq_true rfl)⟩ dL_act_751 (fun H locs hw => ?_)
                        refine lv_iadd C.1 C.2.1 dL_act_754 ?_
                        exact wL_act_755 C E S T x2 v_2 x11_5 (1 + v_6) hf _ _ _ hw (lv_sub hl [5, 6, 7, 3, 0] rfl)
                      · have hf := iff_ hc hf
                        exact wL_act_742 C E S T x2 v_2 x11_5 hf _ _ _ hw (lv_sub hl [5, 6, 7, 3, 0] rfl)
                  · have hf := ift hc hf
                    refine lv_iconst (v := 1) C.1 C.2.1 dL_act_723 (by decide) ?_
                    obtain ⟨e1, e2⟩ := Prod.mk.inj (Option.some.inj hf)
                    subst e1
                    subst e2
                    exact l_aret C hw (Nat.le_of_ble_eq_true rfl) (Nat.le_of_ble_eq_true rfl) (Or.inr rfl) rfl dL_act_724
                · have hf := iff_ hc hf
                  by_cases hc : v_1 = 11
                  · have hf := ift hc hf
                    refine lv_tableIn (tgt := 412) (off := 44) C.1 C.2.1 dL_act_368 (by rw [hc]; decide) (by rw [hc]; decide) (by rw [hc]; rfl) (by decide) ?_
                    refine lv_aload_n C.1 C.2.1 dL_act_412 rfl (lv_at hl 5 rfl) ?_
                    refine l_get C E hw 5 (by decide) kf_L_45 rfl dL_act_413 ?_
                    refine lv_iload C.1 C.2.1 dL_act_416 (lv_at hl 0 rfl) ?_
                    obtain ⟨j_7, hj_7, hf⟩ := bnd hf
                    refine l_aaO C E hw hj_7 dL_act_418 ?_
                    refine lv_iload C.1 C.2.1 dL_act_419 (lv_at hl 2 rfl) ?_
                    obtain ⟨v_8, hv_8, hf⟩ := bnd hf
                    refine l_zald C E hw hv_8 dL_act_421 ?_
                    refine lv_if_eq (tgt := 427) C.1 C.2.1 dL_act_422 (by decide) (fun hc => ?_) (fun hc => ?_)
                    · have hf := ift hc hf
                      refine lv_aload_n C.1 C.2.1 dL_act_427 rfl (lv_at hl 5 rfl) ?_
                      refine l_get C E hw 5 (by decide) kf_L_45 rfl dL_act_428 ?_
                      refine lv_iload C.1 C.2.1 dL_act_431 (lv_at hl 0 rfl) ?_
                      obtain ⟨j_9, hj_9, hf⟩ := bnd hf
                      refine l_aaO C E hw hj_9 dL_act_433 ?_
                      refine lv_iload C.1 C.2.1 dL_act_434 (lv_at hl 2 rfl) ?_
                      refine lv_iconst (v := 1) C.1 C.2.1 dL_act_436 (by decide) ?_
                      obtain ⟨T_10, hT_10, hf⟩ := bnd hf
                      refine l_zast C E hw (by decide) hT_10 dL_act_437 (fun H locs hw => ?_)
                      refine lv_aload_n C.1 C.2.1 dL_act_438 rfl (lv_at hl 4 rfl) ?_
                      refine lv_iload C.1 C.2.1 dL_act_439 (lv_at hl 0 rfl) ?_
                      refine lv_iload C.1 C.2.1 dL_act_441 (lv_at hl 2 rfl) ?_
                      obtain ⟨⟨v_11, S_12⟩, hu_13, hf⟩ := bnd hf
                      have hf := pr_r hf
                      refine l_xi (rm := ({ frames := 4, cells := 0, slots := 0, locals := 89 } : Room)) (As := [.int v_4, .int v_2]) (rest := []) C E hw F_X3_tagDream rfl (fun _ => ctX3_tagDream l (cI := k 0) (D := D) (q := qx) S v_4 v_2 _ hu_13) km_L_61 rfl hl.1 rfl (Nat.le_of_ble_eq_true rfl) ⟨(Nat.le_of_ble_eq_true rfl), (Nat.le_of_ble_eq_true rfl)⟩ ⟨(Nat.le_of_ble_eq_true rfl), (Nat.le_of_ble_eq_true rfl)⟩ dL_act_443 (fun H locs hw => ?_)
                      refine lv_aload_n C.1 C.2.1 dL_act_446 rfl (lv_at hl 5 rfl) ?_
                      refine lv_iload C.1 C.2.1 dL_act_447 (lv_at hl 0 rfl) ?_
                      obtain ⟨v_14, hv_14, hf⟩ := bnd hf
                      refine l_si (rm := ({ frames := 0, cells := 0, slots := 0, locals := 0 } : Room)) (As := [.int v_4]) (rest := [.int v_11]) C E hw F_X4_ownTags rfl (fun tf tq nt _ => ctX4_ownTags l (k := k) (D := D) (r := r) (tf := tf) (tq := tq) (nt := nt) T_10 v_4 _ hv_14) km_L_64 rfl hl.1 rfl (Nat.le_of_ble_eq_true rfl) ⟨(Nat.le_of_ble_eq_true rfl), (Nat.le_of_ble_eq_true rfl)⟩ ⟨(Nat.le_of_ble_eq_true rfl), (Nat.le_of_ble_eq_true rfl)⟩ dL_act_449 (fun H locs hw => ?_)
                      refine lv_icmp_ne (tgt := 459) C.1 C.2.1 dL_act_452 (by decide) (fun hc => ?_) (fun hc => ?_)
                      · have hf := iff_ hc hf
                        refine lv_iconst (v := 0) C.1 C.2.1 dL_act_459 (by decide) ?_
                        cases hf
                      · have hf := ift hc hf
                        refine lv_iconst (v := 1) C.1 C.2.1 dL_act_455 (by decide) ?_
                        refine lv_goto (tgt := 460) C.1 C.2.1 dL_act_456 (by decide) ?_
                        obtain ⟨e1, e2⟩ := Prod.mk.inj (Option.some.inj hf)
                        subst e1
                        subst e2
                        exact l_aret C hw (Nat.le_of_ble_eq_true rfl) (Nat.le_of_ble_eq_true rfl) (Or.inr rfl) rfl dL_act_460
                    · have hf := iff_ hc hf
                      refine lv_iconst (v := 1) C.1 C.2.1 dL_act_425 (by decide) ?_
                      obtain ⟨e1, e2⟩ := Prod.mk.inj (Option.some.inj hf)
                      subst e1
                      subst e2
                      exact l_aret C hw (Nat.le_of_ble_eq_true rfl) (Nat.le_of_ble_eq_true rfl) (Or.inr rfl) rfl dL_act_426
                  · have hf := iff_ hc hf
                    by_cases hc : v_1 = 12
                    · have hf := ift hc hf
                      refine lv_tableIn (tgt := 412) (off := 44) C.1 C.2.1 dL_act_368 (by rw [hc]; decide) (by rw [hc]; decide) (by rw [hc]; rfl) (by decide) ?_
                      refine lv_aload_n C.1 C.2.1 dL_act_412 rfl (lv_at hl 5 rfl) ?_
                      refine l_get C E hw 5 (by decide) kf_L_45 rfl dL_act_413 ?_
                      refine lv_iload C.1 C.2.1 dL_act_416 (lv_at hl 0 rfl) ?_
                      obtain ⟨j_15, hj_15, hf⟩ := bnd hf
                      refine l_aaO C E hw hj_15 dL_act_418 ?_
                      refine lv_iload C.1 C.2.1 dL_act_419 (lv_at hl 2 rfl) ?_
                      obtain ⟨v_16, hv_16, hf⟩ := bnd hf
                      refine l_zald C E hw hv_16 dL_act_421 ?_
                      refine lv_if_eq (tgt := 427) C.1 C.2.1 dL_act_422 (by decide) (fun hc => ?_) (fun hc => ?_)
                      · have hf := ift hc hf
                        refine lv_aload_n C.1 C.2.1 dL_act_427 rfl (lv_at hl 5 rfl) ?_
                        refine l_get C E hw 5 (by decide) kf_L_45 rfl dL_act_428 ?_
                        refine lv_iload C.1 C.2.1 dL_act_431 (lv_at hl 0 rfl) ?_
                        obtain ⟨j_17, hj_17, hf⟩ := bnd hf
                        refine l_aaO C E hw hj_17 dL_act_433 ?_
                        refine lv_iload C.1 C.2.1 dL_act_434 (lv_at hl 2 rfl) ?_
                        refine lv_iconst (v := 1) C.1 C.2.1 dL_act_436 (by decide) ?_
                        obtain ⟨T_18, hT_18, hf⟩ := bnd hf
                        refine l_zast C E hw (by decide) hT_18 dL_act_437 (fun H locs hw => ?_)
                        refine lv_aload_n C.1 C.2.1 dL_act_438 rfl (lv_at hl 4 rfl) ?_
                        refine lv_iload C.1 C.2.1 dL_act_439 (lv_at hl 0 rfl) ?_
                        refine lv_iload C.1 C.2.1 dL_act_441 (lv_at hl 2 rfl) ?_
                        obtain ⟨⟨v_19, S_20⟩, hu_21, hf⟩ := bnd hf
                        have hf := pr_r hf
                        refine l_xi (rm := ({ frames := 4, cells := 0, slots := 0, locals := 89 } : Room)) (As := [.int v_4, .int v_2]) (rest := []) C E hw F_X3_tagDream rfl (fun _ => ctX3_tagDream l (cI := k 0) (D := D) (q := qx) S v_4 v_2 _ hu_21) km_L_61 rfl hl.1 rfl (Nat.le_of_ble_eq_true rfl) ⟨(Nat.le_of_ble_eq_true rfl), (Nat.le_of_ble_eq_true rfl)⟩ ⟨(Nat.le_of_ble_eq_true rfl), (Nat.le_of_ble_eq_true rfl)⟩ dL_act_443 (fun H locs hw => ?_)
                        refine lv_aload_n C.1 C.2.1 dL_act_446 rfl (lv_at hl 5 rfl) ?_
                        refine lv_iload C.1 C.2.1 dL_act_447 (lv_at hl 0 rfl) ?_
                        obtain ⟨v_22, hv_22, hf⟩ := bnd hf
                        refine l_si (rm := ({ frames := 0, cells := 0, slots := 0, locals := 0 } : Room)) (As := [.int v_4]) (rest := [.int v_19]) C E hw F_X4_ownTags rfl (fun tf tq nt _ => ctX4_ownTags l (k := k) (D := D) (r := r) (tf := tf) (tq := tq) (nt := nt) T_18 v_4 _ hv_22) km_L_64 rfl hl.1 rfl (Nat.le_of_ble_eq_true rfl) ⟨(Nat.le_of_ble_eq_true rfl), (Nat.le_of_ble_eq_true rfl)⟩ ⟨(Nat.le_of_ble_eq_true rfl), (Nat.le_of_ble_eq_true rfl)⟩ dL_act_449 (fun H locs hw => ?_)
                        refine lv_icmp_ne (tgt := 459) C.1 C.2.1 dL_act_452 (by decide) (fun hc => ?_) (fun hc => ?_)
                        · have hf := iff_ hc hf
                          refine lv_iconst (v := 0) C.1 C.2.1 dL_act_459 (by decide) ?_
                          cases hf
                        · have hf := ift hc hf
                          refine lv_iconst (v := 1) C.1 C.2.1 dL_act_455 (by decide) ?_
                          refine lv_goto (tgt := 460) C.1 C.2.1 dL_act_456 (by decide) ?_
                          obtain ⟨e1, e2⟩ := Prod.mk.inj (Option.some.inj hf)
                          subst e1
                          subst e2
                          exact l_aret C hw (Nat.le_of_ble_eq_true rfl) (Nat.le_of_ble_eq_true rfl) (Or.inr rfl) rfl dL_act_460
                      · have hf := iff_ hc hf
                        refine lv_iconst (v := 1) C.1 C.2.1 dL_act_425 (by decide) ?_
                        obtain ⟨e1, e2⟩ := Prod.mk.inj (Option.some.inj hf)
                        subst e1
                        subst e2
                        exact l_aret C hw (Nat.le_of_ble_eq_true rfl) (Nat.le_of_ble_eq_true rfl) (Or.inr rfl) rfl dL_act_426
                    · have hf := iff_ hc hf
                      by_cases hc : v_1 = 13
                      · have hf := ift hc hf
                        refine lv_tableIn (tgt := 412) (off := 44) C.1 C.2.1 dL_act_368 (by rw [hc]; decide) (by rw [hc]; decide) (by rw [hc]; rfl) (by decide) ?_
                        refine lv_aload_n C.1 C.2.1 dL_act_412 rfl (lv_at hl 5 rfl) ?_
                        refine l_get C E hw 5 (by decide) kf_L_45 rfl dL_act_413 ?_
                        refine lv_iload C.1 C.2.1 dL_act_416 (lv_at hl 0 rfl) ?_
                        obtain ⟨j_23, hj_23, hf⟩ := bnd hf
                        refine l_aaO C E hw hj_23 dL_act_418 ?_
                        refine lv_iload C.1 C.2.1 dL_act_419 (lv_at hl 2 rfl) ?_
                        obtain ⟨v_24, hv_24, hf⟩ := bnd hf
                        refine l_zald C E hw hv_24 dL_act_421 ?_
                        refine lv_if_eq (tgt := 427) C.1 C.2.1 dL_act_422 (by decide) (fun hc => ?_) (fun hc => ?_)
                        · have hf := ift hc hf
                          refine lv_aload_n C.1 C.2.1 dL_act_427 rfl (lv_at hl 5 rfl) ?_
                          refine l_get C E hw 5 (by decide) kf_L_45 rfl dL_act_428 ?_
                          refine lv_iload C.1 C.2.1 dL_act_431 (lv_at hl 0 rfl) ?_
                          obtain ⟨j_25, hj_25, hf⟩ := bnd hf
                          refine l_aaO C E hw hj_25 dL_act_433 ?_
                          refine lv_iload C.1 C.2.1 dL_act_434 (lv_at hl 2 rfl) ?_
                          refine lv_iconst (v := 1) C.1 C.2.1 dL_act_436 (by decide) ?_
                          obtain ⟨T_26, hT_26, hf⟩ := bnd hf
                          refine l_zast C E hw (by decide) hT_26 dL_act_437 (fun H locs hw => ?_)
                          refine lv_aload_n C.1 C.2.1 dL_act_438 rfl (lv_at hl 4 rfl) ?_
                          refine lv_iload C.1 C.2.1 dL_act_439 (lv_at hl 0 rfl) ?_
                          refine lv_iload C.1 C.2.1 dL_act_441 (lv_at hl 2 rfl) ?_
                          obtain ⟨⟨v_27, S_28⟩, hu_29, hf⟩ := bnd hf
                          have hf := pr_r hf
                          refine l_xi (rm := ({ frames := 4, cells := 0, slots := 0, locals := 89 } : Room)) (As := [.int v_4, .int v_2]) (rest := []) C E hw F_X3_tagDream rfl (fun _ => ctX3_tagDream l (cI := k 0) (D := D) (q := qx) S v_4 v_2 _ hu_29) km_L_61 rfl hl.1 rfl (Nat.le_of_ble_eq_true rfl) ⟨(Nat.le_of_ble_eq_true rfl), (Nat.le_of_ble_eq_true rfl)⟩ ⟨(Nat.le_of_ble_eq_true rfl), (Nat.le_of_ble_eq_true rfl)⟩ dL_act_443 (fun H locs hw => ?_)
                          refine lv_aload_n C.1 C.2.1 dL_act_446 rfl (lv_at hl 5 rfl) ?_
                          refine lv_iload C.1 C.2.1 dL_act_447 (lv_at hl 0 rfl) ?_
                          obtain ⟨v_30, hv_30, hf⟩ := bnd hf
                          refine l_si (rm := ({ frames := 0, cells := 0, slots := 0, locals := 0 } : Room)) (As := [.int v_4]) (rest := [.int v_27]) C E hw F_X4_ownTags rfl (fun tf tq nt _ => ctX4_ownTags l (k := k) (D := D) (r := r) (tf := tf) (tq := tq) (nt := nt) T_26 v_4 _ hv_30) km_L_64 rfl hl.1 rfl (Nat.le_of_ble_eq_true rfl) ⟨(Nat.le_of_ble_eq_true rfl), (Nat.le_of_ble_eq_true rfl)⟩ ⟨(Nat.le_of_ble_eq_true rfl), (Nat.le_of_ble_eq_true rfl)⟩ dL_act_449 (fun H locs hw => ?_)
                          refine lv_icmp_ne (tgt := 459) C.1 C.2.1 dL_act_452 (by decide) (fun hc => ?_) (fun hc => ?_)
                          · have hf := iff_ hc hf
                            refine lv_iconst (v := 0) C.1 C.2.1 dL_act_459 (by decide) ?_
                            cases hf
                          · have hf := ift hc hf
                            refine lv_iconst (v := 1) C.1 C.2.1 dL_act_455 (by decide) ?_
                            refine lv_goto (tgt := 460) C.1 C.2.1 dL_act_456 (by decide) ?_
                            obtain ⟨e1, e2⟩ := Prod.mk.inj (Option.some.inj hf)
                            subst e1
                            subst e2
                            exact l_aret C hw (Nat.le_of_ble_eq_true rfl) (Nat.le_of_ble_eq_true rfl) (Or.inr rfl) rfl dL_act_460
                        · have hf := iff_ hc hf
                          refine lv_iconst (v := 1) C.1 C.2.1 dL_act_425 (by decide) ?_
                          obtain ⟨e1, e2⟩ := Prod.mk.inj (Option.some.inj hf)
                          subst e1
                          subst e2
                          exact l_aret C hw (Nat.le_of_ble_eq_true rfl) (Nat.le_of_ble_eq_true rfl) (Or.inr rfl) rfl dL_act_426
                      · have hf := iff_ hc hf
                        by_cases hc : v_1 = 14
                        · have hf := ift hc hf
                          refine lv_tableIn (tgt := 461) (off := 93) C.1 C.2.1 dL_act_368 (by rw [hc]; decide) (by rw [hc]; decide) (by rw [hc]; rfl) (by decide) ?_
                          refine lv_aload_n C.1 C.2.1 dL_act_461 rfl (lv_at hl 5 rfl) ?_
                          refine l_get C E hw 5 (by decide) kf_L_45 rfl dL_act_462 ?_
                          refine lv_iload C.1 C.2.1 dL_act_465 (lv_at hl 0 rfl) ?_
                          obtain ⟨j_31, hj_31, hf⟩ := bnd hf
                          refine l_aaO C E hw hj_31 dL_act_467 ?_
                          refine lv_iload C.1 C.2.1 dL_act_468 (lv_at hl 2 rfl) ?_
                          obtain ⟨v_32, hv_32, hf⟩ := bnd hf
                          refine l_zald C E hw hv_32 dL_act_470 ?_
                          refine lv_if_eq (tgt := 484) C.1 C.2.1 dL_act_471 (by decide) (fun hc => ?_) (fun hc => ?_)
                          · have hf := ift hc hf
                            refine lv_iconst (v := 1) C.1 C.2.1 dL_act_484 (by decide) ?_
                            obtain ⟨e1, e2⟩ := Prod.mk.inj (Option.some.inj hf)
                            subst e1
                            subst e2
                            exact l_aret C hw (Nat.le_of_ble_eq_true rfl) (Nat.le_of_ble_eq_true rfl) (Or.inr rfl) rfl dL_act_485
                          · have hf := iff_ hc hf
                            refine lv_aload_n C.1 C.2.1 dL_act_474 rfl (lv_at hl 5 rfl) ?_
                            refine lv_iload C.1 C.2.1 dL_act_475 (lv_at hl 0 rfl) ?_
                            obtain ⟨v_33, hv_33, hf⟩ := bnd hf
                            refine l_si (rm := ({ frames := 0, cells := 0, slots := 0, locals := 0 } : Room)) (As := [.int v_4]) (rest := []) C E hw F_X4_ownTags rfl (fun tf tq nt _ => ctX4_ownTags l (k := k) (D := D) (r := r) (tf := tf) (tq := tq) (nt := nt) T v_4 _ hv_33) km_L_64 rfl hl.1 rfl (Nat.le_of_ble_eq_true rfl) ⟨(Nat.le_of_ble_eq_true rfl), (Nat.le_of_ble_eq_true rfl)⟩ ⟨(Nat.le_of_ble_eq_true rfl), (Nat.le_of_ble_eq_true rfl)⟩ dL_act_477 (fun H locs hw => ?_)
                            refine lv_iconst (v := 1) C.1 C.2.1 dL_act_480 (by decide) ?_
                            refine lv_icmp_ne (tgt := 486) C.1 C.2.1 dL_act_481 (by decide) (fun hc => ?_) (fun hc => ?_)
                            · have hf := iff_ hc hf
                              refine lv_aload_n C.1 C.2.1 dL_act_486 rfl (lv_at hl 5 rfl) ?_
                              refine l_get C E hw 5 (by decide) kf_L_45 rfl dL_act_487 ?_
                              refine lv_iload C.1 C.2.1 dL_act_490 (lv_at hl 0 rfl) ?_
                              obtain ⟨j_34, hj_34, hf⟩ := bnd hf
                              refine l_aaO C E hw hj_34 dL_act_492 ?_
                              refine lv_iload C.1 C.2.1 dL_act_493 (lv_at hl 2 rfl) ?_
                              refine lv_iconst (v := 0) C.1 C.2.1 dL_act_495 (by decide) ?_
                              obtain ⟨T_35, hT_35, hf⟩ := bnd hf
                              refine l_zast C E hw (by decide) hT_35 dL_act_496 (fun H locs hw => ?_)
                              refine lv_aload_n C.1 C.2.1 dL_act_497 rfl (lv_at hl 4 rfl) ?_
                              refine lv_iload C.1 C.2.1 dL_act_498 (lv_at hl 0 rfl) ?_
                              refine lv_iload C.1 C.2.1 dL_act_500 (lv_at hl 2 rfl) ?_
                              obtain ⟨⟨v_36, S_37⟩, hu_38, hf⟩ := bnd hf
                              have hf := pr_r hf
                              refine l_xi (rm := ({ frames := 4, cells := 0, slots := 0, locals := 89 } : Room)) (As := [.int v_4, .int v_2]) (rest := []) C E hw F_X3_untagDream rfl (fun _ => ctX3_untagDream l (cI := k 0) (D := D) (q := qx) S v_4 v_2 _ hu_38) km_L_67 rfl hl.1 rfl (Nat.le_of_ble_eq_true rfl) ⟨(Nat.le_of_ble_eq_true rfl), (Nat.le_of_ble_eq_true rfl)⟩ ⟨(Nat.le_of_ble_eq_true rfl), (Nat.le_of_ble_eq_true rfl)⟩ dL_act_502 (fun H locs hw => ?_)
                              refine lv_aload_n C.1 C.2.1 dL_act_505 rfl (lv_at hl 5 rfl) ?_
                              refine lv_iload C.1 C.2.1 dL_act_506 (lv_at hl 0 rfl) ?_
                              obtain ⟨v_39, hv_39, hf⟩ := bnd hf
                              refine l_si (rm := ({ frames := 0, cells := 0, slots := 0, locals := 0 } : Room)) (As := [.int v_4]) (rest := [.int v_36]) C E hw F_X4_ownTags rfl (fun tf tq nt _ => ctX4_ownTags l (k := k) (D := D) (r := r) (tf := tf) (tq := tq) (nt := nt) T_35 v_4 _ hv_39) km_L_64 rfl hl.1 rfl (Nat.le_of_ble_eq_true rfl) ⟨(Nat.le_of_ble_eq_true rfl), (Nat.le_of_ble_eq_true rfl)⟩ ⟨(Nat.le_of_ble_eq_true rfl), (Nat.le_of_ble_eq_true rfl)⟩ dL_act_508 (fun H locs hw => ?_)
                              refine lv_icmp_ne (tgt := 518) C.1 C.2.1 dL_act_511 (by decide) (fun hc => ?_) (fun hc => ?_)
                              · have hf := iff_ hc hf
                                refine lv_iconst (v := 0) C.1 C.2.1 dL_act_518 (by decide) ?_
                                cases hf
                              · have hf := ift hc hf
                                refine lv_iconst (v := 1) C.1 C.2.1 dL_act_514 (by decide) ?_
                                refine lv_goto (tgt := 519) C.1 C.2.1 dL_act_515 (by decide) ?_
                                obtain ⟨e1, e2⟩ := Prod.mk.inj (Option.some.inj hf)
                                subst e1
                                subst e2
                                exact l_aret C hw (Nat.le_of_ble_eq_true rfl) (Nat.le_of_ble_eq_true rfl) (Or.inr rfl) rfl dL_act_519
                            · have hf := ift hc hf
                              refine lv_iconst (v := 1) C.1 C.2.1 dL_act_484 (by decide) ?_
                              obtain ⟨e1, e2⟩ := Prod.mk.inj (Option.some.inj hf)
                              subst e1
                              subst e2
                              exact l_aret C hw (Nat.le_of_ble_eq_true rfl) (Nat.le_of_ble_eq_true rfl) (Or.inr rfl) rfl dL_act_485
                        · have hf := iff_ hc hf
                          by_cases hc : v_1 = 15
                          · have hf := ift hc hf
                            refine lv_tableIn (tgt := 520) (off := 152) C.1 C.2.1 dL_act_368 (by rw [hc]; decide) (by rw [hc]; decide) (by rw [hc]; rfl) (by decide) ?_
                            refine lv_aload_n C.1 C.2.1 dL_act_520 rfl (lv_at hl 5 rfl) ?_
                            refine l_get C E hw 6 (by decide) kf_L_49 rfl dL_act_521 ?_
                            refine lv_iload C.1 C.2.1 dL_act_524 (lv_at hl 0 rfl) ?_
                            obtain ⟨v_40, hv_40, hf⟩ := bnd hf
                            refine l_ald C E hw 3 (by decide) (fun _ _ => rfl) hv_40 dL_act_526 ?_
                            refine lv_istore (lv' := [(7, .int v_40), (6, .int v_4), (5, .int v_3), (4, .int v_2), (3, .int v_1), (0, .ref (qx 0)), (1, .ref (r 0)), (2, .int x2)]) C.1 C.2.1 dL_act_527 hl (by decide) rfl (fun ls hl => ?_)
                            refine lv_aload_n C.1 C.2.1 dL_act_529 rfl (lv_at hl 6 rfl) ?_
                            refine l_get C E hw 6 (by decide) kf_L_49 rfl dL_act_530 ?_
                            refine lv_iload C.1 C.2.1 dL_act_533 (lv_at hl 1 rfl) ?_
                            refine lv_iload_n C.1 C.2.1 dL_act_535 rfl (lv_at hl 7 rfl) ?_
                            refine lv_iconst (v := 3) C.1 C.2.1 dL_act_536 (by decide) ?_
                            refine lv_ishr C.1 C.2.1 dL_act_537 ?_
                            refine lv_bipush (v := 10) C.1 C.2.1 dL_act_538 (by decide) ?_
                            obtain ⟨v_41, hv_41, hf⟩ := bnd hf
                            refine l_0i (rm := ({ frames := 0, cells := 0, slots := 0, locals := 0 } : Room)) (As := [.int (x2 >>> ((3 : Int32) &&& 31)), .int 10]) (rest := [.int v_4, .ref (r 3)]) C hw F_L_below (ctL_below l (x2 >>> ((3 : Int32) &&& 31)) 10 hv_41) km_L_9 rfl hl.1 rfl (Nat.le_of_ble_eq_true rfl) ⟨(Nat.le_of_ble_eq_true rfl), (Nat.le_of_ble_eq_true rfl)⟩ ⟨(Nat.le_of_ble_eq_true rfl), (Nat.le_of_ble_eq_true rfl)⟩ dL_act_540 (fun H locs hw => ?_)
                            obtain ⟨T_42, hT_42, hf⟩ := bnd hf
                            refine l_ast C E hw 3 (by decide) (by decide) (fun _ _ _ => rfl) hT_42 dL_act_543 (fun H locs hw => ?_)
                            refine lv_aload_n C.1 C.2.1 dL_act_544 rfl (lv_at hl 5 rfl) ?_
                            refine lv_iload C.1 C.2.1 dL_act_545 (lv_at hl 1 rfl) ?_
                            refine lv_aload_n C.1 C.2.1 dL_act_547 rfl (lv_at hl 6 rfl) ?_
                            refine l_get C E hw 6 (by decide) kf_L_49 rfl dL_act_548 ?_
                            refine lv_iload C.1 C.2.1 dL_act_551 (lv_at hl 1 rfl) ?_
                            obtain ⟨v_43, hv_43, hf⟩ := bnd hf
                            refine l_ald C E hw 3 (by decide) (fun _ _ => rfl) hv_43 dL_act_553 ?_
                            obtain ⟨⟨v_44, S_45⟩, hu_46, hf⟩ := bnd hf
                            have hf := pr_r hf
                            refine l_xi (rm := ({ frames := 1, cells := 0, slots := 0, locals := 21 } : Room)) (As := [.int v_4, .int v_43]) (rest := []) C E hw F_X3_recall rfl (fun _ => ctX3_recall l (cI := k 0) (D := D) (q := qx) S v_4 v_43 _ hu_46) km_L_70 rfl hl.1 rfl (Nat.le_of_ble_eq_true rfl) ⟨(Nat.le_of_ble_eq_true rfl), (Nat.le_of_ble_eq_true rfl)⟩ ⟨(Nat.le_of_ble_eq_true rfl), (Nat.le_of_ble_eq_true rfl)⟩ dL_act_554 (fun H locs hw => ?_)
                            refine lv_iload C.1 C.2.1 dL_act_557 (lv_at hl 0 rfl) ?_
                            refine lv_icmp_ne (tgt := 566) C.1 C.2.1 dL_act_559 (by decide) (fun hc => ?_) (fun hc => ?_)
                            · have hf := iff_ hc hf
                              refine lv_iconst (v := 0) C.1 C.2.1 dL_act_566 (by decide) ?_
                              cases hf
                            · have hf := ift hc hf
                              refine lv_iconst (v := 1) C.1 C.2.1 dL_act_562 (by decide) ?_
                              refine lv_goto (tgt := 567) C.1 C.2.1 dL_act_563 (by decide) ?_
                              obtain ⟨e1, e2⟩ := Prod.mk.inj (Option.some.inj hf)
                              subst e1
                              subst e2
                              exact l_aret C hw (Nat.le_of_ble_eq_true rfl) (Nat.le_of_ble_eq_true rfl) (Or.inr rfl) rfl dL_act_567
                          · have hf := iff_ hc hf
                            by_cases hc : v_1 = 16
                            · have hf := ift hc hf
                              refine lv_tableIn (tgt := 568) (off := 200) C.1 C.2.1 dL_act_368 (by rw [hc]; decide) (by rw [hc]; decide) (by rw [hc]; rfl) (by decide) ?_
                              refine lv_iconst (v := 1) C.1 C.2.1 dL_act_568 (by decide) ?_
                              refine lv_iload_n C.1 C.2.1 dL_act_569 rfl (lv_at hl 6 rfl) ?_
                              refine lv_iconst (v := 2) C.1 C.2.1 dL_act_570 (by decide) ?_
                              refine lv_ishr C.1 C.2.1 dL_act_571 ?_
                              refine lv_iconst (v := 3) C.1 C.2.1 dL_act_572 (by decide) ?_
                              obtain ⟨v_47, hv_47, hf⟩ := bnd hf
                              refine l_0i (rm := ({ frames := 0, cells := 0, slots := 0, locals := 0 } : Room)) (As := [.int (x2 >>> ((2 : Int32) &&& 31)), .int 3]) (rest := [.int 1]) C hw F_L_below (ctL_below l (x2 >>> ((2 : Int32) &&& 31)) 3 hv_47) km_L_9 rfl hl.1 rfl (Nat.le_of_ble_eq_true rfl) ⟨(Nat.le_of_ble_eq_true rfl), (Nat.le_of_ble_eq_true rfl)⟩ ⟨(Nat.le_of_ble_eq_true rfl), (Nat.le_of_ble_eq_true rfl)⟩ dL_act_573 (fun H locs hw => ?_)
                              refine lv_iadd C.1 C.2.1 dL_act_576 ?_
                              obtain ⟨x8_48, hx8_48, hf⟩ := bnd hf
                              refine topi_b hx8_48 ?_
                              refine lv_istore (lv' := [(8, .int x8_48), (6, .int v_4), (5, .int v_3), (4, .int v_2), (3, .int v_1), (0, .ref (qx 0)), (1, .ref (r 0)), (2, .int x2)]) C.1 C.2.1 dL_act_577 hl (by decide) rfl (fun ls hl => ?_)
                              refine lv_bipush (v := 24) C.1 C.2.1 dL_act_579 (by decide) ?_
                              obtain ⟨A_49, hA_49, hf⟩ := bnd hf
                              refine l_newa C E hw 24 (by decide) (by decide) (by decide) (Nat.le_of_ble_eq_true rfl) (Nat.le_of_ble_eq_true rfl) dL_act_581 (fun qa H locs hw => ?_)
                              rw [Option.some.inj hA_49] at hw
                              refine lv_astore (lv' := [(9, .ref (qa)), (8, .int x8_48), (6, .int v_4), (5, .int v_3), (4, .int v_2), (3, .int v_1), (0, .ref (qx 0)), (1, .ref (r 0)), (2, .int x2)]) C.1 C.2.1 dL_act_583 hl (by decide) rfl (fun ls hl => ?_)
                              refine lv_iconst (v := 0) C.1 C.2.1 dL_act_585 (by decide) ?_
                              refine lv_istore (lv' := [(10, .int 0), (9, .ref (qa)), (8, .int x8_48), (6, .int v_4), (5, .int v_3), (4, .int v_2), (3, .int v_1), (0, .ref (qx 0)), (1, .ref (r 0)), (2, .int x2)]) C.1 C.2.1 dL_act_586 hl (by decide) rfl (fun ls hl => ?_)
                              exact wL_act_588 C E x8_48 100 S T A_49 0 hf _ _ _ _ hw (lv_sub hl [7, 8, 2, 1, 0] rfl)
                            · have hf := iff_ hc hf
                              by_cases hc : v_1 = 17
                              · have hf := ift hc hf
                                refine lv_tableIn (tgt := 677) (off := 309) C.1 C.2.1 dL_act_368 (by rw [hc]; decide) (by rw [hc]; decide) (by rw [hc]; rfl) (by decide) ?_
                                refine lv_iload_n C.1 C.2.1 dL_act_677 rfl (lv_at hl 6 rfl) ?_
                                refine lv_bipush (v := 6) C.1 C.2.1 dL_act_678 (by decide) ?_
                                obtain ⟨v_50, hv_50, hf⟩ := bnd hf
                                refine l_0i (rm := ({ frames := 0, cells := 0, slots := 0, locals := 0 } : Room)) (As := [.int x2, .int 6]) (rest := []) C hw F_L_below (ctL_below l x2 6 hv_50) km_L_9 rfl hl.1 rfl (Nat.le_of_ble_eq_true rfl) ⟨(Nat.le_of_ble_eq_true rfl), (Nat.le_of_ble_eq_true rfl)⟩ ⟨(Nat.le_of_ble_eq_true rfl), (Nat.le_of_ble_eq_true rfl)⟩ dL_act_680 (fun H locs hw => ?_)
                                refine lv_if_le (tgt := 688) C.1 C.2.1 dL_act_683 (by decide) (fun hc => ?_) (fun hc => ?_)
                                · have hf := ift hc hf
                                  refine lv_aload_n C.1 C.2.1 dL_act_688 rfl (lv_at hl 5 rfl) ?_
                                  refine l_get C E hw 2 (by decide) kf_L_82 rfl dL_act_689 ?_
                                  obtain ⟨x10_51, hx10_51, hf⟩ := bnd hf
                                  refine topi_b hx10_51 ?_
                                  refine lv_istore (lv' := [(10, .int x10_51), (6, .int v_4), (5, .int v_3), (4, .int v_2), (3, .int v_1), (0, .ref (qx 0)), (1, .ref (r 0)), (2, .int x2)]) C.1 C.2.1 dL_act_692 hl (by decide) rfl (fun ls hl => ?_)
                                  refine lv_aload_n C.1 C.2.1 dL_act_694 rfl (lv_at hl 6 rfl) ?_
                                  refine lv_iconst (v := 0) C.1 C.2.1 dL_act_695 (by decide) ?_
                                  obtain ⟨T_52, hT_52, hf⟩ := bnd hf
                                  refine l_put C E hw 2 (by decide) kf_L_82 (fun _ => rfl) hT_52 dL_act_696 (fun H locs hw => ?_)
                                  refine lv_aload_n C.1 C.2.1 dL_act_699 rfl (lv_at hl 5 rfl) ?_
                                  obtain ⟨⟨v_53, S_54⟩, hu_55, hf⟩ := bnd hf
                                  have hf := pr_r hf
                                  refine l_xi (rm := ({ frames := 0, cells := 0, slots := 0, locals := 0 } : Room)) (As := []) (rest := []) C E hw F_X3_clearTerms rfl (fun _ => ctX3_clearTerms l (cI := k 0) (D := D) (q := qx) S _ hu_55) km_L_85 rfl hl.1 rfl (Nat.le_of_ble_eq_true rfl) ⟨(Nat.le_of_ble_eq_true rfl), (Nat.le_of_ble_eq_true rfl)⟩ ⟨(Nat.le_of_ble_eq_true rfl), (Nat.le_of_ble_eq_true rfl)⟩ dL_act_700 (fun H locs hw => ?_)
                                  refine lv_iload C.1 C.2.1 dL_act_703 (lv_at hl 0 rfl) ?_
                                  refine lv_icmp_ne (tgt := 712) C.1 C.2.1 dL_act_705 (by decide) (fun hc => ?_) (fun hc => ?_)
                                  · have hf := iff_ hc hf
                                    refine lv_iconst (v := 0) C.1 C.2.1 dL_act_712 (by decide) ?_
                                    cases hf
                                  · have hf := ift hc hf
                                    refine lv_iconst (v := 1) C.1 C.2.1 dL_act_708 (by decide) ?_
                                    refine lv_goto (tgt := 713) C.1 C.2.1 dL_act_709 (by decide) ?_
                                    obtain ⟨e1, e2⟩ := Prod.mk.inj (Option.some.inj hf)
                                    subst e1
                                    subst e2
                                    exact l_aret C hw (Nat.le_of_ble_eq_true rfl) (Nat.le_of_ble_eq_true rfl) (Or.inr rfl) rfl dL_act_713
                                · have hf := iff_ hc hf
                                  refine lv_iconst (v := 1) C.1 C.2.1 dL_act_686 (by decide) ?_
                                  obtain ⟨e1, e2⟩ := Prod.mk.inj (Option.some.inj hf)
                                  subst e1
                                  subst e2
                                  exact l_aret C hw (Nat.le_of_ble_eq_true rfl) (Nat.le_of_ble_eq_true rfl) (Or.inr rfl) rfl dL_act_687
                              · have hf := iff_ hc hf
                                cases hf
            · have hf := iff_ hc hf
              exact wL_act_257 C E S T x2 v_2 hf _ _ _ hw (lv_sub hl [3, 4, 5, 1] rfl)
        · have hf := ift hc hf
          refine lv_aload_n C.1 C.2.1 dL_act_198 rfl (lv_at hl 4 rfl) ?_
          refine l_get C E hw 4 (by decide) kf_L_21 rfl dL_act_199 ?_
          refine lv_iload C.1 C.2.1 dL_act_202 (lv_at hl 1 rfl) ?_
          obtain ⟨v_56, hv_56, hf⟩ := bnd hf
          refine l_ald C E hw 1 (by decide) (fun _ _ => rfl) hv_56 dL_act_204 ?_
          refine lv_if_ge (tgt := 210) C.1 C.2.1 dL_act_205 (by decide) (fun hc => ?_) (fun hc => ?_)
          · have hf := ift hc hf
            refine lv_aload_n C.1 C.2.1 dL_act_210 rfl (lv_at hl 4 rfl) ?_
            refine l_get C E hw 4 (by decide) kf_L_21 rfl dL_act_211 ?_
            refine lv_iload C.1 C.2.1 dL_act_214 (lv_at hl 1 rfl) ?_
            obtain ⟨v_57, hv_57, hf⟩ := bnd hf
            refine l_ald C E hw 1 (by decide) (fun _ _ => rfl) hv_57 dL_act_216 ?_
            refine lv_istore (lv' := [(6, .int v_57), (5, .int v_3), (4, .int v_2), (3, .int v_1), (0, .ref (qx 0)), (1, .ref (r 0)), (2, .int x2)]) C.1 C.2.1 dL_act_217 hl (by decide) rfl (fun ls hl => ?_)
            refine lv_aload_n C.1 C.2.1 dL_act_219 rfl (lv_at hl 5 rfl) ?_
            refine l_get C E hw 4 (by decide) kf_L_21 rfl dL_act_220 ?_
            refine lv_iload C.1 C.2.1 dL_act_223 (lv_at hl 2 rfl) ?_
            refine lv_iconst (v := (-1)) C.1 C.2.1 dL_act_225 (by decide) ?_
            obtain ⟨T_58, hT_58, hf⟩ := bnd hf
            refine l_ast C E hw 1 (by decide) (by decide) (fun _ _ _ => rfl) hT_58 dL_act_226 (fun H locs hw => ?_)
            refine lv_aload_n C.1 C.2.1 dL_act_227 rfl (lv_at hl 4 rfl) ?_
            refine lv_iload C.1 C.2.1 dL_act_228 (lv_at hl 2 rfl) ?_
            obtain ⟨⟨v_59, S_60⟩, hu_61, hf⟩ := bnd hf
            have hf := pr_r hf
            refine l_xi (rm := ({ frames := 4, cells := 0, slots := 0, locals := 90 } : Room)) (As := [.int v_2]) (rest := []) C E hw F_X3_freeTag rfl (fun _ => ctX3_freeTag l (cI := k 0) (D := D) (q := qx) S v_2 _ hu_61) km_L_38 rfl hl.1 rfl (Nat.le_of_ble_eq_true rfl) ⟨(Nat.le_of_ble_eq_true rfl), (Nat.le_of_ble_eq_true rfl)⟩ ⟨(Nat.le_of_ble_eq_true rfl), (Nat.le_of_ble_eq_true rfl)⟩ dL_act_230 (fun H locs hw => ?_)
            refine lv_iload C.1 C.2.1 dL_act_233 (lv_at hl 0 rfl) ?_
            refine lv_icmp_ne (tgt := 242) C.1 C.2.1 dL_act_235 (by decide) (fun hc => ?_) (fun hc => ?_)
            · have hf := iff_ hc hf
              refine lv_iconst (v := 0) C.1 C.2.1 dL_act_242 (by decide) ?_
              cases hf
            · have hf := ift hc hf
              refine lv_iconst (v := 1) C.1 C.2.1 dL_act_238 (by decide) ?_
              refine lv_goto (tgt := 243) C.1 C.2.1 dL_act_239 (by decide) ?_
              obtain ⟨e1, e2⟩ := Prod.mk.inj (Option.some.inj hf)
              subst e1
              subst e2
              exact l_aret C hw (Nat.le_of_ble_eq_true rfl) (Nat.le_of_ble_eq_true rfl) (Or.inr rfl) rfl dL_act_243
          · have hf := iff_ hc hf
            refine lv_iconst (v := 1) C.1 C.2.1 dL_act_208 (by decide) ?_
            obtain ⟨e1, e2⟩ := Prod.mk.inj (Option.some.inj hf)
            subst e1
            subst e2
            exact l_aret C hw (Nat.le_of_ble_eq_true rfl) (Nat.le_of_ble_eq_true rfl) (Or.inr rfl) rfl dL_act_209
      · have hf := iff_ hc hf
        refine lv_iload C.1 C.2.1 dL_act_102 (lv_at hl 1 rfl) ?_
        refine lv_iload C.1 C.2.1 dL_act_104 (lv_at hl 0 rfl) ?_
        refine lv_icmp_eq (tgt := 120) C.1 C.2.1 dL_act_106 (by decide) (fun hc => ?_) (fun hc => ?_)
        · have hf := ift hc hf
          refine lv_iconst (v := 1) C.1 C.2.1 dL_act_120 (by decide) ?_
          obtain ⟨e1, e2⟩ := Prod.mk.inj (Option.some.inj hf)
          subst e1
          subst e2
          exact l_aret C hw (Nat.le_of_ble_eq_true rfl) (Nat.le_of_ble_eq_true rfl) (Or.inr rfl) rfl dL_act_121
        · have hf := iff_ hc hf
          refine lv_aload_n C.1 C.2.1 dL_act_109 rfl (lv_at hl 4 rfl) ?_
          refine lv_iload C.1 C.2.1 dL_act_110 (lv_at hl 0 rfl) ?_
          refine lv_iload C.1 C.2.1 dL_act_112 (lv_at hl 1 rfl) ?_
          obtain ⟨v_62, hv_62, hf⟩ := bnd hf
          refine l_si (rm := ({ frames := 0, cells := 0, slots := 0, locals := 0 } : Room)) (As := [.int v_3, .int v_2]) (rest := []) C E hw F_X4_isBelow rfl (fun tf tq nt _ => ctX4_isBelow l (k := k) (D := D) (r := r) (tf := tf) (tq := tq) (nt := nt) T v_3 v_2 _ hv_62) km_L_31 rfl hl.1 rfl (Nat.le_of_ble_eq_true rfl) ⟨(Nat.le_of_ble_eq_true rfl), (Nat.le_of_ble_eq_true rfl)⟩ ⟨(Nat.le_of_ble_eq_true rfl), (Nat.le_of_ble_eq_true rfl)⟩ dL_act_114 (fun H locs hw => ?_)
          refine lv_if_eq (tgt := 122) C.1 C.2.1 dL_act_117 (by decide) (fun hc => ?_) (fun hc => ?_)
          · have hf := ift hc hf
            refine lv_aload_n C.1 C.2.1 dL_act_122 rfl (lv_at hl 4 rfl) ?_
            refine l_get C E hw 4 (by decide) kf_L_21 rfl dL_act_123 ?_
            refine lv_iload C.1 C.2.1 dL_act_126 (lv_at hl 1 rfl) ?_
            refine lv_iload C.1 C.2.1 dL_act_128 (lv_at hl 0 rfl) ?_
            obtain ⟨T_63, hT_63, hf⟩ := bnd hf
            refine l_ast C E hw 1 (by decide) (by decide) (fun _ _ _ => rfl) hT_63 dL_act_130 (fun H locs hw => ?_)
            refine lv_iconst (v := 0) C.1 C.2.1 dL_act_131 (by decide) ?_
            refine lv_istore (lv' := [(6, .int 0), (5, .int v_3), (4, .int v_2), (3, .int v_1), (0, .ref (qx 0)), (1, .ref (r 0)), (2, .int x2)]) C.1 C.2.1 dL_act_132 hl (by decide) rfl (fun ls hl => ?_)
            refine lv_iconst (v := 0) C.1 C.2.1 dL_act_134 (by decide) ?_
            refine lv_istore (lv' := [(7, .int 0), (6, .int 0), (5, .int v_3), (4, .int v_2), (3, .int v_1), (0, .ref (qx 0)), (1, .ref (r 0)), (2, .int x2)]) C.1 C.2.1 dL_act_135 hl (by decide) rfl (fun ls hl => ?_)
            exact wL_act_137 C E v_2 v_3 100 S T_63 0 0 hf _ _ _ hw (lv_sub hl [5, 6, 3, 2, 1, 0] rfl)
          · have hf := iff_ hc hf
            refine lv_iconst (v := 1) C.1 C.2.1 dL_act_120 (by decide) ?_
            obtain ⟨e1, e2⟩ := Prod.mk.inj (Option.some.inj hf)
            subst e1
            subst e2
            exact l_aret C hw (Nat.le_of_ble_eq_true rfl) (Nat.le_of_ble_eq_true rfl) (Or.inr rfl) rfl dL_act_121
    · have hf := iff_ hc hf
      exact wL_act_22 C E S T hf _ _ _ hw (lv_sub hl [1, 2] rfl)
